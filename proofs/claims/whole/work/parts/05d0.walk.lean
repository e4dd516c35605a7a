/-! X5_in -/
abbrev rmX5_in : Room := { frames := 0, cells := 0, slots := 0, locals := 0 }
theorem msX5_in : bw_MS yX5_in cX5_in 6 (some .boolean) 3 := ⟨mw_718, mw_6, mw_719, by decide +kernel⟩
def fX5_in_18 (x0 : Int64) (x2 : Int64) (x4 : Int64)  (s0 : Int32)  : Option (Int32) :=
  bw_ck (bw_isb s0) (some s0)
theorem tX5_in_18 {p : Program} {l : Launch} {e : Env} {s : State} {m : MethodId} {args : Array Value} {below : List Frame} {meth : Method} {c : Code} {D : va_G} {kT : Nat → ClassId} {ρ : Nat → Nat} (C : bw_Cx p s m args meth c cX5_in 6 RX5 19 D kT ρ (some .boolean)) (x0 : Int64) (x2 : Int64) (x4 : Int64)   (s0 : Int32) (M : bw_M) (rr : Int32)  (h : fX5_in_18 x0 x2 x4 s0 = some rr) : bw_At p l e rmX5_in s m args below meth c (MQ below (bw_QI bw_shM 19 D kT ρ rr M) args s 0 0 (bw_A ρ 19)) bw_shM 19 D kT ρ 6 18 [(0, .long x0), (2, .long x2), (4, .long x4)] [.int s0] M := by
  unfold fX5_in_18 at h
  obtain ⟨q1, h⟩ := bw_ck_o h
  exact bw_iretz (pc := 18) C (nz_b q1) dX5_in_18 (bw_pr M h)
def fX5_in_17 (x0 : Int64) (x2 : Int64) (x4 : Int64)    : Option (Int32) :=
  fX5_in_18 x0 x2 x4 (0 : Int32)
theorem tX5_in_17 {p : Program} {l : Launch} {e : Env} {s : State} {m : MethodId} {args : Array Value} {below : List Frame} {meth : Method} {c : Code} {D : va_G} {kT : Nat → ClassId} {ρ : Nat → Nat} (C : bw_Cx p s m args meth c cX5_in 6 RX5 19 D kT ρ (some .boolean)) (x0 : Int64) (x2 : Int64) (x4 : Int64)    (M : bw_M) (rr : Int32)  (h : fX5_in_17 x0 x2 x4 = some rr) : bw_At p l e rmX5_in s m args below meth c (MQ below (bw_QI bw_shM 19 D kT ρ rr M) args s 0 0 (bw_A ρ 19)) bw_shM 19 D kT ρ 6 17 [(0, .long x0), (2, .long x2), (4, .long x4)] [] M := by
  unfold fX5_in_17 at h
  refine bw_iconst (pc := 17) (v := (0 : Int32)) C dX5_in_17 ic_0 ?_
  refine bw_pick [0, 1, 2] rfl ?_
  exact tX5_in_18 C x0 x2 x4 (0 : Int32) M rr h
def fX5_in (x0 : Int64) (x2 : Int64) (x4 : Int64)  : Option (Int32) :=
  if (lg_cmp x0 x2) < 0 then
  fX5_in_17 x0 x2 x4
  else
  if 0 < (lg_cmp x0 x4) then
  fX5_in_17 x0 x2 x4
  else
  fX5_in_18 x0 x2 x4 (1 : Int32)
theorem tX5_in (l : Launch) (x0 : Int64) (x2 : Int64) (x4 : Int64)  (M : bw_M) (rr : Int32) (h : fX5_in x0 x2 x4 = some rr) : bw_CI l bw_shM 19 yX5_in cX5_in 6 (some .boolean) rmX5_in (fun ρ => [.long x0, .long x2, .long x4]) M rr M := by
  refine bw_inI (Lf := fun ρ => [(0, .long x0), (2, .long x2), (4, .long x4)]) cX5_in 6 (some .boolean) RX5 pn_X5 rfl (fun ρ => Nat.le_of_ble_eq_true rfl) (fun ρ => rfl) ?_
  intro p e s m args below meth c D kT ρ C
  unfold fX5_in at h
  refine bw_lload_n (pc := 0) C 0 dX5_in_0 rfl rfl ?_
  refine bw_lload_n (pc := 1) C 1 dX5_in_1 rfl rfl ?_
  refine bw_lcmp (pc := 2) C dX5_in_2 ?_
  refine bw_if_lt (pc := 3) C 17 dX5_in_3 (by decide) h (fun h => ?_) (fun h => ?_)
  · refine bw_pick [0, 1, 2] rfl ?_
    exact tX5_in_17 C x0 x2 x4 M rr h
  · refine bw_lload_n (pc := 6) C 0 dX5_in_6 rfl rfl ?_
    refine bw_lload (pc := 7) C 2 dX5_in_7 rfl ?_
    refine bw_lcmp (pc := 9) C dX5_in_9 ?_
    refine bw_if_gt (pc := 10) C 17 dX5_in_10 (by decide) h (fun h => ?_) (fun h => ?_)
    · refine bw_pick [0, 1, 2] rfl ?_
      exact tX5_in_17 C x0 x2 x4 M rr h
    · refine bw_iconst (pc := 13) (v := (1 : Int32)) C dX5_in_13 ic_1 ?_
      refine bw_goto (pc := 14) C 18 dX5_in_14 (by decide) ?_
      refine bw_pick [0, 1, 2] rfl ?_
      exact tX5_in_18 C x0 x2 x4 (1 : Int32) M rr h
/-! X5_copies -/
abbrev rmX5_copies : Room := { frames := 0, cells := 0, slots := 0, locals := 0 }
theorem msX5_copies : bw_MS yX5_copies cX5_copies 6 none 5 := ⟨mw_838, mw_6, mw_839, by decide +kernel⟩
def fX5_copies_3 (N : Nat) (x0 : Nat) (n0 : Nat) (x1 : Int32) (x2 : Nat) (n2 : Nat) (x3 : Int32) (x4 : Int32) (k3 : Int32 × bw_M → Option (bw_M)) (x5 : Int32) (M : bw_M) : Option (bw_M) :=
  if x4 ≤ x5 then
  some M
  else
  bw_rd M x0 n0 (x1 + x5) fun v2 =>
  bw_wr M x2 n2 (x3 + x5) v2 fun M3 =>
  bw_mv (x5 + 1) fun v4 =>
  k3 (v4, M3)
theorem tX5_copies_3 {p : Program} {l : Launch} {e : Env} {s : State} {m : MethodId} {args : Array Value} {below : List Frame} {meth : Method} {c : Code} {D : va_G} {kT : Nat → ClassId} {ρ : Nat → Nat} (C : bw_Cx p s m args meth c cX5_copies 6 RX5 19 D kT ρ none) (N : Nat) (x0 : Nat) (n0 : Nat) (x1 : Int32) (x2 : Nat) (n2 : Nat) (x3 : Int32) (x4 : Int32) (g0 : x0 < 19) (i0 : bw_shM x0 = .inr (.inl (0, n0))) (g2 : x2 < 19) (i2 : bw_shM x2 = .inr (.inl (0, n2))) (k3 : Int32 × bw_M → Option (bw_M)) (x5 : Int32) (M : bw_M) (zz : bw_M) (hk3 : ∀ z0, k3 z0 = some zz → bw_At p l e rmX5_copies s m args below meth c (MQ below (bw_QV bw_shM 19 D kT ρ zz) args s 0 0 (bw_A ρ 19)) bw_shM 19 D kT ρ 6 3 [(0, .ref (ρ x0)), (1, .int x1), (2, .ref (ρ x2)), (3, .int x3), (4, .int x4), (5, .int z0.1)] [] z0.2) (h : fX5_copies_3 N x0 n0 x1 x2 n2 x3 x4 k3 x5 M = some zz) : bw_At p l e rmX5_copies s m args below meth c (MQ below (bw_QV bw_shM 19 D kT ρ zz) args s 0 0 (bw_A ρ 19)) bw_shM 19 D kT ρ 6 3 [(0, .ref (ρ x0)), (1, .int x1), (2, .ref (ρ x2)), (3, .int x3), (4, .int x4), (5, .int x5)] [] M := by
  unfold fX5_copies_3 at h
  refine bw_iload (pc := 3) C 5 dX5_copies_3 rfl ?_
  refine bw_iload (pc := 5) C 4 dX5_copies_5 rfl ?_
  refine bw_icmp_ge (pc := 7) C 28 dX5_copies_7 (by decide) h (fun h => ?_) (fun h => ?_)
  · exact bw_vreti (pc := 28) C dX5_copies_28 h
  · refine bw_aload_n (pc := 10) C 2 dX5_copies_10 rfl rfl ?_
    refine bw_iload_n (pc := 11) C 3 dX5_copies_11 rfl rfl ?_
    refine bw_iload (pc := 12) C 5 dX5_copies_12 rfl ?_
    refine bw_iadd (pc := 14) C dX5_copies_14 ?_
    refine bw_aload_n (pc := 15) C 0 dX5_copies_15 rfl rfl ?_
    refine bw_iload_n (pc := 16) C 1 dX5_copies_16 rfl rfl ?_
    refine bw_iload (pc := 17) C 5 dX5_copies_17 rfl ?_
    refine bw_iadd (pc := 19) C dX5_copies_19 ?_
    obtain ⟨qv2, v2, ev2, h⟩ := bw_rd_o h
    refine bw_iald (pc := 20) (q := x0) C g0 i0 qv2 ev2 dX5_copies_20 ?_
    obtain ⟨qM3, M3, eM3, h⟩ := bw_wr_o h
    refine bw_iast (pc := 21) (q := x2) C g2 i2 qM3 eM3 dX5_copies_21 ?_
    obtain ⟨v4, ev4, h⟩ := bw_mv_o h
    refine bw_iinc (pc := 22) (x := v4) (L' := [(5, .int v4), (0, .ref (ρ x0)), (1, .int x1), (2, .ref (ρ x2)), (3, .int x3), (4, .int x4)]) C 5 dX5_copies_22 rfl ev4.symm (by decide) rfl ?_
    refine bw_goto (pc := 25) C 3 dX5_copies_25 (by decide) ?_
    refine bw_pick [1, 2, 3, 4, 5, 0] rfl ?_
    exact hk3 (v4, M3) h
def flX5_copies_3 (N : Nat) (x0 : Nat) (n0 : Nat) (x1 : Int32) (x2 : Nat) (n2 : Nat) (x3 : Int32) (x4 : Int32)    (fu : Nat) (w : Int32 × bw_M) : Option (bw_M) := bw_lp (fun kk w => fX5_copies_3 N x0 n0 x1 x2 n2 x3 x4 kk w.1 w.2) fu w
theorem tlX5_copies_3 {p : Program} {l : Launch} {e : Env} {s : State} {m : MethodId} {args : Array Value} {below : List Frame} {meth : Method} {c : Code} {D : va_G} {kT : Nat → ClassId} {ρ : Nat → Nat} (C : bw_Cx p s m args meth c cX5_copies 6 RX5 19 D kT ρ none) (N : Nat) (x0 : Nat) (n0 : Nat) (x1 : Int32) (x2 : Nat) (n2 : Nat) (x3 : Int32) (x4 : Int32) (g0 : x0 < 19) (i0 : bw_shM x0 = .inr (.inl (0, n0))) (g2 : x2 < 19) (i2 : bw_shM x2 = .inr (.inl (0, n2)))    (zz : bw_M)  (fu : Nat) (w : Int32 × bw_M) (h : flX5_copies_3 N x0 n0 x1 x2 n2 x3 x4 fu w = some zz) : bw_At p l e rmX5_copies s m args below meth c (MQ below (bw_QV bw_shM 19 D kT ρ zz) args s 0 0 (bw_A ρ 19)) bw_shM 19 D kT ρ 6 3 [(0, .ref (ρ x0)), (1, .int x1), (2, .ref (ρ x2)), (3, .int x3), (4, .int x4), (5, .int w.1)] [] w.2 :=
  bw_loop (r := zz) (fun w => bw_At p l e rmX5_copies s m args below meth c (MQ below (bw_QV bw_shM 19 D kT ρ zz) args s 0 0 (bw_A ρ 19)) bw_shM 19 D kT ρ 6 3 [(0, .ref (ρ x0)), (1, .int x1), (2, .ref (ρ x2)), (3, .int x3), (4, .int x4), (5, .int w.1)] [] w.2) (fun kk hk w h => tX5_copies_3 C N x0 n0 x1 x2 n2 x3 x4 g0 i0 g2 i2 kk w.1 w.2 zz hk h) fu w h
def fX5_copies (N : Nat) (x0 : Nat) (n0 : Nat) (x1 : Int32) (x2 : Nat) (n2 : Nat) (x3 : Int32) (x4 : Int32) (M : bw_M) : Option (bw_M) :=
  bw_mv (0 : Int32) fun v1 =>
  flX5_copies_3 N x0 n0 x1 x2 n2 x3 x4 N (v1, M)
theorem tX5_copies (l : Launch) (N : Nat) (x0 : Nat) (n0 : Nat) (x1 : Int32) (x2 : Nat) (n2 : Nat) (x3 : Int32) (x4 : Int32) (g0 : x0 < 19) (i0 : bw_shM x0 = .inr (.inl (0, n0))) (g2 : x2 < 19) (i2 : bw_shM x2 = .inr (.inl (0, n2))) (M : bw_M) (zz : bw_M) (h : fX5_copies N x0 n0 x1 x2 n2 x3 x4 M = some zz) : bw_CV l bw_shM 19 yX5_copies cX5_copies 6 none rmX5_copies (fun ρ => [.ref (ρ x0), .int x1, .ref (ρ x2), .int x3, .int x4]) M zz := by
  refine bw_inV (Lf := fun ρ => [(0, .ref (ρ x0)), (1, .int x1), (2, .ref (ρ x2)), (3, .int x3), (4, .int x4)]) cX5_copies 6 none RX5 pn_X5 rfl (fun ρ => Nat.le_of_ble_eq_true rfl) (fun ρ => rfl) ?_
  intro p e s m args below meth c D kT ρ C
  unfold fX5_copies at h
  refine bw_iconst (pc := 0) (v := (0 : Int32)) C dX5_copies_0 ic_0 ?_
  obtain ⟨v1, ev1, h⟩ := bw_mv_o h
  refine bw_nmI ev1 ?_
  refine bw_istore (pc := 1) (L' := [(5, .int v1), (0, .ref (ρ x0)), (1, .int x1), (2, .ref (ρ x2)), (3, .int x3), (4, .int x4)]) C dX5_copies_1 (by decide) rfl ?_
  refine bw_pick [1, 2, 3, 4, 5, 0] rfl ?_
  exact tlX5_copies_3 C N x0 n0 x1 x2 n2 x3 x4 g0 i0 g2 i2 zz N (v1, M) h
/-! X5_layAside -/
abbrev rmX5_layAside : Room := { frames := 1, cells := 0, slots := 0, locals := 25 }
theorem msX5_layAside : bw_MV yX5_layAside cX5_layAside 1 none RX5 0 := ⟨mw_899, mw_1109, mw_6, mw_900, by decide +kernel⟩
def fX5_layAside (N : Nat)  (M : bw_M) : Option (bw_M) :=
  bw_cl (fX5_copies N 9 17 (0 : Int32) 10 17 (0 : Int32) (17 : Int32) M) fun M1 =>
  some M1
theorem tX5_layAside (l : Launch) (N : Nat)   (M : bw_M) (zz : bw_M) (h : fX5_layAside N M = some zz) : bw_CV l bw_shM 19 yX5_layAside cX5_layAside 1 none rmX5_layAside (fun ρ => [.ref (ρ 0)]) M zz := by
  refine bw_inV (Lf := fun ρ => [(0, .ref (ρ 0))]) cX5_layAside 1 none RX5 pn_X5 rfl (fun ρ => Nat.le_of_ble_eq_true rfl) (fun ρ => rfl) ?_
  intro p e s m args below meth c D kT ρ C
  unfold fX5_layAside at h
  refine bw_aload_n (pc := 0) C 0 dX5_layAside_0 rfl rfl ?_
  refine bw_getR (pc := 1) (q := 0) (k0 := 13) C ltM_0 shM_0 rfl inX5 mw_628 (by decide) rfl dX5_layAside_1 ?_
  refine bw_iconst (pc := 4) (v := (0 : Int32)) C dX5_layAside_4 ic_0 ?_
  refine bw_aload_n (pc := 5) C 0 dX5_layAside_5 rfl rfl ?_
  refine bw_getR (pc := 6) (q := 0) (k0 := 14) C ltM_0 shM_0 rfl inX5 mw_629 (by decide) rfl dX5_layAside_6 ?_
  refine bw_iconst (pc := 9) (v := (0 : Int32)) C dX5_layAside_9 ic_0 ?_
  refine bw_bipush (pc := 10) (v := (17 : Int32)) C dX5_layAside_10 bi_17 ?_
  obtain ⟨M1, eM1, h⟩ := bw_cl_o h
  refine bw_cSv (pc := 12) (As := [.ref (ρ 9), .int (0 : Int32), .ref (ρ 10), .int (0 : Int32), .int (17 : Int32)]) (rest := []) C (tX5_copies l N 9 17 (0 : Int32) 10 17 (0 : Int32) (17 : Int32) ltM_9 shM_9 ltM_10 shM_10 M M1 eM1) msX5_copies mw_837 rfl rfl ⟨Nat.le_of_ble_eq_true rfl, Nat.le_of_ble_eq_true rfl⟩ rfl rfl rfl (Nat.le_of_ble_eq_true rfl) dX5_layAside_12 ?_
  exact bw_vreti (pc := 15) C dX5_layAside_15 h
/-! X5_lesser -/
abbrev rmX5_lesser : Room := { frames := 0, cells := 0, slots := 0, locals := 0 }
theorem msX5_lesser : bw_MS yX5_lesser cX5_lesser 2 (some .int) 2 := ⟨mw_845, mw_6, mw_846, by decide +kernel⟩
def fX5_lesser_10 (x0 : Int32) (x1 : Int32)  (s0 : Int32)  : Option (Int32) :=
  some s0
theorem tX5_lesser_10 {p : Program} {l : Launch} {e : Env} {s : State} {m : MethodId} {args : Array Value} {below : List Frame} {meth : Method} {c : Code} {D : va_G} {kT : Nat → ClassId} {ρ : Nat → Nat} (C : bw_Cx p s m args meth c cX5_lesser 2 RX5 19 D kT ρ (some .int)) (x0 : Int32) (x1 : Int32)   (s0 : Int32) (M : bw_M) (rr : Int32)  (h : fX5_lesser_10 x0 x1 s0 = some rr) : bw_At p l e rmX5_lesser s m args below meth c (MQ below (bw_QI bw_shM 19 D kT ρ rr M) args s 0 0 (bw_A ρ 19)) bw_shM 19 D kT ρ 2 10 [(0, .int x0), (1, .int x1)] [.int s0] M := by
  unfold fX5_lesser_10 at h
  exact bw_ireti (pc := 10) C dX5_lesser_10 (bw_pr M h)
def fX5_lesser (x0 : Int32) (x1 : Int32)  : Option (Int32) :=
  if x1 ≤ x0 then
  fX5_lesser_10 x0 x1 x1
  else
  fX5_lesser_10 x0 x1 x0
theorem tX5_lesser (l : Launch) (x0 : Int32) (x1 : Int32)  (M : bw_M) (rr : Int32) (h : fX5_lesser x0 x1 = some rr) : bw_CI l bw_shM 19 yX5_lesser cX5_lesser 2 (some .int) rmX5_lesser (fun ρ => [.int x0, .int x1]) M rr M := by
  refine bw_inI (Lf := fun ρ => [(0, .int x0), (1, .int x1)]) cX5_lesser 2 (some .int) RX5 pn_X5 rfl (fun ρ => Nat.le_of_ble_eq_true rfl) (fun ρ => rfl) ?_
  intro p e s m args below meth c D kT ρ C
  unfold fX5_lesser at h
  refine bw_iload_n (pc := 0) C 0 dX5_lesser_0 rfl rfl ?_
  refine bw_iload_n (pc := 1) C 1 dX5_lesser_1 rfl rfl ?_
  refine bw_icmp_ge (pc := 2) C 9 dX5_lesser_2 (by decide) h (fun h => ?_) (fun h => ?_)
  · refine bw_iload_n (pc := 9) C 1 dX5_lesser_9 rfl rfl ?_
    refine bw_pick [0, 1] rfl ?_
    exact tX5_lesser_10 C x0 x1 x1 M rr h
  · refine bw_iload_n (pc := 5) C 0 dX5_lesser_5 rfl rfl ?_
    refine bw_goto (pc := 6) C 10 dX5_lesser_6 (by decide) ?_
    refine bw_pick [0, 1] rfl ?_
    exact tX5_lesser_10 C x0 x1 x0 M rr h
/-! X5_has -/
abbrev rmX5_has : Room := { frames := 0, cells := 0, slots := 0, locals := 0 }
theorem msX5_has : bw_MS yX5_has cX5_has 2 (some .boolean) 2 := ⟨mw_816, mw_6, mw_817, by decide +kernel⟩
def fX5_has_14 (x0 : Int32) (x1 : Int32)  (s0 : Int32)  : Option (Int32) :=
  bw_ck (bw_isb s0) (some s0)
theorem tX5_has_14 {p : Program} {l : Launch} {e : Env} {s : State} {m : MethodId} {args : Array Value} {below : List Frame} {meth : Method} {c : Code} {D : va_G} {kT : Nat → ClassId} {ρ : Nat → Nat} (C : bw_Cx p s m args meth c cX5_has 2 RX5 19 D kT ρ (some .boolean)) (x0 : Int32) (x1 : Int32)   (s0 : Int32) (M : bw_M) (rr : Int32)  (h : fX5_has_14 x0 x1 s0 = some rr) : bw_At p l e rmX5_has s m args below meth c (MQ below (bw_QI bw_shM 19 D kT ρ rr M) args s 0 0 (bw_A ρ 19)) bw_shM 19 D kT ρ 2 14 [(0, .int x0), (1, .int x1)] [.int s0] M := by
  unfold fX5_has_14 at h
  obtain ⟨q1, h⟩ := bw_ck_o h
  exact bw_iretz (pc := 14) C (nz_b q1) dX5_has_14 (bw_pr M h)
def fX5_has (x0 : Int32) (x1 : Int32)  : Option (Int32) :=
  if ((x0 >>> (x1 &&& 31)) &&& (1 : Int32)) = (1 : Int32) then
  fX5_has_14 x0 x1 (1 : Int32)
  else
  fX5_has_14 x0 x1 (0 : Int32)
theorem tX5_has (l : Launch) (x0 : Int32) (x1 : Int32)  (M : bw_M) (rr : Int32) (h : fX5_has x0 x1 = some rr) : bw_CI l bw_shM 19 yX5_has cX5_has 2 (some .boolean) rmX5_has (fun ρ => [.int x0, .int x1]) M rr M := by
  refine bw_inI (Lf := fun ρ => [(0, .int x0), (1, .int x1)]) cX5_has 2 (some .boolean) RX5 pn_X5 rfl (fun ρ => Nat.le_of_ble_eq_true rfl) (fun ρ => rfl) ?_
  intro p e s m args below meth c D kT ρ C
  unfold fX5_has at h
  refine bw_iload_n (pc := 0) C 0 dX5_has_0 rfl rfl ?_
  refine bw_iload_n (pc := 1) C 1 dX5_has_1 rfl rfl ?_
  refine bw_ishr (pc := 2) C dX5_has_2 ?_
  refine bw_iconst (pc := 3) (v := (1 : Int32)) C dX5_has_3 ic_1 ?_
  refine bw_iand (pc := 4) C dX5_has_4 ?_
  refine bw_iconst (pc := 5) (v := (1 : Int32)) C dX5_has_5 ic_1 ?_
  refine bw_icmp_ne (pc := 6) C 13 dX5_has_6 (by decide) h (fun h => ?_) (fun h => ?_)
  · refine bw_iconst (pc := 13) (v := (0 : Int32)) C dX5_has_13 ic_0 ?_
    refine bw_pick [0, 1] rfl ?_
    exact tX5_has_14 C x0 x1 (0 : Int32) M rr h
  · refine bw_iconst (pc := 9) (v := (1 : Int32)) C dX5_has_9 ic_1 ?_
    refine bw_goto (pc := 10) C 14 dX5_has_10 (by decide) ?_
    refine bw_pick [0, 1] rfl ?_
    exact tX5_has_14 C x0 x1 (1 : Int32) M rr h
/-! X5_isCutOff -/
abbrev rmX5_isCutOff : Room := { frames := 1, cells := 0, slots := 0, locals := 21 }
theorem msX5_isCutOff : bw_MV yX5_isCutOff cX5_isCutOff 5 (some .boolean) RX5 2 := ⟨mw_813, mw_1103, mw_6, mw_814, by decide +kernel⟩
def fX5_isCutOff_32 (N : Nat) (x1 : Nat) (n1 : Nat) (x2 : Int32) (k5 : Int32 × Int32 → Option (Int32)) (x4 : Int32) (s0 : Int32) (M : bw_M) : Option (Int32) :=
  bw_rd M 7 6 x4 fun v3 =>
  k5 (s0, v3)
theorem tX5_isCutOff_32 {p : Program} {l : Launch} {e : Env} {s : State} {m : MethodId} {args : Array Value} {below : List Frame} {meth : Method} {c : Code} {D : va_G} {kT : Nat → ClassId} {ρ : Nat → Nat} (C : bw_Cx p s m args meth c cX5_isCutOff 5 RX5 19 D kT ρ (some .boolean)) (N : Nat) (x1 : Nat) (n1 : Nat) (x2 : Int32) (g1 : x1 < 19) (i1 : bw_shM x1 = .inr (.inl (0, n1))) (k5 : Int32 × Int32 → Option (Int32)) (x4 : Int32) (s0 : Int32) (M : bw_M) (rr : Int32) (hk5 : ∀ z0, k5 z0 = some rr → bw_At p l e rmX5_isCutOff s m args below meth c (MQ below (bw_QI bw_shM 19 D kT ρ rr M) args s 0 0 (bw_A ρ 19)) bw_shM 19 D kT ρ 5 5 [(0, .ref (ρ 0)), (1, .ref (ρ x1)), (2, .int x2), (3, .int z0.1), (4, .int z0.2)] [] M) (h : fX5_isCutOff_32 N x1 n1 x2 k5 x4 s0 M = some rr) : bw_At p l e rmX5_isCutOff s m args below meth c (MQ below (bw_QI bw_shM 19 D kT ρ rr M) args s 0 0 (bw_A ρ 19)) bw_shM 19 D kT ρ 5 32 [(0, .ref (ρ 0)), (1, .ref (ρ x1)), (2, .int x2), (4, .int x4)] [.int s0] M := by
  unfold fX5_isCutOff_32 at h
  refine bw_istore_n (pc := 32) (L' := [(3, .int s0), (0, .ref (ρ 0)), (1, .ref (ρ x1)), (2, .int x2), (4, .int x4)]) C dX5_isCutOff_32 rfl (by decide) rfl ?_
  refine bw_aload_n (pc := 33) C 1 dX5_isCutOff_33 rfl rfl ?_
  refine bw_getR (pc := 34) (q := 0) (k0 := 11) C ltM_0 shM_0 rfl inX5 mw_626 (by decide) rfl dX5_isCutOff_34 ?_
  refine bw_iload (pc := 37) C 4 dX5_isCutOff_37 rfl ?_
  obtain ⟨qv3, v3, ev3, h⟩ := bw_rd_o h
  refine bw_iald (pc := 39) (q := 7) C ltM_7 shM_7 qv3 ev3 dX5_isCutOff_39 ?_
  refine bw_istore (pc := 40) (L' := [(4, .int v3), (3, .int s0), (0, .ref (ρ 0)), (1, .ref (ρ x1)), (2, .int x2)]) C dX5_isCutOff_40 (by decide) rfl ?_
  refine bw_goto (pc := 42) C 5 dX5_isCutOff_42 (by decide) ?_
  refine bw_pick [2, 3, 4, 1, 0] rfl ?_
  exact hk5 (s0, v3) h
def fX5_isCutOff_27 (N : Nat) (x1 : Nat) (n1 : Nat) (x2 : Int32) (k5 : Int32 × Int32 → Option (Int32)) (x4 : Int32) (M : bw_M) : Option (Int32) :=
  fX5_isCutOff_32 N x1 n1 x2 k5 x4 (1 : Int32) M
theorem tX5_isCutOff_27 {p : Program} {l : Launch} {e : Env} {s : State} {m : MethodId} {args : Array Value} {below : List Frame} {meth : Method} {c : Code} {D : va_G} {kT : Nat → ClassId} {ρ : Nat → Nat} (C : bw_Cx p s m args meth c cX5_isCutOff 5 RX5 19 D kT ρ (some .boolean)) (N : Nat) (x1 : Nat) (n1 : Nat) (x2 : Int32) (g1 : x1 < 19) (i1 : bw_shM x1 = .inr (.inl (0, n1))) (k5 : Int32 × Int32 → Option (Int32)) (x4 : Int32) (M : bw_M) (rr : Int32) (hk5 : ∀ z0, k5 z0 = some rr → bw_At p l e rmX5_isCutOff s m args below meth c (MQ below (bw_QI bw_shM 19 D kT ρ rr M) args s 0 0 (bw_A ρ 19)) bw_shM 19 D kT ρ 5 5 [(0, .ref (ρ 0)), (1, .ref (ρ x1)), (2, .int x2), (3, .int z0.1), (4, .int z0.2)] [] M) (h : fX5_isCutOff_27 N x1 n1 x2 k5 x4 M = some rr) : bw_At p l e rmX5_isCutOff s m args below meth c (MQ below (bw_QI bw_shM 19 D kT ρ rr M) args s 0 0 (bw_A ρ 19)) bw_shM 19 D kT ρ 5 27 [(0, .ref (ρ 0)), (1, .ref (ρ x1)), (2, .int x2), (4, .int x4)] [] M := by
  unfold fX5_isCutOff_27 at h
  refine bw_iconst (pc := 27) (v := (1 : Int32)) C dX5_isCutOff_27 ic_1 ?_
  refine bw_goto (pc := 28) C 32 dX5_isCutOff_28 (by decide) ?_
  refine bw_pick [0, 1, 2, 3] rfl ?_
  exact tX5_isCutOff_32 C N x1 n1 x2 g1 i1 k5 x4 (1 : Int32) M rr hk5 h
def fX5_isCutOff_5 (N : Nat) (x1 : Nat) (n1 : Nat) (x2 : Int32) (k5 : Int32 × Int32 → Option (Int32)) (x3 : Int32) (x4 : Int32) (M : bw_M) : Option (Int32) :=
  if x4 = (-9 : Int32) then
  bw_ck (bw_isb x3) (some x3)
  else
  if x3 = 0 then
  bw_rd M x1 n1 (3 : Int32) fun v4 =>
  bw_cl (fX5_has v4 x4) fun v5 =>
  if v5 = 0 then
  fX5_isCutOff_32 N x1 n1 x2 k5 x4 (0 : Int32) M
  else
  fX5_isCutOff_27 N x1 n1 x2 k5 x4 M
  else
  fX5_isCutOff_27 N x1 n1 x2 k5 x4 M
theorem tX5_isCutOff_5 {p : Program} {l : Launch} {e : Env} {s : State} {m : MethodId} {args : Array Value} {below : List Frame} {meth : Method} {c : Code} {D : va_G} {kT : Nat → ClassId} {ρ : Nat → Nat} (C : bw_Cx p s m args meth c cX5_isCutOff 5 RX5 19 D kT ρ (some .boolean)) (N : Nat) (x1 : Nat) (n1 : Nat) (x2 : Int32) (g1 : x1 < 19) (i1 : bw_shM x1 = .inr (.inl (0, n1))) (k5 : Int32 × Int32 → Option (Int32)) (x3 : Int32) (x4 : Int32) (M : bw_M) (rr : Int32) (hk5 : ∀ z0, k5 z0 = some rr → bw_At p l e rmX5_isCutOff s m args below meth c (MQ below (bw_QI bw_shM 19 D kT ρ rr M) args s 0 0 (bw_A ρ 19)) bw_shM 19 D kT ρ 5 5 [(0, .ref (ρ 0)), (1, .ref (ρ x1)), (2, .int x2), (3, .int z0.1), (4, .int z0.2)] [] M) (h : fX5_isCutOff_5 N x1 n1 x2 k5 x3 x4 M = some rr) : bw_At p l e rmX5_isCutOff s m args below meth c (MQ below (bw_QI bw_shM 19 D kT ρ rr M) args s 0 0 (bw_A ρ 19)) bw_shM 19 D kT ρ 5 5 [(0, .ref (ρ 0)), (1, .ref (ρ x1)), (2, .int x2), (3, .int x3), (4, .int x4)] [] M := by
  unfold fX5_isCutOff_5 at h
  refine bw_iload (pc := 5) C 4 dX5_isCutOff_5 rfl ?_
  refine bw_bipush (pc := 7) (v := (-9 : Int32)) C dX5_isCutOff_7 bi_m9 ?_
  refine bw_icmp_eq (pc := 9) C 45 dX5_isCutOff_9 (by decide) h (fun h => ?_) (fun h => ?_)
  · refine bw_iload_n (pc := 45) C 3 dX5_isCutOff_45 rfl rfl ?_
    obtain ⟨q2, h⟩ := bw_ck_o h
    exact bw_iretz (pc := 46) C (nz_b q2) dX5_isCutOff_46 (bw_pr M h)
  · refine bw_iload_n (pc := 12) C 3 dX5_isCutOff_12 rfl rfl ?_
    refine bw_if_ne (pc := 13) C 27 dX5_isCutOff_13 (by decide) h (fun h => ?_) (fun h => ?_)
    · refine bw_pick [0, 1, 2, 4] rfl ?_
      exact tX5_isCutOff_27 C N x1 n1 x2 g1 i1 k5 x4 M rr hk5 h
    · refine bw_aload_n (pc := 16) C 1 dX5_isCutOff_16 rfl rfl ?_
      refine bw_iconst (pc := 17) (v := (3 : Int32)) C dX5_isCutOff_17 ic_3 ?_
      obtain ⟨qv4, v4, ev4, h⟩ := bw_rd_o h
      refine bw_iald (pc := 18) (q := x1) C g1 i1 qv4 ev4 dX5_isCutOff_18 ?_
      refine bw_iload (pc := 19) C 4 dX5_isCutOff_19 rfl ?_
      obtain ⟨v5, ev5, h⟩ := bw_cl_o h
      refine bw_cSi (pc := 21) (As := [.int v4, .int x4]) (rest := []) C (tX5_has l v4 x4 M v5 ev5) msX5_has mw_815 rfl rfl ⟨Nat.le_of_ble_eq_true rfl, Nat.le_of_ble_eq_true rfl⟩ rfl rfl rfl (Nat.le_of_ble_eq_true rfl) dX5_isCutOff_21 ?_
      refine bw_if_eq (pc := 24) C 31 dX5_isCutOff_24 (by decide) h (fun h => ?_) (fun h => ?_)
      · refine bw_iconst (pc := 31) (v := (0 : Int32)) C dX5_isCutOff_31 ic_0 ?_
        refine bw_pick [0, 1, 2, 4] rfl ?_
        exact tX5_isCutOff_32 C N x1 n1 x2 g1 i1 k5 x4 (0 : Int32) M rr hk5 h
      · refine bw_pick [0, 1, 2, 4] rfl ?_
        exact tX5_isCutOff_27 C N x1 n1 x2 g1 i1 k5 x4 M rr hk5 h
def flX5_isCutOff_5 (N : Nat) (x1 : Nat) (n1 : Nat) (x2 : Int32)   (M : bw_M) (fu : Nat) (w : Int32 × Int32) : Option (Int32) := bw_lp (fun kk w => fX5_isCutOff_5 N x1 n1 x2 kk w.1 w.2 M) fu w
theorem tlX5_isCutOff_5 {p : Program} {l : Launch} {e : Env} {s : State} {m : MethodId} {args : Array Value} {below : List Frame} {meth : Method} {c : Code} {D : va_G} {kT : Nat → ClassId} {ρ : Nat → Nat} (C : bw_Cx p s m args meth c cX5_isCutOff 5 RX5 19 D kT ρ (some .boolean)) (N : Nat) (x1 : Nat) (n1 : Nat) (x2 : Int32) (g1 : x1 < 19) (i1 : bw_shM x1 = .inr (.inl (0, n1)))   (M : bw_M) (rr : Int32)  (fu : Nat) (w : Int32 × Int32) (h : flX5_isCutOff_5 N x1 n1 x2 M fu w = some rr) : bw_At p l e rmX5_isCutOff s m args below meth c (MQ below (bw_QI bw_shM 19 D kT ρ rr M) args s 0 0 (bw_A ρ 19)) bw_shM 19 D kT ρ 5 5 [(0, .ref (ρ 0)), (1, .ref (ρ x1)), (2, .int x2), (3, .int w.1), (4, .int w.2)] [] M :=
  bw_loop (r := rr) (fun w => bw_At p l e rmX5_isCutOff s m args below meth c (MQ below (bw_QI bw_shM 19 D kT ρ rr M) args s 0 0 (bw_A ρ 19)) bw_shM 19 D kT ρ 5 5 [(0, .ref (ρ 0)), (1, .ref (ρ x1)), (2, .int x2), (3, .int w.1), (4, .int w.2)] [] M) (fun kk hk w h => tX5_isCutOff_5 C N x1 n1 x2 g1 i1 kk w.1 w.2 M rr hk h) fu w h
def fX5_isCutOff (N : Nat) (x1 : Nat) (n1 : Nat) (x2 : Int32) (M : bw_M) : Option (Int32) :=
  bw_mv (0 : Int32) fun v1 =>
  flX5_isCutOff_5 N x1 n1 x2 M N (v1, x2)
theorem tX5_isCutOff (l : Launch) (N : Nat) (x1 : Nat) (n1 : Nat) (x2 : Int32) (g1 : x1 < 19) (i1 : bw_shM x1 = .inr (.inl (0, n1))) (M : bw_M) (rr : Int32) (h : fX5_isCutOff N x1 n1 x2 M = some rr) : bw_CI l bw_shM 19 yX5_isCutOff cX5_isCutOff 5 (some .boolean) rmX5_isCutOff (fun ρ => [.ref (ρ 0), .ref (ρ x1), .int x2]) M rr M := by
  refine bw_inI (Lf := fun ρ => [(0, .ref (ρ 0)), (1, .ref (ρ x1)), (2, .int x2)]) cX5_isCutOff 5 (some .boolean) RX5 pn_X5 rfl (fun ρ => Nat.le_of_ble_eq_true rfl) (fun ρ => rfl) ?_
  intro p e s m args below meth c D kT ρ C
  unfold fX5_isCutOff at h
  refine bw_iconst (pc := 0) (v := (0 : Int32)) C dX5_isCutOff_0 ic_0 ?_
  obtain ⟨v1, ev1, h⟩ := bw_mv_o h
  refine bw_nmI ev1 ?_
  refine bw_istore_n (pc := 1) (L' := [(3, .int v1), (0, .ref (ρ 0)), (1, .ref (ρ x1)), (2, .int x2)]) C dX5_isCutOff_1 rfl (by decide) rfl ?_
  refine bw_iload_n (pc := 2) C 3 dX5_isCutOff_2 rfl rfl ?_
  refine bw_istore (pc := 3) (L' := [(4, .int x2), (3, .int v1), (0, .ref (ρ 0)), (1, .ref (ρ x1)), (2, .int x2)]) C dX5_isCutOff_3 (by decide) rfl ?_
  refine bw_pick [2, 3, 4, 1, 0] rfl ?_
  exact tlX5_isCutOff_5 C N x1 n1 x2 g1 i1 M rr N (v1, x2) h
/-! X5_wantsBy -/
abbrev rmX5_wantsBy : Room := { frames := 0, cells := 0, slots := 0, locals := 0 }
theorem msX5_wantsBy : bw_MS yX5_wantsBy cX5_wantsBy 3 (some .int) 3 := ⟨mw_809, mw_6, mw_810, by decide +kernel⟩
def fX5_wantsBy_44 (x0 : Int32) (x1 : Int32) (x2 : Int32)  (s0 : Int32)  : Option (Int32) :=
  some s0
theorem tX5_wantsBy_44 {p : Program} {l : Launch} {e : Env} {s : State} {m : MethodId} {args : Array Value} {below : List Frame} {meth : Method} {c : Code} {D : va_G} {kT : Nat → ClassId} {ρ : Nat → Nat} (C : bw_Cx p s m args meth c cX5_wantsBy 3 RX5 19 D kT ρ (some .int)) (x0 : Int32) (x1 : Int32) (x2 : Int32)   (s0 : Int32) (M : bw_M) (rr : Int32)  (h : fX5_wantsBy_44 x0 x1 x2 s0 = some rr) : bw_At p l e rmX5_wantsBy s m args below meth c (MQ below (bw_QI bw_shM 19 D kT ρ rr M) args s 0 0 (bw_A ρ 19)) bw_shM 19 D kT ρ 3 44 [(0, .int x0), (1, .int x1), (2, .int x2)] [.int s0] M := by
  unfold fX5_wantsBy_44 at h
  exact bw_ireti (pc := 44) C dX5_wantsBy_44 (bw_pr M h)
def fX5_wantsBy (x0 : Int32) (x1 : Int32) (x2 : Int32)  : Option (Int32) :=
  if x0 = (3 : Int32) then
  some (x1 + (1 : Int32))
  else if x0 = (4 : Int32) then
  if (x2 - x2 / (3 : Int32) * (3 : Int32)) = (2 : Int32) then
  fX5_wantsBy_44 x0 x1 x2 (0 : Int32)
  else
  fX5_wantsBy_44 x0 x1 x2 x1
  else if x0 = (5 : Int32) then
  some ((2 : Int32) * (x1 + (1 : Int32)))
  else 
  some x1
theorem tX5_wantsBy (l : Launch) (x0 : Int32) (x1 : Int32) (x2 : Int32)  (M : bw_M) (rr : Int32) (h : fX5_wantsBy x0 x1 x2 = some rr) : bw_CI l bw_shM 19 yX5_wantsBy cX5_wantsBy 3 (some .int) rmX5_wantsBy (fun ρ => [.int x0, .int x1, .int x2]) M rr M := by
  refine bw_inI (Lf := fun ρ => [(0, .int x0), (1, .int x1), (2, .int x2)]) cX5_wantsBy 3 (some .int) RX5 pn_X5 rfl (fun ρ => Nat.le_of_ble_eq_true rfl) (fun ρ => rfl) ?_
  intro p e s m args below meth c D kT ρ C
  unfold fX5_wantsBy at h
  refine bw_iload_n (pc := 0) C 0 dX5_wantsBy_0 rfl rfl ?_
  refine bw_swc (pc := 1) C (3 : Int32) h (fun h => ?_) (fun q1 h => ?_)
  · refine bw_swi (pc := 1) C 28 dX5_wantsBy_1 (by decide) (by decide) rfl (by decide) ?_
    refine bw_iload_n (pc := 28) C 1 dX5_wantsBy_28 rfl rfl ?_
    refine bw_iconst (pc := 29) (v := (1 : Int32)) C dX5_wantsBy_29 ic_1 ?_
    refine bw_iadd (pc := 30) C dX5_wantsBy_30 ?_
    exact bw_ireti (pc := 31) C dX5_wantsBy_31 (bw_pr M h)
  refine bw_swc (pc := 1) C (4 : Int32) h (fun h => ?_) (fun q2 h => ?_)
  · refine bw_swi (pc := 1) C 32 dX5_wantsBy_1 (by decide) (by decide) rfl (by decide) ?_
    refine bw_iload_n (pc := 32) C 2 dX5_wantsBy_32 rfl rfl ?_
    refine bw_iconst (pc := 33) (v := (3 : Int32)) C dX5_wantsBy_33 ic_3 ?_
    refine bw_irem (pc := 34) C dX5_wantsBy_34 (by decide) ?_
    refine bw_iconst (pc := 35) (v := (2 : Int32)) C dX5_wantsBy_35 ic_2 ?_
    refine bw_icmp_ne (pc := 36) C 43 dX5_wantsBy_36 (by decide) h (fun h => ?_) (fun h => ?_)
    · refine bw_iload_n (pc := 43) C 1 dX5_wantsBy_43 rfl rfl ?_
      refine bw_pick [0, 1, 2] rfl ?_
      exact tX5_wantsBy_44 C x0 x1 x2 x1 M rr h
    · refine bw_iconst (pc := 39) (v := (0 : Int32)) C dX5_wantsBy_39 ic_0 ?_
      refine bw_goto (pc := 40) C 44 dX5_wantsBy_40 (by decide) ?_
      refine bw_pick [0, 1, 2] rfl ?_
      exact tX5_wantsBy_44 C x0 x1 x2 (0 : Int32) M rr h
  refine bw_swc (pc := 1) C (5 : Int32) h (fun h => ?_) (fun q3 h => ?_)
  · refine bw_swi (pc := 1) C 45 dX5_wantsBy_1 (by decide) (by decide) rfl (by decide) ?_
    refine bw_iconst (pc := 45) (v := (2 : Int32)) C dX5_wantsBy_45 ic_2 ?_
    refine bw_iload_n (pc := 46) C 1 dX5_wantsBy_46 rfl rfl ?_
    refine bw_iconst (pc := 47) (v := (1 : Int32)) C dX5_wantsBy_47 ic_1 ?_
    refine bw_iadd (pc := 48) C dX5_wantsBy_48 ?_
    refine bw_imul (pc := 49) C dX5_wantsBy_49 ?_
    exact bw_ireti (pc := 50) C dX5_wantsBy_50 (bw_pr M h)
  have ho : (x0).toInt < 3 ∨ 5 < (x0).toInt := bw_sw_out 3 (by decide) (by decide) (by decide) (fun j hj => by
    match j, hj with
    | 0, _ => exact q1
    | 1, _ => exact q2
    | 2, _ => exact q3
    | j + 3, hj => exact absurd hj (by omega))
  refine bw_swo (pc := 1) C 51 dX5_wantsBy_1 ho (by decide) ?_
  refine bw_iload_n (pc := 51) C 1 dX5_wantsBy_51 rfl rfl ?_
  exact bw_ireti (pc := 52) C dX5_wantsBy_52 (bw_pr M h)
/-! X5_wantsOn -/
abbrev rmX5_wantsOn : Room := { frames := 1, cells := 0, slots := 0, locals := 22 }
theorem msX5_wantsOn : bw_MV yX5_wantsOn cX5_wantsOn 3 (some .int) RX5 2 := ⟨mw_806, mw_1102, mw_6, mw_807, by decide +kernel⟩
def fX5_wantsOn (x1 : Nat) (n1 : Nat) (x2 : Int32) (M : bw_M) : Option (Int32) :=
  bw_rd M 6 6 x2 fun v1 =>
  bw_rd M 8 6 x2 fun v2 =>
  bw_rd M x1 n1 (2 : Int32) fun v3 =>
  bw_cl (fX5_wantsBy v1 v2 v3) fun v4 =>
  some v4
theorem tX5_wantsOn (l : Launch) (x1 : Nat) (n1 : Nat) (x2 : Int32) (g1 : x1 < 19) (i1 : bw_shM x1 = .inr (.inl (0, n1))) (M : bw_M) (rr : Int32) (h : fX5_wantsOn x1 n1 x2 M = some rr) : bw_CI l bw_shM 19 yX5_wantsOn cX5_wantsOn 3 (some .int) rmX5_wantsOn (fun ρ => [.ref (ρ 0), .ref (ρ x1), .int x2]) M rr M := by
  refine bw_inI (Lf := fun ρ => [(0, .ref (ρ 0)), (1, .ref (ρ x1)), (2, .int x2)]) cX5_wantsOn 3 (some .int) RX5 pn_X5 rfl (fun ρ => Nat.le_of_ble_eq_true rfl) (fun ρ => rfl) ?_
  intro p e s m args below meth c D kT ρ C
  unfold fX5_wantsOn at h
  refine bw_aload_n (pc := 0) C 0 dX5_wantsOn_0 rfl rfl ?_
  refine bw_getR (pc := 1) (q := 0) (k0 := 10) C ltM_0 shM_0 rfl inX5 mw_625 (by decide) rfl dX5_wantsOn_1 ?_
  refine bw_iload_n (pc := 4) C 2 dX5_wantsOn_4 rfl rfl ?_
  obtain ⟨qv1, v1, ev1, h⟩ := bw_rd_o h
  refine bw_iald (pc := 5) (q := 6) C ltM_6 shM_6 qv1 ev1 dX5_wantsOn_5 ?_
  refine bw_aload_n (pc := 6) C 0 dX5_wantsOn_6 rfl rfl ?_
  refine bw_getR (pc := 7) (q := 0) (k0 := 12) C ltM_0 shM_0 rfl inX5 mw_627 (by decide) rfl dX5_wantsOn_7 ?_
  refine bw_iload_n (pc := 10) C 2 dX5_wantsOn_10 rfl rfl ?_
  obtain ⟨qv2, v2, ev2, h⟩ := bw_rd_o h
  refine bw_iald (pc := 11) (q := 8) C ltM_8 shM_8 qv2 ev2 dX5_wantsOn_11 ?_
  refine bw_aload_n (pc := 12) C 1 dX5_wantsOn_12 rfl rfl ?_
  refine bw_iconst (pc := 13) (v := (2 : Int32)) C dX5_wantsOn_13 ic_2 ?_
  obtain ⟨qv3, v3, ev3, h⟩ := bw_rd_o h
  refine bw_iald (pc := 14) (q := x1) C g1 i1 qv3 ev3 dX5_wantsOn_14 ?_
  obtain ⟨v4, ev4, h⟩ := bw_cl_o h
  refine bw_cSi (pc := 15) (As := [.int v1, .int v2, .int v3]) (rest := []) C (tX5_wantsBy l v1 v2 v3 M v4 ev4) msX5_wantsBy mw_808 rfl rfl ⟨Nat.le_of_ble_eq_true rfl, Nat.le_of_ble_eq_true rfl⟩ rfl rfl rfl (Nat.le_of_ble_eq_true rfl) dX5_wantsOn_15 ?_
  exact bw_ireti (pc := 18) C dX5_wantsOn_18 (bw_pr M h)
/-! X5_isOf -/
abbrev rmX5_isOf : Room := { frames := 0, cells := 0, slots := 0, locals := 0 }
theorem msX5_isOf : bw_MS yX5_isOf cX5_isOf 2 (some .boolean) 2 := ⟨mw_823, mw_6, mw_824, by decide +kernel⟩
def fX5_isOf_30 (x0 : Int32) (x1 : Int32)  (s0 : Int32)  : Option (Int32) :=
  bw_ck (bw_isb s0) (some s0)
theorem tX5_isOf_30 {p : Program} {l : Launch} {e : Env} {s : State} {m : MethodId} {args : Array Value} {below : List Frame} {meth : Method} {c : Code} {D : va_G} {kT : Nat → ClassId} {ρ : Nat → Nat} (C : bw_Cx p s m args meth c cX5_isOf 2 RX5 19 D kT ρ (some .boolean)) (x0 : Int32) (x1 : Int32)   (s0 : Int32) (M : bw_M) (rr : Int32)  (h : fX5_isOf_30 x0 x1 s0 = some rr) : bw_At p l e rmX5_isOf s m args below meth c (MQ below (bw_QI bw_shM 19 D kT ρ rr M) args s 0 0 (bw_A ρ 19)) bw_shM 19 D kT ρ 2 30 [(0, .int x0), (1, .int x1)] [.int s0] M := by
  unfold fX5_isOf_30 at h
  obtain ⟨q1, h⟩ := bw_ck_o h
  exact bw_iretz (pc := 30) C (nz_b q1) dX5_isOf_30 (bw_pr M h)
def fX5_isOf_25 (x0 : Int32) (x1 : Int32)    : Option (Int32) :=
  fX5_isOf_30 x0 x1 (1 : Int32)
theorem tX5_isOf_25 {p : Program} {l : Launch} {e : Env} {s : State} {m : MethodId} {args : Array Value} {below : List Frame} {meth : Method} {c : Code} {D : va_G} {kT : Nat → ClassId} {ρ : Nat → Nat} (C : bw_Cx p s m args meth c cX5_isOf 2 RX5 19 D kT ρ (some .boolean)) (x0 : Int32) (x1 : Int32)    (M : bw_M) (rr : Int32)  (h : fX5_isOf_25 x0 x1 = some rr) : bw_At p l e rmX5_isOf s m args below meth c (MQ below (bw_QI bw_shM 19 D kT ρ rr M) args s 0 0 (bw_A ρ 19)) bw_shM 19 D kT ρ 2 25 [(0, .int x0), (1, .int x1)] [] M := by
  unfold fX5_isOf_25 at h
  refine bw_iconst (pc := 25) (v := (1 : Int32)) C dX5_isOf_25 ic_1 ?_
  refine bw_goto (pc := 26) C 30 dX5_isOf_26 (by decide) ?_
  refine bw_pick [0, 1] rfl ?_
  exact tX5_isOf_30 C x0 x1 (1 : Int32) M rr h
def fX5_isOf_29 (x0 : Int32) (x1 : Int32)    : Option (Int32) :=
  fX5_isOf_30 x0 x1 (0 : Int32)
theorem tX5_isOf_29 {p : Program} {l : Launch} {e : Env} {s : State} {m : MethodId} {args : Array Value} {below : List Frame} {meth : Method} {c : Code} {D : va_G} {kT : Nat → ClassId} {ρ : Nat → Nat} (C : bw_Cx p s m args meth c cX5_isOf 2 RX5 19 D kT ρ (some .boolean)) (x0 : Int32) (x1 : Int32)    (M : bw_M) (rr : Int32)  (h : fX5_isOf_29 x0 x1 = some rr) : bw_At p l e rmX5_isOf s m args below meth c (MQ below (bw_QI bw_shM 19 D kT ρ rr M) args s 0 0 (bw_A ρ 19)) bw_shM 19 D kT ρ 2 29 [(0, .int x0), (1, .int x1)] [] M := by
  unfold fX5_isOf_29 at h
  refine bw_iconst (pc := 29) (v := (0 : Int32)) C dX5_isOf_29 ic_0 ?_
  refine bw_pick [0, 1] rfl ?_
  exact tX5_isOf_30 C x0 x1 (0 : Int32) M rr h
def fX5_isOf_15 (x0 : Int32) (x1 : Int32)    : Option (Int32) :=
  if x0 = (5 : Int32) then
  if x1 = (3 : Int32) then
  fX5_isOf_25 x0 x1
  else
  fX5_isOf_29 x0 x1
  else
  fX5_isOf_29 x0 x1
theorem tX5_isOf_15 {p : Program} {l : Launch} {e : Env} {s : State} {m : MethodId} {args : Array Value} {below : List Frame} {meth : Method} {c : Code} {D : va_G} {kT : Nat → ClassId} {ρ : Nat → Nat} (C : bw_Cx p s m args meth c cX5_isOf 2 RX5 19 D kT ρ (some .boolean)) (x0 : Int32) (x1 : Int32)    (M : bw_M) (rr : Int32)  (h : fX5_isOf_15 x0 x1 = some rr) : bw_At p l e rmX5_isOf s m args below meth c (MQ below (bw_QI bw_shM 19 D kT ρ rr M) args s 0 0 (bw_A ρ 19)) bw_shM 19 D kT ρ 2 15 [(0, .int x0), (1, .int x1)] [] M := by
  unfold fX5_isOf_15 at h
  refine bw_iload_n (pc := 15) C 0 dX5_isOf_15 rfl rfl ?_
  refine bw_iconst (pc := 16) (v := (5 : Int32)) C dX5_isOf_16 ic_5 ?_
  refine bw_icmp_ne (pc := 17) C 29 dX5_isOf_17 (by decide) h (fun h => ?_) (fun h => ?_)
  · refine bw_pick [0, 1] rfl ?_
    exact tX5_isOf_29 C x0 x1 M rr h
  · refine bw_iload_n (pc := 20) C 1 dX5_isOf_20 rfl rfl ?_
    refine bw_iconst (pc := 21) (v := (3 : Int32)) C dX5_isOf_21 ic_3 ?_
    refine bw_icmp_ne (pc := 22) C 29 dX5_isOf_22 (by decide) h (fun h => ?_) (fun h => ?_)
    · refine bw_pick [0, 1] rfl ?_
      exact tX5_isOf_29 C x0 x1 M rr h
    · refine bw_pick [0, 1] rfl ?_
      exact tX5_isOf_25 C x0 x1 M rr h
def fX5_isOf (x0 : Int32) (x1 : Int32)  : Option (Int32) :=
  if x0 = x1 then
  fX5_isOf_25 x0 x1
  else
  if x0 = (4 : Int32) then
  if x1 = (1 : Int32) then
  fX5_isOf_25 x0 x1
  else
  fX5_isOf_15 x0 x1
  else
  fX5_isOf_15 x0 x1
theorem tX5_isOf (l : Launch) (x0 : Int32) (x1 : Int32)  (M : bw_M) (rr : Int32) (h : fX5_isOf x0 x1 = some rr) : bw_CI l bw_shM 19 yX5_isOf cX5_isOf 2 (some .boolean) rmX5_isOf (fun ρ => [.int x0, .int x1]) M rr M := by
  refine bw_inI (Lf := fun ρ => [(0, .int x0), (1, .int x1)]) cX5_isOf 2 (some .boolean) RX5 pn_X5 rfl (fun ρ => Nat.le_of_ble_eq_true rfl) (fun ρ => rfl) ?_
  intro p e s m args below meth c D kT ρ C
  unfold fX5_isOf at h
  refine bw_iload_n (pc := 0) C 0 dX5_isOf_0 rfl rfl ?_
  refine bw_iload_n (pc := 1) C 1 dX5_isOf_1 rfl rfl ?_
  refine bw_icmp_eq (pc := 2) C 25 dX5_isOf_2 (by decide) h (fun h => ?_) (fun h => ?_)
  · refine bw_pick [0, 1] rfl ?_
    exact tX5_isOf_25 C x0 x1 M rr h
  · refine bw_iload_n (pc := 5) C 0 dX5_isOf_5 rfl rfl ?_
    refine bw_iconst (pc := 6) (v := (4 : Int32)) C dX5_isOf_6 ic_4 ?_
    refine bw_icmp_ne (pc := 7) C 15 dX5_isOf_7 (by decide) h (fun h => ?_) (fun h => ?_)
    · refine bw_pick [0, 1] rfl ?_
      exact tX5_isOf_15 C x0 x1 M rr h
    · refine bw_iload_n (pc := 10) C 1 dX5_isOf_10 rfl rfl ?_
      refine bw_iconst (pc := 11) (v := (1 : Int32)) C dX5_isOf_11 ic_1 ?_
      refine bw_icmp_eq (pc := 12) C 25 dX5_isOf_12 (by decide) h (fun h => ?_) (fun h => ?_)
      · refine bw_pick [0, 1] rfl ?_
        exact tX5_isOf_25 C x0 x1 M rr h
      · refine bw_pick [0, 1] rfl ?_
        exact tX5_isOf_15 C x0 x1 M rr h
/-! X5_takes -/
abbrev rmX5_takes : Room := { frames := 2, cells := 0, slots := 0, locals := 44 }
theorem msX5_takes : bw_MV yX5_takes cX5_takes 4 (some .boolean) RX5 2 := ⟨mw_849, mw_1107, mw_6, mw_850, by decide +kernel⟩
def fX5_takes_172 (x1 : Nat) (n1 : Nat) (x2 : Int32)  (s1 : Int32) (s2 : Int32) (M : bw_M) : Option (Int32 × bw_M) :=
  bw_wr M x1 n1 s1 s2 fun M9 =>
  some ((0 : Int32), M9)
theorem tX5_takes_172 {p : Program} {l : Launch} {e : Env} {s : State} {m : MethodId} {args : Array Value} {below : List Frame} {meth : Method} {c : Code} {D : va_G} {kT : Nat → ClassId} {ρ : Nat → Nat} (C : bw_Cx p s m args meth c cX5_takes 4 RX5 19 D kT ρ (some .boolean)) (x1 : Nat) (n1 : Nat) (x2 : Int32) (g1 : x1 < 19) (i1 : bw_shM x1 = .inr (.inl (0, n1)))  (s1 : Int32) (s2 : Int32) (M : bw_M) (rr : Int32) (zz : bw_M)  (h : fX5_takes_172 x1 n1 x2 s1 s2 M = some (rr, zz)) : bw_At p l e rmX5_takes s m args below meth c (MQ below (bw_QI bw_shM 19 D kT ρ rr zz) args s 0 0 (bw_A ρ 19)) bw_shM 19 D kT ρ 4 172 [(0, .ref (ρ 0)), (1, .ref (ρ x1)), (2, .int x2)] [.int s2, .int s1, .ref (ρ x1)] M := by
  unfold fX5_takes_172 at h
  obtain ⟨qM9, M9, eM9, h⟩ := bw_wr_o h
  refine bw_iast (pc := 172) (q := x1) C g1 i1 qM9 eM9 dX5_takes_172 ?_
  refine bw_iconst (pc := 173) (v := (0 : Int32)) C dX5_takes_173 ic_0 ?_
  exact bw_iretz (pc := 174) C nz_0 dX5_takes_174 h
def fX5_takes_99 (x1 : Nat) (n1 : Nat) (x2 : Int32)   (M : bw_M) : Option (Int32 × bw_M) :=
  bw_rd M x1 n1 ((11 : Int32) + x2) fun v20 =>
  bw_wr M x1 n1 ((11 : Int32) + x2) (v20 + (1 : Int32)) fun M21 =>
  some ((1 : Int32), M21)
theorem tX5_takes_99 {p : Program} {l : Launch} {e : Env} {s : State} {m : MethodId} {args : Array Value} {below : List Frame} {meth : Method} {c : Code} {D : va_G} {kT : Nat → ClassId} {ρ : Nat → Nat} (C : bw_Cx p s m args meth c cX5_takes 4 RX5 19 D kT ρ (some .boolean)) (x1 : Nat) (n1 : Nat) (x2 : Int32) (g1 : x1 < 19) (i1 : bw_shM x1 = .inr (.inl (0, n1)))   (M : bw_M) (rr : Int32) (zz : bw_M)  (h : fX5_takes_99 x1 n1 x2 M = some (rr, zz)) : bw_At p l e rmX5_takes s m args below meth c (MQ below (bw_QI bw_shM 19 D kT ρ rr zz) args s 0 0 (bw_A ρ 19)) bw_shM 19 D kT ρ 4 99 [(0, .ref (ρ 0)), (1, .ref (ρ x1)), (2, .int x2)] [] M := by
  unfold fX5_takes_99 at h
  refine bw_aload_n (pc := 99) C 1 dX5_takes_99 rfl rfl ?_
  refine bw_bipush (pc := 100) (v := (11 : Int32)) C dX5_takes_100 bi_11 ?_
  refine bw_iload_n (pc := 102) C 2 dX5_takes_102 rfl rfl ?_
  refine bw_iadd (pc := 103) C dX5_takes_103 ?_
  refine bw_dup2 (pc := 104) C dX5_takes_104 rfl rfl ?_
  obtain ⟨qv20, v20, ev20, h⟩ := bw_rd_o h
  refine bw_iald (pc := 105) (q := x1) C g1 i1 qv20 ev20 dX5_takes_105 ?_
  refine bw_iconst (pc := 106) (v := (1 : Int32)) C dX5_takes_106 ic_1 ?_
  refine bw_iadd (pc := 107) C dX5_takes_107 ?_
  obtain ⟨qM21, M21, eM21, h⟩ := bw_wr_o h
  refine bw_iast (pc := 108) (q := x1) C g1 i1 qM21 eM21 dX5_takes_108 ?_
  refine bw_iconst (pc := 109) (v := (1 : Int32)) C dX5_takes_109 ic_1 ?_
  exact bw_iretz (pc := 110) C nz_1 dX5_takes_110 h
def fX5_takes_97 (x1 : Nat) (n1 : Nat) (x2 : Int32)  (s1 : Int32) (s2 : Int32) (s3 : Int32) (M : bw_M) : Option (Int32 × bw_M) :=
  bw_wr M x1 n1 s1 (s2 + s3) fun M27 =>
  fX5_takes_99 x1 n1 x2 M27
theorem tX5_takes_97 {p : Program} {l : Launch} {e : Env} {s : State} {m : MethodId} {args : Array Value} {below : List Frame} {meth : Method} {c : Code} {D : va_G} {kT : Nat → ClassId} {ρ : Nat → Nat} (C : bw_Cx p s m args meth c cX5_takes 4 RX5 19 D kT ρ (some .boolean)) (x1 : Nat) (n1 : Nat) (x2 : Int32) (g1 : x1 < 19) (i1 : bw_shM x1 = .inr (.inl (0, n1)))  (s1 : Int32) (s2 : Int32) (s3 : Int32) (M : bw_M) (rr : Int32) (zz : bw_M)  (h : fX5_takes_97 x1 n1 x2 s1 s2 s3 M = some (rr, zz)) : bw_At p l e rmX5_takes s m args below meth c (MQ below (bw_QI bw_shM 19 D kT ρ rr zz) args s 0 0 (bw_A ρ 19)) bw_shM 19 D kT ρ 4 97 [(0, .ref (ρ 0)), (1, .ref (ρ x1)), (2, .int x2)] [.int s3, .int s2, .int s1, .ref (ρ x1)] M := by
  unfold fX5_takes_97 at h
  refine bw_iadd (pc := 97) C dX5_takes_97 ?_
  obtain ⟨qM27, M27, eM27, h⟩ := bw_wr_o h
  refine bw_iast (pc := 98) (q := x1) C g1 i1 qM27 eM27 dX5_takes_98 ?_
  refine bw_pick [0, 1, 2] rfl ?_
  exact tX5_takes_99 C x1 n1 x2 g1 i1 M27 rr zz h
def fX5_takes_23 (x1 : Nat) (n1 : Nat) (x2 : Int32)   (M : bw_M) : Option (Int32 × bw_M) :=
  bw_cl (fX5_wantsOn x1 n1 x2 M) fun v3 =>
  if v3 = 0 then
  some ((0 : Int32), M)
  else
  bw_rd M x1 n1 (0 : Int32) fun v4 =>
  if v4 < v3 then
  bw_rd M x1 n1 (0 : Int32) fun v5 =>
  bw_rd M x1 n1 ((5 : Int32) + x2) fun v6 =>
  if (v5 + v6) < v3 then
  bw_rd M 6 6 x2 fun v7 =>
  if v7 = (2 : Int32) then
  fX5_takes_172 x1 n1 x2 (0 : Int32) (0 : Int32) M
  else
  bw_rd M x1 n1 (0 : Int32) fun v8 =>
  fX5_takes_172 x1 n1 x2 (0 : Int32) v8 M
  else
  bw_rd M x1 n1 ((5 : Int32) + x2) fun v10 =>
  bw_rd M x1 n1 (0 : Int32) fun v11 =>
  bw_wr M x1 n1 ((5 : Int32) + x2) (v10 - (v3 - v11)) fun M12 =>
  bw_wr M12 x1 n1 (0 : Int32) (0 : Int32) fun M13 =>
  bw_rd M13 x1 n1 ((11 : Int32) + x2) fun v14 =>
  bw_wr M13 x1 n1 ((11 : Int32) + x2) (v14 + (1 : Int32)) fun M15 =>
  some ((1 : Int32), M15)
  else
  bw_rd M x1 n1 (0 : Int32) fun v16 =>
  bw_wr M x1 n1 (0 : Int32) (v16 - v3) fun M17 =>
  bw_rd M17 6 6 x2 fun v18 =>
  bw_cl (fX5_isOf v18 (1 : Int32)) fun v19 =>
  if v19 = 0 then
  fX5_takes_99 x1 n1 x2 M17
  else
  bw_rd M17 x1 n1 (0 : Int32) fun v22 =>
  if v22 ≤ 0 then
  fX5_takes_99 x1 n1 x2 M17
  else
  bw_rd M17 x1 n1 (0 : Int32) fun v23 =>
  bw_wr M17 x1 n1 (0 : Int32) (v23 - (1 : Int32)) fun M24 =>
  bw_rd M24 x1 n1 ((5 : Int32) + x2) fun v25 =>
  bw_rd M24 x1 n1 ((5 : Int32) + x2) fun v26 =>
  if (20 : Int32) ≤ v26 then
  fX5_takes_97 x1 n1 x2 ((5 : Int32) + x2) v25 (0 : Int32) M24
  else
  fX5_takes_97 x1 n1 x2 ((5 : Int32) + x2) v25 (1 : Int32) M24
theorem tX5_takes_23 {p : Program} {l : Launch} {e : Env} {s : State} {m : MethodId} {args : Array Value} {below : List Frame} {meth : Method} {c : Code} {D : va_G} {kT : Nat → ClassId} {ρ : Nat → Nat} (C : bw_Cx p s m args meth c cX5_takes 4 RX5 19 D kT ρ (some .boolean)) (x1 : Nat) (n1 : Nat) (x2 : Int32) (g1 : x1 < 19) (i1 : bw_shM x1 = .inr (.inl (0, n1)))   (M : bw_M) (rr : Int32) (zz : bw_M)  (h : fX5_takes_23 x1 n1 x2 M = some (rr, zz)) : bw_At p l e rmX5_takes s m args below meth c (MQ below (bw_QI bw_shM 19 D kT ρ rr zz) args s 0 0 (bw_A ρ 19)) bw_shM 19 D kT ρ 4 23 [(0, .ref (ρ 0)), (1, .ref (ρ x1)), (2, .int x2)] [] M := by
  unfold fX5_takes_23 at h
  refine bw_aload_n (pc := 23) C 0 dX5_takes_23 rfl rfl ?_
  refine bw_aload_n (pc := 24) C 1 dX5_takes_24 rfl rfl ?_
  refine bw_iload_n (pc := 25) C 2 dX5_takes_25 rfl rfl ?_
  obtain ⟨v3, ev3, h⟩ := bw_cl_o h
  refine bw_cVi (pc := 26) (q := 0) (As := [.ref (ρ x1), .int x2]) (rest := []) C (tX5_wantsOn l x1 n1 x2 g1 i1 M v3 ev3) msX5_wantsOn mw_804 rfl rfl ⟨Nat.le_of_ble_eq_true rfl, Nat.le_of_ble_eq_true rfl⟩ ltM_0 shM_0 rfl rfl rfl rfl (Nat.le_of_ble_eq_true rfl) dX5_takes_26 ?_
  refine bw_istore_n (pc := 29) (L' := [(3, .int v3), (0, .ref (ρ 0)), (1, .ref (ρ x1)), (2, .int x2)]) C dX5_takes_29 rfl (by decide) rfl ?_
  refine bw_iload_n (pc := 30) C 0 dX5_takes_30 rfl rfl ?_
  refine bw_if_ne (pc := 31) C 36 dX5_takes_31 (by decide) h (fun h => ?_) (fun h => ?_)
  · refine bw_aload_n (pc := 36) C 2 dX5_takes_36 rfl rfl ?_
    refine bw_iconst (pc := 37) (v := (0 : Int32)) C dX5_takes_37 ic_0 ?_
    obtain ⟨qv4, v4, ev4, h⟩ := bw_rd_o h
    refine bw_iald (pc := 38) (q := x1) C g1 i1 qv4 ev4 dX5_takes_38 ?_
    refine bw_iload_n (pc := 39) C 0 dX5_takes_39 rfl rfl ?_
    refine bw_icmp_lt (pc := 40) C 111 dX5_takes_40 (by decide) h (fun h => ?_) (fun h => ?_)
    · refine bw_aload_n (pc := 111) C 2 dX5_takes_111 rfl rfl ?_
      refine bw_iconst (pc := 112) (v := (0 : Int32)) C dX5_takes_112 ic_0 ?_
      obtain ⟨qv5, v5, ev5, h⟩ := bw_rd_o h
      refine bw_iald (pc := 113) (q := x1) C g1 i1 qv5 ev5 dX5_takes_113 ?_
      refine bw_aload_n (pc := 114) C 2 dX5_takes_114 rfl rfl ?_
      refine bw_iconst (pc := 115) (v := (5 : Int32)) C dX5_takes_115 ic_5 ?_
      refine bw_iload_n (pc := 116) C 3 dX5_takes_116 rfl rfl ?_
      refine bw_iadd (pc := 117) C dX5_takes_117 ?_
      obtain ⟨qv6, v6, ev6, h⟩ := bw_rd_o h
      refine bw_iald (pc := 118) (q := x1) C g1 i1 qv6 ev6 dX5_takes_118 ?_
      refine bw_iadd (pc := 119) C dX5_takes_119 ?_
      refine bw_iload_n (pc := 120) C 0 dX5_takes_120 rfl rfl ?_
      refine bw_icmp_lt (pc := 121) C 153 dX5_takes_121 (by decide) h (fun h => ?_) (fun h => ?_)
      · refine bw_aload_n (pc := 153) C 2 dX5_takes_153 rfl rfl ?_
        refine bw_iconst (pc := 154) (v := (0 : Int32)) C dX5_takes_154 ic_0 ?_
        refine bw_aload_n (pc := 155) C 1 dX5_takes_155 rfl rfl ?_
        refine bw_getR (pc := 156) (q := 0) (k0 := 10) C ltM_0 shM_0 rfl inX5 mw_625 (by decide) rfl dX5_takes_156 ?_
        refine bw_iload_n (pc := 159) C 3 dX5_takes_159 rfl rfl ?_
        obtain ⟨qv7, v7, ev7, h⟩ := bw_rd_o h
        refine bw_iald (pc := 160) (q := 6) C ltM_6 shM_6 qv7 ev7 dX5_takes_160 ?_
        refine bw_iconst (pc := 161) (v := (2 : Int32)) C dX5_takes_161 ic_2 ?_
        refine bw_icmp_ne (pc := 162) C 169 dX5_takes_162 (by decide) h (fun h => ?_) (fun h => ?_)
        · refine bw_aload_n (pc := 169) C 2 dX5_takes_169 rfl rfl ?_
          refine bw_iconst (pc := 170) (v := (0 : Int32)) C dX5_takes_170 ic_0 ?_
          obtain ⟨qv8, v8, ev8, h⟩ := bw_rd_o h
          refine bw_iald (pc := 171) (q := x1) C g1 i1 qv8 ev8 dX5_takes_171 ?_
          refine bw_pick [1, 2, 3] rfl ?_
          exact tX5_takes_172 C x1 n1 x2 g1 i1 (0 : Int32) v8 M rr zz h
        · refine bw_iconst (pc := 165) (v := (0 : Int32)) C dX5_takes_165 ic_0 ?_
          refine bw_goto (pc := 166) C 172 dX5_takes_166 (by decide) ?_
          refine bw_pick [1, 2, 3] rfl ?_
          exact tX5_takes_172 C x1 n1 x2 g1 i1 (0 : Int32) (0 : Int32) M rr zz h
      · refine bw_aload_n (pc := 124) C 2 dX5_takes_124 rfl rfl ?_
        refine bw_iconst (pc := 125) (v := (5 : Int32)) C dX5_takes_125 ic_5 ?_
        refine bw_iload_n (pc := 126) C 3 dX5_takes_126 rfl rfl ?_
        refine bw_iadd (pc := 127) C dX5_takes_127 ?_
        refine bw_dup2 (pc := 128) C dX5_takes_128 rfl rfl ?_
        obtain ⟨qv10, v10, ev10, h⟩ := bw_rd_o h
        refine bw_iald (pc := 129) (q := x1) C g1 i1 qv10 ev10 dX5_takes_129 ?_
        refine bw_iload_n (pc := 130) C 0 dX5_takes_130 rfl rfl ?_
        refine bw_aload_n (pc := 131) C 2 dX5_takes_131 rfl rfl ?_
        refine bw_iconst (pc := 132) (v := (0 : Int32)) C dX5_takes_132 ic_0 ?_
        obtain ⟨qv11, v11, ev11, h⟩ := bw_rd_o h
        refine bw_iald (pc := 133) (q := x1) C g1 i1 qv11 ev11 dX5_takes_133 ?_
        refine bw_isub (pc := 134) C dX5_takes_134 ?_
        refine bw_isub (pc := 135) C dX5_takes_135 ?_
        obtain ⟨qM12, M12, eM12, h⟩ := bw_wr_o h
        refine bw_iast (pc := 136) (q := x1) C g1 i1 qM12 eM12 dX5_takes_136 ?_
        refine bw_aload_n (pc := 137) C 2 dX5_takes_137 rfl rfl ?_
        refine bw_iconst (pc := 138) (v := (0 : Int32)) C dX5_takes_138 ic_0 ?_
        refine bw_iconst (pc := 139) (v := (0 : Int32)) C dX5_takes_139 ic_0 ?_
        obtain ⟨qM13, M13, eM13, h⟩ := bw_wr_o h
        refine bw_iast (pc := 140) (q := x1) C g1 i1 qM13 eM13 dX5_takes_140 ?_
        refine bw_aload_n (pc := 141) C 2 dX5_takes_141 rfl rfl ?_
        refine bw_bipush (pc := 142) (v := (11 : Int32)) C dX5_takes_142 bi_11 ?_
        refine bw_iload_n (pc := 144) C 3 dX5_takes_144 rfl rfl ?_
        refine bw_iadd (pc := 145) C dX5_takes_145 ?_
        refine bw_dup2 (pc := 146) C dX5_takes_146 rfl rfl ?_
        obtain ⟨qv14, v14, ev14, h⟩ := bw_rd_o h
        refine bw_iald (pc := 147) (q := x1) C g1 i1 qv14 ev14 dX5_takes_147 ?_
        refine bw_iconst (pc := 148) (v := (1 : Int32)) C dX5_takes_148 ic_1 ?_
        refine bw_iadd (pc := 149) C dX5_takes_149 ?_
        obtain ⟨qM15, M15, eM15, h⟩ := bw_wr_o h
        refine bw_iast (pc := 150) (q := x1) C g1 i1 qM15 eM15 dX5_takes_150 ?_
        refine bw_iconst (pc := 151) (v := (1 : Int32)) C dX5_takes_151 ic_1 ?_
        exact bw_iretz (pc := 152) C nz_1 dX5_takes_152 h
    · refine bw_aload_n (pc := 43) C 2 dX5_takes_43 rfl rfl ?_
      refine bw_iconst (pc := 44) (v := (0 : Int32)) C dX5_takes_44 ic_0 ?_
      refine bw_dup2 (pc := 45) C dX5_takes_45 rfl rfl ?_
      obtain ⟨qv16, v16, ev16, h⟩ := bw_rd_o h
      refine bw_iald (pc := 46) (q := x1) C g1 i1 qv16 ev16 dX5_takes_46 ?_
      refine bw_iload_n (pc := 47) C 0 dX5_takes_47 rfl rfl ?_
      refine bw_isub (pc := 48) C dX5_takes_48 ?_
      obtain ⟨qM17, M17, eM17, h⟩ := bw_wr_o h
      refine bw_iast (pc := 49) (q := x1) C g1 i1 qM17 eM17 dX5_takes_49 ?_
      refine bw_aload_n (pc := 50) C 1 dX5_takes_50 rfl rfl ?_
      refine bw_getR (pc := 51) (q := 0) (k0 := 10) C ltM_0 shM_0 rfl inX5 mw_625 (by decide) rfl dX5_takes_51 ?_
      refine bw_iload_n (pc := 54) C 3 dX5_takes_54 rfl rfl ?_
      obtain ⟨qv18, v18, ev18, h⟩ := bw_rd_o h
      refine bw_iald (pc := 55) (q := 6) C ltM_6 shM_6 qv18 ev18 dX5_takes_55 ?_
      refine bw_iconst (pc := 56) (v := (1 : Int32)) C dX5_takes_56 ic_1 ?_
      obtain ⟨v19, ev19, h⟩ := bw_cl_o h
      refine bw_cSi (pc := 57) (As := [.int v18, .int (1 : Int32)]) (rest := []) C (tX5_isOf l v18 (1 : Int32) M17 v19 ev19) msX5_isOf mw_822 rfl rfl ⟨Nat.le_of_ble_eq_true rfl, Nat.le_of_ble_eq_true rfl⟩ rfl rfl rfl (Nat.le_of_ble_eq_true rfl) dX5_takes_57 ?_
      refine bw_if_eq (pc := 60) C 99 dX5_takes_60 (by decide) h (fun h => ?_) (fun h => ?_)
      · refine bw_pick [1, 2, 3] rfl ?_
        exact tX5_takes_99 C x1 n1 x2 g1 i1 M17 rr zz h
      · refine bw_aload_n (pc := 63) C 2 dX5_takes_63 rfl rfl ?_
        refine bw_iconst (pc := 64) (v := (0 : Int32)) C dX5_takes_64 ic_0 ?_
        obtain ⟨qv22, v22, ev22, h⟩ := bw_rd_o h
        refine bw_iald (pc := 65) (q := x1) C g1 i1 qv22 ev22 dX5_takes_65 ?_
        refine bw_if_le (pc := 66) C 99 dX5_takes_66 (by decide) h (fun h => ?_) (fun h => ?_)
        · refine bw_pick [1, 2, 3] rfl ?_
          exact tX5_takes_99 C x1 n1 x2 g1 i1 M17 rr zz h
        · refine bw_aload_n (pc := 69) C 2 dX5_takes_69 rfl rfl ?_
          refine bw_iconst (pc := 70) (v := (0 : Int32)) C dX5_takes_70 ic_0 ?_
          refine bw_dup2 (pc := 71) C dX5_takes_71 rfl rfl ?_
          obtain ⟨qv23, v23, ev23, h⟩ := bw_rd_o h
          refine bw_iald (pc := 72) (q := x1) C g1 i1 qv23 ev23 dX5_takes_72 ?_
          refine bw_iconst (pc := 73) (v := (1 : Int32)) C dX5_takes_73 ic_1 ?_
          refine bw_isub (pc := 74) C dX5_takes_74 ?_
          obtain ⟨qM24, M24, eM24, h⟩ := bw_wr_o h
          refine bw_iast (pc := 75) (q := x1) C g1 i1 qM24 eM24 dX5_takes_75 ?_
          refine bw_aload_n (pc := 76) C 2 dX5_takes_76 rfl rfl ?_
          refine bw_iconst (pc := 77) (v := (5 : Int32)) C dX5_takes_77 ic_5 ?_
          refine bw_iload_n (pc := 78) C 3 dX5_takes_78 rfl rfl ?_
          refine bw_iadd (pc := 79) C dX5_takes_79 ?_
          refine bw_dup2 (pc := 80) C dX5_takes_80 rfl rfl ?_
          obtain ⟨qv25, v25, ev25, h⟩ := bw_rd_o h
          refine bw_iald (pc := 81) (q := x1) C g1 i1 qv25 ev25 dX5_takes_81 ?_
          refine bw_aload_n (pc := 82) C 2 dX5_takes_82 rfl rfl ?_
          refine bw_iconst (pc := 83) (v := (5 : Int32)) C dX5_takes_83 ic_5 ?_
          refine bw_iload_n (pc := 84) C 3 dX5_takes_84 rfl rfl ?_
          refine bw_iadd (pc := 85) C dX5_takes_85 ?_
          obtain ⟨qv26, v26, ev26, h⟩ := bw_rd_o h
          refine bw_iald (pc := 86) (q := x1) C g1 i1 qv26 ev26 dX5_takes_86 ?_
          refine bw_bipush (pc := 87) (v := (20 : Int32)) C dX5_takes_87 bi_20 ?_
          refine bw_icmp_ge (pc := 89) C 96 dX5_takes_89 (by decide) h (fun h => ?_) (fun h => ?_)
          · refine bw_iconst (pc := 96) (v := (0 : Int32)) C dX5_takes_96 ic_0 ?_
            refine bw_pick [1, 2, 3] rfl ?_
            exact tX5_takes_97 C x1 n1 x2 g1 i1 ((5 : Int32) + x2) v25 (0 : Int32) M24 rr zz h
          · refine bw_iconst (pc := 92) (v := (1 : Int32)) C dX5_takes_92 ic_1 ?_
            refine bw_goto (pc := 93) C 97 dX5_takes_93 (by decide) ?_
            refine bw_pick [1, 2, 3] rfl ?_
            exact tX5_takes_97 C x1 n1 x2 g1 i1 ((5 : Int32) + x2) v25 (1 : Int32) M24 rr zz h
  · refine bw_iconst (pc := 34) (v := (0 : Int32)) C dX5_takes_34 ic_0 ?_
    exact bw_iretz (pc := 35) C nz_0 dX5_takes_35 h
def fX5_takes (x1 : Nat) (n1 : Nat) (x2 : Int32) (M : bw_M) : Option (Int32 × bw_M) :=
  bw_rd M x1 n1 (4 : Int32) fun v1 =>
  bw_cl (fX5_has v1 x2) fun v2 =>
  if v2 = 0 then
  fX5_takes_23 x1 n1 x2 M
  else
  bw_rd M x1 n1 (0 : Int32) fun v28 =>
  if v28 ≤ 0 then
  fX5_takes_23 x1 n1 x2 M
  else
  bw_rd M x1 n1 (0 : Int32) fun v29 =>
  bw_wr M x1 n1 (0 : Int32) (v29 - (1 : Int32)) fun M30 =>
  fX5_takes_23 x1 n1 x2 M30
theorem tX5_takes (l : Launch) (x1 : Nat) (n1 : Nat) (x2 : Int32) (g1 : x1 < 19) (i1 : bw_shM x1 = .inr (.inl (0, n1))) (M : bw_M) (rr : Int32) (zz : bw_M) (h : fX5_takes x1 n1 x2 M = some (rr, zz)) : bw_CI l bw_shM 19 yX5_takes cX5_takes 4 (some .boolean) rmX5_takes (fun ρ => [.ref (ρ 0), .ref (ρ x1), .int x2]) M rr zz := by
  refine bw_inI (Lf := fun ρ => [(0, .ref (ρ 0)), (1, .ref (ρ x1)), (2, .int x2)]) cX5_takes 4 (some .boolean) RX5 pn_X5 rfl (fun ρ => Nat.le_of_ble_eq_true rfl) (fun ρ => rfl) ?_
  intro p e s m args below meth c D kT ρ C
  unfold fX5_takes at h
  refine bw_aload_n (pc := 0) C 1 dX5_takes_0 rfl rfl ?_
  refine bw_iconst (pc := 1) (v := (4 : Int32)) C dX5_takes_1 ic_4 ?_
  obtain ⟨qv1, v1, ev1, h⟩ := bw_rd_o h
  refine bw_iald (pc := 2) (q := x1) C g1 i1 qv1 ev1 dX5_takes_2 ?_
  refine bw_iload_n (pc := 3) C 2 dX5_takes_3 rfl rfl ?_
  obtain ⟨v2, ev2, h⟩ := bw_cl_o h
  refine bw_cSi (pc := 4) (As := [.int v1, .int x2]) (rest := []) C (tX5_has l v1 x2 M v2 ev2) msX5_has mw_815 rfl rfl ⟨Nat.le_of_ble_eq_true rfl, Nat.le_of_ble_eq_true rfl⟩ rfl rfl rfl (Nat.le_of_ble_eq_true rfl) dX5_takes_4 ?_
  refine bw_if_eq (pc := 7) C 23 dX5_takes_7 (by decide) h (fun h => ?_) (fun h => ?_)
  · refine bw_pick [0, 1, 2] rfl ?_
    exact tX5_takes_23 C x1 n1 x2 g1 i1 M rr zz h
  · refine bw_aload_n (pc := 10) C 1 dX5_takes_10 rfl rfl ?_
    refine bw_iconst (pc := 11) (v := (0 : Int32)) C dX5_takes_11 ic_0 ?_
    obtain ⟨qv28, v28, ev28, h⟩ := bw_rd_o h
    refine bw_iald (pc := 12) (q := x1) C g1 i1 qv28 ev28 dX5_takes_12 ?_
    refine bw_if_le (pc := 13) C 23 dX5_takes_13 (by decide) h (fun h => ?_) (fun h => ?_)
    · refine bw_pick [0, 1, 2] rfl ?_
      exact tX5_takes_23 C x1 n1 x2 g1 i1 M rr zz h
    · refine bw_aload_n (pc := 16) C 1 dX5_takes_16 rfl rfl ?_
      refine bw_iconst (pc := 17) (v := (0 : Int32)) C dX5_takes_17 ic_0 ?_
      refine bw_dup2 (pc := 18) C dX5_takes_18 rfl rfl ?_
      obtain ⟨qv29, v29, ev29, h⟩ := bw_rd_o h
      refine bw_iald (pc := 19) (q := x1) C g1 i1 qv29 ev29 dX5_takes_19 ?_
      refine bw_iconst (pc := 20) (v := (1 : Int32)) C dX5_takes_20 ic_1 ?_
      refine bw_isub (pc := 21) C dX5_takes_21 ?_
      obtain ⟨qM30, M30, eM30, h⟩ := bw_wr_o h
      refine bw_iast (pc := 22) (q := x1) C g1 i1 qM30 eM30 dX5_takes_22 ?_
      refine bw_pick [0, 1, 2] rfl ?_
      exact tX5_takes_23 C x1 n1 x2 g1 i1 M30 rr zz h
/-! X5_goes -/
abbrev rmX5_goes : Room := { frames := 3, cells := 0, slots := 0, locals := 67 }
theorem msX5_goes : bw_MV yX5_goes cX5_goes 4 (some .int) RX5 1 := ⟨mw_842, mw_1106, mw_6, mw_843, by decide +kernel⟩
def fX5_goes_55 (N : Nat) (x1 : Nat) (n1 : Nat) (k19 : Int32 × Int32 × bw_M → Option (Int32 × bw_M)) (x2 : Int32) (x3 : Int32) (M : bw_M) : Option (Int32 × bw_M) :=
  bw_mv (x3 + 1) fun v10 =>
  k19 (x2, v10, M)
theorem tX5_goes_55 {p : Program} {l : Launch} {e : Env} {s : State} {m : MethodId} {args : Array Value} {below : List Frame} {meth : Method} {c : Code} {D : va_G} {kT : Nat → ClassId} {ρ : Nat → Nat} (C : bw_Cx p s m args meth c cX5_goes 4 RX5 19 D kT ρ (some .int)) (N : Nat) (x1 : Nat) (n1 : Nat) (g1 : x1 < 19) (i1 : bw_shM x1 = .inr (.inl (0, n1))) (k19 : Int32 × Int32 × bw_M → Option (Int32 × bw_M)) (x2 : Int32) (x3 : Int32) (M : bw_M) (rr : Int32) (zz : bw_M) (hk19 : ∀ z0, k19 z0 = some (rr, zz) → bw_At p l e rmX5_goes s m args below meth c (MQ below (bw_QI bw_shM 19 D kT ρ rr zz) args s 0 0 (bw_A ρ 19)) bw_shM 19 D kT ρ 4 19 [(0, .ref (ρ 0)), (1, .ref (ρ x1)), (2, .int z0.1), (3, .int z0.2.1)] [] z0.2.2) (h : fX5_goes_55 N x1 n1 k19 x2 x3 M = some (rr, zz)) : bw_At p l e rmX5_goes s m args below meth c (MQ below (bw_QI bw_shM 19 D kT ρ rr zz) args s 0 0 (bw_A ρ 19)) bw_shM 19 D kT ρ 4 55 [(0, .ref (ρ 0)), (1, .ref (ρ x1)), (2, .int x2), (3, .int x3)] [] M := by
  unfold fX5_goes_55 at h
  obtain ⟨v10, ev10, h⟩ := bw_mv_o h
  refine bw_iinc (pc := 55) (x := v10) (L' := [(3, .int v10), (0, .ref (ρ 0)), (1, .ref (ρ x1)), (2, .int x2)]) C 3 dX5_goes_55 rfl ev10.symm (by decide) rfl ?_
  refine bw_goto (pc := 58) C 19 dX5_goes_58 (by decide) ?_
  refine bw_pick [1, 2, 3, 0] rfl ?_
  exact hk19 (x2, v10, M) h
def fX5_goes_53 (N : Nat) (x1 : Nat) (n1 : Nat) (k19 : Int32 × Int32 × bw_M → Option (Int32 × bw_M)) (x3 : Int32) (s0 : Int32) (s1 : Int32) (M : bw_M) : Option (Int32 × bw_M) :=
  bw_mv (s0 ||| s1) fun v13 =>
  fX5_goes_55 N x1 n1 k19 v13 x3 M
theorem tX5_goes_53 {p : Program} {l : Launch} {e : Env} {s : State} {m : MethodId} {args : Array Value} {below : List Frame} {meth : Method} {c : Code} {D : va_G} {kT : Nat → ClassId} {ρ : Nat → Nat} (C : bw_Cx p s m args meth c cX5_goes 4 RX5 19 D kT ρ (some .int)) (N : Nat) (x1 : Nat) (n1 : Nat) (g1 : x1 < 19) (i1 : bw_shM x1 = .inr (.inl (0, n1))) (k19 : Int32 × Int32 × bw_M → Option (Int32 × bw_M)) (x3 : Int32) (s0 : Int32) (s1 : Int32) (M : bw_M) (rr : Int32) (zz : bw_M) (hk19 : ∀ z0, k19 z0 = some (rr, zz) → bw_At p l e rmX5_goes s m args below meth c (MQ below (bw_QI bw_shM 19 D kT ρ rr zz) args s 0 0 (bw_A ρ 19)) bw_shM 19 D kT ρ 4 19 [(0, .ref (ρ 0)), (1, .ref (ρ x1)), (2, .int z0.1), (3, .int z0.2.1)] [] z0.2.2) (h : fX5_goes_53 N x1 n1 k19 x3 s0 s1 M = some (rr, zz)) : bw_At p l e rmX5_goes s m args below meth c (MQ below (bw_QI bw_shM 19 D kT ρ rr zz) args s 0 0 (bw_A ρ 19)) bw_shM 19 D kT ρ 4 53 [(0, .ref (ρ 0)), (1, .ref (ρ x1)), (3, .int x3)] [.int s1, .int s0] M := by
  unfold fX5_goes_53 at h
  refine bw_ior (pc := 53) C dX5_goes_53 ?_
  obtain ⟨v13, ev13, h⟩ := bw_mv_o h
  refine bw_nmI ev13 ?_
  refine bw_istore_n (pc := 54) (L' := [(2, .int v13), (0, .ref (ρ 0)), (1, .ref (ρ x1)), (3, .int x3)]) C dX5_goes_54 rfl (by decide) rfl ?_
  refine bw_pick [1, 2, 0, 3] rfl ?_
  exact tX5_goes_55 C N x1 n1 g1 i1 k19 v13 x3 M rr zz hk19 h
def fX5_goes_19 (N : Nat) (x1 : Nat) (n1 : Nat) (k19 : Int32 × Int32 × bw_M → Option (Int32 × bw_M)) (x2 : Int32) (x3 : Int32) (M : bw_M) : Option (Int32 × bw_M) :=
  if (M.1 0 9) ≤ x3 then
  bw_rd M x1 n1 (2 : Int32) fun v7 =>
  bw_wr M x1 n1 (2 : Int32) (v7 + (1 : Int32)) fun M8 =>
  some (x2, M8)
  else
  bw_cl (fX5_isCutOff N x1 n1 x3 M) fun v9 =>
  if v9 = 0 then
  bw_c2 (fX5_takes x1 n1 x3 M) fun v11 M12 =>
  if v11 = 0 then
  fX5_goes_53 N x1 n1 k19 x3 x2 (0 : Int32) M12
  else
  fX5_goes_53 N x1 n1 k19 x3 x2 ((1 : Int32) <<< (x3 &&& 31)) M12
  else
  fX5_goes_55 N x1 n1 k19 x2 x3 M
theorem tX5_goes_19 {p : Program} {l : Launch} {e : Env} {s : State} {m : MethodId} {args : Array Value} {below : List Frame} {meth : Method} {c : Code} {D : va_G} {kT : Nat → ClassId} {ρ : Nat → Nat} (C : bw_Cx p s m args meth c cX5_goes 4 RX5 19 D kT ρ (some .int)) (N : Nat) (x1 : Nat) (n1 : Nat) (g1 : x1 < 19) (i1 : bw_shM x1 = .inr (.inl (0, n1))) (k19 : Int32 × Int32 × bw_M → Option (Int32 × bw_M)) (x2 : Int32) (x3 : Int32) (M : bw_M) (rr : Int32) (zz : bw_M) (hk19 : ∀ z0, k19 z0 = some (rr, zz) → bw_At p l e rmX5_goes s m args below meth c (MQ below (bw_QI bw_shM 19 D kT ρ rr zz) args s 0 0 (bw_A ρ 19)) bw_shM 19 D kT ρ 4 19 [(0, .ref (ρ 0)), (1, .ref (ρ x1)), (2, .int z0.1), (3, .int z0.2.1)] [] z0.2.2) (h : fX5_goes_19 N x1 n1 k19 x2 x3 M = some (rr, zz)) : bw_At p l e rmX5_goes s m args below meth c (MQ below (bw_QI bw_shM 19 D kT ρ rr zz) args s 0 0 (bw_A ρ 19)) bw_shM 19 D kT ρ 4 19 [(0, .ref (ρ 0)), (1, .ref (ρ x1)), (2, .int x2), (3, .int x3)] [] M := by
  unfold fX5_goes_19 at h
  refine bw_iload_n (pc := 19) C 3 dX5_goes_19 rfl rfl ?_
  refine bw_aload_n (pc := 20) C 0 dX5_goes_20 rfl rfl ?_
  refine bw_getI (pc := 21) (q := 0) (k0 := 9) C ltM_0 shM_0 rfl inX5 mw_624 (by decide) rfl dX5_goes_21 ?_
  refine bw_icmp_ge (pc := 24) C 61 dX5_goes_24 (by decide) h (fun h => ?_) (fun h => ?_)
  · refine bw_aload_n (pc := 61) C 1 dX5_goes_61 rfl rfl ?_
    refine bw_iconst (pc := 62) (v := (2 : Int32)) C dX5_goes_62 ic_2 ?_
    refine bw_dup2 (pc := 63) C dX5_goes_63 rfl rfl ?_
    obtain ⟨qv7, v7, ev7, h⟩ := bw_rd_o h
    refine bw_iald (pc := 64) (q := x1) C g1 i1 qv7 ev7 dX5_goes_64 ?_
    refine bw_iconst (pc := 65) (v := (1 : Int32)) C dX5_goes_65 ic_1 ?_
    refine bw_iadd (pc := 66) C dX5_goes_66 ?_
    obtain ⟨qM8, M8, eM8, h⟩ := bw_wr_o h
    refine bw_iast (pc := 67) (q := x1) C g1 i1 qM8 eM8 dX5_goes_67 ?_
    refine bw_iload_n (pc := 68) C 2 dX5_goes_68 rfl rfl ?_
    exact bw_ireti (pc := 69) C dX5_goes_69 h
  · refine bw_aload_n (pc := 27) C 0 dX5_goes_27 rfl rfl ?_
    refine bw_aload_n (pc := 28) C 1 dX5_goes_28 rfl rfl ?_
    refine bw_iload_n (pc := 29) C 3 dX5_goes_29 rfl rfl ?_
    obtain ⟨v9, ev9, h⟩ := bw_cl_o h
    refine bw_cVi (pc := 30) (q := 0) (As := [.ref (ρ x1), .int x3]) (rest := []) C (tX5_isCutOff l N x1 n1 x3 g1 i1 M v9 ev9) msX5_isCutOff mw_811 rfl rfl ⟨Nat.le_of_ble_eq_true rfl, Nat.le_of_ble_eq_true rfl⟩ ltM_0 shM_0 rfl rfl rfl rfl (Nat.le_of_ble_eq_true rfl) dX5_goes_30 ?_
    refine bw_if_ne (pc := 33) C 55 dX5_goes_33 (by decide) h (fun h => ?_) (fun h => ?_)
    · refine bw_pick [0, 1, 2, 3] rfl ?_
      exact tX5_goes_55 C N x1 n1 g1 i1 k19 x2 x3 M rr zz hk19 h
    · refine bw_iload_n (pc := 36) C 2 dX5_goes_36 rfl rfl ?_
      refine bw_aload_n (pc := 37) C 0 dX5_goes_37 rfl rfl ?_
      refine bw_aload_n (pc := 38) C 1 dX5_goes_38 rfl rfl ?_
      refine bw_iload_n (pc := 39) C 3 dX5_goes_39 rfl rfl ?_
      obtain ⟨v11, M12, ev11, h⟩ := bw_c2_o h
      refine bw_cVi (pc := 40) (q := 0) (As := [.ref (ρ x1), .int x3]) (rest := [.int x2]) C (tX5_takes l x1 n1 x3 g1 i1 M v11 M12 ev11) msX5_takes mw_847 rfl rfl ⟨Nat.le_of_ble_eq_true rfl, Nat.le_of_ble_eq_true rfl⟩ ltM_0 shM_0 rfl rfl rfl rfl (Nat.le_of_ble_eq_true rfl) dX5_goes_40 ?_
      refine bw_if_eq (pc := 43) C 52 dX5_goes_43 (by decide) h (fun h => ?_) (fun h => ?_)
      · refine bw_iconst (pc := 52) (v := (0 : Int32)) C dX5_goes_52 ic_0 ?_
        refine bw_pick [0, 1, 3] rfl ?_
        exact tX5_goes_53 C N x1 n1 g1 i1 k19 x3 x2 (0 : Int32) M12 rr zz hk19 h
      · refine bw_iconst (pc := 46) (v := (1 : Int32)) C dX5_goes_46 ic_1 ?_
        refine bw_iload_n (pc := 47) C 3 dX5_goes_47 rfl rfl ?_
        refine bw_ishl (pc := 48) C dX5_goes_48 ?_
        refine bw_goto (pc := 49) C 53 dX5_goes_49 (by decide) ?_
        refine bw_pick [0, 1, 3] rfl ?_
        exact tX5_goes_53 C N x1 n1 g1 i1 k19 x3 x2 ((1 : Int32) <<< (x3 &&& 31)) M12 rr zz hk19 h
def flX5_goes_19 (N : Nat) (x1 : Nat) (n1 : Nat)    (fu : Nat) (w : Int32 × Int32 × bw_M) : Option (Int32 × bw_M) := bw_lp (fun kk w => fX5_goes_19 N x1 n1 kk w.1 w.2.1 w.2.2) fu w
theorem tlX5_goes_19 {p : Program} {l : Launch} {e : Env} {s : State} {m : MethodId} {args : Array Value} {below : List Frame} {meth : Method} {c : Code} {D : va_G} {kT : Nat → ClassId} {ρ : Nat → Nat} (C : bw_Cx p s m args meth c cX5_goes 4 RX5 19 D kT ρ (some .int)) (N : Nat) (x1 : Nat) (n1 : Nat) (g1 : x1 < 19) (i1 : bw_shM x1 = .inr (.inl (0, n1)))    (rr : Int32) (zz : bw_M)  (fu : Nat) (w : Int32 × Int32 × bw_M) (h : flX5_goes_19 N x1 n1 fu w = some (rr, zz)) : bw_At p l e rmX5_goes s m args below meth c (MQ below (bw_QI bw_shM 19 D kT ρ rr zz) args s 0 0 (bw_A ρ 19)) bw_shM 19 D kT ρ 4 19 [(0, .ref (ρ 0)), (1, .ref (ρ x1)), (2, .int w.1), (3, .int w.2.1)] [] w.2.2 :=
  bw_loop (r := (rr, zz)) (fun w => bw_At p l e rmX5_goes s m args below meth c (MQ below (bw_QI bw_shM 19 D kT ρ rr zz) args s 0 0 (bw_A ρ 19)) bw_shM 19 D kT ρ 4 19 [(0, .ref (ρ 0)), (1, .ref (ρ x1)), (2, .int w.1), (3, .int w.2.1)] [] w.2.2) (fun kk hk w h => tX5_goes_19 C N x1 n1 g1 i1 kk w.1 w.2.1 w.2.2 rr zz hk h) fu w h
def fX5_goes (N : Nat) (x1 : Nat) (n1 : Nat) (M : bw_M) : Option (Int32 × bw_M) :=
  bw_rd M x1 n1 (0 : Int32) fun v1 =>
  bw_rd M x1 n1 (1 : Int32) fun v2 =>
  bw_cl (fX5_lesser (60 : Int32) (v1 + v2)) fun v3 =>
  bw_wr M x1 n1 (0 : Int32) v3 fun M4 =>
  bw_mv (0 : Int32) fun v5 =>
  bw_mv (0 : Int32) fun v6 =>
  flX5_goes_19 N x1 n1 N (v5, v6, M4)
theorem tX5_goes (l : Launch) (N : Nat) (x1 : Nat) (n1 : Nat) (g1 : x1 < 19) (i1 : bw_shM x1 = .inr (.inl (0, n1))) (M : bw_M) (rr : Int32) (zz : bw_M) (h : fX5_goes N x1 n1 M = some (rr, zz)) : bw_CI l bw_shM 19 yX5_goes cX5_goes 4 (some .int) rmX5_goes (fun ρ => [.ref (ρ 0), .ref (ρ x1)]) M rr zz := by
  refine bw_inI (Lf := fun ρ => [(0, .ref (ρ 0)), (1, .ref (ρ x1))]) cX5_goes 4 (some .int) RX5 pn_X5 rfl (fun ρ => Nat.le_of_ble_eq_true rfl) (fun ρ => rfl) ?_
  intro p e s m args below meth c D kT ρ C
  unfold fX5_goes at h
  refine bw_aload_n (pc := 0) C 1 dX5_goes_0 rfl rfl ?_
  refine bw_iconst (pc := 1) (v := (0 : Int32)) C dX5_goes_1 ic_0 ?_
  refine bw_bipush (pc := 2) (v := (60 : Int32)) C dX5_goes_2 bi_60 ?_
  refine bw_aload_n (pc := 4) C 1 dX5_goes_4 rfl rfl ?_
  refine bw_iconst (pc := 5) (v := (0 : Int32)) C dX5_goes_5 ic_0 ?_
  obtain ⟨qv1, v1, ev1, h⟩ := bw_rd_o h
  refine bw_iald (pc := 6) (q := x1) C g1 i1 qv1 ev1 dX5_goes_6 ?_
  refine bw_aload_n (pc := 7) C 1 dX5_goes_7 rfl rfl ?_
  refine bw_iconst (pc := 8) (v := (1 : Int32)) C dX5_goes_8 ic_1 ?_
  obtain ⟨qv2, v2, ev2, h⟩ := bw_rd_o h
  refine bw_iald (pc := 9) (q := x1) C g1 i1 qv2 ev2 dX5_goes_9 ?_
  refine bw_iadd (pc := 10) C dX5_goes_10 ?_
  obtain ⟨v3, ev3, h⟩ := bw_cl_o h
  refine bw_cSi (pc := 11) (As := [.int (60 : Int32), .int (v1 + v2)]) (rest := [.int (0 : Int32), .ref (ρ x1)]) C (tX5_lesser l (60 : Int32) (v1 + v2) M v3 ev3) msX5_lesser mw_844 rfl rfl ⟨Nat.le_of_ble_eq_true rfl, Nat.le_of_ble_eq_true rfl⟩ rfl rfl rfl (Nat.le_of_ble_eq_true rfl) dX5_goes_11 ?_
  obtain ⟨qM4, M4, eM4, h⟩ := bw_wr_o h
  refine bw_iast (pc := 14) (q := x1) C g1 i1 qM4 eM4 dX5_goes_14 ?_
  refine bw_iconst (pc := 15) (v := (0 : Int32)) C dX5_goes_15 ic_0 ?_
  obtain ⟨v5, ev5, h⟩ := bw_mv_o h
  refine bw_nmI ev5 ?_
  refine bw_istore_n (pc := 16) (L' := [(2, .int v5), (0, .ref (ρ 0)), (1, .ref (ρ x1))]) C dX5_goes_16 rfl (by decide) rfl ?_
  refine bw_iconst (pc := 17) (v := (0 : Int32)) C dX5_goes_17 ic_0 ?_
  obtain ⟨v6, ev6, h⟩ := bw_mv_o h
  refine bw_nmI ev6 ?_
  refine bw_istore_n (pc := 18) (L' := [(3, .int v6), (2, .int v5), (0, .ref (ρ 0)), (1, .ref (ρ x1))]) C dX5_goes_18 rfl (by decide) rfl ?_
  refine bw_pick [2, 3, 1, 0] rfl ?_
  exact tlX5_goes_19 C N x1 n1 g1 i1 rr zz N (v5, v6, M4) h
/-! X5_answer -/
abbrev rmX5_answer : Room := { frames := 0, cells := 0, slots := 0, locals := 0 }
theorem msX5_answer : bw_MV yX5_answer cX5_answer 3 (some .int) RX5 2 := ⟨mw_903, mw_1110, mw_6, mw_904, by decide +kernel⟩
def fX5_answer (x1 : Int32) (x2 : Int32) (M : bw_M) : Option (Int32 × bw_M) :=
  bw_mv (bw_pI M 0 4 x2) fun M1 =>
  some (x1, M1)
theorem tX5_answer (l : Launch) (x1 : Int32) (x2 : Int32)  (M : bw_M) (rr : Int32) (zz : bw_M) (h : fX5_answer x1 x2 M = some (rr, zz)) : bw_CI l bw_shM 19 yX5_answer cX5_answer 3 (some .int) rmX5_answer (fun ρ => [.ref (ρ 0), .int x1, .int x2]) M rr zz := by
  refine bw_inI (Lf := fun ρ => [(0, .ref (ρ 0)), (1, .int x1), (2, .int x2)]) cX5_answer 3 (some .int) RX5 pn_X5 rfl (fun ρ => Nat.le_of_ble_eq_true rfl) (fun ρ => rfl) ?_
  intro p e s m args below meth c D kT ρ C
  unfold fX5_answer at h
  refine bw_aload_n (pc := 0) C 0 dX5_answer_0 rfl rfl ?_
  refine bw_iload_n (pc := 1) C 2 dX5_answer_1 rfl rfl ?_
  obtain ⟨M1, eM1, h⟩ := bw_mv_o h
  refine bw_putI (pc := 2) (q := 0) (k0 := 4) C ltM_0 shM_0 rfl inX5 mw_619 (by decide) tyX5 tyX5_ok nmX5 rfl rfl rfl eM1 rfl rfl dX5_answer_2 ?_
  refine bw_iload_n (pc := 5) C 1 dX5_answer_5 rfl rfl ?_
  exact bw_ireti (pc := 6) C dX5_answer_6 h
/-! X5_air -/
abbrev rmX5_air : Room := { frames := 4, cells := 0, slots := 0, locals := 90 }
theorem msX5_air : bw_MV yX5_air cX5_air 4 (some .int) RX5 1 := ⟨mw_893, mw_894, mw_6, mw_895, by decide +kernel⟩
def fX5_air_32 (N : Nat) (x1 : Int32) (k32 : Int32 × Int32 × bw_M → Option (Int32 × bw_M)) (x2 : Int32) (x3 : Int32) (M : bw_M) : Option (Int32 × bw_M) :=
  if x1 ≤ x3 then
  bw_rd M 10 17 (0 : Int32) fun v5 =>
  bw_c2 (fX5_answer v5 x2 M) fun v6 M7 =>
  some (v6, M7)
  else
  bw_c2 (fX5_goes N 10 17 M) fun v8 M9 =>
  bw_mv (x3 + 1) fun v10 =>
  k32 (v8, v10, M9)
theorem tX5_air_32 {p : Program} {l : Launch} {e : Env} {s : State} {m : MethodId} {args : Array Value} {below : List Frame} {meth : Method} {c : Code} {D : va_G} {kT : Nat → ClassId} {ρ : Nat → Nat} (C : bw_Cx p s m args meth c cX5_air 4 RX5 19 D kT ρ (some .int)) (N : Nat) (x1 : Int32)  (k32 : Int32 × Int32 × bw_M → Option (Int32 × bw_M)) (x2 : Int32) (x3 : Int32) (M : bw_M) (rr : Int32) (zz : bw_M) (hk32 : ∀ z0, k32 z0 = some (rr, zz) → bw_At p l e rmX5_air s m args below meth c (MQ below (bw_QI bw_shM 19 D kT ρ rr zz) args s 0 0 (bw_A ρ 19)) bw_shM 19 D kT ρ 4 32 [(0, .ref (ρ 0)), (1, .int x1), (2, .int z0.1), (3, .int z0.2.1)] [] z0.2.2) (h : fX5_air_32 N x1 k32 x2 x3 M = some (rr, zz)) : bw_At p l e rmX5_air s m args below meth c (MQ below (bw_QI bw_shM 19 D kT ρ rr zz) args s 0 0 (bw_A ρ 19)) bw_shM 19 D kT ρ 4 32 [(0, .ref (ρ 0)), (1, .int x1), (2, .int x2), (3, .int x3)] [] M := by
  unfold fX5_air_32 at h
  refine bw_iload_n (pc := 32) C 3 dX5_air_32 rfl rfl ?_
  refine bw_iload_n (pc := 33) C 1 dX5_air_33 rfl rfl ?_
  refine bw_icmp_ge (pc := 34) C 52 dX5_air_34 (by decide) h (fun h => ?_) (fun h => ?_)
  · refine bw_aload_n (pc := 52) C 0 dX5_air_52 rfl rfl ?_
    refine bw_aload_n (pc := 53) C 0 dX5_air_53 rfl rfl ?_
    refine bw_getR (pc := 54) (q := 0) (k0 := 14) C ltM_0 shM_0 rfl inX5 mw_629 (by decide) rfl dX5_air_54 ?_
    refine bw_iconst (pc := 57) (v := (0 : Int32)) C dX5_air_57 ic_0 ?_
    obtain ⟨qv5, v5, ev5, h⟩ := bw_rd_o h
    refine bw_iald (pc := 58) (q := 10) C ltM_10 shM_10 qv5 ev5 dX5_air_58 ?_
    refine bw_iload_n (pc := 59) C 2 dX5_air_59 rfl rfl ?_
    obtain ⟨v6, M7, ev6, h⟩ := bw_c2_o h
    refine bw_cVi (pc := 60) (q := 0) (As := [.int v5, .int x2]) (rest := []) C (tX5_answer l v5 x2 M v6 M7 ev6) msX5_answer mw_901 rfl rfl ⟨Nat.le_of_ble_eq_true rfl, Nat.le_of_ble_eq_true rfl⟩ ltM_0 shM_0 rfl rfl rfl rfl (Nat.le_of_ble_eq_true rfl) dX5_air_60 ?_
    exact bw_ireti (pc := 63) C dX5_air_63 h
  · refine bw_aload_n (pc := 37) C 0 dX5_air_37 rfl rfl ?_
    refine bw_aload_n (pc := 38) C 0 dX5_air_38 rfl rfl ?_
    refine bw_getR (pc := 39) (q := 0) (k0 := 14) C ltM_0 shM_0 rfl inX5 mw_629 (by decide) rfl dX5_air_39 ?_
    obtain ⟨v8, M9, ev8, h⟩ := bw_c2_o h
    refine bw_cVi (pc := 42) (q := 0) (As := [.ref (ρ 10)]) (rest := []) C (tX5_goes l N 10 17 ltM_10 shM_10 M v8 M9 ev8) msX5_goes mw_840 rfl rfl ⟨Nat.le_of_ble_eq_true rfl, Nat.le_of_ble_eq_true rfl⟩ ltM_0 shM_0 rfl rfl rfl rfl (Nat.le_of_ble_eq_true rfl) dX5_air_42 ?_
    refine bw_istore_n (pc := 45) (L' := [(2, .int v8), (0, .ref (ρ 0)), (1, .int x1), (3, .int x3)]) C dX5_air_45 rfl (by decide) rfl ?_
    obtain ⟨v10, ev10, h⟩ := bw_mv_o h
    refine bw_iinc (pc := 46) (x := v10) (L' := [(3, .int v10), (2, .int v8), (0, .ref (ρ 0)), (1, .int x1)]) C 3 dX5_air_46 rfl ev10.symm (by decide) rfl ?_
    refine bw_goto (pc := 49) C 32 dX5_air_49 (by decide) ?_
    refine bw_pick [2, 3, 1, 0] rfl ?_
    exact hk32 (v8, v10, M9) h
def flX5_air_32 (N : Nat) (x1 : Int32)    (fu : Nat) (w : Int32 × Int32 × bw_M) : Option (Int32 × bw_M) := bw_lp (fun kk w => fX5_air_32 N x1 kk w.1 w.2.1 w.2.2) fu w
theorem tlX5_air_32 {p : Program} {l : Launch} {e : Env} {s : State} {m : MethodId} {args : Array Value} {below : List Frame} {meth : Method} {c : Code} {D : va_G} {kT : Nat → ClassId} {ρ : Nat → Nat} (C : bw_Cx p s m args meth c cX5_air 4 RX5 19 D kT ρ (some .int)) (N : Nat) (x1 : Int32)     (rr : Int32) (zz : bw_M)  (fu : Nat) (w : Int32 × Int32 × bw_M) (h : flX5_air_32 N x1 fu w = some (rr, zz)) : bw_At p l e rmX5_air s m args below meth c (MQ below (bw_QI bw_shM 19 D kT ρ rr zz) args s 0 0 (bw_A ρ 19)) bw_shM 19 D kT ρ 4 32 [(0, .ref (ρ 0)), (1, .int x1), (2, .int w.1), (3, .int w.2.1)] [] w.2.2 :=
  bw_loop (r := (rr, zz)) (fun w => bw_At p l e rmX5_air s m args below meth c (MQ below (bw_QI bw_shM 19 D kT ρ rr zz) args s 0 0 (bw_A ρ 19)) bw_shM 19 D kT ρ 4 32 [(0, .ref (ρ 0)), (1, .int x1), (2, .int w.1), (3, .int w.2.1)] [] w.2.2) (fun kk hk w h => tX5_air_32 C N x1 kk w.1 w.2.1 w.2.2 rr zz hk h) fu w h
def fX5_air (N : Nat) (x1 : Int32) (M : bw_M) : Option (Int32 × bw_M) :=
  bw_cl (fX5_in (Int32.toInt64 x1) (0 : Int64) (40 : Int64)) fun v1 =>
  if v1 = 0 then
  some ((-1 : Int32), M)
  else
  if (M.1 0 9) = 0 then
  some ((-4 : Int32), M)
  else
  bw_cl (fX5_layAside N M) fun M2 =>
  bw_mv (0 : Int32) fun v3 =>
  bw_mv (0 : Int32) fun v4 =>
  flX5_air_32 N x1 N (v3, v4, M2)
theorem tX5_air (l : Launch) (N : Nat) (x1 : Int32)  (M : bw_M) (rr : Int32) (zz : bw_M) (h : fX5_air N x1 M = some (rr, zz)) : bw_CI l bw_shM 19 yX5_air cX5_air 4 (some .int) rmX5_air (fun ρ => [.ref (ρ 0), .int x1]) M rr zz := by
  refine bw_inI (Lf := fun ρ => [(0, .ref (ρ 0)), (1, .int x1)]) cX5_air 4 (some .int) RX5 pn_X5 rfl (fun ρ => Nat.le_of_ble_eq_true rfl) (fun ρ => rfl) ?_
  intro p e s m args below meth c D kT ρ C
  unfold fX5_air at h
  refine bw_iload_n (pc := 0) C 1 dX5_air_0 rfl rfl ?_
  refine bw_i2l (pc := 1) C dX5_air_1 ?_
  refine bw_lconst (pc := 2) (v := (0 : Int64)) C dX5_air_2 rfl ?_
  refine bw_ldc2_w (pc := 3) C mw_896 dX5_air_3 ?_
  obtain ⟨v1, ev1, h⟩ := bw_cl_o h
  refine bw_cSi (pc := 6) (As := [.long (Int32.toInt64 x1), .long (0 : Int64), .long (40 : Int64)]) (rest := []) C (tX5_in l (Int32.toInt64 x1) (0 : Int64) (40 : Int64) M v1 ev1) msX5_in mw_717 rfl rfl ⟨Nat.le_of_ble_eq_true rfl, Nat.le_of_ble_eq_true rfl⟩ rfl rfl rfl (Nat.le_of_ble_eq_true rfl) dX5_air_6 ?_
  refine bw_if_ne (pc := 9) C 14 dX5_air_9 (by decide) h (fun h => ?_) (fun h => ?_)
  · refine bw_aload_n (pc := 14) C 0 dX5_air_14 rfl rfl ?_
    refine bw_getI (pc := 15) (q := 0) (k0 := 9) C ltM_0 shM_0 rfl inX5 mw_624 (by decide) rfl dX5_air_15 ?_
    refine bw_if_ne (pc := 18) C 24 dX5_air_18 (by decide) h (fun h => ?_) (fun h => ?_)
    · refine bw_aload_n (pc := 24) C 0 dX5_air_24 rfl rfl ?_
      obtain ⟨M2, eM2, h⟩ := bw_cl_o h
      refine bw_cVv (pc := 25) (q := 0) (As := []) (rest := []) C (tX5_layAside l N M M2 eM2) msX5_layAside mw_897 rfl rfl ⟨Nat.le_of_ble_eq_true rfl, Nat.le_of_ble_eq_true rfl⟩ ltM_0 shM_0 rfl rfl rfl rfl (Nat.le_of_ble_eq_true rfl) dX5_air_25 ?_
      refine bw_iconst (pc := 28) (v := (0 : Int32)) C dX5_air_28 ic_0 ?_
      obtain ⟨v3, ev3, h⟩ := bw_mv_o h
      refine bw_nmI ev3 ?_
      refine bw_istore_n (pc := 29) (L' := [(2, .int v3), (0, .ref (ρ 0)), (1, .int x1)]) C dX5_air_29 rfl (by decide) rfl ?_
      refine bw_iconst (pc := 30) (v := (0 : Int32)) C dX5_air_30 ic_0 ?_
      obtain ⟨v4, ev4, h⟩ := bw_mv_o h
      refine bw_nmI ev4 ?_
      refine bw_istore_n (pc := 31) (L' := [(3, .int v4), (2, .int v3), (0, .ref (ρ 0)), (1, .int x1)]) C dX5_air_31 rfl (by decide) rfl ?_
      refine bw_pick [2, 3, 1, 0] rfl ?_
      exact tlX5_air_32 C N x1 rr zz N (v3, v4, M2) h
    · refine bw_bipush (pc := 21) (v := (-4 : Int32)) C dX5_air_21 bi_m4 ?_
      exact bw_ireti (pc := 23) C dX5_air_23 h
  · refine bw_iconst (pc := 12) (v := (-1 : Int32)) C dX5_air_12 ic_m1 ?_
    exact bw_ireti (pc := 13) C dX5_air_13 h
/-! X5_bits -/
abbrev rmX5_bits : Room := { frames := 0, cells := 0, slots := 0, locals := 0 }
theorem msX5_bits : bw_MS yX5_bits cX5_bits 3 (some .int) 1 := ⟨mw_918, mw_6, mw_919, by decide +kernel⟩
def fX5_bits_4 (N : Nat) (x0 : Int32) (k4 : Int32 × Int32 → Option (Int32)) (x1 : Int32) (x2 : Int32)  : Option (Int32) :=
  if x2 = 0 then
  some x1
  else
  bw_mv (x1 + 1) fun v2 =>
  bw_mv (x2 &&& (x2 - (1 : Int32))) fun v3 =>
  k4 (v2, v3)
theorem tX5_bits_4 {p : Program} {l : Launch} {e : Env} {s : State} {m : MethodId} {args : Array Value} {below : List Frame} {meth : Method} {c : Code} {D : va_G} {kT : Nat → ClassId} {ρ : Nat → Nat} (C : bw_Cx p s m args meth c cX5_bits 3 RX5 19 D kT ρ (some .int)) (N : Nat) (x0 : Int32)  (k4 : Int32 × Int32 → Option (Int32)) (x1 : Int32) (x2 : Int32) (M : bw_M) (rr : Int32) (hk4 : ∀ z0, k4 z0 = some rr → bw_At p l e rmX5_bits s m args below meth c (MQ below (bw_QI bw_shM 19 D kT ρ rr M) args s 0 0 (bw_A ρ 19)) bw_shM 19 D kT ρ 3 4 [(0, .int x0), (1, .int z0.1), (2, .int z0.2)] [] M) (h : fX5_bits_4 N x0 k4 x1 x2 = some rr) : bw_At p l e rmX5_bits s m args below meth c (MQ below (bw_QI bw_shM 19 D kT ρ rr M) args s 0 0 (bw_A ρ 19)) bw_shM 19 D kT ρ 3 4 [(0, .int x0), (1, .int x1), (2, .int x2)] [] M := by
  unfold fX5_bits_4 at h
  refine bw_iload_n (pc := 4) C 2 dX5_bits_4 rfl rfl ?_
  refine bw_if_eq (pc := 5) C 20 dX5_bits_5 (by decide) h (fun h => ?_) (fun h => ?_)
  · refine bw_iload_n (pc := 20) C 1 dX5_bits_20 rfl rfl ?_
    exact bw_ireti (pc := 21) C dX5_bits_21 (bw_pr M h)
  · obtain ⟨v2, ev2, h⟩ := bw_mv_o h
    refine bw_iinc (pc := 8) (x := v2) (L' := [(1, .int v2), (0, .int x0), (2, .int x2)]) C 1 dX5_bits_8 rfl ev2.symm (by decide) rfl ?_
    refine bw_iload_n (pc := 11) C 2 dX5_bits_11 rfl rfl ?_
    refine bw_iload_n (pc := 12) C 2 dX5_bits_12 rfl rfl ?_
    refine bw_iconst (pc := 13) (v := (1 : Int32)) C dX5_bits_13 ic_1 ?_
    refine bw_isub (pc := 14) C dX5_bits_14 ?_
    refine bw_iand (pc := 15) C dX5_bits_15 ?_
    obtain ⟨v3, ev3, h⟩ := bw_mv_o h
    refine bw_nmI ev3 ?_
    refine bw_istore_n (pc := 16) (L' := [(2, .int v3), (1, .int v2), (0, .int x0)]) C dX5_bits_16 rfl (by decide) rfl ?_
    refine bw_goto (pc := 17) C 4 dX5_bits_17 (by decide) ?_
    refine bw_pick [2, 1, 0] rfl ?_
    exact hk4 (v2, v3) h
def flX5_bits_4 (N : Nat) (x0 : Int32)    (fu : Nat) (w : Int32 × Int32) : Option (Int32) := bw_lp (fun kk w => fX5_bits_4 N x0 kk w.1 w.2) fu w
theorem tlX5_bits_4 {p : Program} {l : Launch} {e : Env} {s : State} {m : MethodId} {args : Array Value} {below : List Frame} {meth : Method} {c : Code} {D : va_G} {kT : Nat → ClassId} {ρ : Nat → Nat} (C : bw_Cx p s m args meth c cX5_bits 3 RX5 19 D kT ρ (some .int)) (N : Nat) (x0 : Int32)    (M : bw_M) (rr : Int32)  (fu : Nat) (w : Int32 × Int32) (h : flX5_bits_4 N x0 fu w = some rr) : bw_At p l e rmX5_bits s m args below meth c (MQ below (bw_QI bw_shM 19 D kT ρ rr M) args s 0 0 (bw_A ρ 19)) bw_shM 19 D kT ρ 3 4 [(0, .int x0), (1, .int w.1), (2, .int w.2)] [] M :=
  bw_loop (r := rr) (fun w => bw_At p l e rmX5_bits s m args below meth c (MQ below (bw_QI bw_shM 19 D kT ρ rr M) args s 0 0 (bw_A ρ 19)) bw_shM 19 D kT ρ 3 4 [(0, .int x0), (1, .int w.1), (2, .int w.2)] [] M) (fun kk hk w h => tX5_bits_4 C N x0 kk w.1 w.2 M rr hk h) fu w h
def fX5_bits (N : Nat) (x0 : Int32)  : Option (Int32) :=
  bw_mv (0 : Int32) fun v1 =>
  flX5_bits_4 N x0 N (v1, x0)
theorem tX5_bits (l : Launch) (N : Nat) (x0 : Int32)  (M : bw_M) (rr : Int32) (h : fX5_bits N x0 = some rr) : bw_CI l bw_shM 19 yX5_bits cX5_bits 3 (some .int) rmX5_bits (fun ρ => [.int x0]) M rr M := by
  refine bw_inI (Lf := fun ρ => [(0, .int x0)]) cX5_bits 3 (some .int) RX5 pn_X5 rfl (fun ρ => Nat.le_of_ble_eq_true rfl) (fun ρ => rfl) ?_
  intro p e s m args below meth c D kT ρ C
  unfold fX5_bits at h
  refine bw_iconst (pc := 0) (v := (0 : Int32)) C dX5_bits_0 ic_0 ?_
  obtain ⟨v1, ev1, h⟩ := bw_mv_o h
  refine bw_nmI ev1 ?_
  refine bw_istore_n (pc := 1) (L' := [(1, .int v1), (0, .int x0)]) C dX5_bits_1 rfl (by decide) rfl ?_
  refine bw_iload_n (pc := 2) C 1 dX5_bits_2 rfl rfl ?_
  refine bw_istore_n (pc := 3) (L' := [(2, .int x0), (1, .int v1), (0, .int x0)]) C dX5_bits_3 rfl (by decide) rfl ?_
  refine bw_pick [2, 1, 0] rfl ?_
  exact tlX5_bits_4 C N x0 M rr N (v1, x0) h
/-! X5_allWays -/
abbrev rmX5_allWays : Room := { frames := 1, cells := 0, slots := 0, locals := 22 }
theorem msX5_allWays : bw_MV yX5_allWays cX5_allWays 4 (some .long) RX5 0 := ⟨mw_1002, mw_1120, mw_6, mw_1003, by decide +kernel⟩
def fX5_allWays_12 (N : Nat)  (k12 : Int64 × Int32 → Option (Int64)) (x1 : Int64) (x3 : Int32) (M : bw_M) : Option (Int64) :=
  if (M.1 0 9) ≤ x3 then
  some x1
  else
  bw_mv (x1 * (12 : Int64)) fun v4 =>
  bw_mv (x3 + 1) fun v5 =>
  k12 (v4, v5)
theorem tX5_allWays_12 {p : Program} {l : Launch} {e : Env} {s : State} {m : MethodId} {args : Array Value} {below : List Frame} {meth : Method} {c : Code} {D : va_G} {kT : Nat → ClassId} {ρ : Nat → Nat} (C : bw_Cx p s m args meth c cX5_allWays 4 RX5 19 D kT ρ (some .long)) (N : Nat)   (k12 : Int64 × Int32 → Option (Int64)) (x1 : Int64) (x3 : Int32) (M : bw_M) (rr : Int64) (hk12 : ∀ z0, k12 z0 = some rr → bw_At p l e rmX5_allWays s m args below meth c (MQ below (bw_QL bw_shM 19 D kT ρ rr M) args s 0 0 (bw_A ρ 19)) bw_shM 19 D kT ρ 4 12 [(0, .ref (ρ 0)), (1, .long z0.1), (3, .int z0.2)] [] M) (h : fX5_allWays_12 N k12 x1 x3 M = some rr) : bw_At p l e rmX5_allWays s m args below meth c (MQ below (bw_QL bw_shM 19 D kT ρ rr M) args s 0 0 (bw_A ρ 19)) bw_shM 19 D kT ρ 4 12 [(0, .ref (ρ 0)), (1, .long x1), (3, .int x3)] [] M := by
  unfold fX5_allWays_12 at h
  refine bw_iload_n (pc := 12) C 2 dX5_allWays_12 rfl rfl ?_
  refine bw_aload_n (pc := 13) C 0 dX5_allWays_13 rfl rfl ?_
  refine bw_getI (pc := 14) (q := 0) (k0 := 9) C ltM_0 shM_0 rfl inX5 mw_624 (by decide) rfl dX5_allWays_14 ?_
  refine bw_icmp_ge (pc := 17) C 32 dX5_allWays_17 (by decide) h (fun h => ?_) (fun h => ?_)
  · refine bw_lload_n (pc := 32) C 1 dX5_allWays_32 rfl rfl ?_
    exact bw_lreti (pc := 33) C dX5_allWays_33 (bw_pr M h)
  · refine bw_lload_n (pc := 20) C 1 dX5_allWays_20 rfl rfl ?_
    refine bw_ldc2_w (pc := 21) C mw_995 dX5_allWays_21 ?_
    refine bw_lmul (pc := 24) C dX5_allWays_24 ?_
    obtain ⟨v4, ev4, h⟩ := bw_mv_o h
    refine bw_nmL ev4 ?_
    refine bw_lstore_n (pc := 25) (L' := [(1, .long v4), (0, .ref (ρ 0)), (3, .int x3)]) C dX5_allWays_25 rfl (by decide) rfl ?_
    obtain ⟨v5, ev5, h⟩ := bw_mv_o h
    refine bw_iinc (pc := 26) (x := v5) (L' := [(3, .int v5), (1, .long v4), (0, .ref (ρ 0))]) C 2 dX5_allWays_26 rfl ev5.symm (by decide) rfl ?_
    refine bw_goto (pc := 29) C 12 dX5_allWays_29 (by decide) ?_
    refine bw_pick [2, 1, 0] rfl ?_
    exact hk12 (v4, v5) h
def flX5_allWays_12 (N : Nat)    (M : bw_M) (fu : Nat) (w : Int64 × Int32) : Option (Int64) := bw_lp (fun kk w => fX5_allWays_12 N kk w.1 w.2 M) fu w
theorem tlX5_allWays_12 {p : Program} {l : Launch} {e : Env} {s : State} {m : MethodId} {args : Array Value} {below : List Frame} {meth : Method} {c : Code} {D : va_G} {kT : Nat → ClassId} {ρ : Nat → Nat} (C : bw_Cx p s m args meth c cX5_allWays 4 RX5 19 D kT ρ (some .long)) (N : Nat)     (M : bw_M) (rr : Int64)  (fu : Nat) (w : Int64 × Int32) (h : flX5_allWays_12 N M fu w = some rr) : bw_At p l e rmX5_allWays s m args below meth c (MQ below (bw_QL bw_shM 19 D kT ρ rr M) args s 0 0 (bw_A ρ 19)) bw_shM 19 D kT ρ 4 12 [(0, .ref (ρ 0)), (1, .long w.1), (3, .int w.2)] [] M :=
  bw_loop (r := rr) (fun w => bw_At p l e rmX5_allWays s m args below meth c (MQ below (bw_QL bw_shM 19 D kT ρ rr M) args s 0 0 (bw_A ρ 19)) bw_shM 19 D kT ρ 4 12 [(0, .ref (ρ 0)), (1, .long w.1), (3, .int w.2)] [] M) (fun kk hk w h => tX5_allWays_12 C N kk w.1 w.2 M rr hk h) fu w h
def fX5_allWays (N : Nat)  (M : bw_M) : Option (Int64) :=
  bw_mv (1 : Int64) fun v1 =>
  bw_rd M 9 17 (4 : Int32) fun v2 =>
  bw_cl (fX5_bits N v2) fun v3 =>
  flX5_allWays_12 N M N (v1, v3)
theorem tX5_allWays (l : Launch) (N : Nat)   (M : bw_M) (rr : Int64) (h : fX5_allWays N M = some rr) : bw_CL l bw_shM 19 yX5_allWays cX5_allWays 4 (some .long) rmX5_allWays (fun ρ => [.ref (ρ 0)]) M rr M := by
  refine bw_inL (Lf := fun ρ => [(0, .ref (ρ 0))]) cX5_allWays 4 (some .long) RX5 pn_X5 rfl (fun ρ => Nat.le_of_ble_eq_true rfl) (fun ρ => rfl) ?_
  intro p e s m args below meth c D kT ρ C
  unfold fX5_allWays at h
  refine bw_lconst (pc := 0) (v := (1 : Int64)) C dX5_allWays_0 rfl ?_
  obtain ⟨v1, ev1, h⟩ := bw_mv_o h
  refine bw_nmL ev1 ?_
  refine bw_lstore_n (pc := 1) (L' := [(1, .long v1), (0, .ref (ρ 0))]) C dX5_allWays_1 rfl (by decide) rfl ?_
  refine bw_aload_n (pc := 2) C 1 dX5_allWays_2 rfl rfl ?_
  refine bw_getR (pc := 3) (q := 0) (k0 := 13) C ltM_0 shM_0 rfl inX5 mw_628 (by decide) rfl dX5_allWays_3 ?_
  refine bw_iconst (pc := 6) (v := (4 : Int32)) C dX5_allWays_6 ic_4 ?_
  obtain ⟨qv2, v2, ev2, h⟩ := bw_rd_o h
  refine bw_iald (pc := 7) (q := 9) C ltM_9 shM_9 qv2 ev2 dX5_allWays_7 ?_
  obtain ⟨v3, ev3, h⟩ := bw_cl_o h
  refine bw_cSi (pc := 8) (As := [.int v2]) (rest := []) C (tX5_bits l N v2 M v3 ev3) msX5_bits mw_917 rfl rfl ⟨Nat.le_of_ble_eq_true rfl, Nat.le_of_ble_eq_true rfl⟩ rfl rfl rfl (Nat.le_of_ble_eq_true rfl) dX5_allWays_8 ?_
  refine bw_istore_n (pc := 11) (L' := [(3, .int v3), (1, .long v1), (0, .ref (ρ 0))]) C dX5_allWays_11 rfl (by decide) rfl ?_
  refine bw_pick [2, 1, 0] rfl ?_
  exact tlX5_allWays_12 C N M rr N (v1, v3) h
/-! X5_arePipes -/
abbrev rmX5_arePipes : Room := { frames := 1, cells := 0, slots := 0, locals := 25 }
theorem msX5_arePipes : bw_MV yX5_arePipes cX5_arePipes 2 (some .boolean) RX5 1 := ⟨mw_930, mw_1111, mw_6, mw_931, by decide +kernel⟩
def fX5_arePipes (x1 : Int32) (M : bw_M) : Option (Int32) :=
  bw_cl (fX5_in (Int32.toInt64 x1) (0 : Int64) (Int32.toInt64 (((1 : Int32) <<< ((M.1 0 9) &&& 31)) - (1 : Int32)))) fun v1 =>
  bw_ck (bw_isb v1) (some v1)
theorem tX5_arePipes (l : Launch) (x1 : Int32)  (M : bw_M) (rr : Int32) (h : fX5_arePipes x1 M = some rr) : bw_CI l bw_shM 19 yX5_arePipes cX5_arePipes 2 (some .boolean) rmX5_arePipes (fun ρ => [.ref (ρ 0), .int x1]) M rr M := by
  refine bw_inI (Lf := fun ρ => [(0, .ref (ρ 0)), (1, .int x1)]) cX5_arePipes 2 (some .boolean) RX5 pn_X5 rfl (fun ρ => Nat.le_of_ble_eq_true rfl) (fun ρ => rfl) ?_
  intro p e s m args below meth c D kT ρ C
  unfold fX5_arePipes at h
  refine bw_iload_n (pc := 0) C 1 dX5_arePipes_0 rfl rfl ?_
  refine bw_i2l (pc := 1) C dX5_arePipes_1 ?_
  refine bw_lconst (pc := 2) (v := (0 : Int64)) C dX5_arePipes_2 rfl ?_
  refine bw_iconst (pc := 3) (v := (1 : Int32)) C dX5_arePipes_3 ic_1 ?_
  refine bw_aload_n (pc := 4) C 0 dX5_arePipes_4 rfl rfl ?_
  refine bw_getI (pc := 5) (q := 0) (k0 := 9) C ltM_0 shM_0 rfl inX5 mw_624 (by decide) rfl dX5_arePipes_5 ?_
  refine bw_ishl (pc := 8) C dX5_arePipes_8 ?_
  refine bw_iconst (pc := 9) (v := (1 : Int32)) C dX5_arePipes_9 ic_1 ?_
  refine bw_isub (pc := 10) C dX5_arePipes_10 ?_
  refine bw_i2l (pc := 11) C dX5_arePipes_11 ?_
  obtain ⟨v1, ev1, h⟩ := bw_cl_o h
  refine bw_cSi (pc := 12) (As := [.long (Int32.toInt64 x1), .long (0 : Int64), .long (Int32.toInt64 (((1 : Int32) <<< ((M.1 0 9) &&& 31)) - (1 : Int32)))]) (rest := []) C (tX5_in l (Int32.toInt64 x1) (0 : Int64) (Int32.toInt64 (((1 : Int32) <<< ((M.1 0 9) &&& 31)) - (1 : Int32))) M v1 ev1) msX5_in mw_717 rfl rfl ⟨Nat.le_of_ble_eq_true rfl, Nat.le_of_ble_eq_true rfl⟩ rfl rfl rfl (Nat.le_of_ble_eq_true rfl) dX5_arePipes_12 ?_
  obtain ⟨q2, h⟩ := bw_ck_o h
  exact bw_iretz (pc := 15) C (nz_b q2) dX5_arePipes_15 (bw_pr M h)
/-! X5_asked -/
abbrev rmX5_asked : Room := { frames := 0, cells := 0, slots := 0, locals := 0 }
theorem msX5_asked : bw_MV yX5_asked cX5_asked 1 (some .int) RX5 0 := ⟨mw_1024, mw_1025, mw_6, mw_1026, by decide +kernel⟩
def fX5_asked  (M : bw_M) : Option (Int32) :=
  some (M.1 0 4)
theorem tX5_asked (l : Launch)   (M : bw_M) (rr : Int32) (h : fX5_asked M = some rr) : bw_CI l bw_shM 19 yX5_asked cX5_asked 1 (some .int) rmX5_asked (fun ρ => [.ref (ρ 0)]) M rr M := by
  refine bw_inI (Lf := fun ρ => [(0, .ref (ρ 0))]) cX5_asked 1 (some .int) RX5 pn_X5 rfl (fun ρ => Nat.le_of_ble_eq_true rfl) (fun ρ => rfl) ?_
  intro p e s m args below meth c D kT ρ C
  unfold fX5_asked at h
  refine bw_aload_n (pc := 0) C 0 dX5_asked_0 rfl rfl ?_
  refine bw_getI (pc := 1) (q := 0) (k0 := 4) C ltM_0 shM_0 rfl inX5 mw_619 (by decide) rfl dX5_asked_1 ?_
  exact bw_ireti (pc := 4) C dX5_asked_4 (bw_pr M h)
/-! X5_isRow -/
abbrev rmX5_isRow : Room := { frames := 1, cells := 0, slots := 0, locals := 25 }
theorem msX5_isRow : bw_MS yX5_isRow cX5_isRow 1 (some .boolean) 1 := ⟨mw_714, mw_6, mw_715, by decide +kernel⟩
def fX5_isRow (x0 : Int32)  : Option (Int32) :=
  bw_cl (fX5_in (Int32.toInt64 x0) (0 : Int64) (5 : Int64)) fun v1 =>
  bw_ck (bw_isb v1) (some v1)
theorem tX5_isRow (l : Launch) (x0 : Int32)  (M : bw_M) (rr : Int32) (h : fX5_isRow x0 = some rr) : bw_CI l bw_shM 19 yX5_isRow cX5_isRow 1 (some .boolean) rmX5_isRow (fun ρ => [.int x0]) M rr M := by
  refine bw_inI (Lf := fun ρ => [(0, .int x0)]) cX5_isRow 1 (some .boolean) RX5 pn_X5 rfl (fun ρ => Nat.le_of_ble_eq_true rfl) (fun ρ => rfl) ?_
  intro p e s m args below meth c D kT ρ C
  unfold fX5_isRow at h
  refine bw_iload_n (pc := 0) C 0 dX5_isRow_0 rfl rfl ?_
  refine bw_i2l (pc := 1) C dX5_isRow_1 ?_
  refine bw_lconst (pc := 2) (v := (0 : Int64)) C dX5_isRow_2 rfl ?_
  refine bw_ldc2_w (pc := 3) C mw_716 dX5_isRow_3 ?_
  obtain ⟨v1, ev1, h⟩ := bw_cl_o h
  refine bw_cSi (pc := 6) (As := [.long (Int32.toInt64 x0), .long (0 : Int64), .long (5 : Int64)]) (rest := []) C (tX5_in l (Int32.toInt64 x0) (0 : Int64) (5 : Int64) M v1 ev1) msX5_in mw_717 rfl rfl ⟨Nat.le_of_ble_eq_true rfl, Nat.le_of_ble_eq_true rfl⟩ rfl rfl rfl (Nat.le_of_ble_eq_true rfl) dX5_isRow_6 ?_
  obtain ⟨q2, h⟩ := bw_ck_o h
  exact bw_iretz (pc := 9) C (nz_b q2) dX5_isRow_9 (bw_pr M h)
/-! X5_found -/
abbrev rmX5_found : Room := { frames := 0, cells := 0, slots := 0, locals := 0 }
theorem msX5_found : bw_MV yX5_found cX5_found 2 (some .int) RX5 1 := ⟨mw_722, mw_1093, mw_6, mw_723, by decide +kernel⟩
def fX5_found (x1 : Int32) (M : bw_M) : Option (Int32 × bw_M) :=
  bw_mv (bw_pI M 0 7 x1) fun M1 =>
  bw_rd M1 5 6 x1 fun v2 =>
  bw_wr M1 5 6 x1 (v2 + (1 : Int32)) fun M3 =>
  some ((-3 : Int32), M3)
theorem tX5_found (l : Launch) (x1 : Int32)  (M : bw_M) (rr : Int32) (zz : bw_M) (h : fX5_found x1 M = some (rr, zz)) : bw_CI l bw_shM 19 yX5_found cX5_found 2 (some .int) rmX5_found (fun ρ => [.ref (ρ 0), .int x1]) M rr zz := by
  refine bw_inI (Lf := fun ρ => [(0, .ref (ρ 0)), (1, .int x1)]) cX5_found 2 (some .int) RX5 pn_X5 rfl (fun ρ => Nat.le_of_ble_eq_true rfl) (fun ρ => rfl) ?_
  intro p e s m args below meth c D kT ρ C
  unfold fX5_found at h
  refine bw_aload_n (pc := 0) C 0 dX5_found_0 rfl rfl ?_
  refine bw_iload_n (pc := 1) C 1 dX5_found_1 rfl rfl ?_
  obtain ⟨M1, eM1, h⟩ := bw_mv_o h
  refine bw_putI (pc := 2) (q := 0) (k0 := 7) C ltM_0 shM_0 rfl inX5 mw_622 (by decide) tyX5 tyX5_ok nmX5 rfl rfl rfl eM1 rfl rfl dX5_found_2 ?_
  refine bw_aload_n (pc := 5) C 0 dX5_found_5 rfl rfl ?_
  refine bw_getR (pc := 6) (q := 0) (k0 := 8) C ltM_0 shM_0 rfl inX5 mw_623 (by decide) rfl dX5_found_6 ?_
  refine bw_iload_n (pc := 9) C 1 dX5_found_9 rfl rfl ?_
  refine bw_dup2 (pc := 10) C dX5_found_10 rfl rfl ?_
  obtain ⟨qv2, v2, ev2, h⟩ := bw_rd_o h
  refine bw_iald (pc := 11) (q := 5) C ltM_5 shM_5 qv2 ev2 dX5_found_11 ?_
  refine bw_iconst (pc := 12) (v := (1 : Int32)) C dX5_found_12 ic_1 ?_
  refine bw_iadd (pc := 13) C dX5_found_13 ?_
  obtain ⟨qM3, M3, eM3, h⟩ := bw_wr_o h
  refine bw_iast (pc := 14) (q := 5) C ltM_5 shM_5 qM3 eM3 dX5_found_14 ?_
  refine bw_bipush (pc := 15) (v := (-3 : Int32)) C dX5_found_15 bi_m3 ?_
  exact bw_ireti (pc := 17) C dX5_found_17 h
/-! X5_tell -/
abbrev rmX5_tell : Room := { frames := 0, cells := 0, slots := 0, locals := 0 }
theorem msX5_tell : bw_MV yX5_tell cX5_tell 2 (some .int) RX5 1 := ⟨mw_730, mw_1094, mw_6, mw_731, by decide +kernel⟩
def fX5_tell (x1 : Int32) (M : bw_M) : Option (Int32 × bw_M) :=
  bw_mv (bw_pI M 0 4 x1) fun M1 =>
  some ((1 : Int32), M1)
theorem tX5_tell (l : Launch) (x1 : Int32)  (M : bw_M) (rr : Int32) (zz : bw_M) (h : fX5_tell x1 M = some (rr, zz)) : bw_CI l bw_shM 19 yX5_tell cX5_tell 2 (some .int) rmX5_tell (fun ρ => [.ref (ρ 0), .int x1]) M rr zz := by
  refine bw_inI (Lf := fun ρ => [(0, .ref (ρ 0)), (1, .int x1)]) cX5_tell 2 (some .int) RX5 pn_X5 rfl (fun ρ => Nat.le_of_ble_eq_true rfl) (fun ρ => rfl) ?_
  intro p e s m args below meth c D kT ρ C
  unfold fX5_tell at h
  refine bw_aload_n (pc := 0) C 0 dX5_tell_0 rfl rfl ?_
  refine bw_iload_n (pc := 1) C 1 dX5_tell_1 rfl rfl ?_
  obtain ⟨M1, eM1, h⟩ := bw_mv_o h
  refine bw_putI (pc := 2) (q := 0) (k0 := 4) C ltM_0 shM_0 rfl inX5 mw_619 (by decide) tyX5 tyX5_ok nmX5 rfl rfl rfl eM1 rfl rfl dX5_tell_2 ?_
  refine bw_iconst (pc := 5) (v := (1 : Int32)) C dX5_tell_5 ic_1 ?_
  exact bw_ireti (pc := 6) C dX5_tell_6 h
/-! X5_at -/
abbrev rmX5_at : Room := { frames := 2, cells := 0, slots := 0, locals := 45 }
theorem msX5_at : bw_MV yX5_at cX5_at 3 (some .int) RX5 2 := ⟨mw_733, mw_734, mw_6, mw_735, by decide +kernel⟩
def fX5_at_65 (x1 : Int32) (x2 : Int32)  (s0 : Int32) (M : bw_M) : Option (Int32 × bw_M) :=
  some (s0, M)
theorem tX5_at_65 {p : Program} {l : Launch} {e : Env} {s : State} {m : MethodId} {args : Array Value} {below : List Frame} {meth : Method} {c : Code} {D : va_G} {kT : Nat → ClassId} {ρ : Nat → Nat} (C : bw_Cx p s m args meth c cX5_at 3 RX5 19 D kT ρ (some .int)) (x1 : Int32) (x2 : Int32)   (s0 : Int32) (M : bw_M) (rr : Int32) (zz : bw_M)  (h : fX5_at_65 x1 x2 s0 M = some (rr, zz)) : bw_At p l e rmX5_at s m args below meth c (MQ below (bw_QI bw_shM 19 D kT ρ rr zz) args s 0 0 (bw_A ρ 19)) bw_shM 19 D kT ρ 3 65 [(0, .ref (ρ 0)), (1, .int x1), (2, .int x2)] [.int s0] M := by
  unfold fX5_at_65 at h
  exact bw_ireti (pc := 65) C dX5_at_65 h
def fX5_at (x1 : Int32) (x2 : Int32) (M : bw_M) : Option (Int32 × bw_M) :=
  bw_cl (fX5_isRow x1) fun v1 =>
  if v1 = 0 then
  some ((-1 : Int32), M)
  else
  bw_rd M 2 6 x1 fun v2 =>
  if 0 ≤ v2 then
  bw_rd M 2 6 x1 fun v3 =>
  bw_cl (fX5_in (Int32.toInt64 x2) (0 : Int64) (Int32.toInt64 (v3 - (1 : Int32)))) fun v4 =>
  if v4 = 0 then
  bw_c2 (fX5_found (2 : Int32) M) fun v5 M6 =>
  fX5_at_65 x1 x2 v5 M6
  else
  bw_rd M 1 240 (((40 : Int32) * x1) + x2) fun v7 =>
  bw_c2 (fX5_tell v7 M) fun v8 M9 =>
  fX5_at_65 x1 x2 v8 M9
  else
  bw_c2 (fX5_found (1 : Int32) M) fun v10 M11 =>
  some (v10, M11)
theorem tX5_at (l : Launch) (x1 : Int32) (x2 : Int32)  (M : bw_M) (rr : Int32) (zz : bw_M) (h : fX5_at x1 x2 M = some (rr, zz)) : bw_CI l bw_shM 19 yX5_at cX5_at 3 (some .int) rmX5_at (fun ρ => [.ref (ρ 0), .int x1, .int x2]) M rr zz := by
  refine bw_inI (Lf := fun ρ => [(0, .ref (ρ 0)), (1, .int x1), (2, .int x2)]) cX5_at 3 (some .int) RX5 pn_X5 rfl (fun ρ => Nat.le_of_ble_eq_true rfl) (fun ρ => rfl) ?_
  intro p e s m args below meth c D kT ρ C
  unfold fX5_at at h
  refine bw_iload_n (pc := 0) C 1 dX5_at_0 rfl rfl ?_
  obtain ⟨v1, ev1, h⟩ := bw_cl_o h
  refine bw_cSi (pc := 1) (As := [.int x1]) (rest := []) C (tX5_isRow l x1 M v1 ev1) msX5_isRow mw_713 rfl rfl ⟨Nat.le_of_ble_eq_true rfl, Nat.le_of_ble_eq_true rfl⟩ rfl rfl rfl (Nat.le_of_ble_eq_true rfl) dX5_at_1 ?_
  refine bw_if_ne (pc := 4) C 9 dX5_at_4 (by decide) h (fun h => ?_) (fun h => ?_)
  · refine bw_aload_n (pc := 9) C 0 dX5_at_9 rfl rfl ?_
    refine bw_getR (pc := 10) (q := 0) (k0 := 1) C ltM_0 shM_0 rfl inX5 mw_616 (by decide) rfl dX5_at_10 ?_
    refine bw_iload_n (pc := 13) C 1 dX5_at_13 rfl rfl ?_
    obtain ⟨qv2, v2, ev2, h⟩ := bw_rd_o h
    refine bw_iald (pc := 14) (q := 2) C ltM_2 shM_2 qv2 ev2 dX5_at_14 ?_
    refine bw_if_ge (pc := 15) C 24 dX5_at_15 (by decide) h (fun h => ?_) (fun h => ?_)
    · refine bw_iload_n (pc := 24) C 2 dX5_at_24 rfl rfl ?_
      refine bw_i2l (pc := 25) C dX5_at_25 ?_
      refine bw_lconst (pc := 26) (v := (0 : Int64)) C dX5_at_26 rfl ?_
      refine bw_aload_n (pc := 27) C 0 dX5_at_27 rfl rfl ?_
      refine bw_getR (pc := 28) (q := 0) (k0 := 1) C ltM_0 shM_0 rfl inX5 mw_616 (by decide) rfl dX5_at_28 ?_
      refine bw_iload_n (pc := 31) C 1 dX5_at_31 rfl rfl ?_
      obtain ⟨qv3, v3, ev3, h⟩ := bw_rd_o h
      refine bw_iald (pc := 32) (q := 2) C ltM_2 shM_2 qv3 ev3 dX5_at_32 ?_
      refine bw_iconst (pc := 33) (v := (1 : Int32)) C dX5_at_33 ic_1 ?_
      refine bw_isub (pc := 34) C dX5_at_34 ?_
      refine bw_i2l (pc := 35) C dX5_at_35 ?_
      obtain ⟨v4, ev4, h⟩ := bw_cl_o h
      refine bw_cSi (pc := 36) (As := [.long (Int32.toInt64 x2), .long (0 : Int64), .long (Int32.toInt64 (v3 - (1 : Int32)))]) (rest := []) C (tX5_in l (Int32.toInt64 x2) (0 : Int64) (Int32.toInt64 (v3 - (1 : Int32))) M v4 ev4) msX5_in mw_717 rfl rfl ⟨Nat.le_of_ble_eq_true rfl, Nat.le_of_ble_eq_true rfl⟩ rfl rfl rfl (Nat.le_of_ble_eq_true rfl) dX5_at_36 ?_
      refine bw_if_eq (pc := 39) C 60 dX5_at_39 (by decide) h (fun h => ?_) (fun h => ?_)
      · refine bw_aload_n (pc := 60) C 0 dX5_at_60 rfl rfl ?_
        refine bw_iconst (pc := 61) (v := (2 : Int32)) C dX5_at_61 ic_2 ?_
        obtain ⟨v5, M6, ev5, h⟩ := bw_c2_o h
        refine bw_cVi (pc := 62) (q := 0) (As := [.int (2 : Int32)]) (rest := []) C (tX5_found l (2 : Int32) M v5 M6 ev5) msX5_found mw_720 rfl rfl ⟨Nat.le_of_ble_eq_true rfl, Nat.le_of_ble_eq_true rfl⟩ ltM_0 shM_0 rfl rfl rfl rfl (Nat.le_of_ble_eq_true rfl) dX5_at_62 ?_
        refine bw_pick [0, 1, 2] rfl ?_
        exact tX5_at_65 C x1 x2 v5 M6 rr zz h
      · refine bw_aload_n (pc := 42) C 0 dX5_at_42 rfl rfl ?_
        refine bw_aload_n (pc := 43) C 0 dX5_at_43 rfl rfl ?_
        refine bw_getR (pc := 44) (q := 0) (k0 := 0) C ltM_0 shM_0 rfl inX5 mw_615 (by decide) rfl dX5_at_44 ?_
        refine bw_bipush (pc := 47) (v := (40 : Int32)) C dX5_at_47 bi_40 ?_
        refine bw_iload_n (pc := 49) C 1 dX5_at_49 rfl rfl ?_
        refine bw_imul (pc := 50) C dX5_at_50 ?_
        refine bw_iload_n (pc := 51) C 2 dX5_at_51 rfl rfl ?_
        refine bw_iadd (pc := 52) C dX5_at_52 ?_
        obtain ⟨qv7, v7, ev7, h⟩ := bw_rd_o h
        refine bw_iald (pc := 53) (q := 1) C ltM_1 shM_1 qv7 ev7 dX5_at_53 ?_
        obtain ⟨v8, M9, ev8, h⟩ := bw_c2_o h
        refine bw_cVi (pc := 54) (q := 0) (As := [.int v7]) (rest := []) C (tX5_tell l v7 M v8 M9 ev8) msX5_tell mw_728 rfl rfl ⟨Nat.le_of_ble_eq_true rfl, Nat.le_of_ble_eq_true rfl⟩ ltM_0 shM_0 rfl rfl rfl rfl (Nat.le_of_ble_eq_true rfl) dX5_at_54 ?_
        refine bw_goto (pc := 57) C 65 dX5_at_57 (by decide) ?_
        refine bw_pick [0, 1, 2] rfl ?_
        exact tX5_at_65 C x1 x2 v8 M9 rr zz h
    · refine bw_aload_n (pc := 18) C 0 dX5_at_18 rfl rfl ?_
      refine bw_iconst (pc := 19) (v := (1 : Int32)) C dX5_at_19 ic_1 ?_
      obtain ⟨v10, M11, ev10, h⟩ := bw_c2_o h
      refine bw_cVi (pc := 20) (q := 0) (As := [.int (1 : Int32)]) (rest := []) C (tX5_found l (1 : Int32) M v10 M11 ev10) msX5_found mw_720 rfl rfl ⟨Nat.le_of_ble_eq_true rfl, Nat.le_of_ble_eq_true rfl⟩ ltM_0 shM_0 rfl rfl rfl rfl (Nat.le_of_ble_eq_true rfl) dX5_at_20 ?_
      exact bw_ireti (pc := 23) C dX5_at_23 h
  · refine bw_iconst (pc := 7) (v := (-1 : Int32)) C dX5_at_7 ic_m1 ?_
    exact bw_ireti (pc := 8) C dX5_at_8 h
/-! X5_copy -/
abbrev rmX5_copy : Room := { frames := 2, cells := 0, slots := 0, locals := 45 }
theorem msX5_copy : bw_MV yX5_copy cX5_copy 8 (some .int) RX5 5 := ⟨mw_741, mw_742, mw_6, mw_743, by decide +kernel⟩
def fX5_copy_14 (N : Nat) (x1 : Int32) (x2 : Int32) (x3 : Int32) (x4 : Int32) (x5 : Int32)   (M : bw_M) : Option (Int32 × bw_M) :=
  some ((-1 : Int32), M)
theorem tX5_copy_14 {p : Program} {l : Launch} {e : Env} {s : State} {m : MethodId} {args : Array Value} {below : List Frame} {meth : Method} {c : Code} {D : va_G} {kT : Nat → ClassId} {ρ : Nat → Nat} (C : bw_Cx p s m args meth c cX5_copy 8 RX5 19 D kT ρ (some .int)) (N : Nat) (x1 : Int32) (x2 : Int32) (x3 : Int32) (x4 : Int32) (x5 : Int32)    (M : bw_M) (rr : Int32) (zz : bw_M)  (h : fX5_copy_14 N x1 x2 x3 x4 x5 M = some (rr, zz)) : bw_At p l e rmX5_copy s m args below meth c (MQ below (bw_QI bw_shM 19 D kT ρ rr zz) args s 0 0 (bw_A ρ 19)) bw_shM 19 D kT ρ 8 14 [(0, .ref (ρ 0)), (1, .int x1), (2, .int x2), (3, .int x3), (4, .int x4), (5, .int x5)] [] M := by
  unfold fX5_copy_14 at h
  refine bw_iconst (pc := 14) (v := (-1 : Int32)) C dX5_copy_14 ic_m1 ?_
  exact bw_ireti (pc := 15) C dX5_copy_15 h
def fX5_copy_45 (N : Nat) (x1 : Int32) (x2 : Int32) (x3 : Int32) (x4 : Int32) (x5 : Int32)   (M : bw_M) : Option (Int32 × bw_M) :=
  bw_c2 (fX5_found (1 : Int32) M) fun v4 M5 =>
  some (v4, M5)
theorem tX5_copy_45 {p : Program} {l : Launch} {e : Env} {s : State} {m : MethodId} {args : Array Value} {below : List Frame} {meth : Method} {c : Code} {D : va_G} {kT : Nat → ClassId} {ρ : Nat → Nat} (C : bw_Cx p s m args meth c cX5_copy 8 RX5 19 D kT ρ (some .int)) (N : Nat) (x1 : Int32) (x2 : Int32) (x3 : Int32) (x4 : Int32) (x5 : Int32)    (M : bw_M) (rr : Int32) (zz : bw_M)  (h : fX5_copy_45 N x1 x2 x3 x4 x5 M = some (rr, zz)) : bw_At p l e rmX5_copy s m args below meth c (MQ below (bw_QI bw_shM 19 D kT ρ rr zz) args s 0 0 (bw_A ρ 19)) bw_shM 19 D kT ρ 8 45 [(0, .ref (ρ 0)), (1, .int x1), (2, .int x2), (3, .int x3), (4, .int x4), (5, .int x5)] [] M := by
  unfold fX5_copy_45 at h
  refine bw_aload_n (pc := 45) C 0 dX5_copy_45 rfl rfl ?_
  refine bw_iconst (pc := 46) (v := (1 : Int32)) C dX5_copy_46 ic_1 ?_
  obtain ⟨v4, M5, ev4, h⟩ := bw_c2_o h
  refine bw_cVi (pc := 47) (q := 0) (As := [.int (1 : Int32)]) (rest := []) C (tX5_found l (1 : Int32) M v4 M5 ev4) msX5_found mw_720 rfl rfl ⟨Nat.le_of_ble_eq_true rfl, Nat.le_of_ble_eq_true rfl⟩ ltM_0 shM_0 rfl rfl rfl rfl (Nat.le_of_ble_eq_true rfl) dX5_copy_47 ?_
  exact bw_ireti (pc := 50) C dX5_copy_50 h
def fX5_copy_95 (N : Nat) (x1 : Int32) (x2 : Int32) (x3 : Int32) (x4 : Int32) (x5 : Int32)   (M : bw_M) : Option (Int32 × bw_M) :=
  bw_c2 (fX5_found (2 : Int32) M) fun v7 M8 =>
  some (v7, M8)
theorem tX5_copy_95 {p : Program} {l : Launch} {e : Env} {s : State} {m : MethodId} {args : Array Value} {below : List Frame} {meth : Method} {c : Code} {D : va_G} {kT : Nat → ClassId} {ρ : Nat → Nat} (C : bw_Cx p s m args meth c cX5_copy 8 RX5 19 D kT ρ (some .int)) (N : Nat) (x1 : Int32) (x2 : Int32) (x3 : Int32) (x4 : Int32) (x5 : Int32)    (M : bw_M) (rr : Int32) (zz : bw_M)  (h : fX5_copy_95 N x1 x2 x3 x4 x5 M = some (rr, zz)) : bw_At p l e rmX5_copy s m args below meth c (MQ below (bw_QI bw_shM 19 D kT ρ rr zz) args s 0 0 (bw_A ρ 19)) bw_shM 19 D kT ρ 8 95 [(0, .ref (ρ 0)), (1, .int x1), (2, .int x2), (3, .int x3), (4, .int x4), (5, .int x5)] [] M := by
  unfold fX5_copy_95 at h
  refine bw_aload_n (pc := 95) C 0 dX5_copy_95 rfl rfl ?_
  refine bw_iconst (pc := 96) (v := (2 : Int32)) C dX5_copy_96 ic_2 ?_
  obtain ⟨v7, M8, ev7, h⟩ := bw_c2_o h
  refine bw_cVi (pc := 97) (q := 0) (As := [.int (2 : Int32)]) (rest := []) C (tX5_found l (2 : Int32) M v7 M8 ev7) msX5_found mw_720 rfl rfl ⟨Nat.le_of_ble_eq_true rfl, Nat.le_of_ble_eq_true rfl⟩ ltM_0 shM_0 rfl rfl rfl rfl (Nat.le_of_ble_eq_true rfl) dX5_copy_97 ?_
  exact bw_ireti (pc := 100) C dX5_copy_100 h
def fX5_copy_129 (N : Nat) (x1 : Int32) (x2 : Int32) (x3 : Int32) (x4 : Int32) (x5 : Int32) (k104 : Int32 × bw_M → Option (Int32 × bw_M)) (x6 : Int32) (s0 : Int32) (M : bw_M) : Option (Int32 × bw_M) :=
  bw_rd M 1 240 ((((40 : Int32) * x1) + x2) + s0) fun v12 =>
  bw_wr M 1 240 ((((40 : Int32) * x3) + x4) + s0) v12 fun M13 =>
  bw_mv (x6 + 1) fun v14 =>
  k104 (v14, M13)
theorem tX5_copy_129 {p : Program} {l : Launch} {e : Env} {s : State} {m : MethodId} {args : Array Value} {below : List Frame} {meth : Method} {c : Code} {D : va_G} {kT : Nat → ClassId} {ρ : Nat → Nat} (C : bw_Cx p s m args meth c cX5_copy 8 RX5 19 D kT ρ (some .int)) (N : Nat) (x1 : Int32) (x2 : Int32) (x3 : Int32) (x4 : Int32) (x5 : Int32)  (k104 : Int32 × bw_M → Option (Int32 × bw_M)) (x6 : Int32) (s0 : Int32) (M : bw_M) (rr : Int32) (zz : bw_M) (hk104 : ∀ z0, k104 z0 = some (rr, zz) → bw_At p l e rmX5_copy s m args below meth c (MQ below (bw_QI bw_shM 19 D kT ρ rr zz) args s 0 0 (bw_A ρ 19)) bw_shM 19 D kT ρ 8 104 [(0, .ref (ρ 0)), (1, .int x1), (2, .int x2), (3, .int x3), (4, .int x4), (5, .int x5), (6, .int z0.1)] [] z0.2) (h : fX5_copy_129 N x1 x2 x3 x4 x5 k104 x6 s0 M = some (rr, zz)) : bw_At p l e rmX5_copy s m args below meth c (MQ below (bw_QI bw_shM 19 D kT ρ rr zz) args s 0 0 (bw_A ρ 19)) bw_shM 19 D kT ρ 8 129 [(0, .ref (ρ 0)), (1, .int x1), (2, .int x2), (3, .int x3), (4, .int x4), (5, .int x5), (6, .int x6)] [.int s0] M := by
  unfold fX5_copy_129 at h
  refine bw_istore (pc := 129) (L' := [(7, .int s0), (0, .ref (ρ 0)), (1, .int x1), (2, .int x2), (3, .int x3), (4, .int x4), (5, .int x5), (6, .int x6)]) C dX5_copy_129 (by decide) rfl ?_
  refine bw_aload_n (pc := 131) C 1 dX5_copy_131 rfl rfl ?_
  refine bw_getR (pc := 132) (q := 0) (k0 := 0) C ltM_0 shM_0 rfl inX5 mw_615 (by decide) rfl dX5_copy_132 ?_
  refine bw_bipush (pc := 135) (v := (40 : Int32)) C dX5_copy_135 bi_40 ?_
  refine bw_iload_n (pc := 137) C 4 dX5_copy_137 rfl rfl ?_
  refine bw_imul (pc := 138) C dX5_copy_138 ?_
  refine bw_iload (pc := 139) C 5 dX5_copy_139 rfl ?_
  refine bw_iadd (pc := 141) C dX5_copy_141 ?_
  refine bw_iload (pc := 142) C 0 dX5_copy_142 rfl ?_
  refine bw_iadd (pc := 144) C dX5_copy_144 ?_
  refine bw_aload_n (pc := 145) C 1 dX5_copy_145 rfl rfl ?_
  refine bw_getR (pc := 146) (q := 0) (k0 := 0) C ltM_0 shM_0 rfl inX5 mw_615 (by decide) rfl dX5_copy_146 ?_
  refine bw_bipush (pc := 149) (v := (40 : Int32)) C dX5_copy_149 bi_40 ?_
  refine bw_iload_n (pc := 151) C 2 dX5_copy_151 rfl rfl ?_
  refine bw_imul (pc := 152) C dX5_copy_152 ?_
  refine bw_iload_n (pc := 153) C 3 dX5_copy_153 rfl rfl ?_
  refine bw_iadd (pc := 154) C dX5_copy_154 ?_
  refine bw_iload (pc := 155) C 0 dX5_copy_155 rfl ?_
  refine bw_iadd (pc := 157) C dX5_copy_157 ?_
  obtain ⟨qv12, v12, ev12, h⟩ := bw_rd_o h
  refine bw_iald (pc := 158) (q := 1) C ltM_1 shM_1 qv12 ev12 dX5_copy_158 ?_
  obtain ⟨qM13, M13, eM13, h⟩ := bw_wr_o h
  refine bw_iast (pc := 159) (q := 1) C ltM_1 shM_1 qM13 eM13 dX5_copy_159 ?_
  obtain ⟨v14, ev14, h⟩ := bw_mv_o h
  refine bw_iinc (pc := 160) (x := v14) (L' := [(6, .int v14), (7, .int s0), (0, .ref (ρ 0)), (1, .int x1), (2, .int x2), (3, .int x3), (4, .int x4), (5, .int x5)]) C 7 dX5_copy_160 rfl ev14.symm (by decide) rfl ?_
  refine bw_goto (pc := 163) C 104 dX5_copy_163 (by decide) ?_
  refine bw_pick [2, 3, 4, 5, 6, 7, 0] rfl ?_
  exact hk104 (v14, M13) h
def fX5_copy_104 (N : Nat) (x1 : Int32) (x2 : Int32) (x3 : Int32) (x4 : Int32) (x5 : Int32) (k104 : Int32 × bw_M → Option (Int32 × bw_M)) (x6 : Int32) (M : bw_M) : Option (Int32 × bw_M) :=
  if x5 ≤ x6 then
  some ((1 : Int32), M)
  else
  if x4 ≤ x2 then
  fX5_copy_129 N x1 x2 x3 x4 x5 k104 x6 x6 M
  else
  fX5_copy_129 N x1 x2 x3 x4 x5 k104 x6 ((x5 - (1 : Int32)) - x6) M
theorem tX5_copy_104 {p : Program} {l : Launch} {e : Env} {s : State} {m : MethodId} {args : Array Value} {below : List Frame} {meth : Method} {c : Code} {D : va_G} {kT : Nat → ClassId} {ρ : Nat → Nat} (C : bw_Cx p s m args meth c cX5_copy 8 RX5 19 D kT ρ (some .int)) (N : Nat) (x1 : Int32) (x2 : Int32) (x3 : Int32) (x4 : Int32) (x5 : Int32)  (k104 : Int32 × bw_M → Option (Int32 × bw_M)) (x6 : Int32) (M : bw_M) (rr : Int32) (zz : bw_M) (hk104 : ∀ z0, k104 z0 = some (rr, zz) → bw_At p l e rmX5_copy s m args below meth c (MQ below (bw_QI bw_shM 19 D kT ρ rr zz) args s 0 0 (bw_A ρ 19)) bw_shM 19 D kT ρ 8 104 [(0, .ref (ρ 0)), (1, .int x1), (2, .int x2), (3, .int x3), (4, .int x4), (5, .int x5), (6, .int z0.1)] [] z0.2) (h : fX5_copy_104 N x1 x2 x3 x4 x5 k104 x6 M = some (rr, zz)) : bw_At p l e rmX5_copy s m args below meth c (MQ below (bw_QI bw_shM 19 D kT ρ rr zz) args s 0 0 (bw_A ρ 19)) bw_shM 19 D kT ρ 8 104 [(0, .ref (ρ 0)), (1, .int x1), (2, .int x2), (3, .int x3), (4, .int x4), (5, .int x5), (6, .int x6)] [] M := by
  unfold fX5_copy_104 at h
  refine bw_iload (pc := 104) C 6 dX5_copy_104 rfl ?_
  refine bw_iload (pc := 106) C 5 dX5_copy_106 rfl ?_
  refine bw_icmp_ge (pc := 108) C 166 dX5_copy_108 (by decide) h (fun h => ?_) (fun h => ?_)
  · refine bw_iconst (pc := 166) (v := (1 : Int32)) C dX5_copy_166 ic_1 ?_
    exact bw_ireti (pc := 167) C dX5_copy_167 h
  · refine bw_iload (pc := 111) C 4 dX5_copy_111 rfl ?_
    refine bw_iload_n (pc := 113) C 2 dX5_copy_113 rfl rfl ?_
    refine bw_icmp_le (pc := 114) C 127 dX5_copy_114 (by decide) h (fun h => ?_) (fun h => ?_)
    · refine bw_iload (pc := 127) C 6 dX5_copy_127 rfl ?_
      refine bw_pick [0, 1, 2, 3, 4, 5, 6] rfl ?_
      exact tX5_copy_129 C N x1 x2 x3 x4 x5 k104 x6 x6 M rr zz hk104 h
    · refine bw_iload (pc := 117) C 5 dX5_copy_117 rfl ?_
      refine bw_iconst (pc := 119) (v := (1 : Int32)) C dX5_copy_119 ic_1 ?_
      refine bw_isub (pc := 120) C dX5_copy_120 ?_
      refine bw_iload (pc := 121) C 6 dX5_copy_121 rfl ?_
      refine bw_isub (pc := 123) C dX5_copy_123 ?_
      refine bw_goto (pc := 124) C 129 dX5_copy_124 (by decide) ?_
      refine bw_pick [0, 1, 2, 3, 4, 5, 6] rfl ?_
      exact tX5_copy_129 C N x1 x2 x3 x4 x5 k104 x6 ((x5 - (1 : Int32)) - x6) M rr zz hk104 h
def flX5_copy_104 (N : Nat) (x1 : Int32) (x2 : Int32) (x3 : Int32) (x4 : Int32) (x5 : Int32)    (fu : Nat) (w : Int32 × bw_M) : Option (Int32 × bw_M) := bw_lp (fun kk w => fX5_copy_104 N x1 x2 x3 x4 x5 kk w.1 w.2) fu w
theorem tlX5_copy_104 {p : Program} {l : Launch} {e : Env} {s : State} {m : MethodId} {args : Array Value} {below : List Frame} {meth : Method} {c : Code} {D : va_G} {kT : Nat → ClassId} {ρ : Nat → Nat} (C : bw_Cx p s m args meth c cX5_copy 8 RX5 19 D kT ρ (some .int)) (N : Nat) (x1 : Int32) (x2 : Int32) (x3 : Int32) (x4 : Int32) (x5 : Int32)     (rr : Int32) (zz : bw_M)  (fu : Nat) (w : Int32 × bw_M) (h : flX5_copy_104 N x1 x2 x3 x4 x5 fu w = some (rr, zz)) : bw_At p l e rmX5_copy s m args below meth c (MQ below (bw_QI bw_shM 19 D kT ρ rr zz) args s 0 0 (bw_A ρ 19)) bw_shM 19 D kT ρ 8 104 [(0, .ref (ρ 0)), (1, .int x1), (2, .int x2), (3, .int x3), (4, .int x4), (5, .int x5), (6, .int w.1)] [] w.2 :=
  bw_loop (r := (rr, zz)) (fun w => bw_At p l e rmX5_copy s m args below meth c (MQ below (bw_QI bw_shM 19 D kT ρ rr zz) args s 0 0 (bw_A ρ 19)) bw_shM 19 D kT ρ 8 104 [(0, .ref (ρ 0)), (1, .int x1), (2, .int x2), (3, .int x3), (4, .int x4), (5, .int x5), (6, .int w.1)] [] w.2) (fun kk hk w h => tX5_copy_104 C N x1 x2 x3 x4 x5 kk w.1 w.2 rr zz hk h) fu w h
def fX5_copy (N : Nat) (x1 : Int32) (x2 : Int32) (x3 : Int32) (x4 : Int32) (x5 : Int32) (M : bw_M) : Option (Int32 × bw_M) :=
  bw_cl (fX5_isRow x1) fun v1 =>
  if v1 = 0 then
  fX5_copy_14 N x1 x2 x3 x4 x5 M
  else
  bw_cl (fX5_isRow x3) fun v2 =>
  if v2 = 0 then
  fX5_copy_14 N x1 x2 x3 x4 x5 M
  else
  if 0 ≤ x5 then
  bw_rd M 2 6 x1 fun v3 =>
  if v3 < 0 then
  fX5_copy_45 N x1 x2 x3 x4 x5 M
  else
  bw_rd M 2 6 x3 fun v6 =>
  if 0 ≤ v6 then
  if x2 < 0 then
  fX5_copy_95 N x1 x2 x3 x4 x5 M
  else
  if x4 < 0 then
  fX5_copy_95 N x1 x2 x3 x4 x5 M
  else
  bw_rd M 2 6 x1 fun v9 =>
  if 0 < (lg_cmp ((Int32.toInt64 x2) + (Int32.toInt64 x5)) (Int32.toInt64 v9)) then
  fX5_copy_95 N x1 x2 x3 x4 x5 M
  else
  bw_rd M 2 6 x3 fun v10 =>
  if (lg_cmp ((Int32.toInt64 x4) + (Int32.toInt64 x5)) (Int32.toInt64 v10)) ≤ 0 then
  bw_mv (0 : Int32) fun v11 =>
  flX5_copy_104 N x1 x2 x3 x4 x5 N (v11, M)
  else
  fX5_copy_95 N x1 x2 x3 x4 x5 M
  else
  fX5_copy_45 N x1 x2 x3 x4 x5 M
  else
  bw_c2 (fX5_found (5 : Int32) M) fun v15 M16 =>
  some (v15, M16)
theorem tX5_copy (l : Launch) (N : Nat) (x1 : Int32) (x2 : Int32) (x3 : Int32) (x4 : Int32) (x5 : Int32)  (M : bw_M) (rr : Int32) (zz : bw_M) (h : fX5_copy N x1 x2 x3 x4 x5 M = some (rr, zz)) : bw_CI l bw_shM 19 yX5_copy cX5_copy 8 (some .int) rmX5_copy (fun ρ => [.ref (ρ 0), .int x1, .int x2, .int x3, .int x4, .int x5]) M rr zz := by
  refine bw_inI (Lf := fun ρ => [(0, .ref (ρ 0)), (1, .int x1), (2, .int x2), (3, .int x3), (4, .int x4), (5, .int x5)]) cX5_copy 8 (some .int) RX5 pn_X5 rfl (fun ρ => Nat.le_of_ble_eq_true rfl) (fun ρ => rfl) ?_
  intro p e s m args below meth c D kT ρ C
  unfold fX5_copy at h
  refine bw_iload_n (pc := 0) C 1 dX5_copy_0 rfl rfl ?_
  obtain ⟨v1, ev1, h⟩ := bw_cl_o h
  refine bw_cSi (pc := 1) (As := [.int x1]) (rest := []) C (tX5_isRow l x1 M v1 ev1) msX5_isRow mw_713 rfl rfl ⟨Nat.le_of_ble_eq_true rfl, Nat.le_of_ble_eq_true rfl⟩ rfl rfl rfl (Nat.le_of_ble_eq_true rfl) dX5_copy_1 ?_
  refine bw_if_eq (pc := 4) C 14 dX5_copy_4 (by decide) h (fun h => ?_) (fun h => ?_)
  · refine bw_pick [0, 1, 2, 3, 4, 5] rfl ?_
    exact tX5_copy_14 C N x1 x2 x3 x4 x5 M rr zz h
  · refine bw_iload_n (pc := 7) C 3 dX5_copy_7 rfl rfl ?_
    obtain ⟨v2, ev2, h⟩ := bw_cl_o h
    refine bw_cSi (pc := 8) (As := [.int x3]) (rest := []) C (tX5_isRow l x3 M v2 ev2) msX5_isRow mw_713 rfl rfl ⟨Nat.le_of_ble_eq_true rfl, Nat.le_of_ble_eq_true rfl⟩ rfl rfl rfl (Nat.le_of_ble_eq_true rfl) dX5_copy_8 ?_
    refine bw_if_ne (pc := 11) C 16 dX5_copy_11 (by decide) h (fun h => ?_) (fun h => ?_)
    · refine bw_iload (pc := 16) C 5 dX5_copy_16 rfl ?_
      refine bw_if_ge (pc := 18) C 27 dX5_copy_18 (by decide) h (fun h => ?_) (fun h => ?_)
      · refine bw_aload_n (pc := 27) C 0 dX5_copy_27 rfl rfl ?_
        refine bw_getR (pc := 28) (q := 0) (k0 := 1) C ltM_0 shM_0 rfl inX5 mw_616 (by decide) rfl dX5_copy_28 ?_
        refine bw_iload_n (pc := 31) C 1 dX5_copy_31 rfl rfl ?_
        obtain ⟨qv3, v3, ev3, h⟩ := bw_rd_o h
        refine bw_iald (pc := 32) (q := 2) C ltM_2 shM_2 qv3 ev3 dX5_copy_32 ?_
        refine bw_if_lt (pc := 33) C 45 dX5_copy_33 (by decide) h (fun h => ?_) (fun h => ?_)
        · refine bw_pick [0, 1, 2, 3, 4, 5] rfl ?_
          exact tX5_copy_45 C N x1 x2 x3 x4 x5 M rr zz h
        · refine bw_aload_n (pc := 36) C 0 dX5_copy_36 rfl rfl ?_
          refine bw_getR (pc := 37) (q := 0) (k0 := 1) C ltM_0 shM_0 rfl inX5 mw_616 (by decide) rfl dX5_copy_37 ?_
          refine bw_iload_n (pc := 40) C 3 dX5_copy_40 rfl rfl ?_
          obtain ⟨qv6, v6, ev6, h⟩ := bw_rd_o h
          refine bw_iald (pc := 41) (q := 2) C ltM_2 shM_2 qv6 ev6 dX5_copy_41 ?_
          refine bw_if_ge (pc := 42) C 51 dX5_copy_42 (by decide) h (fun h => ?_) (fun h => ?_)
          · refine bw_iload_n (pc := 51) C 2 dX5_copy_51 rfl rfl ?_
            refine bw_if_lt (pc := 52) C 95 dX5_copy_52 (by decide) h (fun h => ?_) (fun h => ?_)
            · refine bw_pick [0, 1, 2, 3, 4, 5] rfl ?_
              exact tX5_copy_95 C N x1 x2 x3 x4 x5 M rr zz h
            · refine bw_iload (pc := 55) C 4 dX5_copy_55 rfl ?_
              refine bw_if_lt (pc := 57) C 95 dX5_copy_57 (by decide) h (fun h => ?_) (fun h => ?_)
              · refine bw_pick [0, 1, 2, 3, 4, 5] rfl ?_
                exact tX5_copy_95 C N x1 x2 x3 x4 x5 M rr zz h
              · refine bw_iload_n (pc := 60) C 2 dX5_copy_60 rfl rfl ?_
                refine bw_i2l (pc := 61) C dX5_copy_61 ?_
                refine bw_iload (pc := 62) C 5 dX5_copy_62 rfl ?_
                refine bw_i2l (pc := 64) C dX5_copy_64 ?_
                refine bw_ladd (pc := 65) C dX5_copy_65 ?_
                refine bw_aload_n (pc := 66) C 0 dX5_copy_66 rfl rfl ?_
                refine bw_getR (pc := 67) (q := 0) (k0 := 1) C ltM_0 shM_0 rfl inX5 mw_616 (by decide) rfl dX5_copy_67 ?_
                refine bw_iload_n (pc := 70) C 1 dX5_copy_70 rfl rfl ?_
                obtain ⟨qv9, v9, ev9, h⟩ := bw_rd_o h
                refine bw_iald (pc := 71) (q := 2) C ltM_2 shM_2 qv9 ev9 dX5_copy_71 ?_
                refine bw_i2l (pc := 72) C dX5_copy_72 ?_
                refine bw_lcmp (pc := 73) C dX5_copy_73 ?_
                refine bw_if_gt (pc := 74) C 95 dX5_copy_74 (by decide) h (fun h => ?_) (fun h => ?_)
                · refine bw_pick [0, 1, 2, 3, 4, 5] rfl ?_
                  exact tX5_copy_95 C N x1 x2 x3 x4 x5 M rr zz h
                · refine bw_iload (pc := 77) C 4 dX5_copy_77 rfl ?_
                  refine bw_i2l (pc := 79) C dX5_copy_79 ?_
                  refine bw_iload (pc := 80) C 5 dX5_copy_80 rfl ?_
                  refine bw_i2l (pc := 82) C dX5_copy_82 ?_
                  refine bw_ladd (pc := 83) C dX5_copy_83 ?_
                  refine bw_aload_n (pc := 84) C 0 dX5_copy_84 rfl rfl ?_
                  refine bw_getR (pc := 85) (q := 0) (k0 := 1) C ltM_0 shM_0 rfl inX5 mw_616 (by decide) rfl dX5_copy_85 ?_
                  refine bw_iload_n (pc := 88) C 3 dX5_copy_88 rfl rfl ?_
                  obtain ⟨qv10, v10, ev10, h⟩ := bw_rd_o h
                  refine bw_iald (pc := 89) (q := 2) C ltM_2 shM_2 qv10 ev10 dX5_copy_89 ?_
                  refine bw_i2l (pc := 90) C dX5_copy_90 ?_
                  refine bw_lcmp (pc := 91) C dX5_copy_91 ?_
                  refine bw_if_le (pc := 92) C 101 dX5_copy_92 (by decide) h (fun h => ?_) (fun h => ?_)
                  · refine bw_iconst (pc := 101) (v := (0 : Int32)) C dX5_copy_101 ic_0 ?_
                    obtain ⟨v11, ev11, h⟩ := bw_mv_o h
                    refine bw_nmI ev11 ?_
                    refine bw_istore (pc := 102) (L' := [(6, .int v11), (0, .ref (ρ 0)), (1, .int x1), (2, .int x2), (3, .int x3), (4, .int x4), (5, .int x5)]) C dX5_copy_102 (by decide) rfl ?_
                    refine bw_pick [1, 2, 3, 4, 5, 6, 0] rfl ?_
                    exact tlX5_copy_104 C N x1 x2 x3 x4 x5 rr zz N (v11, M) h
                  · refine bw_pick [0, 1, 2, 3, 4, 5] rfl ?_
                    exact tX5_copy_95 C N x1 x2 x3 x4 x5 M rr zz h
          · refine bw_pick [0, 1, 2, 3, 4, 5] rfl ?_
            exact tX5_copy_45 C N x1 x2 x3 x4 x5 M rr zz h
      · refine bw_aload_n (pc := 21) C 0 dX5_copy_21 rfl rfl ?_
        refine bw_iconst (pc := 22) (v := (5 : Int32)) C dX5_copy_22 ic_5 ?_
        obtain ⟨v15, M16, ev15, h⟩ := bw_c2_o h
        refine bw_cVi (pc := 23) (q := 0) (As := [.int (5 : Int32)]) (rest := []) C (tX5_found l (5 : Int32) M v15 M16 ev15) msX5_found mw_720 rfl rfl ⟨Nat.le_of_ble_eq_true rfl, Nat.le_of_ble_eq_true rfl⟩ ltM_0 shM_0 rfl rfl rfl rfl (Nat.le_of_ble_eq_true rfl) dX5_copy_23 ?_
        exact bw_ireti (pc := 26) C dX5_copy_26 h
    · refine bw_pick [0, 1, 2, 3, 4, 5] rfl ?_
      exact tX5_copy_14 C N x1 x2 x3 x4 x5 M rr zz h
/-! X5_together -/
abbrev rmX5_together : Room := { frames := 0, cells := 0, slots := 0, locals := 0 }
theorem msX5_together : bw_MV yX5_together cX5_together 4 (some .int) RX5 1 := ⟨mw_1041, mw_1123, mw_6, mw_1042, by decide +kernel⟩
def fX5_together_4 (N : Nat) (x1 : Int32) (k4 : Int32 × Int32 → Option (Int32)) (x2 : Int32) (x3 : Int32) (M : bw_M) : Option (Int32) :=
  if (M.1 0 9) ≤ x3 then
  some x2
  else
  bw_rd M 9 17 (x1 + x3) fun v3 =>
  bw_mv (x2 + v3) fun v4 =>
  bw_mv (x3 + 1) fun v5 =>
  k4 (v4, v5)
theorem tX5_together_4 {p : Program} {l : Launch} {e : Env} {s : State} {m : MethodId} {args : Array Value} {below : List Frame} {meth : Method} {c : Code} {D : va_G} {kT : Nat → ClassId} {ρ : Nat → Nat} (C : bw_Cx p s m args meth c cX5_together 4 RX5 19 D kT ρ (some .int)) (N : Nat) (x1 : Int32)  (k4 : Int32 × Int32 → Option (Int32)) (x2 : Int32) (x3 : Int32) (M : bw_M) (rr : Int32) (hk4 : ∀ z0, k4 z0 = some rr → bw_At p l e rmX5_together s m args below meth c (MQ below (bw_QI bw_shM 19 D kT ρ rr M) args s 0 0 (bw_A ρ 19)) bw_shM 19 D kT ρ 4 4 [(0, .ref (ρ 0)), (1, .int x1), (2, .int z0.1), (3, .int z0.2)] [] M) (h : fX5_together_4 N x1 k4 x2 x3 M = some rr) : bw_At p l e rmX5_together s m args below meth c (MQ below (bw_QI bw_shM 19 D kT ρ rr M) args s 0 0 (bw_A ρ 19)) bw_shM 19 D kT ρ 4 4 [(0, .ref (ρ 0)), (1, .int x1), (2, .int x2), (3, .int x3)] [] M := by
  unfold fX5_together_4 at h
  refine bw_iload_n (pc := 4) C 3 dX5_together_4 rfl rfl ?_
  refine bw_aload_n (pc := 5) C 0 dX5_together_5 rfl rfl ?_
  refine bw_getI (pc := 6) (q := 0) (k0 := 9) C ltM_0 shM_0 rfl inX5 mw_624 (by decide) rfl dX5_together_6 ?_
  refine bw_icmp_ge (pc := 9) C 29 dX5_together_9 (by decide) h (fun h => ?_) (fun h => ?_)
  · refine bw_iload_n (pc := 29) C 2 dX5_together_29 rfl rfl ?_
    exact bw_ireti (pc := 30) C dX5_together_30 (bw_pr M h)
  · refine bw_iload_n (pc := 12) C 2 dX5_together_12 rfl rfl ?_
    refine bw_aload_n (pc := 13) C 0 dX5_together_13 rfl rfl ?_
    refine bw_getR (pc := 14) (q := 0) (k0 := 13) C ltM_0 shM_0 rfl inX5 mw_628 (by decide) rfl dX5_together_14 ?_
    refine bw_iload_n (pc := 17) C 1 dX5_together_17 rfl rfl ?_
    refine bw_iload_n (pc := 18) C 3 dX5_together_18 rfl rfl ?_
    refine bw_iadd (pc := 19) C dX5_together_19 ?_
    obtain ⟨qv3, v3, ev3, h⟩ := bw_rd_o h
    refine bw_iald (pc := 20) (q := 9) C ltM_9 shM_9 qv3 ev3 dX5_together_20 ?_
    refine bw_iadd (pc := 21) C dX5_together_21 ?_
    obtain ⟨v4, ev4, h⟩ := bw_mv_o h
    refine bw_nmI ev4 ?_
    refine bw_istore_n (pc := 22) (L' := [(2, .int v4), (0, .ref (ρ 0)), (1, .int x1), (3, .int x3)]) C dX5_together_22 rfl (by decide) rfl ?_
    obtain ⟨v5, ev5, h⟩ := bw_mv_o h
    refine bw_iinc (pc := 23) (x := v5) (L' := [(3, .int v5), (2, .int v4), (0, .ref (ρ 0)), (1, .int x1)]) C 3 dX5_together_23 rfl ev5.symm (by decide) rfl ?_
    refine bw_goto (pc := 26) C 4 dX5_together_26 (by decide) ?_
    refine bw_pick [2, 3, 1, 0] rfl ?_
    exact hk4 (v4, v5) h
def flX5_together_4 (N : Nat) (x1 : Int32)   (M : bw_M) (fu : Nat) (w : Int32 × Int32) : Option (Int32) := bw_lp (fun kk w => fX5_together_4 N x1 kk w.1 w.2 M) fu w
theorem tlX5_together_4 {p : Program} {l : Launch} {e : Env} {s : State} {m : MethodId} {args : Array Value} {below : List Frame} {meth : Method} {c : Code} {D : va_G} {kT : Nat → ClassId} {ρ : Nat → Nat} (C : bw_Cx p s m args meth c cX5_together 4 RX5 19 D kT ρ (some .int)) (N : Nat) (x1 : Int32)    (M : bw_M) (rr : Int32)  (fu : Nat) (w : Int32 × Int32) (h : flX5_together_4 N x1 M fu w = some rr) : bw_At p l e rmX5_together s m args below meth c (MQ below (bw_QI bw_shM 19 D kT ρ rr M) args s 0 0 (bw_A ρ 19)) bw_shM 19 D kT ρ 4 4 [(0, .ref (ρ 0)), (1, .int x1), (2, .int w.1), (3, .int w.2)] [] M :=
  bw_loop (r := rr) (fun w => bw_At p l e rmX5_together s m args below meth c (MQ below (bw_QI bw_shM 19 D kT ρ rr M) args s 0 0 (bw_A ρ 19)) bw_shM 19 D kT ρ 4 4 [(0, .ref (ρ 0)), (1, .int x1), (2, .int w.1), (3, .int w.2)] [] M) (fun kk hk w h => tX5_together_4 C N x1 kk w.1 w.2 M rr hk h) fu w h
def fX5_together (N : Nat) (x1 : Int32) (M : bw_M) : Option (Int32) :=
  bw_mv (0 : Int32) fun v1 =>
  bw_mv (0 : Int32) fun v2 =>
  flX5_together_4 N x1 M N (v1, v2)
theorem tX5_together (l : Launch) (N : Nat) (x1 : Int32)  (M : bw_M) (rr : Int32) (h : fX5_together N x1 M = some rr) : bw_CI l bw_shM 19 yX5_together cX5_together 4 (some .int) rmX5_together (fun ρ => [.ref (ρ 0), .int x1]) M rr M := by
  refine bw_inI (Lf := fun ρ => [(0, .ref (ρ 0)), (1, .int x1)]) cX5_together 4 (some .int) RX5 pn_X5 rfl (fun ρ => Nat.le_of_ble_eq_true rfl) (fun ρ => rfl) ?_
  intro p e s m args below meth c D kT ρ C
  unfold fX5_together at h
  refine bw_iconst (pc := 0) (v := (0 : Int32)) C dX5_together_0 ic_0 ?_
  obtain ⟨v1, ev1, h⟩ := bw_mv_o h
  refine bw_nmI ev1 ?_
  refine bw_istore_n (pc := 1) (L' := [(2, .int v1), (0, .ref (ρ 0)), (1, .int x1)]) C dX5_together_1 rfl (by decide) rfl ?_
  refine bw_iconst (pc := 2) (v := (0 : Int32)) C dX5_together_2 ic_0 ?_
  obtain ⟨v2, ev2, h⟩ := bw_mv_o h
  refine bw_nmI ev2 ?_
  refine bw_istore_n (pc := 3) (L' := [(3, .int v2), (2, .int v1), (0, .ref (ρ 0)), (1, .int x1)]) C dX5_together_3 rfl (by decide) rfl ?_
  refine bw_pick [2, 3, 1, 0] rfl ?_
  exact tlX5_together_4 C N x1 M rr N (v1, v2) h
/-! X5_those -/
abbrev rmX5_those : Room := { frames := 1, cells := 0, slots := 0, locals := 21 }
theorem msX5_those : bw_MV yX5_those cX5_those 4 (some .int) RX5 1 := ⟨mw_1045, mw_1124, mw_6, mw_1046, by decide +kernel⟩
def fX5_those_31 (N : Nat) (x1 : Int32) (k4 : Int32 × Int32 → Option (Int32)) (x3 : Int32) (s0 : Int32) (s1 : Int32) (M : bw_M) : Option (Int32) :=
  bw_mv (s0 + s1) fun v5 =>
  bw_mv (x3 + 1) fun v6 =>
  k4 (v5, v6)
theorem tX5_those_31 {p : Program} {l : Launch} {e : Env} {s : State} {m : MethodId} {args : Array Value} {below : List Frame} {meth : Method} {c : Code} {D : va_G} {kT : Nat → ClassId} {ρ : Nat → Nat} (C : bw_Cx p s m args meth c cX5_those 4 RX5 19 D kT ρ (some .int)) (N : Nat) (x1 : Int32)  (k4 : Int32 × Int32 → Option (Int32)) (x3 : Int32) (s0 : Int32) (s1 : Int32) (M : bw_M) (rr : Int32) (hk4 : ∀ z0, k4 z0 = some rr → bw_At p l e rmX5_those s m args below meth c (MQ below (bw_QI bw_shM 19 D kT ρ rr M) args s 0 0 (bw_A ρ 19)) bw_shM 19 D kT ρ 4 4 [(0, .ref (ρ 0)), (1, .int x1), (2, .int z0.1), (3, .int z0.2)] [] M) (h : fX5_those_31 N x1 k4 x3 s0 s1 M = some rr) : bw_At p l e rmX5_those s m args below meth c (MQ below (bw_QI bw_shM 19 D kT ρ rr M) args s 0 0 (bw_A ρ 19)) bw_shM 19 D kT ρ 4 31 [(0, .ref (ρ 0)), (1, .int x1), (3, .int x3)] [.int s1, .int s0] M := by
  unfold fX5_those_31 at h
  refine bw_iadd (pc := 31) C dX5_those_31 ?_
  obtain ⟨v5, ev5, h⟩ := bw_mv_o h
  refine bw_nmI ev5 ?_
  refine bw_istore_n (pc := 32) (L' := [(2, .int v5), (0, .ref (ρ 0)), (1, .int x1), (3, .int x3)]) C dX5_those_32 rfl (by decide) rfl ?_
  obtain ⟨v6, ev6, h⟩ := bw_mv_o h
  refine bw_iinc (pc := 33) (x := v6) (L' := [(3, .int v6), (2, .int v5), (0, .ref (ρ 0)), (1, .int x1)]) C 3 dX5_those_33 rfl ev6.symm (by decide) rfl ?_
  refine bw_goto (pc := 36) C 4 dX5_those_36 (by decide) ?_
  refine bw_pick [2, 3, 1, 0] rfl ?_
  exact hk4 (v5, v6) h
def fX5_those_4 (N : Nat) (x1 : Int32) (k4 : Int32 × Int32 → Option (Int32)) (x2 : Int32) (x3 : Int32) (M : bw_M) : Option (Int32) :=
  if (M.1 0 9) ≤ x3 then
  some x2
  else
  bw_rd M 6 6 x3 fun v3 =>
  bw_cl (fX5_isOf v3 x1) fun v4 =>
  if v4 = 0 then
  fX5_those_31 N x1 k4 x3 x2 (0 : Int32) M
  else
  fX5_those_31 N x1 k4 x3 x2 (1 : Int32) M
theorem tX5_those_4 {p : Program} {l : Launch} {e : Env} {s : State} {m : MethodId} {args : Array Value} {below : List Frame} {meth : Method} {c : Code} {D : va_G} {kT : Nat → ClassId} {ρ : Nat → Nat} (C : bw_Cx p s m args meth c cX5_those 4 RX5 19 D kT ρ (some .int)) (N : Nat) (x1 : Int32)  (k4 : Int32 × Int32 → Option (Int32)) (x2 : Int32) (x3 : Int32) (M : bw_M) (rr : Int32) (hk4 : ∀ z0, k4 z0 = some rr → bw_At p l e rmX5_those s m args below meth c (MQ below (bw_QI bw_shM 19 D kT ρ rr M) args s 0 0 (bw_A ρ 19)) bw_shM 19 D kT ρ 4 4 [(0, .ref (ρ 0)), (1, .int x1), (2, .int z0.1), (3, .int z0.2)] [] M) (h : fX5_those_4 N x1 k4 x2 x3 M = some rr) : bw_At p l e rmX5_those s m args below meth c (MQ below (bw_QI bw_shM 19 D kT ρ rr M) args s 0 0 (bw_A ρ 19)) bw_shM 19 D kT ρ 4 4 [(0, .ref (ρ 0)), (1, .int x1), (2, .int x2), (3, .int x3)] [] M := by
  unfold fX5_those_4 at h
  refine bw_iload_n (pc := 4) C 3 dX5_those_4 rfl rfl ?_
  refine bw_aload_n (pc := 5) C 0 dX5_those_5 rfl rfl ?_
  refine bw_getI (pc := 6) (q := 0) (k0 := 9) C ltM_0 shM_0 rfl inX5 mw_624 (by decide) rfl dX5_those_6 ?_
  refine bw_icmp_ge (pc := 9) C 39 dX5_those_9 (by decide) h (fun h => ?_) (fun h => ?_)
  · refine bw_iload_n (pc := 39) C 2 dX5_those_39 rfl rfl ?_
    exact bw_ireti (pc := 40) C dX5_those_40 (bw_pr M h)
  · refine bw_iload_n (pc := 12) C 2 dX5_those_12 rfl rfl ?_
    refine bw_aload_n (pc := 13) C 0 dX5_those_13 rfl rfl ?_
    refine bw_getR (pc := 14) (q := 0) (k0 := 10) C ltM_0 shM_0 rfl inX5 mw_625 (by decide) rfl dX5_those_14 ?_
    refine bw_iload_n (pc := 17) C 3 dX5_those_17 rfl rfl ?_
    obtain ⟨qv3, v3, ev3, h⟩ := bw_rd_o h
    refine bw_iald (pc := 18) (q := 6) C ltM_6 shM_6 qv3 ev3 dX5_those_18 ?_
    refine bw_iload_n (pc := 19) C 1 dX5_those_19 rfl rfl ?_
    obtain ⟨v4, ev4, h⟩ := bw_cl_o h
    refine bw_cSi (pc := 20) (As := [.int v3, .int x1]) (rest := [.int x2]) C (tX5_isOf l v3 x1 M v4 ev4) msX5_isOf mw_822 rfl rfl ⟨Nat.le_of_ble_eq_true rfl, Nat.le_of_ble_eq_true rfl⟩ rfl rfl rfl (Nat.le_of_ble_eq_true rfl) dX5_those_20 ?_
    refine bw_if_eq (pc := 23) C 30 dX5_those_23 (by decide) h (fun h => ?_) (fun h => ?_)
    · refine bw_iconst (pc := 30) (v := (0 : Int32)) C dX5_those_30 ic_0 ?_
      refine bw_pick [0, 1, 3] rfl ?_
      exact tX5_those_31 C N x1 k4 x3 x2 (0 : Int32) M rr hk4 h
    · refine bw_iconst (pc := 26) (v := (1 : Int32)) C dX5_those_26 ic_1 ?_
      refine bw_goto (pc := 27) C 31 dX5_those_27 (by decide) ?_
      refine bw_pick [0, 1, 3] rfl ?_
      exact tX5_those_31 C N x1 k4 x3 x2 (1 : Int32) M rr hk4 h
def flX5_those_4 (N : Nat) (x1 : Int32)   (M : bw_M) (fu : Nat) (w : Int32 × Int32) : Option (Int32) := bw_lp (fun kk w => fX5_those_4 N x1 kk w.1 w.2 M) fu w
theorem tlX5_those_4 {p : Program} {l : Launch} {e : Env} {s : State} {m : MethodId} {args : Array Value} {below : List Frame} {meth : Method} {c : Code} {D : va_G} {kT : Nat → ClassId} {ρ : Nat → Nat} (C : bw_Cx p s m args meth c cX5_those 4 RX5 19 D kT ρ (some .int)) (N : Nat) (x1 : Int32)    (M : bw_M) (rr : Int32)  (fu : Nat) (w : Int32 × Int32) (h : flX5_those_4 N x1 M fu w = some rr) : bw_At p l e rmX5_those s m args below meth c (MQ below (bw_QI bw_shM 19 D kT ρ rr M) args s 0 0 (bw_A ρ 19)) bw_shM 19 D kT ρ 4 4 [(0, .ref (ρ 0)), (1, .int x1), (2, .int w.1), (3, .int w.2)] [] M :=
  bw_loop (r := rr) (fun w => bw_At p l e rmX5_those s m args below meth c (MQ below (bw_QI bw_shM 19 D kT ρ rr M) args s 0 0 (bw_A ρ 19)) bw_shM 19 D kT ρ 4 4 [(0, .ref (ρ 0)), (1, .int x1), (2, .int w.1), (3, .int w.2)] [] M) (fun kk hk w h => tX5_those_4 C N x1 kk w.1 w.2 M rr hk h) fu w h
def fX5_those (N : Nat) (x1 : Int32) (M : bw_M) : Option (Int32) :=
  bw_mv (0 : Int32) fun v1 =>
  bw_mv (0 : Int32) fun v2 =>
  flX5_those_4 N x1 M N (v1, v2)
theorem tX5_those (l : Launch) (N : Nat) (x1 : Int32)  (M : bw_M) (rr : Int32) (h : fX5_those N x1 M = some rr) : bw_CI l bw_shM 19 yX5_those cX5_those 4 (some .int) rmX5_those (fun ρ => [.ref (ρ 0), .int x1]) M rr M := by
  refine bw_inI (Lf := fun ρ => [(0, .ref (ρ 0)), (1, .int x1)]) cX5_those 4 (some .int) RX5 pn_X5 rfl (fun ρ => Nat.le_of_ble_eq_true rfl) (fun ρ => rfl) ?_
  intro p e s m args below meth c D kT ρ C
  unfold fX5_those at h
  refine bw_iconst (pc := 0) (v := (0 : Int32)) C dX5_those_0 ic_0 ?_
  obtain ⟨v1, ev1, h⟩ := bw_mv_o h
  refine bw_nmI ev1 ?_
  refine bw_istore_n (pc := 1) (L' := [(2, .int v1), (0, .ref (ρ 0)), (1, .int x1)]) C dX5_those_1 rfl (by decide) rfl ?_
  refine bw_iconst (pc := 2) (v := (0 : Int32)) C dX5_those_2 ic_0 ?_
  obtain ⟨v2, ev2, h⟩ := bw_mv_o h
  refine bw_nmI ev2 ?_
  refine bw_istore_n (pc := 3) (L' := [(3, .int v2), (2, .int v1), (0, .ref (ρ 0)), (1, .int x1)]) C dX5_those_3 rfl (by decide) rfl ?_
  refine bw_pick [2, 3, 1, 0] rfl ?_
  exact tlX5_those_4 C N x1 M rr N (v1, v2) h
