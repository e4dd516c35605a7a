/-! X5_goesAs -/
abbrev rmX5_goesAs : Room := { frames := 4, cells := 0, slots := 0, locals := 90 }
theorem msX5_goesAs : bw_MV yX5_goesAs cX5_goesAs 4 (some .boolean) RX5 1 := ⟨mw_952, mw_1115, mw_6, mw_953, by decide +kernel⟩
def fX5_goesAs_45 (N : Nat) (x1 : Int32) (k4 : Int32 × Int32 × bw_M → Option (Int32 × bw_M)) (x3 : Int32) (s0 : Int32) (M : bw_M) : Option (Int32 × bw_M) :=
  bw_mv (x3 + 1) fun v5 =>
  k4 (s0, v5, M)
theorem tX5_goesAs_45 {p : Program} {l : Launch} {e : Env} {s : State} {m : MethodId} {args : Array Value} {below : List Frame} {meth : Method} {c : Code} {D : va_G} {kT : Nat → ClassId} {ρ : Nat → Nat} (C : bw_Cx p s m args meth c cX5_goesAs 4 RX5 19 D kT ρ (some .boolean)) (N : Nat) (x1 : Int32)  (k4 : Int32 × Int32 × bw_M → Option (Int32 × bw_M)) (x3 : Int32) (s0 : Int32) (M : bw_M) (rr : Int32) (zz : bw_M) (hk4 : ∀ z0, k4 z0 = some (rr, zz) → bw_At p l e rmX5_goesAs s m args below meth c (MQ below (bw_QI bw_shM 19 D kT ρ rr zz) args s 0 0 (bw_A ρ 19)) bw_shM 19 D kT ρ 4 4 [(0, .ref (ρ 0)), (1, .int x1), (2, .int z0.1), (3, .int z0.2.1)] [] z0.2.2) (h : fX5_goesAs_45 N x1 k4 x3 s0 M = some (rr, zz)) : bw_At p l e rmX5_goesAs s m args below meth c (MQ below (bw_QI bw_shM 19 D kT ρ rr zz) args s 0 0 (bw_A ρ 19)) bw_shM 19 D kT ρ 4 45 [(0, .ref (ρ 0)), (1, .int x1), (3, .int x3)] [.int s0] M := by
  unfold fX5_goesAs_45 at h
  refine bw_istore_n (pc := 45) (L' := [(2, .int s0), (0, .ref (ρ 0)), (1, .int x1), (3, .int x3)]) C dX5_goesAs_45 rfl (by decide) rfl ?_
  obtain ⟨v5, ev5, h⟩ := bw_mv_o h
  refine bw_iinc (pc := 46) (x := v5) (L' := [(3, .int v5), (2, .int s0), (0, .ref (ρ 0)), (1, .int x1)]) C 3 dX5_goesAs_46 rfl ev5.symm (by decide) rfl ?_
  refine bw_goto (pc := 49) C 4 dX5_goesAs_49 (by decide) ?_
  refine bw_pick [2, 3, 1, 0] rfl ?_
  exact hk4 (s0, v5, M) h
def fX5_goesAs_44 (N : Nat) (x1 : Int32) (k4 : Int32 × Int32 × bw_M → Option (Int32 × bw_M)) (x3 : Int32) (M : bw_M) : Option (Int32 × bw_M) :=
  fX5_goesAs_45 N x1 k4 x3 (0 : Int32) M
theorem tX5_goesAs_44 {p : Program} {l : Launch} {e : Env} {s : State} {m : MethodId} {args : Array Value} {below : List Frame} {meth : Method} {c : Code} {D : va_G} {kT : Nat → ClassId} {ρ : Nat → Nat} (C : bw_Cx p s m args meth c cX5_goesAs 4 RX5 19 D kT ρ (some .boolean)) (N : Nat) (x1 : Int32)  (k4 : Int32 × Int32 × bw_M → Option (Int32 × bw_M)) (x3 : Int32) (M : bw_M) (rr : Int32) (zz : bw_M) (hk4 : ∀ z0, k4 z0 = some (rr, zz) → bw_At p l e rmX5_goesAs s m args below meth c (MQ below (bw_QI bw_shM 19 D kT ρ rr zz) args s 0 0 (bw_A ρ 19)) bw_shM 19 D kT ρ 4 4 [(0, .ref (ρ 0)), (1, .int x1), (2, .int z0.1), (3, .int z0.2.1)] [] z0.2.2) (h : fX5_goesAs_44 N x1 k4 x3 M = some (rr, zz)) : bw_At p l e rmX5_goesAs s m args below meth c (MQ below (bw_QI bw_shM 19 D kT ρ rr zz) args s 0 0 (bw_A ρ 19)) bw_shM 19 D kT ρ 4 44 [(0, .ref (ρ 0)), (1, .int x1), (3, .int x3)] [] M := by
  unfold fX5_goesAs_44 at h
  refine bw_iconst (pc := 44) (v := (0 : Int32)) C dX5_goesAs_44 ic_0 ?_
  refine bw_pick [0, 1, 2] rfl ?_
  exact tX5_goesAs_45 C N x1 k4 x3 (0 : Int32) M rr zz hk4 h
def fX5_goesAs_4 (N : Nat) (x1 : Int32) (k4 : Int32 × Int32 × bw_M → Option (Int32 × bw_M)) (x2 : Int32) (x3 : Int32) (M : bw_M) : Option (Int32 × bw_M) :=
  bw_rd M 2 6 x1 fun v3 =>
  if v3 ≤ x3 then
  bw_ck (bw_isb x2) (some (x2, M))
  else
  if x2 = 0 then
  fX5_goesAs_44 N x1 k4 x3 M
  else
  bw_c2 (fX5_goes N 10 17 M) fun v6 M7 =>
  bw_rd M7 1 240 (((40 : Int32) * x1) + x3) fun v8 =>
  if v6 = v8 then
  fX5_goesAs_45 N x1 k4 x3 (1 : Int32) M7
  else
  fX5_goesAs_44 N x1 k4 x3 M7
theorem tX5_goesAs_4 {p : Program} {l : Launch} {e : Env} {s : State} {m : MethodId} {args : Array Value} {below : List Frame} {meth : Method} {c : Code} {D : va_G} {kT : Nat → ClassId} {ρ : Nat → Nat} (C : bw_Cx p s m args meth c cX5_goesAs 4 RX5 19 D kT ρ (some .boolean)) (N : Nat) (x1 : Int32)  (k4 : Int32 × Int32 × bw_M → Option (Int32 × bw_M)) (x2 : Int32) (x3 : Int32) (M : bw_M) (rr : Int32) (zz : bw_M) (hk4 : ∀ z0, k4 z0 = some (rr, zz) → bw_At p l e rmX5_goesAs s m args below meth c (MQ below (bw_QI bw_shM 19 D kT ρ rr zz) args s 0 0 (bw_A ρ 19)) bw_shM 19 D kT ρ 4 4 [(0, .ref (ρ 0)), (1, .int x1), (2, .int z0.1), (3, .int z0.2.1)] [] z0.2.2) (h : fX5_goesAs_4 N x1 k4 x2 x3 M = some (rr, zz)) : bw_At p l e rmX5_goesAs s m args below meth c (MQ below (bw_QI bw_shM 19 D kT ρ rr zz) args s 0 0 (bw_A ρ 19)) bw_shM 19 D kT ρ 4 4 [(0, .ref (ρ 0)), (1, .int x1), (2, .int x2), (3, .int x3)] [] M := by
  unfold fX5_goesAs_4 at h
  refine bw_iload_n (pc := 4) C 3 dX5_goesAs_4 rfl rfl ?_
  refine bw_aload_n (pc := 5) C 0 dX5_goesAs_5 rfl rfl ?_
  refine bw_getR (pc := 6) (q := 0) (k0 := 1) C ltM_0 shM_0 rfl inX5 mw_616 (by decide) rfl dX5_goesAs_6 ?_
  refine bw_iload_n (pc := 9) C 1 dX5_goesAs_9 rfl rfl ?_
  obtain ⟨qv3, v3, ev3, h⟩ := bw_rd_o h
  refine bw_iald (pc := 10) (q := 2) C ltM_2 shM_2 qv3 ev3 dX5_goesAs_10 ?_
  refine bw_icmp_ge (pc := 11) C 52 dX5_goesAs_11 (by decide) h (fun h => ?_) (fun h => ?_)
  · refine bw_iload_n (pc := 52) C 2 dX5_goesAs_52 rfl rfl ?_
    obtain ⟨q4, h⟩ := bw_ck_o h
    exact bw_iretz (pc := 53) C (nz_b q4) dX5_goesAs_53 h
  · refine bw_iload_n (pc := 14) C 2 dX5_goesAs_14 rfl rfl ?_
    refine bw_if_eq (pc := 15) C 44 dX5_goesAs_15 (by decide) h (fun h => ?_) (fun h => ?_)
    · refine bw_pick [0, 1, 3] rfl ?_
      exact tX5_goesAs_44 C N x1 k4 x3 M rr zz hk4 h
    · refine bw_aload_n (pc := 18) C 0 dX5_goesAs_18 rfl rfl ?_
      refine bw_aload_n (pc := 19) C 0 dX5_goesAs_19 rfl rfl ?_
      refine bw_getR (pc := 20) (q := 0) (k0 := 14) C ltM_0 shM_0 rfl inX5 mw_629 (by decide) rfl dX5_goesAs_20 ?_
      obtain ⟨v6, M7, ev6, h⟩ := bw_c2_o h
      refine bw_cVi (pc := 23) (q := 0) (As := [.ref (ρ 10)]) (rest := []) C (tX5_goes l N 10 17 ltM_10 shM_10 M v6 M7 ev6) msX5_goes mw_840 rfl rfl ⟨Nat.le_of_ble_eq_true rfl, Nat.le_of_ble_eq_true rfl⟩ ltM_0 shM_0 rfl rfl rfl rfl (Nat.le_of_ble_eq_true rfl) dX5_goesAs_23 ?_
      refine bw_aload_n (pc := 26) C 0 dX5_goesAs_26 rfl rfl ?_
      refine bw_getR (pc := 27) (q := 0) (k0 := 0) C ltM_0 shM_0 rfl inX5 mw_615 (by decide) rfl dX5_goesAs_27 ?_
      refine bw_bipush (pc := 30) (v := (40 : Int32)) C dX5_goesAs_30 bi_40 ?_
      refine bw_iload_n (pc := 32) C 1 dX5_goesAs_32 rfl rfl ?_
      refine bw_imul (pc := 33) C dX5_goesAs_33 ?_
      refine bw_iload_n (pc := 34) C 3 dX5_goesAs_34 rfl rfl ?_
      refine bw_iadd (pc := 35) C dX5_goesAs_35 ?_
      obtain ⟨qv8, v8, ev8, h⟩ := bw_rd_o h
      refine bw_iald (pc := 36) (q := 1) C ltM_1 shM_1 qv8 ev8 dX5_goesAs_36 ?_
      refine bw_icmp_ne (pc := 37) C 44 dX5_goesAs_37 (by decide) h (fun h => ?_) (fun h => ?_)
      · refine bw_pick [0, 1, 3] rfl ?_
        exact tX5_goesAs_44 C N x1 k4 x3 M7 rr zz hk4 h
      · refine bw_iconst (pc := 40) (v := (1 : Int32)) C dX5_goesAs_40 ic_1 ?_
        refine bw_goto (pc := 41) C 45 dX5_goesAs_41 (by decide) ?_
        refine bw_pick [0, 1, 3] rfl ?_
        exact tX5_goesAs_45 C N x1 k4 x3 (1 : Int32) M7 rr zz hk4 h
def flX5_goesAs_4 (N : Nat) (x1 : Int32)    (fu : Nat) (w : Int32 × Int32 × bw_M) : Option (Int32 × bw_M) := bw_lp (fun kk w => fX5_goesAs_4 N x1 kk w.1 w.2.1 w.2.2) fu w
theorem tlX5_goesAs_4 {p : Program} {l : Launch} {e : Env} {s : State} {m : MethodId} {args : Array Value} {below : List Frame} {meth : Method} {c : Code} {D : va_G} {kT : Nat → ClassId} {ρ : Nat → Nat} (C : bw_Cx p s m args meth c cX5_goesAs 4 RX5 19 D kT ρ (some .boolean)) (N : Nat) (x1 : Int32)     (rr : Int32) (zz : bw_M)  (fu : Nat) (w : Int32 × Int32 × bw_M) (h : flX5_goesAs_4 N x1 fu w = some (rr, zz)) : bw_At p l e rmX5_goesAs s m args below meth c (MQ below (bw_QI bw_shM 19 D kT ρ rr zz) args s 0 0 (bw_A ρ 19)) bw_shM 19 D kT ρ 4 4 [(0, .ref (ρ 0)), (1, .int x1), (2, .int w.1), (3, .int w.2.1)] [] w.2.2 :=
  bw_loop (r := (rr, zz)) (fun w => bw_At p l e rmX5_goesAs s m args below meth c (MQ below (bw_QI bw_shM 19 D kT ρ rr zz) args s 0 0 (bw_A ρ 19)) bw_shM 19 D kT ρ 4 4 [(0, .ref (ρ 0)), (1, .int x1), (2, .int w.1), (3, .int w.2.1)] [] w.2.2) (fun kk hk w h => tX5_goesAs_4 C N x1 kk w.1 w.2.1 w.2.2 rr zz hk h) fu w h
def fX5_goesAs (N : Nat) (x1 : Int32) (M : bw_M) : Option (Int32 × bw_M) :=
  bw_mv (1 : Int32) fun v1 =>
  bw_mv (0 : Int32) fun v2 =>
  flX5_goesAs_4 N x1 N (v1, v2, M)
theorem tX5_goesAs (l : Launch) (N : Nat) (x1 : Int32)  (M : bw_M) (rr : Int32) (zz : bw_M) (h : fX5_goesAs N x1 M = some (rr, zz)) : bw_CI l bw_shM 19 yX5_goesAs cX5_goesAs 4 (some .boolean) rmX5_goesAs (fun ρ => [.ref (ρ 0), .int x1]) M rr zz := by
  refine bw_inI (Lf := fun ρ => [(0, .ref (ρ 0)), (1, .int x1)]) cX5_goesAs 4 (some .boolean) RX5 pn_X5 rfl (fun ρ => Nat.le_of_ble_eq_true rfl) (fun ρ => rfl) ?_
  intro p e s m args below meth c D kT ρ C
  unfold fX5_goesAs at h
  refine bw_iconst (pc := 0) (v := (1 : Int32)) C dX5_goesAs_0 ic_1 ?_
  obtain ⟨v1, ev1, h⟩ := bw_mv_o h
  refine bw_nmI ev1 ?_
  refine bw_istore_n (pc := 1) (L' := [(2, .int v1), (0, .ref (ρ 0)), (1, .int x1)]) C dX5_goesAs_1 rfl (by decide) rfl ?_
  refine bw_iconst (pc := 2) (v := (0 : Int32)) C dX5_goesAs_2 ic_0 ?_
  obtain ⟨v2, ev2, h⟩ := bw_mv_o h
  refine bw_nmI ev2 ?_
  refine bw_istore_n (pc := 3) (L' := [(3, .int v2), (2, .int v1), (0, .ref (ρ 0)), (1, .int x1)]) C dX5_goesAs_3 rfl (by decide) rfl ?_
  refine bw_pick [2, 3, 1, 0] rfl ?_
  exact tlX5_goesAs_4 C N x1 rr zz N (v1, v2, M) h
/-! X5_hard -/
abbrev rmX5_hard : Room := { frames := 4, cells := 0, slots := 0, locals := 90 }
theorem msX5_hard : bw_MV yX5_hard cX5_hard 6 (some .int) RX5 2 := ⟨mw_925, mw_926, mw_6, mw_927, by decide +kernel⟩
def fX5_hard_20 (N : Nat) (x1 : Int32) (x2 : Int32)   (M : bw_M) : Option (Int32 × bw_M) :=
  some ((-1 : Int32), M)
theorem tX5_hard_20 {p : Program} {l : Launch} {e : Env} {s : State} {m : MethodId} {args : Array Value} {below : List Frame} {meth : Method} {c : Code} {D : va_G} {kT : Nat → ClassId} {ρ : Nat → Nat} (C : bw_Cx p s m args meth c cX5_hard 6 RX5 19 D kT ρ (some .int)) (N : Nat) (x1 : Int32) (x2 : Int32)    (M : bw_M) (rr : Int32) (zz : bw_M)  (h : fX5_hard_20 N x1 x2 M = some (rr, zz)) : bw_At p l e rmX5_hard s m args below meth c (MQ below (bw_QI bw_shM 19 D kT ρ rr zz) args s 0 0 (bw_A ρ 19)) bw_shM 19 D kT ρ 6 20 [(0, .ref (ρ 0)), (1, .int x1), (2, .int x2)] [] M := by
  unfold fX5_hard_20 at h
  refine bw_iconst (pc := 20) (v := (-1 : Int32)) C dX5_hard_20 ic_m1 ?_
  exact bw_ireti (pc := 21) C dX5_hard_21 h
def fX5_hard_88 (N : Nat) (x1 : Int32) (x2 : Int32) (k34 : Int32 × bw_M → Option (Int32 × bw_M)) (k57 : Int32 × Int32 × bw_M → Option (Int32 × bw_M)) (x3 : Int32) (x5 : Int32) (s0 : Int32) (M : bw_M) : Option (Int32 × bw_M) :=
  bw_mv (x5 + 1) fun v9 =>
  k57 (s0, v9, M)
theorem tX5_hard_88 {p : Program} {l : Launch} {e : Env} {s : State} {m : MethodId} {args : Array Value} {below : List Frame} {meth : Method} {c : Code} {D : va_G} {kT : Nat → ClassId} {ρ : Nat → Nat} (C : bw_Cx p s m args meth c cX5_hard 6 RX5 19 D kT ρ (some .int)) (N : Nat) (x1 : Int32) (x2 : Int32)  (k34 : Int32 × bw_M → Option (Int32 × bw_M)) (k57 : Int32 × Int32 × bw_M → Option (Int32 × bw_M)) (x3 : Int32) (x5 : Int32) (s0 : Int32) (M : bw_M) (rr : Int32) (zz : bw_M) (hk34 : ∀ z0, k34 z0 = some (rr, zz) → bw_At p l e rmX5_hard s m args below meth c (MQ below (bw_QI bw_shM 19 D kT ρ rr zz) args s 0 0 (bw_A ρ 19)) bw_shM 19 D kT ρ 6 34 [(0, .ref (ρ 0)), (1, .int x1), (2, .int x2), (3, .int z0.1)] [] z0.2) (hk57 : ∀ z0, k57 z0 = some (rr, zz) → bw_At p l e rmX5_hard s m args below meth c (MQ below (bw_QI bw_shM 19 D kT ρ rr zz) args s 0 0 (bw_A ρ 19)) bw_shM 19 D kT ρ 6 57 [(0, .ref (ρ 0)), (1, .int x1), (2, .int x2), (3, .int x3), (4, .int z0.1), (5, .int z0.2.1)] [] z0.2.2) (h : fX5_hard_88 N x1 x2 k34 k57 x3 x5 s0 M = some (rr, zz)) : bw_At p l e rmX5_hard s m args below meth c (MQ below (bw_QI bw_shM 19 D kT ρ rr zz) args s 0 0 (bw_A ρ 19)) bw_shM 19 D kT ρ 6 88 [(0, .ref (ρ 0)), (1, .int x1), (2, .int x2), (3, .int x3), (5, .int x5)] [.int s0] M := by
  unfold fX5_hard_88 at h
  refine bw_istore (pc := 88) (L' := [(4, .int s0), (0, .ref (ρ 0)), (1, .int x1), (2, .int x2), (3, .int x3), (5, .int x5)]) C dX5_hard_88 (by decide) rfl ?_
  obtain ⟨v9, ev9, h⟩ := bw_mv_o h
  refine bw_iinc (pc := 90) (x := v9) (L' := [(5, .int v9), (4, .int s0), (0, .ref (ρ 0)), (1, .int x1), (2, .int x2), (3, .int x3)]) C 5 dX5_hard_90 rfl ev9.symm (by decide) rfl ?_
  refine bw_goto (pc := 93) C 57 dX5_hard_93 (by decide) ?_
  refine bw_pick [2, 3, 4, 5, 1, 0] rfl ?_
  exact hk57 (s0, v9, M) h
def fX5_hard_87 (N : Nat) (x1 : Int32) (x2 : Int32) (k34 : Int32 × bw_M → Option (Int32 × bw_M)) (k57 : Int32 × Int32 × bw_M → Option (Int32 × bw_M)) (x3 : Int32) (x5 : Int32) (M : bw_M) : Option (Int32 × bw_M) :=
  fX5_hard_88 N x1 x2 k34 k57 x3 x5 (0 : Int32) M
theorem tX5_hard_87 {p : Program} {l : Launch} {e : Env} {s : State} {m : MethodId} {args : Array Value} {below : List Frame} {meth : Method} {c : Code} {D : va_G} {kT : Nat → ClassId} {ρ : Nat → Nat} (C : bw_Cx p s m args meth c cX5_hard 6 RX5 19 D kT ρ (some .int)) (N : Nat) (x1 : Int32) (x2 : Int32)  (k34 : Int32 × bw_M → Option (Int32 × bw_M)) (k57 : Int32 × Int32 × bw_M → Option (Int32 × bw_M)) (x3 : Int32) (x5 : Int32) (M : bw_M) (rr : Int32) (zz : bw_M) (hk34 : ∀ z0, k34 z0 = some (rr, zz) → bw_At p l e rmX5_hard s m args below meth c (MQ below (bw_QI bw_shM 19 D kT ρ rr zz) args s 0 0 (bw_A ρ 19)) bw_shM 19 D kT ρ 6 34 [(0, .ref (ρ 0)), (1, .int x1), (2, .int x2), (3, .int z0.1)] [] z0.2) (hk57 : ∀ z0, k57 z0 = some (rr, zz) → bw_At p l e rmX5_hard s m args below meth c (MQ below (bw_QI bw_shM 19 D kT ρ rr zz) args s 0 0 (bw_A ρ 19)) bw_shM 19 D kT ρ 6 57 [(0, .ref (ρ 0)), (1, .int x1), (2, .int x2), (3, .int x3), (4, .int z0.1), (5, .int z0.2.1)] [] z0.2.2) (h : fX5_hard_87 N x1 x2 k34 k57 x3 x5 M = some (rr, zz)) : bw_At p l e rmX5_hard s m args below meth c (MQ below (bw_QI bw_shM 19 D kT ρ rr zz) args s 0 0 (bw_A ρ 19)) bw_shM 19 D kT ρ 6 87 [(0, .ref (ρ 0)), (1, .int x1), (2, .int x2), (3, .int x3), (5, .int x5)] [] M := by
  unfold fX5_hard_87 at h
  refine bw_iconst (pc := 87) (v := (0 : Int32)) C dX5_hard_87 ic_0 ?_
  refine bw_pick [0, 1, 2, 3, 4] rfl ?_
  exact tX5_hard_88 C N x1 x2 k34 k57 x3 x5 (0 : Int32) M rr zz hk34 hk57 h
def fX5_hard_57 (N : Nat) (x1 : Int32) (x2 : Int32) (k34 : Int32 × bw_M → Option (Int32 × bw_M)) (k57 : Int32 × Int32 × bw_M → Option (Int32 × bw_M)) (x3 : Int32) (x4 : Int32) (x5 : Int32) (M : bw_M) : Option (Int32 × bw_M) :=
  if x2 ≤ x5 then
  if x4 = 0 then
  bw_mv (x3 + 1) fun v8 =>
  k34 (v8, M)
  else
  some (x3, M)
  else
  if x4 = 0 then
  fX5_hard_87 N x1 x2 k34 k57 x3 x5 M
  else
  bw_c2 (fX5_goes N 10 17 M) fun v10 M11 =>
  if (x1 &&& (v10 ^^^ (-1 : Int32))) = 0 then
  fX5_hard_88 N x1 x2 k34 k57 x3 x5 (1 : Int32) M11
  else
  fX5_hard_87 N x1 x2 k34 k57 x3 x5 M11
theorem tX5_hard_57 {p : Program} {l : Launch} {e : Env} {s : State} {m : MethodId} {args : Array Value} {below : List Frame} {meth : Method} {c : Code} {D : va_G} {kT : Nat → ClassId} {ρ : Nat → Nat} (C : bw_Cx p s m args meth c cX5_hard 6 RX5 19 D kT ρ (some .int)) (N : Nat) (x1 : Int32) (x2 : Int32)  (k34 : Int32 × bw_M → Option (Int32 × bw_M)) (k57 : Int32 × Int32 × bw_M → Option (Int32 × bw_M)) (x3 : Int32) (x4 : Int32) (x5 : Int32) (M : bw_M) (rr : Int32) (zz : bw_M) (hk34 : ∀ z0, k34 z0 = some (rr, zz) → bw_At p l e rmX5_hard s m args below meth c (MQ below (bw_QI bw_shM 19 D kT ρ rr zz) args s 0 0 (bw_A ρ 19)) bw_shM 19 D kT ρ 6 34 [(0, .ref (ρ 0)), (1, .int x1), (2, .int x2), (3, .int z0.1)] [] z0.2) (hk57 : ∀ z0, k57 z0 = some (rr, zz) → bw_At p l e rmX5_hard s m args below meth c (MQ below (bw_QI bw_shM 19 D kT ρ rr zz) args s 0 0 (bw_A ρ 19)) bw_shM 19 D kT ρ 6 57 [(0, .ref (ρ 0)), (1, .int x1), (2, .int x2), (3, .int x3), (4, .int z0.1), (5, .int z0.2.1)] [] z0.2.2) (h : fX5_hard_57 N x1 x2 k34 k57 x3 x4 x5 M = some (rr, zz)) : bw_At p l e rmX5_hard s m args below meth c (MQ below (bw_QI bw_shM 19 D kT ρ rr zz) args s 0 0 (bw_A ρ 19)) bw_shM 19 D kT ρ 6 57 [(0, .ref (ρ 0)), (1, .int x1), (2, .int x2), (3, .int x3), (4, .int x4), (5, .int x5)] [] M := by
  unfold fX5_hard_57 at h
  refine bw_iload (pc := 57) C 5 dX5_hard_57 rfl ?_
  refine bw_iload_n (pc := 59) C 2 dX5_hard_59 rfl rfl ?_
  refine bw_icmp_ge (pc := 60) C 96 dX5_hard_60 (by decide) h (fun h => ?_) (fun h => ?_)
  · refine bw_iload (pc := 96) C 4 dX5_hard_96 rfl ?_
    refine bw_if_eq (pc := 98) C 103 dX5_hard_98 (by decide) h (fun h => ?_) (fun h => ?_)
    · obtain ⟨v8, ev8, h⟩ := bw_mv_o h
      refine bw_iinc (pc := 103) (x := v8) (L' := [(3, .int v8), (0, .ref (ρ 0)), (1, .int x1), (2, .int x2), (4, .int x4), (5, .int x5)]) C 3 dX5_hard_103 rfl ev8.symm (by decide) rfl ?_
      refine bw_goto (pc := 106) C 34 dX5_hard_106 (by decide) ?_
      refine bw_pick [1, 2, 3, 0] rfl ?_
      exact hk34 (v8, M) h
    · refine bw_iload_n (pc := 101) C 3 dX5_hard_101 rfl rfl ?_
      exact bw_ireti (pc := 102) C dX5_hard_102 h
  · refine bw_iload (pc := 63) C 4 dX5_hard_63 rfl ?_
    refine bw_if_eq (pc := 65) C 87 dX5_hard_65 (by decide) h (fun h => ?_) (fun h => ?_)
    · refine bw_pick [0, 1, 2, 3, 5] rfl ?_
      exact tX5_hard_87 C N x1 x2 k34 k57 x3 x5 M rr zz hk34 hk57 h
    · refine bw_iload_n (pc := 68) C 1 dX5_hard_68 rfl rfl ?_
      refine bw_aload_n (pc := 69) C 0 dX5_hard_69 rfl rfl ?_
      refine bw_aload_n (pc := 70) C 0 dX5_hard_70 rfl rfl ?_
      refine bw_getR (pc := 71) (q := 0) (k0 := 14) C ltM_0 shM_0 rfl inX5 mw_629 (by decide) rfl dX5_hard_71 ?_
      obtain ⟨v10, M11, ev10, h⟩ := bw_c2_o h
      refine bw_cVi (pc := 74) (q := 0) (As := [.ref (ρ 10)]) (rest := [.int x1]) C (tX5_goes l N 10 17 ltM_10 shM_10 M v10 M11 ev10) msX5_goes mw_840 rfl rfl ⟨Nat.le_of_ble_eq_true rfl, Nat.le_of_ble_eq_true rfl⟩ ltM_0 shM_0 rfl rfl rfl rfl (Nat.le_of_ble_eq_true rfl) dX5_hard_74 ?_
      refine bw_iconst (pc := 77) (v := (-1 : Int32)) C dX5_hard_77 ic_m1 ?_
      refine bw_ixor (pc := 78) C dX5_hard_78 ?_
      refine bw_iand (pc := 79) C dX5_hard_79 ?_
      refine bw_if_ne (pc := 80) C 87 dX5_hard_80 (by decide) h (fun h => ?_) (fun h => ?_)
      · refine bw_pick [0, 1, 2, 3, 5] rfl ?_
        exact tX5_hard_87 C N x1 x2 k34 k57 x3 x5 M11 rr zz hk34 hk57 h
      · refine bw_iconst (pc := 83) (v := (1 : Int32)) C dX5_hard_83 ic_1 ?_
        refine bw_goto (pc := 84) C 88 dX5_hard_84 (by decide) ?_
        refine bw_pick [0, 1, 2, 3, 5] rfl ?_
        exact tX5_hard_88 C N x1 x2 k34 k57 x3 x5 (1 : Int32) M11 rr zz hk34 hk57 h
def flX5_hard_57 (N : Nat) (x1 : Int32) (x2 : Int32) (k34 : Int32 × bw_M → Option (Int32 × bw_M)) (x3 : Int32)  (fu : Nat) (w : Int32 × Int32 × bw_M) : Option (Int32 × bw_M) := bw_lp (fun kk w => fX5_hard_57 N x1 x2 k34 kk x3 w.1 w.2.1 w.2.2) fu w
theorem tlX5_hard_57 {p : Program} {l : Launch} {e : Env} {s : State} {m : MethodId} {args : Array Value} {below : List Frame} {meth : Method} {c : Code} {D : va_G} {kT : Nat → ClassId} {ρ : Nat → Nat} (C : bw_Cx p s m args meth c cX5_hard 6 RX5 19 D kT ρ (some .int)) (N : Nat) (x1 : Int32) (x2 : Int32)  (k34 : Int32 × bw_M → Option (Int32 × bw_M)) (x3 : Int32)  (rr : Int32) (zz : bw_M) (hk34 : ∀ z0, k34 z0 = some (rr, zz) → bw_At p l e rmX5_hard s m args below meth c (MQ below (bw_QI bw_shM 19 D kT ρ rr zz) args s 0 0 (bw_A ρ 19)) bw_shM 19 D kT ρ 6 34 [(0, .ref (ρ 0)), (1, .int x1), (2, .int x2), (3, .int z0.1)] [] z0.2) (fu : Nat) (w : Int32 × Int32 × bw_M) (h : flX5_hard_57 N x1 x2 k34 x3 fu w = some (rr, zz)) : bw_At p l e rmX5_hard s m args below meth c (MQ below (bw_QI bw_shM 19 D kT ρ rr zz) args s 0 0 (bw_A ρ 19)) bw_shM 19 D kT ρ 6 57 [(0, .ref (ρ 0)), (1, .int x1), (2, .int x2), (3, .int x3), (4, .int w.1), (5, .int w.2.1)] [] w.2.2 :=
  bw_loop (r := (rr, zz)) (fun w => bw_At p l e rmX5_hard s m args below meth c (MQ below (bw_QI bw_shM 19 D kT ρ rr zz) args s 0 0 (bw_A ρ 19)) bw_shM 19 D kT ρ 6 57 [(0, .ref (ρ 0)), (1, .int x1), (2, .int x2), (3, .int x3), (4, .int w.1), (5, .int w.2.1)] [] w.2.2) (fun kk hk w h => tX5_hard_57 C N x1 x2 k34 kk x3 w.1 w.2.1 w.2.2 rr zz hk34 hk h) fu w h
def fX5_hard_34 (N : Nat) (x1 : Int32) (x2 : Int32) (k34 : Int32 × bw_M → Option (Int32 × bw_M)) (x3 : Int32) (M : bw_M) : Option (Int32 × bw_M) :=
  if (10 : Int32) ≤ x3 then
  some ((-9 : Int32), M)
  else
  bw_cl (fX5_layAside N M) fun M4 =>
  bw_wr M4 10 17 (1 : Int32) x3 fun M5 =>
  bw_mv (1 : Int32) fun v6 =>
  bw_mv (0 : Int32) fun v7 =>
  flX5_hard_57 N x1 x2 k34 x3 N (v6, v7, M5)
theorem tX5_hard_34 {p : Program} {l : Launch} {e : Env} {s : State} {m : MethodId} {args : Array Value} {below : List Frame} {meth : Method} {c : Code} {D : va_G} {kT : Nat → ClassId} {ρ : Nat → Nat} (C : bw_Cx p s m args meth c cX5_hard 6 RX5 19 D kT ρ (some .int)) (N : Nat) (x1 : Int32) (x2 : Int32)  (k34 : Int32 × bw_M → Option (Int32 × bw_M)) (x3 : Int32) (M : bw_M) (rr : Int32) (zz : bw_M) (hk34 : ∀ z0, k34 z0 = some (rr, zz) → bw_At p l e rmX5_hard s m args below meth c (MQ below (bw_QI bw_shM 19 D kT ρ rr zz) args s 0 0 (bw_A ρ 19)) bw_shM 19 D kT ρ 6 34 [(0, .ref (ρ 0)), (1, .int x1), (2, .int x2), (3, .int z0.1)] [] z0.2) (h : fX5_hard_34 N x1 x2 k34 x3 M = some (rr, zz)) : bw_At p l e rmX5_hard s m args below meth c (MQ below (bw_QI bw_shM 19 D kT ρ rr zz) args s 0 0 (bw_A ρ 19)) bw_shM 19 D kT ρ 6 34 [(0, .ref (ρ 0)), (1, .int x1), (2, .int x2), (3, .int x3)] [] M := by
  unfold fX5_hard_34 at h
  refine bw_iload_n (pc := 34) C 3 dX5_hard_34 rfl rfl ?_
  refine bw_bipush (pc := 35) (v := (10 : Int32)) C dX5_hard_35 bi_10 ?_
  refine bw_icmp_ge (pc := 37) C 109 dX5_hard_37 (by decide) h (fun h => ?_) (fun h => ?_)
  · refine bw_bipush (pc := 109) (v := (-9 : Int32)) C dX5_hard_109 bi_m9 ?_
    exact bw_ireti (pc := 111) C dX5_hard_111 h
  · refine bw_aload_n (pc := 40) C 0 dX5_hard_40 rfl rfl ?_
    obtain ⟨M4, eM4, h⟩ := bw_cl_o h
    refine bw_cVv (pc := 41) (q := 0) (As := []) (rest := []) C (tX5_layAside l N M M4 eM4) msX5_layAside mw_897 rfl rfl ⟨Nat.le_of_ble_eq_true rfl, Nat.le_of_ble_eq_true rfl⟩ ltM_0 shM_0 rfl rfl rfl rfl (Nat.le_of_ble_eq_true rfl) dX5_hard_41 ?_
    refine bw_aload_n (pc := 44) C 0 dX5_hard_44 rfl rfl ?_
    refine bw_getR (pc := 45) (q := 0) (k0 := 14) C ltM_0 shM_0 rfl inX5 mw_629 (by decide) rfl dX5_hard_45 ?_
    refine bw_iconst (pc := 48) (v := (1 : Int32)) C dX5_hard_48 ic_1 ?_
    refine bw_iload_n (pc := 49) C 3 dX5_hard_49 rfl rfl ?_
    obtain ⟨qM5, M5, eM5, h⟩ := bw_wr_o h
    refine bw_iast (pc := 50) (q := 10) C ltM_10 shM_10 qM5 eM5 dX5_hard_50 ?_
    refine bw_iconst (pc := 51) (v := (1 : Int32)) C dX5_hard_51 ic_1 ?_
    obtain ⟨v6, ev6, h⟩ := bw_mv_o h
    refine bw_nmI ev6 ?_
    refine bw_istore (pc := 52) (L' := [(4, .int v6), (0, .ref (ρ 0)), (1, .int x1), (2, .int x2), (3, .int x3)]) C dX5_hard_52 (by decide) rfl ?_
    refine bw_iconst (pc := 54) (v := (0 : Int32)) C dX5_hard_54 ic_0 ?_
    obtain ⟨v7, ev7, h⟩ := bw_mv_o h
    refine bw_nmI ev7 ?_
    refine bw_istore (pc := 55) (L' := [(5, .int v7), (4, .int v6), (0, .ref (ρ 0)), (1, .int x1), (2, .int x2), (3, .int x3)]) C dX5_hard_55 (by decide) rfl ?_
    refine bw_pick [2, 3, 4, 5, 1, 0] rfl ?_
    exact tlX5_hard_57 C N x1 x2 k34 x3 rr zz hk34 N (v6, v7, M5) h
def flX5_hard_34 (N : Nat) (x1 : Int32) (x2 : Int32)    (fu : Nat) (w : Int32 × bw_M) : Option (Int32 × bw_M) := bw_lp (fun kk w => fX5_hard_34 N x1 x2 kk w.1 w.2) fu w
theorem tlX5_hard_34 {p : Program} {l : Launch} {e : Env} {s : State} {m : MethodId} {args : Array Value} {below : List Frame} {meth : Method} {c : Code} {D : va_G} {kT : Nat → ClassId} {ρ : Nat → Nat} (C : bw_Cx p s m args meth c cX5_hard 6 RX5 19 D kT ρ (some .int)) (N : Nat) (x1 : Int32) (x2 : Int32)     (rr : Int32) (zz : bw_M)  (fu : Nat) (w : Int32 × bw_M) (h : flX5_hard_34 N x1 x2 fu w = some (rr, zz)) : bw_At p l e rmX5_hard s m args below meth c (MQ below (bw_QI bw_shM 19 D kT ρ rr zz) args s 0 0 (bw_A ρ 19)) bw_shM 19 D kT ρ 6 34 [(0, .ref (ρ 0)), (1, .int x1), (2, .int x2), (3, .int w.1)] [] w.2 :=
  bw_loop (r := (rr, zz)) (fun w => bw_At p l e rmX5_hard s m args below meth c (MQ below (bw_QI bw_shM 19 D kT ρ rr zz) args s 0 0 (bw_A ρ 19)) bw_shM 19 D kT ρ 6 34 [(0, .ref (ρ 0)), (1, .int x1), (2, .int x2), (3, .int w.1)] [] w.2) (fun kk hk w h => tX5_hard_34 C N x1 x2 kk w.1 w.2 rr zz hk h) fu w h
def fX5_hard (N : Nat) (x1 : Int32) (x2 : Int32) (M : bw_M) : Option (Int32 × bw_M) :=
  bw_cl (fX5_arePipes x1 M) fun v1 =>
  if v1 = 0 then
  fX5_hard_20 N x1 x2 M
  else
  bw_cl (fX5_in (Int32.toInt64 x2) (1 : Int64) (20 : Int64)) fun v2 =>
  if v2 = 0 then
  fX5_hard_20 N x1 x2 M
  else
  if (M.1 0 9) = 0 then
  some ((-4 : Int32), M)
  else
  bw_mv (0 : Int32) fun v3 =>
  flX5_hard_34 N x1 x2 N (v3, M)
theorem tX5_hard (l : Launch) (N : Nat) (x1 : Int32) (x2 : Int32)  (M : bw_M) (rr : Int32) (zz : bw_M) (h : fX5_hard N x1 x2 M = some (rr, zz)) : bw_CI l bw_shM 19 yX5_hard cX5_hard 6 (some .int) rmX5_hard (fun ρ => [.ref (ρ 0), .int x1, .int x2]) M rr zz := by
  refine bw_inI (Lf := fun ρ => [(0, .ref (ρ 0)), (1, .int x1), (2, .int x2)]) cX5_hard 6 (some .int) RX5 pn_X5 rfl (fun ρ => Nat.le_of_ble_eq_true rfl) (fun ρ => rfl) ?_
  intro p e s m args below meth c D kT ρ C
  unfold fX5_hard at h
  refine bw_aload_n (pc := 0) C 0 dX5_hard_0 rfl rfl ?_
  refine bw_iload_n (pc := 1) C 1 dX5_hard_1 rfl rfl ?_
  obtain ⟨v1, ev1, h⟩ := bw_cl_o h
  refine bw_cVi (pc := 2) (q := 0) (As := [.int x1]) (rest := []) C (tX5_arePipes l x1 M v1 ev1) msX5_arePipes mw_928 rfl rfl ⟨Nat.le_of_ble_eq_true rfl, Nat.le_of_ble_eq_true rfl⟩ ltM_0 shM_0 rfl rfl rfl rfl (Nat.le_of_ble_eq_true rfl) dX5_hard_2 ?_
  refine bw_if_eq (pc := 5) C 20 dX5_hard_5 (by decide) h (fun h => ?_) (fun h => ?_)
  · refine bw_pick [0, 1, 2] rfl ?_
    exact tX5_hard_20 C N x1 x2 M rr zz h
  · refine bw_iload_n (pc := 8) C 2 dX5_hard_8 rfl rfl ?_
    refine bw_i2l (pc := 9) C dX5_hard_9 ?_
    refine bw_lconst (pc := 10) (v := (1 : Int64)) C dX5_hard_10 rfl ?_
    refine bw_ldc2_w (pc := 11) C mw_932 dX5_hard_11 ?_
    obtain ⟨v2, ev2, h⟩ := bw_cl_o h
    refine bw_cSi (pc := 14) (As := [.long (Int32.toInt64 x2), .long (1 : Int64), .long (20 : Int64)]) (rest := []) C (tX5_in l (Int32.toInt64 x2) (1 : Int64) (20 : Int64) M v2 ev2) msX5_in mw_717 rfl rfl ⟨Nat.le_of_ble_eq_true rfl, Nat.le_of_ble_eq_true rfl⟩ rfl rfl rfl (Nat.le_of_ble_eq_true rfl) dX5_hard_14 ?_
    refine bw_if_ne (pc := 17) C 22 dX5_hard_17 (by decide) h (fun h => ?_) (fun h => ?_)
    · refine bw_aload_n (pc := 22) C 0 dX5_hard_22 rfl rfl ?_
      refine bw_getI (pc := 23) (q := 0) (k0 := 9) C ltM_0 shM_0 rfl inX5 mw_624 (by decide) rfl dX5_hard_23 ?_
      refine bw_if_ne (pc := 26) C 32 dX5_hard_26 (by decide) h (fun h => ?_) (fun h => ?_)
      · refine bw_iconst (pc := 32) (v := (0 : Int32)) C dX5_hard_32 ic_0 ?_
        obtain ⟨v3, ev3, h⟩ := bw_mv_o h
        refine bw_nmI ev3 ?_
        refine bw_istore_n (pc := 33) (L' := [(3, .int v3), (0, .ref (ρ 0)), (1, .int x1), (2, .int x2)]) C dX5_hard_33 rfl (by decide) rfl ?_
        refine bw_pick [1, 2, 3, 0] rfl ?_
        exact tlX5_hard_34 C N x1 x2 rr zz N (v3, M) h
      · refine bw_bipush (pc := 29) (v := (-4 : Int32)) C dX5_hard_29 bi_m4 ?_
        exact bw_ireti (pc := 31) C dX5_hard_31 h
    · refine bw_pick [0, 1, 2] rfl ?_
      exact tX5_hard_20 C N x1 x2 M rr zz h
/-! X5_refuses -/
abbrev rmX5_refuses : Room := { frames := 0, cells := 0, slots := 0, locals := 0 }
theorem msX5_refuses : bw_MV yX5_refuses cX5_refuses 2 (some .int) RX5 1 := ⟨mw_831, mw_1104, mw_6, mw_832, by decide +kernel⟩
def fX5_refuses_29 (x1 : Int32)  (s0 : Int32) (M : bw_M) : Option (Int32) :=
  some s0
theorem tX5_refuses_29 {p : Program} {l : Launch} {e : Env} {s : State} {m : MethodId} {args : Array Value} {below : List Frame} {meth : Method} {c : Code} {D : va_G} {kT : Nat → ClassId} {ρ : Nat → Nat} (C : bw_Cx p s m args meth c cX5_refuses 2 RX5 19 D kT ρ (some .int)) (x1 : Int32)   (s0 : Int32) (M : bw_M) (rr : Int32)  (h : fX5_refuses_29 x1 s0 M = some rr) : bw_At p l e rmX5_refuses s m args below meth c (MQ below (bw_QI bw_shM 19 D kT ρ rr M) args s 0 0 (bw_A ρ 19)) bw_shM 19 D kT ρ 2 29 [(0, .ref (ρ 0)), (1, .int x1)] [.int s0] M := by
  unfold fX5_refuses_29 at h
  exact bw_ireti (pc := 29) C dX5_refuses_29 (bw_pr M h)
def fX5_refuses (x1 : Int32) (M : bw_M) : Option (Int32) :=
  if (M.1 0 9) = 0 then
  fX5_refuses_29 x1 (-4 : Int32) M
  else
  if ((M.1 0 16) + x1) ≤ (40 : Int32) then
  fX5_refuses_29 x1 (0 : Int32) M
  else
  fX5_refuses_29 x1 (-2 : Int32) M
theorem tX5_refuses (l : Launch) (x1 : Int32)  (M : bw_M) (rr : Int32) (h : fX5_refuses x1 M = some rr) : bw_CI l bw_shM 19 yX5_refuses cX5_refuses 2 (some .int) rmX5_refuses (fun ρ => [.ref (ρ 0), .int x1]) M rr M := by
  refine bw_inI (Lf := fun ρ => [(0, .ref (ρ 0)), (1, .int x1)]) cX5_refuses 2 (some .int) RX5 pn_X5 rfl (fun ρ => Nat.le_of_ble_eq_true rfl) (fun ρ => rfl) ?_
  intro p e s m args below meth c D kT ρ C
  unfold fX5_refuses at h
  refine bw_aload_n (pc := 0) C 0 dX5_refuses_0 rfl rfl ?_
  refine bw_getI (pc := 1) (q := 0) (k0 := 9) C ltM_0 shM_0 rfl inX5 mw_624 (by decide) rfl dX5_refuses_1 ?_
  refine bw_if_ne (pc := 4) C 12 dX5_refuses_4 (by decide) h (fun h => ?_) (fun h => ?_)
  · refine bw_aload_n (pc := 12) C 0 dX5_refuses_12 rfl rfl ?_
    refine bw_getI (pc := 13) (q := 0) (k0 := 16) C ltM_0 shM_0 rfl inX5 mw_631 (by decide) rfl dX5_refuses_13 ?_
    refine bw_iload_n (pc := 16) C 1 dX5_refuses_16 rfl rfl ?_
    refine bw_iadd (pc := 17) C dX5_refuses_17 ?_
    refine bw_bipush (pc := 18) (v := (40 : Int32)) C dX5_refuses_18 bi_40 ?_
    refine bw_icmp_le (pc := 20) C 28 dX5_refuses_20 (by decide) h (fun h => ?_) (fun h => ?_)
    · refine bw_iconst (pc := 28) (v := (0 : Int32)) C dX5_refuses_28 ic_0 ?_
      refine bw_pick [0, 1] rfl ?_
      exact tX5_refuses_29 C x1 (0 : Int32) M rr h
    · refine bw_bipush (pc := 23) (v := (-2 : Int32)) C dX5_refuses_23 bi_m2 ?_
      refine bw_goto (pc := 25) C 29 dX5_refuses_25 (by decide) ?_
      refine bw_pick [0, 1] rfl ?_
      exact tX5_refuses_29 C x1 (-2 : Int32) M rr h
  · refine bw_bipush (pc := 7) (v := (-4 : Int32)) C dX5_refuses_7 bi_m4 ?_
    refine bw_goto (pc := 9) C 29 dX5_refuses_9 (by decide) ?_
    refine bw_pick [0, 1] rfl ?_
    exact tX5_refuses_29 C x1 (-4 : Int32) M rr h
/-! X5_hour -/
abbrev rmX5_hour : Room := { frames := 4, cells := 0, slots := 0, locals := 90 }
theorem msX5_hour : bw_MV yX5_hour cX5_hour 2 (some .int) RX5 0 := ⟨mw_826, mw_827, mw_6, mw_828, by decide +kernel⟩
def fX5_hour (N : Nat)  (M : bw_M) : Option (Int32 × bw_M) :=
  bw_cl (fX5_refuses (1 : Int32) M) fun v1 =>
  if v1 = 0 then
  bw_cl (fX5_remember N M) fun M2 =>
  bw_c2 (fX5_goes N 9 17 M2) fun v3 M4 =>
  some (v3, M4)
  else
  some (v1, M)
theorem tX5_hour (l : Launch) (N : Nat)   (M : bw_M) (rr : Int32) (zz : bw_M) (h : fX5_hour N M = some (rr, zz)) : bw_CI l bw_shM 19 yX5_hour cX5_hour 2 (some .int) rmX5_hour (fun ρ => [.ref (ρ 0)]) M rr zz := by
  refine bw_inI (Lf := fun ρ => [(0, .ref (ρ 0))]) cX5_hour 2 (some .int) RX5 pn_X5 rfl (fun ρ => Nat.le_of_ble_eq_true rfl) (fun ρ => rfl) ?_
  intro p e s m args below meth c D kT ρ C
  unfold fX5_hour at h
  refine bw_aload_n (pc := 0) C 0 dX5_hour_0 rfl rfl ?_
  refine bw_iconst (pc := 1) (v := (1 : Int32)) C dX5_hour_1 ic_1 ?_
  obtain ⟨v1, ev1, h⟩ := bw_cl_o h
  refine bw_cVi (pc := 2) (q := 0) (As := [.int (1 : Int32)]) (rest := []) C (tX5_refuses l (1 : Int32) M v1 ev1) msX5_refuses mw_829 rfl rfl ⟨Nat.le_of_ble_eq_true rfl, Nat.le_of_ble_eq_true rfl⟩ ltM_0 shM_0 rfl rfl rfl rfl (Nat.le_of_ble_eq_true rfl) dX5_hour_2 ?_
  refine bw_istore_n (pc := 5) (L' := [(1, .int v1), (0, .ref (ρ 0))]) C dX5_hour_5 rfl (by decide) rfl ?_
  refine bw_iload_n (pc := 6) C 0 dX5_hour_6 rfl rfl ?_
  refine bw_if_eq (pc := 7) C 12 dX5_hour_7 (by decide) h (fun h => ?_) (fun h => ?_)
  · refine bw_aload_n (pc := 12) C 1 dX5_hour_12 rfl rfl ?_
    obtain ⟨M2, eM2, h⟩ := bw_cl_o h
    refine bw_cVv (pc := 13) (q := 0) (As := []) (rest := []) C (tX5_remember l N M M2 eM2) msX5_remember mw_833 rfl rfl ⟨Nat.le_of_ble_eq_true rfl, Nat.le_of_ble_eq_true rfl⟩ ltM_0 shM_0 rfl rfl rfl rfl (Nat.le_of_ble_eq_true rfl) dX5_hour_13 ?_
    refine bw_aload_n (pc := 16) C 1 dX5_hour_16 rfl rfl ?_
    refine bw_aload_n (pc := 17) C 1 dX5_hour_17 rfl rfl ?_
    refine bw_getR (pc := 18) (q := 0) (k0 := 13) C ltM_0 shM_0 rfl inX5 mw_628 (by decide) rfl dX5_hour_18 ?_
    obtain ⟨v3, M4, ev3, h⟩ := bw_c2_o h
    refine bw_cVi (pc := 21) (q := 0) (As := [.ref (ρ 9)]) (rest := []) C (tX5_goes l N 9 17 ltM_9 shM_9 M2 v3 M4 ev3) msX5_goes mw_840 rfl rfl ⟨Nat.le_of_ble_eq_true rfl, Nat.le_of_ble_eq_true rfl⟩ ltM_0 shM_0 rfl rfl rfl rfl (Nat.le_of_ble_eq_true rfl) dX5_hour_21 ?_
    exact bw_ireti (pc := 24) C dX5_hour_24 h
  · refine bw_iload_n (pc := 10) C 0 dX5_hour_10 rfl rfl ?_
    exact bw_ireti (pc := 11) C dX5_hour_11 h
/-! X5_hush -/
abbrev rmX5_hush : Room := { frames := 4, cells := 0, slots := 0, locals := 90 }
theorem msX5_hush : bw_MV yX5_hush cX5_hush 4 (some .int) RX5 1 := ⟨mw_914, mw_915, mw_6, mw_916, by decide +kernel⟩
def fX5_hush_118 (N : Nat) (x1 : Int32)  (s0 : Int32) (M : bw_M) : Option (Int32 × bw_M) :=
  some (s0, M)
theorem tX5_hush_118 {p : Program} {l : Launch} {e : Env} {s : State} {m : MethodId} {args : Array Value} {below : List Frame} {meth : Method} {c : Code} {D : va_G} {kT : Nat → ClassId} {ρ : Nat → Nat} (C : bw_Cx p s m args meth c cX5_hush 4 RX5 19 D kT ρ (some .int)) (N : Nat) (x1 : Int32)   (s0 : Int32) (M : bw_M) (rr : Int32) (zz : bw_M)  (h : fX5_hush_118 N x1 s0 M = some (rr, zz)) : bw_At p l e rmX5_hush s m args below meth c (MQ below (bw_QI bw_shM 19 D kT ρ rr zz) args s 0 0 (bw_A ρ 19)) bw_shM 19 D kT ρ 4 118 [(0, .ref (ρ 0)), (1, .int x1)] [.int s0] M := by
  unfold fX5_hush_118 at h
  exact bw_ireti (pc := 118) C dX5_hush_118 h
def fX5_hush_92 (N : Nat) (x1 : Int32) (k15 : Int32 × Int32 × bw_M → Option (Int32 × bw_M)) (x2 : Int32) (x3 : Int32) (M : bw_M) : Option (Int32 × bw_M) :=
  bw_mv (x3 + 1) fun v8 =>
  k15 (x2, v8, M)
theorem tX5_hush_92 {p : Program} {l : Launch} {e : Env} {s : State} {m : MethodId} {args : Array Value} {below : List Frame} {meth : Method} {c : Code} {D : va_G} {kT : Nat → ClassId} {ρ : Nat → Nat} (C : bw_Cx p s m args meth c cX5_hush 4 RX5 19 D kT ρ (some .int)) (N : Nat) (x1 : Int32)  (k15 : Int32 × Int32 × bw_M → Option (Int32 × bw_M)) (x2 : Int32) (x3 : Int32) (M : bw_M) (rr : Int32) (zz : bw_M) (hk15 : ∀ z0, k15 z0 = some (rr, zz) → bw_At p l e rmX5_hush s m args below meth c (MQ below (bw_QI bw_shM 19 D kT ρ rr zz) args s 0 0 (bw_A ρ 19)) bw_shM 19 D kT ρ 4 15 [(0, .ref (ρ 0)), (1, .int x1), (2, .int z0.1), (3, .int z0.2.1)] [] z0.2.2) (h : fX5_hush_92 N x1 k15 x2 x3 M = some (rr, zz)) : bw_At p l e rmX5_hush s m args below meth c (MQ below (bw_QI bw_shM 19 D kT ρ rr zz) args s 0 0 (bw_A ρ 19)) bw_shM 19 D kT ρ 4 92 [(0, .ref (ρ 0)), (1, .int x1), (2, .int x2), (3, .int x3)] [] M := by
  unfold fX5_hush_92 at h
  obtain ⟨v8, ev8, h⟩ := bw_mv_o h
  refine bw_iinc (pc := 92) (x := v8) (L' := [(3, .int v8), (0, .ref (ρ 0)), (1, .int x1), (2, .int x2)]) C 3 dX5_hush_92 rfl ev8.symm (by decide) rfl ?_
  refine bw_goto (pc := 95) C 15 dX5_hush_95 (by decide) ?_
  refine bw_pick [1, 2, 3, 0] rfl ?_
  exact hk15 (x2, v8, M) h
def fX5_hush_91 (N : Nat) (x1 : Int32) (k15 : Int32 × Int32 × bw_M → Option (Int32 × bw_M)) (x3 : Int32) (s0 : Int32) (M : bw_M) : Option (Int32 × bw_M) :=
  fX5_hush_92 N x1 k15 s0 x3 M
theorem tX5_hush_91 {p : Program} {l : Launch} {e : Env} {s : State} {m : MethodId} {args : Array Value} {below : List Frame} {meth : Method} {c : Code} {D : va_G} {kT : Nat → ClassId} {ρ : Nat → Nat} (C : bw_Cx p s m args meth c cX5_hush 4 RX5 19 D kT ρ (some .int)) (N : Nat) (x1 : Int32)  (k15 : Int32 × Int32 × bw_M → Option (Int32 × bw_M)) (x3 : Int32) (s0 : Int32) (M : bw_M) (rr : Int32) (zz : bw_M) (hk15 : ∀ z0, k15 z0 = some (rr, zz) → bw_At p l e rmX5_hush s m args below meth c (MQ below (bw_QI bw_shM 19 D kT ρ rr zz) args s 0 0 (bw_A ρ 19)) bw_shM 19 D kT ρ 4 15 [(0, .ref (ρ 0)), (1, .int x1), (2, .int z0.1), (3, .int z0.2.1)] [] z0.2.2) (h : fX5_hush_91 N x1 k15 x3 s0 M = some (rr, zz)) : bw_At p l e rmX5_hush s m args below meth c (MQ below (bw_QI bw_shM 19 D kT ρ rr zz) args s 0 0 (bw_A ρ 19)) bw_shM 19 D kT ρ 4 91 [(0, .ref (ρ 0)), (1, .int x1), (3, .int x3)] [.int s0] M := by
  unfold fX5_hush_91 at h
  refine bw_istore_n (pc := 91) (L' := [(2, .int s0), (0, .ref (ρ 0)), (1, .int x1), (3, .int x3)]) C dX5_hush_91 rfl (by decide) rfl ?_
  refine bw_pick [1, 2, 0, 3] rfl ?_
  exact tX5_hush_92 C N x1 k15 s0 x3 M rr zz hk15 h
def fX5_hush_57 (N : Nat) (x1 : Int32) (k15 : Int32 × Int32 × bw_M → Option (Int32 × bw_M)) (x2 : Int32) (x3 : Int32) (M : bw_M) : Option (Int32 × bw_M) :=
  bw_cl (fX5_layAside N M) fun M9 =>
  bw_rd M9 10 17 (3 : Int32) fun v10 =>
  bw_wr M9 10 17 (3 : Int32) (v10 ||| x3) fun M11 =>
  bw_c2 (fX5_goes N 10 17 M11) fun v12 M13 =>
  bw_cl (fX5_has v12 x1) fun v14 =>
  if v14 = 0 then
  fX5_hush_91 N x1 k15 x3 x2 M13
  else
  fX5_hush_91 N x1 k15 x3 x3 M13
theorem tX5_hush_57 {p : Program} {l : Launch} {e : Env} {s : State} {m : MethodId} {args : Array Value} {below : List Frame} {meth : Method} {c : Code} {D : va_G} {kT : Nat → ClassId} {ρ : Nat → Nat} (C : bw_Cx p s m args meth c cX5_hush 4 RX5 19 D kT ρ (some .int)) (N : Nat) (x1 : Int32)  (k15 : Int32 × Int32 × bw_M → Option (Int32 × bw_M)) (x2 : Int32) (x3 : Int32) (M : bw_M) (rr : Int32) (zz : bw_M) (hk15 : ∀ z0, k15 z0 = some (rr, zz) → bw_At p l e rmX5_hush s m args below meth c (MQ below (bw_QI bw_shM 19 D kT ρ rr zz) args s 0 0 (bw_A ρ 19)) bw_shM 19 D kT ρ 4 15 [(0, .ref (ρ 0)), (1, .int x1), (2, .int z0.1), (3, .int z0.2.1)] [] z0.2.2) (h : fX5_hush_57 N x1 k15 x2 x3 M = some (rr, zz)) : bw_At p l e rmX5_hush s m args below meth c (MQ below (bw_QI bw_shM 19 D kT ρ rr zz) args s 0 0 (bw_A ρ 19)) bw_shM 19 D kT ρ 4 57 [(0, .ref (ρ 0)), (1, .int x1), (2, .int x2), (3, .int x3)] [] M := by
  unfold fX5_hush_57 at h
  refine bw_aload_n (pc := 57) C 0 dX5_hush_57 rfl rfl ?_
  obtain ⟨M9, eM9, h⟩ := bw_cl_o h
  refine bw_cVv (pc := 58) (q := 0) (As := []) (rest := []) C (tX5_layAside l N M M9 eM9) msX5_layAside mw_897 rfl rfl ⟨Nat.le_of_ble_eq_true rfl, Nat.le_of_ble_eq_true rfl⟩ ltM_0 shM_0 rfl rfl rfl rfl (Nat.le_of_ble_eq_true rfl) dX5_hush_58 ?_
  refine bw_aload_n (pc := 61) C 0 dX5_hush_61 rfl rfl ?_
  refine bw_getR (pc := 62) (q := 0) (k0 := 14) C ltM_0 shM_0 rfl inX5 mw_629 (by decide) rfl dX5_hush_62 ?_
  refine bw_iconst (pc := 65) (v := (3 : Int32)) C dX5_hush_65 ic_3 ?_
  refine bw_dup2 (pc := 66) C dX5_hush_66 rfl rfl ?_
  obtain ⟨qv10, v10, ev10, h⟩ := bw_rd_o h
  refine bw_iald (pc := 67) (q := 10) C ltM_10 shM_10 qv10 ev10 dX5_hush_67 ?_
  refine bw_iload_n (pc := 68) C 3 dX5_hush_68 rfl rfl ?_
  refine bw_ior (pc := 69) C dX5_hush_69 ?_
  obtain ⟨qM11, M11, eM11, h⟩ := bw_wr_o h
  refine bw_iast (pc := 70) (q := 10) C ltM_10 shM_10 qM11 eM11 dX5_hush_70 ?_
  refine bw_aload_n (pc := 71) C 0 dX5_hush_71 rfl rfl ?_
  refine bw_aload_n (pc := 72) C 0 dX5_hush_72 rfl rfl ?_
  refine bw_getR (pc := 73) (q := 0) (k0 := 14) C ltM_0 shM_0 rfl inX5 mw_629 (by decide) rfl dX5_hush_73 ?_
  obtain ⟨v12, M13, ev12, h⟩ := bw_c2_o h
  refine bw_cVi (pc := 76) (q := 0) (As := [.ref (ρ 10)]) (rest := []) C (tX5_goes l N 10 17 ltM_10 shM_10 M11 v12 M13 ev12) msX5_goes mw_840 rfl rfl ⟨Nat.le_of_ble_eq_true rfl, Nat.le_of_ble_eq_true rfl⟩ ltM_0 shM_0 rfl rfl rfl rfl (Nat.le_of_ble_eq_true rfl) dX5_hush_76 ?_
  refine bw_iload_n (pc := 79) C 1 dX5_hush_79 rfl rfl ?_
  obtain ⟨v14, ev14, h⟩ := bw_cl_o h
  refine bw_cSi (pc := 80) (As := [.int v12, .int x1]) (rest := []) C (tX5_has l v12 x1 M13 v14 ev14) msX5_has mw_815 rfl rfl ⟨Nat.le_of_ble_eq_true rfl, Nat.le_of_ble_eq_true rfl⟩ rfl rfl rfl (Nat.le_of_ble_eq_true rfl) dX5_hush_80 ?_
  refine bw_if_eq (pc := 83) C 90 dX5_hush_83 (by decide) h (fun h => ?_) (fun h => ?_)
  · refine bw_iload_n (pc := 90) C 2 dX5_hush_90 rfl rfl ?_
    refine bw_pick [0, 1, 3] rfl ?_
    exact tX5_hush_91 C N x1 k15 x3 x2 M13 rr zz hk15 h
  · refine bw_iload_n (pc := 86) C 3 dX5_hush_86 rfl rfl ?_
    refine bw_goto (pc := 87) C 91 dX5_hush_87 (by decide) ?_
    refine bw_pick [0, 1, 3] rfl ?_
    exact tX5_hush_91 C N x1 k15 x3 x3 M13 rr zz hk15 h
def fX5_hush_15 (N : Nat) (x1 : Int32) (k15 : Int32 × Int32 × bw_M → Option (Int32 × bw_M)) (x2 : Int32) (x3 : Int32) (M : bw_M) : Option (Int32 × bw_M) :=
  if ((1 : Int32) <<< ((M.1 0 9) &&& 31)) ≤ x3 then
  if x2 = (-9 : Int32) then
  fX5_hush_118 N x1 (-9 : Int32) M
  else
  bw_cl (fX5_bits N x2) fun v4 =>
  bw_c2 (fX5_answer v4 x2 M) fun v5 M6 =>
  fX5_hush_118 N x1 v5 M6
  else
  bw_rd M 9 17 (3 : Int32) fun v7 =>
  if (x3 &&& (v7 ||| ((1 : Int32) <<< (x1 &&& 31)))) = 0 then
  if x2 = (-9 : Int32) then
  fX5_hush_57 N x1 k15 x2 x3 M
  else
  bw_cl (fX5_bits N x3) fun v15 =>
  bw_cl (fX5_bits N x2) fun v16 =>
  if v16 ≤ v15 then
  fX5_hush_92 N x1 k15 x2 x3 M
  else
  fX5_hush_57 N x1 k15 x2 x3 M
  else
  fX5_hush_92 N x1 k15 x2 x3 M
theorem tX5_hush_15 {p : Program} {l : Launch} {e : Env} {s : State} {m : MethodId} {args : Array Value} {below : List Frame} {meth : Method} {c : Code} {D : va_G} {kT : Nat → ClassId} {ρ : Nat → Nat} (C : bw_Cx p s m args meth c cX5_hush 4 RX5 19 D kT ρ (some .int)) (N : Nat) (x1 : Int32)  (k15 : Int32 × Int32 × bw_M → Option (Int32 × bw_M)) (x2 : Int32) (x3 : Int32) (M : bw_M) (rr : Int32) (zz : bw_M) (hk15 : ∀ z0, k15 z0 = some (rr, zz) → bw_At p l e rmX5_hush s m args below meth c (MQ below (bw_QI bw_shM 19 D kT ρ rr zz) args s 0 0 (bw_A ρ 19)) bw_shM 19 D kT ρ 4 15 [(0, .ref (ρ 0)), (1, .int x1), (2, .int z0.1), (3, .int z0.2.1)] [] z0.2.2) (h : fX5_hush_15 N x1 k15 x2 x3 M = some (rr, zz)) : bw_At p l e rmX5_hush s m args below meth c (MQ below (bw_QI bw_shM 19 D kT ρ rr zz) args s 0 0 (bw_A ρ 19)) bw_shM 19 D kT ρ 4 15 [(0, .ref (ρ 0)), (1, .int x1), (2, .int x2), (3, .int x3)] [] M := by
  unfold fX5_hush_15 at h
  refine bw_iload_n (pc := 15) C 3 dX5_hush_15 rfl rfl ?_
  refine bw_iconst (pc := 16) (v := (1 : Int32)) C dX5_hush_16 ic_1 ?_
  refine bw_aload_n (pc := 17) C 0 dX5_hush_17 rfl rfl ?_
  refine bw_getI (pc := 18) (q := 0) (k0 := 9) C ltM_0 shM_0 rfl inX5 mw_624 (by decide) rfl dX5_hush_18 ?_
  refine bw_ishl (pc := 21) C dX5_hush_21 ?_
  refine bw_icmp_ge (pc := 22) C 98 dX5_hush_22 (by decide) h (fun h => ?_) (fun h => ?_)
  · refine bw_iload_n (pc := 98) C 2 dX5_hush_98 rfl rfl ?_
    refine bw_bipush (pc := 99) (v := (-9 : Int32)) C dX5_hush_99 bi_m9 ?_
    refine bw_icmp_ne (pc := 101) C 109 dX5_hush_101 (by decide) h (fun h => ?_) (fun h => ?_)
    · refine bw_aload_n (pc := 109) C 0 dX5_hush_109 rfl rfl ?_
      refine bw_iload_n (pc := 110) C 2 dX5_hush_110 rfl rfl ?_
      obtain ⟨v4, ev4, h⟩ := bw_cl_o h
      refine bw_cSi (pc := 111) (As := [.int x2]) (rest := [.ref (ρ 0)]) C (tX5_bits l N x2 M v4 ev4) msX5_bits mw_917 rfl rfl ⟨Nat.le_of_ble_eq_true rfl, Nat.le_of_ble_eq_true rfl⟩ rfl rfl rfl (Nat.le_of_ble_eq_true rfl) dX5_hush_111 ?_
      refine bw_iload_n (pc := 114) C 2 dX5_hush_114 rfl rfl ?_
      obtain ⟨v5, M6, ev5, h⟩ := bw_c2_o h
      refine bw_cVi (pc := 115) (q := 0) (As := [.int v4, .int x2]) (rest := []) C (tX5_answer l v4 x2 M v5 M6 ev5) msX5_answer mw_901 rfl rfl ⟨Nat.le_of_ble_eq_true rfl, Nat.le_of_ble_eq_true rfl⟩ ltM_0 shM_0 rfl rfl rfl rfl (Nat.le_of_ble_eq_true rfl) dX5_hush_115 ?_
      refine bw_pick [0, 1] rfl ?_
      exact tX5_hush_118 C N x1 v5 M6 rr zz h
    · refine bw_bipush (pc := 104) (v := (-9 : Int32)) C dX5_hush_104 bi_m9 ?_
      refine bw_goto (pc := 106) C 118 dX5_hush_106 (by decide) ?_
      refine bw_pick [0, 1] rfl ?_
      exact tX5_hush_118 C N x1 (-9 : Int32) M rr zz h
  · refine bw_iload_n (pc := 25) C 3 dX5_hush_25 rfl rfl ?_
    refine bw_aload_n (pc := 26) C 0 dX5_hush_26 rfl rfl ?_
    refine bw_getR (pc := 27) (q := 0) (k0 := 13) C ltM_0 shM_0 rfl inX5 mw_628 (by decide) rfl dX5_hush_27 ?_
    refine bw_iconst (pc := 30) (v := (3 : Int32)) C dX5_hush_30 ic_3 ?_
    obtain ⟨qv7, v7, ev7, h⟩ := bw_rd_o h
    refine bw_iald (pc := 31) (q := 9) C ltM_9 shM_9 qv7 ev7 dX5_hush_31 ?_
    refine bw_iconst (pc := 32) (v := (1 : Int32)) C dX5_hush_32 ic_1 ?_
    refine bw_iload_n (pc := 33) C 1 dX5_hush_33 rfl rfl ?_
    refine bw_ishl (pc := 34) C dX5_hush_34 ?_
    refine bw_ior (pc := 35) C dX5_hush_35 ?_
    refine bw_iand (pc := 36) C dX5_hush_36 ?_
    refine bw_if_ne (pc := 37) C 92 dX5_hush_37 (by decide) h (fun h => ?_) (fun h => ?_)
    · refine bw_pick [0, 1, 2, 3] rfl ?_
      exact tX5_hush_92 C N x1 k15 x2 x3 M rr zz hk15 h
    · refine bw_iload_n (pc := 40) C 2 dX5_hush_40 rfl rfl ?_
      refine bw_bipush (pc := 41) (v := (-9 : Int32)) C dX5_hush_41 bi_m9 ?_
      refine bw_icmp_eq (pc := 43) C 57 dX5_hush_43 (by decide) h (fun h => ?_) (fun h => ?_)
      · refine bw_pick [0, 1, 2, 3] rfl ?_
        exact tX5_hush_57 C N x1 k15 x2 x3 M rr zz hk15 h
      · refine bw_iload_n (pc := 46) C 3 dX5_hush_46 rfl rfl ?_
        obtain ⟨v15, ev15, h⟩ := bw_cl_o h
        refine bw_cSi (pc := 47) (As := [.int x3]) (rest := []) C (tX5_bits l N x3 M v15 ev15) msX5_bits mw_917 rfl rfl ⟨Nat.le_of_ble_eq_true rfl, Nat.le_of_ble_eq_true rfl⟩ rfl rfl rfl (Nat.le_of_ble_eq_true rfl) dX5_hush_47 ?_
        refine bw_iload_n (pc := 50) C 2 dX5_hush_50 rfl rfl ?_
        obtain ⟨v16, ev16, h⟩ := bw_cl_o h
        refine bw_cSi (pc := 51) (As := [.int x2]) (rest := [.int v15]) C (tX5_bits l N x2 M v16 ev16) msX5_bits mw_917 rfl rfl ⟨Nat.le_of_ble_eq_true rfl, Nat.le_of_ble_eq_true rfl⟩ rfl rfl rfl (Nat.le_of_ble_eq_true rfl) dX5_hush_51 ?_
        refine bw_icmp_ge (pc := 54) C 92 dX5_hush_54 (by decide) h (fun h => ?_) (fun h => ?_)
        · refine bw_pick [0, 1, 2, 3] rfl ?_
          exact tX5_hush_92 C N x1 k15 x2 x3 M rr zz hk15 h
        · refine bw_pick [0, 1, 2, 3] rfl ?_
          exact tX5_hush_57 C N x1 k15 x2 x3 M rr zz hk15 h
def flX5_hush_15 (N : Nat) (x1 : Int32)    (fu : Nat) (w : Int32 × Int32 × bw_M) : Option (Int32 × bw_M) := bw_lp (fun kk w => fX5_hush_15 N x1 kk w.1 w.2.1 w.2.2) fu w
theorem tlX5_hush_15 {p : Program} {l : Launch} {e : Env} {s : State} {m : MethodId} {args : Array Value} {below : List Frame} {meth : Method} {c : Code} {D : va_G} {kT : Nat → ClassId} {ρ : Nat → Nat} (C : bw_Cx p s m args meth c cX5_hush 4 RX5 19 D kT ρ (some .int)) (N : Nat) (x1 : Int32)     (rr : Int32) (zz : bw_M)  (fu : Nat) (w : Int32 × Int32 × bw_M) (h : flX5_hush_15 N x1 fu w = some (rr, zz)) : bw_At p l e rmX5_hush s m args below meth c (MQ below (bw_QI bw_shM 19 D kT ρ rr zz) args s 0 0 (bw_A ρ 19)) bw_shM 19 D kT ρ 4 15 [(0, .ref (ρ 0)), (1, .int x1), (2, .int w.1), (3, .int w.2.1)] [] w.2.2 :=
  bw_loop (r := (rr, zz)) (fun w => bw_At p l e rmX5_hush s m args below meth c (MQ below (bw_QI bw_shM 19 D kT ρ rr zz) args s 0 0 (bw_A ρ 19)) bw_shM 19 D kT ρ 4 15 [(0, .ref (ρ 0)), (1, .int x1), (2, .int w.1), (3, .int w.2.1)] [] w.2.2) (fun kk hk w h => tX5_hush_15 C N x1 kk w.1 w.2.1 w.2.2 rr zz hk h) fu w h
def fX5_hush (N : Nat) (x1 : Int32) (M : bw_M) : Option (Int32 × bw_M) :=
  bw_cl (fX5_isPipe x1 M) fun v1 =>
  if v1 = 0 then
  some ((-1 : Int32), M)
  else
  bw_mv (-9 : Int32) fun v2 =>
  bw_mv (0 : Int32) fun v3 =>
  flX5_hush_15 N x1 N (v2, v3, M)
theorem tX5_hush (l : Launch) (N : Nat) (x1 : Int32)  (M : bw_M) (rr : Int32) (zz : bw_M) (h : fX5_hush N x1 M = some (rr, zz)) : bw_CI l bw_shM 19 yX5_hush cX5_hush 4 (some .int) rmX5_hush (fun ρ => [.ref (ρ 0), .int x1]) M rr zz := by
  refine bw_inI (Lf := fun ρ => [(0, .ref (ρ 0)), (1, .int x1)]) cX5_hush 4 (some .int) RX5 pn_X5 rfl (fun ρ => Nat.le_of_ble_eq_true rfl) (fun ρ => rfl) ?_
  intro p e s m args below meth c D kT ρ C
  unfold fX5_hush at h
  refine bw_aload_n (pc := 0) C 0 dX5_hush_0 rfl rfl ?_
  refine bw_iload_n (pc := 1) C 1 dX5_hush_1 rfl rfl ?_
  obtain ⟨v1, ev1, h⟩ := bw_cl_o h
  refine bw_cVi (pc := 2) (q := 0) (As := [.int x1]) (rest := []) C (tX5_isPipe l x1 M v1 ev1) msX5_isPipe mw_799 rfl rfl ⟨Nat.le_of_ble_eq_true rfl, Nat.le_of_ble_eq_true rfl⟩ ltM_0 shM_0 rfl rfl rfl rfl (Nat.le_of_ble_eq_true rfl) dX5_hush_2 ?_
  refine bw_if_ne (pc := 5) C 10 dX5_hush_5 (by decide) h (fun h => ?_) (fun h => ?_)
  · refine bw_bipush (pc := 10) (v := (-9 : Int32)) C dX5_hush_10 bi_m9 ?_
    obtain ⟨v2, ev2, h⟩ := bw_mv_o h
    refine bw_nmI ev2 ?_
    refine bw_istore_n (pc := 12) (L' := [(2, .int v2), (0, .ref (ρ 0)), (1, .int x1)]) C dX5_hush_12 rfl (by decide) rfl ?_
    refine bw_iconst (pc := 13) (v := (0 : Int32)) C dX5_hush_13 ic_0 ?_
    obtain ⟨v3, ev3, h⟩ := bw_mv_o h
    refine bw_nmI ev3 ?_
    refine bw_istore_n (pc := 14) (L' := [(3, .int v3), (2, .int v2), (0, .ref (ρ 0)), (1, .int x1)]) C dX5_hush_14 rfl (by decide) rfl ?_
    refine bw_pick [2, 3, 1, 0] rfl ?_
    exact tlX5_hush_15 C N x1 rr zz N (v2, v3, M) h
  · refine bw_iconst (pc := 8) (v := (-1 : Int32)) C dX5_hush_8 ic_m1 ?_
    exact bw_ireti (pc := 9) C dX5_hush_9 h
/-! X5_keep -/
abbrev rmX5_keep : Room := { frames := 1, cells := 0, slots := 0, locals := 25 }
theorem msX5_keep : bw_MV yX5_keep cX5_keep 2 (some .int) RX5 1 := ⟨mw_879, mw_880, mw_6, mw_881, by decide +kernel⟩
def fX5_keep (N : Nat) (x1 : Int32) (M : bw_M) : Option (Int32 × bw_M) :=
  bw_cl (fX5_in (Int32.toInt64 x1) (0 : Int64) (2 : Int64)) fun v1 =>
  if v1 = 0 then
  some ((-1 : Int32), M)
  else
  if (M.1 0 9) = 0 then
  some ((-4 : Int32), M)
  else
  bw_wr M 12 2094 ((698 : Int32) * x1) (M.1 0 16) fun M2 =>
  bw_cl (fX5_copies N 9 17 (0 : Int32) 12 2094 (((698 : Int32) * x1) + (1 : Int32)) (17 : Int32) M2) fun M3 =>
  bw_cl (fX5_copies N 11 680 (0 : Int32) 12 2094 ((((698 : Int32) * x1) + (1 : Int32)) + (17 : Int32)) (680 : Int32) M3) fun M4 =>
  some ((M4.1 0 16), M4)
theorem tX5_keep (l : Launch) (N : Nat) (x1 : Int32)  (M : bw_M) (rr : Int32) (zz : bw_M) (h : fX5_keep N x1 M = some (rr, zz)) : bw_CI l bw_shM 19 yX5_keep cX5_keep 2 (some .int) rmX5_keep (fun ρ => [.ref (ρ 0), .int x1]) M rr zz := by
  refine bw_inI (Lf := fun ρ => [(0, .ref (ρ 0)), (1, .int x1)]) cX5_keep 2 (some .int) RX5 pn_X5 rfl (fun ρ => Nat.le_of_ble_eq_true rfl) (fun ρ => rfl) ?_
  intro p e s m args below meth c D kT ρ C
  unfold fX5_keep at h
  refine bw_iload_n (pc := 0) C 1 dX5_keep_0 rfl rfl ?_
  refine bw_i2l (pc := 1) C dX5_keep_1 ?_
  refine bw_lconst (pc := 2) (v := (0 : Int64)) C dX5_keep_2 rfl ?_
  refine bw_ldc2_w (pc := 3) C mw_882 dX5_keep_3 ?_
  obtain ⟨v1, ev1, h⟩ := bw_cl_o h
  refine bw_cSi (pc := 6) (As := [.long (Int32.toInt64 x1), .long (0 : Int64), .long (2 : Int64)]) (rest := []) C (tX5_in l (Int32.toInt64 x1) (0 : Int64) (2 : Int64) M v1 ev1) msX5_in mw_717 rfl rfl ⟨Nat.le_of_ble_eq_true rfl, Nat.le_of_ble_eq_true rfl⟩ rfl rfl rfl (Nat.le_of_ble_eq_true rfl) dX5_keep_6 ?_
  refine bw_if_ne (pc := 9) C 14 dX5_keep_9 (by decide) h (fun h => ?_) (fun h => ?_)
  · refine bw_aload_n (pc := 14) C 0 dX5_keep_14 rfl rfl ?_
    refine bw_getI (pc := 15) (q := 0) (k0 := 9) C ltM_0 shM_0 rfl inX5 mw_624 (by decide) rfl dX5_keep_15 ?_
    refine bw_if_ne (pc := 18) C 24 dX5_keep_18 (by decide) h (fun h => ?_) (fun h => ?_)
    · refine bw_aload_n (pc := 24) C 0 dX5_keep_24 rfl rfl ?_
      refine bw_getR (pc := 25) (q := 0) (k0 := 17) C ltM_0 shM_0 rfl inX5 mw_632 (by decide) rfl dX5_keep_25 ?_
      refine bw_sipush (pc := 28) (v := (698 : Int32)) C dX5_keep_28 si_698 ?_
      refine bw_iload_n (pc := 31) C 1 dX5_keep_31 rfl rfl ?_
      refine bw_imul (pc := 32) C dX5_keep_32 ?_
      refine bw_aload_n (pc := 33) C 0 dX5_keep_33 rfl rfl ?_
      refine bw_getI (pc := 34) (q := 0) (k0 := 16) C ltM_0 shM_0 rfl inX5 mw_631 (by decide) rfl dX5_keep_34 ?_
      obtain ⟨qM2, M2, eM2, h⟩ := bw_wr_o h
      refine bw_iast (pc := 37) (q := 12) C ltM_12 shM_12 qM2 eM2 dX5_keep_37 ?_
      refine bw_aload_n (pc := 38) C 0 dX5_keep_38 rfl rfl ?_
      refine bw_getR (pc := 39) (q := 0) (k0 := 13) C ltM_0 shM_0 rfl inX5 mw_628 (by decide) rfl dX5_keep_39 ?_
      refine bw_iconst (pc := 42) (v := (0 : Int32)) C dX5_keep_42 ic_0 ?_
      refine bw_aload_n (pc := 43) C 0 dX5_keep_43 rfl rfl ?_
      refine bw_getR (pc := 44) (q := 0) (k0 := 17) C ltM_0 shM_0 rfl inX5 mw_632 (by decide) rfl dX5_keep_44 ?_
      refine bw_sipush (pc := 47) (v := (698 : Int32)) C dX5_keep_47 si_698 ?_
      refine bw_iload_n (pc := 50) C 1 dX5_keep_50 rfl rfl ?_
      refine bw_imul (pc := 51) C dX5_keep_51 ?_
      refine bw_iconst (pc := 52) (v := (1 : Int32)) C dX5_keep_52 ic_1 ?_
      refine bw_iadd (pc := 53) C dX5_keep_53 ?_
      refine bw_bipush (pc := 54) (v := (17 : Int32)) C dX5_keep_54 bi_17 ?_
      obtain ⟨M3, eM3, h⟩ := bw_cl_o h
      refine bw_cSv (pc := 56) (As := [.ref (ρ 9), .int (0 : Int32), .ref (ρ 12), .int (((698 : Int32) * x1) + (1 : Int32)), .int (17 : Int32)]) (rest := []) C (tX5_copies l N 9 17 (0 : Int32) 12 2094 (((698 : Int32) * x1) + (1 : Int32)) (17 : Int32) ltM_9 shM_9 ltM_12 shM_12 M2 M3 eM3) msX5_copies mw_837 rfl rfl ⟨Nat.le_of_ble_eq_true rfl, Nat.le_of_ble_eq_true rfl⟩ rfl rfl rfl (Nat.le_of_ble_eq_true rfl) dX5_keep_56 ?_
      refine bw_aload_n (pc := 59) C 0 dX5_keep_59 rfl rfl ?_
      refine bw_getR (pc := 60) (q := 0) (k0 := 15) C ltM_0 shM_0 rfl inX5 mw_630 (by decide) rfl dX5_keep_60 ?_
      refine bw_iconst (pc := 63) (v := (0 : Int32)) C dX5_keep_63 ic_0 ?_
      refine bw_aload_n (pc := 64) C 0 dX5_keep_64 rfl rfl ?_
      refine bw_getR (pc := 65) (q := 0) (k0 := 17) C ltM_0 shM_0 rfl inX5 mw_632 (by decide) rfl dX5_keep_65 ?_
      refine bw_sipush (pc := 68) (v := (698 : Int32)) C dX5_keep_68 si_698 ?_
      refine bw_iload_n (pc := 71) C 1 dX5_keep_71 rfl rfl ?_
      refine bw_imul (pc := 72) C dX5_keep_72 ?_
      refine bw_iconst (pc := 73) (v := (1 : Int32)) C dX5_keep_73 ic_1 ?_
      refine bw_iadd (pc := 74) C dX5_keep_74 ?_
      refine bw_bipush (pc := 75) (v := (17 : Int32)) C dX5_keep_75 bi_17 ?_
      refine bw_iadd (pc := 77) C dX5_keep_77 ?_
      refine bw_sipush (pc := 78) (v := (680 : Int32)) C dX5_keep_78 si_680 ?_
      obtain ⟨M4, eM4, h⟩ := bw_cl_o h
      refine bw_cSv (pc := 81) (As := [.ref (ρ 11), .int (0 : Int32), .ref (ρ 12), .int ((((698 : Int32) * x1) + (1 : Int32)) + (17 : Int32)), .int (680 : Int32)]) (rest := []) C (tX5_copies l N 11 680 (0 : Int32) 12 2094 ((((698 : Int32) * x1) + (1 : Int32)) + (17 : Int32)) (680 : Int32) ltM_11 shM_11 ltM_12 shM_12 M3 M4 eM4) msX5_copies mw_837 rfl rfl ⟨Nat.le_of_ble_eq_true rfl, Nat.le_of_ble_eq_true rfl⟩ rfl rfl rfl (Nat.le_of_ble_eq_true rfl) dX5_keep_81 ?_
      refine bw_aload_n (pc := 84) C 0 dX5_keep_84 rfl rfl ?_
      refine bw_getI (pc := 85) (q := 0) (k0 := 16) C ltM_0 shM_0 rfl inX5 mw_631 (by decide) rfl dX5_keep_85 ?_
      exact bw_ireti (pc := 88) C dX5_keep_88 h
    · refine bw_bipush (pc := 21) (v := (-4 : Int32)) C dX5_keep_21 bi_m4 ?_
      exact bw_ireti (pc := 23) C dX5_keep_23 h
  · refine bw_iconst (pc := 12) (v := (-1 : Int32)) C dX5_keep_12 ic_m1 ?_
    exact bw_ireti (pc := 13) C dX5_keep_13 h
/-! X5_refusesRow -/
abbrev rmX5_refusesRow : Room := { frames := 2, cells := 0, slots := 0, locals := 46 }
theorem msX5_refusesRow : bw_MV yX5_refusesRow cX5_refusesRow 3 (some .int) RX5 1 := ⟨mw_943, mw_1113, mw_6, mw_944, by decide +kernel⟩
def fX5_refusesRow_40 (N : Nat) (x1 : Int32) (k40 : Int32 → Option (Int32 × bw_M)) (x2 : Int32) (M : bw_M) : Option (Int32 × bw_M) :=
  bw_rd M 2 6 x1 fun v5 =>
  if v5 ≤ x2 then
  some ((0 : Int32), M)
  else
  bw_rd M 1 240 (((40 : Int32) * x1) + x2) fun v6 =>
  bw_cl (fX5_arePipes v6 M) fun v7 =>
  if v7 = 0 then
  bw_c2 (fX5_found (3 : Int32) M) fun v9 M10 =>
  some (v9, M10)
  else
  bw_mv (x2 + 1) fun v8 =>
  k40 v8
theorem tX5_refusesRow_40 {p : Program} {l : Launch} {e : Env} {s : State} {m : MethodId} {args : Array Value} {below : List Frame} {meth : Method} {c : Code} {D : va_G} {kT : Nat → ClassId} {ρ : Nat → Nat} (C : bw_Cx p s m args meth c cX5_refusesRow 3 RX5 19 D kT ρ (some .int)) (N : Nat) (x1 : Int32)  (k40 : Int32 → Option (Int32 × bw_M)) (x2 : Int32) (M : bw_M) (rr : Int32) (zz : bw_M) (hk40 : ∀ z0, k40 z0 = some (rr, zz) → bw_At p l e rmX5_refusesRow s m args below meth c (MQ below (bw_QI bw_shM 19 D kT ρ rr zz) args s 0 0 (bw_A ρ 19)) bw_shM 19 D kT ρ 3 40 [(0, .ref (ρ 0)), (1, .int x1), (2, .int z0)] [] M) (h : fX5_refusesRow_40 N x1 k40 x2 M = some (rr, zz)) : bw_At p l e rmX5_refusesRow s m args below meth c (MQ below (bw_QI bw_shM 19 D kT ρ rr zz) args s 0 0 (bw_A ρ 19)) bw_shM 19 D kT ρ 3 40 [(0, .ref (ρ 0)), (1, .int x1), (2, .int x2)] [] M := by
  unfold fX5_refusesRow_40 at h
  refine bw_iload_n (pc := 40) C 2 dX5_refusesRow_40 rfl rfl ?_
  refine bw_aload_n (pc := 41) C 0 dX5_refusesRow_41 rfl rfl ?_
  refine bw_getR (pc := 42) (q := 0) (k0 := 1) C ltM_0 shM_0 rfl inX5 mw_616 (by decide) rfl dX5_refusesRow_42 ?_
  refine bw_iload_n (pc := 45) C 1 dX5_refusesRow_45 rfl rfl ?_
  obtain ⟨qv5, v5, ev5, h⟩ := bw_rd_o h
  refine bw_iald (pc := 46) (q := 2) C ltM_2 shM_2 qv5 ev5 dX5_refusesRow_46 ?_
  refine bw_icmp_ge (pc := 47) C 80 dX5_refusesRow_47 (by decide) h (fun h => ?_) (fun h => ?_)
  · refine bw_iconst (pc := 80) (v := (0 : Int32)) C dX5_refusesRow_80 ic_0 ?_
    exact bw_ireti (pc := 81) C dX5_refusesRow_81 h
  · refine bw_aload_n (pc := 50) C 0 dX5_refusesRow_50 rfl rfl ?_
    refine bw_aload_n (pc := 51) C 0 dX5_refusesRow_51 rfl rfl ?_
    refine bw_getR (pc := 52) (q := 0) (k0 := 0) C ltM_0 shM_0 rfl inX5 mw_615 (by decide) rfl dX5_refusesRow_52 ?_
    refine bw_bipush (pc := 55) (v := (40 : Int32)) C dX5_refusesRow_55 bi_40 ?_
    refine bw_iload_n (pc := 57) C 1 dX5_refusesRow_57 rfl rfl ?_
    refine bw_imul (pc := 58) C dX5_refusesRow_58 ?_
    refine bw_iload_n (pc := 59) C 2 dX5_refusesRow_59 rfl rfl ?_
    refine bw_iadd (pc := 60) C dX5_refusesRow_60 ?_
    obtain ⟨qv6, v6, ev6, h⟩ := bw_rd_o h
    refine bw_iald (pc := 61) (q := 1) C ltM_1 shM_1 qv6 ev6 dX5_refusesRow_61 ?_
    obtain ⟨v7, ev7, h⟩ := bw_cl_o h
    refine bw_cVi (pc := 62) (q := 0) (As := [.int v6]) (rest := []) C (tX5_arePipes l v6 M v7 ev7) msX5_arePipes mw_928 rfl rfl ⟨Nat.le_of_ble_eq_true rfl, Nat.le_of_ble_eq_true rfl⟩ ltM_0 shM_0 rfl rfl rfl rfl (Nat.le_of_ble_eq_true rfl) dX5_refusesRow_62 ?_
    refine bw_if_ne (pc := 65) C 74 dX5_refusesRow_65 (by decide) h (fun h => ?_) (fun h => ?_)
    · obtain ⟨v8, ev8, h⟩ := bw_mv_o h
      refine bw_iinc (pc := 74) (x := v8) (L' := [(2, .int v8), (0, .ref (ρ 0)), (1, .int x1)]) C 2 dX5_refusesRow_74 rfl ev8.symm (by decide) rfl ?_
      refine bw_goto (pc := 77) C 40 dX5_refusesRow_77 (by decide) ?_
      refine bw_pick [1, 2, 0] rfl ?_
      exact hk40 v8 h
    · refine bw_aload_n (pc := 68) C 0 dX5_refusesRow_68 rfl rfl ?_
      refine bw_iconst (pc := 69) (v := (3 : Int32)) C dX5_refusesRow_69 ic_3 ?_
      obtain ⟨v9, M10, ev9, h⟩ := bw_c2_o h
      refine bw_cVi (pc := 70) (q := 0) (As := [.int (3 : Int32)]) (rest := []) C (tX5_found l (3 : Int32) M v9 M10 ev9) msX5_found mw_720 rfl rfl ⟨Nat.le_of_ble_eq_true rfl, Nat.le_of_ble_eq_true rfl⟩ ltM_0 shM_0 rfl rfl rfl rfl (Nat.le_of_ble_eq_true rfl) dX5_refusesRow_70 ?_
      exact bw_ireti (pc := 73) C dX5_refusesRow_73 h
def flX5_refusesRow_40 (N : Nat) (x1 : Int32)   (M : bw_M) (fu : Nat) (w : Int32) : Option (Int32 × bw_M) := bw_lp (fun kk w => fX5_refusesRow_40 N x1 kk w M) fu w
theorem tlX5_refusesRow_40 {p : Program} {l : Launch} {e : Env} {s : State} {m : MethodId} {args : Array Value} {below : List Frame} {meth : Method} {c : Code} {D : va_G} {kT : Nat → ClassId} {ρ : Nat → Nat} (C : bw_Cx p s m args meth c cX5_refusesRow 3 RX5 19 D kT ρ (some .int)) (N : Nat) (x1 : Int32)    (M : bw_M) (rr : Int32) (zz : bw_M)  (fu : Nat) (w : Int32) (h : flX5_refusesRow_40 N x1 M fu w = some (rr, zz)) : bw_At p l e rmX5_refusesRow s m args below meth c (MQ below (bw_QI bw_shM 19 D kT ρ rr zz) args s 0 0 (bw_A ρ 19)) bw_shM 19 D kT ρ 3 40 [(0, .ref (ρ 0)), (1, .int x1), (2, .int w)] [] M :=
  bw_loop (r := (rr, zz)) (fun w => bw_At p l e rmX5_refusesRow s m args below meth c (MQ below (bw_QI bw_shM 19 D kT ρ rr zz) args s 0 0 (bw_A ρ 19)) bw_shM 19 D kT ρ 3 40 [(0, .ref (ρ 0)), (1, .int x1), (2, .int w)] [] M) (fun kk hk w h => tX5_refusesRow_40 C N x1 kk w M rr zz hk h) fu w h
def fX5_refusesRow (N : Nat) (x1 : Int32) (M : bw_M) : Option (Int32 × bw_M) :=
  bw_rd M 2 6 x1 fun v1 =>
  if 0 ≤ v1 then
  bw_rd M 2 6 x1 fun v2 =>
  bw_cl (fX5_in (Int32.toInt64 v2) (1 : Int64) (10 : Int64)) fun v3 =>
  if v3 = 0 then
  bw_c2 (fX5_found (5 : Int32) M) fun v11 M12 =>
  some (v11, M12)
  else
  bw_mv (0 : Int32) fun v4 =>
  flX5_refusesRow_40 N x1 M N v4
  else
  bw_c2 (fX5_found (1 : Int32) M) fun v13 M14 =>
  some (v13, M14)
theorem tX5_refusesRow (l : Launch) (N : Nat) (x1 : Int32)  (M : bw_M) (rr : Int32) (zz : bw_M) (h : fX5_refusesRow N x1 M = some (rr, zz)) : bw_CI l bw_shM 19 yX5_refusesRow cX5_refusesRow 3 (some .int) rmX5_refusesRow (fun ρ => [.ref (ρ 0), .int x1]) M rr zz := by
  refine bw_inI (Lf := fun ρ => [(0, .ref (ρ 0)), (1, .int x1)]) cX5_refusesRow 3 (some .int) RX5 pn_X5 rfl (fun ρ => Nat.le_of_ble_eq_true rfl) (fun ρ => rfl) ?_
  intro p e s m args below meth c D kT ρ C
  unfold fX5_refusesRow at h
  refine bw_aload_n (pc := 0) C 0 dX5_refusesRow_0 rfl rfl ?_
  refine bw_getR (pc := 1) (q := 0) (k0 := 1) C ltM_0 shM_0 rfl inX5 mw_616 (by decide) rfl dX5_refusesRow_1 ?_
  refine bw_iload_n (pc := 4) C 1 dX5_refusesRow_4 rfl rfl ?_
  obtain ⟨qv1, v1, ev1, h⟩ := bw_rd_o h
  refine bw_iald (pc := 5) (q := 2) C ltM_2 shM_2 qv1 ev1 dX5_refusesRow_5 ?_
  refine bw_if_ge (pc := 6) C 15 dX5_refusesRow_6 (by decide) h (fun h => ?_) (fun h => ?_)
  · refine bw_aload_n (pc := 15) C 0 dX5_refusesRow_15 rfl rfl ?_
    refine bw_getR (pc := 16) (q := 0) (k0 := 1) C ltM_0 shM_0 rfl inX5 mw_616 (by decide) rfl dX5_refusesRow_16 ?_
    refine bw_iload_n (pc := 19) C 1 dX5_refusesRow_19 rfl rfl ?_
    obtain ⟨qv2, v2, ev2, h⟩ := bw_rd_o h
    refine bw_iald (pc := 20) (q := 2) C ltM_2 shM_2 qv2 ev2 dX5_refusesRow_20 ?_
    refine bw_i2l (pc := 21) C dX5_refusesRow_21 ?_
    refine bw_lconst (pc := 22) (v := (1 : Int64)) C dX5_refusesRow_22 rfl ?_
    refine bw_ldc2_w (pc := 23) C mw_945 dX5_refusesRow_23 ?_
    obtain ⟨v3, ev3, h⟩ := bw_cl_o h
    refine bw_cSi (pc := 26) (As := [.long (Int32.toInt64 v2), .long (1 : Int64), .long (10 : Int64)]) (rest := []) C (tX5_in l (Int32.toInt64 v2) (1 : Int64) (10 : Int64) M v3 ev3) msX5_in mw_717 rfl rfl ⟨Nat.le_of_ble_eq_true rfl, Nat.le_of_ble_eq_true rfl⟩ rfl rfl rfl (Nat.le_of_ble_eq_true rfl) dX5_refusesRow_26 ?_
    refine bw_if_ne (pc := 29) C 38 dX5_refusesRow_29 (by decide) h (fun h => ?_) (fun h => ?_)
    · refine bw_iconst (pc := 38) (v := (0 : Int32)) C dX5_refusesRow_38 ic_0 ?_
      obtain ⟨v4, ev4, h⟩ := bw_mv_o h
      refine bw_nmI ev4 ?_
      refine bw_istore_n (pc := 39) (L' := [(2, .int v4), (0, .ref (ρ 0)), (1, .int x1)]) C dX5_refusesRow_39 rfl (by decide) rfl ?_
      refine bw_pick [1, 2, 0] rfl ?_
      exact tlX5_refusesRow_40 C N x1 M rr zz N v4 h
    · refine bw_aload_n (pc := 32) C 0 dX5_refusesRow_32 rfl rfl ?_
      refine bw_iconst (pc := 33) (v := (5 : Int32)) C dX5_refusesRow_33 ic_5 ?_
      obtain ⟨v11, M12, ev11, h⟩ := bw_c2_o h
      refine bw_cVi (pc := 34) (q := 0) (As := [.int (5 : Int32)]) (rest := []) C (tX5_found l (5 : Int32) M v11 M12 ev11) msX5_found mw_720 rfl rfl ⟨Nat.le_of_ble_eq_true rfl, Nat.le_of_ble_eq_true rfl⟩ ltM_0 shM_0 rfl rfl rfl rfl (Nat.le_of_ble_eq_true rfl) dX5_refusesRow_34 ?_
      exact bw_ireti (pc := 37) C dX5_refusesRow_37 h
  · refine bw_aload_n (pc := 9) C 0 dX5_refusesRow_9 rfl rfl ?_
    refine bw_iconst (pc := 10) (v := (1 : Int32)) C dX5_refusesRow_10 ic_1 ?_
    obtain ⟨v13, M14, ev13, h⟩ := bw_c2_o h
    refine bw_cVi (pc := 11) (q := 0) (As := [.int (1 : Int32)]) (rest := []) C (tX5_found l (1 : Int32) M v13 M14 ev13) msX5_found mw_720 rfl rfl ⟨Nat.le_of_ble_eq_true rfl, Nat.le_of_ble_eq_true rfl⟩ ltM_0 shM_0 rfl rfl rfl rfl (Nat.le_of_ble_eq_true rfl) dX5_refusesRow_11 ?_
    exact bw_ireti (pc := 14) C dX5_refusesRow_14 h
/-! X5_kinds -/
abbrev rmX5_kinds : Room := { frames := 5, cells := 0, slots := 0, locals := 113 }
theorem msX5_kinds : bw_MV yX5_kinds cX5_kinds 7 (some .int) RX5 2 := ⟨mw_968, mw_969, mw_6, mw_970, by decide +kernel⟩
def fX5_kinds_15 (N : Nat) (x1 : Int32) (x2 : Int32)   (M : bw_M) : Option (Int32 × bw_M) :=
  some ((-1 : Int32), M)
theorem tX5_kinds_15 {p : Program} {l : Launch} {e : Env} {s : State} {m : MethodId} {args : Array Value} {below : List Frame} {meth : Method} {c : Code} {D : va_G} {kT : Nat → ClassId} {ρ : Nat → Nat} (C : bw_Cx p s m args meth c cX5_kinds 7 RX5 19 D kT ρ (some .int)) (N : Nat) (x1 : Int32) (x2 : Int32)    (M : bw_M) (rr : Int32) (zz : bw_M)  (h : fX5_kinds_15 N x1 x2 M = some (rr, zz)) : bw_At p l e rmX5_kinds s m args below meth c (MQ below (bw_QI bw_shM 19 D kT ρ rr zz) args s 0 0 (bw_A ρ 19)) bw_shM 19 D kT ρ 7 15 [(0, .ref (ρ 0)), (1, .int x1), (2, .int x2)] [] M := by
  unfold fX5_kinds_15 at h
  refine bw_iconst (pc := 15) (v := (-1 : Int32)) C dX5_kinds_15 ic_m1 ?_
  exact bw_ireti (pc := 16) C dX5_kinds_16 h
def fX5_kinds_80 (N : Nat) (x1 : Int32) (x2 : Int32) (k43 : Int32 × Int32 × bw_M → Option (Int32 × bw_M)) (x4 : Int32) (x6 : Int32) (s0 : Int32) (s1 : Int32) (M : bw_M) : Option (Int32 × bw_M) :=
  bw_mv (s0 ||| s1) fun v13 =>
  bw_mv (x6 + 1) fun v14 =>
  k43 (v13, v14, M)
theorem tX5_kinds_80 {p : Program} {l : Launch} {e : Env} {s : State} {m : MethodId} {args : Array Value} {below : List Frame} {meth : Method} {c : Code} {D : va_G} {kT : Nat → ClassId} {ρ : Nat → Nat} (C : bw_Cx p s m args meth c cX5_kinds 7 RX5 19 D kT ρ (some .int)) (N : Nat) (x1 : Int32) (x2 : Int32)  (k43 : Int32 × Int32 × bw_M → Option (Int32 × bw_M)) (x4 : Int32) (x6 : Int32) (s0 : Int32) (s1 : Int32) (M : bw_M) (rr : Int32) (zz : bw_M) (hk43 : ∀ z0, k43 z0 = some (rr, zz) → bw_At p l e rmX5_kinds s m args below meth c (MQ below (bw_QI bw_shM 19 D kT ρ rr zz) args s 0 0 (bw_A ρ 19)) bw_shM 19 D kT ρ 7 43 [(0, .ref (ρ 0)), (1, .int x1), (2, .int x2), (4, .int x4), (5, .int z0.1), (6, .int z0.2.1)] [] z0.2.2) (h : fX5_kinds_80 N x1 x2 k43 x4 x6 s0 s1 M = some (rr, zz)) : bw_At p l e rmX5_kinds s m args below meth c (MQ below (bw_QI bw_shM 19 D kT ρ rr zz) args s 0 0 (bw_A ρ 19)) bw_shM 19 D kT ρ 7 80 [(0, .ref (ρ 0)), (1, .int x1), (2, .int x2), (4, .int x4), (6, .int x6)] [.int s1, .int s0] M := by
  unfold fX5_kinds_80 at h
  refine bw_ior (pc := 80) C dX5_kinds_80 ?_
  obtain ⟨v13, ev13, h⟩ := bw_mv_o h
  refine bw_nmI ev13 ?_
  refine bw_istore (pc := 81) (L' := [(5, .int v13), (0, .ref (ρ 0)), (1, .int x1), (2, .int x2), (4, .int x4), (6, .int x6)]) C dX5_kinds_81 (by decide) rfl ?_
  obtain ⟨v14, ev14, h⟩ := bw_mv_o h
  refine bw_iinc (pc := 83) (x := v14) (L' := [(6, .int v14), (5, .int v13), (0, .ref (ρ 0)), (1, .int x1), (2, .int x2), (4, .int x4)]) C 5 dX5_kinds_83 rfl ev14.symm (by decide) rfl ?_
  refine bw_goto (pc := 86) C 43 dX5_kinds_86 (by decide) ?_
  refine bw_pick [2, 3, 4, 5, 1, 0] rfl ?_
  exact hk43 (v13, v14, M) h
def fX5_kinds_43 (N : Nat) (x1 : Int32) (x2 : Int32) (k43 : Int32 × Int32 × bw_M → Option (Int32 × bw_M)) (x4 : Int32) (x5 : Int32) (x6 : Int32) (M : bw_M) : Option (Int32 × bw_M) :=
  if (6 : Int32) ≤ x6 then
  bw_wr M 6 6 x1 x4 fun M8 =>
  some (x5, M8)
  else
  bw_wr M 6 6 x1 x6 fun M9 =>
  bw_cl (fX5_layAside N M9) fun M10 =>
  bw_c2 (fX5_goesAs N x2 M10) fun v11 M12 =>
  if v11 = 0 then
  fX5_kinds_80 N x1 x2 k43 x4 x6 x5 (0 : Int32) M12
  else
  fX5_kinds_80 N x1 x2 k43 x4 x6 x5 ((1 : Int32) <<< (x6 &&& 31)) M12
theorem tX5_kinds_43 {p : Program} {l : Launch} {e : Env} {s : State} {m : MethodId} {args : Array Value} {below : List Frame} {meth : Method} {c : Code} {D : va_G} {kT : Nat → ClassId} {ρ : Nat → Nat} (C : bw_Cx p s m args meth c cX5_kinds 7 RX5 19 D kT ρ (some .int)) (N : Nat) (x1 : Int32) (x2 : Int32)  (k43 : Int32 × Int32 × bw_M → Option (Int32 × bw_M)) (x4 : Int32) (x5 : Int32) (x6 : Int32) (M : bw_M) (rr : Int32) (zz : bw_M) (hk43 : ∀ z0, k43 z0 = some (rr, zz) → bw_At p l e rmX5_kinds s m args below meth c (MQ below (bw_QI bw_shM 19 D kT ρ rr zz) args s 0 0 (bw_A ρ 19)) bw_shM 19 D kT ρ 7 43 [(0, .ref (ρ 0)), (1, .int x1), (2, .int x2), (4, .int x4), (5, .int z0.1), (6, .int z0.2.1)] [] z0.2.2) (h : fX5_kinds_43 N x1 x2 k43 x4 x5 x6 M = some (rr, zz)) : bw_At p l e rmX5_kinds s m args below meth c (MQ below (bw_QI bw_shM 19 D kT ρ rr zz) args s 0 0 (bw_A ρ 19)) bw_shM 19 D kT ρ 7 43 [(0, .ref (ρ 0)), (1, .int x1), (2, .int x2), (4, .int x4), (5, .int x5), (6, .int x6)] [] M := by
  unfold fX5_kinds_43 at h
  refine bw_iload (pc := 43) C 5 dX5_kinds_43 rfl ?_
  refine bw_bipush (pc := 45) (v := (6 : Int32)) C dX5_kinds_45 bi_6 ?_
  refine bw_icmp_ge (pc := 47) C 89 dX5_kinds_47 (by decide) h (fun h => ?_) (fun h => ?_)
  · refine bw_aload_n (pc := 89) C 0 dX5_kinds_89 rfl rfl ?_
    refine bw_getR (pc := 90) (q := 0) (k0 := 10) C ltM_0 shM_0 rfl inX5 mw_625 (by decide) rfl dX5_kinds_90 ?_
    refine bw_iload_n (pc := 93) C 1 dX5_kinds_93 rfl rfl ?_
    refine bw_iload (pc := 94) C 3 dX5_kinds_94 rfl ?_
    obtain ⟨qM8, M8, eM8, h⟩ := bw_wr_o h
    refine bw_iast (pc := 96) (q := 6) C ltM_6 shM_6 qM8 eM8 dX5_kinds_96 ?_
    refine bw_iload (pc := 97) C 4 dX5_kinds_97 rfl ?_
    exact bw_ireti (pc := 99) C dX5_kinds_99 h
  · refine bw_aload_n (pc := 50) C 0 dX5_kinds_50 rfl rfl ?_
    refine bw_getR (pc := 51) (q := 0) (k0 := 10) C ltM_0 shM_0 rfl inX5 mw_625 (by decide) rfl dX5_kinds_51 ?_
    refine bw_iload_n (pc := 54) C 1 dX5_kinds_54 rfl rfl ?_
    refine bw_iload (pc := 55) C 5 dX5_kinds_55 rfl ?_
    obtain ⟨qM9, M9, eM9, h⟩ := bw_wr_o h
    refine bw_iast (pc := 57) (q := 6) C ltM_6 shM_6 qM9 eM9 dX5_kinds_57 ?_
    refine bw_aload_n (pc := 58) C 0 dX5_kinds_58 rfl rfl ?_
    obtain ⟨M10, eM10, h⟩ := bw_cl_o h
    refine bw_cVv (pc := 59) (q := 0) (As := []) (rest := []) C (tX5_layAside l N M9 M10 eM10) msX5_layAside mw_897 rfl rfl ⟨Nat.le_of_ble_eq_true rfl, Nat.le_of_ble_eq_true rfl⟩ ltM_0 shM_0 rfl rfl rfl rfl (Nat.le_of_ble_eq_true rfl) dX5_kinds_59 ?_
    refine bw_iload (pc := 62) C 4 dX5_kinds_62 rfl ?_
    refine bw_aload_n (pc := 64) C 0 dX5_kinds_64 rfl rfl ?_
    refine bw_iload_n (pc := 65) C 2 dX5_kinds_65 rfl rfl ?_
    obtain ⟨v11, M12, ev11, h⟩ := bw_c2_o h
    refine bw_cVi (pc := 66) (q := 0) (As := [.int x2]) (rest := [.int x5]) C (tX5_goesAs l N x2 M10 v11 M12 ev11) msX5_goesAs mw_950 rfl rfl ⟨Nat.le_of_ble_eq_true rfl, Nat.le_of_ble_eq_true rfl⟩ ltM_0 shM_0 rfl rfl rfl rfl (Nat.le_of_ble_eq_true rfl) dX5_kinds_66 ?_
    refine bw_if_eq (pc := 69) C 79 dX5_kinds_69 (by decide) h (fun h => ?_) (fun h => ?_)
    · refine bw_iconst (pc := 79) (v := (0 : Int32)) C dX5_kinds_79 ic_0 ?_
      refine bw_pick [0, 1, 2, 3, 5] rfl ?_
      exact tX5_kinds_80 C N x1 x2 k43 x4 x6 x5 (0 : Int32) M12 rr zz hk43 h
    · refine bw_iconst (pc := 72) (v := (1 : Int32)) C dX5_kinds_72 ic_1 ?_
      refine bw_iload (pc := 73) C 5 dX5_kinds_73 rfl ?_
      refine bw_ishl (pc := 75) C dX5_kinds_75 ?_
      refine bw_goto (pc := 76) C 80 dX5_kinds_76 (by decide) ?_
      refine bw_pick [0, 1, 2, 3, 5] rfl ?_
      exact tX5_kinds_80 C N x1 x2 k43 x4 x6 x5 ((1 : Int32) <<< (x6 &&& 31)) M12 rr zz hk43 h
def flX5_kinds_43 (N : Nat) (x1 : Int32) (x2 : Int32)  (x4 : Int32)  (fu : Nat) (w : Int32 × Int32 × bw_M) : Option (Int32 × bw_M) := bw_lp (fun kk w => fX5_kinds_43 N x1 x2 kk x4 w.1 w.2.1 w.2.2) fu w
theorem tlX5_kinds_43 {p : Program} {l : Launch} {e : Env} {s : State} {m : MethodId} {args : Array Value} {below : List Frame} {meth : Method} {c : Code} {D : va_G} {kT : Nat → ClassId} {ρ : Nat → Nat} (C : bw_Cx p s m args meth c cX5_kinds 7 RX5 19 D kT ρ (some .int)) (N : Nat) (x1 : Int32) (x2 : Int32)   (x4 : Int32)  (rr : Int32) (zz : bw_M)  (fu : Nat) (w : Int32 × Int32 × bw_M) (h : flX5_kinds_43 N x1 x2 x4 fu w = some (rr, zz)) : bw_At p l e rmX5_kinds s m args below meth c (MQ below (bw_QI bw_shM 19 D kT ρ rr zz) args s 0 0 (bw_A ρ 19)) bw_shM 19 D kT ρ 7 43 [(0, .ref (ρ 0)), (1, .int x1), (2, .int x2), (4, .int x4), (5, .int w.1), (6, .int w.2.1)] [] w.2.2 :=
  bw_loop (r := (rr, zz)) (fun w => bw_At p l e rmX5_kinds s m args below meth c (MQ below (bw_QI bw_shM 19 D kT ρ rr zz) args s 0 0 (bw_A ρ 19)) bw_shM 19 D kT ρ 7 43 [(0, .ref (ρ 0)), (1, .int x1), (2, .int x2), (4, .int x4), (5, .int w.1), (6, .int w.2.1)] [] w.2.2) (fun kk hk w h => tX5_kinds_43 C N x1 x2 kk x4 w.1 w.2.1 w.2.2 rr zz hk h) fu w h
def fX5_kinds (N : Nat) (x1 : Int32) (x2 : Int32) (M : bw_M) : Option (Int32 × bw_M) :=
  bw_cl (fX5_isPipe x1 M) fun v1 =>
  if v1 = 0 then
  fX5_kinds_15 N x1 x2 M
  else
  bw_cl (fX5_isRow x2) fun v2 =>
  if v2 = 0 then
  fX5_kinds_15 N x1 x2 M
  else
  bw_c2 (fX5_refusesRow N x2 M) fun v3 M4 =>
  if v3 = 0 then
  bw_rd M4 6 6 x1 fun v5 =>
  bw_mv (0 : Int32) fun v6 =>
  bw_mv (0 : Int32) fun v7 =>
  flX5_kinds_43 N x1 x2 v5 N (v6, v7, M4)
  else
  some (v3, M4)
theorem tX5_kinds (l : Launch) (N : Nat) (x1 : Int32) (x2 : Int32)  (M : bw_M) (rr : Int32) (zz : bw_M) (h : fX5_kinds N x1 x2 M = some (rr, zz)) : bw_CI l bw_shM 19 yX5_kinds cX5_kinds 7 (some .int) rmX5_kinds (fun ρ => [.ref (ρ 0), .int x1, .int x2]) M rr zz := by
  refine bw_inI (Lf := fun ρ => [(0, .ref (ρ 0)), (1, .int x1), (2, .int x2)]) cX5_kinds 7 (some .int) RX5 pn_X5 rfl (fun ρ => Nat.le_of_ble_eq_true rfl) (fun ρ => rfl) ?_
  intro p e s m args below meth c D kT ρ C
  unfold fX5_kinds at h
  refine bw_aload_n (pc := 0) C 0 dX5_kinds_0 rfl rfl ?_
  refine bw_iload_n (pc := 1) C 1 dX5_kinds_1 rfl rfl ?_
  obtain ⟨v1, ev1, h⟩ := bw_cl_o h
  refine bw_cVi (pc := 2) (q := 0) (As := [.int x1]) (rest := []) C (tX5_isPipe l x1 M v1 ev1) msX5_isPipe mw_799 rfl rfl ⟨Nat.le_of_ble_eq_true rfl, Nat.le_of_ble_eq_true rfl⟩ ltM_0 shM_0 rfl rfl rfl rfl (Nat.le_of_ble_eq_true rfl) dX5_kinds_2 ?_
  refine bw_if_eq (pc := 5) C 15 dX5_kinds_5 (by decide) h (fun h => ?_) (fun h => ?_)
  · refine bw_pick [0, 1, 2] rfl ?_
    exact tX5_kinds_15 C N x1 x2 M rr zz h
  · refine bw_iload_n (pc := 8) C 2 dX5_kinds_8 rfl rfl ?_
    obtain ⟨v2, ev2, h⟩ := bw_cl_o h
    refine bw_cSi (pc := 9) (As := [.int x2]) (rest := []) C (tX5_isRow l x2 M v2 ev2) msX5_isRow mw_713 rfl rfl ⟨Nat.le_of_ble_eq_true rfl, Nat.le_of_ble_eq_true rfl⟩ rfl rfl rfl (Nat.le_of_ble_eq_true rfl) dX5_kinds_9 ?_
    refine bw_if_ne (pc := 12) C 17 dX5_kinds_12 (by decide) h (fun h => ?_) (fun h => ?_)
    · refine bw_aload_n (pc := 17) C 0 dX5_kinds_17 rfl rfl ?_
      refine bw_iload_n (pc := 18) C 2 dX5_kinds_18 rfl rfl ?_
      obtain ⟨v3, M4, ev3, h⟩ := bw_c2_o h
      refine bw_cVi (pc := 19) (q := 0) (As := [.int x2]) (rest := []) C (tX5_refusesRow l N x2 M v3 M4 ev3) msX5_refusesRow mw_941 rfl rfl ⟨Nat.le_of_ble_eq_true rfl, Nat.le_of_ble_eq_true rfl⟩ ltM_0 shM_0 rfl rfl rfl rfl (Nat.le_of_ble_eq_true rfl) dX5_kinds_19 ?_
      refine bw_istore_n (pc := 22) (L' := [(3, .int v3), (0, .ref (ρ 0)), (1, .int x1), (2, .int x2)]) C dX5_kinds_22 rfl (by decide) rfl ?_
      refine bw_iload_n (pc := 23) C 0 dX5_kinds_23 rfl rfl ?_
      refine bw_if_eq (pc := 24) C 29 dX5_kinds_24 (by decide) h (fun h => ?_) (fun h => ?_)
      · refine bw_aload_n (pc := 29) C 1 dX5_kinds_29 rfl rfl ?_
        refine bw_getR (pc := 30) (q := 0) (k0 := 10) C ltM_0 shM_0 rfl inX5 mw_625 (by decide) rfl dX5_kinds_30 ?_
        refine bw_iload_n (pc := 33) C 2 dX5_kinds_33 rfl rfl ?_
        obtain ⟨qv5, v5, ev5, h⟩ := bw_rd_o h
        refine bw_iald (pc := 34) (q := 6) C ltM_6 shM_6 qv5 ev5 dX5_kinds_34 ?_
        refine bw_istore (pc := 35) (L' := [(4, .int v5), (3, .int v3), (0, .ref (ρ 0)), (1, .int x1), (2, .int x2)]) C dX5_kinds_35 (by decide) rfl ?_
        refine bw_iconst (pc := 37) (v := (0 : Int32)) C dX5_kinds_37 ic_0 ?_
        obtain ⟨v6, ev6, h⟩ := bw_mv_o h
        refine bw_nmI ev6 ?_
        refine bw_istore (pc := 38) (L' := [(5, .int v6), (4, .int v5), (3, .int v3), (0, .ref (ρ 0)), (1, .int x1), (2, .int x2)]) C dX5_kinds_38 (by decide) rfl ?_
        refine bw_iconst (pc := 40) (v := (0 : Int32)) C dX5_kinds_40 ic_0 ?_
        obtain ⟨v7, ev7, h⟩ := bw_mv_o h
        refine bw_nmI ev7 ?_
        refine bw_istore (pc := 41) (L' := [(6, .int v7), (5, .int v6), (4, .int v5), (3, .int v3), (0, .ref (ρ 0)), (1, .int x1), (2, .int x2)]) C dX5_kinds_41 (by decide) rfl ?_
        refine bw_pick [4, 5, 6, 2, 1, 0] rfl ?_
        exact tlX5_kinds_43 C N x1 x2 v5 rr zz N (v6, v7, M4) h
      · refine bw_iload_n (pc := 27) C 0 dX5_kinds_27 rfl rfl ?_
        exact bw_ireti (pc := 28) C dX5_kinds_28 h
    · refine bw_pick [0, 1, 2] rfl ?_
      exact tX5_kinds_15 C N x1 x2 M rr zz h
/-! X5_lay -/
abbrev rmX5_lay : Room := { frames := 2, cells := 0, slots := 0, locals := 45 }
theorem msX5_lay : bw_MV yX5_lay cX5_lay 5 (some .int) RX5 3 := ⟨mw_725, mw_726, mw_6, mw_727, by decide +kernel⟩
def fX5_lay (x1 : Int32) (x2 : Int32) (x3 : Int32) (M : bw_M) : Option (Int32 × bw_M) :=
  bw_cl (fX5_isRow x1) fun v1 =>
  if v1 = 0 then
  some ((-1 : Int32), M)
  else
  bw_rd M 2 6 x1 fun v2 =>
  if 0 ≤ v2 then
  bw_rd M 2 6 x1 fun v3 =>
  bw_cl (fX5_in (Int32.toInt64 x2) (0 : Int64) (Int32.toInt64 (v3 - (1 : Int32)))) fun v4 =>
  if v4 = 0 then
  bw_c2 (fX5_found (2 : Int32) M) fun v9 M10 =>
  some (v9, M10)
  else
  bw_rd M 1 240 (((40 : Int32) * x1) + x2) fun v5 =>
  bw_wr M 1 240 (((40 : Int32) * x1) + x2) x3 fun M6 =>
  bw_c2 (fX5_tell v5 M6) fun v7 M8 =>
  some (v7, M8)
  else
  bw_c2 (fX5_found (1 : Int32) M) fun v11 M12 =>
  some (v11, M12)
theorem tX5_lay (l : Launch) (x1 : Int32) (x2 : Int32) (x3 : Int32)  (M : bw_M) (rr : Int32) (zz : bw_M) (h : fX5_lay x1 x2 x3 M = some (rr, zz)) : bw_CI l bw_shM 19 yX5_lay cX5_lay 5 (some .int) rmX5_lay (fun ρ => [.ref (ρ 0), .int x1, .int x2, .int x3]) M rr zz := by
  refine bw_inI (Lf := fun ρ => [(0, .ref (ρ 0)), (1, .int x1), (2, .int x2), (3, .int x3)]) cX5_lay 5 (some .int) RX5 pn_X5 rfl (fun ρ => Nat.le_of_ble_eq_true rfl) (fun ρ => rfl) ?_
  intro p e s m args below meth c D kT ρ C
  unfold fX5_lay at h
  refine bw_iload_n (pc := 0) C 1 dX5_lay_0 rfl rfl ?_
  obtain ⟨v1, ev1, h⟩ := bw_cl_o h
  refine bw_cSi (pc := 1) (As := [.int x1]) (rest := []) C (tX5_isRow l x1 M v1 ev1) msX5_isRow mw_713 rfl rfl ⟨Nat.le_of_ble_eq_true rfl, Nat.le_of_ble_eq_true rfl⟩ rfl rfl rfl (Nat.le_of_ble_eq_true rfl) dX5_lay_1 ?_
  refine bw_if_ne (pc := 4) C 9 dX5_lay_4 (by decide) h (fun h => ?_) (fun h => ?_)
  · refine bw_aload_n (pc := 9) C 0 dX5_lay_9 rfl rfl ?_
    refine bw_getR (pc := 10) (q := 0) (k0 := 1) C ltM_0 shM_0 rfl inX5 mw_616 (by decide) rfl dX5_lay_10 ?_
    refine bw_iload_n (pc := 13) C 1 dX5_lay_13 rfl rfl ?_
    obtain ⟨qv2, v2, ev2, h⟩ := bw_rd_o h
    refine bw_iald (pc := 14) (q := 2) C ltM_2 shM_2 qv2 ev2 dX5_lay_14 ?_
    refine bw_if_ge (pc := 15) C 24 dX5_lay_15 (by decide) h (fun h => ?_) (fun h => ?_)
    · refine bw_iload_n (pc := 24) C 2 dX5_lay_24 rfl rfl ?_
      refine bw_i2l (pc := 25) C dX5_lay_25 ?_
      refine bw_lconst (pc := 26) (v := (0 : Int64)) C dX5_lay_26 rfl ?_
      refine bw_aload_n (pc := 27) C 0 dX5_lay_27 rfl rfl ?_
      refine bw_getR (pc := 28) (q := 0) (k0 := 1) C ltM_0 shM_0 rfl inX5 mw_616 (by decide) rfl dX5_lay_28 ?_
      refine bw_iload_n (pc := 31) C 1 dX5_lay_31 rfl rfl ?_
      obtain ⟨qv3, v3, ev3, h⟩ := bw_rd_o h
      refine bw_iald (pc := 32) (q := 2) C ltM_2 shM_2 qv3 ev3 dX5_lay_32 ?_
      refine bw_iconst (pc := 33) (v := (1 : Int32)) C dX5_lay_33 ic_1 ?_
      refine bw_isub (pc := 34) C dX5_lay_34 ?_
      refine bw_i2l (pc := 35) C dX5_lay_35 ?_
      obtain ⟨v4, ev4, h⟩ := bw_cl_o h
      refine bw_cSi (pc := 36) (As := [.long (Int32.toInt64 x2), .long (0 : Int64), .long (Int32.toInt64 (v3 - (1 : Int32)))]) (rest := []) C (tX5_in l (Int32.toInt64 x2) (0 : Int64) (Int32.toInt64 (v3 - (1 : Int32))) M v4 ev4) msX5_in mw_717 rfl rfl ⟨Nat.le_of_ble_eq_true rfl, Nat.le_of_ble_eq_true rfl⟩ rfl rfl rfl (Nat.le_of_ble_eq_true rfl) dX5_lay_36 ?_
      refine bw_if_ne (pc := 39) C 48 dX5_lay_39 (by decide) h (fun h => ?_) (fun h => ?_)
      · refine bw_aload_n (pc := 48) C 0 dX5_lay_48 rfl rfl ?_
        refine bw_getR (pc := 49) (q := 0) (k0 := 0) C ltM_0 shM_0 rfl inX5 mw_615 (by decide) rfl dX5_lay_49 ?_
        refine bw_bipush (pc := 52) (v := (40 : Int32)) C dX5_lay_52 bi_40 ?_
        refine bw_iload_n (pc := 54) C 1 dX5_lay_54 rfl rfl ?_
        refine bw_imul (pc := 55) C dX5_lay_55 ?_
        refine bw_iload_n (pc := 56) C 2 dX5_lay_56 rfl rfl ?_
        refine bw_iadd (pc := 57) C dX5_lay_57 ?_
        obtain ⟨qv5, v5, ev5, h⟩ := bw_rd_o h
        refine bw_iald (pc := 58) (q := 1) C ltM_1 shM_1 qv5 ev5 dX5_lay_58 ?_
        refine bw_istore (pc := 59) (L' := [(4, .int v5), (0, .ref (ρ 0)), (1, .int x1), (2, .int x2), (3, .int x3)]) C dX5_lay_59 (by decide) rfl ?_
        refine bw_aload_n (pc := 61) C 1 dX5_lay_61 rfl rfl ?_
        refine bw_getR (pc := 62) (q := 0) (k0 := 0) C ltM_0 shM_0 rfl inX5 mw_615 (by decide) rfl dX5_lay_62 ?_
        refine bw_bipush (pc := 65) (v := (40 : Int32)) C dX5_lay_65 bi_40 ?_
        refine bw_iload_n (pc := 67) C 2 dX5_lay_67 rfl rfl ?_
        refine bw_imul (pc := 68) C dX5_lay_68 ?_
        refine bw_iload_n (pc := 69) C 3 dX5_lay_69 rfl rfl ?_
        refine bw_iadd (pc := 70) C dX5_lay_70 ?_
        refine bw_iload_n (pc := 71) C 4 dX5_lay_71 rfl rfl ?_
        obtain ⟨qM6, M6, eM6, h⟩ := bw_wr_o h
        refine bw_iast (pc := 72) (q := 1) C ltM_1 shM_1 qM6 eM6 dX5_lay_72 ?_
        refine bw_aload_n (pc := 73) C 1 dX5_lay_73 rfl rfl ?_
        refine bw_iload (pc := 74) C 0 dX5_lay_74 rfl ?_
        obtain ⟨v7, M8, ev7, h⟩ := bw_c2_o h
        refine bw_cVi (pc := 76) (q := 0) (As := [.int v5]) (rest := []) C (tX5_tell l v5 M6 v7 M8 ev7) msX5_tell mw_728 rfl rfl ⟨Nat.le_of_ble_eq_true rfl, Nat.le_of_ble_eq_true rfl⟩ ltM_0 shM_0 rfl rfl rfl rfl (Nat.le_of_ble_eq_true rfl) dX5_lay_76 ?_
        exact bw_ireti (pc := 79) C dX5_lay_79 h
      · refine bw_aload_n (pc := 42) C 0 dX5_lay_42 rfl rfl ?_
        refine bw_iconst (pc := 43) (v := (2 : Int32)) C dX5_lay_43 ic_2 ?_
        obtain ⟨v9, M10, ev9, h⟩ := bw_c2_o h
        refine bw_cVi (pc := 44) (q := 0) (As := [.int (2 : Int32)]) (rest := []) C (tX5_found l (2 : Int32) M v9 M10 ev9) msX5_found mw_720 rfl rfl ⟨Nat.le_of_ble_eq_true rfl, Nat.le_of_ble_eq_true rfl⟩ ltM_0 shM_0 rfl rfl rfl rfl (Nat.le_of_ble_eq_true rfl) dX5_lay_44 ?_
        exact bw_ireti (pc := 47) C dX5_lay_47 h
    · refine bw_aload_n (pc := 18) C 0 dX5_lay_18 rfl rfl ?_
      refine bw_iconst (pc := 19) (v := (1 : Int32)) C dX5_lay_19 ic_1 ?_
      obtain ⟨v11, M12, ev11, h⟩ := bw_c2_o h
      refine bw_cVi (pc := 20) (q := 0) (As := [.int (1 : Int32)]) (rest := []) C (tX5_found l (1 : Int32) M v11 M12 ev11) msX5_found mw_720 rfl rfl ⟨Nat.le_of_ble_eq_true rfl, Nat.le_of_ble_eq_true rfl⟩ ltM_0 shM_0 rfl rfl rfl rfl (Nat.le_of_ble_eq_true rfl) dX5_lay_20 ?_
      exact bw_ireti (pc := 23) C dX5_lay_23 h
  · refine bw_iconst (pc := 7) (v := (-1 : Int32)) C dX5_lay_7 ic_m1 ?_
    exact bw_ireti (pc := 8) C dX5_lay_8 h
/-! X5_leak -/
abbrev rmX5_leak : Room := { frames := 3, cells := 0, slots := 0, locals := 68 }
theorem msX5_leak : bw_MV yX5_leak cX5_leak 2 (some .int) RX5 1 := ⟨mw_867, mw_868, mw_6, mw_869, by decide +kernel⟩
def fX5_leak (N : Nat) (x1 : Int32) (M : bw_M) : Option (Int32 × bw_M) :=
  bw_c2 (fX5_turns N (4 : Int32) x1 M) fun v1 M2 =>
  some (v1, M2)
theorem tX5_leak (l : Launch) (N : Nat) (x1 : Int32)  (M : bw_M) (rr : Int32) (zz : bw_M) (h : fX5_leak N x1 M = some (rr, zz)) : bw_CI l bw_shM 19 yX5_leak cX5_leak 2 (some .int) rmX5_leak (fun ρ => [.ref (ρ 0), .int x1]) M rr zz := by
  refine bw_inI (Lf := fun ρ => [(0, .ref (ρ 0)), (1, .int x1)]) cX5_leak 2 (some .int) RX5 pn_X5 rfl (fun ρ => Nat.le_of_ble_eq_true rfl) (fun ρ => rfl) ?_
  intro p e s m args below meth c D kT ρ C
  unfold fX5_leak at h
  refine bw_aload_n (pc := 0) C 0 dX5_leak_0 rfl rfl ?_
  refine bw_iconst (pc := 1) (v := (4 : Int32)) C dX5_leak_1 ic_4 ?_
  refine bw_iload_n (pc := 2) C 1 dX5_leak_2 rfl rfl ?_
  obtain ⟨v1, M2, ev1, h⟩ := bw_c2_o h
  refine bw_cVi (pc := 3) (q := 0) (As := [.int (4 : Int32), .int x1]) (rest := []) C (tX5_turns l N (4 : Int32) x1 M v1 M2 ev1) msX5_turns mw_862 rfl rfl ⟨Nat.le_of_ble_eq_true rfl, Nat.le_of_ble_eq_true rfl⟩ ltM_0 shM_0 rfl rfl rfl rfl (Nat.le_of_ble_eq_true rfl) dX5_leak_3 ?_
  exact bw_ireti (pc := 6) C dX5_leak_6 h
/-! X5_refusesAll -/
abbrev rmX5_refusesAll : Room := { frames := 3, cells := 0, slots := 0, locals := 68 }
theorem msX5_refusesAll : bw_MV yX5_refusesAll cX5_refusesAll 2 (some .int) RX5 1 := ⟨mw_939, mw_1112, mw_6, mw_940, by decide +kernel⟩
def fX5_refusesAll_26 (N : Nat) (x1 : Int32)  (s0 : Int32) (M : bw_M) : Option (Int32 × bw_M) :=
  some (s0, M)
theorem tX5_refusesAll_26 {p : Program} {l : Launch} {e : Env} {s : State} {m : MethodId} {args : Array Value} {below : List Frame} {meth : Method} {c : Code} {D : va_G} {kT : Nat → ClassId} {ρ : Nat → Nat} (C : bw_Cx p s m args meth c cX5_refusesAll 2 RX5 19 D kT ρ (some .int)) (N : Nat) (x1 : Int32)   (s0 : Int32) (M : bw_M) (rr : Int32) (zz : bw_M)  (h : fX5_refusesAll_26 N x1 s0 M = some (rr, zz)) : bw_At p l e rmX5_refusesAll s m args below meth c (MQ below (bw_QI bw_shM 19 D kT ρ rr zz) args s 0 0 (bw_A ρ 19)) bw_shM 19 D kT ρ 2 26 [(0, .ref (ρ 0)), (1, .int x1)] [.int s0] M := by
  unfold fX5_refusesAll_26 at h
  exact bw_ireti (pc := 26) C dX5_refusesAll_26 h
def fX5_refusesAll (N : Nat) (x1 : Int32) (M : bw_M) : Option (Int32 × bw_M) :=
  bw_cl (fX5_isRow x1) fun v1 =>
  if v1 = 0 then
  some ((-1 : Int32), M)
  else
  if (M.1 0 9) = 0 then
  fX5_refusesAll_26 N x1 (-4 : Int32) M
  else
  bw_c2 (fX5_refusesRow N x1 M) fun v2 M3 =>
  fX5_refusesAll_26 N x1 v2 M3
theorem tX5_refusesAll (l : Launch) (N : Nat) (x1 : Int32)  (M : bw_M) (rr : Int32) (zz : bw_M) (h : fX5_refusesAll N x1 M = some (rr, zz)) : bw_CI l bw_shM 19 yX5_refusesAll cX5_refusesAll 2 (some .int) rmX5_refusesAll (fun ρ => [.ref (ρ 0), .int x1]) M rr zz := by
  refine bw_inI (Lf := fun ρ => [(0, .ref (ρ 0)), (1, .int x1)]) cX5_refusesAll 2 (some .int) RX5 pn_X5 rfl (fun ρ => Nat.le_of_ble_eq_true rfl) (fun ρ => rfl) ?_
  intro p e s m args below meth c D kT ρ C
  unfold fX5_refusesAll at h
  refine bw_iload_n (pc := 0) C 1 dX5_refusesAll_0 rfl rfl ?_
  obtain ⟨v1, ev1, h⟩ := bw_cl_o h
  refine bw_cSi (pc := 1) (As := [.int x1]) (rest := []) C (tX5_isRow l x1 M v1 ev1) msX5_isRow mw_713 rfl rfl ⟨Nat.le_of_ble_eq_true rfl, Nat.le_of_ble_eq_true rfl⟩ rfl rfl rfl (Nat.le_of_ble_eq_true rfl) dX5_refusesAll_1 ?_
  refine bw_if_ne (pc := 4) C 9 dX5_refusesAll_4 (by decide) h (fun h => ?_) (fun h => ?_)
  · refine bw_aload_n (pc := 9) C 0 dX5_refusesAll_9 rfl rfl ?_
    refine bw_getI (pc := 10) (q := 0) (k0 := 9) C ltM_0 shM_0 rfl inX5 mw_624 (by decide) rfl dX5_refusesAll_10 ?_
    refine bw_if_ne (pc := 13) C 21 dX5_refusesAll_13 (by decide) h (fun h => ?_) (fun h => ?_)
    · refine bw_aload_n (pc := 21) C 0 dX5_refusesAll_21 rfl rfl ?_
      refine bw_iload_n (pc := 22) C 1 dX5_refusesAll_22 rfl rfl ?_
      obtain ⟨v2, M3, ev2, h⟩ := bw_c2_o h
      refine bw_cVi (pc := 23) (q := 0) (As := [.int x1]) (rest := []) C (tX5_refusesRow l N x1 M v2 M3 ev2) msX5_refusesRow mw_941 rfl rfl ⟨Nat.le_of_ble_eq_true rfl, Nat.le_of_ble_eq_true rfl⟩ ltM_0 shM_0 rfl rfl rfl rfl (Nat.le_of_ble_eq_true rfl) dX5_refusesAll_23 ?_
      refine bw_pick [0, 1] rfl ?_
      exact tX5_refusesAll_26 C N x1 v2 M3 rr zz h
    · refine bw_bipush (pc := 16) (v := (-4 : Int32)) C dX5_refusesAll_16 bi_m4 ?_
      refine bw_goto (pc := 18) C 26 dX5_refusesAll_18 (by decide) ?_
      refine bw_pick [0, 1] rfl ?_
      exact tX5_refusesAll_26 C N x1 (-4 : Int32) M rr zz h
  · refine bw_iconst (pc := 7) (v := (-1 : Int32)) C dX5_refusesAll_7 ic_m1 ?_
    exact bw_ireti (pc := 8) C dX5_refusesAll_8 h
/-! X5_mayLeak -/
abbrev rmX5_mayLeak : Room := { frames := 5, cells := 0, slots := 0, locals := 113 }
theorem msX5_mayLeak : bw_MV yX5_mayLeak cX5_mayLeak 3 (some .boolean) RX5 2 := ⟨mw_948, mw_1114, mw_6, mw_949, by decide +kernel⟩
def fX5_mayLeak (N : Nat) (x1 : Int32) (x2 : Int32) (M : bw_M) : Option (Int32 × bw_M) :=
  bw_cl (fX5_layAside N M) fun M1 =>
  bw_wr M1 10 17 (4 : Int32) x1 fun M2 =>
  bw_c2 (fX5_goesAs N x2 M2) fun v3 M4 =>
  bw_ck (bw_isb v3) (some (v3, M4))
theorem tX5_mayLeak (l : Launch) (N : Nat) (x1 : Int32) (x2 : Int32)  (M : bw_M) (rr : Int32) (zz : bw_M) (h : fX5_mayLeak N x1 x2 M = some (rr, zz)) : bw_CI l bw_shM 19 yX5_mayLeak cX5_mayLeak 3 (some .boolean) rmX5_mayLeak (fun ρ => [.ref (ρ 0), .int x1, .int x2]) M rr zz := by
  refine bw_inI (Lf := fun ρ => [(0, .ref (ρ 0)), (1, .int x1), (2, .int x2)]) cX5_mayLeak 3 (some .boolean) RX5 pn_X5 rfl (fun ρ => Nat.le_of_ble_eq_true rfl) (fun ρ => rfl) ?_
  intro p e s m args below meth c D kT ρ C
  unfold fX5_mayLeak at h
  refine bw_aload_n (pc := 0) C 0 dX5_mayLeak_0 rfl rfl ?_
  obtain ⟨M1, eM1, h⟩ := bw_cl_o h
  refine bw_cVv (pc := 1) (q := 0) (As := []) (rest := []) C (tX5_layAside l N M M1 eM1) msX5_layAside mw_897 rfl rfl ⟨Nat.le_of_ble_eq_true rfl, Nat.le_of_ble_eq_true rfl⟩ ltM_0 shM_0 rfl rfl rfl rfl (Nat.le_of_ble_eq_true rfl) dX5_mayLeak_1 ?_
  refine bw_aload_n (pc := 4) C 0 dX5_mayLeak_4 rfl rfl ?_
  refine bw_getR (pc := 5) (q := 0) (k0 := 14) C ltM_0 shM_0 rfl inX5 mw_629 (by decide) rfl dX5_mayLeak_5 ?_
  refine bw_iconst (pc := 8) (v := (4 : Int32)) C dX5_mayLeak_8 ic_4 ?_
  refine bw_iload_n (pc := 9) C 1 dX5_mayLeak_9 rfl rfl ?_
  obtain ⟨qM2, M2, eM2, h⟩ := bw_wr_o h
  refine bw_iast (pc := 10) (q := 10) C ltM_10 shM_10 qM2 eM2 dX5_mayLeak_10 ?_
  refine bw_aload_n (pc := 11) C 0 dX5_mayLeak_11 rfl rfl ?_
  refine bw_iload_n (pc := 12) C 2 dX5_mayLeak_12 rfl rfl ?_
  obtain ⟨v3, M4, ev3, h⟩ := bw_c2_o h
  refine bw_cVi (pc := 13) (q := 0) (As := [.int x2]) (rest := []) C (tX5_goesAs l N x2 M2 v3 M4 ev3) msX5_goesAs mw_950 rfl rfl ⟨Nat.le_of_ble_eq_true rfl, Nat.le_of_ble_eq_true rfl⟩ ltM_0 shM_0 rfl rfl rfl rfl (Nat.le_of_ble_eq_true rfl) dX5_mayLeak_13 ?_
  obtain ⟨q5, h⟩ := bw_ck_o h
  exact bw_iretz (pc := 16) C (nz_b q5) dX5_mayLeak_16 h
/-! X5_leaks -/
abbrev rmX5_leaks : Room := { frames := 6, cells := 0, slots := 0, locals := 135 }
theorem msX5_leaks : bw_MV yX5_leaks cX5_leaks 6 (some .int) RX5 1 := ⟨mw_934, mw_935, mw_6, mw_936, by decide +kernel⟩
def fX5_leaks_61 (N : Nat) (x1 : Int32) (k21 : Int32 × Int32 × Int32 × bw_M → Option (Int32 × bw_M)) (x3 : Int32) (x4 : Int32) (x5 : Int32) (M : bw_M) : Option (Int32 × bw_M) :=
  bw_mv (x5 + 1) fun v10 =>
  k21 (x3, x4, v10, M)
theorem tX5_leaks_61 {p : Program} {l : Launch} {e : Env} {s : State} {m : MethodId} {args : Array Value} {below : List Frame} {meth : Method} {c : Code} {D : va_G} {kT : Nat → ClassId} {ρ : Nat → Nat} (C : bw_Cx p s m args meth c cX5_leaks 6 RX5 19 D kT ρ (some .int)) (N : Nat) (x1 : Int32)  (k21 : Int32 × Int32 × Int32 × bw_M → Option (Int32 × bw_M)) (x3 : Int32) (x4 : Int32) (x5 : Int32) (M : bw_M) (rr : Int32) (zz : bw_M) (hk21 : ∀ z0, k21 z0 = some (rr, zz) → bw_At p l e rmX5_leaks s m args below meth c (MQ below (bw_QI bw_shM 19 D kT ρ rr zz) args s 0 0 (bw_A ρ 19)) bw_shM 19 D kT ρ 6 21 [(0, .ref (ρ 0)), (1, .int x1), (3, .int z0.1), (4, .int z0.2.1), (5, .int z0.2.2.1)] [] z0.2.2.2) (h : fX5_leaks_61 N x1 k21 x3 x4 x5 M = some (rr, zz)) : bw_At p l e rmX5_leaks s m args below meth c (MQ below (bw_QI bw_shM 19 D kT ρ rr zz) args s 0 0 (bw_A ρ 19)) bw_shM 19 D kT ρ 6 61 [(0, .ref (ρ 0)), (1, .int x1), (3, .int x3), (4, .int x4), (5, .int x5)] [] M := by
  unfold fX5_leaks_61 at h
  obtain ⟨v10, ev10, h⟩ := bw_mv_o h
  refine bw_iinc (pc := 61) (x := v10) (L' := [(5, .int v10), (0, .ref (ρ 0)), (1, .int x1), (3, .int x3), (4, .int x4)]) C 4 dX5_leaks_61 rfl ev10.symm (by decide) rfl ?_
  refine bw_goto (pc := 64) C 21 dX5_leaks_64 (by decide) ?_
  refine bw_pick [1, 2, 3, 4, 0] rfl ?_
  exact hk21 (x3, x4, v10, M) h
def fX5_leaks_59 (N : Nat) (x1 : Int32) (k21 : Int32 × Int32 × Int32 × bw_M → Option (Int32 × bw_M)) (x3 : Int32) (x5 : Int32) (s0 : Int32) (M : bw_M) : Option (Int32 × bw_M) :=
  fX5_leaks_61 N x1 k21 x3 s0 x5 M
theorem tX5_leaks_59 {p : Program} {l : Launch} {e : Env} {s : State} {m : MethodId} {args : Array Value} {below : List Frame} {meth : Method} {c : Code} {D : va_G} {kT : Nat → ClassId} {ρ : Nat → Nat} (C : bw_Cx p s m args meth c cX5_leaks 6 RX5 19 D kT ρ (some .int)) (N : Nat) (x1 : Int32)  (k21 : Int32 × Int32 × Int32 × bw_M → Option (Int32 × bw_M)) (x3 : Int32) (x5 : Int32) (s0 : Int32) (M : bw_M) (rr : Int32) (zz : bw_M) (hk21 : ∀ z0, k21 z0 = some (rr, zz) → bw_At p l e rmX5_leaks s m args below meth c (MQ below (bw_QI bw_shM 19 D kT ρ rr zz) args s 0 0 (bw_A ρ 19)) bw_shM 19 D kT ρ 6 21 [(0, .ref (ρ 0)), (1, .int x1), (3, .int z0.1), (4, .int z0.2.1), (5, .int z0.2.2.1)] [] z0.2.2.2) (h : fX5_leaks_59 N x1 k21 x3 x5 s0 M = some (rr, zz)) : bw_At p l e rmX5_leaks s m args below meth c (MQ below (bw_QI bw_shM 19 D kT ρ rr zz) args s 0 0 (bw_A ρ 19)) bw_shM 19 D kT ρ 6 59 [(0, .ref (ρ 0)), (1, .int x1), (3, .int x3), (5, .int x5)] [.int s0] M := by
  unfold fX5_leaks_59 at h
  refine bw_istore (pc := 59) (L' := [(4, .int s0), (0, .ref (ρ 0)), (1, .int x1), (3, .int x3), (5, .int x5)]) C dX5_leaks_59 (by decide) rfl ?_
  refine bw_pick [1, 2, 3, 0, 4] rfl ?_
  exact tX5_leaks_61 C N x1 k21 x3 s0 x5 M rr zz hk21 h
def fX5_leaks_21 (N : Nat) (x1 : Int32) (k21 : Int32 × Int32 × Int32 × bw_M → Option (Int32 × bw_M)) (x3 : Int32) (x4 : Int32) (x5 : Int32) (M : bw_M) : Option (Int32 × bw_M) :=
  if ((1 : Int32) <<< ((M.1 0 9) &&& 31)) ≤ x5 then
  bw_c2 (fX5_counted x3 x4 M) fun v6 M7 =>
  some (v6, M7)
  else
  bw_c2 (fX5_mayLeak N x5 x1 M) fun v8 M9 =>
  if v8 = 0 then
  fX5_leaks_61 N x1 k21 x3 x4 x5 M9
  else
  bw_mv (x3 + 1) fun v11 =>
  if x4 = (-9 : Int32) then
  fX5_leaks_59 N x1 k21 v11 x5 x5 M9
  else
  fX5_leaks_59 N x1 k21 v11 x5 x4 M9
theorem tX5_leaks_21 {p : Program} {l : Launch} {e : Env} {s : State} {m : MethodId} {args : Array Value} {below : List Frame} {meth : Method} {c : Code} {D : va_G} {kT : Nat → ClassId} {ρ : Nat → Nat} (C : bw_Cx p s m args meth c cX5_leaks 6 RX5 19 D kT ρ (some .int)) (N : Nat) (x1 : Int32)  (k21 : Int32 × Int32 × Int32 × bw_M → Option (Int32 × bw_M)) (x3 : Int32) (x4 : Int32) (x5 : Int32) (M : bw_M) (rr : Int32) (zz : bw_M) (hk21 : ∀ z0, k21 z0 = some (rr, zz) → bw_At p l e rmX5_leaks s m args below meth c (MQ below (bw_QI bw_shM 19 D kT ρ rr zz) args s 0 0 (bw_A ρ 19)) bw_shM 19 D kT ρ 6 21 [(0, .ref (ρ 0)), (1, .int x1), (3, .int z0.1), (4, .int z0.2.1), (5, .int z0.2.2.1)] [] z0.2.2.2) (h : fX5_leaks_21 N x1 k21 x3 x4 x5 M = some (rr, zz)) : bw_At p l e rmX5_leaks s m args below meth c (MQ below (bw_QI bw_shM 19 D kT ρ rr zz) args s 0 0 (bw_A ρ 19)) bw_shM 19 D kT ρ 6 21 [(0, .ref (ρ 0)), (1, .int x1), (3, .int x3), (4, .int x4), (5, .int x5)] [] M := by
  unfold fX5_leaks_21 at h
  refine bw_iload (pc := 21) C 4 dX5_leaks_21 rfl ?_
  refine bw_iconst (pc := 23) (v := (1 : Int32)) C dX5_leaks_23 ic_1 ?_
  refine bw_aload_n (pc := 24) C 0 dX5_leaks_24 rfl rfl ?_
  refine bw_getI (pc := 25) (q := 0) (k0 := 9) C ltM_0 shM_0 rfl inX5 mw_624 (by decide) rfl dX5_leaks_25 ?_
  refine bw_ishl (pc := 28) C dX5_leaks_28 ?_
  refine bw_icmp_ge (pc := 29) C 67 dX5_leaks_29 (by decide) h (fun h => ?_) (fun h => ?_)
  · refine bw_aload_n (pc := 67) C 0 dX5_leaks_67 rfl rfl ?_
    refine bw_iload_n (pc := 68) C 2 dX5_leaks_68 rfl rfl ?_
    refine bw_iload (pc := 69) C 3 dX5_leaks_69 rfl ?_
    obtain ⟨v6, M7, ev6, h⟩ := bw_c2_o h
    refine bw_cVi (pc := 71) (q := 0) (As := [.int x3, .int x4]) (rest := []) C (tX5_counted l x3 x4 M v6 M7 ev6) msX5_counted mw_954 rfl rfl ⟨Nat.le_of_ble_eq_true rfl, Nat.le_of_ble_eq_true rfl⟩ ltM_0 shM_0 rfl rfl rfl rfl (Nat.le_of_ble_eq_true rfl) dX5_leaks_71 ?_
    exact bw_ireti (pc := 74) C dX5_leaks_74 h
  · refine bw_aload_n (pc := 32) C 0 dX5_leaks_32 rfl rfl ?_
    refine bw_iload (pc := 33) C 4 dX5_leaks_33 rfl ?_
    refine bw_iload_n (pc := 35) C 1 dX5_leaks_35 rfl rfl ?_
    obtain ⟨v8, M9, ev8, h⟩ := bw_c2_o h
    refine bw_cVi (pc := 36) (q := 0) (As := [.int x5, .int x1]) (rest := []) C (tX5_mayLeak l N x5 x1 M v8 M9 ev8) msX5_mayLeak mw_946 rfl rfl ⟨Nat.le_of_ble_eq_true rfl, Nat.le_of_ble_eq_true rfl⟩ ltM_0 shM_0 rfl rfl rfl rfl (Nat.le_of_ble_eq_true rfl) dX5_leaks_36 ?_
    refine bw_if_eq (pc := 39) C 61 dX5_leaks_39 (by decide) h (fun h => ?_) (fun h => ?_)
    · refine bw_pick [0, 1, 2, 3, 4] rfl ?_
      exact tX5_leaks_61 C N x1 k21 x3 x4 x5 M9 rr zz hk21 h
    · obtain ⟨v11, ev11, h⟩ := bw_mv_o h
      refine bw_iinc (pc := 42) (x := v11) (L' := [(3, .int v11), (0, .ref (ρ 0)), (1, .int x1), (4, .int x4), (5, .int x5)]) C 2 dX5_leaks_42 rfl ev11.symm (by decide) rfl ?_
      refine bw_iload (pc := 45) C 3 dX5_leaks_45 rfl ?_
      refine bw_bipush (pc := 47) (v := (-9 : Int32)) C dX5_leaks_47 bi_m9 ?_
      refine bw_icmp_ne (pc := 49) C 57 dX5_leaks_49 (by decide) h (fun h => ?_) (fun h => ?_)
      · refine bw_iload (pc := 57) C 3 dX5_leaks_57 rfl ?_
        refine bw_pick [1, 2, 0, 4] rfl ?_
        exact tX5_leaks_59 C N x1 k21 v11 x5 x4 M9 rr zz hk21 h
      · refine bw_iload (pc := 52) C 4 dX5_leaks_52 rfl ?_
        refine bw_goto (pc := 54) C 59 dX5_leaks_54 (by decide) ?_
        refine bw_pick [1, 2, 0, 4] rfl ?_
        exact tX5_leaks_59 C N x1 k21 v11 x5 x5 M9 rr zz hk21 h
def flX5_leaks_21 (N : Nat) (x1 : Int32)    (fu : Nat) (w : Int32 × Int32 × Int32 × bw_M) : Option (Int32 × bw_M) := bw_lp (fun kk w => fX5_leaks_21 N x1 kk w.1 w.2.1 w.2.2.1 w.2.2.2) fu w
theorem tlX5_leaks_21 {p : Program} {l : Launch} {e : Env} {s : State} {m : MethodId} {args : Array Value} {below : List Frame} {meth : Method} {c : Code} {D : va_G} {kT : Nat → ClassId} {ρ : Nat → Nat} (C : bw_Cx p s m args meth c cX5_leaks 6 RX5 19 D kT ρ (some .int)) (N : Nat) (x1 : Int32)     (rr : Int32) (zz : bw_M)  (fu : Nat) (w : Int32 × Int32 × Int32 × bw_M) (h : flX5_leaks_21 N x1 fu w = some (rr, zz)) : bw_At p l e rmX5_leaks s m args below meth c (MQ below (bw_QI bw_shM 19 D kT ρ rr zz) args s 0 0 (bw_A ρ 19)) bw_shM 19 D kT ρ 6 21 [(0, .ref (ρ 0)), (1, .int x1), (3, .int w.1), (4, .int w.2.1), (5, .int w.2.2.1)] [] w.2.2.2 :=
  bw_loop (r := (rr, zz)) (fun w => bw_At p l e rmX5_leaks s m args below meth c (MQ below (bw_QI bw_shM 19 D kT ρ rr zz) args s 0 0 (bw_A ρ 19)) bw_shM 19 D kT ρ 6 21 [(0, .ref (ρ 0)), (1, .int x1), (3, .int w.1), (4, .int w.2.1), (5, .int w.2.2.1)] [] w.2.2.2) (fun kk hk w h => tX5_leaks_21 C N x1 kk w.1 w.2.1 w.2.2.1 w.2.2.2 rr zz hk h) fu w h
def fX5_leaks (N : Nat) (x1 : Int32) (M : bw_M) : Option (Int32 × bw_M) :=
  bw_c2 (fX5_refusesAll N x1 M) fun v1 M2 =>
  if v1 = 0 then
  bw_mv (0 : Int32) fun v3 =>
  bw_mv (-9 : Int32) fun v4 =>
  bw_mv (0 : Int32) fun v5 =>
  flX5_leaks_21 N x1 N (v3, v4, v5, M2)
  else
  some (v1, M2)
theorem tX5_leaks (l : Launch) (N : Nat) (x1 : Int32)  (M : bw_M) (rr : Int32) (zz : bw_M) (h : fX5_leaks N x1 M = some (rr, zz)) : bw_CI l bw_shM 19 yX5_leaks cX5_leaks 6 (some .int) rmX5_leaks (fun ρ => [.ref (ρ 0), .int x1]) M rr zz := by
  refine bw_inI (Lf := fun ρ => [(0, .ref (ρ 0)), (1, .int x1)]) cX5_leaks 6 (some .int) RX5 pn_X5 rfl (fun ρ => Nat.le_of_ble_eq_true rfl) (fun ρ => rfl) ?_
  intro p e s m args below meth c D kT ρ C
  unfold fX5_leaks at h
  refine bw_aload_n (pc := 0) C 0 dX5_leaks_0 rfl rfl ?_
  refine bw_iload_n (pc := 1) C 1 dX5_leaks_1 rfl rfl ?_
  obtain ⟨v1, M2, ev1, h⟩ := bw_c2_o h
  refine bw_cVi (pc := 2) (q := 0) (As := [.int x1]) (rest := []) C (tX5_refusesAll l N x1 M v1 M2 ev1) msX5_refusesAll mw_937 rfl rfl ⟨Nat.le_of_ble_eq_true rfl, Nat.le_of_ble_eq_true rfl⟩ ltM_0 shM_0 rfl rfl rfl rfl (Nat.le_of_ble_eq_true rfl) dX5_leaks_2 ?_
  refine bw_istore_n (pc := 5) (L' := [(2, .int v1), (0, .ref (ρ 0)), (1, .int x1)]) C dX5_leaks_5 rfl (by decide) rfl ?_
  refine bw_iload_n (pc := 6) C 0 dX5_leaks_6 rfl rfl ?_
  refine bw_if_eq (pc := 7) C 12 dX5_leaks_7 (by decide) h (fun h => ?_) (fun h => ?_)
  · refine bw_iconst (pc := 12) (v := (0 : Int32)) C dX5_leaks_12 ic_0 ?_
    obtain ⟨v3, ev3, h⟩ := bw_mv_o h
    refine bw_nmI ev3 ?_
    refine bw_istore_n (pc := 13) (L' := [(3, .int v3), (2, .int v1), (0, .ref (ρ 0)), (1, .int x1)]) C dX5_leaks_13 rfl (by decide) rfl ?_
    refine bw_bipush (pc := 14) (v := (-9 : Int32)) C dX5_leaks_14 bi_m9 ?_
    obtain ⟨v4, ev4, h⟩ := bw_mv_o h
    refine bw_nmI ev4 ?_
    refine bw_istore (pc := 16) (L' := [(4, .int v4), (3, .int v3), (2, .int v1), (0, .ref (ρ 0)), (1, .int x1)]) C dX5_leaks_16 (by decide) rfl ?_
    refine bw_iconst (pc := 18) (v := (0 : Int32)) C dX5_leaks_18 ic_0 ?_
    obtain ⟨v5, ev5, h⟩ := bw_mv_o h
    refine bw_nmI ev5 ?_
    refine bw_istore (pc := 19) (L' := [(5, .int v5), (4, .int v4), (3, .int v3), (2, .int v1), (0, .ref (ρ 0)), (1, .int x1)]) C dX5_leaks_19 (by decide) rfl ?_
    refine bw_pick [4, 5, 2, 1, 0] rfl ?_
    exact tlX5_leaks_21 C N x1 rr zz N (v3, v4, v5, M2) h
  · refine bw_iload_n (pc := 10) C 0 dX5_leaks_10 rfl rfl ?_
    exact bw_ireti (pc := 11) C dX5_leaks_11 h
/-! X5_least -/
abbrev rmX5_least : Room := { frames := 4, cells := 0, slots := 0, locals := 90 }
theorem msX5_least : bw_MV yX5_least cX5_least 3 (some .int) RX5 1 := ⟨mw_921, mw_922, mw_6, mw_923, by decide +kernel⟩
def fX5_least_12 (N : Nat) (x1 : Int32) (k12 : Int32 × bw_M → Option (Int32 × bw_M)) (x2 : Int32) (M : bw_M) : Option (Int32 × bw_M) :=
  if (61 : Int32) ≤ x2 then
  some ((-9 : Int32), M)
  else
  bw_cl (fX5_layAside N M) fun M3 =>
  bw_rd M3 10 17 (0 : Int32) fun v4 =>
  bw_cl (fX5_lesser (60 : Int32) (v4 + x2)) fun v5 =>
  bw_wr M3 10 17 (0 : Int32) v5 fun M6 =>
  bw_c2 (fX5_goes N 10 17 M6) fun v7 M8 =>
  bw_cl (fX5_has v7 x1) fun v9 =>
  if v9 = 0 then
  bw_mv (x2 + 1) fun v10 =>
  k12 (v10, M8)
  else
  some (x2, M8)
theorem tX5_least_12 {p : Program} {l : Launch} {e : Env} {s : State} {m : MethodId} {args : Array Value} {below : List Frame} {meth : Method} {c : Code} {D : va_G} {kT : Nat → ClassId} {ρ : Nat → Nat} (C : bw_Cx p s m args meth c cX5_least 3 RX5 19 D kT ρ (some .int)) (N : Nat) (x1 : Int32)  (k12 : Int32 × bw_M → Option (Int32 × bw_M)) (x2 : Int32) (M : bw_M) (rr : Int32) (zz : bw_M) (hk12 : ∀ z0, k12 z0 = some (rr, zz) → bw_At p l e rmX5_least s m args below meth c (MQ below (bw_QI bw_shM 19 D kT ρ rr zz) args s 0 0 (bw_A ρ 19)) bw_shM 19 D kT ρ 3 12 [(0, .ref (ρ 0)), (1, .int x1), (2, .int z0.1)] [] z0.2) (h : fX5_least_12 N x1 k12 x2 M = some (rr, zz)) : bw_At p l e rmX5_least s m args below meth c (MQ below (bw_QI bw_shM 19 D kT ρ rr zz) args s 0 0 (bw_A ρ 19)) bw_shM 19 D kT ρ 3 12 [(0, .ref (ρ 0)), (1, .int x1), (2, .int x2)] [] M := by
  unfold fX5_least_12 at h
  refine bw_iload_n (pc := 12) C 2 dX5_least_12 rfl rfl ?_
  refine bw_bipush (pc := 13) (v := (61 : Int32)) C dX5_least_13 bi_61 ?_
  refine bw_icmp_ge (pc := 15) C 64 dX5_least_15 (by decide) h (fun h => ?_) (fun h => ?_)
  · refine bw_bipush (pc := 64) (v := (-9 : Int32)) C dX5_least_64 bi_m9 ?_
    exact bw_ireti (pc := 66) C dX5_least_66 h
  · refine bw_aload_n (pc := 18) C 0 dX5_least_18 rfl rfl ?_
    obtain ⟨M3, eM3, h⟩ := bw_cl_o h
    refine bw_cVv (pc := 19) (q := 0) (As := []) (rest := []) C (tX5_layAside l N M M3 eM3) msX5_layAside mw_897 rfl rfl ⟨Nat.le_of_ble_eq_true rfl, Nat.le_of_ble_eq_true rfl⟩ ltM_0 shM_0 rfl rfl rfl rfl (Nat.le_of_ble_eq_true rfl) dX5_least_19 ?_
    refine bw_aload_n (pc := 22) C 0 dX5_least_22 rfl rfl ?_
    refine bw_getR (pc := 23) (q := 0) (k0 := 14) C ltM_0 shM_0 rfl inX5 mw_629 (by decide) rfl dX5_least_23 ?_
    refine bw_iconst (pc := 26) (v := (0 : Int32)) C dX5_least_26 ic_0 ?_
    refine bw_bipush (pc := 27) (v := (60 : Int32)) C dX5_least_27 bi_60 ?_
    refine bw_aload_n (pc := 29) C 0 dX5_least_29 rfl rfl ?_
    refine bw_getR (pc := 30) (q := 0) (k0 := 14) C ltM_0 shM_0 rfl inX5 mw_629 (by decide) rfl dX5_least_30 ?_
    refine bw_iconst (pc := 33) (v := (0 : Int32)) C dX5_least_33 ic_0 ?_
    obtain ⟨qv4, v4, ev4, h⟩ := bw_rd_o h
    refine bw_iald (pc := 34) (q := 10) C ltM_10 shM_10 qv4 ev4 dX5_least_34 ?_
    refine bw_iload_n (pc := 35) C 2 dX5_least_35 rfl rfl ?_
    refine bw_iadd (pc := 36) C dX5_least_36 ?_
    obtain ⟨v5, ev5, h⟩ := bw_cl_o h
    refine bw_cSi (pc := 37) (As := [.int (60 : Int32), .int (v4 + x2)]) (rest := [.int (0 : Int32), .ref (ρ 10)]) C (tX5_lesser l (60 : Int32) (v4 + x2) M3 v5 ev5) msX5_lesser mw_844 rfl rfl ⟨Nat.le_of_ble_eq_true rfl, Nat.le_of_ble_eq_true rfl⟩ rfl rfl rfl (Nat.le_of_ble_eq_true rfl) dX5_least_37 ?_
    obtain ⟨qM6, M6, eM6, h⟩ := bw_wr_o h
    refine bw_iast (pc := 40) (q := 10) C ltM_10 shM_10 qM6 eM6 dX5_least_40 ?_
    refine bw_aload_n (pc := 41) C 0 dX5_least_41 rfl rfl ?_
    refine bw_aload_n (pc := 42) C 0 dX5_least_42 rfl rfl ?_
    refine bw_getR (pc := 43) (q := 0) (k0 := 14) C ltM_0 shM_0 rfl inX5 mw_629 (by decide) rfl dX5_least_43 ?_
    obtain ⟨v7, M8, ev7, h⟩ := bw_c2_o h
    refine bw_cVi (pc := 46) (q := 0) (As := [.ref (ρ 10)]) (rest := []) C (tX5_goes l N 10 17 ltM_10 shM_10 M6 v7 M8 ev7) msX5_goes mw_840 rfl rfl ⟨Nat.le_of_ble_eq_true rfl, Nat.le_of_ble_eq_true rfl⟩ ltM_0 shM_0 rfl rfl rfl rfl (Nat.le_of_ble_eq_true rfl) dX5_least_46 ?_
    refine bw_iload_n (pc := 49) C 1 dX5_least_49 rfl rfl ?_
    obtain ⟨v9, ev9, h⟩ := bw_cl_o h
    refine bw_cSi (pc := 50) (As := [.int v7, .int x1]) (rest := []) C (tX5_has l v7 x1 M8 v9 ev9) msX5_has mw_815 rfl rfl ⟨Nat.le_of_ble_eq_true rfl, Nat.le_of_ble_eq_true rfl⟩ rfl rfl rfl (Nat.le_of_ble_eq_true rfl) dX5_least_50 ?_
    refine bw_if_eq (pc := 53) C 58 dX5_least_53 (by decide) h (fun h => ?_) (fun h => ?_)
    · obtain ⟨v10, ev10, h⟩ := bw_mv_o h
      refine bw_iinc (pc := 58) (x := v10) (L' := [(2, .int v10), (0, .ref (ρ 0)), (1, .int x1)]) C 2 dX5_least_58 rfl ev10.symm (by decide) rfl ?_
      refine bw_goto (pc := 61) C 12 dX5_least_61 (by decide) ?_
      refine bw_pick [1, 2, 0] rfl ?_
      exact hk12 (v10, M8) h
    · refine bw_iload_n (pc := 56) C 2 dX5_least_56 rfl rfl ?_
      exact bw_ireti (pc := 57) C dX5_least_57 h
def flX5_least_12 (N : Nat) (x1 : Int32)    (fu : Nat) (w : Int32 × bw_M) : Option (Int32 × bw_M) := bw_lp (fun kk w => fX5_least_12 N x1 kk w.1 w.2) fu w
theorem tlX5_least_12 {p : Program} {l : Launch} {e : Env} {s : State} {m : MethodId} {args : Array Value} {below : List Frame} {meth : Method} {c : Code} {D : va_G} {kT : Nat → ClassId} {ρ : Nat → Nat} (C : bw_Cx p s m args meth c cX5_least 3 RX5 19 D kT ρ (some .int)) (N : Nat) (x1 : Int32)     (rr : Int32) (zz : bw_M)  (fu : Nat) (w : Int32 × bw_M) (h : flX5_least_12 N x1 fu w = some (rr, zz)) : bw_At p l e rmX5_least s m args below meth c (MQ below (bw_QI bw_shM 19 D kT ρ rr zz) args s 0 0 (bw_A ρ 19)) bw_shM 19 D kT ρ 3 12 [(0, .ref (ρ 0)), (1, .int x1), (2, .int w.1)] [] w.2 :=
  bw_loop (r := (rr, zz)) (fun w => bw_At p l e rmX5_least s m args below meth c (MQ below (bw_QI bw_shM 19 D kT ρ rr zz) args s 0 0 (bw_A ρ 19)) bw_shM 19 D kT ρ 3 12 [(0, .ref (ρ 0)), (1, .int x1), (2, .int w.1)] [] w.2) (fun kk hk w h => tX5_least_12 C N x1 kk w.1 w.2 rr zz hk h) fu w h
def fX5_least (N : Nat) (x1 : Int32) (M : bw_M) : Option (Int32 × bw_M) :=
  bw_cl (fX5_isPipe x1 M) fun v1 =>
  if v1 = 0 then
  some ((-1 : Int32), M)
  else
  bw_mv (0 : Int32) fun v2 =>
  flX5_least_12 N x1 N (v2, M)
theorem tX5_least (l : Launch) (N : Nat) (x1 : Int32)  (M : bw_M) (rr : Int32) (zz : bw_M) (h : fX5_least N x1 M = some (rr, zz)) : bw_CI l bw_shM 19 yX5_least cX5_least 3 (some .int) rmX5_least (fun ρ => [.ref (ρ 0), .int x1]) M rr zz := by
  refine bw_inI (Lf := fun ρ => [(0, .ref (ρ 0)), (1, .int x1)]) cX5_least 3 (some .int) RX5 pn_X5 rfl (fun ρ => Nat.le_of_ble_eq_true rfl) (fun ρ => rfl) ?_
  intro p e s m args below meth c D kT ρ C
  unfold fX5_least at h
  refine bw_aload_n (pc := 0) C 0 dX5_least_0 rfl rfl ?_
  refine bw_iload_n (pc := 1) C 1 dX5_least_1 rfl rfl ?_
  obtain ⟨v1, ev1, h⟩ := bw_cl_o h
  refine bw_cVi (pc := 2) (q := 0) (As := [.int x1]) (rest := []) C (tX5_isPipe l x1 M v1 ev1) msX5_isPipe mw_799 rfl rfl ⟨Nat.le_of_ble_eq_true rfl, Nat.le_of_ble_eq_true rfl⟩ ltM_0 shM_0 rfl rfl rfl rfl (Nat.le_of_ble_eq_true rfl) dX5_least_2 ?_
  refine bw_if_ne (pc := 5) C 10 dX5_least_5 (by decide) h (fun h => ?_) (fun h => ?_)
  · refine bw_iconst (pc := 10) (v := (0 : Int32)) C dX5_least_10 ic_0 ?_
    obtain ⟨v2, ev2, h⟩ := bw_mv_o h
    refine bw_nmI ev2 ?_
    refine bw_istore_n (pc := 11) (L' := [(2, .int v2), (0, .ref (ρ 0)), (1, .int x1)]) C dX5_least_11 rfl (by decide) rfl ?_
    refine bw_pick [1, 2, 0] rfl ?_
    exact tlX5_least_12 C N x1 rr zz N (v2, M) h
  · refine bw_iconst (pc := 8) (v := (-1 : Int32)) C dX5_least_8 ic_m1 ?_
    exact bw_ireti (pc := 9) C dX5_least_9 h
/-! X5_listen -/
abbrev rmX5_listen : Room := { frames := 6, cells := 0, slots := 0, locals := 135 }
theorem msX5_listen : bw_MV yX5_listen cX5_listen 8 (some .int) RX5 1 := ⟨mw_959, mw_960, mw_6, mw_961, by decide +kernel⟩
def fX5_listen_233 (N : Nat) (x1 : Int32)  (s0 : Int32) (M : bw_M) : Option (Int32 × bw_M) :=
  some (s0, M)
theorem tX5_listen_233 {p : Program} {l : Launch} {e : Env} {s : State} {m : MethodId} {args : Array Value} {below : List Frame} {meth : Method} {c : Code} {D : va_G} {kT : Nat → ClassId} {ρ : Nat → Nat} (C : bw_Cx p s m args meth c cX5_listen 8 RX5 19 D kT ρ (some .int)) (N : Nat) (x1 : Int32)   (s0 : Int32) (M : bw_M) (rr : Int32) (zz : bw_M)  (h : fX5_listen_233 N x1 s0 M = some (rr, zz)) : bw_At p l e rmX5_listen s m args below meth c (MQ below (bw_QI bw_shM 19 D kT ρ rr zz) args s 0 0 (bw_A ρ 19)) bw_shM 19 D kT ρ 8 233 [(0, .ref (ρ 0)), (1, .int x1)] [.int s0] M := by
  unfold fX5_listen_233 at h
  exact bw_ireti (pc := 233) C dX5_listen_233 h
def fX5_listen_213 (N : Nat) (x1 : Int32)  (x4 : Int32) (x5 : Int32) (M : bw_M) : Option (Int32 × bw_M) :=
  if x4 = (-9 : Int32) then
  fX5_listen_233 N x1 (-9 : Int32) M
  else
  bw_c2 (fX5_answer x4 x5 M) fun v9 M10 =>
  fX5_listen_233 N x1 v9 M10
theorem tX5_listen_213 {p : Program} {l : Launch} {e : Env} {s : State} {m : MethodId} {args : Array Value} {below : List Frame} {meth : Method} {c : Code} {D : va_G} {kT : Nat → ClassId} {ρ : Nat → Nat} (C : bw_Cx p s m args meth c cX5_listen 8 RX5 19 D kT ρ (some .int)) (N : Nat) (x1 : Int32)   (x4 : Int32) (x5 : Int32) (M : bw_M) (rr : Int32) (zz : bw_M)  (h : fX5_listen_213 N x1 x4 x5 M = some (rr, zz)) : bw_At p l e rmX5_listen s m args below meth c (MQ below (bw_QI bw_shM 19 D kT ρ rr zz) args s 0 0 (bw_A ρ 19)) bw_shM 19 D kT ρ 8 213 [(0, .ref (ρ 0)), (1, .int x1), (4, .int x4), (5, .int x5)] [] M := by
  unfold fX5_listen_213 at h
  refine bw_iload (pc := 213) C 2 dX5_listen_213 rfl ?_
  refine bw_bipush (pc := 215) (v := (-9 : Int32)) C dX5_listen_215 bi_m9 ?_
  refine bw_icmp_ne (pc := 217) C 225 dX5_listen_217 (by decide) h (fun h => ?_) (fun h => ?_)
  · refine bw_aload_n (pc := 225) C 0 dX5_listen_225 rfl rfl ?_
    refine bw_iload (pc := 226) C 2 dX5_listen_226 rfl ?_
    refine bw_iload (pc := 228) C 3 dX5_listen_228 rfl ?_
    obtain ⟨v9, M10, ev9, h⟩ := bw_c2_o h
    refine bw_cVi (pc := 230) (q := 0) (As := [.int x4, .int x5]) (rest := []) C (tX5_answer l x4 x5 M v9 M10 ev9) msX5_answer mw_901 rfl rfl ⟨Nat.le_of_ble_eq_true rfl, Nat.le_of_ble_eq_true rfl⟩ ltM_0 shM_0 rfl rfl rfl rfl (Nat.le_of_ble_eq_true rfl) dX5_listen_230 ?_
    refine bw_pick [0, 1] rfl ?_
    exact tX5_listen_233 C N x1 v9 M10 rr zz h
  · refine bw_bipush (pc := 220) (v := (-9 : Int32)) C dX5_listen_220 bi_m9 ?_
    refine bw_goto (pc := 222) C 233 dX5_listen_222 (by decide) ?_
    refine bw_pick [0, 1] rfl ?_
    exact tX5_listen_233 C N x1 (-9 : Int32) M rr zz h
def fX5_listen_196 (N : Nat) (x1 : Int32) (k129 : Int32 × Int32 × Int32 → Option (Int32 × bw_M)) (x3 : Int32) (x5 : Int32) (x6 : Int32) (x7 : Int32) (s0 : Int32) (M : bw_M) : Option (Int32 × bw_M) :=
  bw_cl (fX5_lesser x7 x5) fun v14 =>
  bw_mv (x6 + 1) fun v15 =>
  k129 (s0, v14, v15)
theorem tX5_listen_196 {p : Program} {l : Launch} {e : Env} {s : State} {m : MethodId} {args : Array Value} {below : List Frame} {meth : Method} {c : Code} {D : va_G} {kT : Nat → ClassId} {ρ : Nat → Nat} (C : bw_Cx p s m args meth c cX5_listen 8 RX5 19 D kT ρ (some .int)) (N : Nat) (x1 : Int32)  (k129 : Int32 × Int32 × Int32 → Option (Int32 × bw_M)) (x3 : Int32) (x5 : Int32) (x6 : Int32) (x7 : Int32) (s0 : Int32) (M : bw_M) (rr : Int32) (zz : bw_M) (hk129 : ∀ z0, k129 z0 = some (rr, zz) → bw_At p l e rmX5_listen s m args below meth c (MQ below (bw_QI bw_shM 19 D kT ρ rr zz) args s 0 0 (bw_A ρ 19)) bw_shM 19 D kT ρ 8 129 [(0, .ref (ρ 0)), (1, .int x1), (3, .int x3), (4, .int z0.1), (5, .int z0.2.1), (6, .int z0.2.2)] [] M) (h : fX5_listen_196 N x1 k129 x3 x5 x6 x7 s0 M = some (rr, zz)) : bw_At p l e rmX5_listen s m args below meth c (MQ below (bw_QI bw_shM 19 D kT ρ rr zz) args s 0 0 (bw_A ρ 19)) bw_shM 19 D kT ρ 8 196 [(0, .ref (ρ 0)), (1, .int x1), (3, .int x3), (5, .int x5), (6, .int x6), (7, .int x7)] [.int s0] M := by
  unfold fX5_listen_196 at h
  refine bw_istore (pc := 196) (L' := [(4, .int s0), (0, .ref (ρ 0)), (1, .int x1), (3, .int x3), (5, .int x5), (6, .int x6), (7, .int x7)]) C dX5_listen_196 (by decide) rfl ?_
  refine bw_iload (pc := 198) C 6 dX5_listen_198 rfl ?_
  refine bw_iload (pc := 200) C 4 dX5_listen_200 rfl ?_
  obtain ⟨v14, ev14, h⟩ := bw_cl_o h
  refine bw_cSi (pc := 202) (As := [.int x7, .int x5]) (rest := []) C (tX5_lesser l x7 x5 M v14 ev14) msX5_lesser mw_844 rfl rfl ⟨Nat.le_of_ble_eq_true rfl, Nat.le_of_ble_eq_true rfl⟩ rfl rfl rfl (Nat.le_of_ble_eq_true rfl) dX5_listen_202 ?_
  refine bw_istore (pc := 205) (L' := [(5, .int v14), (4, .int s0), (0, .ref (ρ 0)), (1, .int x1), (3, .int x3), (6, .int x6), (7, .int x7)]) C dX5_listen_205 (by decide) rfl ?_
  obtain ⟨v15, ev15, h⟩ := bw_mv_o h
  refine bw_iinc (pc := 207) (x := v15) (L' := [(6, .int v15), (5, .int v14), (4, .int s0), (0, .ref (ρ 0)), (1, .int x1), (3, .int x3), (7, .int x7)]) C 5 dX5_listen_207 rfl ev15.symm (by decide) rfl ?_
  refine bw_goto (pc := 210) C 129 dX5_listen_210 (by decide) ?_
  refine bw_pick [3, 4, 5, 2, 1, 0] rfl ?_
  exact hk129 (s0, v14, v15) h
def fX5_listen_180 (N : Nat) (x1 : Int32) (k129 : Int32 × Int32 × Int32 → Option (Int32 × bw_M)) (x3 : Int32) (x4 : Int32) (x5 : Int32) (x6 : Int32) (s0 : Int32) (M : bw_M) : Option (Int32 × bw_M) :=
  if x5 ≤ s0 then
  fX5_listen_196 N x1 k129 x3 x5 x6 s0 x4 M
  else
  fX5_listen_196 N x1 k129 x3 x5 x6 s0 x6 M
theorem tX5_listen_180 {p : Program} {l : Launch} {e : Env} {s : State} {m : MethodId} {args : Array Value} {below : List Frame} {meth : Method} {c : Code} {D : va_G} {kT : Nat → ClassId} {ρ : Nat → Nat} (C : bw_Cx p s m args meth c cX5_listen 8 RX5 19 D kT ρ (some .int)) (N : Nat) (x1 : Int32)  (k129 : Int32 × Int32 × Int32 → Option (Int32 × bw_M)) (x3 : Int32) (x4 : Int32) (x5 : Int32) (x6 : Int32) (s0 : Int32) (M : bw_M) (rr : Int32) (zz : bw_M) (hk129 : ∀ z0, k129 z0 = some (rr, zz) → bw_At p l e rmX5_listen s m args below meth c (MQ below (bw_QI bw_shM 19 D kT ρ rr zz) args s 0 0 (bw_A ρ 19)) bw_shM 19 D kT ρ 8 129 [(0, .ref (ρ 0)), (1, .int x1), (3, .int x3), (4, .int z0.1), (5, .int z0.2.1), (6, .int z0.2.2)] [] M) (h : fX5_listen_180 N x1 k129 x3 x4 x5 x6 s0 M = some (rr, zz)) : bw_At p l e rmX5_listen s m args below meth c (MQ below (bw_QI bw_shM 19 D kT ρ rr zz) args s 0 0 (bw_A ρ 19)) bw_shM 19 D kT ρ 8 180 [(0, .ref (ρ 0)), (1, .int x1), (3, .int x3), (4, .int x4), (5, .int x5), (6, .int x6)] [.int s0] M := by
  unfold fX5_listen_180 at h
  refine bw_istore (pc := 180) (L' := [(7, .int s0), (0, .ref (ρ 0)), (1, .int x1), (3, .int x3), (4, .int x4), (5, .int x5), (6, .int x6)]) C dX5_listen_180 (by decide) rfl ?_
  refine bw_iload (pc := 182) C 0 dX5_listen_182 rfl ?_
  refine bw_iload (pc := 184) C 5 dX5_listen_184 rfl ?_
  refine bw_icmp_ge (pc := 186) C 194 dX5_listen_186 (by decide) h (fun h => ?_) (fun h => ?_)
  · refine bw_iload (pc := 194) C 4 dX5_listen_194 rfl ?_
    refine bw_pick [1, 2, 3, 5, 6, 0] rfl ?_
    exact tX5_listen_196 C N x1 k129 x3 x5 x6 s0 x4 M rr zz hk129 h
  · refine bw_iload (pc := 189) C 6 dX5_listen_189 rfl ?_
    refine bw_goto (pc := 191) C 196 dX5_listen_191 (by decide) ?_
    refine bw_pick [1, 2, 3, 5, 6, 0] rfl ?_
    exact tX5_listen_196 C N x1 k129 x3 x5 x6 s0 x6 M rr zz hk129 h
def fX5_listen_129 (N : Nat) (x1 : Int32) (k129 : Int32 × Int32 × Int32 → Option (Int32 × bw_M)) (x3 : Int32) (x4 : Int32) (x5 : Int32) (x6 : Int32) (M : bw_M) : Option (Int32 × bw_M) :=
  if (M.1 0 9) ≤ x6 then
  fX5_listen_213 N x1 x4 x5 M
  else
  if x3 ≤ 0 then
  fX5_listen_213 N x1 x4 x5 M
  else
  bw_rd M 16 6 x6 fun v11 =>
  bw_rd M 16 6 x6 fun v12 =>
  if v11 ≤ (x3 - v12) then
  bw_rd M 16 6 x6 fun v13 =>
  fX5_listen_180 N x1 k129 x3 x4 x5 x6 (x3 - v13) M
  else
  bw_rd M 16 6 x6 fun v16 =>
  fX5_listen_180 N x1 k129 x3 x4 x5 x6 v16 M
theorem tX5_listen_129 {p : Program} {l : Launch} {e : Env} {s : State} {m : MethodId} {args : Array Value} {below : List Frame} {meth : Method} {c : Code} {D : va_G} {kT : Nat → ClassId} {ρ : Nat → Nat} (C : bw_Cx p s m args meth c cX5_listen 8 RX5 19 D kT ρ (some .int)) (N : Nat) (x1 : Int32)  (k129 : Int32 × Int32 × Int32 → Option (Int32 × bw_M)) (x3 : Int32) (x4 : Int32) (x5 : Int32) (x6 : Int32) (M : bw_M) (rr : Int32) (zz : bw_M) (hk129 : ∀ z0, k129 z0 = some (rr, zz) → bw_At p l e rmX5_listen s m args below meth c (MQ below (bw_QI bw_shM 19 D kT ρ rr zz) args s 0 0 (bw_A ρ 19)) bw_shM 19 D kT ρ 8 129 [(0, .ref (ρ 0)), (1, .int x1), (3, .int x3), (4, .int z0.1), (5, .int z0.2.1), (6, .int z0.2.2)] [] M) (h : fX5_listen_129 N x1 k129 x3 x4 x5 x6 M = some (rr, zz)) : bw_At p l e rmX5_listen s m args below meth c (MQ below (bw_QI bw_shM 19 D kT ρ rr zz) args s 0 0 (bw_A ρ 19)) bw_shM 19 D kT ρ 8 129 [(0, .ref (ρ 0)), (1, .int x1), (3, .int x3), (4, .int x4), (5, .int x5), (6, .int x6)] [] M := by
  unfold fX5_listen_129 at h
  refine bw_iload (pc := 129) C 5 dX5_listen_129 rfl ?_
  refine bw_aload_n (pc := 131) C 0 dX5_listen_131 rfl rfl ?_
  refine bw_getI (pc := 132) (q := 0) (k0 := 9) C ltM_0 shM_0 rfl inX5 mw_624 (by decide) rfl dX5_listen_132 ?_
  refine bw_icmp_ge (pc := 135) C 213 dX5_listen_135 (by decide) h (fun h => ?_) (fun h => ?_)
  · refine bw_pick [0, 1, 3, 4] rfl ?_
    exact tX5_listen_213 C N x1 x4 x5 M rr zz h
  · refine bw_iload_n (pc := 138) C 2 dX5_listen_138 rfl rfl ?_
    refine bw_if_le (pc := 139) C 213 dX5_listen_139 (by decide) h (fun h => ?_) (fun h => ?_)
    · refine bw_pick [0, 1, 3, 4] rfl ?_
      exact tX5_listen_213 C N x1 x4 x5 M rr zz h
    · refine bw_aload_n (pc := 142) C 0 dX5_listen_142 rfl rfl ?_
      refine bw_getR (pc := 143) (q := 0) (k0 := 28) C ltM_0 shM_0 rfl inX5 mw_643 (by decide) rfl dX5_listen_143 ?_
      refine bw_iload (pc := 146) C 5 dX5_listen_146 rfl ?_
      obtain ⟨qv11, v11, ev11, h⟩ := bw_rd_o h
      refine bw_iald (pc := 148) (q := 16) C ltM_16 shM_16 qv11 ev11 dX5_listen_148 ?_
      refine bw_iload_n (pc := 149) C 2 dX5_listen_149 rfl rfl ?_
      refine bw_aload_n (pc := 150) C 0 dX5_listen_150 rfl rfl ?_
      refine bw_getR (pc := 151) (q := 0) (k0 := 28) C ltM_0 shM_0 rfl inX5 mw_643 (by decide) rfl dX5_listen_151 ?_
      refine bw_iload (pc := 154) C 5 dX5_listen_154 rfl ?_
      obtain ⟨qv12, v12, ev12, h⟩ := bw_rd_o h
      refine bw_iald (pc := 156) (q := 16) C ltM_16 shM_16 qv12 ev12 dX5_listen_156 ?_
      refine bw_isub (pc := 157) C dX5_listen_157 ?_
      refine bw_icmp_le (pc := 158) C 171 dX5_listen_158 (by decide) h (fun h => ?_) (fun h => ?_)
      · refine bw_iload_n (pc := 171) C 2 dX5_listen_171 rfl rfl ?_
        refine bw_aload_n (pc := 172) C 0 dX5_listen_172 rfl rfl ?_
        refine bw_getR (pc := 173) (q := 0) (k0 := 28) C ltM_0 shM_0 rfl inX5 mw_643 (by decide) rfl dX5_listen_173 ?_
        refine bw_iload (pc := 176) C 5 dX5_listen_176 rfl ?_
        obtain ⟨qv13, v13, ev13, h⟩ := bw_rd_o h
        refine bw_iald (pc := 178) (q := 16) C ltM_16 shM_16 qv13 ev13 dX5_listen_178 ?_
        refine bw_isub (pc := 179) C dX5_listen_179 ?_
        refine bw_pick [0, 1, 2, 3, 4, 5] rfl ?_
        exact tX5_listen_180 C N x1 k129 x3 x4 x5 x6 (x3 - v13) M rr zz hk129 h
      · refine bw_aload_n (pc := 161) C 0 dX5_listen_161 rfl rfl ?_
        refine bw_getR (pc := 162) (q := 0) (k0 := 28) C ltM_0 shM_0 rfl inX5 mw_643 (by decide) rfl dX5_listen_162 ?_
        refine bw_iload (pc := 165) C 5 dX5_listen_165 rfl ?_
        obtain ⟨qv16, v16, ev16, h⟩ := bw_rd_o h
        refine bw_iald (pc := 167) (q := 16) C ltM_16 shM_16 qv16 ev16 dX5_listen_167 ?_
        refine bw_goto (pc := 168) C 180 dX5_listen_168 (by decide) ?_
        refine bw_pick [0, 1, 2, 3, 4, 5] rfl ?_
        exact tX5_listen_180 C N x1 k129 x3 x4 x5 x6 v16 M rr zz hk129 h
def flX5_listen_129 (N : Nat) (x1 : Int32)  (x3 : Int32) (M : bw_M) (fu : Nat) (w : Int32 × Int32 × Int32) : Option (Int32 × bw_M) := bw_lp (fun kk w => fX5_listen_129 N x1 kk x3 w.1 w.2.1 w.2.2 M) fu w
theorem tlX5_listen_129 {p : Program} {l : Launch} {e : Env} {s : State} {m : MethodId} {args : Array Value} {below : List Frame} {meth : Method} {c : Code} {D : va_G} {kT : Nat → ClassId} {ρ : Nat → Nat} (C : bw_Cx p s m args meth c cX5_listen 8 RX5 19 D kT ρ (some .int)) (N : Nat) (x1 : Int32)   (x3 : Int32) (M : bw_M) (rr : Int32) (zz : bw_M)  (fu : Nat) (w : Int32 × Int32 × Int32) (h : flX5_listen_129 N x1 x3 M fu w = some (rr, zz)) : bw_At p l e rmX5_listen s m args below meth c (MQ below (bw_QI bw_shM 19 D kT ρ rr zz) args s 0 0 (bw_A ρ 19)) bw_shM 19 D kT ρ 8 129 [(0, .ref (ρ 0)), (1, .int x1), (3, .int x3), (4, .int w.1), (5, .int w.2.1), (6, .int w.2.2)] [] M :=
  bw_loop (r := (rr, zz)) (fun w => bw_At p l e rmX5_listen s m args below meth c (MQ below (bw_QI bw_shM 19 D kT ρ rr zz) args s 0 0 (bw_A ρ 19)) bw_shM 19 D kT ρ 8 129 [(0, .ref (ρ 0)), (1, .int x1), (3, .int x3), (4, .int w.1), (5, .int w.2.1), (6, .int w.2.2)] [] M) (fun kk hk w h => tX5_listen_129 C N x1 kk x3 w.1 w.2.1 w.2.2 M rr zz hk h) fu w h
def fX5_listen_112 (N : Nat) (x1 : Int32) (k43 : Int32 × Int32 × bw_M → Option (Int32 × bw_M)) (x3 : Int32) (x4 : Int32) (M : bw_M) : Option (Int32 × bw_M) :=
  bw_mv (x4 + 1) fun v19 =>
  k43 (x3, v19, M)
theorem tX5_listen_112 {p : Program} {l : Launch} {e : Env} {s : State} {m : MethodId} {args : Array Value} {below : List Frame} {meth : Method} {c : Code} {D : va_G} {kT : Nat → ClassId} {ρ : Nat → Nat} (C : bw_Cx p s m args meth c cX5_listen 8 RX5 19 D kT ρ (some .int)) (N : Nat) (x1 : Int32)  (k43 : Int32 × Int32 × bw_M → Option (Int32 × bw_M)) (x3 : Int32) (x4 : Int32) (M : bw_M) (rr : Int32) (zz : bw_M) (hk43 : ∀ z0, k43 z0 = some (rr, zz) → bw_At p l e rmX5_listen s m args below meth c (MQ below (bw_QI bw_shM 19 D kT ρ rr zz) args s 0 0 (bw_A ρ 19)) bw_shM 19 D kT ρ 8 43 [(0, .ref (ρ 0)), (1, .int x1), (3, .int z0.1), (4, .int z0.2.1)] [] z0.2.2) (h : fX5_listen_112 N x1 k43 x3 x4 M = some (rr, zz)) : bw_At p l e rmX5_listen s m args below meth c (MQ below (bw_QI bw_shM 19 D kT ρ rr zz) args s 0 0 (bw_A ρ 19)) bw_shM 19 D kT ρ 8 112 [(0, .ref (ρ 0)), (1, .int x1), (3, .int x3), (4, .int x4)] [] M := by
  unfold fX5_listen_112 at h
  obtain ⟨v19, ev19, h⟩ := bw_mv_o h
  refine bw_iinc (pc := 112) (x := v19) (L' := [(4, .int v19), (0, .ref (ρ 0)), (1, .int x1), (3, .int x3)]) C 3 dX5_listen_112 rfl ev19.symm (by decide) rfl ?_
  refine bw_goto (pc := 115) C 43 dX5_listen_115 (by decide) ?_
  refine bw_pick [1, 2, 3, 0] rfl ?_
  exact hk43 (x3, v19, M) h
def fX5_listen_80 (N : Nat) (x1 : Int32) (k43 : Int32 × Int32 × bw_M → Option (Int32 × bw_M)) (k80 : Int32 × bw_M → Option (Int32 × bw_M)) (x3 : Int32) (x4 : Int32) (x5 : Int32) (x6 : Int32) (M : bw_M) : Option (Int32 × bw_M) :=
  if (M.1 0 9) ≤ x6 then
  fX5_listen_112 N x1 k43 x3 x4 M
  else
  bw_rd M 16 6 x6 fun v24 =>
  bw_wr M 16 6 x6 (v24 + ((x5 >>> (x6 &&& 31)) &&& (1 : Int32))) fun M25 =>
  bw_mv (x6 + 1) fun v26 =>
  k80 (v26, M25)
theorem tX5_listen_80 {p : Program} {l : Launch} {e : Env} {s : State} {m : MethodId} {args : Array Value} {below : List Frame} {meth : Method} {c : Code} {D : va_G} {kT : Nat → ClassId} {ρ : Nat → Nat} (C : bw_Cx p s m args meth c cX5_listen 8 RX5 19 D kT ρ (some .int)) (N : Nat) (x1 : Int32)  (k43 : Int32 × Int32 × bw_M → Option (Int32 × bw_M)) (k80 : Int32 × bw_M → Option (Int32 × bw_M)) (x3 : Int32) (x4 : Int32) (x5 : Int32) (x6 : Int32) (M : bw_M) (rr : Int32) (zz : bw_M) (hk43 : ∀ z0, k43 z0 = some (rr, zz) → bw_At p l e rmX5_listen s m args below meth c (MQ below (bw_QI bw_shM 19 D kT ρ rr zz) args s 0 0 (bw_A ρ 19)) bw_shM 19 D kT ρ 8 43 [(0, .ref (ρ 0)), (1, .int x1), (3, .int z0.1), (4, .int z0.2.1)] [] z0.2.2) (hk80 : ∀ z0, k80 z0 = some (rr, zz) → bw_At p l e rmX5_listen s m args below meth c (MQ below (bw_QI bw_shM 19 D kT ρ rr zz) args s 0 0 (bw_A ρ 19)) bw_shM 19 D kT ρ 8 80 [(0, .ref (ρ 0)), (1, .int x1), (3, .int x3), (4, .int x4), (5, .int x5), (6, .int z0.1)] [] z0.2) (h : fX5_listen_80 N x1 k43 k80 x3 x4 x5 x6 M = some (rr, zz)) : bw_At p l e rmX5_listen s m args below meth c (MQ below (bw_QI bw_shM 19 D kT ρ rr zz) args s 0 0 (bw_A ρ 19)) bw_shM 19 D kT ρ 8 80 [(0, .ref (ρ 0)), (1, .int x1), (3, .int x3), (4, .int x4), (5, .int x5), (6, .int x6)] [] M := by
  unfold fX5_listen_80 at h
  refine bw_iload (pc := 80) C 5 dX5_listen_80 rfl ?_
  refine bw_aload_n (pc := 82) C 0 dX5_listen_82 rfl rfl ?_
  refine bw_getI (pc := 83) (q := 0) (k0 := 9) C ltM_0 shM_0 rfl inX5 mw_624 (by decide) rfl dX5_listen_83 ?_
  refine bw_icmp_ge (pc := 86) C 112 dX5_listen_86 (by decide) h (fun h => ?_) (fun h => ?_)
  · refine bw_pick [0, 1, 2, 3] rfl ?_
    exact tX5_listen_112 C N x1 k43 x3 x4 M rr zz hk43 h
  · refine bw_aload_n (pc := 89) C 0 dX5_listen_89 rfl rfl ?_
    refine bw_getR (pc := 90) (q := 0) (k0 := 28) C ltM_0 shM_0 rfl inX5 mw_643 (by decide) rfl dX5_listen_90 ?_
    refine bw_iload (pc := 93) C 5 dX5_listen_93 rfl ?_
    refine bw_dup2 (pc := 95) C dX5_listen_95 rfl rfl ?_
    obtain ⟨qv24, v24, ev24, h⟩ := bw_rd_o h
    refine bw_iald (pc := 96) (q := 16) C ltM_16 shM_16 qv24 ev24 dX5_listen_96 ?_
    refine bw_iload (pc := 97) C 4 dX5_listen_97 rfl ?_
    refine bw_iload (pc := 99) C 5 dX5_listen_99 rfl ?_
    refine bw_ishr (pc := 101) C dX5_listen_101 ?_
    refine bw_iconst (pc := 102) (v := (1 : Int32)) C dX5_listen_102 ic_1 ?_
    refine bw_iand (pc := 103) C dX5_listen_103 ?_
    refine bw_iadd (pc := 104) C dX5_listen_104 ?_
    obtain ⟨qM25, M25, eM25, h⟩ := bw_wr_o h
    refine bw_iast (pc := 105) (q := 16) C ltM_16 shM_16 qM25 eM25 dX5_listen_105 ?_
    obtain ⟨v26, ev26, h⟩ := bw_mv_o h
    refine bw_iinc (pc := 106) (x := v26) (L' := [(6, .int v26), (0, .ref (ρ 0)), (1, .int x1), (3, .int x3), (4, .int x4), (5, .int x5)]) C 5 dX5_listen_106 rfl ev26.symm (by decide) rfl ?_
    refine bw_goto (pc := 109) C 80 dX5_listen_109 (by decide) ?_
    refine bw_pick [1, 2, 3, 4, 5, 0] rfl ?_
    exact hk80 (v26, M25) h
def flX5_listen_80 (N : Nat) (x1 : Int32) (k43 : Int32 × Int32 × bw_M → Option (Int32 × bw_M)) (x3 : Int32) (x4 : Int32) (x5 : Int32)  (fu : Nat) (w : Int32 × bw_M) : Option (Int32 × bw_M) := bw_lp (fun kk w => fX5_listen_80 N x1 k43 kk x3 x4 x5 w.1 w.2) fu w
theorem tlX5_listen_80 {p : Program} {l : Launch} {e : Env} {s : State} {m : MethodId} {args : Array Value} {below : List Frame} {meth : Method} {c : Code} {D : va_G} {kT : Nat → ClassId} {ρ : Nat → Nat} (C : bw_Cx p s m args meth c cX5_listen 8 RX5 19 D kT ρ (some .int)) (N : Nat) (x1 : Int32)  (k43 : Int32 × Int32 × bw_M → Option (Int32 × bw_M)) (x3 : Int32) (x4 : Int32) (x5 : Int32)  (rr : Int32) (zz : bw_M) (hk43 : ∀ z0, k43 z0 = some (rr, zz) → bw_At p l e rmX5_listen s m args below meth c (MQ below (bw_QI bw_shM 19 D kT ρ rr zz) args s 0 0 (bw_A ρ 19)) bw_shM 19 D kT ρ 8 43 [(0, .ref (ρ 0)), (1, .int x1), (3, .int z0.1), (4, .int z0.2.1)] [] z0.2.2) (fu : Nat) (w : Int32 × bw_M) (h : flX5_listen_80 N x1 k43 x3 x4 x5 fu w = some (rr, zz)) : bw_At p l e rmX5_listen s m args below meth c (MQ below (bw_QI bw_shM 19 D kT ρ rr zz) args s 0 0 (bw_A ρ 19)) bw_shM 19 D kT ρ 8 80 [(0, .ref (ρ 0)), (1, .int x1), (3, .int x3), (4, .int x4), (5, .int x5), (6, .int w.1)] [] w.2 :=
  bw_loop (r := (rr, zz)) (fun w => bw_At p l e rmX5_listen s m args below meth c (MQ below (bw_QI bw_shM 19 D kT ρ rr zz) args s 0 0 (bw_A ρ 19)) bw_shM 19 D kT ρ 8 80 [(0, .ref (ρ 0)), (1, .int x1), (3, .int x3), (4, .int x4), (5, .int x5), (6, .int w.1)] [] w.2) (fun kk hk w h => tX5_listen_80 C N x1 k43 kk x3 x4 x5 w.1 w.2 rr zz hk43 hk h) fu w h
def fX5_listen_43 (N : Nat) (x1 : Int32) (k43 : Int32 × Int32 × bw_M → Option (Int32 × bw_M)) (x3 : Int32) (x4 : Int32) (M : bw_M) : Option (Int32 × bw_M) :=
  if ((1 : Int32) <<< ((M.1 0 9) &&& 31)) ≤ x4 then
  bw_mv (-9 : Int32) fun v6 =>
  bw_mv (1000000 : Int32) fun v7 =>
  bw_mv (0 : Int32) fun v8 =>
  flX5_listen_129 N x1 x3 M N (v6, v7, v8)
  else
  bw_c2 (fX5_mayLeak N x4 x1 M) fun v17 M18 =>
  if v17 = 0 then
  fX5_listen_112 N x1 k43 x3 x4 M18
  else
  bw_mv (x3 + 1) fun v20 =>
  bw_c2 (fX5_goes N 10 17 M18) fun v21 M22 =>
  bw_mv (0 : Int32) fun v23 =>
  flX5_listen_80 N x1 k43 v20 x4 v21 N (v23, M22)
theorem tX5_listen_43 {p : Program} {l : Launch} {e : Env} {s : State} {m : MethodId} {args : Array Value} {below : List Frame} {meth : Method} {c : Code} {D : va_G} {kT : Nat → ClassId} {ρ : Nat → Nat} (C : bw_Cx p s m args meth c cX5_listen 8 RX5 19 D kT ρ (some .int)) (N : Nat) (x1 : Int32)  (k43 : Int32 × Int32 × bw_M → Option (Int32 × bw_M)) (x3 : Int32) (x4 : Int32) (M : bw_M) (rr : Int32) (zz : bw_M) (hk43 : ∀ z0, k43 z0 = some (rr, zz) → bw_At p l e rmX5_listen s m args below meth c (MQ below (bw_QI bw_shM 19 D kT ρ rr zz) args s 0 0 (bw_A ρ 19)) bw_shM 19 D kT ρ 8 43 [(0, .ref (ρ 0)), (1, .int x1), (3, .int z0.1), (4, .int z0.2.1)] [] z0.2.2) (h : fX5_listen_43 N x1 k43 x3 x4 M = some (rr, zz)) : bw_At p l e rmX5_listen s m args below meth c (MQ below (bw_QI bw_shM 19 D kT ρ rr zz) args s 0 0 (bw_A ρ 19)) bw_shM 19 D kT ρ 8 43 [(0, .ref (ρ 0)), (1, .int x1), (3, .int x3), (4, .int x4)] [] M := by
  unfold fX5_listen_43 at h
  refine bw_iload (pc := 43) C 3 dX5_listen_43 rfl ?_
  refine bw_iconst (pc := 45) (v := (1 : Int32)) C dX5_listen_45 ic_1 ?_
  refine bw_aload_n (pc := 46) C 0 dX5_listen_46 rfl rfl ?_
  refine bw_getI (pc := 47) (q := 0) (k0 := 9) C ltM_0 shM_0 rfl inX5 mw_624 (by decide) rfl dX5_listen_47 ?_
  refine bw_ishl (pc := 50) C dX5_listen_50 ?_
  refine bw_icmp_ge (pc := 51) C 118 dX5_listen_51 (by decide) h (fun h => ?_) (fun h => ?_)
  · refine bw_bipush (pc := 118) (v := (-9 : Int32)) C dX5_listen_118 bi_m9 ?_
    obtain ⟨v6, ev6, h⟩ := bw_mv_o h
    refine bw_nmI ev6 ?_
    refine bw_istore (pc := 120) (L' := [(4, .int v6), (0, .ref (ρ 0)), (1, .int x1), (3, .int x3)]) C dX5_listen_120 (by decide) rfl ?_
    refine bw_ldc (pc := 122) C mw_962 dX5_listen_122 ?_
    obtain ⟨v7, ev7, h⟩ := bw_mv_o h
    refine bw_nmI ev7 ?_
    refine bw_istore (pc := 124) (L' := [(5, .int v7), (4, .int v6), (0, .ref (ρ 0)), (1, .int x1), (3, .int x3)]) C dX5_listen_124 (by decide) rfl ?_
    refine bw_iconst (pc := 126) (v := (0 : Int32)) C dX5_listen_126 ic_0 ?_
    obtain ⟨v8, ev8, h⟩ := bw_mv_o h
    refine bw_nmI ev8 ?_
    refine bw_istore (pc := 127) (L' := [(6, .int v8), (5, .int v7), (4, .int v6), (0, .ref (ρ 0)), (1, .int x1), (3, .int x3)]) C dX5_listen_127 (by decide) rfl ?_
    refine bw_pick [3, 4, 5, 2, 1, 0] rfl ?_
    exact tlX5_listen_129 C N x1 x3 M rr zz N (v6, v7, v8) h
  · refine bw_aload_n (pc := 54) C 0 dX5_listen_54 rfl rfl ?_
    refine bw_iload (pc := 55) C 3 dX5_listen_55 rfl ?_
    refine bw_iload_n (pc := 57) C 1 dX5_listen_57 rfl rfl ?_
    obtain ⟨v17, M18, ev17, h⟩ := bw_c2_o h
    refine bw_cVi (pc := 58) (q := 0) (As := [.int x4, .int x1]) (rest := []) C (tX5_mayLeak l N x4 x1 M v17 M18 ev17) msX5_mayLeak mw_946 rfl rfl ⟨Nat.le_of_ble_eq_true rfl, Nat.le_of_ble_eq_true rfl⟩ ltM_0 shM_0 rfl rfl rfl rfl (Nat.le_of_ble_eq_true rfl) dX5_listen_58 ?_
    refine bw_if_eq (pc := 61) C 112 dX5_listen_61 (by decide) h (fun h => ?_) (fun h => ?_)
    · refine bw_pick [0, 1, 2, 3] rfl ?_
      exact tX5_listen_112 C N x1 k43 x3 x4 M18 rr zz hk43 h
    · obtain ⟨v20, ev20, h⟩ := bw_mv_o h
      refine bw_iinc (pc := 64) (x := v20) (L' := [(3, .int v20), (0, .ref (ρ 0)), (1, .int x1), (4, .int x4)]) C 2 dX5_listen_64 rfl ev20.symm (by decide) rfl ?_
      refine bw_aload_n (pc := 67) C 1 dX5_listen_67 rfl rfl ?_
      refine bw_aload_n (pc := 68) C 1 dX5_listen_68 rfl rfl ?_
      refine bw_getR (pc := 69) (q := 0) (k0 := 14) C ltM_0 shM_0 rfl inX5 mw_629 (by decide) rfl dX5_listen_69 ?_
      obtain ⟨v21, M22, ev21, h⟩ := bw_c2_o h
      refine bw_cVi (pc := 72) (q := 0) (As := [.ref (ρ 10)]) (rest := []) C (tX5_goes l N 10 17 ltM_10 shM_10 M18 v21 M22 ev21) msX5_goes mw_840 rfl rfl ⟨Nat.le_of_ble_eq_true rfl, Nat.le_of_ble_eq_true rfl⟩ ltM_0 shM_0 rfl rfl rfl rfl (Nat.le_of_ble_eq_true rfl) dX5_listen_72 ?_
      refine bw_istore (pc := 75) (L' := [(5, .int v21), (3, .int v20), (0, .ref (ρ 0)), (1, .int x1), (4, .int x4)]) C dX5_listen_75 (by decide) rfl ?_
      refine bw_iconst (pc := 77) (v := (0 : Int32)) C dX5_listen_77 ic_0 ?_
      obtain ⟨v23, ev23, h⟩ := bw_mv_o h
      refine bw_nmI ev23 ?_
      refine bw_istore (pc := 78) (L' := [(6, .int v23), (5, .int v21), (3, .int v20), (0, .ref (ρ 0)), (1, .int x1), (4, .int x4)]) C dX5_listen_78 (by decide) rfl ?_
      refine bw_pick [3, 4, 2, 5, 1, 0] rfl ?_
      exact tlX5_listen_80 C N x1 k43 v20 x4 v21 rr zz hk43 N (v23, M22) h
def flX5_listen_43 (N : Nat) (x1 : Int32)    (fu : Nat) (w : Int32 × Int32 × bw_M) : Option (Int32 × bw_M) := bw_lp (fun kk w => fX5_listen_43 N x1 kk w.1 w.2.1 w.2.2) fu w
theorem tlX5_listen_43 {p : Program} {l : Launch} {e : Env} {s : State} {m : MethodId} {args : Array Value} {below : List Frame} {meth : Method} {c : Code} {D : va_G} {kT : Nat → ClassId} {ρ : Nat → Nat} (C : bw_Cx p s m args meth c cX5_listen 8 RX5 19 D kT ρ (some .int)) (N : Nat) (x1 : Int32)     (rr : Int32) (zz : bw_M)  (fu : Nat) (w : Int32 × Int32 × bw_M) (h : flX5_listen_43 N x1 fu w = some (rr, zz)) : bw_At p l e rmX5_listen s m args below meth c (MQ below (bw_QI bw_shM 19 D kT ρ rr zz) args s 0 0 (bw_A ρ 19)) bw_shM 19 D kT ρ 8 43 [(0, .ref (ρ 0)), (1, .int x1), (3, .int w.1), (4, .int w.2.1)] [] w.2.2 :=
  bw_loop (r := (rr, zz)) (fun w => bw_At p l e rmX5_listen s m args below meth c (MQ below (bw_QI bw_shM 19 D kT ρ rr zz) args s 0 0 (bw_A ρ 19)) bw_shM 19 D kT ρ 8 43 [(0, .ref (ρ 0)), (1, .int x1), (3, .int w.1), (4, .int w.2.1)] [] w.2.2) (fun kk hk w h => tX5_listen_43 C N x1 kk w.1 w.2.1 w.2.2 rr zz hk h) fu w h
def fX5_listen_17 (N : Nat) (x1 : Int32) (k17 : Int32 × bw_M → Option (Int32 × bw_M)) (x3 : Int32) (x4 : Int32) (M : bw_M) : Option (Int32 × bw_M) :=
  if (M.1 0 9) ≤ x4 then
  bw_mv (0 : Int32) fun v5 =>
  flX5_listen_43 N x1 N (x3, v5, M)
  else
  bw_wr M 16 6 x4 (0 : Int32) fun M27 =>
  bw_mv (x4 + 1) fun v28 =>
  k17 (v28, M27)
theorem tX5_listen_17 {p : Program} {l : Launch} {e : Env} {s : State} {m : MethodId} {args : Array Value} {below : List Frame} {meth : Method} {c : Code} {D : va_G} {kT : Nat → ClassId} {ρ : Nat → Nat} (C : bw_Cx p s m args meth c cX5_listen 8 RX5 19 D kT ρ (some .int)) (N : Nat) (x1 : Int32)  (k17 : Int32 × bw_M → Option (Int32 × bw_M)) (x3 : Int32) (x4 : Int32) (M : bw_M) (rr : Int32) (zz : bw_M) (hk17 : ∀ z0, k17 z0 = some (rr, zz) → bw_At p l e rmX5_listen s m args below meth c (MQ below (bw_QI bw_shM 19 D kT ρ rr zz) args s 0 0 (bw_A ρ 19)) bw_shM 19 D kT ρ 8 17 [(0, .ref (ρ 0)), (1, .int x1), (3, .int x3), (4, .int z0.1)] [] z0.2) (h : fX5_listen_17 N x1 k17 x3 x4 M = some (rr, zz)) : bw_At p l e rmX5_listen s m args below meth c (MQ below (bw_QI bw_shM 19 D kT ρ rr zz) args s 0 0 (bw_A ρ 19)) bw_shM 19 D kT ρ 8 17 [(0, .ref (ρ 0)), (1, .int x1), (3, .int x3), (4, .int x4)] [] M := by
  unfold fX5_listen_17 at h
  refine bw_iload (pc := 17) C 3 dX5_listen_17 rfl ?_
  refine bw_aload_n (pc := 19) C 0 dX5_listen_19 rfl rfl ?_
  refine bw_getI (pc := 20) (q := 0) (k0 := 9) C ltM_0 shM_0 rfl inX5 mw_624 (by decide) rfl dX5_listen_20 ?_
  refine bw_icmp_ge (pc := 23) C 40 dX5_listen_23 (by decide) h (fun h => ?_) (fun h => ?_)
  · refine bw_iconst (pc := 40) (v := (0 : Int32)) C dX5_listen_40 ic_0 ?_
    obtain ⟨v5, ev5, h⟩ := bw_mv_o h
    refine bw_nmI ev5 ?_
    refine bw_istore (pc := 41) (L' := [(4, .int v5), (0, .ref (ρ 0)), (1, .int x1), (3, .int x3)]) C dX5_listen_41 (by decide) rfl ?_
    refine bw_pick [1, 2, 3, 0] rfl ?_
    exact tlX5_listen_43 C N x1 rr zz N (x3, v5, M) h
  · refine bw_aload_n (pc := 26) C 0 dX5_listen_26 rfl rfl ?_
    refine bw_getR (pc := 27) (q := 0) (k0 := 28) C ltM_0 shM_0 rfl inX5 mw_643 (by decide) rfl dX5_listen_27 ?_
    refine bw_iload (pc := 30) C 3 dX5_listen_30 rfl ?_
    refine bw_iconst (pc := 32) (v := (0 : Int32)) C dX5_listen_32 ic_0 ?_
    obtain ⟨qM27, M27, eM27, h⟩ := bw_wr_o h
    refine bw_iast (pc := 33) (q := 16) C ltM_16 shM_16 qM27 eM27 dX5_listen_33 ?_
    obtain ⟨v28, ev28, h⟩ := bw_mv_o h
    refine bw_iinc (pc := 34) (x := v28) (L' := [(4, .int v28), (0, .ref (ρ 0)), (1, .int x1), (3, .int x3)]) C 3 dX5_listen_34 rfl ev28.symm (by decide) rfl ?_
    refine bw_goto (pc := 37) C 17 dX5_listen_37 (by decide) ?_
    refine bw_pick [1, 2, 3, 0] rfl ?_
    exact hk17 (v28, M27) h
def flX5_listen_17 (N : Nat) (x1 : Int32)  (x3 : Int32)  (fu : Nat) (w : Int32 × bw_M) : Option (Int32 × bw_M) := bw_lp (fun kk w => fX5_listen_17 N x1 kk x3 w.1 w.2) fu w
theorem tlX5_listen_17 {p : Program} {l : Launch} {e : Env} {s : State} {m : MethodId} {args : Array Value} {below : List Frame} {meth : Method} {c : Code} {D : va_G} {kT : Nat → ClassId} {ρ : Nat → Nat} (C : bw_Cx p s m args meth c cX5_listen 8 RX5 19 D kT ρ (some .int)) (N : Nat) (x1 : Int32)   (x3 : Int32)  (rr : Int32) (zz : bw_M)  (fu : Nat) (w : Int32 × bw_M) (h : flX5_listen_17 N x1 x3 fu w = some (rr, zz)) : bw_At p l e rmX5_listen s m args below meth c (MQ below (bw_QI bw_shM 19 D kT ρ rr zz) args s 0 0 (bw_A ρ 19)) bw_shM 19 D kT ρ 8 17 [(0, .ref (ρ 0)), (1, .int x1), (3, .int x3), (4, .int w.1)] [] w.2 :=
  bw_loop (r := (rr, zz)) (fun w => bw_At p l e rmX5_listen s m args below meth c (MQ below (bw_QI bw_shM 19 D kT ρ rr zz) args s 0 0 (bw_A ρ 19)) bw_shM 19 D kT ρ 8 17 [(0, .ref (ρ 0)), (1, .int x1), (3, .int x3), (4, .int w.1)] [] w.2) (fun kk hk w h => tX5_listen_17 C N x1 kk x3 w.1 w.2 rr zz hk h) fu w h
def fX5_listen (N : Nat) (x1 : Int32) (M : bw_M) : Option (Int32 × bw_M) :=
  bw_c2 (fX5_refusesAll N x1 M) fun v1 M2 =>
  if v1 = 0 then
  bw_mv (0 : Int32) fun v3 =>
  bw_mv (0 : Int32) fun v4 =>
  flX5_listen_17 N x1 v3 N (v4, M2)
  else
  some (v1, M2)
theorem tX5_listen (l : Launch) (N : Nat) (x1 : Int32)  (M : bw_M) (rr : Int32) (zz : bw_M) (h : fX5_listen N x1 M = some (rr, zz)) : bw_CI l bw_shM 19 yX5_listen cX5_listen 8 (some .int) rmX5_listen (fun ρ => [.ref (ρ 0), .int x1]) M rr zz := by
  refine bw_inI (Lf := fun ρ => [(0, .ref (ρ 0)), (1, .int x1)]) cX5_listen 8 (some .int) RX5 pn_X5 rfl (fun ρ => Nat.le_of_ble_eq_true rfl) (fun ρ => rfl) ?_
  intro p e s m args below meth c D kT ρ C
  unfold fX5_listen at h
  refine bw_aload_n (pc := 0) C 0 dX5_listen_0 rfl rfl ?_
  refine bw_iload_n (pc := 1) C 1 dX5_listen_1 rfl rfl ?_
  obtain ⟨v1, M2, ev1, h⟩ := bw_c2_o h
  refine bw_cVi (pc := 2) (q := 0) (As := [.int x1]) (rest := []) C (tX5_refusesAll l N x1 M v1 M2 ev1) msX5_refusesAll mw_937 rfl rfl ⟨Nat.le_of_ble_eq_true rfl, Nat.le_of_ble_eq_true rfl⟩ ltM_0 shM_0 rfl rfl rfl rfl (Nat.le_of_ble_eq_true rfl) dX5_listen_2 ?_
  refine bw_istore_n (pc := 5) (L' := [(2, .int v1), (0, .ref (ρ 0)), (1, .int x1)]) C dX5_listen_5 rfl (by decide) rfl ?_
  refine bw_iload_n (pc := 6) C 0 dX5_listen_6 rfl rfl ?_
  refine bw_if_eq (pc := 7) C 12 dX5_listen_7 (by decide) h (fun h => ?_) (fun h => ?_)
  · refine bw_iconst (pc := 12) (v := (0 : Int32)) C dX5_listen_12 ic_0 ?_
    obtain ⟨v3, ev3, h⟩ := bw_mv_o h
    refine bw_nmI ev3 ?_
    refine bw_istore_n (pc := 13) (L' := [(3, .int v3), (2, .int v1), (0, .ref (ρ 0)), (1, .int x1)]) C dX5_listen_13 rfl (by decide) rfl ?_
    refine bw_iconst (pc := 14) (v := (0 : Int32)) C dX5_listen_14 ic_0 ?_
    obtain ⟨v4, ev4, h⟩ := bw_mv_o h
    refine bw_nmI ev4 ?_
    refine bw_istore (pc := 15) (L' := [(4, .int v4), (3, .int v3), (2, .int v1), (0, .ref (ρ 0)), (1, .int x1)]) C dX5_listen_15 (by decide) rfl ?_
    refine bw_pick [3, 4, 1, 0] rfl ?_
    exact tlX5_listen_17 C N x1 v3 rr zz N (v4, M2) h
  · refine bw_iload_n (pc := 10) C 0 dX5_listen_10 rfl rfl ?_
    exact bw_ireti (pc := 11) C dX5_listen_11 h
/-! X5_lot -/
abbrev rmX5_lot : Room := { frames := 4, cells := 0, slots := 0, locals := 90 }
theorem msX5_lot : bw_MV yX5_lot cX5_lot 4 none RX5 1 := ⟨mw_1021, mw_1122, mw_6, mw_1022, by decide +kernel⟩
def fX5_lot_133 (N : Nat) (x1 : Int32)   (M : bw_M) : Option (bw_M) :=
  some M
theorem tX5_lot_133 {p : Program} {l : Launch} {e : Env} {s : State} {m : MethodId} {args : Array Value} {below : List Frame} {meth : Method} {c : Code} {D : va_G} {kT : Nat → ClassId} {ρ : Nat → Nat} (C : bw_Cx p s m args meth c cX5_lot 4 RX5 19 D kT ρ none) (N : Nat) (x1 : Int32)    (M : bw_M) (zz : bw_M)  (h : fX5_lot_133 N x1 M = some zz) : bw_At p l e rmX5_lot s m args below meth c (MQ below (bw_QV bw_shM 19 D kT ρ zz) args s 0 0 (bw_A ρ 19)) bw_shM 19 D kT ρ 4 133 [(0, .ref (ρ 0)), (1, .int x1)] [] M := by
  unfold fX5_lot_133 at h
  exact bw_vreti (pc := 133) C dX5_lot_133 h
def fX5_lot (N : Nat) (x1 : Int32) (M : bw_M) : Option (bw_M) :=
  bw_ck (decide (¬ (M.1 0 9) = 0)) (
  bw_mv (x1 - x1 / (M.1 0 9) * (M.1 0 9)) fun v2 =>
  bw_cl (fX5_remember N M) fun M3 =>
  bw_mv ((x1 / (8 : Int32)) - (x1 / (8 : Int32)) / (8 : Int32) * (8 : Int32)) fun v4 =>
  if v4 = (4 : Int32) then
  bw_rd M3 9 17 (3 : Int32) fun v6 =>
  bw_wr M3 9 17 (3 : Int32) (v6 ^^^ ((1 : Int32) <<< (v2 &&& 31))) fun M7 =>
  fX5_lot_133 N x1 M7
  else if v4 = (5 : Int32) then
  bw_rd M3 9 17 (4 : Int32) fun v9 =>
  bw_wr M3 9 17 (4 : Int32) (v9 ^^^ ((1 : Int32) <<< (v2 &&& 31))) fun M10 =>
  fX5_lot_133 N x1 M10
  else if v4 = (6 : Int32) then
  bw_wr M3 9 17 (1 : Int32) ((x1 / (64 : Int32)) - (x1 / (64 : Int32)) / (10 : Int32) * (10 : Int32)) fun M12 =>
  fX5_lot_133 N x1 M12
  else if v4 = (7 : Int32) then
  bw_rd M3 9 17 (0 : Int32) fun v14 =>
  bw_cl (fX5_lesser (60 : Int32) ((v14 + (1 : Int32)) + ((x1 / (64 : Int32)) - (x1 / (64 : Int32)) / (9 : Int32) * (9 : Int32)))) fun v15 =>
  bw_wr M3 9 17 (0 : Int32) v15 fun M16 =>
  fX5_lot_133 N x1 M16
  else 
  bw_c2 (fX5_goes N 9 17 M3) fun v17 M18 =>
  fX5_lot_133 N x1 M18)
theorem tX5_lot (l : Launch) (N : Nat) (x1 : Int32)  (M : bw_M) (zz : bw_M) (h : fX5_lot N x1 M = some zz) : bw_CV l bw_shM 19 yX5_lot cX5_lot 4 none rmX5_lot (fun ρ => [.ref (ρ 0), .int x1]) M zz := by
  refine bw_inV (Lf := fun ρ => [(0, .ref (ρ 0)), (1, .int x1)]) cX5_lot 4 none RX5 pn_X5 rfl (fun ρ => Nat.le_of_ble_eq_true rfl) (fun ρ => rfl) ?_
  intro p e s m args below meth c D kT ρ C
  unfold fX5_lot at h
  refine bw_iload_n (pc := 0) C 1 dX5_lot_0 rfl rfl ?_
  refine bw_aload_n (pc := 1) C 0 dX5_lot_1 rfl rfl ?_
  refine bw_getI (pc := 2) (q := 0) (k0 := 9) C ltM_0 shM_0 rfl inX5 mw_624 (by decide) rfl dX5_lot_2 ?_
  obtain ⟨q1, h⟩ := bw_ck_o h
  refine bw_irem (pc := 5) C dX5_lot_5 (of_decide_eq_true q1) ?_
  obtain ⟨v2, ev2, h⟩ := bw_mv_o h
  refine bw_nmI ev2 ?_
  refine bw_istore_n (pc := 6) (L' := [(2, .int v2), (0, .ref (ρ 0)), (1, .int x1)]) C dX5_lot_6 rfl (by decide) rfl ?_
  refine bw_aload_n (pc := 7) C 1 dX5_lot_7 rfl rfl ?_
  obtain ⟨M3, eM3, h⟩ := bw_cl_o h
  refine bw_cVv (pc := 8) (q := 0) (As := []) (rest := []) C (tX5_remember l N M M3 eM3) msX5_remember mw_833 rfl rfl ⟨Nat.le_of_ble_eq_true rfl, Nat.le_of_ble_eq_true rfl⟩ ltM_0 shM_0 rfl rfl rfl rfl (Nat.le_of_ble_eq_true rfl) dX5_lot_8 ?_
  refine bw_iload_n (pc := 11) C 2 dX5_lot_11 rfl rfl ?_
  refine bw_bipush (pc := 12) (v := (8 : Int32)) C dX5_lot_12 bi_8 ?_
  refine bw_idiv (pc := 14) C dX5_lot_14 (by decide) ?_
  refine bw_bipush (pc := 15) (v := (8 : Int32)) C dX5_lot_15 bi_8 ?_
  refine bw_irem (pc := 17) C dX5_lot_17 (by decide) ?_
  obtain ⟨v4, ev4, h⟩ := bw_mv_o h
  refine bw_nmI ev4 ?_
  refine bw_swc (pc := 18) C (4 : Int32) h (fun h => ?_) (fun q5 h => ?_)
  · refine bw_swi (pc := 18) C 48 dX5_lot_18 (by decide) (by decide) rfl (by decide) ?_
    refine bw_aload_n (pc := 48) C 1 dX5_lot_48 rfl rfl ?_
    refine bw_getR (pc := 49) (q := 0) (k0 := 13) C ltM_0 shM_0 rfl inX5 mw_628 (by decide) rfl dX5_lot_49 ?_
    refine bw_iconst (pc := 52) (v := (3 : Int32)) C dX5_lot_52 ic_3 ?_
    refine bw_dup2 (pc := 53) C dX5_lot_53 rfl rfl ?_
    obtain ⟨qv6, v6, ev6, h⟩ := bw_rd_o h
    refine bw_iald (pc := 54) (q := 9) C ltM_9 shM_9 qv6 ev6 dX5_lot_54 ?_
    refine bw_iconst (pc := 55) (v := (1 : Int32)) C dX5_lot_55 ic_1 ?_
    refine bw_iload_n (pc := 56) C 0 dX5_lot_56 rfl rfl ?_
    refine bw_ishl (pc := 57) C dX5_lot_57 ?_
    refine bw_ixor (pc := 58) C dX5_lot_58 ?_
    obtain ⟨qM7, M7, eM7, h⟩ := bw_wr_o h
    refine bw_iast (pc := 59) (q := 9) C ltM_9 shM_9 qM7 eM7 dX5_lot_59 ?_
    refine bw_goto (pc := 60) C 133 dX5_lot_60 (by decide) ?_
    refine bw_pick [1, 2] rfl ?_
    exact tX5_lot_133 C N x1 M7 zz h
  refine bw_swc (pc := 18) C (5 : Int32) h (fun h => ?_) (fun q8 h => ?_)
  · refine bw_swi (pc := 18) C 63 dX5_lot_18 (by decide) (by decide) rfl (by decide) ?_
    refine bw_aload_n (pc := 63) C 1 dX5_lot_63 rfl rfl ?_
    refine bw_getR (pc := 64) (q := 0) (k0 := 13) C ltM_0 shM_0 rfl inX5 mw_628 (by decide) rfl dX5_lot_64 ?_
    refine bw_iconst (pc := 67) (v := (4 : Int32)) C dX5_lot_67 ic_4 ?_
    refine bw_dup2 (pc := 68) C dX5_lot_68 rfl rfl ?_
    obtain ⟨qv9, v9, ev9, h⟩ := bw_rd_o h
    refine bw_iald (pc := 69) (q := 9) C ltM_9 shM_9 qv9 ev9 dX5_lot_69 ?_
    refine bw_iconst (pc := 70) (v := (1 : Int32)) C dX5_lot_70 ic_1 ?_
    refine bw_iload_n (pc := 71) C 0 dX5_lot_71 rfl rfl ?_
    refine bw_ishl (pc := 72) C dX5_lot_72 ?_
    refine bw_ixor (pc := 73) C dX5_lot_73 ?_
    obtain ⟨qM10, M10, eM10, h⟩ := bw_wr_o h
    refine bw_iast (pc := 74) (q := 9) C ltM_9 shM_9 qM10 eM10 dX5_lot_74 ?_
    refine bw_goto (pc := 75) C 133 dX5_lot_75 (by decide) ?_
    refine bw_pick [1, 2] rfl ?_
    exact tX5_lot_133 C N x1 M10 zz h
  refine bw_swc (pc := 18) C (6 : Int32) h (fun h => ?_) (fun q11 h => ?_)
  · refine bw_swi (pc := 18) C 78 dX5_lot_18 (by decide) (by decide) rfl (by decide) ?_
    refine bw_aload_n (pc := 78) C 1 dX5_lot_78 rfl rfl ?_
    refine bw_getR (pc := 79) (q := 0) (k0 := 13) C ltM_0 shM_0 rfl inX5 mw_628 (by decide) rfl dX5_lot_79 ?_
    refine bw_iconst (pc := 82) (v := (1 : Int32)) C dX5_lot_82 ic_1 ?_
    refine bw_iload_n (pc := 83) C 2 dX5_lot_83 rfl rfl ?_
    refine bw_bipush (pc := 84) (v := (64 : Int32)) C dX5_lot_84 bi_64 ?_
    refine bw_idiv (pc := 86) C dX5_lot_86 (by decide) ?_
    refine bw_bipush (pc := 87) (v := (10 : Int32)) C dX5_lot_87 bi_10 ?_
    refine bw_irem (pc := 89) C dX5_lot_89 (by decide) ?_
    obtain ⟨qM12, M12, eM12, h⟩ := bw_wr_o h
    refine bw_iast (pc := 90) (q := 9) C ltM_9 shM_9 qM12 eM12 dX5_lot_90 ?_
    refine bw_goto (pc := 91) C 133 dX5_lot_91 (by decide) ?_
    refine bw_pick [1, 2] rfl ?_
    exact tX5_lot_133 C N x1 M12 zz h
  refine bw_swc (pc := 18) C (7 : Int32) h (fun h => ?_) (fun q13 h => ?_)
  · refine bw_swi (pc := 18) C 94 dX5_lot_18 (by decide) (by decide) rfl (by decide) ?_
    refine bw_aload_n (pc := 94) C 1 dX5_lot_94 rfl rfl ?_
    refine bw_getR (pc := 95) (q := 0) (k0 := 13) C ltM_0 shM_0 rfl inX5 mw_628 (by decide) rfl dX5_lot_95 ?_
    refine bw_iconst (pc := 98) (v := (0 : Int32)) C dX5_lot_98 ic_0 ?_
    refine bw_bipush (pc := 99) (v := (60 : Int32)) C dX5_lot_99 bi_60 ?_
    refine bw_aload_n (pc := 101) C 1 dX5_lot_101 rfl rfl ?_
    refine bw_getR (pc := 102) (q := 0) (k0 := 13) C ltM_0 shM_0 rfl inX5 mw_628 (by decide) rfl dX5_lot_102 ?_
    refine bw_iconst (pc := 105) (v := (0 : Int32)) C dX5_lot_105 ic_0 ?_
    obtain ⟨qv14, v14, ev14, h⟩ := bw_rd_o h
    refine bw_iald (pc := 106) (q := 9) C ltM_9 shM_9 qv14 ev14 dX5_lot_106 ?_
    refine bw_iconst (pc := 107) (v := (1 : Int32)) C dX5_lot_107 ic_1 ?_
    refine bw_iadd (pc := 108) C dX5_lot_108 ?_
    refine bw_iload_n (pc := 109) C 2 dX5_lot_109 rfl rfl ?_
    refine bw_bipush (pc := 110) (v := (64 : Int32)) C dX5_lot_110 bi_64 ?_
    refine bw_idiv (pc := 112) C dX5_lot_112 (by decide) ?_
    refine bw_bipush (pc := 113) (v := (9 : Int32)) C dX5_lot_113 bi_9 ?_
    refine bw_irem (pc := 115) C dX5_lot_115 (by decide) ?_
    refine bw_iadd (pc := 116) C dX5_lot_116 ?_
    obtain ⟨v15, ev15, h⟩ := bw_cl_o h
    refine bw_cSi (pc := 117) (As := [.int (60 : Int32), .int ((v14 + (1 : Int32)) + ((x1 / (64 : Int32)) - (x1 / (64 : Int32)) / (9 : Int32) * (9 : Int32)))]) (rest := [.int (0 : Int32), .ref (ρ 9)]) C (tX5_lesser l (60 : Int32) ((v14 + (1 : Int32)) + ((x1 / (64 : Int32)) - (x1 / (64 : Int32)) / (9 : Int32) * (9 : Int32))) M3 v15 ev15) msX5_lesser mw_844 rfl rfl ⟨Nat.le_of_ble_eq_true rfl, Nat.le_of_ble_eq_true rfl⟩ rfl rfl rfl (Nat.le_of_ble_eq_true rfl) dX5_lot_117 ?_
    obtain ⟨qM16, M16, eM16, h⟩ := bw_wr_o h
    refine bw_iast (pc := 120) (q := 9) C ltM_9 shM_9 qM16 eM16 dX5_lot_120 ?_
    refine bw_goto (pc := 121) C 133 dX5_lot_121 (by decide) ?_
    refine bw_pick [1, 2] rfl ?_
    exact tX5_lot_133 C N x1 M16 zz h
  have ho : (v4).toInt < 4 ∨ 7 < (v4).toInt := bw_sw_out 4 (by decide) (by decide) (by decide) (fun j hj => by
    match j, hj with
    | 0, _ => exact q5
    | 1, _ => exact q8
    | 2, _ => exact q11
    | 3, _ => exact q13
    | j + 4, hj => exact absurd hj (by omega))
  refine bw_swo (pc := 18) C 124 dX5_lot_18 ho (by decide) ?_
  refine bw_aload_n (pc := 124) C 1 dX5_lot_124 rfl rfl ?_
  refine bw_aload_n (pc := 125) C 1 dX5_lot_125 rfl rfl ?_
  refine bw_getR (pc := 126) (q := 0) (k0 := 13) C ltM_0 shM_0 rfl inX5 mw_628 (by decide) rfl dX5_lot_126 ?_
  obtain ⟨v17, M18, ev17, h⟩ := bw_c2_o h
  refine bw_cVi (pc := 129) (q := 0) (As := [.ref (ρ 9)]) (rest := []) C (tX5_goes l N 9 17 ltM_9 shM_9 M3 v17 M18 ev17) msX5_goes mw_840 rfl rfl ⟨Nat.le_of_ble_eq_true rfl, Nat.le_of_ble_eq_true rfl⟩ ltM_0 shM_0 rfl rfl rfl rfl (Nat.le_of_ble_eq_true rfl) dX5_lot_129 ?_
  refine bw_istore_n (pc := 132) (L' := [(3, .int v17), (2, .int v2), (0, .ref (ρ 0)), (1, .int x1)]) C dX5_lot_132 rfl (by decide) rfl ?_
  refine bw_pick [2, 3] rfl ?_
  exact tX5_lot_133 C N x1 M18 zz h
/-! X5_lots -/
abbrev rmX5_lots : Room := { frames := 5, cells := 0, slots := 0, locals := 113 }
theorem msX5_lots : bw_MV yX5_lots cX5_lots 7 (some .int) RX5 2 := ⟨mw_1013, mw_1014, mw_6, mw_1015, by decide +kernel⟩
def fX5_lots_24 (N : Nat) (x1 : Int32) (x2 : Int32)   (M : bw_M) : Option (Int32 × bw_M) :=
  some ((-1 : Int32), M)
theorem tX5_lots_24 {p : Program} {l : Launch} {e : Env} {s : State} {m : MethodId} {args : Array Value} {below : List Frame} {meth : Method} {c : Code} {D : va_G} {kT : Nat → ClassId} {ρ : Nat → Nat} (C : bw_Cx p s m args meth c cX5_lots 7 RX5 19 D kT ρ (some .int)) (N : Nat) (x1 : Int32) (x2 : Int32)    (M : bw_M) (rr : Int32) (zz : bw_M)  (h : fX5_lots_24 N x1 x2 M = some (rr, zz)) : bw_At p l e rmX5_lots s m args below meth c (MQ below (bw_QI bw_shM 19 D kT ρ rr zz) args s 0 0 (bw_A ρ 19)) bw_shM 19 D kT ρ 7 24 [(0, .ref (ρ 0)), (1, .int x1), (2, .int x2)] [] M := by
  unfold fX5_lots_24 at h
  refine bw_iconst (pc := 24) (v := (-1 : Int32)) C dX5_lots_24 ic_m1 ?_
  exact bw_ireti (pc := 25) C dX5_lots_25 h
def fX5_lots_45 (N : Nat) (x1 : Int32) (x2 : Int32) (k45 : Int64 × Int32 × bw_M → Option (Int32 × bw_M)) (x4 : Int64) (x6 : Int32) (M : bw_M) : Option (Int32 × bw_M) :=
  if x1 ≤ x6 then
  bw_rd M 9 17 (0 : Int32) fun v6 =>
  some (v6, M)
  else
  bw_mv ((x4 * (48271 : Int64)) - (x4 * (48271 : Int64)) / (2147483647 : Int64) * (2147483647 : Int64)) fun v7 =>
  bw_cl (fX5_lot N (Int64.toInt32 v7) M) fun M8 =>
  bw_mv (x6 + 1) fun v9 =>
  k45 (v7, v9, M8)
theorem tX5_lots_45 {p : Program} {l : Launch} {e : Env} {s : State} {m : MethodId} {args : Array Value} {below : List Frame} {meth : Method} {c : Code} {D : va_G} {kT : Nat → ClassId} {ρ : Nat → Nat} (C : bw_Cx p s m args meth c cX5_lots 7 RX5 19 D kT ρ (some .int)) (N : Nat) (x1 : Int32) (x2 : Int32)  (k45 : Int64 × Int32 × bw_M → Option (Int32 × bw_M)) (x4 : Int64) (x6 : Int32) (M : bw_M) (rr : Int32) (zz : bw_M) (hk45 : ∀ z0, k45 z0 = some (rr, zz) → bw_At p l e rmX5_lots s m args below meth c (MQ below (bw_QI bw_shM 19 D kT ρ rr zz) args s 0 0 (bw_A ρ 19)) bw_shM 19 D kT ρ 7 45 [(0, .ref (ρ 0)), (1, .int x1), (2, .int x2), (4, .long z0.1), (6, .int z0.2.1)] [] z0.2.2) (h : fX5_lots_45 N x1 x2 k45 x4 x6 M = some (rr, zz)) : bw_At p l e rmX5_lots s m args below meth c (MQ below (bw_QI bw_shM 19 D kT ρ rr zz) args s 0 0 (bw_A ρ 19)) bw_shM 19 D kT ρ 7 45 [(0, .ref (ρ 0)), (1, .int x1), (2, .int x2), (4, .long x4), (6, .int x6)] [] M := by
  unfold fX5_lots_45 at h
  refine bw_iload (pc := 45) C 4 dX5_lots_45 rfl ?_
  refine bw_iload_n (pc := 47) C 1 dX5_lots_47 rfl rfl ?_
  refine bw_icmp_ge (pc := 48) C 76 dX5_lots_48 (by decide) h (fun h => ?_) (fun h => ?_)
  · refine bw_aload_n (pc := 76) C 0 dX5_lots_76 rfl rfl ?_
    refine bw_getR (pc := 77) (q := 0) (k0 := 13) C ltM_0 shM_0 rfl inX5 mw_628 (by decide) rfl dX5_lots_77 ?_
    refine bw_iconst (pc := 80) (v := (0 : Int32)) C dX5_lots_80 ic_0 ?_
    obtain ⟨qv6, v6, ev6, h⟩ := bw_rd_o h
    refine bw_iald (pc := 81) (q := 9) C ltM_9 shM_9 qv6 ev6 dX5_lots_81 ?_
    exact bw_ireti (pc := 82) C dX5_lots_82 h
  · refine bw_lload (pc := 51) C 3 dX5_lots_51 rfl ?_
    refine bw_ldc2_w (pc := 53) C mw_1017 dX5_lots_53 ?_
    refine bw_lmul (pc := 56) C dX5_lots_56 ?_
    refine bw_ldc2_w (pc := 57) C mw_1018 dX5_lots_57 ?_
    refine bw_lrem (pc := 60) C dX5_lots_60 (by decide) ?_
    obtain ⟨v7, ev7, h⟩ := bw_mv_o h
    refine bw_nmL ev7 ?_
    refine bw_lstore (pc := 61) (L' := [(4, .long v7), (0, .ref (ρ 0)), (1, .int x1), (2, .int x2), (6, .int x6)]) C dX5_lots_61 (by decide) rfl ?_
    refine bw_aload_n (pc := 63) C 1 dX5_lots_63 rfl rfl ?_
    refine bw_lload (pc := 64) C 0 dX5_lots_64 rfl ?_
    refine bw_l2i (pc := 66) C dX5_lots_66 ?_
    obtain ⟨M8, eM8, h⟩ := bw_cl_o h
    refine bw_cVv (pc := 67) (q := 0) (As := [.int (Int64.toInt32 v7)]) (rest := []) C (tX5_lot l N (Int64.toInt32 v7) M M8 eM8) msX5_lot mw_1019 rfl rfl ⟨Nat.le_of_ble_eq_true rfl, Nat.le_of_ble_eq_true rfl⟩ ltM_0 shM_0 rfl rfl rfl rfl (Nat.le_of_ble_eq_true rfl) dX5_lots_67 ?_
    obtain ⟨v9, ev9, h⟩ := bw_mv_o h
    refine bw_iinc (pc := 70) (x := v9) (L' := [(6, .int v9), (4, .long v7), (0, .ref (ρ 0)), (1, .int x1), (2, .int x2)]) C 4 dX5_lots_70 rfl ev9.symm (by decide) rfl ?_
    refine bw_goto (pc := 73) C 45 dX5_lots_73 (by decide) ?_
    refine bw_pick [2, 3, 4, 1, 0] rfl ?_
    exact hk45 (v7, v9, M8) h
def flX5_lots_45 (N : Nat) (x1 : Int32) (x2 : Int32)    (fu : Nat) (w : Int64 × Int32 × bw_M) : Option (Int32 × bw_M) := bw_lp (fun kk w => fX5_lots_45 N x1 x2 kk w.1 w.2.1 w.2.2) fu w
theorem tlX5_lots_45 {p : Program} {l : Launch} {e : Env} {s : State} {m : MethodId} {args : Array Value} {below : List Frame} {meth : Method} {c : Code} {D : va_G} {kT : Nat → ClassId} {ρ : Nat → Nat} (C : bw_Cx p s m args meth c cX5_lots 7 RX5 19 D kT ρ (some .int)) (N : Nat) (x1 : Int32) (x2 : Int32)     (rr : Int32) (zz : bw_M)  (fu : Nat) (w : Int64 × Int32 × bw_M) (h : flX5_lots_45 N x1 x2 fu w = some (rr, zz)) : bw_At p l e rmX5_lots s m args below meth c (MQ below (bw_QI bw_shM 19 D kT ρ rr zz) args s 0 0 (bw_A ρ 19)) bw_shM 19 D kT ρ 7 45 [(0, .ref (ρ 0)), (1, .int x1), (2, .int x2), (4, .long w.1), (6, .int w.2.1)] [] w.2.2 :=
  bw_loop (r := (rr, zz)) (fun w => bw_At p l e rmX5_lots s m args below meth c (MQ below (bw_QI bw_shM 19 D kT ρ rr zz) args s 0 0 (bw_A ρ 19)) bw_shM 19 D kT ρ 7 45 [(0, .ref (ρ 0)), (1, .int x1), (2, .int x2), (4, .long w.1), (6, .int w.2.1)] [] w.2.2) (fun kk hk w h => tX5_lots_45 C N x1 x2 kk w.1 w.2.1 w.2.2 rr zz hk h) fu w h
def fX5_lots (N : Nat) (x1 : Int32) (x2 : Int32) (M : bw_M) : Option (Int32 × bw_M) :=
  bw_cl (fX5_in (Int32.toInt64 x1) (1 : Int64) (20 : Int64)) fun v1 =>
  if v1 = 0 then
  fX5_lots_24 N x1 x2 M
  else
  bw_cl (fX5_in (Int32.toInt64 x2) (1 : Int64) (2147483646 : Int64)) fun v2 =>
  if v2 = 0 then
  fX5_lots_24 N x1 x2 M
  else
  bw_cl (fX5_refuses x1 M) fun v3 =>
  if v3 = 0 then
  bw_mv (Int32.toInt64 x2) fun v4 =>
  bw_mv (0 : Int32) fun v5 =>
  flX5_lots_45 N x1 x2 N (v4, v5, M)
  else
  some (v3, M)
theorem tX5_lots (l : Launch) (N : Nat) (x1 : Int32) (x2 : Int32)  (M : bw_M) (rr : Int32) (zz : bw_M) (h : fX5_lots N x1 x2 M = some (rr, zz)) : bw_CI l bw_shM 19 yX5_lots cX5_lots 7 (some .int) rmX5_lots (fun ρ => [.ref (ρ 0), .int x1, .int x2]) M rr zz := by
  refine bw_inI (Lf := fun ρ => [(0, .ref (ρ 0)), (1, .int x1), (2, .int x2)]) cX5_lots 7 (some .int) RX5 pn_X5 rfl (fun ρ => Nat.le_of_ble_eq_true rfl) (fun ρ => rfl) ?_
  intro p e s m args below meth c D kT ρ C
  unfold fX5_lots at h
  refine bw_iload_n (pc := 0) C 1 dX5_lots_0 rfl rfl ?_
  refine bw_i2l (pc := 1) C dX5_lots_1 ?_
  refine bw_lconst (pc := 2) (v := (1 : Int64)) C dX5_lots_2 rfl ?_
  refine bw_ldc2_w (pc := 3) C mw_932 dX5_lots_3 ?_
  obtain ⟨v1, ev1, h⟩ := bw_cl_o h
  refine bw_cSi (pc := 6) (As := [.long (Int32.toInt64 x1), .long (1 : Int64), .long (20 : Int64)]) (rest := []) C (tX5_in l (Int32.toInt64 x1) (1 : Int64) (20 : Int64) M v1 ev1) msX5_in mw_717 rfl rfl ⟨Nat.le_of_ble_eq_true rfl, Nat.le_of_ble_eq_true rfl⟩ rfl rfl rfl (Nat.le_of_ble_eq_true rfl) dX5_lots_6 ?_
  refine bw_if_eq (pc := 9) C 24 dX5_lots_9 (by decide) h (fun h => ?_) (fun h => ?_)
  · refine bw_pick [0, 1, 2] rfl ?_
    exact tX5_lots_24 C N x1 x2 M rr zz h
  · refine bw_iload_n (pc := 12) C 2 dX5_lots_12 rfl rfl ?_
    refine bw_i2l (pc := 13) C dX5_lots_13 ?_
    refine bw_lconst (pc := 14) (v := (1 : Int64)) C dX5_lots_14 rfl ?_
    refine bw_ldc2_w (pc := 15) C mw_1016 dX5_lots_15 ?_
    obtain ⟨v2, ev2, h⟩ := bw_cl_o h
    refine bw_cSi (pc := 18) (As := [.long (Int32.toInt64 x2), .long (1 : Int64), .long (2147483646 : Int64)]) (rest := []) C (tX5_in l (Int32.toInt64 x2) (1 : Int64) (2147483646 : Int64) M v2 ev2) msX5_in mw_717 rfl rfl ⟨Nat.le_of_ble_eq_true rfl, Nat.le_of_ble_eq_true rfl⟩ rfl rfl rfl (Nat.le_of_ble_eq_true rfl) dX5_lots_18 ?_
    refine bw_if_ne (pc := 21) C 26 dX5_lots_21 (by decide) h (fun h => ?_) (fun h => ?_)
    · refine bw_aload_n (pc := 26) C 0 dX5_lots_26 rfl rfl ?_
      refine bw_iload_n (pc := 27) C 1 dX5_lots_27 rfl rfl ?_
      obtain ⟨v3, ev3, h⟩ := bw_cl_o h
      refine bw_cVi (pc := 28) (q := 0) (As := [.int x1]) (rest := []) C (tX5_refuses l x1 M v3 ev3) msX5_refuses mw_829 rfl rfl ⟨Nat.le_of_ble_eq_true rfl, Nat.le_of_ble_eq_true rfl⟩ ltM_0 shM_0 rfl rfl rfl rfl (Nat.le_of_ble_eq_true rfl) dX5_lots_28 ?_
      refine bw_istore_n (pc := 31) (L' := [(3, .int v3), (0, .ref (ρ 0)), (1, .int x1), (2, .int x2)]) C dX5_lots_31 rfl (by decide) rfl ?_
      refine bw_iload_n (pc := 32) C 0 dX5_lots_32 rfl rfl ?_
      refine bw_if_eq (pc := 33) C 38 dX5_lots_33 (by decide) h (fun h => ?_) (fun h => ?_)
      · refine bw_iload_n (pc := 38) C 3 dX5_lots_38 rfl rfl ?_
        refine bw_i2l (pc := 39) C dX5_lots_39 ?_
        obtain ⟨v4, ev4, h⟩ := bw_mv_o h
        refine bw_nmL ev4 ?_
        refine bw_lstore (pc := 40) (L' := [(4, .long v4), (3, .int v3), (0, .ref (ρ 0)), (1, .int x1), (2, .int x2)]) C dX5_lots_40 (by decide) rfl ?_
        refine bw_iconst (pc := 42) (v := (0 : Int32)) C dX5_lots_42 ic_0 ?_
        obtain ⟨v5, ev5, h⟩ := bw_mv_o h
        refine bw_nmI ev5 ?_
        refine bw_istore (pc := 43) (L' := [(6, .int v5), (4, .long v4), (3, .int v3), (0, .ref (ρ 0)), (1, .int x1), (2, .int x2)]) C dX5_lots_43 (by decide) rfl ?_
        refine bw_pick [3, 4, 5, 1, 0] rfl ?_
        exact tlX5_lots_45 C N x1 x2 rr zz N (v4, v5, M) h
      · refine bw_iload_n (pc := 36) C 0 dX5_lots_36 rfl rfl ?_
        exact bw_ireti (pc := 37) C dX5_lots_37 h
    · refine bw_pick [0, 1, 2] rfl ?_
      exact tX5_lots_24 C N x1 x2 M rr zz h
/-! X5_lower -/
abbrev rmX5_lower : Room := { frames := 0, cells := 0, slots := 0, locals := 0 }
theorem msX5_lower : bw_MV yX5_lower cX5_lower 1 (some .long) RX5 0 := ⟨mw_1032, mw_1033, mw_6, mw_1034, by decide +kernel⟩
def fX5_lower  (M : bw_M) : Option (Int64) :=
  some (M.2.1 6)
theorem tX5_lower (l : Launch)   (M : bw_M) (rr : Int64) (h : fX5_lower M = some rr) : bw_CL l bw_shM 19 yX5_lower cX5_lower 1 (some .long) rmX5_lower (fun ρ => [.ref (ρ 0)]) M rr M := by
  refine bw_inL (Lf := fun ρ => [(0, .ref (ρ 0))]) cX5_lower 1 (some .long) RX5 pn_X5 rfl (fun ρ => Nat.le_of_ble_eq_true rfl) (fun ρ => rfl) ?_
  intro p e s m args below meth c D kT ρ C
  unfold fX5_lower at h
  refine bw_aload_n (pc := 0) C 0 dX5_lower_0 rfl rfl ?_
  refine bw_getL (pc := 1) (q := 0) (k0 := 6) C ltM_0 shM_0 rfl inX5 mw_621 (by decide) rfl dX5_lower_1 ?_
  exact bw_lreti (pc := 4) C dX5_lower_4 (bw_pr M h)
/-! X5_mark -/
abbrev rmX5_mark : Room := { frames := 2, cells := 0, slots := 0, locals := 46 }
theorem msX5_mark : bw_MV yX5_mark cX5_mark 5 (some .int) RX5 2 := ⟨mw_819, mw_820, mw_6, mw_821, by decide +kernel⟩
def fX5_mark_20 (N : Nat) (x1 : Int32) (x2 : Int32)   (M : bw_M) : Option (Int32 × bw_M) :=
  some ((-1 : Int32), M)
theorem tX5_mark_20 {p : Program} {l : Launch} {e : Env} {s : State} {m : MethodId} {args : Array Value} {below : List Frame} {meth : Method} {c : Code} {D : va_G} {kT : Nat → ClassId} {ρ : Nat → Nat} (C : bw_Cx p s m args meth c cX5_mark 5 RX5 19 D kT ρ (some .int)) (N : Nat) (x1 : Int32) (x2 : Int32)    (M : bw_M) (rr : Int32) (zz : bw_M)  (h : fX5_mark_20 N x1 x2 M = some (rr, zz)) : bw_At p l e rmX5_mark s m args below meth c (MQ below (bw_QI bw_shM 19 D kT ρ rr zz) args s 0 0 (bw_A ρ 19)) bw_shM 19 D kT ρ 5 20 [(0, .ref (ρ 0)), (1, .int x1), (2, .int x2)] [] M := by
  unfold fX5_mark_20 at h
  refine bw_iconst (pc := 20) (v := (-1 : Int32)) C dX5_mark_20 ic_m1 ?_
  exact bw_ireti (pc := 21) C dX5_mark_21 h
def fX5_mark_116 (N : Nat) (x1 : Int32) (x2 : Int32)  (s0 : Int32) (M : bw_M) : Option (Int32 × bw_M) :=
  some (s0, M)
theorem tX5_mark_116 {p : Program} {l : Launch} {e : Env} {s : State} {m : MethodId} {args : Array Value} {below : List Frame} {meth : Method} {c : Code} {D : va_G} {kT : Nat → ClassId} {ρ : Nat → Nat} (C : bw_Cx p s m args meth c cX5_mark 5 RX5 19 D kT ρ (some .int)) (N : Nat) (x1 : Int32) (x2 : Int32)   (s0 : Int32) (M : bw_M) (rr : Int32) (zz : bw_M)  (h : fX5_mark_116 N x1 x2 s0 M = some (rr, zz)) : bw_At p l e rmX5_mark s m args below meth c (MQ below (bw_QI bw_shM 19 D kT ρ rr zz) args s 0 0 (bw_A ρ 19)) bw_shM 19 D kT ρ 5 116 [(0, .ref (ρ 0)), (1, .int x1), (2, .int x2)] [.int s0] M := by
  unfold fX5_mark_116 at h
  exact bw_ireti (pc := 116) C dX5_mark_116 h
def fX5_mark_188 (N : Nat) (x1 : Int32) (x2 : Int32) (k151 : Int32 × Int32 → Option (Int32 × bw_M)) (x4 : Int32) (s0 : Int32) (s1 : Int32) (M : bw_M) : Option (Int32 × bw_M) :=
  bw_mv (s0 + s1) fun v21 =>
  bw_mv (x4 + 1) fun v22 =>
  k151 (v21, v22)
theorem tX5_mark_188 {p : Program} {l : Launch} {e : Env} {s : State} {m : MethodId} {args : Array Value} {below : List Frame} {meth : Method} {c : Code} {D : va_G} {kT : Nat → ClassId} {ρ : Nat → Nat} (C : bw_Cx p s m args meth c cX5_mark 5 RX5 19 D kT ρ (some .int)) (N : Nat) (x1 : Int32) (x2 : Int32)  (k151 : Int32 × Int32 → Option (Int32 × bw_M)) (x4 : Int32) (s0 : Int32) (s1 : Int32) (M : bw_M) (rr : Int32) (zz : bw_M) (hk151 : ∀ z0, k151 z0 = some (rr, zz) → bw_At p l e rmX5_mark s m args below meth c (MQ below (bw_QI bw_shM 19 D kT ρ rr zz) args s 0 0 (bw_A ρ 19)) bw_shM 19 D kT ρ 5 151 [(0, .ref (ρ 0)), (1, .int x1), (2, .int x2), (3, .int z0.1), (4, .int z0.2)] [] M) (h : fX5_mark_188 N x1 x2 k151 x4 s0 s1 M = some (rr, zz)) : bw_At p l e rmX5_mark s m args below meth c (MQ below (bw_QI bw_shM 19 D kT ρ rr zz) args s 0 0 (bw_A ρ 19)) bw_shM 19 D kT ρ 5 188 [(0, .ref (ρ 0)), (1, .int x1), (2, .int x2), (4, .int x4)] [.int s1, .int s0] M := by
  unfold fX5_mark_188 at h
  refine bw_iadd (pc := 188) C dX5_mark_188 ?_
  obtain ⟨v21, ev21, h⟩ := bw_mv_o h
  refine bw_nmI ev21 ?_
  refine bw_istore_n (pc := 189) (L' := [(3, .int v21), (0, .ref (ρ 0)), (1, .int x1), (2, .int x2), (4, .int x4)]) C dX5_mark_189 rfl (by decide) rfl ?_
  obtain ⟨v22, ev22, h⟩ := bw_mv_o h
  refine bw_iinc (pc := 190) (x := v22) (L' := [(4, .int v22), (3, .int v21), (0, .ref (ρ 0)), (1, .int x1), (2, .int x2)]) C 4 dX5_mark_190 rfl ev22.symm (by decide) rfl ?_
  refine bw_goto (pc := 193) C 151 dX5_mark_193 (by decide) ?_
  refine bw_pick [2, 3, 4, 1, 0] rfl ?_
  exact hk151 (v21, v22) h
def fX5_mark_151 (N : Nat) (x1 : Int32) (x2 : Int32) (k151 : Int32 × Int32 → Option (Int32 × bw_M)) (x3 : Int32) (x4 : Int32) (M : bw_M) : Option (Int32 × bw_M) :=
  if (M.1 0 9) ≤ x4 then
  some (x3, M)
  else
  bw_cl (fX5_wantsOn 9 17 x4 M) fun v19 =>
  bw_cl (fX5_wantsOn 9 17 x1 M) fun v20 =>
  if v20 < v19 then
  fX5_mark_188 N x1 x2 k151 x4 x3 (0 : Int32) M
  else
  fX5_mark_188 N x1 x2 k151 x4 x3 (1 : Int32) M
theorem tX5_mark_151 {p : Program} {l : Launch} {e : Env} {s : State} {m : MethodId} {args : Array Value} {below : List Frame} {meth : Method} {c : Code} {D : va_G} {kT : Nat → ClassId} {ρ : Nat → Nat} (C : bw_Cx p s m args meth c cX5_mark 5 RX5 19 D kT ρ (some .int)) (N : Nat) (x1 : Int32) (x2 : Int32)  (k151 : Int32 × Int32 → Option (Int32 × bw_M)) (x3 : Int32) (x4 : Int32) (M : bw_M) (rr : Int32) (zz : bw_M) (hk151 : ∀ z0, k151 z0 = some (rr, zz) → bw_At p l e rmX5_mark s m args below meth c (MQ below (bw_QI bw_shM 19 D kT ρ rr zz) args s 0 0 (bw_A ρ 19)) bw_shM 19 D kT ρ 5 151 [(0, .ref (ρ 0)), (1, .int x1), (2, .int x2), (3, .int z0.1), (4, .int z0.2)] [] M) (h : fX5_mark_151 N x1 x2 k151 x3 x4 M = some (rr, zz)) : bw_At p l e rmX5_mark s m args below meth c (MQ below (bw_QI bw_shM 19 D kT ρ rr zz) args s 0 0 (bw_A ρ 19)) bw_shM 19 D kT ρ 5 151 [(0, .ref (ρ 0)), (1, .int x1), (2, .int x2), (3, .int x3), (4, .int x4)] [] M := by
  unfold fX5_mark_151 at h
  refine bw_iload (pc := 151) C 4 dX5_mark_151 rfl ?_
  refine bw_aload_n (pc := 153) C 0 dX5_mark_153 rfl rfl ?_
  refine bw_getI (pc := 154) (q := 0) (k0 := 9) C ltM_0 shM_0 rfl inX5 mw_624 (by decide) rfl dX5_mark_154 ?_
  refine bw_icmp_ge (pc := 157) C 196 dX5_mark_157 (by decide) h (fun h => ?_) (fun h => ?_)
  · refine bw_iload_n (pc := 196) C 3 dX5_mark_196 rfl rfl ?_
    exact bw_ireti (pc := 197) C dX5_mark_197 h
  · refine bw_iload_n (pc := 160) C 3 dX5_mark_160 rfl rfl ?_
    refine bw_aload_n (pc := 161) C 0 dX5_mark_161 rfl rfl ?_
    refine bw_aload_n (pc := 162) C 0 dX5_mark_162 rfl rfl ?_
    refine bw_getR (pc := 163) (q := 0) (k0 := 13) C ltM_0 shM_0 rfl inX5 mw_628 (by decide) rfl dX5_mark_163 ?_
    refine bw_iload (pc := 166) C 4 dX5_mark_166 rfl ?_
    obtain ⟨v19, ev19, h⟩ := bw_cl_o h
    refine bw_cVi (pc := 168) (q := 0) (As := [.ref (ρ 9), .int x4]) (rest := [.int x3]) C (tX5_wantsOn l 9 17 x4 ltM_9 shM_9 M v19 ev19) msX5_wantsOn mw_804 rfl rfl ⟨Nat.le_of_ble_eq_true rfl, Nat.le_of_ble_eq_true rfl⟩ ltM_0 shM_0 rfl rfl rfl rfl (Nat.le_of_ble_eq_true rfl) dX5_mark_168 ?_
    refine bw_aload_n (pc := 171) C 0 dX5_mark_171 rfl rfl ?_
    refine bw_aload_n (pc := 172) C 0 dX5_mark_172 rfl rfl ?_
    refine bw_getR (pc := 173) (q := 0) (k0 := 13) C ltM_0 shM_0 rfl inX5 mw_628 (by decide) rfl dX5_mark_173 ?_
    refine bw_iload_n (pc := 176) C 1 dX5_mark_176 rfl rfl ?_
    obtain ⟨v20, ev20, h⟩ := bw_cl_o h
    refine bw_cVi (pc := 177) (q := 0) (As := [.ref (ρ 9), .int x1]) (rest := [.int v19, .int x3]) C (tX5_wantsOn l 9 17 x1 ltM_9 shM_9 M v20 ev20) msX5_wantsOn mw_804 rfl rfl ⟨Nat.le_of_ble_eq_true rfl, Nat.le_of_ble_eq_true rfl⟩ ltM_0 shM_0 rfl rfl rfl rfl (Nat.le_of_ble_eq_true rfl) dX5_mark_177 ?_
    refine bw_icmp_gt (pc := 180) C 187 dX5_mark_180 (by decide) h (fun h => ?_) (fun h => ?_)
    · refine bw_iconst (pc := 187) (v := (0 : Int32)) C dX5_mark_187 ic_0 ?_
      refine bw_pick [0, 1, 2, 4] rfl ?_
      exact tX5_mark_188 C N x1 x2 k151 x4 x3 (0 : Int32) M rr zz hk151 h
    · refine bw_iconst (pc := 183) (v := (1 : Int32)) C dX5_mark_183 ic_1 ?_
      refine bw_goto (pc := 184) C 188 dX5_mark_184 (by decide) ?_
      refine bw_pick [0, 1, 2, 4] rfl ?_
      exact tX5_mark_188 C N x1 x2 k151 x4 x3 (1 : Int32) M rr zz hk151 h
def flX5_mark_151 (N : Nat) (x1 : Int32) (x2 : Int32)   (M : bw_M) (fu : Nat) (w : Int32 × Int32) : Option (Int32 × bw_M) := bw_lp (fun kk w => fX5_mark_151 N x1 x2 kk w.1 w.2 M) fu w
theorem tlX5_mark_151 {p : Program} {l : Launch} {e : Env} {s : State} {m : MethodId} {args : Array Value} {below : List Frame} {meth : Method} {c : Code} {D : va_G} {kT : Nat → ClassId} {ρ : Nat → Nat} (C : bw_Cx p s m args meth c cX5_mark 5 RX5 19 D kT ρ (some .int)) (N : Nat) (x1 : Int32) (x2 : Int32)    (M : bw_M) (rr : Int32) (zz : bw_M)  (fu : Nat) (w : Int32 × Int32) (h : flX5_mark_151 N x1 x2 M fu w = some (rr, zz)) : bw_At p l e rmX5_mark s m args below meth c (MQ below (bw_QI bw_shM 19 D kT ρ rr zz) args s 0 0 (bw_A ρ 19)) bw_shM 19 D kT ρ 5 151 [(0, .ref (ρ 0)), (1, .int x1), (2, .int x2), (3, .int w.1), (4, .int w.2)] [] M :=
  bw_loop (r := (rr, zz)) (fun w => bw_At p l e rmX5_mark s m args below meth c (MQ below (bw_QI bw_shM 19 D kT ρ rr zz) args s 0 0 (bw_A ρ 19)) bw_shM 19 D kT ρ 5 151 [(0, .ref (ρ 0)), (1, .int x1), (2, .int x2), (3, .int w.1), (4, .int w.2)] [] M) (fun kk hk w h => tX5_mark_151 C N x1 x2 kk w.1 w.2 M rr zz hk h) fu w h
def fX5_mark (N : Nat) (x1 : Int32) (x2 : Int32) (M : bw_M) : Option (Int32 × bw_M) :=
  bw_cl (fX5_isPipe x1 M) fun v1 =>
  if v1 = 0 then
  fX5_mark_20 N x1 x2 M
  else
  bw_cl (fX5_in (Int32.toInt64 x2) (1 : Int64) (5 : Int64)) fun v2 =>
  if v2 = 0 then
  fX5_mark_20 N x1 x2 M
  else
  bw_rd M 6 6 x1 fun v3 =>
  bw_cl (fX5_isOf v3 x2) fun v4 =>
  if v4 = 0 then
  bw_c2 (fX5_found (3 : Int32) M) fun v23 M24 =>
  some (v23, M24)
  else
  if x2 = (1 : Int32) then
  bw_rd M 9 17 ((5 : Int32) + x1) fun v6 =>
  some (((20 : Int32) - v6), M)
  else if x2 = (2 : Int32) then
  bw_rd M 8 6 x1 fun v8 =>
  bw_rd M 9 17 (0 : Int32) fun v9 =>
  if v8 ≤ v9 then
  fX5_mark_116 N x1 x2 (0 : Int32) M
  else
  bw_rd M 8 6 x1 fun v10 =>
  bw_rd M 9 17 (0 : Int32) fun v11 =>
  fX5_mark_116 N x1 x2 (v10 - v11) M
  else if x2 = (3 : Int32) then
  bw_cl (fX5_wantsOn 9 17 x1 M) fun v13 =>
  bw_rd M 8 6 x1 fun v14 =>
  some ((v13 - v14), M)
  else if x2 = (4 : Int32) then
  bw_rd M 9 17 (2 : Int32) fun v16 =>
  some ((((122 : Int32) - v16) - ((122 : Int32) - v16) / (3 : Int32) * (3 : Int32)), M)
  else 
  bw_mv (0 : Int32) fun v17 =>
  bw_mv (0 : Int32) fun v18 =>
  flX5_mark_151 N x1 x2 M N (v17, v18)
theorem tX5_mark (l : Launch) (N : Nat) (x1 : Int32) (x2 : Int32)  (M : bw_M) (rr : Int32) (zz : bw_M) (h : fX5_mark N x1 x2 M = some (rr, zz)) : bw_CI l bw_shM 19 yX5_mark cX5_mark 5 (some .int) rmX5_mark (fun ρ => [.ref (ρ 0), .int x1, .int x2]) M rr zz := by
  refine bw_inI (Lf := fun ρ => [(0, .ref (ρ 0)), (1, .int x1), (2, .int x2)]) cX5_mark 5 (some .int) RX5 pn_X5 rfl (fun ρ => Nat.le_of_ble_eq_true rfl) (fun ρ => rfl) ?_
  intro p e s m args below meth c D kT ρ C
  unfold fX5_mark at h
  refine bw_aload_n (pc := 0) C 0 dX5_mark_0 rfl rfl ?_
  refine bw_iload_n (pc := 1) C 1 dX5_mark_1 rfl rfl ?_
  obtain ⟨v1, ev1, h⟩ := bw_cl_o h
  refine bw_cVi (pc := 2) (q := 0) (As := [.int x1]) (rest := []) C (tX5_isPipe l x1 M v1 ev1) msX5_isPipe mw_799 rfl rfl ⟨Nat.le_of_ble_eq_true rfl, Nat.le_of_ble_eq_true rfl⟩ ltM_0 shM_0 rfl rfl rfl rfl (Nat.le_of_ble_eq_true rfl) dX5_mark_2 ?_
  refine bw_if_eq (pc := 5) C 20 dX5_mark_5 (by decide) h (fun h => ?_) (fun h => ?_)
  · refine bw_pick [0, 1, 2] rfl ?_
    exact tX5_mark_20 C N x1 x2 M rr zz h
  · refine bw_iload_n (pc := 8) C 2 dX5_mark_8 rfl rfl ?_
    refine bw_i2l (pc := 9) C dX5_mark_9 ?_
    refine bw_lconst (pc := 10) (v := (1 : Int64)) C dX5_mark_10 rfl ?_
    refine bw_ldc2_w (pc := 11) C mw_716 dX5_mark_11 ?_
    obtain ⟨v2, ev2, h⟩ := bw_cl_o h
    refine bw_cSi (pc := 14) (As := [.long (Int32.toInt64 x2), .long (1 : Int64), .long (5 : Int64)]) (rest := []) C (tX5_in l (Int32.toInt64 x2) (1 : Int64) (5 : Int64) M v2 ev2) msX5_in mw_717 rfl rfl ⟨Nat.le_of_ble_eq_true rfl, Nat.le_of_ble_eq_true rfl⟩ rfl rfl rfl (Nat.le_of_ble_eq_true rfl) dX5_mark_14 ?_
    refine bw_if_ne (pc := 17) C 22 dX5_mark_17 (by decide) h (fun h => ?_) (fun h => ?_)
    · refine bw_aload_n (pc := 22) C 0 dX5_mark_22 rfl rfl ?_
      refine bw_getR (pc := 23) (q := 0) (k0 := 10) C ltM_0 shM_0 rfl inX5 mw_625 (by decide) rfl dX5_mark_23 ?_
      refine bw_iload_n (pc := 26) C 1 dX5_mark_26 rfl rfl ?_
      obtain ⟨qv3, v3, ev3, h⟩ := bw_rd_o h
      refine bw_iald (pc := 27) (q := 6) C ltM_6 shM_6 qv3 ev3 dX5_mark_27 ?_
      refine bw_iload_n (pc := 28) C 2 dX5_mark_28 rfl rfl ?_
      obtain ⟨v4, ev4, h⟩ := bw_cl_o h
      refine bw_cSi (pc := 29) (As := [.int v3, .int x2]) (rest := []) C (tX5_isOf l v3 x2 M v4 ev4) msX5_isOf mw_822 rfl rfl ⟨Nat.le_of_ble_eq_true rfl, Nat.le_of_ble_eq_true rfl⟩ rfl rfl rfl (Nat.le_of_ble_eq_true rfl) dX5_mark_29 ?_
      refine bw_if_ne (pc := 32) C 41 dX5_mark_32 (by decide) h (fun h => ?_) (fun h => ?_)
      · refine bw_iload_n (pc := 41) C 2 dX5_mark_41 rfl rfl ?_
        refine bw_swc (pc := 42) C (1 : Int32) h (fun h => ?_) (fun q5 h => ?_)
        · refine bw_swi (pc := 42) C 72 dX5_mark_42 (by decide) (by decide) rfl (by decide) ?_
          refine bw_bipush (pc := 72) (v := (20 : Int32)) C dX5_mark_72 bi_20 ?_
          refine bw_aload_n (pc := 74) C 0 dX5_mark_74 rfl rfl ?_
          refine bw_getR (pc := 75) (q := 0) (k0 := 13) C ltM_0 shM_0 rfl inX5 mw_628 (by decide) rfl dX5_mark_75 ?_
          refine bw_iconst (pc := 78) (v := (5 : Int32)) C dX5_mark_78 ic_5 ?_
          refine bw_iload_n (pc := 79) C 1 dX5_mark_79 rfl rfl ?_
          refine bw_iadd (pc := 80) C dX5_mark_80 ?_
          obtain ⟨qv6, v6, ev6, h⟩ := bw_rd_o h
          refine bw_iald (pc := 81) (q := 9) C ltM_9 shM_9 qv6 ev6 dX5_mark_81 ?_
          refine bw_isub (pc := 82) C dX5_mark_82 ?_
          exact bw_ireti (pc := 83) C dX5_mark_83 h
        refine bw_swc (pc := 42) C (2 : Int32) h (fun h => ?_) (fun q7 h => ?_)
        · refine bw_swi (pc := 42) C 84 dX5_mark_42 (by decide) (by decide) rfl (by decide) ?_
          refine bw_aload_n (pc := 84) C 0 dX5_mark_84 rfl rfl ?_
          refine bw_getR (pc := 85) (q := 0) (k0 := 12) C ltM_0 shM_0 rfl inX5 mw_627 (by decide) rfl dX5_mark_85 ?_
          refine bw_iload_n (pc := 88) C 1 dX5_mark_88 rfl rfl ?_
          obtain ⟨qv8, v8, ev8, h⟩ := bw_rd_o h
          refine bw_iald (pc := 89) (q := 8) C ltM_8 shM_8 qv8 ev8 dX5_mark_89 ?_
          refine bw_aload_n (pc := 90) C 0 dX5_mark_90 rfl rfl ?_
          refine bw_getR (pc := 91) (q := 0) (k0 := 13) C ltM_0 shM_0 rfl inX5 mw_628 (by decide) rfl dX5_mark_91 ?_
          refine bw_iconst (pc := 94) (v := (0 : Int32)) C dX5_mark_94 ic_0 ?_
          obtain ⟨qv9, v9, ev9, h⟩ := bw_rd_o h
          refine bw_iald (pc := 95) (q := 9) C ltM_9 shM_9 qv9 ev9 dX5_mark_95 ?_
          refine bw_icmp_le (pc := 96) C 115 dX5_mark_96 (by decide) h (fun h => ?_) (fun h => ?_)
          · refine bw_iconst (pc := 115) (v := (0 : Int32)) C dX5_mark_115 ic_0 ?_
            refine bw_pick [0, 1, 2] rfl ?_
            exact tX5_mark_116 C N x1 x2 (0 : Int32) M rr zz h
          · refine bw_aload_n (pc := 99) C 0 dX5_mark_99 rfl rfl ?_
            refine bw_getR (pc := 100) (q := 0) (k0 := 12) C ltM_0 shM_0 rfl inX5 mw_627 (by decide) rfl dX5_mark_100 ?_
            refine bw_iload_n (pc := 103) C 1 dX5_mark_103 rfl rfl ?_
            obtain ⟨qv10, v10, ev10, h⟩ := bw_rd_o h
            refine bw_iald (pc := 104) (q := 8) C ltM_8 shM_8 qv10 ev10 dX5_mark_104 ?_
            refine bw_aload_n (pc := 105) C 0 dX5_mark_105 rfl rfl ?_
            refine bw_getR (pc := 106) (q := 0) (k0 := 13) C ltM_0 shM_0 rfl inX5 mw_628 (by decide) rfl dX5_mark_106 ?_
            refine bw_iconst (pc := 109) (v := (0 : Int32)) C dX5_mark_109 ic_0 ?_
            obtain ⟨qv11, v11, ev11, h⟩ := bw_rd_o h
            refine bw_iald (pc := 110) (q := 9) C ltM_9 shM_9 qv11 ev11 dX5_mark_110 ?_
            refine bw_isub (pc := 111) C dX5_mark_111 ?_
            refine bw_goto (pc := 112) C 116 dX5_mark_112 (by decide) ?_
            refine bw_pick [0, 1, 2] rfl ?_
            exact tX5_mark_116 C N x1 x2 (v10 - v11) M rr zz h
        refine bw_swc (pc := 42) C (3 : Int32) h (fun h => ?_) (fun q12 h => ?_)
        · refine bw_swi (pc := 42) C 117 dX5_mark_42 (by decide) (by decide) rfl (by decide) ?_
          refine bw_aload_n (pc := 117) C 0 dX5_mark_117 rfl rfl ?_
          refine bw_aload_n (pc := 118) C 0 dX5_mark_118 rfl rfl ?_
          refine bw_getR (pc := 119) (q := 0) (k0 := 13) C ltM_0 shM_0 rfl inX5 mw_628 (by decide) rfl dX5_mark_119 ?_
          refine bw_iload_n (pc := 122) C 1 dX5_mark_122 rfl rfl ?_
          obtain ⟨v13, ev13, h⟩ := bw_cl_o h
          refine bw_cVi (pc := 123) (q := 0) (As := [.ref (ρ 9), .int x1]) (rest := []) C (tX5_wantsOn l 9 17 x1 ltM_9 shM_9 M v13 ev13) msX5_wantsOn mw_804 rfl rfl ⟨Nat.le_of_ble_eq_true rfl, Nat.le_of_ble_eq_true rfl⟩ ltM_0 shM_0 rfl rfl rfl rfl (Nat.le_of_ble_eq_true rfl) dX5_mark_123 ?_
          refine bw_aload_n (pc := 126) C 0 dX5_mark_126 rfl rfl ?_
          refine bw_getR (pc := 127) (q := 0) (k0 := 12) C ltM_0 shM_0 rfl inX5 mw_627 (by decide) rfl dX5_mark_127 ?_
          refine bw_iload_n (pc := 130) C 1 dX5_mark_130 rfl rfl ?_
          obtain ⟨qv14, v14, ev14, h⟩ := bw_rd_o h
          refine bw_iald (pc := 131) (q := 8) C ltM_8 shM_8 qv14 ev14 dX5_mark_131 ?_
          refine bw_isub (pc := 132) C dX5_mark_132 ?_
          exact bw_ireti (pc := 133) C dX5_mark_133 h
        refine bw_swc (pc := 42) C (4 : Int32) h (fun h => ?_) (fun q15 h => ?_)
        · refine bw_swi (pc := 42) C 134 dX5_mark_42 (by decide) (by decide) rfl (by decide) ?_
          refine bw_bipush (pc := 134) (v := (122 : Int32)) C dX5_mark_134 bi_122 ?_
          refine bw_aload_n (pc := 136) C 0 dX5_mark_136 rfl rfl ?_
          refine bw_getR (pc := 137) (q := 0) (k0 := 13) C ltM_0 shM_0 rfl inX5 mw_628 (by decide) rfl dX5_mark_137 ?_
          refine bw_iconst (pc := 140) (v := (2 : Int32)) C dX5_mark_140 ic_2 ?_
          obtain ⟨qv16, v16, ev16, h⟩ := bw_rd_o h
          refine bw_iald (pc := 141) (q := 9) C ltM_9 shM_9 qv16 ev16 dX5_mark_141 ?_
          refine bw_isub (pc := 142) C dX5_mark_142 ?_
          refine bw_iconst (pc := 143) (v := (3 : Int32)) C dX5_mark_143 ic_3 ?_
          refine bw_irem (pc := 144) C dX5_mark_144 (by decide) ?_
          exact bw_ireti (pc := 145) C dX5_mark_145 h
        have ho : (x2).toInt < 1 ∨ 4 < (x2).toInt := bw_sw_out 4 (by decide) (by decide) (by decide) (fun j hj => by
          match j, hj with
          | 0, _ => exact q5
          | 1, _ => exact q7
          | 2, _ => exact q12
          | 3, _ => exact q15
          | j + 4, hj => exact absurd hj (by omega))
        refine bw_swo (pc := 42) C 146 dX5_mark_42 ho (by decide) ?_
        refine bw_iconst (pc := 146) (v := (0 : Int32)) C dX5_mark_146 ic_0 ?_
        obtain ⟨v17, ev17, h⟩ := bw_mv_o h
        refine bw_nmI ev17 ?_
        refine bw_istore_n (pc := 147) (L' := [(3, .int v17), (0, .ref (ρ 0)), (1, .int x1), (2, .int x2)]) C dX5_mark_147 rfl (by decide) rfl ?_
        refine bw_iconst (pc := 148) (v := (0 : Int32)) C dX5_mark_148 ic_0 ?_
        obtain ⟨v18, ev18, h⟩ := bw_mv_o h
        refine bw_nmI ev18 ?_
        refine bw_istore (pc := 149) (L' := [(4, .int v18), (3, .int v17), (0, .ref (ρ 0)), (1, .int x1), (2, .int x2)]) C dX5_mark_149 (by decide) rfl ?_
        refine bw_pick [2, 3, 4, 1, 0] rfl ?_
        exact tlX5_mark_151 C N x1 x2 M rr zz N (v17, v18) h
      · refine bw_aload_n (pc := 35) C 0 dX5_mark_35 rfl rfl ?_
        refine bw_iconst (pc := 36) (v := (3 : Int32)) C dX5_mark_36 ic_3 ?_
        obtain ⟨v23, M24, ev23, h⟩ := bw_c2_o h
        refine bw_cVi (pc := 37) (q := 0) (As := [.int (3 : Int32)]) (rest := []) C (tX5_found l (3 : Int32) M v23 M24 ev23) msX5_found mw_720 rfl rfl ⟨Nat.le_of_ble_eq_true rfl, Nat.le_of_ble_eq_true rfl⟩ ltM_0 shM_0 rfl rfl rfl rfl (Nat.le_of_ble_eq_true rfl) dX5_mark_37 ?_
        exact bw_ireti (pc := 40) C dX5_mark_40 h
    · refine bw_pick [0, 1, 2] rfl ?_
      exact tX5_mark_20 C N x1 x2 M rr zz h
/-! X5_mean -/
abbrev rmX5_mean : Room := { frames := 2, cells := 0, slots := 0, locals := 45 }
theorem msX5_mean : bw_MV yX5_mean cX5_mean 5 (some .int) RX5 1 := ⟨mw_745, mw_746, mw_6, mw_747, by decide +kernel⟩
def fX5_mean_44 (N : Nat) (x1 : Int32) (k44 : Int64 × Int32 → Option (Int32 × bw_M)) (x2 : Int64) (x4 : Int32) (M : bw_M) : Option (Int32 × bw_M) :=
  bw_rd M 2 6 x1 fun v6 =>
  if v6 ≤ x4 then
  bw_rd M 2 6 x1 fun v7 =>
  bw_ck (decide (¬ (Int32.toInt64 v7) = 0)) (
  bw_c2 (fX5_tell (Int64.toInt32 (x2 / (Int32.toInt64 v7))) M) fun v9 M10 =>
  some (v9, M10))
  else
  bw_rd M 1 240 (((40 : Int32) * x1) + x4) fun v11 =>
  bw_mv (x2 + (Int32.toInt64 v11)) fun v12 =>
  bw_mv (x4 + 1) fun v13 =>
  k44 (v12, v13)
theorem tX5_mean_44 {p : Program} {l : Launch} {e : Env} {s : State} {m : MethodId} {args : Array Value} {below : List Frame} {meth : Method} {c : Code} {D : va_G} {kT : Nat → ClassId} {ρ : Nat → Nat} (C : bw_Cx p s m args meth c cX5_mean 5 RX5 19 D kT ρ (some .int)) (N : Nat) (x1 : Int32)  (k44 : Int64 × Int32 → Option (Int32 × bw_M)) (x2 : Int64) (x4 : Int32) (M : bw_M) (rr : Int32) (zz : bw_M) (hk44 : ∀ z0, k44 z0 = some (rr, zz) → bw_At p l e rmX5_mean s m args below meth c (MQ below (bw_QI bw_shM 19 D kT ρ rr zz) args s 0 0 (bw_A ρ 19)) bw_shM 19 D kT ρ 5 44 [(0, .ref (ρ 0)), (1, .int x1), (2, .long z0.1), (4, .int z0.2)] [] M) (h : fX5_mean_44 N x1 k44 x2 x4 M = some (rr, zz)) : bw_At p l e rmX5_mean s m args below meth c (MQ below (bw_QI bw_shM 19 D kT ρ rr zz) args s 0 0 (bw_A ρ 19)) bw_shM 19 D kT ρ 5 44 [(0, .ref (ρ 0)), (1, .int x1), (2, .long x2), (4, .int x4)] [] M := by
  unfold fX5_mean_44 at h
  refine bw_iload (pc := 44) C 3 dX5_mean_44 rfl ?_
  refine bw_aload_n (pc := 46) C 0 dX5_mean_46 rfl rfl ?_
  refine bw_getR (pc := 47) (q := 0) (k0 := 1) C ltM_0 shM_0 rfl inX5 mw_616 (by decide) rfl dX5_mean_47 ?_
  refine bw_iload_n (pc := 50) C 1 dX5_mean_50 rfl rfl ?_
  obtain ⟨qv6, v6, ev6, h⟩ := bw_rd_o h
  refine bw_iald (pc := 51) (q := 2) C ltM_2 shM_2 qv6 ev6 dX5_mean_51 ?_
  refine bw_icmp_ge (pc := 52) C 77 dX5_mean_52 (by decide) h (fun h => ?_) (fun h => ?_)
  · refine bw_aload_n (pc := 77) C 0 dX5_mean_77 rfl rfl ?_
    refine bw_lload_n (pc := 78) C 2 dX5_mean_78 rfl rfl ?_
    refine bw_aload_n (pc := 79) C 0 dX5_mean_79 rfl rfl ?_
    refine bw_getR (pc := 80) (q := 0) (k0 := 1) C ltM_0 shM_0 rfl inX5 mw_616 (by decide) rfl dX5_mean_80 ?_
    refine bw_iload_n (pc := 83) C 1 dX5_mean_83 rfl rfl ?_
    obtain ⟨qv7, v7, ev7, h⟩ := bw_rd_o h
    refine bw_iald (pc := 84) (q := 2) C ltM_2 shM_2 qv7 ev7 dX5_mean_84 ?_
    refine bw_i2l (pc := 85) C dX5_mean_85 ?_
    obtain ⟨q8, h⟩ := bw_ck_o h
    refine bw_ldiv (pc := 86) C dX5_mean_86 (of_decide_eq_true q8) ?_
    refine bw_l2i (pc := 87) C dX5_mean_87 ?_
    obtain ⟨v9, M10, ev9, h⟩ := bw_c2_o h
    refine bw_cVi (pc := 88) (q := 0) (As := [.int (Int64.toInt32 (x2 / (Int32.toInt64 v7)))]) (rest := []) C (tX5_tell l (Int64.toInt32 (x2 / (Int32.toInt64 v7))) M v9 M10 ev9) msX5_tell mw_728 rfl rfl ⟨Nat.le_of_ble_eq_true rfl, Nat.le_of_ble_eq_true rfl⟩ ltM_0 shM_0 rfl rfl rfl rfl (Nat.le_of_ble_eq_true rfl) dX5_mean_88 ?_
    exact bw_ireti (pc := 91) C dX5_mean_91 h
  · refine bw_lload_n (pc := 55) C 2 dX5_mean_55 rfl rfl ?_
    refine bw_aload_n (pc := 56) C 0 dX5_mean_56 rfl rfl ?_
    refine bw_getR (pc := 57) (q := 0) (k0 := 0) C ltM_0 shM_0 rfl inX5 mw_615 (by decide) rfl dX5_mean_57 ?_
    refine bw_bipush (pc := 60) (v := (40 : Int32)) C dX5_mean_60 bi_40 ?_
    refine bw_iload_n (pc := 62) C 1 dX5_mean_62 rfl rfl ?_
    refine bw_imul (pc := 63) C dX5_mean_63 ?_
    refine bw_iload (pc := 64) C 3 dX5_mean_64 rfl ?_
    refine bw_iadd (pc := 66) C dX5_mean_66 ?_
    obtain ⟨qv11, v11, ev11, h⟩ := bw_rd_o h
    refine bw_iald (pc := 67) (q := 1) C ltM_1 shM_1 qv11 ev11 dX5_mean_67 ?_
    refine bw_i2l (pc := 68) C dX5_mean_68 ?_
    refine bw_ladd (pc := 69) C dX5_mean_69 ?_
    obtain ⟨v12, ev12, h⟩ := bw_mv_o h
    refine bw_nmL ev12 ?_
    refine bw_lstore_n (pc := 70) (L' := [(2, .long v12), (0, .ref (ρ 0)), (1, .int x1), (4, .int x4)]) C dX5_mean_70 rfl (by decide) rfl ?_
    obtain ⟨v13, ev13, h⟩ := bw_mv_o h
    refine bw_iinc (pc := 71) (x := v13) (L' := [(4, .int v13), (2, .long v12), (0, .ref (ρ 0)), (1, .int x1)]) C 3 dX5_mean_71 rfl ev13.symm (by decide) rfl ?_
    refine bw_goto (pc := 74) C 44 dX5_mean_74 (by decide) ?_
    refine bw_pick [2, 3, 1, 0] rfl ?_
    exact hk44 (v12, v13) h
def flX5_mean_44 (N : Nat) (x1 : Int32)   (M : bw_M) (fu : Nat) (w : Int64 × Int32) : Option (Int32 × bw_M) := bw_lp (fun kk w => fX5_mean_44 N x1 kk w.1 w.2 M) fu w
theorem tlX5_mean_44 {p : Program} {l : Launch} {e : Env} {s : State} {m : MethodId} {args : Array Value} {below : List Frame} {meth : Method} {c : Code} {D : va_G} {kT : Nat → ClassId} {ρ : Nat → Nat} (C : bw_Cx p s m args meth c cX5_mean 5 RX5 19 D kT ρ (some .int)) (N : Nat) (x1 : Int32)    (M : bw_M) (rr : Int32) (zz : bw_M)  (fu : Nat) (w : Int64 × Int32) (h : flX5_mean_44 N x1 M fu w = some (rr, zz)) : bw_At p l e rmX5_mean s m args below meth c (MQ below (bw_QI bw_shM 19 D kT ρ rr zz) args s 0 0 (bw_A ρ 19)) bw_shM 19 D kT ρ 5 44 [(0, .ref (ρ 0)), (1, .int x1), (2, .long w.1), (4, .int w.2)] [] M :=
  bw_loop (r := (rr, zz)) (fun w => bw_At p l e rmX5_mean s m args below meth c (MQ below (bw_QI bw_shM 19 D kT ρ rr zz) args s 0 0 (bw_A ρ 19)) bw_shM 19 D kT ρ 5 44 [(0, .ref (ρ 0)), (1, .int x1), (2, .long w.1), (4, .int w.2)] [] M) (fun kk hk w h => tX5_mean_44 C N x1 kk w.1 w.2 M rr zz hk h) fu w h
def fX5_mean (N : Nat) (x1 : Int32) (M : bw_M) : Option (Int32 × bw_M) :=
  bw_cl (fX5_isRow x1) fun v1 =>
  if v1 = 0 then
  some ((-1 : Int32), M)
  else
  bw_rd M 2 6 x1 fun v2 =>
  if 0 ≤ v2 then
  bw_rd M 2 6 x1 fun v3 =>
  if v3 = 0 then
  bw_c2 (fX5_found (4 : Int32) M) fun v14 M15 =>
  some (v14, M15)
  else
  bw_mv (0 : Int64) fun v4 =>
  bw_mv (0 : Int32) fun v5 =>
  flX5_mean_44 N x1 M N (v4, v5)
  else
  bw_c2 (fX5_found (1 : Int32) M) fun v16 M17 =>
  some (v16, M17)
theorem tX5_mean (l : Launch) (N : Nat) (x1 : Int32)  (M : bw_M) (rr : Int32) (zz : bw_M) (h : fX5_mean N x1 M = some (rr, zz)) : bw_CI l bw_shM 19 yX5_mean cX5_mean 5 (some .int) rmX5_mean (fun ρ => [.ref (ρ 0), .int x1]) M rr zz := by
  refine bw_inI (Lf := fun ρ => [(0, .ref (ρ 0)), (1, .int x1)]) cX5_mean 5 (some .int) RX5 pn_X5 rfl (fun ρ => Nat.le_of_ble_eq_true rfl) (fun ρ => rfl) ?_
  intro p e s m args below meth c D kT ρ C
  unfold fX5_mean at h
  refine bw_iload_n (pc := 0) C 1 dX5_mean_0 rfl rfl ?_
  obtain ⟨v1, ev1, h⟩ := bw_cl_o h
  refine bw_cSi (pc := 1) (As := [.int x1]) (rest := []) C (tX5_isRow l x1 M v1 ev1) msX5_isRow mw_713 rfl rfl ⟨Nat.le_of_ble_eq_true rfl, Nat.le_of_ble_eq_true rfl⟩ rfl rfl rfl (Nat.le_of_ble_eq_true rfl) dX5_mean_1 ?_
  refine bw_if_ne (pc := 4) C 9 dX5_mean_4 (by decide) h (fun h => ?_) (fun h => ?_)
  · refine bw_aload_n (pc := 9) C 0 dX5_mean_9 rfl rfl ?_
    refine bw_getR (pc := 10) (q := 0) (k0 := 1) C ltM_0 shM_0 rfl inX5 mw_616 (by decide) rfl dX5_mean_10 ?_
    refine bw_iload_n (pc := 13) C 1 dX5_mean_13 rfl rfl ?_
    obtain ⟨qv2, v2, ev2, h⟩ := bw_rd_o h
    refine bw_iald (pc := 14) (q := 2) C ltM_2 shM_2 qv2 ev2 dX5_mean_14 ?_
    refine bw_if_ge (pc := 15) C 24 dX5_mean_15 (by decide) h (fun h => ?_) (fun h => ?_)
    · refine bw_aload_n (pc := 24) C 0 dX5_mean_24 rfl rfl ?_
      refine bw_getR (pc := 25) (q := 0) (k0 := 1) C ltM_0 shM_0 rfl inX5 mw_616 (by decide) rfl dX5_mean_25 ?_
      refine bw_iload_n (pc := 28) C 1 dX5_mean_28 rfl rfl ?_
      obtain ⟨qv3, v3, ev3, h⟩ := bw_rd_o h
      refine bw_iald (pc := 29) (q := 2) C ltM_2 shM_2 qv3 ev3 dX5_mean_29 ?_
      refine bw_if_ne (pc := 30) C 39 dX5_mean_30 (by decide) h (fun h => ?_) (fun h => ?_)
      · refine bw_lconst (pc := 39) (v := (0 : Int64)) C dX5_mean_39 rfl ?_
        obtain ⟨v4, ev4, h⟩ := bw_mv_o h
        refine bw_nmL ev4 ?_
        refine bw_lstore_n (pc := 40) (L' := [(2, .long v4), (0, .ref (ρ 0)), (1, .int x1)]) C dX5_mean_40 rfl (by decide) rfl ?_
        refine bw_iconst (pc := 41) (v := (0 : Int32)) C dX5_mean_41 ic_0 ?_
        obtain ⟨v5, ev5, h⟩ := bw_mv_o h
        refine bw_nmI ev5 ?_
        refine bw_istore (pc := 42) (L' := [(4, .int v5), (2, .long v4), (0, .ref (ρ 0)), (1, .int x1)]) C dX5_mean_42 (by decide) rfl ?_
        refine bw_pick [2, 3, 1, 0] rfl ?_
        exact tlX5_mean_44 C N x1 M rr zz N (v4, v5) h
      · refine bw_aload_n (pc := 33) C 0 dX5_mean_33 rfl rfl ?_
        refine bw_iconst (pc := 34) (v := (4 : Int32)) C dX5_mean_34 ic_4 ?_
        obtain ⟨v14, M15, ev14, h⟩ := bw_c2_o h
        refine bw_cVi (pc := 35) (q := 0) (As := [.int (4 : Int32)]) (rest := []) C (tX5_found l (4 : Int32) M v14 M15 ev14) msX5_found mw_720 rfl rfl ⟨Nat.le_of_ble_eq_true rfl, Nat.le_of_ble_eq_true rfl⟩ ltM_0 shM_0 rfl rfl rfl rfl (Nat.le_of_ble_eq_true rfl) dX5_mean_35 ?_
        exact bw_ireti (pc := 38) C dX5_mean_38 h
    · refine bw_aload_n (pc := 18) C 0 dX5_mean_18 rfl rfl ?_
      refine bw_iconst (pc := 19) (v := (1 : Int32)) C dX5_mean_19 ic_1 ?_
      obtain ⟨v16, M17, ev16, h⟩ := bw_c2_o h
      refine bw_cVi (pc := 20) (q := 0) (As := [.int (1 : Int32)]) (rest := []) C (tX5_found l (1 : Int32) M v16 M17 ev16) msX5_found mw_720 rfl rfl ⟨Nat.le_of_ble_eq_true rfl, Nat.le_of_ble_eq_true rfl⟩ ltM_0 shM_0 rfl rfl rfl rfl (Nat.le_of_ble_eq_true rfl) dX5_mean_20 ?_
      exact bw_ireti (pc := 23) C dX5_mean_23 h
  · refine bw_iconst (pc := 7) (v := (-1 : Int32)) C dX5_mean_7 ic_m1 ?_
    exact bw_ireti (pc := 8) C dX5_mean_8 h
/-! X5_ways -/
abbrev rmX5_ways : Room := { frames := 4, cells := 0, slots := 0, locals := 90 }
theorem msX5_ways : bw_MV yX5_ways cX5_ways 9 (some .long) RX5 2 := ⟨mw_998, mw_1119, mw_6, mw_999, by decide +kernel⟩
def fX5_ways_146 (N : Nat) (x1 : Int32) (x2 : Int32) (k5 : Int64 × Int32 × bw_M → Option (Int64 × bw_M)) (x3 : Int64) (x5 : Int32) (M : bw_M) : Option (Int64 × bw_M) :=
  bw_mv (x5 + 1) fun v4 =>
  k5 (x3, v4, M)
theorem tX5_ways_146 {p : Program} {l : Launch} {e : Env} {s : State} {m : MethodId} {args : Array Value} {below : List Frame} {meth : Method} {c : Code} {D : va_G} {kT : Nat → ClassId} {ρ : Nat → Nat} (C : bw_Cx p s m args meth c cX5_ways 9 RX5 19 D kT ρ (some .long)) (N : Nat) (x1 : Int32) (x2 : Int32)  (k5 : Int64 × Int32 × bw_M → Option (Int64 × bw_M)) (x3 : Int64) (x5 : Int32) (M : bw_M) (rr : Int64) (zz : bw_M) (hk5 : ∀ z0, k5 z0 = some (rr, zz) → bw_At p l e rmX5_ways s m args below meth c (MQ below (bw_QL bw_shM 19 D kT ρ rr zz) args s 0 0 (bw_A ρ 19)) bw_shM 19 D kT ρ 9 5 [(0, .ref (ρ 0)), (1, .int x1), (2, .int x2), (3, .long z0.1), (5, .int z0.2.1)] [] z0.2.2) (h : fX5_ways_146 N x1 x2 k5 x3 x5 M = some (rr, zz)) : bw_At p l e rmX5_ways s m args below meth c (MQ below (bw_QL bw_shM 19 D kT ρ rr zz) args s 0 0 (bw_A ρ 19)) bw_shM 19 D kT ρ 9 146 [(0, .ref (ρ 0)), (1, .int x1), (2, .int x2), (3, .long x3), (5, .int x5)] [] M := by
  unfold fX5_ways_146 at h
  obtain ⟨v4, ev4, h⟩ := bw_mv_o h
  refine bw_iinc (pc := 146) (x := v4) (L' := [(5, .int v4), (0, .ref (ρ 0)), (1, .int x1), (2, .int x2), (3, .long x3)]) C 4 dX5_ways_146 rfl ev4.symm (by decide) rfl ?_
  refine bw_goto (pc := 149) C 5 dX5_ways_149 (by decide) ?_
  refine bw_pick [1, 2, 3, 4, 0] rfl ?_
  exact hk5 (x3, v4, M) h
def fX5_ways_142 (N : Nat) (x1 : Int32) (x2 : Int32) (k5 : Int64 × Int32 × bw_M → Option (Int64 × bw_M)) (x5 : Int32) (s0 : Int64) (s1 : Int64) (s2 : Int32) (M : bw_M) : Option (Int64 × bw_M) :=
  bw_mv (s0 + (s1 * (Int32.toInt64 s2))) fun v12 =>
  fX5_ways_146 N x1 x2 k5 v12 x5 M
theorem tX5_ways_142 {p : Program} {l : Launch} {e : Env} {s : State} {m : MethodId} {args : Array Value} {below : List Frame} {meth : Method} {c : Code} {D : va_G} {kT : Nat → ClassId} {ρ : Nat → Nat} (C : bw_Cx p s m args meth c cX5_ways 9 RX5 19 D kT ρ (some .long)) (N : Nat) (x1 : Int32) (x2 : Int32)  (k5 : Int64 × Int32 × bw_M → Option (Int64 × bw_M)) (x5 : Int32) (s0 : Int64) (s1 : Int64) (s2 : Int32) (M : bw_M) (rr : Int64) (zz : bw_M) (hk5 : ∀ z0, k5 z0 = some (rr, zz) → bw_At p l e rmX5_ways s m args below meth c (MQ below (bw_QL bw_shM 19 D kT ρ rr zz) args s 0 0 (bw_A ρ 19)) bw_shM 19 D kT ρ 9 5 [(0, .ref (ρ 0)), (1, .int x1), (2, .int x2), (3, .long z0.1), (5, .int z0.2.1)] [] z0.2.2) (h : fX5_ways_142 N x1 x2 k5 x5 s0 s1 s2 M = some (rr, zz)) : bw_At p l e rmX5_ways s m args below meth c (MQ below (bw_QL bw_shM 19 D kT ρ rr zz) args s 0 0 (bw_A ρ 19)) bw_shM 19 D kT ρ 9 142 [(0, .ref (ρ 0)), (1, .int x1), (2, .int x2), (5, .int x5)] [.int s2, .long s1, .long s0] M := by
  unfold fX5_ways_142 at h
  refine bw_i2l (pc := 142) C dX5_ways_142 ?_
  refine bw_lmul (pc := 143) C dX5_ways_143 ?_
  refine bw_ladd (pc := 144) C dX5_ways_144 ?_
  obtain ⟨v12, ev12, h⟩ := bw_mv_o h
  refine bw_nmL ev12 ?_
  refine bw_lstore_n (pc := 145) (L' := [(3, .long v12), (0, .ref (ρ 0)), (1, .int x1), (2, .int x2), (5, .int x5)]) C dX5_ways_145 rfl (by decide) rfl ?_
  refine bw_pick [1, 2, 3, 0, 4] rfl ?_
  exact tX5_ways_146 C N x1 x2 k5 v12 x5 M rr zz hk5 h
def fX5_ways_84 (N : Nat) (x1 : Int32) (x2 : Int32) (k5 : Int64 × Int32 × bw_M → Option (Int64 × bw_M)) (k34 : Int64 × Int32 → Option (Int64 × bw_M)) (x3 : Int64) (x5 : Int32) (x8 : Int32) (s0 : Int64) (s1 : Int64) (M : bw_M) : Option (Int64 × bw_M) :=
  bw_mv (s0 * s1) fun v17 =>
  bw_mv (x8 + 1) fun v18 =>
  k34 (v17, v18)
theorem tX5_ways_84 {p : Program} {l : Launch} {e : Env} {s : State} {m : MethodId} {args : Array Value} {below : List Frame} {meth : Method} {c : Code} {D : va_G} {kT : Nat → ClassId} {ρ : Nat → Nat} (C : bw_Cx p s m args meth c cX5_ways 9 RX5 19 D kT ρ (some .long)) (N : Nat) (x1 : Int32) (x2 : Int32)  (k5 : Int64 × Int32 × bw_M → Option (Int64 × bw_M)) (k34 : Int64 × Int32 → Option (Int64 × bw_M)) (x3 : Int64) (x5 : Int32) (x8 : Int32) (s0 : Int64) (s1 : Int64) (M : bw_M) (rr : Int64) (zz : bw_M) (hk5 : ∀ z0, k5 z0 = some (rr, zz) → bw_At p l e rmX5_ways s m args below meth c (MQ below (bw_QL bw_shM 19 D kT ρ rr zz) args s 0 0 (bw_A ρ 19)) bw_shM 19 D kT ρ 9 5 [(0, .ref (ρ 0)), (1, .int x1), (2, .int x2), (3, .long z0.1), (5, .int z0.2.1)] [] z0.2.2) (hk34 : ∀ z0, k34 z0 = some (rr, zz) → bw_At p l e rmX5_ways s m args below meth c (MQ below (bw_QL bw_shM 19 D kT ρ rr zz) args s 0 0 (bw_A ρ 19)) bw_shM 19 D kT ρ 9 34 [(0, .ref (ρ 0)), (1, .int x1), (2, .int x2), (3, .long x3), (5, .int x5), (6, .long z0.1), (8, .int z0.2)] [] M) (h : fX5_ways_84 N x1 x2 k5 k34 x3 x5 x8 s0 s1 M = some (rr, zz)) : bw_At p l e rmX5_ways s m args below meth c (MQ below (bw_QL bw_shM 19 D kT ρ rr zz) args s 0 0 (bw_A ρ 19)) bw_shM 19 D kT ρ 9 84 [(0, .ref (ρ 0)), (1, .int x1), (2, .int x2), (3, .long x3), (5, .int x5), (8, .int x8)] [.long s1, .long s0] M := by
  unfold fX5_ways_84 at h
  refine bw_lmul (pc := 84) C dX5_ways_84 ?_
  obtain ⟨v17, ev17, h⟩ := bw_mv_o h
  refine bw_nmL ev17 ?_
  refine bw_lstore (pc := 85) (L' := [(6, .long v17), (0, .ref (ρ 0)), (1, .int x1), (2, .int x2), (3, .long x3), (5, .int x5), (8, .int x8)]) C dX5_ways_85 (by decide) rfl ?_
  obtain ⟨v18, ev18, h⟩ := bw_mv_o h
  refine bw_iinc (pc := 87) (x := v18) (L' := [(8, .int v18), (6, .long v17), (0, .ref (ρ 0)), (1, .int x1), (2, .int x2), (3, .long x3), (5, .int x5)]) C 6 dX5_ways_87 rfl ev18.symm (by decide) rfl ?_
  refine bw_goto (pc := 90) C 34 dX5_ways_90 (by decide) ?_
  refine bw_pick [2, 3, 4, 5, 6, 1, 0] rfl ?_
  exact hk34 (v17, v18) h
def fX5_ways_34 (N : Nat) (x1 : Int32) (x2 : Int32) (k5 : Int64 × Int32 × bw_M → Option (Int64 × bw_M)) (k34 : Int64 × Int32 → Option (Int64 × bw_M)) (x3 : Int64) (x5 : Int32) (x6 : Int64) (x8 : Int32) (M : bw_M) : Option (Int64 × bw_M) :=
  if (M.1 0 9) ≤ x8 then
  bw_cl (fX5_layAside N M) fun M7 =>
  bw_rd M7 10 17 (4 : Int32) fun v8 =>
  bw_wr M7 10 17 (4 : Int32) (v8 ||| x5) fun M9 =>
  bw_c2 (fX5_goes N 10 17 M9) fun v10 M11 =>
  if x1 = (-9 : Int32) then
  bw_rd M11 10 17 (0 : Int32) fun v13 =>
  fX5_ways_142 N x1 x2 k5 x5 x3 x6 v13 M11
  else
  fX5_ways_142 N x1 x2 k5 x5 x3 x6 ((v10 >>> (x1 &&& 31)) &&& (1 : Int32)) M11
  else
  bw_rd M 9 17 (4 : Int32) fun v14 =>
  bw_cl (fX5_has v14 x8) fun v15 =>
  if v15 = 0 then
  bw_cl (fX5_has x5 x8) fun v16 =>
  if v16 = 0 then
  fX5_ways_84 N x1 x2 k5 k34 x3 x5 x8 x6 ((12 : Int64) - (Int32.toInt64 x2)) M
  else
  fX5_ways_84 N x1 x2 k5 k34 x3 x5 x8 x6 (Int32.toInt64 x2) M
  else
  fX5_ways_84 N x1 x2 k5 k34 x3 x5 x8 x6 (1 : Int64) M
theorem tX5_ways_34 {p : Program} {l : Launch} {e : Env} {s : State} {m : MethodId} {args : Array Value} {below : List Frame} {meth : Method} {c : Code} {D : va_G} {kT : Nat → ClassId} {ρ : Nat → Nat} (C : bw_Cx p s m args meth c cX5_ways 9 RX5 19 D kT ρ (some .long)) (N : Nat) (x1 : Int32) (x2 : Int32)  (k5 : Int64 × Int32 × bw_M → Option (Int64 × bw_M)) (k34 : Int64 × Int32 → Option (Int64 × bw_M)) (x3 : Int64) (x5 : Int32) (x6 : Int64) (x8 : Int32) (M : bw_M) (rr : Int64) (zz : bw_M) (hk5 : ∀ z0, k5 z0 = some (rr, zz) → bw_At p l e rmX5_ways s m args below meth c (MQ below (bw_QL bw_shM 19 D kT ρ rr zz) args s 0 0 (bw_A ρ 19)) bw_shM 19 D kT ρ 9 5 [(0, .ref (ρ 0)), (1, .int x1), (2, .int x2), (3, .long z0.1), (5, .int z0.2.1)] [] z0.2.2) (hk34 : ∀ z0, k34 z0 = some (rr, zz) → bw_At p l e rmX5_ways s m args below meth c (MQ below (bw_QL bw_shM 19 D kT ρ rr zz) args s 0 0 (bw_A ρ 19)) bw_shM 19 D kT ρ 9 34 [(0, .ref (ρ 0)), (1, .int x1), (2, .int x2), (3, .long x3), (5, .int x5), (6, .long z0.1), (8, .int z0.2)] [] M) (h : fX5_ways_34 N x1 x2 k5 k34 x3 x5 x6 x8 M = some (rr, zz)) : bw_At p l e rmX5_ways s m args below meth c (MQ below (bw_QL bw_shM 19 D kT ρ rr zz) args s 0 0 (bw_A ρ 19)) bw_shM 19 D kT ρ 9 34 [(0, .ref (ρ 0)), (1, .int x1), (2, .int x2), (3, .long x3), (5, .int x5), (6, .long x6), (8, .int x8)] [] M := by
  unfold fX5_ways_34 at h
  refine bw_iload (pc := 34) C 6 dX5_ways_34 rfl ?_
  refine bw_aload_n (pc := 36) C 0 dX5_ways_36 rfl rfl ?_
  refine bw_getI (pc := 37) (q := 0) (k0 := 9) C ltM_0 shM_0 rfl inX5 mw_624 (by decide) rfl dX5_ways_37 ?_
  refine bw_icmp_ge (pc := 40) C 93 dX5_ways_40 (by decide) h (fun h => ?_) (fun h => ?_)
  · refine bw_aload_n (pc := 93) C 0 dX5_ways_93 rfl rfl ?_
    obtain ⟨M7, eM7, h⟩ := bw_cl_o h
    refine bw_cVv (pc := 94) (q := 0) (As := []) (rest := []) C (tX5_layAside l N M M7 eM7) msX5_layAside mw_897 rfl rfl ⟨Nat.le_of_ble_eq_true rfl, Nat.le_of_ble_eq_true rfl⟩ ltM_0 shM_0 rfl rfl rfl rfl (Nat.le_of_ble_eq_true rfl) dX5_ways_94 ?_
    refine bw_aload_n (pc := 97) C 0 dX5_ways_97 rfl rfl ?_
    refine bw_getR (pc := 98) (q := 0) (k0 := 14) C ltM_0 shM_0 rfl inX5 mw_629 (by decide) rfl dX5_ways_98 ?_
    refine bw_iconst (pc := 101) (v := (4 : Int32)) C dX5_ways_101 ic_4 ?_
    refine bw_dup2 (pc := 102) C dX5_ways_102 rfl rfl ?_
    obtain ⟨qv8, v8, ev8, h⟩ := bw_rd_o h
    refine bw_iald (pc := 103) (q := 10) C ltM_10 shM_10 qv8 ev8 dX5_ways_103 ?_
    refine bw_iload (pc := 104) C 4 dX5_ways_104 rfl ?_
    refine bw_ior (pc := 106) C dX5_ways_106 ?_
    obtain ⟨qM9, M9, eM9, h⟩ := bw_wr_o h
    refine bw_iast (pc := 107) (q := 10) C ltM_10 shM_10 qM9 eM9 dX5_ways_107 ?_
    refine bw_aload_n (pc := 108) C 0 dX5_ways_108 rfl rfl ?_
    refine bw_aload_n (pc := 109) C 0 dX5_ways_109 rfl rfl ?_
    refine bw_getR (pc := 110) (q := 0) (k0 := 14) C ltM_0 shM_0 rfl inX5 mw_629 (by decide) rfl dX5_ways_110 ?_
    obtain ⟨v10, M11, ev10, h⟩ := bw_c2_o h
    refine bw_cVi (pc := 113) (q := 0) (As := [.ref (ρ 10)]) (rest := []) C (tX5_goes l N 10 17 ltM_10 shM_10 M9 v10 M11 ev10) msX5_goes mw_840 rfl rfl ⟨Nat.le_of_ble_eq_true rfl, Nat.le_of_ble_eq_true rfl⟩ ltM_0 shM_0 rfl rfl rfl rfl (Nat.le_of_ble_eq_true rfl) dX5_ways_113 ?_
    refine bw_istore (pc := 116) (L' := [(8, .int v10), (0, .ref (ρ 0)), (1, .int x1), (2, .int x2), (3, .long x3), (5, .int x5), (6, .long x6)]) C dX5_ways_116 (by decide) rfl ?_
    refine bw_lload_n (pc := 118) C 4 dX5_ways_118 rfl rfl ?_
    refine bw_lload (pc := 119) C 6 dX5_ways_119 rfl ?_
    refine bw_iload_n (pc := 121) C 2 dX5_ways_121 rfl rfl ?_
    refine bw_bipush (pc := 122) (v := (-9 : Int32)) C dX5_ways_122 bi_m9 ?_
    refine bw_icmp_ne (pc := 124) C 136 dX5_ways_124 (by decide) h (fun h => ?_) (fun h => ?_)
    · refine bw_iload (pc := 136) C 0 dX5_ways_136 rfl ?_
      refine bw_iload_n (pc := 138) C 2 dX5_ways_138 rfl rfl ?_
      refine bw_ishr (pc := 139) C dX5_ways_139 ?_
      refine bw_iconst (pc := 140) (v := (1 : Int32)) C dX5_ways_140 ic_1 ?_
      refine bw_iand (pc := 141) C dX5_ways_141 ?_
      refine bw_pick [1, 2, 3, 5] rfl ?_
      exact tX5_ways_142 C N x1 x2 k5 x5 x3 x6 ((v10 >>> (x1 &&& 31)) &&& (1 : Int32)) M11 rr zz hk5 h
    · refine bw_aload_n (pc := 127) C 1 dX5_ways_127 rfl rfl ?_
      refine bw_getR (pc := 128) (q := 0) (k0 := 14) C ltM_0 shM_0 rfl inX5 mw_629 (by decide) rfl dX5_ways_128 ?_
      refine bw_iconst (pc := 131) (v := (0 : Int32)) C dX5_ways_131 ic_0 ?_
      obtain ⟨qv13, v13, ev13, h⟩ := bw_rd_o h
      refine bw_iald (pc := 132) (q := 10) C ltM_10 shM_10 qv13 ev13 dX5_ways_132 ?_
      refine bw_goto (pc := 133) C 142 dX5_ways_133 (by decide) ?_
      refine bw_pick [1, 2, 3, 5] rfl ?_
      exact tX5_ways_142 C N x1 x2 k5 x5 x3 x6 v13 M11 rr zz hk5 h
  · refine bw_lload (pc := 43) C 5 dX5_ways_43 rfl ?_
    refine bw_aload_n (pc := 45) C 0 dX5_ways_45 rfl rfl ?_
    refine bw_getR (pc := 46) (q := 0) (k0 := 13) C ltM_0 shM_0 rfl inX5 mw_628 (by decide) rfl dX5_ways_46 ?_
    refine bw_iconst (pc := 49) (v := (4 : Int32)) C dX5_ways_49 ic_4 ?_
    obtain ⟨qv14, v14, ev14, h⟩ := bw_rd_o h
    refine bw_iald (pc := 50) (q := 9) C ltM_9 shM_9 qv14 ev14 dX5_ways_50 ?_
    refine bw_iload (pc := 51) C 6 dX5_ways_51 rfl ?_
    obtain ⟨v15, ev15, h⟩ := bw_cl_o h
    refine bw_cSi (pc := 53) (As := [.int v14, .int x8]) (rest := [.long x6]) C (tX5_has l v14 x8 M v15 ev15) msX5_has mw_815 rfl rfl ⟨Nat.le_of_ble_eq_true rfl, Nat.le_of_ble_eq_true rfl⟩ rfl rfl rfl (Nat.le_of_ble_eq_true rfl) dX5_ways_53 ?_
    refine bw_if_eq (pc := 56) C 63 dX5_ways_56 (by decide) h (fun h => ?_) (fun h => ?_)
    · refine bw_iload (pc := 63) C 4 dX5_ways_63 rfl ?_
      refine bw_iload (pc := 65) C 6 dX5_ways_65 rfl ?_
      obtain ⟨v16, ev16, h⟩ := bw_cl_o h
      refine bw_cSi (pc := 67) (As := [.int x5, .int x8]) (rest := [.long x6]) C (tX5_has l x5 x8 M v16 ev16) msX5_has mw_815 rfl rfl ⟨Nat.le_of_ble_eq_true rfl, Nat.le_of_ble_eq_true rfl⟩ rfl rfl rfl (Nat.le_of_ble_eq_true rfl) dX5_ways_67 ?_
      refine bw_if_eq (pc := 70) C 78 dX5_ways_70 (by decide) h (fun h => ?_) (fun h => ?_)
      · refine bw_ldc2_w (pc := 78) C mw_995 dX5_ways_78 ?_
        refine bw_iload_n (pc := 81) C 2 dX5_ways_81 rfl rfl ?_
        refine bw_i2l (pc := 82) C dX5_ways_82 ?_
        refine bw_lsub (pc := 83) C dX5_ways_83 ?_
        refine bw_pick [0, 1, 2, 3, 4, 6] rfl ?_
        exact tX5_ways_84 C N x1 x2 k5 k34 x3 x5 x8 x6 ((12 : Int64) - (Int32.toInt64 x2)) M rr zz hk5 hk34 h
      · refine bw_iload_n (pc := 73) C 2 dX5_ways_73 rfl rfl ?_
        refine bw_i2l (pc := 74) C dX5_ways_74 ?_
        refine bw_goto (pc := 75) C 84 dX5_ways_75 (by decide) ?_
        refine bw_pick [0, 1, 2, 3, 4, 6] rfl ?_
        exact tX5_ways_84 C N x1 x2 k5 k34 x3 x5 x8 x6 (Int32.toInt64 x2) M rr zz hk5 hk34 h
    · refine bw_lconst (pc := 59) (v := (1 : Int64)) C dX5_ways_59 rfl ?_
      refine bw_goto (pc := 60) C 84 dX5_ways_60 (by decide) ?_
      refine bw_pick [0, 1, 2, 3, 4, 6] rfl ?_
      exact tX5_ways_84 C N x1 x2 k5 k34 x3 x5 x8 x6 (1 : Int64) M rr zz hk5 hk34 h
def flX5_ways_34 (N : Nat) (x1 : Int32) (x2 : Int32) (k5 : Int64 × Int32 × bw_M → Option (Int64 × bw_M)) (x3 : Int64) (x5 : Int32) (M : bw_M) (fu : Nat) (w : Int64 × Int32) : Option (Int64 × bw_M) := bw_lp (fun kk w => fX5_ways_34 N x1 x2 k5 kk x3 x5 w.1 w.2 M) fu w
theorem tlX5_ways_34 {p : Program} {l : Launch} {e : Env} {s : State} {m : MethodId} {args : Array Value} {below : List Frame} {meth : Method} {c : Code} {D : va_G} {kT : Nat → ClassId} {ρ : Nat → Nat} (C : bw_Cx p s m args meth c cX5_ways 9 RX5 19 D kT ρ (some .long)) (N : Nat) (x1 : Int32) (x2 : Int32)  (k5 : Int64 × Int32 × bw_M → Option (Int64 × bw_M)) (x3 : Int64) (x5 : Int32) (M : bw_M) (rr : Int64) (zz : bw_M) (hk5 : ∀ z0, k5 z0 = some (rr, zz) → bw_At p l e rmX5_ways s m args below meth c (MQ below (bw_QL bw_shM 19 D kT ρ rr zz) args s 0 0 (bw_A ρ 19)) bw_shM 19 D kT ρ 9 5 [(0, .ref (ρ 0)), (1, .int x1), (2, .int x2), (3, .long z0.1), (5, .int z0.2.1)] [] z0.2.2) (fu : Nat) (w : Int64 × Int32) (h : flX5_ways_34 N x1 x2 k5 x3 x5 M fu w = some (rr, zz)) : bw_At p l e rmX5_ways s m args below meth c (MQ below (bw_QL bw_shM 19 D kT ρ rr zz) args s 0 0 (bw_A ρ 19)) bw_shM 19 D kT ρ 9 34 [(0, .ref (ρ 0)), (1, .int x1), (2, .int x2), (3, .long x3), (5, .int x5), (6, .long w.1), (8, .int w.2)] [] M :=
  bw_loop (r := (rr, zz)) (fun w => bw_At p l e rmX5_ways s m args below meth c (MQ below (bw_QL bw_shM 19 D kT ρ rr zz) args s 0 0 (bw_A ρ 19)) bw_shM 19 D kT ρ 9 34 [(0, .ref (ρ 0)), (1, .int x1), (2, .int x2), (3, .long x3), (5, .int x5), (6, .long w.1), (8, .int w.2)] [] M) (fun kk hk w h => tX5_ways_34 C N x1 x2 k5 kk x3 x5 w.1 w.2 M rr zz hk5 hk h) fu w h
def fX5_ways_5 (N : Nat) (x1 : Int32) (x2 : Int32) (k5 : Int64 × Int32 × bw_M → Option (Int64 × bw_M)) (x3 : Int64) (x5 : Int32) (M : bw_M) : Option (Int64 × bw_M) :=
  if ((1 : Int32) <<< ((M.1 0 9) &&& 31)) ≤ x5 then
  some (x3, M)
  else
  bw_rd M 9 17 (4 : Int32) fun v3 =>
  if (x5 &&& v3) = 0 then
  bw_mv (1 : Int64) fun v5 =>
  bw_mv (0 : Int32) fun v6 =>
  flX5_ways_34 N x1 x2 k5 x3 x5 M N (v5, v6)
  else
  fX5_ways_146 N x1 x2 k5 x3 x5 M
theorem tX5_ways_5 {p : Program} {l : Launch} {e : Env} {s : State} {m : MethodId} {args : Array Value} {below : List Frame} {meth : Method} {c : Code} {D : va_G} {kT : Nat → ClassId} {ρ : Nat → Nat} (C : bw_Cx p s m args meth c cX5_ways 9 RX5 19 D kT ρ (some .long)) (N : Nat) (x1 : Int32) (x2 : Int32)  (k5 : Int64 × Int32 × bw_M → Option (Int64 × bw_M)) (x3 : Int64) (x5 : Int32) (M : bw_M) (rr : Int64) (zz : bw_M) (hk5 : ∀ z0, k5 z0 = some (rr, zz) → bw_At p l e rmX5_ways s m args below meth c (MQ below (bw_QL bw_shM 19 D kT ρ rr zz) args s 0 0 (bw_A ρ 19)) bw_shM 19 D kT ρ 9 5 [(0, .ref (ρ 0)), (1, .int x1), (2, .int x2), (3, .long z0.1), (5, .int z0.2.1)] [] z0.2.2) (h : fX5_ways_5 N x1 x2 k5 x3 x5 M = some (rr, zz)) : bw_At p l e rmX5_ways s m args below meth c (MQ below (bw_QL bw_shM 19 D kT ρ rr zz) args s 0 0 (bw_A ρ 19)) bw_shM 19 D kT ρ 9 5 [(0, .ref (ρ 0)), (1, .int x1), (2, .int x2), (3, .long x3), (5, .int x5)] [] M := by
  unfold fX5_ways_5 at h
  refine bw_iload (pc := 5) C 4 dX5_ways_5 rfl ?_
  refine bw_iconst (pc := 7) (v := (1 : Int32)) C dX5_ways_7 ic_1 ?_
  refine bw_aload_n (pc := 8) C 0 dX5_ways_8 rfl rfl ?_
  refine bw_getI (pc := 9) (q := 0) (k0 := 9) C ltM_0 shM_0 rfl inX5 mw_624 (by decide) rfl dX5_ways_9 ?_
  refine bw_ishl (pc := 12) C dX5_ways_12 ?_
  refine bw_icmp_ge (pc := 13) C 152 dX5_ways_13 (by decide) h (fun h => ?_) (fun h => ?_)
  · refine bw_lload_n (pc := 152) C 3 dX5_ways_152 rfl rfl ?_
    exact bw_lreti (pc := 153) C dX5_ways_153 h
  · refine bw_iload (pc := 16) C 4 dX5_ways_16 rfl ?_
    refine bw_aload_n (pc := 18) C 0 dX5_ways_18 rfl rfl ?_
    refine bw_getR (pc := 19) (q := 0) (k0 := 13) C ltM_0 shM_0 rfl inX5 mw_628 (by decide) rfl dX5_ways_19 ?_
    refine bw_iconst (pc := 22) (v := (4 : Int32)) C dX5_ways_22 ic_4 ?_
    obtain ⟨qv3, v3, ev3, h⟩ := bw_rd_o h
    refine bw_iald (pc := 23) (q := 9) C ltM_9 shM_9 qv3 ev3 dX5_ways_23 ?_
    refine bw_iand (pc := 24) C dX5_ways_24 ?_
    refine bw_if_ne (pc := 25) C 146 dX5_ways_25 (by decide) h (fun h => ?_) (fun h => ?_)
    · refine bw_pick [0, 1, 2, 3, 4] rfl ?_
      exact tX5_ways_146 C N x1 x2 k5 x3 x5 M rr zz hk5 h
    · refine bw_lconst (pc := 28) (v := (1 : Int64)) C dX5_ways_28 rfl ?_
      obtain ⟨v5, ev5, h⟩ := bw_mv_o h
      refine bw_nmL ev5 ?_
      refine bw_lstore (pc := 29) (L' := [(6, .long v5), (0, .ref (ρ 0)), (1, .int x1), (2, .int x2), (3, .long x3), (5, .int x5)]) C dX5_ways_29 (by decide) rfl ?_
      refine bw_iconst (pc := 31) (v := (0 : Int32)) C dX5_ways_31 ic_0 ?_
      obtain ⟨v6, ev6, h⟩ := bw_mv_o h
      refine bw_nmI ev6 ?_
      refine bw_istore (pc := 32) (L' := [(8, .int v6), (6, .long v5), (0, .ref (ρ 0)), (1, .int x1), (2, .int x2), (3, .long x3), (5, .int x5)]) C dX5_ways_32 (by decide) rfl ?_
      refine bw_pick [2, 3, 4, 5, 6, 1, 0] rfl ?_
      exact tlX5_ways_34 C N x1 x2 k5 x3 x5 M rr zz hk5 N (v5, v6) h
def flX5_ways_5 (N : Nat) (x1 : Int32) (x2 : Int32)    (fu : Nat) (w : Int64 × Int32 × bw_M) : Option (Int64 × bw_M) := bw_lp (fun kk w => fX5_ways_5 N x1 x2 kk w.1 w.2.1 w.2.2) fu w
theorem tlX5_ways_5 {p : Program} {l : Launch} {e : Env} {s : State} {m : MethodId} {args : Array Value} {below : List Frame} {meth : Method} {c : Code} {D : va_G} {kT : Nat → ClassId} {ρ : Nat → Nat} (C : bw_Cx p s m args meth c cX5_ways 9 RX5 19 D kT ρ (some .long)) (N : Nat) (x1 : Int32) (x2 : Int32)     (rr : Int64) (zz : bw_M)  (fu : Nat) (w : Int64 × Int32 × bw_M) (h : flX5_ways_5 N x1 x2 fu w = some (rr, zz)) : bw_At p l e rmX5_ways s m args below meth c (MQ below (bw_QL bw_shM 19 D kT ρ rr zz) args s 0 0 (bw_A ρ 19)) bw_shM 19 D kT ρ 9 5 [(0, .ref (ρ 0)), (1, .int x1), (2, .int x2), (3, .long w.1), (5, .int w.2.1)] [] w.2.2 :=
  bw_loop (r := (rr, zz)) (fun w => bw_At p l e rmX5_ways s m args below meth c (MQ below (bw_QL bw_shM 19 D kT ρ rr zz) args s 0 0 (bw_A ρ 19)) bw_shM 19 D kT ρ 9 5 [(0, .ref (ρ 0)), (1, .int x1), (2, .int x2), (3, .long w.1), (5, .int w.2.1)] [] w.2.2) (fun kk hk w h => tX5_ways_5 C N x1 x2 kk w.1 w.2.1 w.2.2 rr zz hk h) fu w h
def fX5_ways (N : Nat) (x1 : Int32) (x2 : Int32) (M : bw_M) : Option (Int64 × bw_M) :=
  bw_mv (0 : Int64) fun v1 =>
  bw_mv (0 : Int32) fun v2 =>
  flX5_ways_5 N x1 x2 N (v1, v2, M)
theorem tX5_ways (l : Launch) (N : Nat) (x1 : Int32) (x2 : Int32)  (M : bw_M) (rr : Int64) (zz : bw_M) (h : fX5_ways N x1 x2 M = some (rr, zz)) : bw_CL l bw_shM 19 yX5_ways cX5_ways 9 (some .long) rmX5_ways (fun ρ => [.ref (ρ 0), .int x1, .int x2]) M rr zz := by
  refine bw_inL (Lf := fun ρ => [(0, .ref (ρ 0)), (1, .int x1), (2, .int x2)]) cX5_ways 9 (some .long) RX5 pn_X5 rfl (fun ρ => Nat.le_of_ble_eq_true rfl) (fun ρ => rfl) ?_
  intro p e s m args below meth c D kT ρ C
  unfold fX5_ways at h
  refine bw_lconst (pc := 0) (v := (0 : Int64)) C dX5_ways_0 rfl ?_
  obtain ⟨v1, ev1, h⟩ := bw_mv_o h
  refine bw_nmL ev1 ?_
  refine bw_lstore_n (pc := 1) (L' := [(3, .long v1), (0, .ref (ρ 0)), (1, .int x1), (2, .int x2)]) C dX5_ways_1 rfl (by decide) rfl ?_
  refine bw_iconst (pc := 2) (v := (0 : Int32)) C dX5_ways_2 ic_0 ?_
  obtain ⟨v2, ev2, h⟩ := bw_mv_o h
  refine bw_nmI ev2 ?_
  refine bw_istore (pc := 3) (L' := [(5, .int v2), (3, .long v1), (0, .ref (ρ 0)), (1, .int x1), (2, .int x2)]) C dX5_ways_3 (by decide) rfl ?_
  refine bw_pick [2, 3, 4, 1, 0] rfl ?_
  exact tlX5_ways_5 C N x1 x2 rr zz N (v1, v2, M) h
/-! X5_mid -/
abbrev rmX5_mid : Room := { frames := 5, cells := 0, slots := 0, locals := 118 }
theorem msX5_mid : bw_MV yX5_mid cX5_mid 2 (some .int) RX5 1 := ⟨mw_1009, mw_1010, mw_6, mw_1011, by decide +kernel⟩
def fX5_mid_41 (N : Nat) (x1 : Int32)  (s0 : Int32) (M : bw_M) : Option (Int32 × bw_M) :=
  some (s0, M)
theorem tX5_mid_41 {p : Program} {l : Launch} {e : Env} {s : State} {m : MethodId} {args : Array Value} {below : List Frame} {meth : Method} {c : Code} {D : va_G} {kT : Nat → ClassId} {ρ : Nat → Nat} (C : bw_Cx p s m args meth c cX5_mid 2 RX5 19 D kT ρ (some .int)) (N : Nat) (x1 : Int32)   (s0 : Int32) (M : bw_M) (rr : Int32) (zz : bw_M)  (h : fX5_mid_41 N x1 s0 M = some (rr, zz)) : bw_At p l e rmX5_mid s m args below meth c (MQ below (bw_QI bw_shM 19 D kT ρ rr zz) args s 0 0 (bw_A ρ 19)) bw_shM 19 D kT ρ 2 41 [(0, .ref (ρ 0)), (1, .int x1)] [.int s0] M := by
  unfold fX5_mid_41 at h
  exact bw_ireti (pc := 41) C dX5_mid_41 h
def fX5_mid (N : Nat) (x1 : Int32) (M : bw_M) : Option (Int32 × bw_M) :=
  bw_cl (fX5_in (Int32.toInt64 x1) (0 : Int64) (12 : Int64)) fun v1 =>
  if v1 = 0 then
  some ((-1 : Int32), M)
  else
  if (M.1 0 9) = 0 then
  fX5_mid_41 N x1 (-4 : Int32) M
  else
  bw_c2 (fX5_ways N (-9 : Int32) x1 M) fun v2 M3 =>
  bw_cl (fX5_allWays N M3) fun v4 =>
  bw_c2 (fX5_fraction N v2 v4 M3) fun v5 M6 =>
  fX5_mid_41 N x1 v5 M6
theorem tX5_mid (l : Launch) (N : Nat) (x1 : Int32)  (M : bw_M) (rr : Int32) (zz : bw_M) (h : fX5_mid N x1 M = some (rr, zz)) : bw_CI l bw_shM 19 yX5_mid cX5_mid 2 (some .int) rmX5_mid (fun ρ => [.ref (ρ 0), .int x1]) M rr zz := by
  refine bw_inI (Lf := fun ρ => [(0, .ref (ρ 0)), (1, .int x1)]) cX5_mid 2 (some .int) RX5 pn_X5 rfl (fun ρ => Nat.le_of_ble_eq_true rfl) (fun ρ => rfl) ?_
  intro p e s m args below meth c D kT ρ C
  unfold fX5_mid at h
  refine bw_iload_n (pc := 0) C 1 dX5_mid_0 rfl rfl ?_
  refine bw_i2l (pc := 1) C dX5_mid_1 ?_
  refine bw_lconst (pc := 2) (v := (0 : Int64)) C dX5_mid_2 rfl ?_
  refine bw_ldc2_w (pc := 3) C mw_995 dX5_mid_3 ?_
  obtain ⟨v1, ev1, h⟩ := bw_cl_o h
  refine bw_cSi (pc := 6) (As := [.long (Int32.toInt64 x1), .long (0 : Int64), .long (12 : Int64)]) (rest := []) C (tX5_in l (Int32.toInt64 x1) (0 : Int64) (12 : Int64) M v1 ev1) msX5_in mw_717 rfl rfl ⟨Nat.le_of_ble_eq_true rfl, Nat.le_of_ble_eq_true rfl⟩ rfl rfl rfl (Nat.le_of_ble_eq_true rfl) dX5_mid_6 ?_
  refine bw_if_ne (pc := 9) C 14 dX5_mid_9 (by decide) h (fun h => ?_) (fun h => ?_)
  · refine bw_aload_n (pc := 14) C 0 dX5_mid_14 rfl rfl ?_
    refine bw_getI (pc := 15) (q := 0) (k0 := 9) C ltM_0 shM_0 rfl inX5 mw_624 (by decide) rfl dX5_mid_15 ?_
    refine bw_if_ne (pc := 18) C 26 dX5_mid_18 (by decide) h (fun h => ?_) (fun h => ?_)
    · refine bw_aload_n (pc := 26) C 0 dX5_mid_26 rfl rfl ?_
      refine bw_aload_n (pc := 27) C 0 dX5_mid_27 rfl rfl ?_
      refine bw_bipush (pc := 28) (v := (-9 : Int32)) C dX5_mid_28 bi_m9 ?_
      refine bw_iload_n (pc := 30) C 1 dX5_mid_30 rfl rfl ?_
      obtain ⟨v2, M3, ev2, h⟩ := bw_c2_o h
      refine bw_cVl (pc := 31) (q := 0) (As := [.int (-9 : Int32), .int x1]) (rest := [.ref (ρ 0)]) C (tX5_ways l N (-9 : Int32) x1 M v2 M3 ev2) msX5_ways mw_996 rfl rfl ⟨Nat.le_of_ble_eq_true rfl, Nat.le_of_ble_eq_true rfl⟩ ltM_0 shM_0 rfl rfl rfl rfl (Nat.le_of_ble_eq_true rfl) dX5_mid_31 ?_
      refine bw_aload_n (pc := 34) C 0 dX5_mid_34 rfl rfl ?_
      obtain ⟨v4, ev4, h⟩ := bw_cl_o h
      refine bw_cVl (pc := 35) (q := 0) (As := []) (rest := [.long v2, .ref (ρ 0)]) C (tX5_allWays l N M3 v4 ev4) msX5_allWays mw_1000 rfl rfl ⟨Nat.le_of_ble_eq_true rfl, Nat.le_of_ble_eq_true rfl⟩ ltM_0 shM_0 rfl rfl rfl rfl (Nat.le_of_ble_eq_true rfl) dX5_mid_35 ?_
      obtain ⟨v5, M6, ev5, h⟩ := bw_c2_o h
      refine bw_cVi (pc := 38) (q := 0) (As := [.long v2, .long v4]) (rest := []) C (tX5_fraction l N v2 v4 M3 v5 M6 ev5) msX5_fraction mw_1004 rfl rfl ⟨Nat.le_of_ble_eq_true rfl, Nat.le_of_ble_eq_true rfl⟩ ltM_0 shM_0 rfl rfl rfl rfl (Nat.le_of_ble_eq_true rfl) dX5_mid_38 ?_
      refine bw_pick [0, 1] rfl ?_
      exact tX5_mid_41 C N x1 v5 M6 rr zz h
    · refine bw_bipush (pc := 21) (v := (-4 : Int32)) C dX5_mid_21 bi_m4 ?_
      refine bw_goto (pc := 23) C 41 dX5_mid_23 (by decide) ?_
      refine bw_pick [0, 1] rfl ?_
      exact tX5_mid_41 C N x1 (-4 : Int32) M rr zz h
  · refine bw_iconst (pc := 12) (v := (-1 : Int32)) C dX5_mid_12 ic_m1 ?_
    exact bw_ireti (pc := 13) C dX5_mid_13 h
/-! X5_odds -/
abbrev rmX5_odds : Room := { frames := 5, cells := 0, slots := 0, locals := 118 }
theorem msX5_odds : bw_MV yX5_odds cX5_odds 3 (some .int) RX5 2 := ⟨mw_992, mw_993, mw_6, mw_994, by decide +kernel⟩
def fX5_odds_38 (N : Nat) (x1 : Int32) (x2 : Int32)  (s0 : Int32) (M : bw_M) : Option (Int32 × bw_M) :=
  some (s0, M)
theorem tX5_odds_38 {p : Program} {l : Launch} {e : Env} {s : State} {m : MethodId} {args : Array Value} {below : List Frame} {meth : Method} {c : Code} {D : va_G} {kT : Nat → ClassId} {ρ : Nat → Nat} (C : bw_Cx p s m args meth c cX5_odds 3 RX5 19 D kT ρ (some .int)) (N : Nat) (x1 : Int32) (x2 : Int32)   (s0 : Int32) (M : bw_M) (rr : Int32) (zz : bw_M)  (h : fX5_odds_38 N x1 x2 s0 M = some (rr, zz)) : bw_At p l e rmX5_odds s m args below meth c (MQ below (bw_QI bw_shM 19 D kT ρ rr zz) args s 0 0 (bw_A ρ 19)) bw_shM 19 D kT ρ 3 38 [(0, .ref (ρ 0)), (1, .int x1), (2, .int x2)] [.int s0] M := by
  unfold fX5_odds_38 at h
  exact bw_ireti (pc := 38) C dX5_odds_38 h
def fX5_odds_37 (N : Nat) (x1 : Int32) (x2 : Int32)   (M : bw_M) : Option (Int32 × bw_M) :=
  fX5_odds_38 N x1 x2 (-1 : Int32) M
theorem tX5_odds_37 {p : Program} {l : Launch} {e : Env} {s : State} {m : MethodId} {args : Array Value} {below : List Frame} {meth : Method} {c : Code} {D : va_G} {kT : Nat → ClassId} {ρ : Nat → Nat} (C : bw_Cx p s m args meth c cX5_odds 3 RX5 19 D kT ρ (some .int)) (N : Nat) (x1 : Int32) (x2 : Int32)    (M : bw_M) (rr : Int32) (zz : bw_M)  (h : fX5_odds_37 N x1 x2 M = some (rr, zz)) : bw_At p l e rmX5_odds s m args below meth c (MQ below (bw_QI bw_shM 19 D kT ρ rr zz) args s 0 0 (bw_A ρ 19)) bw_shM 19 D kT ρ 3 37 [(0, .ref (ρ 0)), (1, .int x1), (2, .int x2)] [] M := by
  unfold fX5_odds_37 at h
  refine bw_iconst (pc := 37) (v := (-1 : Int32)) C dX5_odds_37 ic_m1 ?_
  refine bw_pick [0, 1, 2] rfl ?_
  exact tX5_odds_38 C N x1 x2 (-1 : Int32) M rr zz h
def fX5_odds (N : Nat) (x1 : Int32) (x2 : Int32) (M : bw_M) : Option (Int32 × bw_M) :=
  bw_cl (fX5_isPipe x1 M) fun v1 =>
  if v1 = 0 then
  fX5_odds_37 N x1 x2 M
  else
  bw_cl (fX5_in (Int32.toInt64 x2) (0 : Int64) (12 : Int64)) fun v2 =>
  if v2 = 0 then
  fX5_odds_37 N x1 x2 M
  else
  bw_c2 (fX5_ways N x1 x2 M) fun v3 M4 =>
  bw_cl (fX5_allWays N M4) fun v5 =>
  bw_c2 (fX5_fraction N v3 v5 M4) fun v6 M7 =>
  fX5_odds_38 N x1 x2 v6 M7
theorem tX5_odds (l : Launch) (N : Nat) (x1 : Int32) (x2 : Int32)  (M : bw_M) (rr : Int32) (zz : bw_M) (h : fX5_odds N x1 x2 M = some (rr, zz)) : bw_CI l bw_shM 19 yX5_odds cX5_odds 3 (some .int) rmX5_odds (fun ρ => [.ref (ρ 0), .int x1, .int x2]) M rr zz := by
  refine bw_inI (Lf := fun ρ => [(0, .ref (ρ 0)), (1, .int x1), (2, .int x2)]) cX5_odds 3 (some .int) RX5 pn_X5 rfl (fun ρ => Nat.le_of_ble_eq_true rfl) (fun ρ => rfl) ?_
  intro p e s m args below meth c D kT ρ C
  unfold fX5_odds at h
  refine bw_aload_n (pc := 0) C 0 dX5_odds_0 rfl rfl ?_
  refine bw_iload_n (pc := 1) C 1 dX5_odds_1 rfl rfl ?_
  obtain ⟨v1, ev1, h⟩ := bw_cl_o h
  refine bw_cVi (pc := 2) (q := 0) (As := [.int x1]) (rest := []) C (tX5_isPipe l x1 M v1 ev1) msX5_isPipe mw_799 rfl rfl ⟨Nat.le_of_ble_eq_true rfl, Nat.le_of_ble_eq_true rfl⟩ ltM_0 shM_0 rfl rfl rfl rfl (Nat.le_of_ble_eq_true rfl) dX5_odds_2 ?_
  refine bw_if_eq (pc := 5) C 37 dX5_odds_5 (by decide) h (fun h => ?_) (fun h => ?_)
  · refine bw_pick [0, 1, 2] rfl ?_
    exact tX5_odds_37 C N x1 x2 M rr zz h
  · refine bw_iload_n (pc := 8) C 2 dX5_odds_8 rfl rfl ?_
    refine bw_i2l (pc := 9) C dX5_odds_9 ?_
    refine bw_lconst (pc := 10) (v := (0 : Int64)) C dX5_odds_10 rfl ?_
    refine bw_ldc2_w (pc := 11) C mw_995 dX5_odds_11 ?_
    obtain ⟨v2, ev2, h⟩ := bw_cl_o h
    refine bw_cSi (pc := 14) (As := [.long (Int32.toInt64 x2), .long (0 : Int64), .long (12 : Int64)]) (rest := []) C (tX5_in l (Int32.toInt64 x2) (0 : Int64) (12 : Int64) M v2 ev2) msX5_in mw_717 rfl rfl ⟨Nat.le_of_ble_eq_true rfl, Nat.le_of_ble_eq_true rfl⟩ rfl rfl rfl (Nat.le_of_ble_eq_true rfl) dX5_odds_14 ?_
    refine bw_if_eq (pc := 17) C 37 dX5_odds_17 (by decide) h (fun h => ?_) (fun h => ?_)
    · refine bw_pick [0, 1, 2] rfl ?_
      exact tX5_odds_37 C N x1 x2 M rr zz h
    · refine bw_aload_n (pc := 20) C 0 dX5_odds_20 rfl rfl ?_
      refine bw_aload_n (pc := 21) C 0 dX5_odds_21 rfl rfl ?_
      refine bw_iload_n (pc := 22) C 1 dX5_odds_22 rfl rfl ?_
      refine bw_iload_n (pc := 23) C 2 dX5_odds_23 rfl rfl ?_
      obtain ⟨v3, M4, ev3, h⟩ := bw_c2_o h
      refine bw_cVl (pc := 24) (q := 0) (As := [.int x1, .int x2]) (rest := [.ref (ρ 0)]) C (tX5_ways l N x1 x2 M v3 M4 ev3) msX5_ways mw_996 rfl rfl ⟨Nat.le_of_ble_eq_true rfl, Nat.le_of_ble_eq_true rfl⟩ ltM_0 shM_0 rfl rfl rfl rfl (Nat.le_of_ble_eq_true rfl) dX5_odds_24 ?_
      refine bw_aload_n (pc := 27) C 0 dX5_odds_27 rfl rfl ?_
      obtain ⟨v5, ev5, h⟩ := bw_cl_o h
      refine bw_cVl (pc := 28) (q := 0) (As := []) (rest := [.long v3, .ref (ρ 0)]) C (tX5_allWays l N M4 v5 ev5) msX5_allWays mw_1000 rfl rfl ⟨Nat.le_of_ble_eq_true rfl, Nat.le_of_ble_eq_true rfl⟩ ltM_0 shM_0 rfl rfl rfl rfl (Nat.le_of_ble_eq_true rfl) dX5_odds_28 ?_
      obtain ⟨v6, M7, ev6, h⟩ := bw_c2_o h
      refine bw_cVi (pc := 31) (q := 0) (As := [.long v3, .long v5]) (rest := []) C (tX5_fraction l N v3 v5 M4 v6 M7 ev6) msX5_fraction mw_1004 rfl rfl ⟨Nat.le_of_ble_eq_true rfl, Nat.le_of_ble_eq_true rfl⟩ ltM_0 shM_0 rfl rfl rfl rfl (Nat.le_of_ble_eq_true rfl) dX5_odds_31 ?_
      refine bw_goto (pc := 34) C 38 dX5_odds_34 (by decide) ?_
      refine bw_pick [0, 1, 2] rfl ?_
      exact tX5_odds_38 C N x1 x2 v6 M7 rr zz h
/-! X5_on -/
abbrev rmX5_on : Room := { frames := 1, cells := 0, slots := 0, locals := 25 }
theorem msX5_on : bw_MV yX5_on cX5_on 2 (some .int) RX5 1 := ⟨mw_884, mw_885, mw_6, mw_886, by decide +kernel⟩
def fX5_on (N : Nat) (x1 : Int32) (M : bw_M) : Option (Int32 × bw_M) :=
  bw_cl (fX5_in (Int32.toInt64 x1) (0 : Int64) (2 : Int64)) fun v1 =>
  if v1 = 0 then
  some ((-1 : Int32), M)
  else
  bw_rd M 12 2094 ((698 : Int32) * x1) fun v2 =>
  if 0 ≤ v2 then
  bw_rd M 12 2094 ((698 : Int32) * x1) fun v3 =>
  bw_mv (bw_pI M 0 16 v3) fun M4 =>
  bw_cl (fX5_copies N 12 2094 (((698 : Int32) * x1) + (1 : Int32)) 9 17 (0 : Int32) (17 : Int32) M4) fun M5 =>
  bw_cl (fX5_copies N 12 2094 ((((698 : Int32) * x1) + (1 : Int32)) + (17 : Int32)) 11 680 (0 : Int32) (680 : Int32) M5) fun M6 =>
  some ((M6.1 0 16), M6)
  else
  bw_c2 (fX5_found (1 : Int32) M) fun v7 M8 =>
  some (v7, M8)
theorem tX5_on (l : Launch) (N : Nat) (x1 : Int32)  (M : bw_M) (rr : Int32) (zz : bw_M) (h : fX5_on N x1 M = some (rr, zz)) : bw_CI l bw_shM 19 yX5_on cX5_on 2 (some .int) rmX5_on (fun ρ => [.ref (ρ 0), .int x1]) M rr zz := by
  refine bw_inI (Lf := fun ρ => [(0, .ref (ρ 0)), (1, .int x1)]) cX5_on 2 (some .int) RX5 pn_X5 rfl (fun ρ => Nat.le_of_ble_eq_true rfl) (fun ρ => rfl) ?_
  intro p e s m args below meth c D kT ρ C
  unfold fX5_on at h
  refine bw_iload_n (pc := 0) C 1 dX5_on_0 rfl rfl ?_
  refine bw_i2l (pc := 1) C dX5_on_1 ?_
  refine bw_lconst (pc := 2) (v := (0 : Int64)) C dX5_on_2 rfl ?_
  refine bw_ldc2_w (pc := 3) C mw_882 dX5_on_3 ?_
  obtain ⟨v1, ev1, h⟩ := bw_cl_o h
  refine bw_cSi (pc := 6) (As := [.long (Int32.toInt64 x1), .long (0 : Int64), .long (2 : Int64)]) (rest := []) C (tX5_in l (Int32.toInt64 x1) (0 : Int64) (2 : Int64) M v1 ev1) msX5_in mw_717 rfl rfl ⟨Nat.le_of_ble_eq_true rfl, Nat.le_of_ble_eq_true rfl⟩ rfl rfl rfl (Nat.le_of_ble_eq_true rfl) dX5_on_6 ?_
  refine bw_if_ne (pc := 9) C 14 dX5_on_9 (by decide) h (fun h => ?_) (fun h => ?_)
  · refine bw_aload_n (pc := 14) C 0 dX5_on_14 rfl rfl ?_
    refine bw_getR (pc := 15) (q := 0) (k0 := 17) C ltM_0 shM_0 rfl inX5 mw_632 (by decide) rfl dX5_on_15 ?_
    refine bw_sipush (pc := 18) (v := (698 : Int32)) C dX5_on_18 si_698 ?_
    refine bw_iload_n (pc := 21) C 1 dX5_on_21 rfl rfl ?_
    refine bw_imul (pc := 22) C dX5_on_22 ?_
    obtain ⟨qv2, v2, ev2, h⟩ := bw_rd_o h
    refine bw_iald (pc := 23) (q := 12) C ltM_12 shM_12 qv2 ev2 dX5_on_23 ?_
    refine bw_if_ge (pc := 24) C 33 dX5_on_24 (by decide) h (fun h => ?_) (fun h => ?_)
    · refine bw_aload_n (pc := 33) C 0 dX5_on_33 rfl rfl ?_
      refine bw_aload_n (pc := 34) C 0 dX5_on_34 rfl rfl ?_
      refine bw_getR (pc := 35) (q := 0) (k0 := 17) C ltM_0 shM_0 rfl inX5 mw_632 (by decide) rfl dX5_on_35 ?_
      refine bw_sipush (pc := 38) (v := (698 : Int32)) C dX5_on_38 si_698 ?_
      refine bw_iload_n (pc := 41) C 1 dX5_on_41 rfl rfl ?_
      refine bw_imul (pc := 42) C dX5_on_42 ?_
      obtain ⟨qv3, v3, ev3, h⟩ := bw_rd_o h
      refine bw_iald (pc := 43) (q := 12) C ltM_12 shM_12 qv3 ev3 dX5_on_43 ?_
      obtain ⟨M4, eM4, h⟩ := bw_mv_o h
      refine bw_putI (pc := 44) (q := 0) (k0 := 16) C ltM_0 shM_0 rfl inX5 mw_631 (by decide) tyX5 tyX5_ok nmX5 rfl rfl rfl eM4 rfl rfl dX5_on_44 ?_
      refine bw_aload_n (pc := 47) C 0 dX5_on_47 rfl rfl ?_
      refine bw_getR (pc := 48) (q := 0) (k0 := 17) C ltM_0 shM_0 rfl inX5 mw_632 (by decide) rfl dX5_on_48 ?_
      refine bw_sipush (pc := 51) (v := (698 : Int32)) C dX5_on_51 si_698 ?_
      refine bw_iload_n (pc := 54) C 1 dX5_on_54 rfl rfl ?_
      refine bw_imul (pc := 55) C dX5_on_55 ?_
      refine bw_iconst (pc := 56) (v := (1 : Int32)) C dX5_on_56 ic_1 ?_
      refine bw_iadd (pc := 57) C dX5_on_57 ?_
      refine bw_aload_n (pc := 58) C 0 dX5_on_58 rfl rfl ?_
      refine bw_getR (pc := 59) (q := 0) (k0 := 13) C ltM_0 shM_0 rfl inX5 mw_628 (by decide) rfl dX5_on_59 ?_
      refine bw_iconst (pc := 62) (v := (0 : Int32)) C dX5_on_62 ic_0 ?_
      refine bw_bipush (pc := 63) (v := (17 : Int32)) C dX5_on_63 bi_17 ?_
      obtain ⟨M5, eM5, h⟩ := bw_cl_o h
      refine bw_cSv (pc := 65) (As := [.ref (ρ 12), .int (((698 : Int32) * x1) + (1 : Int32)), .ref (ρ 9), .int (0 : Int32), .int (17 : Int32)]) (rest := []) C (tX5_copies l N 12 2094 (((698 : Int32) * x1) + (1 : Int32)) 9 17 (0 : Int32) (17 : Int32) ltM_12 shM_12 ltM_9 shM_9 M4 M5 eM5) msX5_copies mw_837 rfl rfl ⟨Nat.le_of_ble_eq_true rfl, Nat.le_of_ble_eq_true rfl⟩ rfl rfl rfl (Nat.le_of_ble_eq_true rfl) dX5_on_65 ?_
      refine bw_aload_n (pc := 68) C 0 dX5_on_68 rfl rfl ?_
      refine bw_getR (pc := 69) (q := 0) (k0 := 17) C ltM_0 shM_0 rfl inX5 mw_632 (by decide) rfl dX5_on_69 ?_
      refine bw_sipush (pc := 72) (v := (698 : Int32)) C dX5_on_72 si_698 ?_
      refine bw_iload_n (pc := 75) C 1 dX5_on_75 rfl rfl ?_
      refine bw_imul (pc := 76) C dX5_on_76 ?_
      refine bw_iconst (pc := 77) (v := (1 : Int32)) C dX5_on_77 ic_1 ?_
      refine bw_iadd (pc := 78) C dX5_on_78 ?_
      refine bw_bipush (pc := 79) (v := (17 : Int32)) C dX5_on_79 bi_17 ?_
      refine bw_iadd (pc := 81) C dX5_on_81 ?_
      refine bw_aload_n (pc := 82) C 0 dX5_on_82 rfl rfl ?_
      refine bw_getR (pc := 83) (q := 0) (k0 := 15) C ltM_0 shM_0 rfl inX5 mw_630 (by decide) rfl dX5_on_83 ?_
      refine bw_iconst (pc := 86) (v := (0 : Int32)) C dX5_on_86 ic_0 ?_
      refine bw_sipush (pc := 87) (v := (680 : Int32)) C dX5_on_87 si_680 ?_
      obtain ⟨M6, eM6, h⟩ := bw_cl_o h
      refine bw_cSv (pc := 90) (As := [.ref (ρ 12), .int ((((698 : Int32) * x1) + (1 : Int32)) + (17 : Int32)), .ref (ρ 11), .int (0 : Int32), .int (680 : Int32)]) (rest := []) C (tX5_copies l N 12 2094 ((((698 : Int32) * x1) + (1 : Int32)) + (17 : Int32)) 11 680 (0 : Int32) (680 : Int32) ltM_12 shM_12 ltM_11 shM_11 M5 M6 eM6) msX5_copies mw_837 rfl rfl ⟨Nat.le_of_ble_eq_true rfl, Nat.le_of_ble_eq_true rfl⟩ rfl rfl rfl (Nat.le_of_ble_eq_true rfl) dX5_on_90 ?_
      refine bw_aload_n (pc := 93) C 0 dX5_on_93 rfl rfl ?_
      refine bw_getI (pc := 94) (q := 0) (k0 := 16) C ltM_0 shM_0 rfl inX5 mw_631 (by decide) rfl dX5_on_94 ?_
      exact bw_ireti (pc := 97) C dX5_on_97 h
    · refine bw_aload_n (pc := 27) C 0 dX5_on_27 rfl rfl ?_
      refine bw_iconst (pc := 28) (v := (1 : Int32)) C dX5_on_28 ic_1 ?_
      obtain ⟨v7, M8, ev7, h⟩ := bw_c2_o h
      refine bw_cVi (pc := 29) (q := 0) (As := [.int (1 : Int32)]) (rest := []) C (tX5_found l (1 : Int32) M v7 M8 ev7) msX5_found mw_720 rfl rfl ⟨Nat.le_of_ble_eq_true rfl, Nat.le_of_ble_eq_true rfl⟩ ltM_0 shM_0 rfl rfl rfl rfl (Nat.le_of_ble_eq_true rfl) dX5_on_29 ?_
      exact bw_ireti (pc := 32) C dX5_on_32 h
  · refine bw_iconst (pc := 12) (v := (-1 : Int32)) C dX5_on_12 ic_m1 ?_
    exact bw_ireti (pc := 13) C dX5_on_13 h
