/-! X2_signAt -/
abbrev rmX2_signAt : Room := { frames := 0, cells := 0, slots := 0, locals := 0 }
theorem msX2_signAt : bw_MV yX2_signAt cX2_signAt 2 (some .int) RX2 1 := ⟨mw_248, mw_1069, mw_2, mw_249, by decide +kernel⟩
def fX2_signAt_28 (x1 : Int32)   (M : bw_M) : Option (Int32) :=
  some (1000 : Int32)
theorem tX2_signAt_28 {p : Program} {l : Launch} {e : Env} {s : State} {m : MethodId} {args : Array Value} {below : List Frame} {meth : Method} {c : Code} {D : va_G} {kT : Nat → ClassId} {ρ : Nat → Nat} (C : bw_Cx p s m args meth c cX2_signAt 2 RX2 45 D kT ρ (some .int)) (x1 : Int32)    (M : bw_M) (rr : Int32)  (h : fX2_signAt_28 x1 M = some rr) : bw_At p l e rmX2_signAt s m args below meth c (MQ below (bw_QI bw_shC 45 D kT ρ rr M) args s 0 0 (bw_A ρ 45)) bw_shC 45 D kT ρ 2 28 [(0, .ref (ρ 15)), (1, .int x1)] [] M := by
  unfold fX2_signAt_28 at h
  refine bw_sipush (pc := 28) (v := (1000 : Int32)) C dX2_signAt_28 si_1000 ?_
  exact bw_ireti (pc := 31) C dX2_signAt_31 (bw_pr M h)
def fX2_signAt (x1 : Int32) (M : bw_M) : Option (Int32) :=
  bw_cr M.2.2 (
  fX2_signAt_28 x1 M) fun b1 => bw_ck (bw_isB b1) (
  if x1 < 0 then
  fX2_signAt_28 x1 M
  else
  if (M.1 15 1) ≤ x1 then
  fX2_signAt_28 x1 M
  else
  bw_cr M.2.2 (
  none) fun b3 => bw_ck (bw_isB b3) (
  if x1 < (Int32.ofNat 60) then
  bw_cr M.2.2 (
  none) fun b5 => bw_ck (bw_isB b5) (
  bw_rd M b5 60 x1 fun v7 =>
  some v7)
  else
  fX2_signAt_28 x1 M))
theorem tX2_signAt (l : Launch) (x1 : Int32)  (M : bw_M) (rr : Int32) (h : fX2_signAt x1 M = some rr) : bw_CI l bw_shC 45 yX2_signAt cX2_signAt 2 (some .int) rmX2_signAt (fun ρ => [.ref (ρ 15), .int x1]) M rr M := by
  refine bw_inI (Lf := fun ρ => [(0, .ref (ρ 15)), (1, .int x1)]) cX2_signAt 2 (some .int) RX2 pn_X2 rfl (fun ρ => Nat.le_of_ble_eq_true rfl) (fun ρ => rfl) ?_
  intro p e s m args below meth c D kT ρ C
  unfold fX2_signAt at h
  refine bw_aload_n (pc := 0) C 0 dX2_signAt_0 rfl rfl ?_
  refine bw_getM (pc := 1) (q := 15) (k0 := 0) C ltC_15 shC_15 rfl inX2 mw_29 (by decide) rfl dX2_signAt_1 ?_
  rcases bw_cr_o h with ⟨eb1, h⟩ | ⟨b1, eb1, h⟩
  · refine bw_rfN eb1 ?_
    refine bw_ifnullN (pc := 4) C 28 dX2_signAt_4 (by decide) ?_
    refine bw_pick [0, 1] rfl ?_
    exact tX2_signAt_28 C x1 M rr h
  · obtain ⟨q2, h⟩ := bw_ck_o h
    refine bw_rfS eb1 ?_
    refine bw_ifnullS (pc := 4) C dX2_signAt_4 ?_
    refine bw_iload_n (pc := 7) C 1 dX2_signAt_7 rfl rfl ?_
    refine bw_if_lt (pc := 8) C 28 dX2_signAt_8 (by decide) h (fun h => ?_) (fun h => ?_)
    · refine bw_pick [0, 1] rfl ?_
      exact tX2_signAt_28 C x1 M rr h
    · refine bw_iload_n (pc := 11) C 1 dX2_signAt_11 rfl rfl ?_
      refine bw_aload_n (pc := 12) C 0 dX2_signAt_12 rfl rfl ?_
      refine bw_getI (pc := 13) (q := 15) (k0 := 1) C ltC_15 shC_15 rfl inX2 mw_30 (by decide) rfl dX2_signAt_13 ?_
      refine bw_icmp_ge (pc := 16) C 28 dX2_signAt_16 (by decide) h (fun h => ?_) (fun h => ?_)
      · refine bw_pick [0, 1] rfl ?_
        exact tX2_signAt_28 C x1 M rr h
      · refine bw_iload_n (pc := 19) C 1 dX2_signAt_19 rfl rfl ?_
        refine bw_aload_n (pc := 20) C 0 dX2_signAt_20 rfl rfl ?_
        refine bw_getM (pc := 21) (q := 15) (k0 := 0) C ltC_15 shC_15 rfl inX2 mw_29 (by decide) rfl dX2_signAt_21 ?_
        rcases bw_cr_o h with ⟨eb3, h⟩ | ⟨b3, eb3, h⟩
        · cases h
        · obtain ⟨q4, h⟩ := bw_ck_o h
          refine bw_rfS eb3 ?_
          refine bw_alen (pc := 24) (q := b3) (v := (Int32.ofNat 60)) C (ltC_B q4) (shC_B q4) (by decide) rfl dX2_signAt_24 ?_
          refine bw_icmp_lt (pc := 25) C 32 dX2_signAt_25 (by decide) h (fun h => ?_) (fun h => ?_)
          · refine bw_aload_n (pc := 32) C 0 dX2_signAt_32 rfl rfl ?_
            refine bw_getM (pc := 33) (q := 15) (k0 := 0) C ltC_15 shC_15 rfl inX2 mw_29 (by decide) rfl dX2_signAt_33 ?_
            rcases bw_cr_o h with ⟨eb5, h⟩ | ⟨b5, eb5, h⟩
            · cases h
            · obtain ⟨q6, h⟩ := bw_ck_o h
              refine bw_rfS eb5 ?_
              refine bw_iload_n (pc := 36) C 1 dX2_signAt_36 rfl rfl ?_
              obtain ⟨qv7, v7, ev7, h⟩ := bw_rd_o h
              refine bw_bald (pc := 37) (q := b5) C (ltC_B q6) (shC_B q6) qv7 ev7 dX2_signAt_37 ?_
              exact bw_ireti (pc := 38) C dX2_signAt_38 (bw_pr M h)
          · refine bw_pick [0, 1] rfl ?_
            exact tX2_signAt_28 C x1 M rr h
/-! X2_figureAt -/
abbrev rmX2_figureAt : Room := { frames := 1, cells := 0, slots := 0, locals := 21 }
theorem msX2_figureAt : bw_MV yX2_figureAt cX2_figureAt 3 (some .int) RX2 1 := ⟨mw_256, mw_1071, mw_2, mw_257, by decide +kernel⟩
def fX2_figureAt_27 (x1 : Int32)  (s0 : Int32) (M : bw_M) : Option (Int32) :=
  some s0
theorem tX2_figureAt_27 {p : Program} {l : Launch} {e : Env} {s : State} {m : MethodId} {args : Array Value} {below : List Frame} {meth : Method} {c : Code} {D : va_G} {kT : Nat → ClassId} {ρ : Nat → Nat} (C : bw_Cx p s m args meth c cX2_figureAt 3 RX2 45 D kT ρ (some .int)) (x1 : Int32)   (s0 : Int32) (M : bw_M) (rr : Int32)  (h : fX2_figureAt_27 x1 s0 M = some rr) : bw_At p l e rmX2_figureAt s m args below meth c (MQ below (bw_QI bw_shC 45 D kT ρ rr M) args s 0 0 (bw_A ρ 45)) bw_shC 45 D kT ρ 3 27 [(0, .ref (ρ 15)), (1, .int x1)] [.int s0] M := by
  unfold fX2_figureAt_27 at h
  exact bw_ireti (pc := 27) C dX2_figureAt_27 (bw_pr M h)
def fX2_figureAt_25 (x1 : Int32)   (M : bw_M) : Option (Int32) :=
  fX2_figureAt_27 x1 (-9 : Int32) M
theorem tX2_figureAt_25 {p : Program} {l : Launch} {e : Env} {s : State} {m : MethodId} {args : Array Value} {below : List Frame} {meth : Method} {c : Code} {D : va_G} {kT : Nat → ClassId} {ρ : Nat → Nat} (C : bw_Cx p s m args meth c cX2_figureAt 3 RX2 45 D kT ρ (some .int)) (x1 : Int32)    (M : bw_M) (rr : Int32)  (h : fX2_figureAt_25 x1 M = some rr) : bw_At p l e rmX2_figureAt s m args below meth c (MQ below (bw_QI bw_shC 45 D kT ρ rr M) args s 0 0 (bw_A ρ 45)) bw_shC 45 D kT ρ 3 25 [(0, .ref (ρ 15)), (1, .int x1)] [] M := by
  unfold fX2_figureAt_25 at h
  refine bw_bipush (pc := 25) (v := (-9 : Int32)) C dX2_figureAt_25 bi_m9 ?_
  refine bw_pick [0, 1] rfl ?_
  exact tX2_figureAt_27 C x1 (-9 : Int32) M rr h
def fX2_figureAt (x1 : Int32) (M : bw_M) : Option (Int32) :=
  bw_cl (fX2_signAt x1 M) fun v1 =>
  if v1 < (48 : Int32) then
  fX2_figureAt_25 x1 M
  else
  if (57 : Int32) < v1 then
  fX2_figureAt_25 x1 M
  else
  fX2_figureAt_27 x1 (v1 - (48 : Int32)) M
theorem tX2_figureAt (l : Launch) (x1 : Int32)  (M : bw_M) (rr : Int32) (h : fX2_figureAt x1 M = some rr) : bw_CI l bw_shC 45 yX2_figureAt cX2_figureAt 3 (some .int) rmX2_figureAt (fun ρ => [.ref (ρ 15), .int x1]) M rr M := by
  refine bw_inI (Lf := fun ρ => [(0, .ref (ρ 15)), (1, .int x1)]) cX2_figureAt 3 (some .int) RX2 pn_X2 rfl (fun ρ => Nat.le_of_ble_eq_true rfl) (fun ρ => rfl) ?_
  intro p e s m args below meth c D kT ρ C
  unfold fX2_figureAt at h
  refine bw_aload_n (pc := 0) C 0 dX2_figureAt_0 rfl rfl ?_
  refine bw_iload_n (pc := 1) C 1 dX2_figureAt_1 rfl rfl ?_
  obtain ⟨v1, ev1, h⟩ := bw_cl_o h
  refine bw_cVi (pc := 2) (q := 15) (As := [.int x1]) (rest := []) C (tX2_signAt l x1 M v1 ev1) msX2_signAt mw_246 rfl rfl ⟨Nat.le_of_ble_eq_true rfl, Nat.le_of_ble_eq_true rfl⟩ ltC_15 shC_15 rfl rfl rfl rfl (Nat.le_of_ble_eq_true rfl) dX2_figureAt_2 ?_
  refine bw_istore_n (pc := 5) (L' := [(2, .int v1), (0, .ref (ρ 15)), (1, .int x1)]) C dX2_figureAt_5 rfl (by decide) rfl ?_
  refine bw_iload_n (pc := 6) C 0 dX2_figureAt_6 rfl rfl ?_
  refine bw_bipush (pc := 7) (v := (48 : Int32)) C dX2_figureAt_7 bi_48 ?_
  refine bw_icmp_lt (pc := 9) C 25 dX2_figureAt_9 (by decide) h (fun h => ?_) (fun h => ?_)
  · refine bw_pick [1, 2] rfl ?_
    exact tX2_figureAt_25 C x1 M rr h
  · refine bw_iload_n (pc := 12) C 0 dX2_figureAt_12 rfl rfl ?_
    refine bw_bipush (pc := 13) (v := (57 : Int32)) C dX2_figureAt_13 bi_57 ?_
    refine bw_icmp_gt (pc := 15) C 25 dX2_figureAt_15 (by decide) h (fun h => ?_) (fun h => ?_)
    · refine bw_pick [1, 2] rfl ?_
      exact tX2_figureAt_25 C x1 M rr h
    · refine bw_iload_n (pc := 18) C 0 dX2_figureAt_18 rfl rfl ?_
      refine bw_bipush (pc := 19) (v := (48 : Int32)) C dX2_figureAt_19 bi_48 ?_
      refine bw_isub (pc := 21) C dX2_figureAt_21 ?_
      refine bw_goto (pc := 22) C 27 dX2_figureAt_22 (by decide) ?_
      refine bw_pick [1, 2] rfl ?_
      exact tX2_figureAt_27 C x1 (v1 - (48 : Int32)) M rr h
/-! X2_passBlanks -/
abbrev rmX2_passBlanks : Room := { frames := 1, cells := 0, slots := 0, locals := 21 }
theorem msX2_passBlanks : bw_MV yX2_passBlanks cX2_passBlanks 2 none RX2 0 := ⟨mw_244, mw_1068, mw_2, mw_245, by decide +kernel⟩
def fX2_passBlanks_37 (N : Nat)    (M : bw_M) : Option (bw_M) :=
  some M
theorem tX2_passBlanks_37 {p : Program} {l : Launch} {e : Env} {s : State} {m : MethodId} {args : Array Value} {below : List Frame} {meth : Method} {c : Code} {D : va_G} {kT : Nat → ClassId} {ρ : Nat → Nat} (C : bw_Cx p s m args meth c cX2_passBlanks 2 RX2 45 D kT ρ none) (N : Nat)     (M : bw_M) (zz : bw_M)  (h : fX2_passBlanks_37 N M = some zz) : bw_At p l e rmX2_passBlanks s m args below meth c (MQ below (bw_QV bw_shC 45 D kT ρ zz) args s 0 0 (bw_A ρ 45)) bw_shC 45 D kT ρ 2 37 [(0, .ref (ρ 15))] [] M := by
  unfold fX2_passBlanks_37 at h
  exact bw_vreti (pc := 37) C dX2_passBlanks_37 h
def fX2_passBlanks_2 (N : Nat)  (k2 : Int32 × bw_M → Option (bw_M)) (x1 : Int32) (M : bw_M) : Option (bw_M) :=
  if (60 : Int32) ≤ x1 then
  fX2_passBlanks_37 N M
  else
  bw_cl (fX2_signAt (M.1 15 2) M) fun v2 =>
  if v2 = (32 : Int32) then
  bw_mv (bw_pI M 15 2 ((M.1 15 2) + (1 : Int32))) fun M3 =>
  bw_mv (x1 + 1) fun v4 =>
  k2 (v4, M3)
  else
  fX2_passBlanks_37 N M
theorem tX2_passBlanks_2 {p : Program} {l : Launch} {e : Env} {s : State} {m : MethodId} {args : Array Value} {below : List Frame} {meth : Method} {c : Code} {D : va_G} {kT : Nat → ClassId} {ρ : Nat → Nat} (C : bw_Cx p s m args meth c cX2_passBlanks 2 RX2 45 D kT ρ none) (N : Nat)   (k2 : Int32 × bw_M → Option (bw_M)) (x1 : Int32) (M : bw_M) (zz : bw_M) (hk2 : ∀ z0, k2 z0 = some zz → bw_At p l e rmX2_passBlanks s m args below meth c (MQ below (bw_QV bw_shC 45 D kT ρ zz) args s 0 0 (bw_A ρ 45)) bw_shC 45 D kT ρ 2 2 [(0, .ref (ρ 15)), (1, .int z0.1)] [] z0.2) (h : fX2_passBlanks_2 N k2 x1 M = some zz) : bw_At p l e rmX2_passBlanks s m args below meth c (MQ below (bw_QV bw_shC 45 D kT ρ zz) args s 0 0 (bw_A ρ 45)) bw_shC 45 D kT ρ 2 2 [(0, .ref (ρ 15)), (1, .int x1)] [] M := by
  unfold fX2_passBlanks_2 at h
  refine bw_iload_n (pc := 2) C 1 dX2_passBlanks_2 rfl rfl ?_
  refine bw_bipush (pc := 3) (v := (60 : Int32)) C dX2_passBlanks_3 bi_60 ?_
  refine bw_icmp_ge (pc := 5) C 37 dX2_passBlanks_5 (by decide) h (fun h => ?_) (fun h => ?_)
  · refine bw_pick [0] rfl ?_
    exact tX2_passBlanks_37 C N M zz h
  · refine bw_aload_n (pc := 8) C 0 dX2_passBlanks_8 rfl rfl ?_
    refine bw_aload_n (pc := 9) C 0 dX2_passBlanks_9 rfl rfl ?_
    refine bw_getI (pc := 10) (q := 15) (k0 := 2) C ltC_15 shC_15 rfl inX2 mw_31 (by decide) rfl dX2_passBlanks_10 ?_
    obtain ⟨v2, ev2, h⟩ := bw_cl_o h
    refine bw_cVi (pc := 13) (q := 15) (As := [.int (M.1 15 2)]) (rest := []) C (tX2_signAt l (M.1 15 2) M v2 ev2) msX2_signAt mw_246 rfl rfl ⟨Nat.le_of_ble_eq_true rfl, Nat.le_of_ble_eq_true rfl⟩ ltC_15 shC_15 rfl rfl rfl rfl (Nat.le_of_ble_eq_true rfl) dX2_passBlanks_13 ?_
    refine bw_bipush (pc := 16) (v := (32 : Int32)) C dX2_passBlanks_16 bi_32 ?_
    refine bw_icmp_ne (pc := 18) C 37 dX2_passBlanks_18 (by decide) h (fun h => ?_) (fun h => ?_)
    · refine bw_pick [0] rfl ?_
      exact tX2_passBlanks_37 C N M zz h
    · refine bw_aload_n (pc := 21) C 0 dX2_passBlanks_21 rfl rfl ?_
      refine bw_dup (pc := 22) C dX2_passBlanks_22 rfl ?_
      refine bw_getI (pc := 23) (q := 15) (k0 := 2) C ltC_15 shC_15 rfl inX2 mw_31 (by decide) rfl dX2_passBlanks_23 ?_
      refine bw_iconst (pc := 26) (v := (1 : Int32)) C dX2_passBlanks_26 ic_1 ?_
      refine bw_iadd (pc := 27) C dX2_passBlanks_27 ?_
      obtain ⟨M3, eM3, h⟩ := bw_mv_o h
      refine bw_putI (pc := 28) (q := 15) (k0 := 2) C ltC_15 shC_15 rfl inX2 mw_31 (by decide) tyX2 tyX2_ok nmX2 rfl rfl rfl eM3 rfl rfl dX2_passBlanks_28 ?_
      obtain ⟨v4, ev4, h⟩ := bw_mv_o h
      refine bw_iinc (pc := 31) (x := v4) (L' := [(1, .int v4), (0, .ref (ρ 15))]) C 1 dX2_passBlanks_31 rfl ev4.symm (by decide) rfl ?_
      refine bw_goto (pc := 34) C 2 dX2_passBlanks_34 (by decide) ?_
      refine bw_pick [1, 0] rfl ?_
      exact hk2 (v4, M3) h
def flX2_passBlanks_2 (N : Nat)     (fu : Nat) (w : Int32 × bw_M) : Option (bw_M) := bw_lp (fun kk w => fX2_passBlanks_2 N kk w.1 w.2) fu w
theorem tlX2_passBlanks_2 {p : Program} {l : Launch} {e : Env} {s : State} {m : MethodId} {args : Array Value} {below : List Frame} {meth : Method} {c : Code} {D : va_G} {kT : Nat → ClassId} {ρ : Nat → Nat} (C : bw_Cx p s m args meth c cX2_passBlanks 2 RX2 45 D kT ρ none) (N : Nat)      (zz : bw_M)  (fu : Nat) (w : Int32 × bw_M) (h : flX2_passBlanks_2 N fu w = some zz) : bw_At p l e rmX2_passBlanks s m args below meth c (MQ below (bw_QV bw_shC 45 D kT ρ zz) args s 0 0 (bw_A ρ 45)) bw_shC 45 D kT ρ 2 2 [(0, .ref (ρ 15)), (1, .int w.1)] [] w.2 :=
  bw_loop (r := zz) (fun w => bw_At p l e rmX2_passBlanks s m args below meth c (MQ below (bw_QV bw_shC 45 D kT ρ zz) args s 0 0 (bw_A ρ 45)) bw_shC 45 D kT ρ 2 2 [(0, .ref (ρ 15)), (1, .int w.1)] [] w.2) (fun kk hk w h => tX2_passBlanks_2 C N kk w.1 w.2 zz hk h) fu w h
def fX2_passBlanks (N : Nat)  (M : bw_M) : Option (bw_M) :=
  bw_mv (0 : Int32) fun v1 =>
  flX2_passBlanks_2 N N (v1, M)
theorem tX2_passBlanks (l : Launch) (N : Nat)   (M : bw_M) (zz : bw_M) (h : fX2_passBlanks N M = some zz) : bw_CV l bw_shC 45 yX2_passBlanks cX2_passBlanks 2 none rmX2_passBlanks (fun ρ => [.ref (ρ 15)]) M zz := by
  refine bw_inV (Lf := fun ρ => [(0, .ref (ρ 15))]) cX2_passBlanks 2 none RX2 pn_X2 rfl (fun ρ => Nat.le_of_ble_eq_true rfl) (fun ρ => rfl) ?_
  intro p e s m args below meth c D kT ρ C
  unfold fX2_passBlanks at h
  refine bw_iconst (pc := 0) (v := (0 : Int32)) C dX2_passBlanks_0 ic_0 ?_
  obtain ⟨v1, ev1, h⟩ := bw_mv_o h
  refine bw_nmI ev1 ?_
  refine bw_istore_n (pc := 1) (L' := [(1, .int v1), (0, .ref (ρ 15))]) C dX2_passBlanks_1 rfl (by decide) rfl ?_
  refine bw_pick [1, 0] rfl ?_
  exact tlX2_passBlanks_2 C N zz N (v1, M) h
/-! X3_restart -/
abbrev rmX3_restart : Room := { frames := 1, cells := 0, slots := 0, locals := 23 }
theorem msX3_restart : bw_MV yX3_restart cX3_restart 1 none RX3 0 := ⟨mw_264, mw_1072, mw_3, mw_265, by decide +kernel⟩
def fX3_restart (N : Nat) (x0 : Nat) (M : bw_M) : Option (bw_M) :=
  bw_mv (bw_pI M x0 3 (M.1 x0 1)) fun M1 =>
  bw_mv (bw_pI M1 x0 4 (M1.1 x0 2)) fun M2 =>
  bw_mv (bw_pI M2 x0 5 (0 : Int32)) fun M3 =>
  bw_mv (bw_pI M3 x0 6 (0 : Int32)) fun M4 =>
  bw_mv (bw_pI M4 x0 7 (0 : Int32)) fun M5 =>
  bw_cl (fJ7_fill_53178 N (x0 + 4) 6 (0 : Int32) M5) fun M6 =>
  bw_cl (fJ7_fill_53178 N (x0 + 5) 6 (0 : Int32) M6) fun M7 =>
  some M7
theorem tX3_restart (l : Launch) (N : Nat) (x0 : Nat) (g0 : bw_isT x0) (M : bw_M) (zz : bw_M) (h : fX3_restart N x0 M = some zz) : bw_CV l bw_shC 45 yX3_restart cX3_restart 1 none rmX3_restart (fun ρ => [.ref (ρ x0)]) M zz := by
  refine bw_inV (Lf := fun ρ => [(0, .ref (ρ x0))]) cX3_restart 1 none RX3 pn_X3 rfl (fun ρ => Nat.le_of_ble_eq_true rfl) (fun ρ => rfl) ?_
  intro p e s m args below meth c D kT ρ C
  unfold fX3_restart at h
  refine bw_aload_n (pc := 0) C 0 dX3_restart_0 rfl rfl ?_
  refine bw_aload_n (pc := 1) C 0 dX3_restart_1 rfl rfl ?_
  refine bw_getI (pc := 2) (q := x0) (k0 := 1) C (ltC_T g0) (shC_T g0) rfl inX3 mw_50 (by decide) rfl dX3_restart_2 ?_
  obtain ⟨M1, eM1, h⟩ := bw_mv_o h
  refine bw_putI (pc := 5) (q := x0) (k0 := 3) C (ltC_T g0) (shC_T g0) rfl inX3 mw_52 (by decide) tyX3 tyX3_ok nmX3 rfl rfl rfl eM1 rfl rfl dX3_restart_5 ?_
  refine bw_aload_n (pc := 8) C 0 dX3_restart_8 rfl rfl ?_
  refine bw_aload_n (pc := 9) C 0 dX3_restart_9 rfl rfl ?_
  refine bw_getI (pc := 10) (q := x0) (k0 := 2) C (ltC_T g0) (shC_T g0) rfl inX3 mw_51 (by decide) rfl dX3_restart_10 ?_
  obtain ⟨M2, eM2, h⟩ := bw_mv_o h
  refine bw_putI (pc := 13) (q := x0) (k0 := 4) C (ltC_T g0) (shC_T g0) rfl inX3 mw_54 (by decide) tyX3 tyX3_ok nmX3 rfl rfl rfl eM2 rfl rfl dX3_restart_13 ?_
  refine bw_aload_n (pc := 16) C 0 dX3_restart_16 rfl rfl ?_
  refine bw_iconst (pc := 17) (v := (0 : Int32)) C dX3_restart_17 ic_0 ?_
  obtain ⟨M3, eM3, h⟩ := bw_mv_o h
  refine bw_putI (pc := 18) (q := x0) (k0 := 5) C (ltC_T g0) (shC_T g0) rfl inX3 mw_56 (by decide) tyX3 tyX3_ok nmX3 rfl rfl rfl eM3 rfl rfl dX3_restart_18 ?_
  refine bw_aload_n (pc := 21) C 0 dX3_restart_21 rfl rfl ?_
  refine bw_iconst (pc := 22) (v := (0 : Int32)) C dX3_restart_22 ic_0 ?_
  obtain ⟨M4, eM4, h⟩ := bw_mv_o h
  refine bw_putI (pc := 23) (q := x0) (k0 := 6) C (ltC_T g0) (shC_T g0) rfl inX3 mw_58 (by decide) tyX3 tyX3_ok nmX3 rfl rfl rfl eM4 rfl rfl dX3_restart_23 ?_
  refine bw_aload_n (pc := 26) C 0 dX3_restart_26 rfl rfl ?_
  refine bw_iconst (pc := 27) (v := (0 : Int32)) C dX3_restart_27 ic_0 ?_
  obtain ⟨M5, eM5, h⟩ := bw_mv_o h
  refine bw_putI (pc := 28) (q := x0) (k0 := 7) C (ltC_T g0) (shC_T g0) rfl inX3 mw_60 (by decide) tyX3 tyX3_ok nmX3 rfl rfl rfl eM5 rfl rfl dX3_restart_28 ?_
  refine bw_aload_n (pc := 31) C 0 dX3_restart_31 rfl rfl ?_
  refine bw_getR (pc := 32) (q := x0) (k0 := 11) C (ltC_T g0) (shC_T g0) rfl inX3 mw_68 (by decide) rfl dX3_restart_32 ?_
  refine bw_iconst (pc := 35) (v := (0 : Int32)) C dX3_restart_35 ic_0 ?_
  obtain ⟨M6, eM6, h⟩ := bw_cl_o h
  refine bw_cSv (pc := 36) (As := [.ref (ρ (x0 + 4)), .int (0 : Int32)]) (rest := []) C (tJ7_fill_53178 l N (x0 + 4) 6 (0 : Int32) (ltC_T4 g0) (shC_T4 g0) M5 M6 eM6) msJ7_fill_53178 mw_266 rfl rfl ⟨Nat.le_of_ble_eq_true rfl, Nat.le_of_ble_eq_true rfl⟩ rfl rfl rfl (Nat.le_of_ble_eq_true rfl) dX3_restart_36 ?_
  refine bw_aload_n (pc := 39) C 0 dX3_restart_39 rfl rfl ?_
  refine bw_getR (pc := 40) (q := x0) (k0 := 12) C (ltC_T g0) (shC_T g0) rfl inX3 mw_70 (by decide) rfl dX3_restart_40 ?_
  refine bw_iconst (pc := 43) (v := (0 : Int32)) C dX3_restart_43 ic_0 ?_
  obtain ⟨M7, eM7, h⟩ := bw_cl_o h
  refine bw_cSv (pc := 44) (As := [.ref (ρ (x0 + 5)), .int (0 : Int32)]) (rest := []) C (tJ7_fill_53178 l N (x0 + 5) 6 (0 : Int32) (ltC_T5 g0) (shC_T5 g0) M6 M7 eM7) msJ7_fill_53178 mw_266 rfl rfl ⟨Nat.le_of_ble_eq_true rfl, Nat.le_of_ble_eq_true rfl⟩ rfl rfl rfl (Nat.le_of_ble_eq_true rfl) dX3_restart_44 ?_
  exact bw_vreti (pc := 47) C dX3_restart_47 h
/-! X3_found -/
abbrev rmX3_found : Room := { frames := 2, cells := 0, slots := 0, locals := 43 }
theorem msX3_found : bw_MV yX3_found cX3_found 3 none RX3 2 := ⟨mw_259, mw_260, mw_3, mw_261, by decide +kernel⟩
def fX3_found (N : Nat) (x0 : Nat) (x1 : Int32) (x2 : Int32) (M : bw_M) : Option (bw_M) :=
  bw_mv (bw_pI M x0 0 (0 : Int32)) fun M1 =>
  bw_mv (bw_pI M1 x0 1 x1) fun M2 =>
  bw_mv (bw_pI M2 x0 2 x2) fun M3 =>
  bw_cl (fX3_restart N x0 M3) fun M4 =>
  some M4
theorem tX3_found (l : Launch) (N : Nat) (x0 : Nat) (x1 : Int32) (x2 : Int32) (g0 : bw_isT x0) (M : bw_M) (zz : bw_M) (h : fX3_found N x0 x1 x2 M = some zz) : bw_CV l bw_shC 45 yX3_found cX3_found 3 none rmX3_found (fun ρ => [.ref (ρ x0), .int x1, .int x2]) M zz := by
  refine bw_inV (Lf := fun ρ => [(0, .ref (ρ x0)), (1, .int x1), (2, .int x2)]) cX3_found 3 none RX3 pn_X3 rfl (fun ρ => Nat.le_of_ble_eq_true rfl) (fun ρ => rfl) ?_
  intro p e s m args below meth c D kT ρ C
  unfold fX3_found at h
  refine bw_aload_n (pc := 0) C 0 dX3_found_0 rfl rfl ?_
  refine bw_iconst (pc := 1) (v := (0 : Int32)) C dX3_found_1 ic_0 ?_
  obtain ⟨M1, eM1, h⟩ := bw_mv_o h
  refine bw_putI (pc := 2) (q := x0) (k0 := 0) C (ltC_T g0) (shC_T g0) rfl inX3 mw_47 (by decide) tyX3 tyX3_ok nmX3 rfl rfl rfl eM1 rfl rfl dX3_found_2 ?_
  refine bw_aload_n (pc := 5) C 0 dX3_found_5 rfl rfl ?_
  refine bw_iload_n (pc := 6) C 1 dX3_found_6 rfl rfl ?_
  obtain ⟨M2, eM2, h⟩ := bw_mv_o h
  refine bw_putI (pc := 7) (q := x0) (k0 := 1) C (ltC_T g0) (shC_T g0) rfl inX3 mw_50 (by decide) tyX3 tyX3_ok nmX3 rfl rfl rfl eM2 rfl rfl dX3_found_7 ?_
  refine bw_aload_n (pc := 10) C 0 dX3_found_10 rfl rfl ?_
  refine bw_iload_n (pc := 11) C 2 dX3_found_11 rfl rfl ?_
  obtain ⟨M3, eM3, h⟩ := bw_mv_o h
  refine bw_putI (pc := 12) (q := x0) (k0 := 2) C (ltC_T g0) (shC_T g0) rfl inX3 mw_51 (by decide) tyX3 tyX3_ok nmX3 rfl rfl rfl eM3 rfl rfl dX3_found_12 ?_
  refine bw_aload_n (pc := 15) C 0 dX3_found_15 rfl rfl ?_
  obtain ⟨M4, eM4, h⟩ := bw_cl_o h
  refine bw_cVv (pc := 16) (q := x0) (As := []) (rest := []) C (tX3_restart l N x0 g0 M3 M4 eM4) msX3_restart mw_262 rfl rfl ⟨Nat.le_of_ble_eq_true rfl, Nat.le_of_ble_eq_true rfl⟩ (ltC_T g0) (shC_T g0) rfl rfl rfl rfl (Nat.le_of_ble_eq_true rfl) dX3_found_16 ?_
  exact bw_vreti (pc := 19) C dX3_found_19 h
/-! X2_readBellows -/
abbrev rmX2_readBellows : Room := { frames := 3, cells := 0, slots := 0, locals := 65 }
theorem msX2_readBellows : bw_MV yX2_readBellows cX2_readBellows 5 (some .int) RX2 1 := ⟨mw_252, mw_1070, mw_2, mw_253, by decide +kernel⟩
def fX2_readBellows (N : Nat) (x1 : Nat) (M : bw_M) : Option (Int32 × bw_M) :=
  bw_cl (fX2_figureAt ((M.1 15 2) + (1 : Int32)) M) fun v1 =>
  bw_cl (fX2_figureAt ((M.1 15 2) + (2 : Int32)) M) fun v2 =>
  bw_cl (fX2_figureAt ((M.1 15 2) + (3 : Int32)) M) fun v3 =>
  bw_cl (fX2_signAt (M.1 15 2) M) fun v4 =>
  if v4 = (97 : Int32) then
  if v1 = (-9 : Int32) then
  some (((M.1 15 2) + (1 : Int32)), M)
  else
  if v2 = (-9 : Int32) then
  some (((M.1 15 2) + (2 : Int32)), M)
  else
  if (((10 : Int32) * v1) + v2) ≤ (60 : Int32) then
  if v3 = (-9 : Int32) then
  some (((M.1 15 2) + (3 : Int32)), M)
  else
  bw_cl (fX3_found N x1 (((10 : Int32) * v1) + v2) v3 M) fun M5 =>
  bw_mv (bw_pI M5 15 2 ((M5.1 15 2) + (4 : Int32))) fun M6 =>
  some ((-9 : Int32), M6)
  else
  some (((M.1 15 2) + (1 : Int32)), M)
  else
  some ((M.1 15 2), M)
theorem tX2_readBellows (l : Launch) (N : Nat) (x1 : Nat) (g1 : bw_isT x1) (M : bw_M) (rr : Int32) (zz : bw_M) (h : fX2_readBellows N x1 M = some (rr, zz)) : bw_CI l bw_shC 45 yX2_readBellows cX2_readBellows 5 (some .int) rmX2_readBellows (fun ρ => [.ref (ρ 15), .ref (ρ x1)]) M rr zz := by
  refine bw_inI (Lf := fun ρ => [(0, .ref (ρ 15)), (1, .ref (ρ x1))]) cX2_readBellows 5 (some .int) RX2 pn_X2 rfl (fun ρ => Nat.le_of_ble_eq_true rfl) (fun ρ => rfl) ?_
  intro p e s m args below meth c D kT ρ C
  unfold fX2_readBellows at h
  refine bw_aload_n (pc := 0) C 0 dX2_readBellows_0 rfl rfl ?_
  refine bw_aload_n (pc := 1) C 0 dX2_readBellows_1 rfl rfl ?_
  refine bw_getI (pc := 2) (q := 15) (k0 := 2) C ltC_15 shC_15 rfl inX2 mw_31 (by decide) rfl dX2_readBellows_2 ?_
  refine bw_iconst (pc := 5) (v := (1 : Int32)) C dX2_readBellows_5 ic_1 ?_
  refine bw_iadd (pc := 6) C dX2_readBellows_6 ?_
  obtain ⟨v1, ev1, h⟩ := bw_cl_o h
  refine bw_cVi (pc := 7) (q := 15) (As := [.int ((M.1 15 2) + (1 : Int32))]) (rest := []) C (tX2_figureAt l ((M.1 15 2) + (1 : Int32)) M v1 ev1) msX2_figureAt mw_254 rfl rfl ⟨Nat.le_of_ble_eq_true rfl, Nat.le_of_ble_eq_true rfl⟩ ltC_15 shC_15 rfl rfl rfl rfl (Nat.le_of_ble_eq_true rfl) dX2_readBellows_7 ?_
  refine bw_istore_n (pc := 10) (L' := [(2, .int v1), (0, .ref (ρ 15)), (1, .ref (ρ x1))]) C dX2_readBellows_10 rfl (by decide) rfl ?_
  refine bw_aload_n (pc := 11) C 1 dX2_readBellows_11 rfl rfl ?_
  refine bw_aload_n (pc := 12) C 1 dX2_readBellows_12 rfl rfl ?_
  refine bw_getI (pc := 13) (q := 15) (k0 := 2) C ltC_15 shC_15 rfl inX2 mw_31 (by decide) rfl dX2_readBellows_13 ?_
  refine bw_iconst (pc := 16) (v := (2 : Int32)) C dX2_readBellows_16 ic_2 ?_
  refine bw_iadd (pc := 17) C dX2_readBellows_17 ?_
  obtain ⟨v2, ev2, h⟩ := bw_cl_o h
  refine bw_cVi (pc := 18) (q := 15) (As := [.int ((M.1 15 2) + (2 : Int32))]) (rest := []) C (tX2_figureAt l ((M.1 15 2) + (2 : Int32)) M v2 ev2) msX2_figureAt mw_254 rfl rfl ⟨Nat.le_of_ble_eq_true rfl, Nat.le_of_ble_eq_true rfl⟩ ltC_15 shC_15 rfl rfl rfl rfl (Nat.le_of_ble_eq_true rfl) dX2_readBellows_18 ?_
  refine bw_istore_n (pc := 21) (L' := [(3, .int v2), (2, .int v1), (0, .ref (ρ 15)), (1, .ref (ρ x1))]) C dX2_readBellows_21 rfl (by decide) rfl ?_
  refine bw_aload_n (pc := 22) C 2 dX2_readBellows_22 rfl rfl ?_
  refine bw_aload_n (pc := 23) C 2 dX2_readBellows_23 rfl rfl ?_
  refine bw_getI (pc := 24) (q := 15) (k0 := 2) C ltC_15 shC_15 rfl inX2 mw_31 (by decide) rfl dX2_readBellows_24 ?_
  refine bw_iconst (pc := 27) (v := (3 : Int32)) C dX2_readBellows_27 ic_3 ?_
  refine bw_iadd (pc := 28) C dX2_readBellows_28 ?_
  obtain ⟨v3, ev3, h⟩ := bw_cl_o h
  refine bw_cVi (pc := 29) (q := 15) (As := [.int ((M.1 15 2) + (3 : Int32))]) (rest := []) C (tX2_figureAt l ((M.1 15 2) + (3 : Int32)) M v3 ev3) msX2_figureAt mw_254 rfl rfl ⟨Nat.le_of_ble_eq_true rfl, Nat.le_of_ble_eq_true rfl⟩ ltC_15 shC_15 rfl rfl rfl rfl (Nat.le_of_ble_eq_true rfl) dX2_readBellows_29 ?_
  refine bw_istore (pc := 32) (L' := [(4, .int v3), (3, .int v2), (2, .int v1), (0, .ref (ρ 15)), (1, .ref (ρ x1))]) C dX2_readBellows_32 (by decide) rfl ?_
  refine bw_aload_n (pc := 34) C 3 dX2_readBellows_34 rfl rfl ?_
  refine bw_aload_n (pc := 35) C 3 dX2_readBellows_35 rfl rfl ?_
  refine bw_getI (pc := 36) (q := 15) (k0 := 2) C ltC_15 shC_15 rfl inX2 mw_31 (by decide) rfl dX2_readBellows_36 ?_
  obtain ⟨v4, ev4, h⟩ := bw_cl_o h
  refine bw_cVi (pc := 39) (q := 15) (As := [.int (M.1 15 2)]) (rest := []) C (tX2_signAt l (M.1 15 2) M v4 ev4) msX2_signAt mw_246 rfl rfl ⟨Nat.le_of_ble_eq_true rfl, Nat.le_of_ble_eq_true rfl⟩ ltC_15 shC_15 rfl rfl rfl rfl (Nat.le_of_ble_eq_true rfl) dX2_readBellows_39 ?_
  refine bw_bipush (pc := 42) (v := (97 : Int32)) C dX2_readBellows_42 bi_97 ?_
  refine bw_icmp_eq (pc := 44) C 52 dX2_readBellows_44 (by decide) h (fun h => ?_) (fun h => ?_)
  · refine bw_iload_n (pc := 52) C 2 dX2_readBellows_52 rfl rfl ?_
    refine bw_bipush (pc := 53) (v := (-9 : Int32)) C dX2_readBellows_53 bi_m9 ?_
    refine bw_icmp_ne (pc := 55) C 65 dX2_readBellows_55 (by decide) h (fun h => ?_) (fun h => ?_)
    · refine bw_iload_n (pc := 65) C 1 dX2_readBellows_65 rfl rfl ?_
      refine bw_bipush (pc := 66) (v := (-9 : Int32)) C dX2_readBellows_66 bi_m9 ?_
      refine bw_icmp_ne (pc := 68) C 78 dX2_readBellows_68 (by decide) h (fun h => ?_) (fun h => ?_)
      · refine bw_bipush (pc := 78) (v := (10 : Int32)) C dX2_readBellows_78 bi_10 ?_
        refine bw_iload_n (pc := 80) C 2 dX2_readBellows_80 rfl rfl ?_
        refine bw_imul (pc := 81) C dX2_readBellows_81 ?_
        refine bw_iload_n (pc := 82) C 1 dX2_readBellows_82 rfl rfl ?_
        refine bw_iadd (pc := 83) C dX2_readBellows_83 ?_
        refine bw_bipush (pc := 84) (v := (60 : Int32)) C dX2_readBellows_84 bi_60 ?_
        refine bw_icmp_le (pc := 86) C 96 dX2_readBellows_86 (by decide) h (fun h => ?_) (fun h => ?_)
        · refine bw_iload (pc := 96) C 0 dX2_readBellows_96 rfl ?_
          refine bw_bipush (pc := 98) (v := (-9 : Int32)) C dX2_readBellows_98 bi_m9 ?_
          refine bw_icmp_ne (pc := 100) C 110 dX2_readBellows_100 (by decide) h (fun h => ?_) (fun h => ?_)
          · refine bw_aload_n (pc := 110) C 4 dX2_readBellows_110 rfl rfl ?_
            refine bw_bipush (pc := 111) (v := (10 : Int32)) C dX2_readBellows_111 bi_10 ?_
            refine bw_iload_n (pc := 113) C 2 dX2_readBellows_113 rfl rfl ?_
            refine bw_imul (pc := 114) C dX2_readBellows_114 ?_
            refine bw_iload_n (pc := 115) C 1 dX2_readBellows_115 rfl rfl ?_
            refine bw_iadd (pc := 116) C dX2_readBellows_116 ?_
            refine bw_iload (pc := 117) C 0 dX2_readBellows_117 rfl ?_
            obtain ⟨M5, eM5, h⟩ := bw_cl_o h
            refine bw_cVv (pc := 119) (q := x1) (As := [.int (((10 : Int32) * v1) + v2), .int v3]) (rest := []) C (tX3_found l N x1 (((10 : Int32) * v1) + v2) v3 g1 M M5 eM5) msX3_found mw_258 rfl rfl ⟨Nat.le_of_ble_eq_true rfl, Nat.le_of_ble_eq_true rfl⟩ (ltC_T g1) (shC_T g1) rfl rfl rfl rfl (Nat.le_of_ble_eq_true rfl) dX2_readBellows_119 ?_
            refine bw_aload_n (pc := 122) C 3 dX2_readBellows_122 rfl rfl ?_
            refine bw_dup (pc := 123) C dX2_readBellows_123 rfl ?_
            refine bw_getI (pc := 124) (q := 15) (k0 := 2) C ltC_15 shC_15 rfl inX2 mw_31 (by decide) rfl dX2_readBellows_124 ?_
            refine bw_iconst (pc := 127) (v := (4 : Int32)) C dX2_readBellows_127 ic_4 ?_
            refine bw_iadd (pc := 128) C dX2_readBellows_128 ?_
            obtain ⟨M6, eM6, h⟩ := bw_mv_o h
            refine bw_putI (pc := 129) (q := 15) (k0 := 2) C ltC_15 shC_15 rfl inX2 mw_31 (by decide) tyX2 tyX2_ok nmX2 rfl rfl rfl eM6 rfl rfl dX2_readBellows_129 ?_
            refine bw_bipush (pc := 132) (v := (-9 : Int32)) C dX2_readBellows_132 bi_m9 ?_
            exact bw_ireti (pc := 134) C dX2_readBellows_134 h
          · refine bw_aload_n (pc := 103) C 3 dX2_readBellows_103 rfl rfl ?_
            refine bw_getI (pc := 104) (q := 15) (k0 := 2) C ltC_15 shC_15 rfl inX2 mw_31 (by decide) rfl dX2_readBellows_104 ?_
            refine bw_iconst (pc := 107) (v := (3 : Int32)) C dX2_readBellows_107 ic_3 ?_
            refine bw_iadd (pc := 108) C dX2_readBellows_108 ?_
            exact bw_ireti (pc := 109) C dX2_readBellows_109 h
        · refine bw_aload_n (pc := 89) C 3 dX2_readBellows_89 rfl rfl ?_
          refine bw_getI (pc := 90) (q := 15) (k0 := 2) C ltC_15 shC_15 rfl inX2 mw_31 (by decide) rfl dX2_readBellows_90 ?_
          refine bw_iconst (pc := 93) (v := (1 : Int32)) C dX2_readBellows_93 ic_1 ?_
          refine bw_iadd (pc := 94) C dX2_readBellows_94 ?_
          exact bw_ireti (pc := 95) C dX2_readBellows_95 h
      · refine bw_aload_n (pc := 71) C 3 dX2_readBellows_71 rfl rfl ?_
        refine bw_getI (pc := 72) (q := 15) (k0 := 2) C ltC_15 shC_15 rfl inX2 mw_31 (by decide) rfl dX2_readBellows_72 ?_
        refine bw_iconst (pc := 75) (v := (2 : Int32)) C dX2_readBellows_75 ic_2 ?_
        refine bw_iadd (pc := 76) C dX2_readBellows_76 ?_
        exact bw_ireti (pc := 77) C dX2_readBellows_77 h
    · refine bw_aload_n (pc := 58) C 3 dX2_readBellows_58 rfl rfl ?_
      refine bw_getI (pc := 59) (q := 15) (k0 := 2) C ltC_15 shC_15 rfl inX2 mw_31 (by decide) rfl dX2_readBellows_59 ?_
      refine bw_iconst (pc := 62) (v := (1 : Int32)) C dX2_readBellows_62 ic_1 ?_
      refine bw_iadd (pc := 63) C dX2_readBellows_63 ?_
      exact bw_ireti (pc := 64) C dX2_readBellows_64 h
  · refine bw_aload_n (pc := 47) C 3 dX2_readBellows_47 rfl rfl ?_
    refine bw_getI (pc := 48) (q := 15) (k0 := 2) C ltC_15 shC_15 rfl inX2 mw_31 (by decide) rfl dX2_readBellows_48 ?_
    exact bw_ireti (pc := 51) C dX2_readBellows_51 h
/-! X3_join -/
abbrev rmX3_join : Room := { frames := 0, cells := 0, slots := 0, locals := 0 }
theorem msX3_join : bw_MV yX3_join cX3_join 4 none RX3 3 := ⟨mw_275, mw_276, mw_3, mw_277, by decide +kernel⟩
def fX3_join_49 (x0 : Nat) (x1 : Int32) (x2 : Int32) (x3 : Int32)   (M : bw_M) : Option (bw_M) :=
  some M
theorem tX3_join_49 {p : Program} {l : Launch} {e : Env} {s : State} {m : MethodId} {args : Array Value} {below : List Frame} {meth : Method} {c : Code} {D : va_G} {kT : Nat → ClassId} {ρ : Nat → Nat} (C : bw_Cx p s m args meth c cX3_join 4 RX3 45 D kT ρ none) (x0 : Nat) (x1 : Int32) (x2 : Int32) (x3 : Int32) (g0 : bw_isT x0)   (M : bw_M) (zz : bw_M)  (h : fX3_join_49 x0 x1 x2 x3 M = some zz) : bw_At p l e rmX3_join s m args below meth c (MQ below (bw_QV bw_shC 45 D kT ρ zz) args s 0 0 (bw_A ρ 45)) bw_shC 45 D kT ρ 4 49 [(0, .ref (ρ x0)), (1, .int x1), (2, .int x2), (3, .int x3)] [] M := by
  unfold fX3_join_49 at h
  exact bw_vreti (pc := 49) C dX3_join_49 h
def fX3_join (x0 : Nat) (x1 : Int32) (x2 : Int32) (x3 : Int32) (M : bw_M) : Option (bw_M) :=
  if (6 : Int32) ≤ (M.1 x0 0) then
  fX3_join_49 x0 x1 x2 x3 M
  else
  bw_wr M (x0 + 1) 6 (M.1 x0 0) x1 fun M1 =>
  bw_wr M1 (x0 + 2) 6 (M1.1 x0 0) x2 fun M2 =>
  bw_wr M2 (x0 + 3) 6 (M2.1 x0 0) x3 fun M3 =>
  bw_mv (bw_pI M3 x0 0 ((M3.1 x0 0) + (1 : Int32))) fun M4 =>
  fX3_join_49 x0 x1 x2 x3 M4
theorem tX3_join (l : Launch) (x0 : Nat) (x1 : Int32) (x2 : Int32) (x3 : Int32) (g0 : bw_isT x0) (M : bw_M) (zz : bw_M) (h : fX3_join x0 x1 x2 x3 M = some zz) : bw_CV l bw_shC 45 yX3_join cX3_join 4 none rmX3_join (fun ρ => [.ref (ρ x0), .int x1, .int x2, .int x3]) M zz := by
  refine bw_inV (Lf := fun ρ => [(0, .ref (ρ x0)), (1, .int x1), (2, .int x2), (3, .int x3)]) cX3_join 4 none RX3 pn_X3 rfl (fun ρ => Nat.le_of_ble_eq_true rfl) (fun ρ => rfl) ?_
  intro p e s m args below meth c D kT ρ C
  unfold fX3_join at h
  refine bw_aload_n (pc := 0) C 0 dX3_join_0 rfl rfl ?_
  refine bw_getI (pc := 1) (q := x0) (k0 := 0) C (ltC_T g0) (shC_T g0) rfl inX3 mw_47 (by decide) rfl dX3_join_1 ?_
  refine bw_bipush (pc := 4) (v := (6 : Int32)) C dX3_join_4 bi_6 ?_
  refine bw_icmp_ge (pc := 6) C 49 dX3_join_6 (by decide) h (fun h => ?_) (fun h => ?_)
  · refine bw_pick [0, 1, 2, 3] rfl ?_
    exact tX3_join_49 C x0 x1 x2 x3 g0 M zz h
  · refine bw_aload_n (pc := 9) C 0 dX3_join_9 rfl rfl ?_
    refine bw_getR (pc := 10) (q := x0) (k0 := 8) C (ltC_T g0) (shC_T g0) rfl inX3 mw_62 (by decide) rfl dX3_join_10 ?_
    refine bw_aload_n (pc := 13) C 0 dX3_join_13 rfl rfl ?_
    refine bw_getI (pc := 14) (q := x0) (k0 := 0) C (ltC_T g0) (shC_T g0) rfl inX3 mw_47 (by decide) rfl dX3_join_14 ?_
    refine bw_iload_n (pc := 17) C 1 dX3_join_17 rfl rfl ?_
    obtain ⟨qM1, M1, eM1, h⟩ := bw_wr_o h
    refine bw_iast (pc := 18) (q := (x0 + 1)) C (ltC_T1 g0) (shC_T1 g0) qM1 eM1 dX3_join_18 ?_
    refine bw_aload_n (pc := 19) C 0 dX3_join_19 rfl rfl ?_
    refine bw_getR (pc := 20) (q := x0) (k0 := 9) C (ltC_T g0) (shC_T g0) rfl inX3 mw_64 (by decide) rfl dX3_join_20 ?_
    refine bw_aload_n (pc := 23) C 0 dX3_join_23 rfl rfl ?_
    refine bw_getI (pc := 24) (q := x0) (k0 := 0) C (ltC_T g0) (shC_T g0) rfl inX3 mw_47 (by decide) rfl dX3_join_24 ?_
    refine bw_iload_n (pc := 27) C 2 dX3_join_27 rfl rfl ?_
    obtain ⟨qM2, M2, eM2, h⟩ := bw_wr_o h
    refine bw_iast (pc := 28) (q := (x0 + 2)) C (ltC_T2 g0) (shC_T2 g0) qM2 eM2 dX3_join_28 ?_
    refine bw_aload_n (pc := 29) C 0 dX3_join_29 rfl rfl ?_
    refine bw_getR (pc := 30) (q := x0) (k0 := 10) C (ltC_T g0) (shC_T g0) rfl inX3 mw_66 (by decide) rfl dX3_join_30 ?_
    refine bw_aload_n (pc := 33) C 0 dX3_join_33 rfl rfl ?_
    refine bw_getI (pc := 34) (q := x0) (k0 := 0) C (ltC_T g0) (shC_T g0) rfl inX3 mw_47 (by decide) rfl dX3_join_34 ?_
    refine bw_iload_n (pc := 37) C 3 dX3_join_37 rfl rfl ?_
    obtain ⟨qM3, M3, eM3, h⟩ := bw_wr_o h
    refine bw_iast (pc := 38) (q := (x0 + 3)) C (ltC_T3 g0) (shC_T3 g0) qM3 eM3 dX3_join_38 ?_
    refine bw_aload_n (pc := 39) C 0 dX3_join_39 rfl rfl ?_
    refine bw_dup (pc := 40) C dX3_join_40 rfl ?_
    refine bw_getI (pc := 41) (q := x0) (k0 := 0) C (ltC_T g0) (shC_T g0) rfl inX3 mw_47 (by decide) rfl dX3_join_41 ?_
    refine bw_iconst (pc := 44) (v := (1 : Int32)) C dX3_join_44 ic_1 ?_
    refine bw_iadd (pc := 45) C dX3_join_45 ?_
    obtain ⟨M4, eM4, h⟩ := bw_mv_o h
    refine bw_putI (pc := 46) (q := x0) (k0 := 0) C (ltC_T g0) (shC_T g0) rfl inX3 mw_47 (by decide) tyX3 tyX3_ok nmX3 rfl rfl rfl eM4 rfl rfl dX3_join_46 ?_
    refine bw_pick [0, 1, 2, 3] rfl ?_
    exact tX3_join_49 C x0 x1 x2 x3 g0 M4 zz h
/-! X2_readPipe -/
abbrev rmX2_readPipe : Room := { frames := 2, cells := 0, slots := 0, locals := 43 }
theorem msX2_readPipe : bw_MV yX2_readPipe cX2_readPipe 5 (some .int) RX2 1 := ⟨mw_269, mw_1073, mw_2, mw_270, by decide +kernel⟩
def fX2_readPipe_60 (x1 : Nat)   (M : bw_M) : Option (Int32 × bw_M) :=
  some (((M.1 15 2) + (1 : Int32)), M)
theorem tX2_readPipe_60 {p : Program} {l : Launch} {e : Env} {s : State} {m : MethodId} {args : Array Value} {below : List Frame} {meth : Method} {c : Code} {D : va_G} {kT : Nat → ClassId} {ρ : Nat → Nat} (C : bw_Cx p s m args meth c cX2_readPipe 5 RX2 45 D kT ρ (some .int)) (x1 : Nat) (g1 : bw_isT x1)   (M : bw_M) (rr : Int32) (zz : bw_M)  (h : fX2_readPipe_60 x1 M = some (rr, zz)) : bw_At p l e rmX2_readPipe s m args below meth c (MQ below (bw_QI bw_shC 45 D kT ρ rr zz) args s 0 0 (bw_A ρ 45)) bw_shC 45 D kT ρ 5 60 [(0, .ref (ρ 15)), (1, .ref (ρ x1))] [] M := by
  unfold fX2_readPipe_60 at h
  refine bw_aload_n (pc := 60) C 0 dX2_readPipe_60 rfl rfl ?_
  refine bw_getI (pc := 61) (q := 15) (k0 := 2) C ltC_15 shC_15 rfl inX2 mw_31 (by decide) rfl dX2_readPipe_61 ?_
  refine bw_iconst (pc := 64) (v := (1 : Int32)) C dX2_readPipe_64 ic_1 ?_
  refine bw_iadd (pc := 65) C dX2_readPipe_65 ?_
  exact bw_ireti (pc := 66) C dX2_readPipe_66 h
def fX2_readPipe_79 (x1 : Nat)   (M : bw_M) : Option (Int32 × bw_M) :=
  some (((M.1 15 2) + (2 : Int32)), M)
theorem tX2_readPipe_79 {p : Program} {l : Launch} {e : Env} {s : State} {m : MethodId} {args : Array Value} {below : List Frame} {meth : Method} {c : Code} {D : va_G} {kT : Nat → ClassId} {ρ : Nat → Nat} (C : bw_Cx p s m args meth c cX2_readPipe 5 RX2 45 D kT ρ (some .int)) (x1 : Nat) (g1 : bw_isT x1)   (M : bw_M) (rr : Int32) (zz : bw_M)  (h : fX2_readPipe_79 x1 M = some (rr, zz)) : bw_At p l e rmX2_readPipe s m args below meth c (MQ below (bw_QI bw_shC 45 D kT ρ rr zz) args s 0 0 (bw_A ρ 45)) bw_shC 45 D kT ρ 5 79 [(0, .ref (ρ 15)), (1, .ref (ρ x1))] [] M := by
  unfold fX2_readPipe_79 at h
  refine bw_aload_n (pc := 79) C 0 dX2_readPipe_79 rfl rfl ?_
  refine bw_getI (pc := 80) (q := 15) (k0 := 2) C ltC_15 shC_15 rfl inX2 mw_31 (by decide) rfl dX2_readPipe_80 ?_
  refine bw_iconst (pc := 83) (v := (2 : Int32)) C dX2_readPipe_83 ic_2 ?_
  refine bw_iadd (pc := 84) C dX2_readPipe_84 ?_
  exact bw_ireti (pc := 85) C dX2_readPipe_85 h
def fX2_readPipe_100 (x1 : Nat)  (x4 : Int32) (s1 : Int32) (s2 : Int32) (M : bw_M) : Option (Int32 × bw_M) :=
  bw_cl (fX3_join x1 s1 s2 x4 M) fun M5 =>
  bw_mv (bw_pI M5 15 2 ((M5.1 15 2) + (3 : Int32))) fun M6 =>
  some ((-9 : Int32), M6)
theorem tX2_readPipe_100 {p : Program} {l : Launch} {e : Env} {s : State} {m : MethodId} {args : Array Value} {below : List Frame} {meth : Method} {c : Code} {D : va_G} {kT : Nat → ClassId} {ρ : Nat → Nat} (C : bw_Cx p s m args meth c cX2_readPipe 5 RX2 45 D kT ρ (some .int)) (x1 : Nat) (g1 : bw_isT x1)  (x4 : Int32) (s1 : Int32) (s2 : Int32) (M : bw_M) (rr : Int32) (zz : bw_M)  (h : fX2_readPipe_100 x1 x4 s1 s2 M = some (rr, zz)) : bw_At p l e rmX2_readPipe s m args below meth c (MQ below (bw_QI bw_shC 45 D kT ρ rr zz) args s 0 0 (bw_A ρ 45)) bw_shC 45 D kT ρ 5 100 [(0, .ref (ρ 15)), (1, .ref (ρ x1)), (4, .int x4)] [.int s2, .int s1, .ref (ρ x1)] M := by
  unfold fX2_readPipe_100 at h
  refine bw_iload (pc := 100) C 2 dX2_readPipe_100 rfl ?_
  obtain ⟨M5, eM5, h⟩ := bw_cl_o h
  refine bw_cVv (pc := 102) (q := x1) (As := [.int s1, .int s2, .int x4]) (rest := []) C (tX3_join l x1 s1 s2 x4 g1 M M5 eM5) msX3_join mw_274 rfl rfl ⟨Nat.le_of_ble_eq_true rfl, Nat.le_of_ble_eq_true rfl⟩ (ltC_T g1) (shC_T g1) rfl rfl rfl rfl (Nat.le_of_ble_eq_true rfl) dX2_readPipe_102 ?_
  refine bw_aload_n (pc := 105) C 0 dX2_readPipe_105 rfl rfl ?_
  refine bw_dup (pc := 106) C dX2_readPipe_106 rfl ?_
  refine bw_getI (pc := 107) (q := 15) (k0 := 2) C ltC_15 shC_15 rfl inX2 mw_31 (by decide) rfl dX2_readPipe_107 ?_
  refine bw_iconst (pc := 110) (v := (3 : Int32)) C dX2_readPipe_110 ic_3 ?_
  refine bw_iadd (pc := 111) C dX2_readPipe_111 ?_
  obtain ⟨M6, eM6, h⟩ := bw_mv_o h
  refine bw_putI (pc := 112) (q := 15) (k0 := 2) C ltC_15 shC_15 rfl inX2 mw_31 (by decide) tyX2 tyX2_ok nmX2 rfl rfl rfl eM6 rfl rfl dX2_readPipe_112 ?_
  refine bw_bipush (pc := 115) (v := (-9 : Int32)) C dX2_readPipe_115 bi_m9 ?_
  exact bw_ireti (pc := 117) C dX2_readPipe_117 h
def fX2_readPipe (x1 : Nat) (M : bw_M) : Option (Int32 × bw_M) :=
  bw_cl (fX2_signAt (M.1 15 2) M) fun v1 =>
  bw_cl (fX1_ofLetter v1) fun v2 =>
  bw_cl (fX2_figureAt ((M.1 15 2) + (1 : Int32)) M) fun v3 =>
  bw_cl (fX2_figureAt ((M.1 15 2) + (2 : Int32)) M) fun v4 =>
  if v2 = (-9 : Int32) then
  some ((M.1 15 2), M)
  else
  if v3 = (-9 : Int32) then
  fX2_readPipe_60 x1 M
  else
  if v3 ≤ (M.1 x1 0) then
  if v4 = (-9 : Int32) then
  fX2_readPipe_79 x1 M
  else
  if v4 = 0 then
  fX2_readPipe_79 x1 M
  else
  if v3 = 0 then
  fX2_readPipe_100 x1 v4 v2 (-9 : Int32) M
  else
  fX2_readPipe_100 x1 v4 v2 (v3 - (1 : Int32)) M
  else
  fX2_readPipe_60 x1 M
theorem tX2_readPipe (l : Launch) (x1 : Nat) (g1 : bw_isT x1) (M : bw_M) (rr : Int32) (zz : bw_M) (h : fX2_readPipe x1 M = some (rr, zz)) : bw_CI l bw_shC 45 yX2_readPipe cX2_readPipe 5 (some .int) rmX2_readPipe (fun ρ => [.ref (ρ 15), .ref (ρ x1)]) M rr zz := by
  refine bw_inI (Lf := fun ρ => [(0, .ref (ρ 15)), (1, .ref (ρ x1))]) cX2_readPipe 5 (some .int) RX2 pn_X2 rfl (fun ρ => Nat.le_of_ble_eq_true rfl) (fun ρ => rfl) ?_
  intro p e s m args below meth c D kT ρ C
  unfold fX2_readPipe at h
  refine bw_aload_n (pc := 0) C 0 dX2_readPipe_0 rfl rfl ?_
  refine bw_aload_n (pc := 1) C 0 dX2_readPipe_1 rfl rfl ?_
  refine bw_getI (pc := 2) (q := 15) (k0 := 2) C ltC_15 shC_15 rfl inX2 mw_31 (by decide) rfl dX2_readPipe_2 ?_
  obtain ⟨v1, ev1, h⟩ := bw_cl_o h
  refine bw_cVi (pc := 5) (q := 15) (As := [.int (M.1 15 2)]) (rest := []) C (tX2_signAt l (M.1 15 2) M v1 ev1) msX2_signAt mw_246 rfl rfl ⟨Nat.le_of_ble_eq_true rfl, Nat.le_of_ble_eq_true rfl⟩ ltC_15 shC_15 rfl rfl rfl rfl (Nat.le_of_ble_eq_true rfl) dX2_readPipe_5 ?_
  obtain ⟨v2, ev2, h⟩ := bw_cl_o h
  refine bw_cSi (pc := 8) (As := [.int v1]) (rest := []) C (tX1_ofLetter l v1 M v2 ev2) msX1_ofLetter mw_271 rfl rfl ⟨Nat.le_of_ble_eq_true rfl, Nat.le_of_ble_eq_true rfl⟩ rfl rfl rfl (Nat.le_of_ble_eq_true rfl) dX2_readPipe_8 ?_
  refine bw_istore_n (pc := 11) (L' := [(2, .int v2), (0, .ref (ρ 15)), (1, .ref (ρ x1))]) C dX2_readPipe_11 rfl (by decide) rfl ?_
  refine bw_aload_n (pc := 12) C 1 dX2_readPipe_12 rfl rfl ?_
  refine bw_aload_n (pc := 13) C 1 dX2_readPipe_13 rfl rfl ?_
  refine bw_getI (pc := 14) (q := 15) (k0 := 2) C ltC_15 shC_15 rfl inX2 mw_31 (by decide) rfl dX2_readPipe_14 ?_
  refine bw_iconst (pc := 17) (v := (1 : Int32)) C dX2_readPipe_17 ic_1 ?_
  refine bw_iadd (pc := 18) C dX2_readPipe_18 ?_
  obtain ⟨v3, ev3, h⟩ := bw_cl_o h
  refine bw_cVi (pc := 19) (q := 15) (As := [.int ((M.1 15 2) + (1 : Int32))]) (rest := []) C (tX2_figureAt l ((M.1 15 2) + (1 : Int32)) M v3 ev3) msX2_figureAt mw_254 rfl rfl ⟨Nat.le_of_ble_eq_true rfl, Nat.le_of_ble_eq_true rfl⟩ ltC_15 shC_15 rfl rfl rfl rfl (Nat.le_of_ble_eq_true rfl) dX2_readPipe_19 ?_
  refine bw_istore_n (pc := 22) (L' := [(3, .int v3), (2, .int v2), (0, .ref (ρ 15)), (1, .ref (ρ x1))]) C dX2_readPipe_22 rfl (by decide) rfl ?_
  refine bw_aload_n (pc := 23) C 2 dX2_readPipe_23 rfl rfl ?_
  refine bw_aload_n (pc := 24) C 2 dX2_readPipe_24 rfl rfl ?_
  refine bw_getI (pc := 25) (q := 15) (k0 := 2) C ltC_15 shC_15 rfl inX2 mw_31 (by decide) rfl dX2_readPipe_25 ?_
  refine bw_iconst (pc := 28) (v := (2 : Int32)) C dX2_readPipe_28 ic_2 ?_
  refine bw_iadd (pc := 29) C dX2_readPipe_29 ?_
  obtain ⟨v4, ev4, h⟩ := bw_cl_o h
  refine bw_cVi (pc := 30) (q := 15) (As := [.int ((M.1 15 2) + (2 : Int32))]) (rest := []) C (tX2_figureAt l ((M.1 15 2) + (2 : Int32)) M v4 ev4) msX2_figureAt mw_254 rfl rfl ⟨Nat.le_of_ble_eq_true rfl, Nat.le_of_ble_eq_true rfl⟩ ltC_15 shC_15 rfl rfl rfl rfl (Nat.le_of_ble_eq_true rfl) dX2_readPipe_30 ?_
  refine bw_istore (pc := 33) (L' := [(4, .int v4), (3, .int v3), (2, .int v2), (0, .ref (ρ 15)), (1, .ref (ρ x1))]) C dX2_readPipe_33 (by decide) rfl ?_
  refine bw_iload_n (pc := 35) C 2 dX2_readPipe_35 rfl rfl ?_
  refine bw_bipush (pc := 36) (v := (-9 : Int32)) C dX2_readPipe_36 bi_m9 ?_
  refine bw_icmp_ne (pc := 38) C 46 dX2_readPipe_38 (by decide) h (fun h => ?_) (fun h => ?_)
  · refine bw_iload_n (pc := 46) C 1 dX2_readPipe_46 rfl rfl ?_
    refine bw_bipush (pc := 47) (v := (-9 : Int32)) C dX2_readPipe_47 bi_m9 ?_
    refine bw_icmp_eq (pc := 49) C 60 dX2_readPipe_49 (by decide) h (fun h => ?_) (fun h => ?_)
    · refine bw_pick [3, 4] rfl ?_
      exact tX2_readPipe_60 C x1 g1 M rr zz h
    · refine bw_iload_n (pc := 52) C 1 dX2_readPipe_52 rfl rfl ?_
      refine bw_aload_n (pc := 53) C 4 dX2_readPipe_53 rfl rfl ?_
      refine bw_getI (pc := 54) (q := x1) (k0 := 0) C (ltC_T g1) (shC_T g1) rfl inX3 mw_48 (by decide) rfl dX2_readPipe_54 ?_
      refine bw_icmp_le (pc := 57) C 67 dX2_readPipe_57 (by decide) h (fun h => ?_) (fun h => ?_)
      · refine bw_iload (pc := 67) C 0 dX2_readPipe_67 rfl ?_
        refine bw_bipush (pc := 69) (v := (-9 : Int32)) C dX2_readPipe_69 bi_m9 ?_
        refine bw_icmp_eq (pc := 71) C 79 dX2_readPipe_71 (by decide) h (fun h => ?_) (fun h => ?_)
        · refine bw_pick [3, 4] rfl ?_
          exact tX2_readPipe_79 C x1 g1 M rr zz h
        · refine bw_iload (pc := 74) C 0 dX2_readPipe_74 rfl ?_
          refine bw_if_ne (pc := 76) C 86 dX2_readPipe_76 (by decide) h (fun h => ?_) (fun h => ?_)
          · refine bw_aload_n (pc := 86) C 4 dX2_readPipe_86 rfl rfl ?_
            refine bw_iload_n (pc := 87) C 2 dX2_readPipe_87 rfl rfl ?_
            refine bw_iload_n (pc := 88) C 1 dX2_readPipe_88 rfl rfl ?_
            refine bw_if_ne (pc := 89) C 97 dX2_readPipe_89 (by decide) h (fun h => ?_) (fun h => ?_)
            · refine bw_iload_n (pc := 97) C 1 dX2_readPipe_97 rfl rfl ?_
              refine bw_iconst (pc := 98) (v := (1 : Int32)) C dX2_readPipe_98 ic_1 ?_
              refine bw_isub (pc := 99) C dX2_readPipe_99 ?_
              refine bw_pick [3, 4, 0] rfl ?_
              exact tX2_readPipe_100 C x1 g1 v4 v2 (v3 - (1 : Int32)) M rr zz h
            · refine bw_bipush (pc := 92) (v := (-9 : Int32)) C dX2_readPipe_92 bi_m9 ?_
              refine bw_goto (pc := 94) C 100 dX2_readPipe_94 (by decide) ?_
              refine bw_pick [3, 4, 0] rfl ?_
              exact tX2_readPipe_100 C x1 g1 v4 v2 (-9 : Int32) M rr zz h
          · refine bw_pick [3, 4] rfl ?_
            exact tX2_readPipe_79 C x1 g1 M rr zz h
      · refine bw_pick [3, 4] rfl ?_
        exact tX2_readPipe_60 C x1 g1 M rr zz h
  · refine bw_aload_n (pc := 41) C 3 dX2_readPipe_41 rfl rfl ?_
    refine bw_getI (pc := 42) (q := 15) (k0 := 2) C ltC_15 shC_15 rfl inX2 mw_31 (by decide) rfl dX2_readPipe_42 ?_
    exact bw_ireti (pc := 45) C dX2_readPipe_45 h
/-! X2_readTown -/
abbrev rmX2_readTown : Room := { frames := 4, cells := 0, slots := 0, locals := 89 }
theorem msX2_readTown : bw_MV yX2_readTown cX2_readTown 6 (some .int) RX2 3 := ⟨mw_239, mw_240, mw_2, mw_241, by decide +kernel⟩
def fX2_readTown_100 (N : Nat) (x1 : Nat) (n1 : Nat) (x2 : Int32) (x3 : Nat)  (x4 : Int32) (M : bw_M) : Option (Int32 × bw_M) :=
  some (x4, M)
theorem tX2_readTown_100 {p : Program} {l : Launch} {e : Env} {s : State} {m : MethodId} {args : Array Value} {below : List Frame} {meth : Method} {c : Code} {D : va_G} {kT : Nat → ClassId} {ρ : Nat → Nat} (C : bw_Cx p s m args meth c cX2_readTown 6 RX2 45 D kT ρ (some .int)) (N : Nat) (x1 : Nat) (n1 : Nat) (x2 : Int32) (x3 : Nat) (g1 : x1 < 45) (i1 : bw_shC x1 = .inr (.inl (1, n1))) (g3 : bw_isT x3)  (x4 : Int32) (M : bw_M) (rr : Int32) (zz : bw_M)  (h : fX2_readTown_100 N x1 n1 x2 x3 x4 M = some (rr, zz)) : bw_At p l e rmX2_readTown s m args below meth c (MQ below (bw_QI bw_shC 45 D kT ρ rr zz) args s 0 0 (bw_A ρ 45)) bw_shC 45 D kT ρ 6 100 [(0, .ref (ρ 15)), (1, .ref (ρ x1)), (2, .int x2), (3, .ref (ρ x3)), (4, .int x4)] [] M := by
  unfold fX2_readTown_100 at h
  refine bw_iload (pc := 100) C 4 dX2_readTown_100 rfl ?_
  exact bw_ireti (pc := 102) C dX2_readTown_102 h
def fX2_readTown_92 (N : Nat) (x1 : Nat) (n1 : Nat) (x2 : Int32) (x3 : Nat) (k29 : Int32 × Int32 × bw_M → Option (Int32 × bw_M)) (x5 : Int32) (s0 : Int32) (M : bw_M) : Option (Int32 × bw_M) :=
  bw_mv (x5 + 1) fun v11 =>
  k29 (s0, v11, M)
theorem tX2_readTown_92 {p : Program} {l : Launch} {e : Env} {s : State} {m : MethodId} {args : Array Value} {below : List Frame} {meth : Method} {c : Code} {D : va_G} {kT : Nat → ClassId} {ρ : Nat → Nat} (C : bw_Cx p s m args meth c cX2_readTown 6 RX2 45 D kT ρ (some .int)) (N : Nat) (x1 : Nat) (n1 : Nat) (x2 : Int32) (x3 : Nat) (g1 : x1 < 45) (i1 : bw_shC x1 = .inr (.inl (1, n1))) (g3 : bw_isT x3) (k29 : Int32 × Int32 × bw_M → Option (Int32 × bw_M)) (x5 : Int32) (s0 : Int32) (M : bw_M) (rr : Int32) (zz : bw_M) (hk29 : ∀ z0, k29 z0 = some (rr, zz) → bw_At p l e rmX2_readTown s m args below meth c (MQ below (bw_QI bw_shC 45 D kT ρ rr zz) args s 0 0 (bw_A ρ 45)) bw_shC 45 D kT ρ 6 29 [(0, .ref (ρ 15)), (1, .ref (ρ x1)), (2, .int x2), (3, .ref (ρ x3)), (4, .int z0.1), (5, .int z0.2.1)] [] z0.2.2) (h : fX2_readTown_92 N x1 n1 x2 x3 k29 x5 s0 M = some (rr, zz)) : bw_At p l e rmX2_readTown s m args below meth c (MQ below (bw_QI bw_shC 45 D kT ρ rr zz) args s 0 0 (bw_A ρ 45)) bw_shC 45 D kT ρ 6 92 [(0, .ref (ρ 15)), (1, .ref (ρ x1)), (2, .int x2), (3, .ref (ρ x3)), (5, .int x5)] [.int s0] M := by
  unfold fX2_readTown_92 at h
  refine bw_istore (pc := 92) (L' := [(4, .int s0), (0, .ref (ρ 15)), (1, .ref (ρ x1)), (2, .int x2), (3, .ref (ρ x3)), (5, .int x5)]) C dX2_readTown_92 (by decide) rfl ?_
  obtain ⟨v11, ev11, h⟩ := bw_mv_o h
  refine bw_iinc (pc := 94) (x := v11) (L' := [(5, .int v11), (4, .int s0), (0, .ref (ρ 15)), (1, .ref (ρ x1)), (2, .int x2), (3, .ref (ρ x3))]) C 5 dX2_readTown_94 rfl ev11.symm (by decide) rfl ?_
  refine bw_goto (pc := 97) C 29 dX2_readTown_97 (by decide) ?_
  refine bw_pick [2, 3, 4, 5, 1, 0] rfl ?_
  exact hk29 (s0, v11, M) h
def fX2_readTown_72 (N : Nat) (x1 : Nat) (n1 : Nat) (x2 : Int32) (x3 : Nat)  (s0 : Int32) (M : bw_M) : Option (Int32 × bw_M) :=
  some (s0, M)
theorem tX2_readTown_72 {p : Program} {l : Launch} {e : Env} {s : State} {m : MethodId} {args : Array Value} {below : List Frame} {meth : Method} {c : Code} {D : va_G} {kT : Nat → ClassId} {ρ : Nat → Nat} (C : bw_Cx p s m args meth c cX2_readTown 6 RX2 45 D kT ρ (some .int)) (N : Nat) (x1 : Nat) (n1 : Nat) (x2 : Int32) (x3 : Nat) (g1 : x1 < 45) (i1 : bw_shC x1 = .inr (.inl (1, n1))) (g3 : bw_isT x3)  (s0 : Int32) (M : bw_M) (rr : Int32) (zz : bw_M)  (h : fX2_readTown_72 N x1 n1 x2 x3 s0 M = some (rr, zz)) : bw_At p l e rmX2_readTown s m args below meth c (MQ below (bw_QI bw_shC 45 D kT ρ rr zz) args s 0 0 (bw_A ρ 45)) bw_shC 45 D kT ρ 6 72 [(0, .ref (ρ 15)), (1, .ref (ρ x1)), (2, .int x2), (3, .ref (ρ x3))] [.int s0] M := by
  unfold fX2_readTown_72 at h
  exact bw_ireti (pc := 72) C dX2_readTown_72 h
def fX2_readTown_29 (N : Nat) (x1 : Nat) (n1 : Nat) (x2 : Int32) (x3 : Nat) (k29 : Int32 × Int32 × bw_M → Option (Int32 × bw_M)) (x4 : Int32) (x5 : Int32) (M : bw_M) : Option (Int32 × bw_M) :=
  if x4 = (-9 : Int32) then
  if (6 : Int32) < x5 then
  fX2_readTown_100 N x1 n1 x2 x3 x4 M
  else
  bw_cl (fX2_passBlanks N M) fun M8 =>
  if (M8.1 15 2) < (M8.1 15 1) then
  if x5 = (6 : Int32) then
  fX2_readTown_92 N x1 n1 x2 x3 k29 x5 (M8.1 15 2) M8
  else
  bw_c2 (fX2_readPipe x3 M8) fun v9 M10 =>
  fX2_readTown_92 N x1 n1 x2 x3 k29 x5 v9 M10
  else
  if x5 = 0 then
  fX2_readTown_72 N x1 n1 x2 x3 (M8.1 15 1) M8
  else
  fX2_readTown_72 N x1 n1 x2 x3 (-9 : Int32) M8
  else
  fX2_readTown_100 N x1 n1 x2 x3 x4 M
theorem tX2_readTown_29 {p : Program} {l : Launch} {e : Env} {s : State} {m : MethodId} {args : Array Value} {below : List Frame} {meth : Method} {c : Code} {D : va_G} {kT : Nat → ClassId} {ρ : Nat → Nat} (C : bw_Cx p s m args meth c cX2_readTown 6 RX2 45 D kT ρ (some .int)) (N : Nat) (x1 : Nat) (n1 : Nat) (x2 : Int32) (x3 : Nat) (g1 : x1 < 45) (i1 : bw_shC x1 = .inr (.inl (1, n1))) (g3 : bw_isT x3) (k29 : Int32 × Int32 × bw_M → Option (Int32 × bw_M)) (x4 : Int32) (x5 : Int32) (M : bw_M) (rr : Int32) (zz : bw_M) (hk29 : ∀ z0, k29 z0 = some (rr, zz) → bw_At p l e rmX2_readTown s m args below meth c (MQ below (bw_QI bw_shC 45 D kT ρ rr zz) args s 0 0 (bw_A ρ 45)) bw_shC 45 D kT ρ 6 29 [(0, .ref (ρ 15)), (1, .ref (ρ x1)), (2, .int x2), (3, .ref (ρ x3)), (4, .int z0.1), (5, .int z0.2.1)] [] z0.2.2) (h : fX2_readTown_29 N x1 n1 x2 x3 k29 x4 x5 M = some (rr, zz)) : bw_At p l e rmX2_readTown s m args below meth c (MQ below (bw_QI bw_shC 45 D kT ρ rr zz) args s 0 0 (bw_A ρ 45)) bw_shC 45 D kT ρ 6 29 [(0, .ref (ρ 15)), (1, .ref (ρ x1)), (2, .int x2), (3, .ref (ρ x3)), (4, .int x4), (5, .int x5)] [] M := by
  unfold fX2_readTown_29 at h
  refine bw_iload (pc := 29) C 4 dX2_readTown_29 rfl ?_
  refine bw_bipush (pc := 31) (v := (-9 : Int32)) C dX2_readTown_31 bi_m9 ?_
  refine bw_icmp_ne (pc := 33) C 100 dX2_readTown_33 (by decide) h (fun h => ?_) (fun h => ?_)
  · refine bw_pick [0, 1, 2, 3, 4] rfl ?_
    exact tX2_readTown_100 C N x1 n1 x2 x3 g1 i1 g3 x4 M rr zz h
  · refine bw_iload (pc := 36) C 5 dX2_readTown_36 rfl ?_
    refine bw_bipush (pc := 38) (v := (6 : Int32)) C dX2_readTown_38 bi_6 ?_
    refine bw_icmp_gt (pc := 40) C 100 dX2_readTown_40 (by decide) h (fun h => ?_) (fun h => ?_)
    · refine bw_pick [0, 1, 2, 3, 4] rfl ?_
      exact tX2_readTown_100 C N x1 n1 x2 x3 g1 i1 g3 x4 M rr zz h
    · refine bw_aload_n (pc := 43) C 0 dX2_readTown_43 rfl rfl ?_
      obtain ⟨M8, eM8, h⟩ := bw_cl_o h
      refine bw_cVv (pc := 44) (q := 15) (As := []) (rest := []) C (tX2_passBlanks l N M M8 eM8) msX2_passBlanks mw_242 rfl rfl ⟨Nat.le_of_ble_eq_true rfl, Nat.le_of_ble_eq_true rfl⟩ ltC_15 shC_15 rfl rfl rfl rfl (Nat.le_of_ble_eq_true rfl) dX2_readTown_44 ?_
      refine bw_aload_n (pc := 47) C 0 dX2_readTown_47 rfl rfl ?_
      refine bw_getI (pc := 48) (q := 15) (k0 := 2) C ltC_15 shC_15 rfl inX2 mw_31 (by decide) rfl dX2_readTown_48 ?_
      refine bw_aload_n (pc := 51) C 0 dX2_readTown_51 rfl rfl ?_
      refine bw_getI (pc := 52) (q := 15) (k0 := 1) C ltC_15 shC_15 rfl inX2 mw_30 (by decide) rfl dX2_readTown_52 ?_
      refine bw_icmp_lt (pc := 55) C 73 dX2_readTown_55 (by decide) h (fun h => ?_) (fun h => ?_)
      · refine bw_iload (pc := 73) C 5 dX2_readTown_73 rfl ?_
        refine bw_bipush (pc := 75) (v := (6 : Int32)) C dX2_readTown_75 bi_6 ?_
        refine bw_icmp_ne (pc := 77) C 87 dX2_readTown_77 (by decide) h (fun h => ?_) (fun h => ?_)
        · refine bw_aload_n (pc := 87) C 0 dX2_readTown_87 rfl rfl ?_
          refine bw_aload_n (pc := 88) C 3 dX2_readTown_88 rfl rfl ?_
          obtain ⟨v9, M10, ev9, h⟩ := bw_c2_o h
          refine bw_cVi (pc := 89) (q := 15) (As := [.ref (ρ x3)]) (rest := []) C (tX2_readPipe l x3 g3 M8 v9 M10 ev9) msX2_readPipe mw_267 rfl rfl ⟨Nat.le_of_ble_eq_true rfl, Nat.le_of_ble_eq_true rfl⟩ ltC_15 shC_15 rfl rfl rfl rfl (Nat.le_of_ble_eq_true rfl) dX2_readTown_89 ?_
          refine bw_pick [0, 1, 2, 3, 5] rfl ?_
          exact tX2_readTown_92 C N x1 n1 x2 x3 g1 i1 g3 k29 x5 v9 M10 rr zz hk29 h
        · refine bw_aload_n (pc := 80) C 0 dX2_readTown_80 rfl rfl ?_
          refine bw_getI (pc := 81) (q := 15) (k0 := 2) C ltC_15 shC_15 rfl inX2 mw_31 (by decide) rfl dX2_readTown_81 ?_
          refine bw_goto (pc := 84) C 92 dX2_readTown_84 (by decide) ?_
          refine bw_pick [0, 1, 2, 3, 5] rfl ?_
          exact tX2_readTown_92 C N x1 n1 x2 x3 g1 i1 g3 k29 x5 (M8.1 15 2) M8 rr zz hk29 h
      · refine bw_iload (pc := 58) C 5 dX2_readTown_58 rfl ?_
        refine bw_if_ne (pc := 60) C 70 dX2_readTown_60 (by decide) h (fun h => ?_) (fun h => ?_)
        · refine bw_bipush (pc := 70) (v := (-9 : Int32)) C dX2_readTown_70 bi_m9 ?_
          refine bw_pick [0, 1, 2, 3] rfl ?_
          exact tX2_readTown_72 C N x1 n1 x2 x3 g1 i1 g3 (-9 : Int32) M8 rr zz h
        · refine bw_aload_n (pc := 63) C 0 dX2_readTown_63 rfl rfl ?_
          refine bw_getI (pc := 64) (q := 15) (k0 := 1) C ltC_15 shC_15 rfl inX2 mw_30 (by decide) rfl dX2_readTown_64 ?_
          refine bw_goto (pc := 67) C 72 dX2_readTown_67 (by decide) ?_
          refine bw_pick [0, 1, 2, 3] rfl ?_
          exact tX2_readTown_72 C N x1 n1 x2 x3 g1 i1 g3 (M8.1 15 1) M8 rr zz h
def flX2_readTown_29 (N : Nat) (x1 : Nat) (n1 : Nat) (x2 : Int32) (x3 : Nat)    (fu : Nat) (w : Int32 × Int32 × bw_M) : Option (Int32 × bw_M) := bw_lp (fun kk w => fX2_readTown_29 N x1 n1 x2 x3 kk w.1 w.2.1 w.2.2) fu w
theorem tlX2_readTown_29 {p : Program} {l : Launch} {e : Env} {s : State} {m : MethodId} {args : Array Value} {below : List Frame} {meth : Method} {c : Code} {D : va_G} {kT : Nat → ClassId} {ρ : Nat → Nat} (C : bw_Cx p s m args meth c cX2_readTown 6 RX2 45 D kT ρ (some .int)) (N : Nat) (x1 : Nat) (n1 : Nat) (x2 : Int32) (x3 : Nat) (g1 : x1 < 45) (i1 : bw_shC x1 = .inr (.inl (1, n1))) (g3 : bw_isT x3)    (rr : Int32) (zz : bw_M)  (fu : Nat) (w : Int32 × Int32 × bw_M) (h : flX2_readTown_29 N x1 n1 x2 x3 fu w = some (rr, zz)) : bw_At p l e rmX2_readTown s m args below meth c (MQ below (bw_QI bw_shC 45 D kT ρ rr zz) args s 0 0 (bw_A ρ 45)) bw_shC 45 D kT ρ 6 29 [(0, .ref (ρ 15)), (1, .ref (ρ x1)), (2, .int x2), (3, .ref (ρ x3)), (4, .int w.1), (5, .int w.2.1)] [] w.2.2 :=
  bw_loop (r := (rr, zz)) (fun w => bw_At p l e rmX2_readTown s m args below meth c (MQ below (bw_QI bw_shC 45 D kT ρ rr zz) args s 0 0 (bw_A ρ 45)) bw_shC 45 D kT ρ 6 29 [(0, .ref (ρ 15)), (1, .ref (ρ x1)), (2, .int x2), (3, .ref (ρ x3)), (4, .int w.1), (5, .int w.2.1)] [] w.2.2) (fun kk hk w h => tX2_readTown_29 C N x1 n1 x2 x3 g1 i1 g3 kk w.1 w.2.1 w.2.2 rr zz hk h) fu w h
def fX2_readTown (N : Nat) (x1 : Nat) (n1 : Nat) (x2 : Int32) (x3 : Nat) (M : bw_M) : Option (Int32 × bw_M) :=
  bw_mv (bw_pR M (some x1)) fun M1 =>
  bw_mv (bw_pI M1 15 1 x2) fun M2 =>
  bw_mv (bw_pI M2 15 2 (0 : Int32)) fun M3 =>
  bw_cl (fX2_passBlanks N M3) fun M4 =>
  bw_c2 (fX2_readBellows N x3 M4) fun v5 M6 =>
  bw_mv (0 : Int32) fun v7 =>
  flX2_readTown_29 N x1 n1 x2 x3 N (v5, v7, M6)
theorem tX2_readTown (l : Launch) (N : Nat) (x1 : Nat) (n1 : Nat) (x2 : Int32) (x3 : Nat) (g1 : x1 < 45) (i1 : bw_shC x1 = .inr (.inl (1, n1))) (g3 : bw_isT x3) (M : bw_M) (rr : Int32) (zz : bw_M) (h : fX2_readTown N x1 n1 x2 x3 M = some (rr, zz)) : bw_CI l bw_shC 45 yX2_readTown cX2_readTown 6 (some .int) rmX2_readTown (fun ρ => [.ref (ρ 15), .ref (ρ x1), .int x2, .ref (ρ x3)]) M rr zz := by
  refine bw_inI (Lf := fun ρ => [(0, .ref (ρ 15)), (1, .ref (ρ x1)), (2, .int x2), (3, .ref (ρ x3))]) cX2_readTown 6 (some .int) RX2 pn_X2 rfl (fun ρ => Nat.le_of_ble_eq_true rfl) (fun ρ => rfl) ?_
  intro p e s m args below meth c D kT ρ C
  unfold fX2_readTown at h
  refine bw_aload_n (pc := 0) C 0 dX2_readTown_0 rfl rfl ?_
  refine bw_aload_n (pc := 1) C 1 dX2_readTown_1 rfl rfl ?_
  obtain ⟨M1, eM1, h⟩ := bw_mv_o h
  refine bw_putM (pc := 2) (q := 15) (k0 := 0) C ltC_15 shC_15 rfl inX2 mw_29 (by decide) tyX2 tyX2_ok nmX2 rfl rfl one_C2 two_C2 rfl eM1 rfl rfl dX2_readTown_2 ?_
  refine bw_aload_n (pc := 5) C 0 dX2_readTown_5 rfl rfl ?_
  refine bw_iload_n (pc := 6) C 2 dX2_readTown_6 rfl rfl ?_
  obtain ⟨M2, eM2, h⟩ := bw_mv_o h
  refine bw_putI (pc := 7) (q := 15) (k0 := 1) C ltC_15 shC_15 rfl inX2 mw_30 (by decide) tyX2 tyX2_ok nmX2 rfl rfl rfl eM2 rfl rfl dX2_readTown_7 ?_
  refine bw_aload_n (pc := 10) C 0 dX2_readTown_10 rfl rfl ?_
  refine bw_iconst (pc := 11) (v := (0 : Int32)) C dX2_readTown_11 ic_0 ?_
  obtain ⟨M3, eM3, h⟩ := bw_mv_o h
  refine bw_putI (pc := 12) (q := 15) (k0 := 2) C ltC_15 shC_15 rfl inX2 mw_31 (by decide) tyX2 tyX2_ok nmX2 rfl rfl rfl eM3 rfl rfl dX2_readTown_12 ?_
  refine bw_aload_n (pc := 15) C 0 dX2_readTown_15 rfl rfl ?_
  obtain ⟨M4, eM4, h⟩ := bw_cl_o h
  refine bw_cVv (pc := 16) (q := 15) (As := []) (rest := []) C (tX2_passBlanks l N M3 M4 eM4) msX2_passBlanks mw_242 rfl rfl ⟨Nat.le_of_ble_eq_true rfl, Nat.le_of_ble_eq_true rfl⟩ ltC_15 shC_15 rfl rfl rfl rfl (Nat.le_of_ble_eq_true rfl) dX2_readTown_16 ?_
  refine bw_aload_n (pc := 19) C 0 dX2_readTown_19 rfl rfl ?_
  refine bw_aload_n (pc := 20) C 3 dX2_readTown_20 rfl rfl ?_
  obtain ⟨v5, M6, ev5, h⟩ := bw_c2_o h
  refine bw_cVi (pc := 21) (q := 15) (As := [.ref (ρ x3)]) (rest := []) C (tX2_readBellows l N x3 g3 M4 v5 M6 ev5) msX2_readBellows mw_250 rfl rfl ⟨Nat.le_of_ble_eq_true rfl, Nat.le_of_ble_eq_true rfl⟩ ltC_15 shC_15 rfl rfl rfl rfl (Nat.le_of_ble_eq_true rfl) dX2_readTown_21 ?_
  refine bw_istore (pc := 24) (L' := [(4, .int v5), (0, .ref (ρ 15)), (1, .ref (ρ x1)), (2, .int x2), (3, .ref (ρ x3))]) C dX2_readTown_24 (by decide) rfl ?_
  refine bw_iconst (pc := 26) (v := (0 : Int32)) C dX2_readTown_26 ic_0 ?_
  obtain ⟨v7, ev7, h⟩ := bw_mv_o h
  refine bw_nmI ev7 ?_
  refine bw_istore (pc := 27) (L' := [(5, .int v7), (4, .int v5), (0, .ref (ρ 15)), (1, .ref (ρ x1)), (2, .int x2), (3, .ref (ρ x3))]) C dX2_readTown_27 (by decide) rfl ?_
  refine bw_pick [2, 3, 4, 5, 1, 0] rfl ?_
  exact tlX2_readTown_29 C N x1 n1 x2 x3 g1 i1 g3 rr zz N (v5, v7, M6) h
/-! X3_allPipes -/
abbrev rmX3_allPipes : Room := { frames := 0, cells := 0, slots := 0, locals := 0 }
theorem msX3_allPipes : bw_MV yX3_allPipes cX3_allPipes 1 (some .int) RX3 0 := ⟨mw_431, mw_432, mw_3, mw_433, by decide +kernel⟩
def fX3_allPipes (x0 : Nat) (M : bw_M) : Option (Int32) :=
  some (((1 : Int32) <<< ((M.1 x0 0) &&& 31)) - (1 : Int32))
theorem tX3_allPipes (l : Launch) (x0 : Nat) (g0 : bw_isT x0) (M : bw_M) (rr : Int32) (h : fX3_allPipes x0 M = some rr) : bw_CI l bw_shC 45 yX3_allPipes cX3_allPipes 1 (some .int) rmX3_allPipes (fun ρ => [.ref (ρ x0)]) M rr M := by
  refine bw_inI (Lf := fun ρ => [(0, .ref (ρ x0))]) cX3_allPipes 1 (some .int) RX3 pn_X3 rfl (fun ρ => Nat.le_of_ble_eq_true rfl) (fun ρ => rfl) ?_
  intro p e s m args below meth c D kT ρ C
  unfold fX3_allPipes at h
  refine bw_iconst (pc := 0) (v := (1 : Int32)) C dX3_allPipes_0 ic_1 ?_
  refine bw_aload_n (pc := 1) C 0 dX3_allPipes_1 rfl rfl ?_
  refine bw_getI (pc := 2) (q := x0) (k0 := 0) C (ltC_T g0) (shC_T g0) rfl inX3 mw_47 (by decide) rfl dX3_allPipes_2 ?_
  refine bw_ishl (pc := 5) C dX3_allPipes_5 ?_
  refine bw_iconst (pc := 6) (v := (1 : Int32)) C dX3_allPipes_6 ic_1 ?_
  refine bw_isub (pc := 7) C dX3_allPipes_7 ?_
  exact bw_ireti (pc := 8) C dX3_allPipes_8 (bw_pr M h)
/-! X3_become -/
abbrev rmX3_become : Room := { frames := 0, cells := 0, slots := 0, locals := 0 }
theorem msX3_become : bw_MV yX3_become cX3_become 3 none RX3 1 := ⟨mw_283, mw_284, mw_3, mw_285, by decide +kernel⟩
def fX3_become_66 (N : Nat) (x0 : Nat) (x1 : Nat) (k66 : Int32 × bw_M → Option (bw_M)) (x2 : Int32) (M : bw_M) : Option (bw_M) :=
  if (6 : Int32) ≤ x2 then
  some M
  else
  bw_rd M (x1 + 1) 6 x2 fun v10 =>
  bw_wr M (x0 + 1) 6 x2 v10 fun M11 =>
  bw_rd M11 (x1 + 2) 6 x2 fun v12 =>
  bw_wr M11 (x0 + 2) 6 x2 v12 fun M13 =>
  bw_rd M13 (x1 + 3) 6 x2 fun v14 =>
  bw_wr M13 (x0 + 3) 6 x2 v14 fun M15 =>
  bw_rd M15 (x1 + 4) 6 x2 fun v16 =>
  bw_wr M15 (x0 + 4) 6 x2 v16 fun M17 =>
  bw_rd M17 (x1 + 5) 6 x2 fun v18 =>
  bw_wr M17 (x0 + 5) 6 x2 v18 fun M19 =>
  bw_mv (x2 + 1) fun v20 =>
  k66 (v20, M19)
theorem tX3_become_66 {p : Program} {l : Launch} {e : Env} {s : State} {m : MethodId} {args : Array Value} {below : List Frame} {meth : Method} {c : Code} {D : va_G} {kT : Nat → ClassId} {ρ : Nat → Nat} (C : bw_Cx p s m args meth c cX3_become 3 RX3 45 D kT ρ none) (N : Nat) (x0 : Nat) (x1 : Nat) (g0 : bw_isT x0) (g1 : bw_isT x1) (k66 : Int32 × bw_M → Option (bw_M)) (x2 : Int32) (M : bw_M) (zz : bw_M) (hk66 : ∀ z0, k66 z0 = some zz → bw_At p l e rmX3_become s m args below meth c (MQ below (bw_QV bw_shC 45 D kT ρ zz) args s 0 0 (bw_A ρ 45)) bw_shC 45 D kT ρ 3 66 [(0, .ref (ρ x0)), (1, .ref (ρ x1)), (2, .int z0.1)] [] z0.2) (h : fX3_become_66 N x0 x1 k66 x2 M = some zz) : bw_At p l e rmX3_become s m args below meth c (MQ below (bw_QV bw_shC 45 D kT ρ zz) args s 0 0 (bw_A ρ 45)) bw_shC 45 D kT ρ 3 66 [(0, .ref (ρ x0)), (1, .ref (ρ x1)), (2, .int x2)] [] M := by
  unfold fX3_become_66 at h
  refine bw_iload_n (pc := 66) C 2 dX3_become_66 rfl rfl ?_
  refine bw_bipush (pc := 67) (v := (6 : Int32)) C dX3_become_67 bi_6 ?_
  refine bw_icmp_ge (pc := 69) C 138 dX3_become_69 (by decide) h (fun h => ?_) (fun h => ?_)
  · exact bw_vreti (pc := 138) C dX3_become_138 h
  · refine bw_aload_n (pc := 72) C 0 dX3_become_72 rfl rfl ?_
    refine bw_getR (pc := 73) (q := x0) (k0 := 8) C (ltC_T g0) (shC_T g0) rfl inX3 mw_62 (by decide) rfl dX3_become_73 ?_
    refine bw_iload_n (pc := 76) C 2 dX3_become_76 rfl rfl ?_
    refine bw_aload_n (pc := 77) C 1 dX3_become_77 rfl rfl ?_
    refine bw_getR (pc := 78) (q := x1) (k0 := 8) C (ltC_T g1) (shC_T g1) rfl inX3 mw_62 (by decide) rfl dX3_become_78 ?_
    refine bw_iload_n (pc := 81) C 2 dX3_become_81 rfl rfl ?_
    obtain ⟨qv10, v10, ev10, h⟩ := bw_rd_o h
    refine bw_iald (pc := 82) (q := (x1 + 1)) C (ltC_T1 g1) (shC_T1 g1) qv10 ev10 dX3_become_82 ?_
    obtain ⟨qM11, M11, eM11, h⟩ := bw_wr_o h
    refine bw_iast (pc := 83) (q := (x0 + 1)) C (ltC_T1 g0) (shC_T1 g0) qM11 eM11 dX3_become_83 ?_
    refine bw_aload_n (pc := 84) C 0 dX3_become_84 rfl rfl ?_
    refine bw_getR (pc := 85) (q := x0) (k0 := 9) C (ltC_T g0) (shC_T g0) rfl inX3 mw_64 (by decide) rfl dX3_become_85 ?_
    refine bw_iload_n (pc := 88) C 2 dX3_become_88 rfl rfl ?_
    refine bw_aload_n (pc := 89) C 1 dX3_become_89 rfl rfl ?_
    refine bw_getR (pc := 90) (q := x1) (k0 := 9) C (ltC_T g1) (shC_T g1) rfl inX3 mw_64 (by decide) rfl dX3_become_90 ?_
    refine bw_iload_n (pc := 93) C 2 dX3_become_93 rfl rfl ?_
    obtain ⟨qv12, v12, ev12, h⟩ := bw_rd_o h
    refine bw_iald (pc := 94) (q := (x1 + 2)) C (ltC_T2 g1) (shC_T2 g1) qv12 ev12 dX3_become_94 ?_
    obtain ⟨qM13, M13, eM13, h⟩ := bw_wr_o h
    refine bw_iast (pc := 95) (q := (x0 + 2)) C (ltC_T2 g0) (shC_T2 g0) qM13 eM13 dX3_become_95 ?_
    refine bw_aload_n (pc := 96) C 0 dX3_become_96 rfl rfl ?_
    refine bw_getR (pc := 97) (q := x0) (k0 := 10) C (ltC_T g0) (shC_T g0) rfl inX3 mw_66 (by decide) rfl dX3_become_97 ?_
    refine bw_iload_n (pc := 100) C 2 dX3_become_100 rfl rfl ?_
    refine bw_aload_n (pc := 101) C 1 dX3_become_101 rfl rfl ?_
    refine bw_getR (pc := 102) (q := x1) (k0 := 10) C (ltC_T g1) (shC_T g1) rfl inX3 mw_66 (by decide) rfl dX3_become_102 ?_
    refine bw_iload_n (pc := 105) C 2 dX3_become_105 rfl rfl ?_
    obtain ⟨qv14, v14, ev14, h⟩ := bw_rd_o h
    refine bw_iald (pc := 106) (q := (x1 + 3)) C (ltC_T3 g1) (shC_T3 g1) qv14 ev14 dX3_become_106 ?_
    obtain ⟨qM15, M15, eM15, h⟩ := bw_wr_o h
    refine bw_iast (pc := 107) (q := (x0 + 3)) C (ltC_T3 g0) (shC_T3 g0) qM15 eM15 dX3_become_107 ?_
    refine bw_aload_n (pc := 108) C 0 dX3_become_108 rfl rfl ?_
    refine bw_getR (pc := 109) (q := x0) (k0 := 11) C (ltC_T g0) (shC_T g0) rfl inX3 mw_68 (by decide) rfl dX3_become_109 ?_
    refine bw_iload_n (pc := 112) C 2 dX3_become_112 rfl rfl ?_
    refine bw_aload_n (pc := 113) C 1 dX3_become_113 rfl rfl ?_
    refine bw_getR (pc := 114) (q := x1) (k0 := 11) C (ltC_T g1) (shC_T g1) rfl inX3 mw_68 (by decide) rfl dX3_become_114 ?_
    refine bw_iload_n (pc := 117) C 2 dX3_become_117 rfl rfl ?_
    obtain ⟨qv16, v16, ev16, h⟩ := bw_rd_o h
    refine bw_iald (pc := 118) (q := (x1 + 4)) C (ltC_T4 g1) (shC_T4 g1) qv16 ev16 dX3_become_118 ?_
    obtain ⟨qM17, M17, eM17, h⟩ := bw_wr_o h
    refine bw_iast (pc := 119) (q := (x0 + 4)) C (ltC_T4 g0) (shC_T4 g0) qM17 eM17 dX3_become_119 ?_
    refine bw_aload_n (pc := 120) C 0 dX3_become_120 rfl rfl ?_
    refine bw_getR (pc := 121) (q := x0) (k0 := 12) C (ltC_T g0) (shC_T g0) rfl inX3 mw_70 (by decide) rfl dX3_become_121 ?_
    refine bw_iload_n (pc := 124) C 2 dX3_become_124 rfl rfl ?_
    refine bw_aload_n (pc := 125) C 1 dX3_become_125 rfl rfl ?_
    refine bw_getR (pc := 126) (q := x1) (k0 := 12) C (ltC_T g1) (shC_T g1) rfl inX3 mw_70 (by decide) rfl dX3_become_126 ?_
    refine bw_iload_n (pc := 129) C 2 dX3_become_129 rfl rfl ?_
    obtain ⟨qv18, v18, ev18, h⟩ := bw_rd_o h
    refine bw_iald (pc := 130) (q := (x1 + 5)) C (ltC_T5 g1) (shC_T5 g1) qv18 ev18 dX3_become_130 ?_
    obtain ⟨qM19, M19, eM19, h⟩ := bw_wr_o h
    refine bw_iast (pc := 131) (q := (x0 + 5)) C (ltC_T5 g0) (shC_T5 g0) qM19 eM19 dX3_become_131 ?_
    obtain ⟨v20, ev20, h⟩ := bw_mv_o h
    refine bw_iinc (pc := 132) (x := v20) (L' := [(2, .int v20), (0, .ref (ρ x0)), (1, .ref (ρ x1))]) C 2 dX3_become_132 rfl ev20.symm (by decide) rfl ?_
    refine bw_goto (pc := 135) C 66 dX3_become_135 (by decide) ?_
    refine bw_pick [1, 2, 0] rfl ?_
    exact hk66 (v20, M19) h
def flX3_become_66 (N : Nat) (x0 : Nat) (x1 : Nat)    (fu : Nat) (w : Int32 × bw_M) : Option (bw_M) := bw_lp (fun kk w => fX3_become_66 N x0 x1 kk w.1 w.2) fu w
theorem tlX3_become_66 {p : Program} {l : Launch} {e : Env} {s : State} {m : MethodId} {args : Array Value} {below : List Frame} {meth : Method} {c : Code} {D : va_G} {kT : Nat → ClassId} {ρ : Nat → Nat} (C : bw_Cx p s m args meth c cX3_become 3 RX3 45 D kT ρ none) (N : Nat) (x0 : Nat) (x1 : Nat) (g0 : bw_isT x0) (g1 : bw_isT x1)    (zz : bw_M)  (fu : Nat) (w : Int32 × bw_M) (h : flX3_become_66 N x0 x1 fu w = some zz) : bw_At p l e rmX3_become s m args below meth c (MQ below (bw_QV bw_shC 45 D kT ρ zz) args s 0 0 (bw_A ρ 45)) bw_shC 45 D kT ρ 3 66 [(0, .ref (ρ x0)), (1, .ref (ρ x1)), (2, .int w.1)] [] w.2 :=
  bw_loop (r := zz) (fun w => bw_At p l e rmX3_become s m args below meth c (MQ below (bw_QV bw_shC 45 D kT ρ zz) args s 0 0 (bw_A ρ 45)) bw_shC 45 D kT ρ 3 66 [(0, .ref (ρ x0)), (1, .ref (ρ x1)), (2, .int w.1)] [] w.2) (fun kk hk w h => tX3_become_66 C N x0 x1 g0 g1 kk w.1 w.2 zz hk h) fu w h
def fX3_become (N : Nat) (x0 : Nat) (x1 : Nat) (M : bw_M) : Option (bw_M) :=
  bw_mv (bw_pI M x0 0 (M.1 x1 0)) fun M1 =>
  bw_mv (bw_pI M1 x0 1 (M1.1 x1 1)) fun M2 =>
  bw_mv (bw_pI M2 x0 2 (M2.1 x1 2)) fun M3 =>
  bw_mv (bw_pI M3 x0 3 (M3.1 x1 3)) fun M4 =>
  bw_mv (bw_pI M4 x0 4 (M4.1 x1 4)) fun M5 =>
  bw_mv (bw_pI M5 x0 5 (M5.1 x1 5)) fun M6 =>
  bw_mv (bw_pI M6 x0 6 (M6.1 x1 6)) fun M7 =>
  bw_mv (bw_pI M7 x0 7 (M7.1 x1 7)) fun M8 =>
  bw_mv (0 : Int32) fun v9 =>
  flX3_become_66 N x0 x1 N (v9, M8)
theorem tX3_become (l : Launch) (N : Nat) (x0 : Nat) (x1 : Nat) (g0 : bw_isT x0) (g1 : bw_isT x1) (M : bw_M) (zz : bw_M) (h : fX3_become N x0 x1 M = some zz) : bw_CV l bw_shC 45 yX3_become cX3_become 3 none rmX3_become (fun ρ => [.ref (ρ x0), .ref (ρ x1)]) M zz := by
  refine bw_inV (Lf := fun ρ => [(0, .ref (ρ x0)), (1, .ref (ρ x1))]) cX3_become 3 none RX3 pn_X3 rfl (fun ρ => Nat.le_of_ble_eq_true rfl) (fun ρ => rfl) ?_
  intro p e s m args below meth c D kT ρ C
  unfold fX3_become at h
  refine bw_aload_n (pc := 0) C 0 dX3_become_0 rfl rfl ?_
  refine bw_aload_n (pc := 1) C 1 dX3_become_1 rfl rfl ?_
  refine bw_getI (pc := 2) (q := x1) (k0 := 0) C (ltC_T g1) (shC_T g1) rfl inX3 mw_47 (by decide) rfl dX3_become_2 ?_
  obtain ⟨M1, eM1, h⟩ := bw_mv_o h
  refine bw_putI (pc := 5) (q := x0) (k0 := 0) C (ltC_T g0) (shC_T g0) rfl inX3 mw_47 (by decide) tyX3 tyX3_ok nmX3 rfl rfl rfl eM1 rfl rfl dX3_become_5 ?_
  refine bw_aload_n (pc := 8) C 0 dX3_become_8 rfl rfl ?_
  refine bw_aload_n (pc := 9) C 1 dX3_become_9 rfl rfl ?_
  refine bw_getI (pc := 10) (q := x1) (k0 := 1) C (ltC_T g1) (shC_T g1) rfl inX3 mw_50 (by decide) rfl dX3_become_10 ?_
  obtain ⟨M2, eM2, h⟩ := bw_mv_o h
  refine bw_putI (pc := 13) (q := x0) (k0 := 1) C (ltC_T g0) (shC_T g0) rfl inX3 mw_50 (by decide) tyX3 tyX3_ok nmX3 rfl rfl rfl eM2 rfl rfl dX3_become_13 ?_
  refine bw_aload_n (pc := 16) C 0 dX3_become_16 rfl rfl ?_
  refine bw_aload_n (pc := 17) C 1 dX3_become_17 rfl rfl ?_
  refine bw_getI (pc := 18) (q := x1) (k0 := 2) C (ltC_T g1) (shC_T g1) rfl inX3 mw_51 (by decide) rfl dX3_become_18 ?_
  obtain ⟨M3, eM3, h⟩ := bw_mv_o h
  refine bw_putI (pc := 21) (q := x0) (k0 := 2) C (ltC_T g0) (shC_T g0) rfl inX3 mw_51 (by decide) tyX3 tyX3_ok nmX3 rfl rfl rfl eM3 rfl rfl dX3_become_21 ?_
  refine bw_aload_n (pc := 24) C 0 dX3_become_24 rfl rfl ?_
  refine bw_aload_n (pc := 25) C 1 dX3_become_25 rfl rfl ?_
  refine bw_getI (pc := 26) (q := x1) (k0 := 3) C (ltC_T g1) (shC_T g1) rfl inX3 mw_52 (by decide) rfl dX3_become_26 ?_
  obtain ⟨M4, eM4, h⟩ := bw_mv_o h
  refine bw_putI (pc := 29) (q := x0) (k0 := 3) C (ltC_T g0) (shC_T g0) rfl inX3 mw_52 (by decide) tyX3 tyX3_ok nmX3 rfl rfl rfl eM4 rfl rfl dX3_become_29 ?_
  refine bw_aload_n (pc := 32) C 0 dX3_become_32 rfl rfl ?_
  refine bw_aload_n (pc := 33) C 1 dX3_become_33 rfl rfl ?_
  refine bw_getI (pc := 34) (q := x1) (k0 := 4) C (ltC_T g1) (shC_T g1) rfl inX3 mw_54 (by decide) rfl dX3_become_34 ?_
  obtain ⟨M5, eM5, h⟩ := bw_mv_o h
  refine bw_putI (pc := 37) (q := x0) (k0 := 4) C (ltC_T g0) (shC_T g0) rfl inX3 mw_54 (by decide) tyX3 tyX3_ok nmX3 rfl rfl rfl eM5 rfl rfl dX3_become_37 ?_
  refine bw_aload_n (pc := 40) C 0 dX3_become_40 rfl rfl ?_
  refine bw_aload_n (pc := 41) C 1 dX3_become_41 rfl rfl ?_
  refine bw_getI (pc := 42) (q := x1) (k0 := 5) C (ltC_T g1) (shC_T g1) rfl inX3 mw_56 (by decide) rfl dX3_become_42 ?_
  obtain ⟨M6, eM6, h⟩ := bw_mv_o h
  refine bw_putI (pc := 45) (q := x0) (k0 := 5) C (ltC_T g0) (shC_T g0) rfl inX3 mw_56 (by decide) tyX3 tyX3_ok nmX3 rfl rfl rfl eM6 rfl rfl dX3_become_45 ?_
  refine bw_aload_n (pc := 48) C 0 dX3_become_48 rfl rfl ?_
  refine bw_aload_n (pc := 49) C 1 dX3_become_49 rfl rfl ?_
  refine bw_getI (pc := 50) (q := x1) (k0 := 6) C (ltC_T g1) (shC_T g1) rfl inX3 mw_58 (by decide) rfl dX3_become_50 ?_
  obtain ⟨M7, eM7, h⟩ := bw_mv_o h
  refine bw_putI (pc := 53) (q := x0) (k0 := 6) C (ltC_T g0) (shC_T g0) rfl inX3 mw_58 (by decide) tyX3 tyX3_ok nmX3 rfl rfl rfl eM7 rfl rfl dX3_become_53 ?_
  refine bw_aload_n (pc := 56) C 0 dX3_become_56 rfl rfl ?_
  refine bw_aload_n (pc := 57) C 1 dX3_become_57 rfl rfl ?_
  refine bw_getI (pc := 58) (q := x1) (k0 := 7) C (ltC_T g1) (shC_T g1) rfl inX3 mw_60 (by decide) rfl dX3_become_58 ?_
  obtain ⟨M8, eM8, h⟩ := bw_mv_o h
  refine bw_putI (pc := 61) (q := x0) (k0 := 7) C (ltC_T g0) (shC_T g0) rfl inX3 mw_60 (by decide) tyX3 tyX3_ok nmX3 rfl rfl rfl eM8 rfl rfl dX3_become_61 ?_
  refine bw_iconst (pc := 64) (v := (0 : Int32)) C dX3_become_64 ic_0 ?_
  obtain ⟨v9, ev9, h⟩ := bw_mv_o h
  refine bw_nmI ev9 ?_
  refine bw_istore_n (pc := 65) (L' := [(2, .int v9), (0, .ref (ρ x0)), (1, .ref (ρ x1))]) C dX3_become_65 rfl (by decide) rfl ?_
  refine bw_pick [1, 2, 0] rfl ?_
  exact tlX3_become_66 C N x0 x1 g0 g1 zz N (v9, M8) h
/-! X3_isIn -/
abbrev rmX3_isIn : Room := { frames := 0, cells := 0, slots := 0, locals := 0 }
theorem msX3_isIn : bw_MS yX3_isIn cX3_isIn 2 (some .boolean) 2 := ⟨mw_310, mw_3, mw_311, by decide +kernel⟩
def fX3_isIn_14 (x0 : Int32) (x1 : Int32)  (s0 : Int32)  : Option (Int32) :=
  bw_ck (bw_isb s0) (some s0)
theorem tX3_isIn_14 {p : Program} {l : Launch} {e : Env} {s : State} {m : MethodId} {args : Array Value} {below : List Frame} {meth : Method} {c : Code} {D : va_G} {kT : Nat → ClassId} {ρ : Nat → Nat} (C : bw_Cx p s m args meth c cX3_isIn 2 RX3 45 D kT ρ (some .boolean)) (x0 : Int32) (x1 : Int32)   (s0 : Int32) (M : bw_M) (rr : Int32)  (h : fX3_isIn_14 x0 x1 s0 = some rr) : bw_At p l e rmX3_isIn s m args below meth c (MQ below (bw_QI bw_shC 45 D kT ρ rr M) args s 0 0 (bw_A ρ 45)) bw_shC 45 D kT ρ 2 14 [(0, .int x0), (1, .int x1)] [.int s0] M := by
  unfold fX3_isIn_14 at h
  obtain ⟨q1, h⟩ := bw_ck_o h
  exact bw_iretz (pc := 14) C (nz_b q1) dX3_isIn_14 (bw_pr M h)
def fX3_isIn (x0 : Int32) (x1 : Int32)  : Option (Int32) :=
  if ((x0 >>> (x1 &&& 31)) &&& (1 : Int32)) = (1 : Int32) then
  fX3_isIn_14 x0 x1 (1 : Int32)
  else
  fX3_isIn_14 x0 x1 (0 : Int32)
theorem tX3_isIn (l : Launch) (x0 : Int32) (x1 : Int32)  (M : bw_M) (rr : Int32) (h : fX3_isIn x0 x1 = some rr) : bw_CI l bw_shC 45 yX3_isIn cX3_isIn 2 (some .boolean) rmX3_isIn (fun ρ => [.int x0, .int x1]) M rr M := by
  refine bw_inI (Lf := fun ρ => [(0, .int x0), (1, .int x1)]) cX3_isIn 2 (some .boolean) RX3 pn_X3 rfl (fun ρ => Nat.le_of_ble_eq_true rfl) (fun ρ => rfl) ?_
  intro p e s m args below meth c D kT ρ C
  unfold fX3_isIn at h
  refine bw_iload_n (pc := 0) C 0 dX3_isIn_0 rfl rfl ?_
  refine bw_iload_n (pc := 1) C 1 dX3_isIn_1 rfl rfl ?_
  refine bw_ishr (pc := 2) C dX3_isIn_2 ?_
  refine bw_iconst (pc := 3) (v := (1 : Int32)) C dX3_isIn_3 ic_1 ?_
  refine bw_iand (pc := 4) C dX3_isIn_4 ?_
  refine bw_iconst (pc := 5) (v := (1 : Int32)) C dX3_isIn_5 ic_1 ?_
  refine bw_icmp_ne (pc := 6) C 13 dX3_isIn_6 (by decide) h (fun h => ?_) (fun h => ?_)
  · refine bw_iconst (pc := 13) (v := (0 : Int32)) C dX3_isIn_13 ic_0 ?_
    refine bw_pick [0, 1] rfl ?_
    exact tX3_isIn_14 C x0 x1 (0 : Int32) M rr h
  · refine bw_iconst (pc := 9) (v := (1 : Int32)) C dX3_isIn_9 ic_1 ?_
    refine bw_goto (pc := 10) C 14 dX3_isIn_10 (by decide) ?_
    refine bw_pick [0, 1] rfl ?_
    exact tX3_isIn_14 C x0 x1 (1 : Int32) M rr h
/-! X3_cutOffSet -/
abbrev rmX3_cutOffSet : Room := { frames := 1, cells := 0, slots := 0, locals := 21 }
theorem msX3_cutOffSet : bw_MV yX3_cutOffSet cX3_cutOffSet 3 (some .int) RX3 0 := ⟨mw_306, mw_307, mw_3, mw_308, by decide +kernel⟩
def fX3_cutOffSet_43 (N : Nat) (x0 : Nat) (k7 : Int32 × Int32 → Option (Int32)) (x1 : Int32) (x2 : Int32) (M : bw_M) : Option (Int32) :=
  bw_mv (x2 + 1) fun v4 =>
  k7 (x1, v4)
theorem tX3_cutOffSet_43 {p : Program} {l : Launch} {e : Env} {s : State} {m : MethodId} {args : Array Value} {below : List Frame} {meth : Method} {c : Code} {D : va_G} {kT : Nat → ClassId} {ρ : Nat → Nat} (C : bw_Cx p s m args meth c cX3_cutOffSet 3 RX3 45 D kT ρ (some .int)) (N : Nat) (x0 : Nat) (g0 : bw_isT x0) (k7 : Int32 × Int32 → Option (Int32)) (x1 : Int32) (x2 : Int32) (M : bw_M) (rr : Int32) (hk7 : ∀ z0, k7 z0 = some rr → bw_At p l e rmX3_cutOffSet s m args below meth c (MQ below (bw_QI bw_shC 45 D kT ρ rr M) args s 0 0 (bw_A ρ 45)) bw_shC 45 D kT ρ 3 7 [(0, .ref (ρ x0)), (1, .int z0.1), (2, .int z0.2)] [] M) (h : fX3_cutOffSet_43 N x0 k7 x1 x2 M = some rr) : bw_At p l e rmX3_cutOffSet s m args below meth c (MQ below (bw_QI bw_shC 45 D kT ρ rr M) args s 0 0 (bw_A ρ 45)) bw_shC 45 D kT ρ 3 43 [(0, .ref (ρ x0)), (1, .int x1), (2, .int x2)] [] M := by
  unfold fX3_cutOffSet_43 at h
  obtain ⟨v4, ev4, h⟩ := bw_mv_o h
  refine bw_iinc (pc := 43) (x := v4) (L' := [(2, .int v4), (0, .ref (ρ x0)), (1, .int x1)]) C 2 dX3_cutOffSet_43 rfl ev4.symm (by decide) rfl ?_
  refine bw_goto (pc := 46) C 7 dX3_cutOffSet_46 (by decide) ?_
  refine bw_pick [1, 2, 0] rfl ?_
  exact hk7 (x1, v4) h
def fX3_cutOffSet_7 (N : Nat) (x0 : Nat) (k7 : Int32 × Int32 → Option (Int32)) (x1 : Int32) (x2 : Int32) (M : bw_M) : Option (Int32) :=
  if (M.1 x0 0) ≤ x2 then
  some x1
  else
  bw_rd M (x0 + 2) 6 x2 fun v3 =>
  if v3 < 0 then
  fX3_cutOffSet_43 N x0 k7 x1 x2 M
  else
  bw_rd M (x0 + 2) 6 x2 fun v5 =>
  bw_cl (fX3_isIn x1 v5) fun v6 =>
  if v6 = 0 then
  fX3_cutOffSet_43 N x0 k7 x1 x2 M
  else
  bw_mv (x1 ||| ((1 : Int32) <<< (x2 &&& 31))) fun v7 =>
  fX3_cutOffSet_43 N x0 k7 v7 x2 M
theorem tX3_cutOffSet_7 {p : Program} {l : Launch} {e : Env} {s : State} {m : MethodId} {args : Array Value} {below : List Frame} {meth : Method} {c : Code} {D : va_G} {kT : Nat → ClassId} {ρ : Nat → Nat} (C : bw_Cx p s m args meth c cX3_cutOffSet 3 RX3 45 D kT ρ (some .int)) (N : Nat) (x0 : Nat) (g0 : bw_isT x0) (k7 : Int32 × Int32 → Option (Int32)) (x1 : Int32) (x2 : Int32) (M : bw_M) (rr : Int32) (hk7 : ∀ z0, k7 z0 = some rr → bw_At p l e rmX3_cutOffSet s m args below meth c (MQ below (bw_QI bw_shC 45 D kT ρ rr M) args s 0 0 (bw_A ρ 45)) bw_shC 45 D kT ρ 3 7 [(0, .ref (ρ x0)), (1, .int z0.1), (2, .int z0.2)] [] M) (h : fX3_cutOffSet_7 N x0 k7 x1 x2 M = some rr) : bw_At p l e rmX3_cutOffSet s m args below meth c (MQ below (bw_QI bw_shC 45 D kT ρ rr M) args s 0 0 (bw_A ρ 45)) bw_shC 45 D kT ρ 3 7 [(0, .ref (ρ x0)), (1, .int x1), (2, .int x2)] [] M := by
  unfold fX3_cutOffSet_7 at h
  refine bw_iload_n (pc := 7) C 2 dX3_cutOffSet_7 rfl rfl ?_
  refine bw_aload_n (pc := 8) C 0 dX3_cutOffSet_8 rfl rfl ?_
  refine bw_getI (pc := 9) (q := x0) (k0 := 0) C (ltC_T g0) (shC_T g0) rfl inX3 mw_47 (by decide) rfl dX3_cutOffSet_9 ?_
  refine bw_icmp_ge (pc := 12) C 49 dX3_cutOffSet_12 (by decide) h (fun h => ?_) (fun h => ?_)
  · refine bw_iload_n (pc := 49) C 1 dX3_cutOffSet_49 rfl rfl ?_
    exact bw_ireti (pc := 50) C dX3_cutOffSet_50 (bw_pr M h)
  · refine bw_aload_n (pc := 15) C 0 dX3_cutOffSet_15 rfl rfl ?_
    refine bw_getR (pc := 16) (q := x0) (k0 := 9) C (ltC_T g0) (shC_T g0) rfl inX3 mw_64 (by decide) rfl dX3_cutOffSet_16 ?_
    refine bw_iload_n (pc := 19) C 2 dX3_cutOffSet_19 rfl rfl ?_
    obtain ⟨qv3, v3, ev3, h⟩ := bw_rd_o h
    refine bw_iald (pc := 20) (q := (x0 + 2)) C (ltC_T2 g0) (shC_T2 g0) qv3 ev3 dX3_cutOffSet_20 ?_
    refine bw_if_lt (pc := 21) C 43 dX3_cutOffSet_21 (by decide) h (fun h => ?_) (fun h => ?_)
    · refine bw_pick [0, 1, 2] rfl ?_
      exact tX3_cutOffSet_43 C N x0 g0 k7 x1 x2 M rr hk7 h
    · refine bw_iload_n (pc := 24) C 1 dX3_cutOffSet_24 rfl rfl ?_
      refine bw_aload_n (pc := 25) C 0 dX3_cutOffSet_25 rfl rfl ?_
      refine bw_getR (pc := 26) (q := x0) (k0 := 9) C (ltC_T g0) (shC_T g0) rfl inX3 mw_64 (by decide) rfl dX3_cutOffSet_26 ?_
      refine bw_iload_n (pc := 29) C 2 dX3_cutOffSet_29 rfl rfl ?_
      obtain ⟨qv5, v5, ev5, h⟩ := bw_rd_o h
      refine bw_iald (pc := 30) (q := (x0 + 2)) C (ltC_T2 g0) (shC_T2 g0) qv5 ev5 dX3_cutOffSet_30 ?_
      obtain ⟨v6, ev6, h⟩ := bw_cl_o h
      refine bw_cSi (pc := 31) (As := [.int x1, .int v5]) (rest := []) C (tX3_isIn l x1 v5 M v6 ev6) msX3_isIn mw_309 rfl rfl ⟨Nat.le_of_ble_eq_true rfl, Nat.le_of_ble_eq_true rfl⟩ rfl rfl rfl (Nat.le_of_ble_eq_true rfl) dX3_cutOffSet_31 ?_
      refine bw_if_eq (pc := 34) C 43 dX3_cutOffSet_34 (by decide) h (fun h => ?_) (fun h => ?_)
      · refine bw_pick [0, 1, 2] rfl ?_
        exact tX3_cutOffSet_43 C N x0 g0 k7 x1 x2 M rr hk7 h
      · refine bw_iload_n (pc := 37) C 1 dX3_cutOffSet_37 rfl rfl ?_
        refine bw_iconst (pc := 38) (v := (1 : Int32)) C dX3_cutOffSet_38 ic_1 ?_
        refine bw_iload_n (pc := 39) C 2 dX3_cutOffSet_39 rfl rfl ?_
        refine bw_ishl (pc := 40) C dX3_cutOffSet_40 ?_
        refine bw_ior (pc := 41) C dX3_cutOffSet_41 ?_
        obtain ⟨v7, ev7, h⟩ := bw_mv_o h
        refine bw_nmI ev7 ?_
        refine bw_istore_n (pc := 42) (L' := [(1, .int v7), (0, .ref (ρ x0)), (2, .int x2)]) C dX3_cutOffSet_42 rfl (by decide) rfl ?_
        refine bw_pick [1, 0, 2] rfl ?_
        exact tX3_cutOffSet_43 C N x0 g0 k7 v7 x2 M rr hk7 h
def flX3_cutOffSet_7 (N : Nat) (x0 : Nat)   (M : bw_M) (fu : Nat) (w : Int32 × Int32) : Option (Int32) := bw_lp (fun kk w => fX3_cutOffSet_7 N x0 kk w.1 w.2 M) fu w
theorem tlX3_cutOffSet_7 {p : Program} {l : Launch} {e : Env} {s : State} {m : MethodId} {args : Array Value} {below : List Frame} {meth : Method} {c : Code} {D : va_G} {kT : Nat → ClassId} {ρ : Nat → Nat} (C : bw_Cx p s m args meth c cX3_cutOffSet 3 RX3 45 D kT ρ (some .int)) (N : Nat) (x0 : Nat) (g0 : bw_isT x0)   (M : bw_M) (rr : Int32)  (fu : Nat) (w : Int32 × Int32) (h : flX3_cutOffSet_7 N x0 M fu w = some rr) : bw_At p l e rmX3_cutOffSet s m args below meth c (MQ below (bw_QI bw_shC 45 D kT ρ rr M) args s 0 0 (bw_A ρ 45)) bw_shC 45 D kT ρ 3 7 [(0, .ref (ρ x0)), (1, .int w.1), (2, .int w.2)] [] M :=
  bw_loop (r := rr) (fun w => bw_At p l e rmX3_cutOffSet s m args below meth c (MQ below (bw_QI bw_shC 45 D kT ρ rr M) args s 0 0 (bw_A ρ 45)) bw_shC 45 D kT ρ 3 7 [(0, .ref (ρ x0)), (1, .int w.1), (2, .int w.2)] [] M) (fun kk hk w h => tX3_cutOffSet_7 C N x0 g0 kk w.1 w.2 M rr hk h) fu w h
def fX3_cutOffSet (N : Nat) (x0 : Nat) (M : bw_M) : Option (Int32) :=
  bw_mv (M.1 x0 6) fun v1 =>
  bw_mv (0 : Int32) fun v2 =>
  flX3_cutOffSet_7 N x0 M N (v1, v2)
theorem tX3_cutOffSet (l : Launch) (N : Nat) (x0 : Nat) (g0 : bw_isT x0) (M : bw_M) (rr : Int32) (h : fX3_cutOffSet N x0 M = some rr) : bw_CI l bw_shC 45 yX3_cutOffSet cX3_cutOffSet 3 (some .int) rmX3_cutOffSet (fun ρ => [.ref (ρ x0)]) M rr M := by
  refine bw_inI (Lf := fun ρ => [(0, .ref (ρ x0))]) cX3_cutOffSet 3 (some .int) RX3 pn_X3 rfl (fun ρ => Nat.le_of_ble_eq_true rfl) (fun ρ => rfl) ?_
  intro p e s m args below meth c D kT ρ C
  unfold fX3_cutOffSet at h
  refine bw_aload_n (pc := 0) C 0 dX3_cutOffSet_0 rfl rfl ?_
  refine bw_getI (pc := 1) (q := x0) (k0 := 6) C (ltC_T g0) (shC_T g0) rfl inX3 mw_58 (by decide) rfl dX3_cutOffSet_1 ?_
  obtain ⟨v1, ev1, h⟩ := bw_mv_o h
  refine bw_nmI ev1 ?_
  refine bw_istore_n (pc := 4) (L' := [(1, .int v1), (0, .ref (ρ x0))]) C dX3_cutOffSet_4 rfl (by decide) rfl ?_
  refine bw_iconst (pc := 5) (v := (0 : Int32)) C dX3_cutOffSet_5 ic_0 ?_
  obtain ⟨v2, ev2, h⟩ := bw_mv_o h
  refine bw_nmI ev2 ?_
  refine bw_istore_n (pc := 6) (L' := [(2, .int v2), (1, .int v1), (0, .ref (ρ x0))]) C dX3_cutOffSet_6 rfl (by decide) rfl ?_
  refine bw_pick [2, 1, 0] rfl ?_
  exact tlX3_cutOffSet_7 C N x0 g0 M rr N (v1, v2) h
/-! X3_save -/
abbrev rmX3_save : Room := { frames := 1, cells := 0, slots := 0, locals := 21 }
theorem msX3_save : bw_MV yX3_save cX3_save 3 none RX3 2 := ⟨mw_365, mw_1078, mw_3, mw_366, by decide +kernel⟩
def fX3_save_37 (x0 : Nat) (x1 : Int32) (x2 : Int32)   (M : bw_M) : Option (bw_M) :=
  some M
theorem tX3_save_37 {p : Program} {l : Launch} {e : Env} {s : State} {m : MethodId} {args : Array Value} {below : List Frame} {meth : Method} {c : Code} {D : va_G} {kT : Nat → ClassId} {ρ : Nat → Nat} (C : bw_Cx p s m args meth c cX3_save 3 RX3 45 D kT ρ none) (x0 : Nat) (x1 : Int32) (x2 : Int32) (g0 : bw_isT x0)   (M : bw_M) (zz : bw_M)  (h : fX3_save_37 x0 x1 x2 M = some zz) : bw_At p l e rmX3_save s m args below meth c (MQ below (bw_QV bw_shC 45 D kT ρ zz) args s 0 0 (bw_A ρ 45)) bw_shC 45 D kT ρ 3 37 [(0, .ref (ρ x0)), (1, .int x1), (2, .int x2)] [] M := by
  unfold fX3_save_37 at h
  exact bw_vreti (pc := 37) C dX3_save_37 h
def fX3_save (x0 : Nat) (x1 : Int32) (x2 : Int32) (M : bw_M) : Option (bw_M) :=
  if (M.1 x0 3) < x2 then
  fX3_save_37 x0 x1 x2 M
  else
  bw_mv (bw_pI M x0 3 ((M.1 x0 3) - x2)) fun M1 =>
  bw_rd M1 (x0 + 4) 6 x1 fun v2 =>
  bw_wr M1 (x0 + 4) 6 x1 (if (v2 + x2) < (20 : Int32) then (v2 + x2) else (20 : Int32)) fun M3 =>
  fX3_save_37 x0 x1 x2 M3
theorem tX3_save (l : Launch) (x0 : Nat) (x1 : Int32) (x2 : Int32) (g0 : bw_isT x0) (M : bw_M) (zz : bw_M) (h : fX3_save x0 x1 x2 M = some zz) : bw_CV l bw_shC 45 yX3_save cX3_save 3 none rmX3_save (fun ρ => [.ref (ρ x0), .int x1, .int x2]) M zz := by
  refine bw_inV (Lf := fun ρ => [(0, .ref (ρ x0)), (1, .int x1), (2, .int x2)]) cX3_save 3 none RX3 pn_X3 rfl (fun ρ => Nat.le_of_ble_eq_true rfl) (fun ρ => rfl) ?_
  intro p e s m args below meth c D kT ρ C
  unfold fX3_save at h
  refine bw_aload_n (pc := 0) C 0 dX3_save_0 rfl rfl ?_
  refine bw_getI (pc := 1) (q := x0) (k0 := 3) C (ltC_T g0) (shC_T g0) rfl inX3 mw_52 (by decide) rfl dX3_save_1 ?_
  refine bw_iload_n (pc := 4) C 2 dX3_save_4 rfl rfl ?_
  refine bw_icmp_lt (pc := 5) C 37 dX3_save_5 (by decide) h (fun h => ?_) (fun h => ?_)
  · refine bw_pick [0, 1, 2] rfl ?_
    exact tX3_save_37 C x0 x1 x2 g0 M zz h
  · refine bw_aload_n (pc := 8) C 0 dX3_save_8 rfl rfl ?_
    refine bw_dup (pc := 9) C dX3_save_9 rfl ?_
    refine bw_getI (pc := 10) (q := x0) (k0 := 3) C (ltC_T g0) (shC_T g0) rfl inX3 mw_52 (by decide) rfl dX3_save_10 ?_
    refine bw_iload_n (pc := 13) C 2 dX3_save_13 rfl rfl ?_
    refine bw_isub (pc := 14) C dX3_save_14 ?_
    obtain ⟨M1, eM1, h⟩ := bw_mv_o h
    refine bw_putI (pc := 15) (q := x0) (k0 := 3) C (ltC_T g0) (shC_T g0) rfl inX3 mw_52 (by decide) tyX3 tyX3_ok nmX3 rfl rfl rfl eM1 rfl rfl dX3_save_15 ?_
    refine bw_aload_n (pc := 18) C 0 dX3_save_18 rfl rfl ?_
    refine bw_getR (pc := 19) (q := x0) (k0 := 11) C (ltC_T g0) (shC_T g0) rfl inX3 mw_68 (by decide) rfl dX3_save_19 ?_
    refine bw_iload_n (pc := 22) C 1 dX3_save_22 rfl rfl ?_
    refine bw_bipush (pc := 23) (v := (20 : Int32)) C dX3_save_23 bi_20 ?_
    refine bw_aload_n (pc := 25) C 0 dX3_save_25 rfl rfl ?_
    refine bw_getR (pc := 26) (q := x0) (k0 := 11) C (ltC_T g0) (shC_T g0) rfl inX3 mw_68 (by decide) rfl dX3_save_26 ?_
    refine bw_iload_n (pc := 29) C 1 dX3_save_29 rfl rfl ?_
    obtain ⟨qv2, v2, ev2, h⟩ := bw_rd_o h
    refine bw_iald (pc := 30) (q := (x0 + 4)) C (ltC_T4 g0) (shC_T4 g0) qv2 ev2 dX3_save_30 ?_
    refine bw_iload_n (pc := 31) C 2 dX3_save_31 rfl rfl ?_
    refine bw_iadd (pc := 32) C dX3_save_32 ?_
    refine bw_mmin (pc := 33) C mw_350 mw_351 mw_9 mw_352 (Nat.le_of_ble_eq_true rfl) (Nat.le_of_ble_eq_true rfl) dX3_save_33 ?_
    obtain ⟨qM3, M3, eM3, h⟩ := bw_wr_o h
    refine bw_iast (pc := 36) (q := (x0 + 4)) C (ltC_T4 g0) (shC_T4 g0) qM3 eM3 dX3_save_36 ?_
    refine bw_pick [0, 1, 2] rfl ?_
    exact tX3_save_37 C x0 x1 x2 g0 M3 zz h
/-! X3_breathe -/
abbrev rmX3_breathe : Room := { frames := 2, cells := 0, slots := 0, locals := 43 }
theorem msX3_breathe : bw_MV yX3_breathe cX3_breathe 3 (some .boolean) RX3 1 := ⟨mw_356, mw_1077, mw_3, mw_357, by decide +kernel⟩
def fX3_breathe_137 (x0 : Nat) (x1 : Int32)   (M : bw_M) : Option (Int32 × bw_M) :=
  some ((0 : Int32), M)
theorem tX3_breathe_137 {p : Program} {l : Launch} {e : Env} {s : State} {m : MethodId} {args : Array Value} {below : List Frame} {meth : Method} {c : Code} {D : va_G} {kT : Nat → ClassId} {ρ : Nat → Nat} (C : bw_Cx p s m args meth c cX3_breathe 3 RX3 45 D kT ρ (some .boolean)) (x0 : Nat) (x1 : Int32) (g0 : bw_isT x0)   (M : bw_M) (rr : Int32) (zz : bw_M)  (h : fX3_breathe_137 x0 x1 M = some (rr, zz)) : bw_At p l e rmX3_breathe s m args below meth c (MQ below (bw_QI bw_shC 45 D kT ρ rr zz) args s 0 0 (bw_A ρ 45)) bw_shC 45 D kT ρ 3 137 [(0, .ref (ρ x0)), (1, .int x1)] [] M := by
  unfold fX3_breathe_137 at h
  refine bw_iconst (pc := 137) (v := (0 : Int32)) C dX3_breathe_137 ic_0 ?_
  exact bw_iretz (pc := 138) C nz_0 dX3_breathe_138 h
def fX3_breathe_25 (x0 : Nat) (x1 : Int32)   (M : bw_M) : Option (Int32 × bw_M) :=
  bw_rd M (x0 + 1) 6 x1 fun v2 =>
  bw_rd M (x0 + 3) 6 x1 fun v3 =>
  bw_cl (fX1_want v2 v3 (M.1 x0 5)) fun v4 =>
  if v4 = 0 then
  some ((0 : Int32), M)
  else
  if (M.1 x0 3) < v4 then
  bw_rd M (x0 + 4) 6 x1 fun v5 =>
  if ((M.1 x0 3) + v5) < v4 then
  bw_rd M (x0 + 1) 6 x1 fun v6 =>
  if v6 = (2 : Int32) then
  bw_mv (bw_pI M x0 3 (0 : Int32)) fun M7 =>
  fX3_breathe_137 x0 x1 M7
  else
  fX3_breathe_137 x0 x1 M
  else
  bw_rd M (x0 + 4) 6 x1 fun v8 =>
  bw_wr M (x0 + 4) 6 x1 (v8 - (v4 - (M.1 x0 3))) fun M9 =>
  bw_mv (bw_pI M9 x0 3 (0 : Int32)) fun M10 =>
  some ((1 : Int32), M10)
  else
  bw_mv (bw_pI M x0 3 ((M.1 x0 3) - v4)) fun M11 =>
  bw_rd M11 (x0 + 1) 6 x1 fun v12 =>
  bw_cl (fX1_keeps v12) fun v13 =>
  bw_cl (fX3_save x0 x1 v13 M11) fun M14 =>
  some ((1 : Int32), M14)
theorem tX3_breathe_25 {p : Program} {l : Launch} {e : Env} {s : State} {m : MethodId} {args : Array Value} {below : List Frame} {meth : Method} {c : Code} {D : va_G} {kT : Nat → ClassId} {ρ : Nat → Nat} (C : bw_Cx p s m args meth c cX3_breathe 3 RX3 45 D kT ρ (some .boolean)) (x0 : Nat) (x1 : Int32) (g0 : bw_isT x0)   (M : bw_M) (rr : Int32) (zz : bw_M)  (h : fX3_breathe_25 x0 x1 M = some (rr, zz)) : bw_At p l e rmX3_breathe s m args below meth c (MQ below (bw_QI bw_shC 45 D kT ρ rr zz) args s 0 0 (bw_A ρ 45)) bw_shC 45 D kT ρ 3 25 [(0, .ref (ρ x0)), (1, .int x1)] [] M := by
  unfold fX3_breathe_25 at h
  refine bw_aload_n (pc := 25) C 0 dX3_breathe_25 rfl rfl ?_
  refine bw_getR (pc := 26) (q := x0) (k0 := 8) C (ltC_T g0) (shC_T g0) rfl inX3 mw_62 (by decide) rfl dX3_breathe_26 ?_
  refine bw_iload_n (pc := 29) C 1 dX3_breathe_29 rfl rfl ?_
  obtain ⟨qv2, v2, ev2, h⟩ := bw_rd_o h
  refine bw_iald (pc := 30) (q := (x0 + 1)) C (ltC_T1 g0) (shC_T1 g0) qv2 ev2 dX3_breathe_30 ?_
  refine bw_aload_n (pc := 31) C 0 dX3_breathe_31 rfl rfl ?_
  refine bw_getR (pc := 32) (q := x0) (k0 := 10) C (ltC_T g0) (shC_T g0) rfl inX3 mw_66 (by decide) rfl dX3_breathe_32 ?_
  refine bw_iload_n (pc := 35) C 1 dX3_breathe_35 rfl rfl ?_
  obtain ⟨qv3, v3, ev3, h⟩ := bw_rd_o h
  refine bw_iald (pc := 36) (q := (x0 + 3)) C (ltC_T3 g0) (shC_T3 g0) qv3 ev3 dX3_breathe_36 ?_
  refine bw_aload_n (pc := 37) C 0 dX3_breathe_37 rfl rfl ?_
  refine bw_getI (pc := 38) (q := x0) (k0 := 5) C (ltC_T g0) (shC_T g0) rfl inX3 mw_56 (by decide) rfl dX3_breathe_38 ?_
  obtain ⟨v4, ev4, h⟩ := bw_cl_o h
  refine bw_cSi (pc := 41) (As := [.int v2, .int v3, .int (M.1 x0 5)]) (rest := []) C (tX1_want l v2 v3 (M.1 x0 5) M v4 ev4) msX1_want mw_302 rfl rfl ⟨Nat.le_of_ble_eq_true rfl, Nat.le_of_ble_eq_true rfl⟩ rfl rfl rfl (Nat.le_of_ble_eq_true rfl) dX3_breathe_41 ?_
  refine bw_istore_n (pc := 44) (L' := [(2, .int v4), (0, .ref (ρ x0)), (1, .int x1)]) C dX3_breathe_44 rfl (by decide) rfl ?_
  refine bw_iload_n (pc := 45) C 0 dX3_breathe_45 rfl rfl ?_
  refine bw_if_ne (pc := 46) C 51 dX3_breathe_46 (by decide) h (fun h => ?_) (fun h => ?_)
  · refine bw_aload_n (pc := 51) C 1 dX3_breathe_51 rfl rfl ?_
    refine bw_getI (pc := 52) (q := x0) (k0 := 3) C (ltC_T g0) (shC_T g0) rfl inX3 mw_52 (by decide) rfl dX3_breathe_52 ?_
    refine bw_iload_n (pc := 55) C 0 dX3_breathe_55 rfl rfl ?_
    refine bw_icmp_lt (pc := 56) C 85 dX3_breathe_56 (by decide) h (fun h => ?_) (fun h => ?_)
    · refine bw_aload_n (pc := 85) C 1 dX3_breathe_85 rfl rfl ?_
      refine bw_getI (pc := 86) (q := x0) (k0 := 3) C (ltC_T g0) (shC_T g0) rfl inX3 mw_52 (by decide) rfl dX3_breathe_86 ?_
      refine bw_aload_n (pc := 89) C 1 dX3_breathe_89 rfl rfl ?_
      refine bw_getR (pc := 90) (q := x0) (k0 := 11) C (ltC_T g0) (shC_T g0) rfl inX3 mw_68 (by decide) rfl dX3_breathe_90 ?_
      refine bw_iload_n (pc := 93) C 2 dX3_breathe_93 rfl rfl ?_
      obtain ⟨qv5, v5, ev5, h⟩ := bw_rd_o h
      refine bw_iald (pc := 94) (q := (x0 + 4)) C (ltC_T4 g0) (shC_T4 g0) qv5 ev5 dX3_breathe_94 ?_
      refine bw_iadd (pc := 95) C dX3_breathe_95 ?_
      refine bw_iload_n (pc := 96) C 0 dX3_breathe_96 rfl rfl ?_
      refine bw_icmp_lt (pc := 97) C 122 dX3_breathe_97 (by decide) h (fun h => ?_) (fun h => ?_)
      · refine bw_aload_n (pc := 122) C 1 dX3_breathe_122 rfl rfl ?_
        refine bw_getR (pc := 123) (q := x0) (k0 := 8) C (ltC_T g0) (shC_T g0) rfl inX3 mw_62 (by decide) rfl dX3_breathe_123 ?_
        refine bw_iload_n (pc := 126) C 2 dX3_breathe_126 rfl rfl ?_
        obtain ⟨qv6, v6, ev6, h⟩ := bw_rd_o h
        refine bw_iald (pc := 127) (q := (x0 + 1)) C (ltC_T1 g0) (shC_T1 g0) qv6 ev6 dX3_breathe_127 ?_
        refine bw_iconst (pc := 128) (v := (2 : Int32)) C dX3_breathe_128 ic_2 ?_
        refine bw_icmp_ne (pc := 129) C 137 dX3_breathe_129 (by decide) h (fun h => ?_) (fun h => ?_)
        · refine bw_pick [1, 2] rfl ?_
          exact tX3_breathe_137 C x0 x1 g0 M rr zz h
        · refine bw_aload_n (pc := 132) C 1 dX3_breathe_132 rfl rfl ?_
          refine bw_iconst (pc := 133) (v := (0 : Int32)) C dX3_breathe_133 ic_0 ?_
          obtain ⟨M7, eM7, h⟩ := bw_mv_o h
          refine bw_putI (pc := 134) (q := x0) (k0 := 3) C (ltC_T g0) (shC_T g0) rfl inX3 mw_52 (by decide) tyX3 tyX3_ok nmX3 rfl rfl rfl eM7 rfl rfl dX3_breathe_134 ?_
          refine bw_pick [1, 2] rfl ?_
          exact tX3_breathe_137 C x0 x1 g0 M7 rr zz h
      · refine bw_aload_n (pc := 100) C 1 dX3_breathe_100 rfl rfl ?_
        refine bw_getR (pc := 101) (q := x0) (k0 := 11) C (ltC_T g0) (shC_T g0) rfl inX3 mw_68 (by decide) rfl dX3_breathe_101 ?_
        refine bw_iload_n (pc := 104) C 2 dX3_breathe_104 rfl rfl ?_
        refine bw_dup2 (pc := 105) C dX3_breathe_105 rfl rfl ?_
        obtain ⟨qv8, v8, ev8, h⟩ := bw_rd_o h
        refine bw_iald (pc := 106) (q := (x0 + 4)) C (ltC_T4 g0) (shC_T4 g0) qv8 ev8 dX3_breathe_106 ?_
        refine bw_iload_n (pc := 107) C 0 dX3_breathe_107 rfl rfl ?_
        refine bw_aload_n (pc := 108) C 1 dX3_breathe_108 rfl rfl ?_
        refine bw_getI (pc := 109) (q := x0) (k0 := 3) C (ltC_T g0) (shC_T g0) rfl inX3 mw_52 (by decide) rfl dX3_breathe_109 ?_
        refine bw_isub (pc := 112) C dX3_breathe_112 ?_
        refine bw_isub (pc := 113) C dX3_breathe_113 ?_
        obtain ⟨qM9, M9, eM9, h⟩ := bw_wr_o h
        refine bw_iast (pc := 114) (q := (x0 + 4)) C (ltC_T4 g0) (shC_T4 g0) qM9 eM9 dX3_breathe_114 ?_
        refine bw_aload_n (pc := 115) C 1 dX3_breathe_115 rfl rfl ?_
        refine bw_iconst (pc := 116) (v := (0 : Int32)) C dX3_breathe_116 ic_0 ?_
        obtain ⟨M10, eM10, h⟩ := bw_mv_o h
        refine bw_putI (pc := 117) (q := x0) (k0 := 3) C (ltC_T g0) (shC_T g0) rfl inX3 mw_52 (by decide) tyX3 tyX3_ok nmX3 rfl rfl rfl eM10 rfl rfl dX3_breathe_117 ?_
        refine bw_iconst (pc := 120) (v := (1 : Int32)) C dX3_breathe_120 ic_1 ?_
        exact bw_iretz (pc := 121) C nz_1 dX3_breathe_121 h
    · refine bw_aload_n (pc := 59) C 1 dX3_breathe_59 rfl rfl ?_
      refine bw_dup (pc := 60) C dX3_breathe_60 rfl ?_
      refine bw_getI (pc := 61) (q := x0) (k0 := 3) C (ltC_T g0) (shC_T g0) rfl inX3 mw_52 (by decide) rfl dX3_breathe_61 ?_
      refine bw_iload_n (pc := 64) C 0 dX3_breathe_64 rfl rfl ?_
      refine bw_isub (pc := 65) C dX3_breathe_65 ?_
      obtain ⟨M11, eM11, h⟩ := bw_mv_o h
      refine bw_putI (pc := 66) (q := x0) (k0 := 3) C (ltC_T g0) (shC_T g0) rfl inX3 mw_52 (by decide) tyX3 tyX3_ok nmX3 rfl rfl rfl eM11 rfl rfl dX3_breathe_66 ?_
      refine bw_aload_n (pc := 69) C 1 dX3_breathe_69 rfl rfl ?_
      refine bw_iload_n (pc := 70) C 2 dX3_breathe_70 rfl rfl ?_
      refine bw_aload_n (pc := 71) C 1 dX3_breathe_71 rfl rfl ?_
      refine bw_getR (pc := 72) (q := x0) (k0 := 8) C (ltC_T g0) (shC_T g0) rfl inX3 mw_62 (by decide) rfl dX3_breathe_72 ?_
      refine bw_iload_n (pc := 75) C 2 dX3_breathe_75 rfl rfl ?_
      obtain ⟨qv12, v12, ev12, h⟩ := bw_rd_o h
      refine bw_iald (pc := 76) (q := (x0 + 1)) C (ltC_T1 g0) (shC_T1 g0) qv12 ev12 dX3_breathe_76 ?_
      obtain ⟨v13, ev13, h⟩ := bw_cl_o h
      refine bw_cSi (pc := 77) (As := [.int v12]) (rest := [.int x1, .ref (ρ x0)]) C (tX1_keeps l v12 M11 v13 ev13) msX1_keeps mw_359 rfl rfl ⟨Nat.le_of_ble_eq_true rfl, Nat.le_of_ble_eq_true rfl⟩ rfl rfl rfl (Nat.le_of_ble_eq_true rfl) dX3_breathe_77 ?_
      obtain ⟨M14, eM14, h⟩ := bw_cl_o h
      refine bw_cVv (pc := 80) (q := x0) (As := [.int x1, .int v13]) (rest := []) C (tX3_save l x0 x1 v13 g0 M11 M14 eM14) msX3_save mw_363 rfl rfl ⟨Nat.le_of_ble_eq_true rfl, Nat.le_of_ble_eq_true rfl⟩ (ltC_T g0) (shC_T g0) rfl rfl rfl rfl (Nat.le_of_ble_eq_true rfl) dX3_breathe_80 ?_
      refine bw_iconst (pc := 83) (v := (1 : Int32)) C dX3_breathe_83 ic_1 ?_
      exact bw_iretz (pc := 84) C nz_1 dX3_breathe_84 h
  · refine bw_iconst (pc := 49) (v := (0 : Int32)) C dX3_breathe_49 ic_0 ?_
    exact bw_iretz (pc := 50) C nz_0 dX3_breathe_50 h
def fX3_breathe (x0 : Nat) (x1 : Int32) (M : bw_M) : Option (Int32 × bw_M) :=
  bw_cl (fX3_isIn (M.1 x0 7) x1) fun v1 =>
  if v1 = 0 then
  fX3_breathe_25 x0 x1 M
  else
  bw_mv (bw_pI M x0 3 (if (0 : Int32) < ((M.1 x0 3) - (1 : Int32)) then ((M.1 x0 3) - (1 : Int32)) else (0 : Int32))) fun M15 =>
  fX3_breathe_25 x0 x1 M15
theorem tX3_breathe (l : Launch) (x0 : Nat) (x1 : Int32) (g0 : bw_isT x0) (M : bw_M) (rr : Int32) (zz : bw_M) (h : fX3_breathe x0 x1 M = some (rr, zz)) : bw_CI l bw_shC 45 yX3_breathe cX3_breathe 3 (some .boolean) rmX3_breathe (fun ρ => [.ref (ρ x0), .int x1]) M rr zz := by
  refine bw_inI (Lf := fun ρ => [(0, .ref (ρ x0)), (1, .int x1)]) cX3_breathe 3 (some .boolean) RX3 pn_X3 rfl (fun ρ => Nat.le_of_ble_eq_true rfl) (fun ρ => rfl) ?_
  intro p e s m args below meth c D kT ρ C
  unfold fX3_breathe at h
  refine bw_aload_n (pc := 0) C 0 dX3_breathe_0 rfl rfl ?_
  refine bw_getI (pc := 1) (q := x0) (k0 := 7) C (ltC_T g0) (shC_T g0) rfl inX3 mw_60 (by decide) rfl dX3_breathe_1 ?_
  refine bw_iload_n (pc := 4) C 1 dX3_breathe_4 rfl rfl ?_
  obtain ⟨v1, ev1, h⟩ := bw_cl_o h
  refine bw_cSi (pc := 5) (As := [.int (M.1 x0 7), .int x1]) (rest := []) C (tX3_isIn l (M.1 x0 7) x1 M v1 ev1) msX3_isIn mw_309 rfl rfl ⟨Nat.le_of_ble_eq_true rfl, Nat.le_of_ble_eq_true rfl⟩ rfl rfl rfl (Nat.le_of_ble_eq_true rfl) dX3_breathe_5 ?_
  refine bw_if_eq (pc := 8) C 25 dX3_breathe_8 (by decide) h (fun h => ?_) (fun h => ?_)
  · refine bw_pick [0, 1] rfl ?_
    exact tX3_breathe_25 C x0 x1 g0 M rr zz h
  · refine bw_aload_n (pc := 11) C 0 dX3_breathe_11 rfl rfl ?_
    refine bw_iconst (pc := 12) (v := (0 : Int32)) C dX3_breathe_12 ic_0 ?_
    refine bw_aload_n (pc := 13) C 0 dX3_breathe_13 rfl rfl ?_
    refine bw_getI (pc := 14) (q := x0) (k0 := 3) C (ltC_T g0) (shC_T g0) rfl inX3 mw_52 (by decide) rfl dX3_breathe_14 ?_
    refine bw_iconst (pc := 17) (v := (1 : Int32)) C dX3_breathe_17 ic_1 ?_
    refine bw_isub (pc := 18) C dX3_breathe_18 ?_
    refine bw_mmax (pc := 19) C mw_358 mw_321 mw_9 mw_322 (Nat.le_of_ble_eq_true rfl) (Nat.le_of_ble_eq_true rfl) dX3_breathe_19 ?_
    obtain ⟨M15, eM15, h⟩ := bw_mv_o h
    refine bw_putI (pc := 22) (q := x0) (k0 := 3) C (ltC_T g0) (shC_T g0) rfl inX3 mw_52 (by decide) tyX3 tyX3_ok nmX3 rfl rfl rfl eM15 rfl rfl dX3_breathe_22 ?_
    refine bw_pick [0, 1] rfl ?_
    exact tX3_breathe_25 C x0 x1 g0 M15 rr zz h
/-! X3_blow -/
abbrev rmX3_blow : Room := { frames := 3, cells := 0, slots := 0, locals := 65 }
theorem msX3_blow : bw_MV yX3_blow cX3_blow 4 (some .int) RX3 0 := ⟨mw_347, mw_348, mw_3, mw_349, by decide +kernel⟩
def fX3_blow_67 (N : Nat) (x0 : Nat) (k27 : Int32 × Int32 × bw_M → Option (Int32 × bw_M)) (x1 : Int32) (x2 : Int32) (x3 : Int32) (M : bw_M) : Option (Int32 × bw_M) :=
  bw_mv (x3 + 1) fun v7 =>
  k27 (x2, v7, M)
theorem tX3_blow_67 {p : Program} {l : Launch} {e : Env} {s : State} {m : MethodId} {args : Array Value} {below : List Frame} {meth : Method} {c : Code} {D : va_G} {kT : Nat → ClassId} {ρ : Nat → Nat} (C : bw_Cx p s m args meth c cX3_blow 4 RX3 45 D kT ρ (some .int)) (N : Nat) (x0 : Nat) (g0 : bw_isT x0) (k27 : Int32 × Int32 × bw_M → Option (Int32 × bw_M)) (x1 : Int32) (x2 : Int32) (x3 : Int32) (M : bw_M) (rr : Int32) (zz : bw_M) (hk27 : ∀ z0, k27 z0 = some (rr, zz) → bw_At p l e rmX3_blow s m args below meth c (MQ below (bw_QI bw_shC 45 D kT ρ rr zz) args s 0 0 (bw_A ρ 45)) bw_shC 45 D kT ρ 4 27 [(0, .ref (ρ x0)), (1, .int x1), (2, .int z0.1), (3, .int z0.2.1)] [] z0.2.2) (h : fX3_blow_67 N x0 k27 x1 x2 x3 M = some (rr, zz)) : bw_At p l e rmX3_blow s m args below meth c (MQ below (bw_QI bw_shC 45 D kT ρ rr zz) args s 0 0 (bw_A ρ 45)) bw_shC 45 D kT ρ 4 67 [(0, .ref (ρ x0)), (1, .int x1), (2, .int x2), (3, .int x3)] [] M := by
  unfold fX3_blow_67 at h
  obtain ⟨v7, ev7, h⟩ := bw_mv_o h
  refine bw_iinc (pc := 67) (x := v7) (L' := [(3, .int v7), (0, .ref (ρ x0)), (1, .int x1), (2, .int x2)]) C 3 dX3_blow_67 rfl ev7.symm (by decide) rfl ?_
  refine bw_goto (pc := 70) C 27 dX3_blow_70 (by decide) ?_
  refine bw_pick [1, 2, 3, 0] rfl ?_
  exact hk27 (x2, v7, M) h
def fX3_blow_27 (N : Nat) (x0 : Nat) (k27 : Int32 × Int32 × bw_M → Option (Int32 × bw_M)) (x1 : Int32) (x2 : Int32) (x3 : Int32) (M : bw_M) : Option (Int32 × bw_M) :=
  if (M.1 x0 0) ≤ x3 then
  bw_mv (bw_pI M x0 5 ((M.1 x0 5) + (1 : Int32))) fun M5 =>
  some (x2, M5)
  else
  bw_cl (fX3_isIn x1 x3) fun v6 =>
  if v6 = 0 then
  bw_c2 (fX3_breathe x0 x3 M) fun v8 M9 =>
  if v8 = 0 then
  fX3_blow_67 N x0 k27 x1 x2 x3 M9
  else
  bw_rd M9 (x0 + 5) 6 x3 fun v10 =>
  bw_wr M9 (x0 + 5) 6 x3 (v10 + (1 : Int32)) fun M11 =>
  bw_mv (x2 ||| ((1 : Int32) <<< (x3 &&& 31))) fun v12 =>
  fX3_blow_67 N x0 k27 x1 v12 x3 M11
  else
  fX3_blow_67 N x0 k27 x1 x2 x3 M
theorem tX3_blow_27 {p : Program} {l : Launch} {e : Env} {s : State} {m : MethodId} {args : Array Value} {below : List Frame} {meth : Method} {c : Code} {D : va_G} {kT : Nat → ClassId} {ρ : Nat → Nat} (C : bw_Cx p s m args meth c cX3_blow 4 RX3 45 D kT ρ (some .int)) (N : Nat) (x0 : Nat) (g0 : bw_isT x0) (k27 : Int32 × Int32 × bw_M → Option (Int32 × bw_M)) (x1 : Int32) (x2 : Int32) (x3 : Int32) (M : bw_M) (rr : Int32) (zz : bw_M) (hk27 : ∀ z0, k27 z0 = some (rr, zz) → bw_At p l e rmX3_blow s m args below meth c (MQ below (bw_QI bw_shC 45 D kT ρ rr zz) args s 0 0 (bw_A ρ 45)) bw_shC 45 D kT ρ 4 27 [(0, .ref (ρ x0)), (1, .int x1), (2, .int z0.1), (3, .int z0.2.1)] [] z0.2.2) (h : fX3_blow_27 N x0 k27 x1 x2 x3 M = some (rr, zz)) : bw_At p l e rmX3_blow s m args below meth c (MQ below (bw_QI bw_shC 45 D kT ρ rr zz) args s 0 0 (bw_A ρ 45)) bw_shC 45 D kT ρ 4 27 [(0, .ref (ρ x0)), (1, .int x1), (2, .int x2), (3, .int x3)] [] M := by
  unfold fX3_blow_27 at h
  refine bw_iload_n (pc := 27) C 3 dX3_blow_27 rfl rfl ?_
  refine bw_aload_n (pc := 28) C 0 dX3_blow_28 rfl rfl ?_
  refine bw_getI (pc := 29) (q := x0) (k0 := 0) C (ltC_T g0) (shC_T g0) rfl inX3 mw_47 (by decide) rfl dX3_blow_29 ?_
  refine bw_icmp_ge (pc := 32) C 73 dX3_blow_32 (by decide) h (fun h => ?_) (fun h => ?_)
  · refine bw_aload_n (pc := 73) C 0 dX3_blow_73 rfl rfl ?_
    refine bw_dup (pc := 74) C dX3_blow_74 rfl ?_
    refine bw_getI (pc := 75) (q := x0) (k0 := 5) C (ltC_T g0) (shC_T g0) rfl inX3 mw_56 (by decide) rfl dX3_blow_75 ?_
    refine bw_iconst (pc := 78) (v := (1 : Int32)) C dX3_blow_78 ic_1 ?_
    refine bw_iadd (pc := 79) C dX3_blow_79 ?_
    obtain ⟨M5, eM5, h⟩ := bw_mv_o h
    refine bw_putI (pc := 80) (q := x0) (k0 := 5) C (ltC_T g0) (shC_T g0) rfl inX3 mw_56 (by decide) tyX3 tyX3_ok nmX3 rfl rfl rfl eM5 rfl rfl dX3_blow_80 ?_
    refine bw_iload_n (pc := 83) C 2 dX3_blow_83 rfl rfl ?_
    exact bw_ireti (pc := 84) C dX3_blow_84 h
  · refine bw_iload_n (pc := 35) C 1 dX3_blow_35 rfl rfl ?_
    refine bw_iload_n (pc := 36) C 3 dX3_blow_36 rfl rfl ?_
    obtain ⟨v6, ev6, h⟩ := bw_cl_o h
    refine bw_cSi (pc := 37) (As := [.int x1, .int x3]) (rest := []) C (tX3_isIn l x1 x3 M v6 ev6) msX3_isIn mw_309 rfl rfl ⟨Nat.le_of_ble_eq_true rfl, Nat.le_of_ble_eq_true rfl⟩ rfl rfl rfl (Nat.le_of_ble_eq_true rfl) dX3_blow_37 ?_
    refine bw_if_ne (pc := 40) C 67 dX3_blow_40 (by decide) h (fun h => ?_) (fun h => ?_)
    · refine bw_pick [0, 1, 2, 3] rfl ?_
      exact tX3_blow_67 C N x0 g0 k27 x1 x2 x3 M rr zz hk27 h
    · refine bw_aload_n (pc := 43) C 0 dX3_blow_43 rfl rfl ?_
      refine bw_iload_n (pc := 44) C 3 dX3_blow_44 rfl rfl ?_
      obtain ⟨v8, M9, ev8, h⟩ := bw_c2_o h
      refine bw_cVi (pc := 45) (q := x0) (As := [.int x3]) (rest := []) C (tX3_breathe l x0 x3 g0 M v8 M9 ev8) msX3_breathe mw_354 rfl rfl ⟨Nat.le_of_ble_eq_true rfl, Nat.le_of_ble_eq_true rfl⟩ (ltC_T g0) (shC_T g0) rfl rfl rfl rfl (Nat.le_of_ble_eq_true rfl) dX3_blow_45 ?_
      refine bw_if_eq (pc := 48) C 67 dX3_blow_48 (by decide) h (fun h => ?_) (fun h => ?_)
      · refine bw_pick [0, 1, 2, 3] rfl ?_
        exact tX3_blow_67 C N x0 g0 k27 x1 x2 x3 M9 rr zz hk27 h
      · refine bw_aload_n (pc := 51) C 0 dX3_blow_51 rfl rfl ?_
        refine bw_getR (pc := 52) (q := x0) (k0 := 12) C (ltC_T g0) (shC_T g0) rfl inX3 mw_70 (by decide) rfl dX3_blow_52 ?_
        refine bw_iload_n (pc := 55) C 3 dX3_blow_55 rfl rfl ?_
        refine bw_dup2 (pc := 56) C dX3_blow_56 rfl rfl ?_
        obtain ⟨qv10, v10, ev10, h⟩ := bw_rd_o h
        refine bw_iald (pc := 57) (q := (x0 + 5)) C (ltC_T5 g0) (shC_T5 g0) qv10 ev10 dX3_blow_57 ?_
        refine bw_iconst (pc := 58) (v := (1 : Int32)) C dX3_blow_58 ic_1 ?_
        refine bw_iadd (pc := 59) C dX3_blow_59 ?_
        obtain ⟨qM11, M11, eM11, h⟩ := bw_wr_o h
        refine bw_iast (pc := 60) (q := (x0 + 5)) C (ltC_T5 g0) (shC_T5 g0) qM11 eM11 dX3_blow_60 ?_
        refine bw_iload_n (pc := 61) C 2 dX3_blow_61 rfl rfl ?_
        refine bw_iconst (pc := 62) (v := (1 : Int32)) C dX3_blow_62 ic_1 ?_
        refine bw_iload_n (pc := 63) C 3 dX3_blow_63 rfl rfl ?_
        refine bw_ishl (pc := 64) C dX3_blow_64 ?_
        refine bw_ior (pc := 65) C dX3_blow_65 ?_
        obtain ⟨v12, ev12, h⟩ := bw_mv_o h
        refine bw_nmI ev12 ?_
        refine bw_istore_n (pc := 66) (L' := [(2, .int v12), (0, .ref (ρ x0)), (1, .int x1), (3, .int x3)]) C dX3_blow_66 rfl (by decide) rfl ?_
        refine bw_pick [1, 2, 0, 3] rfl ?_
        exact tX3_blow_67 C N x0 g0 k27 x1 v12 x3 M11 rr zz hk27 h
def flX3_blow_27 (N : Nat) (x0 : Nat)  (x1 : Int32)  (fu : Nat) (w : Int32 × Int32 × bw_M) : Option (Int32 × bw_M) := bw_lp (fun kk w => fX3_blow_27 N x0 kk x1 w.1 w.2.1 w.2.2) fu w
theorem tlX3_blow_27 {p : Program} {l : Launch} {e : Env} {s : State} {m : MethodId} {args : Array Value} {below : List Frame} {meth : Method} {c : Code} {D : va_G} {kT : Nat → ClassId} {ρ : Nat → Nat} (C : bw_Cx p s m args meth c cX3_blow 4 RX3 45 D kT ρ (some .int)) (N : Nat) (x0 : Nat) (g0 : bw_isT x0)  (x1 : Int32)  (rr : Int32) (zz : bw_M)  (fu : Nat) (w : Int32 × Int32 × bw_M) (h : flX3_blow_27 N x0 x1 fu w = some (rr, zz)) : bw_At p l e rmX3_blow s m args below meth c (MQ below (bw_QI bw_shC 45 D kT ρ rr zz) args s 0 0 (bw_A ρ 45)) bw_shC 45 D kT ρ 4 27 [(0, .ref (ρ x0)), (1, .int x1), (2, .int w.1), (3, .int w.2.1)] [] w.2.2 :=
  bw_loop (r := (rr, zz)) (fun w => bw_At p l e rmX3_blow s m args below meth c (MQ below (bw_QI bw_shC 45 D kT ρ rr zz) args s 0 0 (bw_A ρ 45)) bw_shC 45 D kT ρ 4 27 [(0, .ref (ρ x0)), (1, .int x1), (2, .int w.1), (3, .int w.2.1)] [] w.2.2) (fun kk hk w h => tX3_blow_27 C N x0 g0 kk x1 w.1 w.2.1 w.2.2 rr zz hk h) fu w h
def fX3_blow (N : Nat) (x0 : Nat) (M : bw_M) : Option (Int32 × bw_M) :=
  bw_mv (bw_pI M x0 3 (if ((M.1 x0 3) + (M.1 x0 4)) < (60 : Int32) then ((M.1 x0 3) + (M.1 x0 4)) else (60 : Int32))) fun M1 =>
  bw_cl (fX3_cutOffSet N x0 M1) fun v2 =>
  bw_mv (0 : Int32) fun v3 =>
  bw_mv (0 : Int32) fun v4 =>
  flX3_blow_27 N x0 v2 N (v3, v4, M1)
theorem tX3_blow (l : Launch) (N : Nat) (x0 : Nat) (g0 : bw_isT x0) (M : bw_M) (rr : Int32) (zz : bw_M) (h : fX3_blow N x0 M = some (rr, zz)) : bw_CI l bw_shC 45 yX3_blow cX3_blow 4 (some .int) rmX3_blow (fun ρ => [.ref (ρ x0)]) M rr zz := by
  refine bw_inI (Lf := fun ρ => [(0, .ref (ρ x0))]) cX3_blow 4 (some .int) RX3 pn_X3 rfl (fun ρ => Nat.le_of_ble_eq_true rfl) (fun ρ => rfl) ?_
  intro p e s m args below meth c D kT ρ C
  unfold fX3_blow at h
  refine bw_aload_n (pc := 0) C 0 dX3_blow_0 rfl rfl ?_
  refine bw_bipush (pc := 1) (v := (60 : Int32)) C dX3_blow_1 bi_60 ?_
  refine bw_aload_n (pc := 3) C 0 dX3_blow_3 rfl rfl ?_
  refine bw_getI (pc := 4) (q := x0) (k0 := 3) C (ltC_T g0) (shC_T g0) rfl inX3 mw_52 (by decide) rfl dX3_blow_4 ?_
  refine bw_aload_n (pc := 7) C 0 dX3_blow_7 rfl rfl ?_
  refine bw_getI (pc := 8) (q := x0) (k0 := 4) C (ltC_T g0) (shC_T g0) rfl inX3 mw_54 (by decide) rfl dX3_blow_8 ?_
  refine bw_iadd (pc := 11) C dX3_blow_11 ?_
  refine bw_mmin (pc := 12) C mw_350 mw_351 mw_9 mw_352 (Nat.le_of_ble_eq_true rfl) (Nat.le_of_ble_eq_true rfl) dX3_blow_12 ?_
  obtain ⟨M1, eM1, h⟩ := bw_mv_o h
  refine bw_putI (pc := 15) (q := x0) (k0 := 3) C (ltC_T g0) (shC_T g0) rfl inX3 mw_52 (by decide) tyX3 tyX3_ok nmX3 rfl rfl rfl eM1 rfl rfl dX3_blow_15 ?_
  refine bw_aload_n (pc := 18) C 0 dX3_blow_18 rfl rfl ?_
  obtain ⟨v2, ev2, h⟩ := bw_cl_o h
  refine bw_cVi (pc := 19) (q := x0) (As := []) (rest := []) C (tX3_cutOffSet l N x0 g0 M1 v2 ev2) msX3_cutOffSet mw_353 rfl rfl ⟨Nat.le_of_ble_eq_true rfl, Nat.le_of_ble_eq_true rfl⟩ (ltC_T g0) (shC_T g0) rfl rfl rfl rfl (Nat.le_of_ble_eq_true rfl) dX3_blow_19 ?_
  refine bw_istore_n (pc := 22) (L' := [(1, .int v2), (0, .ref (ρ x0))]) C dX3_blow_22 rfl (by decide) rfl ?_
  refine bw_iconst (pc := 23) (v := (0 : Int32)) C dX3_blow_23 ic_0 ?_
  obtain ⟨v3, ev3, h⟩ := bw_mv_o h
  refine bw_nmI ev3 ?_
  refine bw_istore_n (pc := 24) (L' := [(2, .int v3), (1, .int v2), (0, .ref (ρ x0))]) C dX3_blow_24 rfl (by decide) rfl ?_
  refine bw_iconst (pc := 25) (v := (0 : Int32)) C dX3_blow_25 ic_0 ?_
  obtain ⟨v4, ev4, h⟩ := bw_mv_o h
  refine bw_nmI ev4 ?_
  refine bw_istore_n (pc := 26) (L' := [(3, .int v4), (2, .int v3), (1, .int v2), (0, .ref (ρ x0))]) C dX3_blow_26 rfl (by decide) rfl ?_
  refine bw_pick [3, 2, 1, 0] rfl ?_
  exact tlX3_blow_27 C N x0 g0 v2 rr zz N (v3, v4, M1) h
/-! X3_hasPipe -/
abbrev rmX3_hasPipe : Room := { frames := 0, cells := 0, slots := 0, locals := 0 }
theorem msX3_hasPipe : bw_MV yX3_hasPipe cX3_hasPipe 2 (some .boolean) RX3 1 := ⟨mw_291, mw_292, mw_3, mw_293, by decide +kernel⟩
def fX3_hasPipe_17 (x0 : Nat) (x1 : Int32)  (s0 : Int32) (M : bw_M) : Option (Int32) :=
  bw_ck (bw_isb s0) (some s0)
theorem tX3_hasPipe_17 {p : Program} {l : Launch} {e : Env} {s : State} {m : MethodId} {args : Array Value} {below : List Frame} {meth : Method} {c : Code} {D : va_G} {kT : Nat → ClassId} {ρ : Nat → Nat} (C : bw_Cx p s m args meth c cX3_hasPipe 2 RX3 45 D kT ρ (some .boolean)) (x0 : Nat) (x1 : Int32) (g0 : bw_isT x0)  (s0 : Int32) (M : bw_M) (rr : Int32)  (h : fX3_hasPipe_17 x0 x1 s0 M = some rr) : bw_At p l e rmX3_hasPipe s m args below meth c (MQ below (bw_QI bw_shC 45 D kT ρ rr M) args s 0 0 (bw_A ρ 45)) bw_shC 45 D kT ρ 2 17 [(0, .ref (ρ x0)), (1, .int x1)] [.int s0] M := by
  unfold fX3_hasPipe_17 at h
  obtain ⟨q1, h⟩ := bw_ck_o h
  exact bw_iretz (pc := 17) C (nz_b q1) dX3_hasPipe_17 (bw_pr M h)
def fX3_hasPipe_16 (x0 : Nat) (x1 : Int32)   (M : bw_M) : Option (Int32) :=
  fX3_hasPipe_17 x0 x1 (0 : Int32) M
theorem tX3_hasPipe_16 {p : Program} {l : Launch} {e : Env} {s : State} {m : MethodId} {args : Array Value} {below : List Frame} {meth : Method} {c : Code} {D : va_G} {kT : Nat → ClassId} {ρ : Nat → Nat} (C : bw_Cx p s m args meth c cX3_hasPipe 2 RX3 45 D kT ρ (some .boolean)) (x0 : Nat) (x1 : Int32) (g0 : bw_isT x0)   (M : bw_M) (rr : Int32)  (h : fX3_hasPipe_16 x0 x1 M = some rr) : bw_At p l e rmX3_hasPipe s m args below meth c (MQ below (bw_QI bw_shC 45 D kT ρ rr M) args s 0 0 (bw_A ρ 45)) bw_shC 45 D kT ρ 2 16 [(0, .ref (ρ x0)), (1, .int x1)] [] M := by
  unfold fX3_hasPipe_16 at h
  refine bw_iconst (pc := 16) (v := (0 : Int32)) C dX3_hasPipe_16 ic_0 ?_
  refine bw_pick [0, 1] rfl ?_
  exact tX3_hasPipe_17 C x0 x1 g0 (0 : Int32) M rr h
def fX3_hasPipe (x0 : Nat) (x1 : Int32) (M : bw_M) : Option (Int32) :=
  if x1 < 0 then
  fX3_hasPipe_16 x0 x1 M
  else
  if (M.1 x0 0) ≤ x1 then
  fX3_hasPipe_16 x0 x1 M
  else
  fX3_hasPipe_17 x0 x1 (1 : Int32) M
theorem tX3_hasPipe (l : Launch) (x0 : Nat) (x1 : Int32) (g0 : bw_isT x0) (M : bw_M) (rr : Int32) (h : fX3_hasPipe x0 x1 M = some rr) : bw_CI l bw_shC 45 yX3_hasPipe cX3_hasPipe 2 (some .boolean) rmX3_hasPipe (fun ρ => [.ref (ρ x0), .int x1]) M rr M := by
  refine bw_inI (Lf := fun ρ => [(0, .ref (ρ x0)), (1, .int x1)]) cX3_hasPipe 2 (some .boolean) RX3 pn_X3 rfl (fun ρ => Nat.le_of_ble_eq_true rfl) (fun ρ => rfl) ?_
  intro p e s m args below meth c D kT ρ C
  unfold fX3_hasPipe at h
  refine bw_iload_n (pc := 0) C 1 dX3_hasPipe_0 rfl rfl ?_
  refine bw_if_lt (pc := 1) C 16 dX3_hasPipe_1 (by decide) h (fun h => ?_) (fun h => ?_)
  · refine bw_pick [0, 1] rfl ?_
    exact tX3_hasPipe_16 C x0 x1 g0 M rr h
  · refine bw_iload_n (pc := 4) C 1 dX3_hasPipe_4 rfl rfl ?_
    refine bw_aload_n (pc := 5) C 0 dX3_hasPipe_5 rfl rfl ?_
    refine bw_getI (pc := 6) (q := x0) (k0 := 0) C (ltC_T g0) (shC_T g0) rfl inX3 mw_47 (by decide) rfl dX3_hasPipe_6 ?_
    refine bw_icmp_ge (pc := 9) C 16 dX3_hasPipe_9 (by decide) h (fun h => ?_) (fun h => ?_)
    · refine bw_pick [0, 1] rfl ?_
      exact tX3_hasPipe_16 C x0 x1 g0 M rr h
    · refine bw_iconst (pc := 12) (v := (1 : Int32)) C dX3_hasPipe_12 ic_1 ?_
      refine bw_goto (pc := 13) C 17 dX3_hasPipe_13 (by decide) ?_
      refine bw_pick [0, 1] rfl ?_
      exact tX3_hasPipe_17 C x0 x1 g0 (1 : Int32) M rr h
/-! X3_isSet -/
abbrev rmX3_isSet : Room := { frames := 1, cells := 0, slots := 0, locals := 20 }
theorem msX3_isSet : bw_MV yX3_isSet cX3_isSet 2 (some .boolean) RX3 1 := ⟨mw_453, mw_454, mw_3, mw_455, by decide +kernel⟩
def fX3_isSet_16 (x0 : Nat) (x1 : Int32)  (s0 : Int32) (M : bw_M) : Option (Int32) :=
  bw_ck (bw_isb s0) (some s0)
theorem tX3_isSet_16 {p : Program} {l : Launch} {e : Env} {s : State} {m : MethodId} {args : Array Value} {below : List Frame} {meth : Method} {c : Code} {D : va_G} {kT : Nat → ClassId} {ρ : Nat → Nat} (C : bw_Cx p s m args meth c cX3_isSet 2 RX3 45 D kT ρ (some .boolean)) (x0 : Nat) (x1 : Int32) (g0 : bw_isT x0)  (s0 : Int32) (M : bw_M) (rr : Int32)  (h : fX3_isSet_16 x0 x1 s0 M = some rr) : bw_At p l e rmX3_isSet s m args below meth c (MQ below (bw_QI bw_shC 45 D kT ρ rr M) args s 0 0 (bw_A ρ 45)) bw_shC 45 D kT ρ 2 16 [(0, .ref (ρ x0)), (1, .int x1)] [.int s0] M := by
  unfold fX3_isSet_16 at h
  obtain ⟨q2, h⟩ := bw_ck_o h
  exact bw_iretz (pc := 16) C (nz_b q2) dX3_isSet_16 (bw_pr M h)
def fX3_isSet (x0 : Nat) (x1 : Int32) (M : bw_M) : Option (Int32) :=
  bw_cl (fX3_allPipes x0 M) fun v1 =>
  if (x1 &&& (v1 ^^^ (-1 : Int32))) = 0 then
  fX3_isSet_16 x0 x1 (1 : Int32) M
  else
  fX3_isSet_16 x0 x1 (0 : Int32) M
theorem tX3_isSet (l : Launch) (x0 : Nat) (x1 : Int32) (g0 : bw_isT x0) (M : bw_M) (rr : Int32) (h : fX3_isSet x0 x1 M = some rr) : bw_CI l bw_shC 45 yX3_isSet cX3_isSet 2 (some .boolean) rmX3_isSet (fun ρ => [.ref (ρ x0), .int x1]) M rr M := by
  refine bw_inI (Lf := fun ρ => [(0, .ref (ρ x0)), (1, .int x1)]) cX3_isSet 2 (some .boolean) RX3 pn_X3 rfl (fun ρ => Nat.le_of_ble_eq_true rfl) (fun ρ => rfl) ?_
  intro p e s m args below meth c D kT ρ C
  unfold fX3_isSet at h
  refine bw_iload_n (pc := 0) C 1 dX3_isSet_0 rfl rfl ?_
  refine bw_aload_n (pc := 1) C 0 dX3_isSet_1 rfl rfl ?_
  obtain ⟨v1, ev1, h⟩ := bw_cl_o h
  refine bw_cVi (pc := 2) (q := x0) (As := []) (rest := [.int x1]) C (tX3_allPipes l x0 g0 M v1 ev1) msX3_allPipes mw_456 rfl rfl ⟨Nat.le_of_ble_eq_true rfl, Nat.le_of_ble_eq_true rfl⟩ (ltC_T g0) (shC_T g0) rfl rfl rfl rfl (Nat.le_of_ble_eq_true rfl) dX3_isSet_2 ?_
  refine bw_iconst (pc := 5) (v := (-1 : Int32)) C dX3_isSet_5 ic_m1 ?_
  refine bw_ixor (pc := 6) C dX3_isSet_6 ?_
  refine bw_iand (pc := 7) C dX3_isSet_7 ?_
  refine bw_if_ne (pc := 8) C 15 dX3_isSet_8 (by decide) h (fun h => ?_) (fun h => ?_)
  · refine bw_iconst (pc := 15) (v := (0 : Int32)) C dX3_isSet_15 ic_0 ?_
    refine bw_pick [0, 1] rfl ?_
    exact tX3_isSet_16 C x0 x1 g0 (0 : Int32) M rr h
  · refine bw_iconst (pc := 11) (v := (1 : Int32)) C dX3_isSet_11 ic_1 ?_
    refine bw_goto (pc := 12) C 16 dX3_isSet_12 (by decide) ?_
    refine bw_pick [0, 1] rfl ?_
    exact tX3_isSet_16 C x0 x1 g0 (1 : Int32) M rr h
/-! X3_pipesOf -/
abbrev rmX3_pipesOf : Room := { frames := 1, cells := 0, slots := 0, locals := 21 }
theorem msX3_pipesOf : bw_MV yX3_pipesOf cX3_pipesOf 4 (some .int) RX3 1 := ⟨mw_579, mw_580, mw_3, mw_581, by decide +kernel⟩
def fX3_pipesOf_31 (N : Nat) (x0 : Nat) (x1 : Int32) (k4 : Int32 × Int32 → Option (Int32)) (x3 : Int32) (s0 : Int32) (s1 : Int32) (M : bw_M) : Option (Int32) :=
  bw_mv (s0 + s1) fun v5 =>
  bw_mv (x3 + 1) fun v6 =>
  k4 (v5, v6)
theorem tX3_pipesOf_31 {p : Program} {l : Launch} {e : Env} {s : State} {m : MethodId} {args : Array Value} {below : List Frame} {meth : Method} {c : Code} {D : va_G} {kT : Nat → ClassId} {ρ : Nat → Nat} (C : bw_Cx p s m args meth c cX3_pipesOf 4 RX3 45 D kT ρ (some .int)) (N : Nat) (x0 : Nat) (x1 : Int32) (g0 : bw_isT x0) (k4 : Int32 × Int32 → Option (Int32)) (x3 : Int32) (s0 : Int32) (s1 : Int32) (M : bw_M) (rr : Int32) (hk4 : ∀ z0, k4 z0 = some rr → bw_At p l e rmX3_pipesOf s m args below meth c (MQ below (bw_QI bw_shC 45 D kT ρ rr M) args s 0 0 (bw_A ρ 45)) bw_shC 45 D kT ρ 4 4 [(0, .ref (ρ x0)), (1, .int x1), (2, .int z0.1), (3, .int z0.2)] [] M) (h : fX3_pipesOf_31 N x0 x1 k4 x3 s0 s1 M = some rr) : bw_At p l e rmX3_pipesOf s m args below meth c (MQ below (bw_QI bw_shC 45 D kT ρ rr M) args s 0 0 (bw_A ρ 45)) bw_shC 45 D kT ρ 4 31 [(0, .ref (ρ x0)), (1, .int x1), (3, .int x3)] [.int s1, .int s0] M := by
  unfold fX3_pipesOf_31 at h
  refine bw_iadd (pc := 31) C dX3_pipesOf_31 ?_
  obtain ⟨v5, ev5, h⟩ := bw_mv_o h
  refine bw_nmI ev5 ?_
  refine bw_istore_n (pc := 32) (L' := [(2, .int v5), (0, .ref (ρ x0)), (1, .int x1), (3, .int x3)]) C dX3_pipesOf_32 rfl (by decide) rfl ?_
  obtain ⟨v6, ev6, h⟩ := bw_mv_o h
  refine bw_iinc (pc := 33) (x := v6) (L' := [(3, .int v6), (2, .int v5), (0, .ref (ρ x0)), (1, .int x1)]) C 3 dX3_pipesOf_33 rfl ev6.symm (by decide) rfl ?_
  refine bw_goto (pc := 36) C 4 dX3_pipesOf_36 (by decide) ?_
  refine bw_pick [2, 3, 1, 0] rfl ?_
  exact hk4 (v5, v6) h
def fX3_pipesOf_4 (N : Nat) (x0 : Nat) (x1 : Int32) (k4 : Int32 × Int32 → Option (Int32)) (x2 : Int32) (x3 : Int32) (M : bw_M) : Option (Int32) :=
  if (M.1 x0 0) ≤ x3 then
  some x2
  else
  bw_rd M (x0 + 1) 6 x3 fun v3 =>
  bw_cl (fX1_isOf v3 x1) fun v4 =>
  if v4 = 0 then
  fX3_pipesOf_31 N x0 x1 k4 x3 x2 (0 : Int32) M
  else
  fX3_pipesOf_31 N x0 x1 k4 x3 x2 (1 : Int32) M
theorem tX3_pipesOf_4 {p : Program} {l : Launch} {e : Env} {s : State} {m : MethodId} {args : Array Value} {below : List Frame} {meth : Method} {c : Code} {D : va_G} {kT : Nat → ClassId} {ρ : Nat → Nat} (C : bw_Cx p s m args meth c cX3_pipesOf 4 RX3 45 D kT ρ (some .int)) (N : Nat) (x0 : Nat) (x1 : Int32) (g0 : bw_isT x0) (k4 : Int32 × Int32 → Option (Int32)) (x2 : Int32) (x3 : Int32) (M : bw_M) (rr : Int32) (hk4 : ∀ z0, k4 z0 = some rr → bw_At p l e rmX3_pipesOf s m args below meth c (MQ below (bw_QI bw_shC 45 D kT ρ rr M) args s 0 0 (bw_A ρ 45)) bw_shC 45 D kT ρ 4 4 [(0, .ref (ρ x0)), (1, .int x1), (2, .int z0.1), (3, .int z0.2)] [] M) (h : fX3_pipesOf_4 N x0 x1 k4 x2 x3 M = some rr) : bw_At p l e rmX3_pipesOf s m args below meth c (MQ below (bw_QI bw_shC 45 D kT ρ rr M) args s 0 0 (bw_A ρ 45)) bw_shC 45 D kT ρ 4 4 [(0, .ref (ρ x0)), (1, .int x1), (2, .int x2), (3, .int x3)] [] M := by
  unfold fX3_pipesOf_4 at h
  refine bw_iload_n (pc := 4) C 3 dX3_pipesOf_4 rfl rfl ?_
  refine bw_aload_n (pc := 5) C 0 dX3_pipesOf_5 rfl rfl ?_
  refine bw_getI (pc := 6) (q := x0) (k0 := 0) C (ltC_T g0) (shC_T g0) rfl inX3 mw_47 (by decide) rfl dX3_pipesOf_6 ?_
  refine bw_icmp_ge (pc := 9) C 39 dX3_pipesOf_9 (by decide) h (fun h => ?_) (fun h => ?_)
  · refine bw_iload_n (pc := 39) C 2 dX3_pipesOf_39 rfl rfl ?_
    exact bw_ireti (pc := 40) C dX3_pipesOf_40 (bw_pr M h)
  · refine bw_iload_n (pc := 12) C 2 dX3_pipesOf_12 rfl rfl ?_
    refine bw_aload_n (pc := 13) C 0 dX3_pipesOf_13 rfl rfl ?_
    refine bw_getR (pc := 14) (q := x0) (k0 := 8) C (ltC_T g0) (shC_T g0) rfl inX3 mw_62 (by decide) rfl dX3_pipesOf_14 ?_
    refine bw_iload_n (pc := 17) C 3 dX3_pipesOf_17 rfl rfl ?_
    obtain ⟨qv3, v3, ev3, h⟩ := bw_rd_o h
    refine bw_iald (pc := 18) (q := (x0 + 1)) C (ltC_T1 g0) (shC_T1 g0) qv3 ev3 dX3_pipesOf_18 ?_
    refine bw_iload_n (pc := 19) C 1 dX3_pipesOf_19 rfl rfl ?_
    obtain ⟨v4, ev4, h⟩ := bw_cl_o h
    refine bw_cSi (pc := 20) (As := [.int v3, .int x1]) (rest := [.int x2]) C (tX1_isOf l v3 x1 M v4 ev4) msX1_isOf mw_582 rfl rfl ⟨Nat.le_of_ble_eq_true rfl, Nat.le_of_ble_eq_true rfl⟩ rfl rfl rfl (Nat.le_of_ble_eq_true rfl) dX3_pipesOf_20 ?_
    refine bw_if_eq (pc := 23) C 30 dX3_pipesOf_23 (by decide) h (fun h => ?_) (fun h => ?_)
    · refine bw_iconst (pc := 30) (v := (0 : Int32)) C dX3_pipesOf_30 ic_0 ?_
      refine bw_pick [0, 1, 3] rfl ?_
      exact tX3_pipesOf_31 C N x0 x1 g0 k4 x3 x2 (0 : Int32) M rr hk4 h
    · refine bw_iconst (pc := 26) (v := (1 : Int32)) C dX3_pipesOf_26 ic_1 ?_
      refine bw_goto (pc := 27) C 31 dX3_pipesOf_27 (by decide) ?_
      refine bw_pick [0, 1, 3] rfl ?_
      exact tX3_pipesOf_31 C N x0 x1 g0 k4 x3 x2 (1 : Int32) M rr hk4 h
def flX3_pipesOf_4 (N : Nat) (x0 : Nat) (x1 : Int32)   (M : bw_M) (fu : Nat) (w : Int32 × Int32) : Option (Int32) := bw_lp (fun kk w => fX3_pipesOf_4 N x0 x1 kk w.1 w.2 M) fu w
theorem tlX3_pipesOf_4 {p : Program} {l : Launch} {e : Env} {s : State} {m : MethodId} {args : Array Value} {below : List Frame} {meth : Method} {c : Code} {D : va_G} {kT : Nat → ClassId} {ρ : Nat → Nat} (C : bw_Cx p s m args meth c cX3_pipesOf 4 RX3 45 D kT ρ (some .int)) (N : Nat) (x0 : Nat) (x1 : Int32) (g0 : bw_isT x0)   (M : bw_M) (rr : Int32)  (fu : Nat) (w : Int32 × Int32) (h : flX3_pipesOf_4 N x0 x1 M fu w = some rr) : bw_At p l e rmX3_pipesOf s m args below meth c (MQ below (bw_QI bw_shC 45 D kT ρ rr M) args s 0 0 (bw_A ρ 45)) bw_shC 45 D kT ρ 4 4 [(0, .ref (ρ x0)), (1, .int x1), (2, .int w.1), (3, .int w.2)] [] M :=
  bw_loop (r := rr) (fun w => bw_At p l e rmX3_pipesOf s m args below meth c (MQ below (bw_QI bw_shC 45 D kT ρ rr M) args s 0 0 (bw_A ρ 45)) bw_shC 45 D kT ρ 4 4 [(0, .ref (ρ x0)), (1, .int x1), (2, .int w.1), (3, .int w.2)] [] M) (fun kk hk w h => tX3_pipesOf_4 C N x0 x1 g0 kk w.1 w.2 M rr hk h) fu w h
def fX3_pipesOf (N : Nat) (x0 : Nat) (x1 : Int32) (M : bw_M) : Option (Int32) :=
  bw_mv (0 : Int32) fun v1 =>
  bw_mv (0 : Int32) fun v2 =>
  flX3_pipesOf_4 N x0 x1 M N (v1, v2)
theorem tX3_pipesOf (l : Launch) (N : Nat) (x0 : Nat) (x1 : Int32) (g0 : bw_isT x0) (M : bw_M) (rr : Int32) (h : fX3_pipesOf N x0 x1 M = some rr) : bw_CI l bw_shC 45 yX3_pipesOf cX3_pipesOf 4 (some .int) rmX3_pipesOf (fun ρ => [.ref (ρ x0), .int x1]) M rr M := by
  refine bw_inI (Lf := fun ρ => [(0, .ref (ρ x0)), (1, .int x1)]) cX3_pipesOf 4 (some .int) RX3 pn_X3 rfl (fun ρ => Nat.le_of_ble_eq_true rfl) (fun ρ => rfl) ?_
  intro p e s m args below meth c D kT ρ C
  unfold fX3_pipesOf at h
  refine bw_iconst (pc := 0) (v := (0 : Int32)) C dX3_pipesOf_0 ic_0 ?_
  obtain ⟨v1, ev1, h⟩ := bw_mv_o h
  refine bw_nmI ev1 ?_
  refine bw_istore_n (pc := 1) (L' := [(2, .int v1), (0, .ref (ρ x0)), (1, .int x1)]) C dX3_pipesOf_1 rfl (by decide) rfl ?_
  refine bw_iconst (pc := 2) (v := (0 : Int32)) C dX3_pipesOf_2 ic_0 ?_
  obtain ⟨v2, ev2, h⟩ := bw_mv_o h
  refine bw_nmI ev2 ?_
  refine bw_istore_n (pc := 3) (L' := [(3, .int v2), (2, .int v1), (0, .ref (ρ x0)), (1, .int x1)]) C dX3_pipesOf_3 rfl (by decide) rfl ?_
  refine bw_pick [2, 3, 1, 0] rfl ?_
  exact tlX3_pipesOf_4 C N x0 x1 g0 M rr N (v1, v2) h
/-! X3_undergo -/
abbrev rmX3_undergo : Room := { frames := 4, cells := 0, slots := 0, locals := 88 }
theorem msX3_undergo : bw_MV yX3_undergo cX3_undergo 4 (some .int) RX3 2 := ⟨mw_343, mw_344, mw_3, mw_345, by decide +kernel⟩
def fX3_undergo (N : Nat) (x0 : Nat) (x1 : Int32) (x2 : Int32) (M : bw_M) : Option (Int32 × bw_M) :=
  if x1 = (0 : Int32) then
  bw_c2 (fX3_blow N x0 M) fun v2 M3 =>
  some (v2, M3)
  else if x1 = (1 : Int32) then
  bw_mv (bw_pI M x0 3 (if (0 : Int32) < (if ((M.1 x0 3) + x2) < (60 : Int32) then ((M.1 x0 3) + x2) else (60 : Int32)) then (if ((M.1 x0 3) + x2) < (60 : Int32) then ((M.1 x0 3) + x2) else (60 : Int32)) else (0 : Int32))) fun M5 =>
  some ((M5.1 x0 3), M5)
  else if x1 = (2 : Int32) then
  bw_mv (bw_pI M x0 6 ((M.1 x0 6) ^^^ ((1 : Int32) <<< (x2 &&& 31)))) fun M7 =>
  some ((((M7.1 x0 6) >>> (x2 &&& 31)) &&& (1 : Int32)), M7)
  else if x1 = (3 : Int32) then
  bw_mv (bw_pI M x0 7 ((M.1 x0 7) ^^^ ((1 : Int32) <<< (x2 &&& 31)))) fun M9 =>
  some ((((M9.1 x0 7) >>> (x2 &&& 31)) &&& (1 : Int32)), M9)
  else 
  bw_mv (M.1 x0 4) fun v10 =>
  bw_mv (bw_pI M x0 4 x2) fun M11 =>
  some (v10, M11)
theorem tX3_undergo (l : Launch) (N : Nat) (x0 : Nat) (x1 : Int32) (x2 : Int32) (g0 : bw_isT x0) (M : bw_M) (rr : Int32) (zz : bw_M) (h : fX3_undergo N x0 x1 x2 M = some (rr, zz)) : bw_CI l bw_shC 45 yX3_undergo cX3_undergo 4 (some .int) rmX3_undergo (fun ρ => [.ref (ρ x0), .int x1, .int x2]) M rr zz := by
  refine bw_inI (Lf := fun ρ => [(0, .ref (ρ x0)), (1, .int x1), (2, .int x2)]) cX3_undergo 4 (some .int) RX3 pn_X3 rfl (fun ρ => Nat.le_of_ble_eq_true rfl) (fun ρ => rfl) ?_
  intro p e s m args below meth c D kT ρ C
  unfold fX3_undergo at h
  refine bw_iload_n (pc := 0) C 1 dX3_undergo_0 rfl rfl ?_
  refine bw_swc (pc := 1) C (0 : Int32) h (fun h => ?_) (fun q1 h => ?_)
  · refine bw_swi (pc := 1) C 32 dX3_undergo_1 (by decide) (by decide) rfl (by decide) ?_
    refine bw_aload_n (pc := 32) C 0 dX3_undergo_32 rfl rfl ?_
    obtain ⟨v2, M3, ev2, h⟩ := bw_c2_o h
    refine bw_cVi (pc := 33) (q := x0) (As := []) (rest := []) C (tX3_blow l N x0 g0 M v2 M3 ev2) msX3_blow mw_346 rfl rfl ⟨Nat.le_of_ble_eq_true rfl, Nat.le_of_ble_eq_true rfl⟩ (ltC_T g0) (shC_T g0) rfl rfl rfl rfl (Nat.le_of_ble_eq_true rfl) dX3_undergo_33 ?_
    exact bw_ireti (pc := 36) C dX3_undergo_36 h
  refine bw_swc (pc := 1) C (1 : Int32) h (fun h => ?_) (fun q4 h => ?_)
  · refine bw_swi (pc := 1) C 37 dX3_undergo_1 (by decide) (by decide) rfl (by decide) ?_
    refine bw_aload_n (pc := 37) C 0 dX3_undergo_37 rfl rfl ?_
    refine bw_iconst (pc := 38) (v := (0 : Int32)) C dX3_undergo_38 ic_0 ?_
    refine bw_bipush (pc := 39) (v := (60 : Int32)) C dX3_undergo_39 bi_60 ?_
    refine bw_aload_n (pc := 41) C 0 dX3_undergo_41 rfl rfl ?_
    refine bw_getI (pc := 42) (q := x0) (k0 := 3) C (ltC_T g0) (shC_T g0) rfl inX3 mw_52 (by decide) rfl dX3_undergo_42 ?_
    refine bw_iload_n (pc := 45) C 2 dX3_undergo_45 rfl rfl ?_
    refine bw_iadd (pc := 46) C dX3_undergo_46 ?_
    refine bw_mmin (pc := 47) C mw_350 mw_351 mw_9 mw_352 (Nat.le_of_ble_eq_true rfl) (Nat.le_of_ble_eq_true rfl) dX3_undergo_47 ?_
    refine bw_mmax (pc := 50) C mw_358 mw_321 mw_9 mw_322 (Nat.le_of_ble_eq_true rfl) (Nat.le_of_ble_eq_true rfl) dX3_undergo_50 ?_
    obtain ⟨M5, eM5, h⟩ := bw_mv_o h
    refine bw_putI (pc := 53) (q := x0) (k0 := 3) C (ltC_T g0) (shC_T g0) rfl inX3 mw_52 (by decide) tyX3 tyX3_ok nmX3 rfl rfl rfl eM5 rfl rfl dX3_undergo_53 ?_
    refine bw_aload_n (pc := 56) C 0 dX3_undergo_56 rfl rfl ?_
    refine bw_getI (pc := 57) (q := x0) (k0 := 3) C (ltC_T g0) (shC_T g0) rfl inX3 mw_52 (by decide) rfl dX3_undergo_57 ?_
    exact bw_ireti (pc := 60) C dX3_undergo_60 h
  refine bw_swc (pc := 1) C (2 : Int32) h (fun h => ?_) (fun q6 h => ?_)
  · refine bw_swi (pc := 1) C 61 dX3_undergo_1 (by decide) (by decide) rfl (by decide) ?_
    refine bw_aload_n (pc := 61) C 0 dX3_undergo_61 rfl rfl ?_
    refine bw_dup (pc := 62) C dX3_undergo_62 rfl ?_
    refine bw_getI (pc := 63) (q := x0) (k0 := 6) C (ltC_T g0) (shC_T g0) rfl inX3 mw_58 (by decide) rfl dX3_undergo_63 ?_
    refine bw_iconst (pc := 66) (v := (1 : Int32)) C dX3_undergo_66 ic_1 ?_
    refine bw_iload_n (pc := 67) C 2 dX3_undergo_67 rfl rfl ?_
    refine bw_ishl (pc := 68) C dX3_undergo_68 ?_
    refine bw_ixor (pc := 69) C dX3_undergo_69 ?_
    obtain ⟨M7, eM7, h⟩ := bw_mv_o h
    refine bw_putI (pc := 70) (q := x0) (k0 := 6) C (ltC_T g0) (shC_T g0) rfl inX3 mw_58 (by decide) tyX3 tyX3_ok nmX3 rfl rfl rfl eM7 rfl rfl dX3_undergo_70 ?_
    refine bw_aload_n (pc := 73) C 0 dX3_undergo_73 rfl rfl ?_
    refine bw_getI (pc := 74) (q := x0) (k0 := 6) C (ltC_T g0) (shC_T g0) rfl inX3 mw_58 (by decide) rfl dX3_undergo_74 ?_
    refine bw_iload_n (pc := 77) C 2 dX3_undergo_77 rfl rfl ?_
    refine bw_ishr (pc := 78) C dX3_undergo_78 ?_
    refine bw_iconst (pc := 79) (v := (1 : Int32)) C dX3_undergo_79 ic_1 ?_
    refine bw_iand (pc := 80) C dX3_undergo_80 ?_
    exact bw_ireti (pc := 81) C dX3_undergo_81 h
  refine bw_swc (pc := 1) C (3 : Int32) h (fun h => ?_) (fun q8 h => ?_)
  · refine bw_swi (pc := 1) C 82 dX3_undergo_1 (by decide) (by decide) rfl (by decide) ?_
    refine bw_aload_n (pc := 82) C 0 dX3_undergo_82 rfl rfl ?_
    refine bw_dup (pc := 83) C dX3_undergo_83 rfl ?_
    refine bw_getI (pc := 84) (q := x0) (k0 := 7) C (ltC_T g0) (shC_T g0) rfl inX3 mw_60 (by decide) rfl dX3_undergo_84 ?_
    refine bw_iconst (pc := 87) (v := (1 : Int32)) C dX3_undergo_87 ic_1 ?_
    refine bw_iload_n (pc := 88) C 2 dX3_undergo_88 rfl rfl ?_
    refine bw_ishl (pc := 89) C dX3_undergo_89 ?_
    refine bw_ixor (pc := 90) C dX3_undergo_90 ?_
    obtain ⟨M9, eM9, h⟩ := bw_mv_o h
    refine bw_putI (pc := 91) (q := x0) (k0 := 7) C (ltC_T g0) (shC_T g0) rfl inX3 mw_60 (by decide) tyX3 tyX3_ok nmX3 rfl rfl rfl eM9 rfl rfl dX3_undergo_91 ?_
    refine bw_aload_n (pc := 94) C 0 dX3_undergo_94 rfl rfl ?_
    refine bw_getI (pc := 95) (q := x0) (k0 := 7) C (ltC_T g0) (shC_T g0) rfl inX3 mw_60 (by decide) rfl dX3_undergo_95 ?_
    refine bw_iload_n (pc := 98) C 2 dX3_undergo_98 rfl rfl ?_
    refine bw_ishr (pc := 99) C dX3_undergo_99 ?_
    refine bw_iconst (pc := 100) (v := (1 : Int32)) C dX3_undergo_100 ic_1 ?_
    refine bw_iand (pc := 101) C dX3_undergo_101 ?_
    exact bw_ireti (pc := 102) C dX3_undergo_102 h
  have ho : (x1).toInt < 0 ∨ 3 < (x1).toInt := bw_sw_out 4 (by decide) (by decide) (by decide) (fun j hj => by
    match j, hj with
    | 0, _ => exact q1
    | 1, _ => exact q4
    | 2, _ => exact q6
    | 3, _ => exact q8
    | j + 4, hj => exact absurd hj (by omega))
  refine bw_swo (pc := 1) C 103 dX3_undergo_1 ho (by decide) ?_
  refine bw_aload_n (pc := 103) C 0 dX3_undergo_103 rfl rfl ?_
  refine bw_getI (pc := 104) (q := x0) (k0 := 4) C (ltC_T g0) (shC_T g0) rfl inX3 mw_54 (by decide) rfl dX3_undergo_104 ?_
  obtain ⟨v10, ev10, h⟩ := bw_mv_o h
  refine bw_nmI ev10 ?_
  refine bw_istore_n (pc := 107) (L' := [(3, .int v10), (0, .ref (ρ x0)), (1, .int x1), (2, .int x2)]) C dX3_undergo_107 rfl (by decide) rfl ?_
  refine bw_aload_n (pc := 108) C 1 dX3_undergo_108 rfl rfl ?_
  refine bw_iload_n (pc := 109) C 3 dX3_undergo_109 rfl rfl ?_
  obtain ⟨M11, eM11, h⟩ := bw_mv_o h
  refine bw_putI (pc := 110) (q := x0) (k0 := 4) C (ltC_T g0) (shC_T g0) rfl inX3 mw_54 (by decide) tyX3 tyX3_ok nmX3 rfl rfl rfl eM11 rfl rfl dX3_undergo_110 ?_
  refine bw_iload_n (pc := 113) C 0 dX3_undergo_113 rfl rfl ?_
  exact bw_ireti (pc := 114) C dX3_undergo_114 h
/-! X3_relive -/
abbrev rmX3_relive : Room := { frames := 5, cells := 0, slots := 0, locals := 111 }
theorem msX3_relive : bw_MV yX3_relive cX3_relive 3 none RX3 1 := ⟨mw_388, mw_389, mw_3, mw_390, by decide +kernel⟩
def fX3_relive_43 (N : Nat) (x0 : Nat) (x1 : Nat)   (M : bw_M) : Option (bw_M) :=
  some M
theorem tX3_relive_43 {p : Program} {l : Launch} {e : Env} {s : State} {m : MethodId} {args : Array Value} {below : List Frame} {meth : Method} {c : Code} {D : va_G} {kT : Nat → ClassId} {ρ : Nat → Nat} (C : bw_Cx p s m args meth c cX3_relive 3 RX3 45 D kT ρ none) (N : Nat) (x0 : Nat) (x1 : Nat) (g0 : bw_isT x0) (g1 : bw_isD x1)   (M : bw_M) (zz : bw_M)  (h : fX3_relive_43 N x0 x1 M = some zz) : bw_At p l e rmX3_relive s m args below meth c (MQ below (bw_QV bw_shC 45 D kT ρ zz) args s 0 0 (bw_A ρ 45)) bw_shC 45 D kT ρ 3 43 [(0, .ref (ρ x0)), (1, .ref (ρ x1))] [] M := by
  unfold fX3_relive_43 at h
  exact bw_vreti (pc := 43) C dX3_relive_43 h
def fX3_relive_6 (N : Nat) (x0 : Nat) (x1 : Nat) (k6 : Int32 × bw_M → Option (bw_M)) (x2 : Int32) (M : bw_M) : Option (bw_M) :=
  if (M.1 x1 2) ≤ x2 then
  fX3_relive_43 N x0 x1 M
  else
  if (40 : Int32) ≤ x2 then
  fX3_relive_43 N x0 x1 M
  else
  bw_rd M (x1 + 1) 40 x2 fun v3 =>
  bw_rd M (x1 + 2) 40 x2 fun v4 =>
  bw_c2 (fX3_undergo N x0 v3 v4 M) fun v5 M6 =>
  bw_mv (x2 + 1) fun v7 =>
  k6 (v7, M6)
theorem tX3_relive_6 {p : Program} {l : Launch} {e : Env} {s : State} {m : MethodId} {args : Array Value} {below : List Frame} {meth : Method} {c : Code} {D : va_G} {kT : Nat → ClassId} {ρ : Nat → Nat} (C : bw_Cx p s m args meth c cX3_relive 3 RX3 45 D kT ρ none) (N : Nat) (x0 : Nat) (x1 : Nat) (g0 : bw_isT x0) (g1 : bw_isD x1) (k6 : Int32 × bw_M → Option (bw_M)) (x2 : Int32) (M : bw_M) (zz : bw_M) (hk6 : ∀ z0, k6 z0 = some zz → bw_At p l e rmX3_relive s m args below meth c (MQ below (bw_QV bw_shC 45 D kT ρ zz) args s 0 0 (bw_A ρ 45)) bw_shC 45 D kT ρ 3 6 [(0, .ref (ρ x0)), (1, .ref (ρ x1)), (2, .int z0.1)] [] z0.2) (h : fX3_relive_6 N x0 x1 k6 x2 M = some zz) : bw_At p l e rmX3_relive s m args below meth c (MQ below (bw_QV bw_shC 45 D kT ρ zz) args s 0 0 (bw_A ρ 45)) bw_shC 45 D kT ρ 3 6 [(0, .ref (ρ x0)), (1, .ref (ρ x1)), (2, .int x2)] [] M := by
  unfold fX3_relive_6 at h
  refine bw_iload_n (pc := 6) C 2 dX3_relive_6 rfl rfl ?_
  refine bw_aload_n (pc := 7) C 1 dX3_relive_7 rfl rfl ?_
  refine bw_getI (pc := 8) (q := x1) (k0 := 2) C (ltC_D g1) (shC_D g1) rfl inX0 mw_111 (by decide) rfl dX3_relive_8 ?_
  refine bw_icmp_ge (pc := 11) C 43 dX3_relive_11 (by decide) h (fun h => ?_) (fun h => ?_)
  · refine bw_pick [0, 1] rfl ?_
    exact tX3_relive_43 C N x0 x1 g0 g1 M zz h
  · refine bw_iload_n (pc := 14) C 2 dX3_relive_14 rfl rfl ?_
    refine bw_bipush (pc := 15) (v := (40 : Int32)) C dX3_relive_15 bi_40 ?_
    refine bw_icmp_ge (pc := 17) C 43 dX3_relive_17 (by decide) h (fun h => ?_) (fun h => ?_)
    · refine bw_pick [0, 1] rfl ?_
      exact tX3_relive_43 C N x0 x1 g0 g1 M zz h
    · refine bw_aload_n (pc := 20) C 0 dX3_relive_20 rfl rfl ?_
      refine bw_aload_n (pc := 21) C 1 dX3_relive_21 rfl rfl ?_
      refine bw_getR (pc := 22) (q := x1) (k0 := 0) C (ltC_D g1) (shC_D g1) rfl inX0 mw_106 (by decide) rfl dX3_relive_22 ?_
      refine bw_iload_n (pc := 25) C 2 dX3_relive_25 rfl rfl ?_
      obtain ⟨qv3, v3, ev3, h⟩ := bw_rd_o h
      refine bw_iald (pc := 26) (q := (x1 + 1)) C (ltC_D1 g1) (shC_D1 g1) qv3 ev3 dX3_relive_26 ?_
      refine bw_aload_n (pc := 27) C 1 dX3_relive_27 rfl rfl ?_
      refine bw_getR (pc := 28) (q := x1) (k0 := 1) C (ltC_D g1) (shC_D g1) rfl inX0 mw_108 (by decide) rfl dX3_relive_28 ?_
      refine bw_iload_n (pc := 31) C 2 dX3_relive_31 rfl rfl ?_
      obtain ⟨qv4, v4, ev4, h⟩ := bw_rd_o h
      refine bw_iald (pc := 32) (q := (x1 + 2)) C (ltC_D2 g1) (shC_D2 g1) qv4 ev4 dX3_relive_32 ?_
      obtain ⟨v5, M6, ev5, h⟩ := bw_c2_o h
      refine bw_cVi (pc := 33) (q := x0) (As := [.int v3, .int v4]) (rest := []) C (tX3_undergo l N x0 v3 v4 g0 M v5 M6 ev5) msX3_undergo mw_391 rfl rfl ⟨Nat.le_of_ble_eq_true rfl, Nat.le_of_ble_eq_true rfl⟩ (ltC_T g0) (shC_T g0) rfl rfl rfl rfl (Nat.le_of_ble_eq_true rfl) dX3_relive_33 ?_
      refine bw_pop (pc := 36) C dX3_relive_36 rfl ?_
      obtain ⟨v7, ev7, h⟩ := bw_mv_o h
      refine bw_iinc (pc := 37) (x := v7) (L' := [(2, .int v7), (0, .ref (ρ x0)), (1, .ref (ρ x1))]) C 2 dX3_relive_37 rfl ev7.symm (by decide) rfl ?_
      refine bw_goto (pc := 40) C 6 dX3_relive_40 (by decide) ?_
      refine bw_pick [1, 2, 0] rfl ?_
      exact hk6 (v7, M6) h
def flX3_relive_6 (N : Nat) (x0 : Nat) (x1 : Nat)    (fu : Nat) (w : Int32 × bw_M) : Option (bw_M) := bw_lp (fun kk w => fX3_relive_6 N x0 x1 kk w.1 w.2) fu w
theorem tlX3_relive_6 {p : Program} {l : Launch} {e : Env} {s : State} {m : MethodId} {args : Array Value} {below : List Frame} {meth : Method} {c : Code} {D : va_G} {kT : Nat → ClassId} {ρ : Nat → Nat} (C : bw_Cx p s m args meth c cX3_relive 3 RX3 45 D kT ρ none) (N : Nat) (x0 : Nat) (x1 : Nat) (g0 : bw_isT x0) (g1 : bw_isD x1)    (zz : bw_M)  (fu : Nat) (w : Int32 × bw_M) (h : flX3_relive_6 N x0 x1 fu w = some zz) : bw_At p l e rmX3_relive s m args below meth c (MQ below (bw_QV bw_shC 45 D kT ρ zz) args s 0 0 (bw_A ρ 45)) bw_shC 45 D kT ρ 3 6 [(0, .ref (ρ x0)), (1, .ref (ρ x1)), (2, .int w.1)] [] w.2 :=
  bw_loop (r := zz) (fun w => bw_At p l e rmX3_relive s m args below meth c (MQ below (bw_QV bw_shC 45 D kT ρ zz) args s 0 0 (bw_A ρ 45)) bw_shC 45 D kT ρ 3 6 [(0, .ref (ρ x0)), (1, .ref (ρ x1)), (2, .int w.1)] [] w.2) (fun kk hk w h => tX3_relive_6 C N x0 x1 g0 g1 kk w.1 w.2 zz hk h) fu w h
def fX3_relive (N : Nat) (x0 : Nat) (x1 : Nat) (M : bw_M) : Option (bw_M) :=
  bw_cl (fX3_restart N x0 M) fun M1 =>
  bw_mv (0 : Int32) fun v2 =>
  flX3_relive_6 N x0 x1 N (v2, M1)
theorem tX3_relive (l : Launch) (N : Nat) (x0 : Nat) (x1 : Nat) (g0 : bw_isT x0) (g1 : bw_isD x1) (M : bw_M) (zz : bw_M) (h : fX3_relive N x0 x1 M = some zz) : bw_CV l bw_shC 45 yX3_relive cX3_relive 3 none rmX3_relive (fun ρ => [.ref (ρ x0), .ref (ρ x1)]) M zz := by
  refine bw_inV (Lf := fun ρ => [(0, .ref (ρ x0)), (1, .ref (ρ x1))]) cX3_relive 3 none RX3 pn_X3 rfl (fun ρ => Nat.le_of_ble_eq_true rfl) (fun ρ => rfl) ?_
  intro p e s m args below meth c D kT ρ C
  unfold fX3_relive at h
  refine bw_aload_n (pc := 0) C 0 dX3_relive_0 rfl rfl ?_
  obtain ⟨M1, eM1, h⟩ := bw_cl_o h
  refine bw_cVv (pc := 1) (q := x0) (As := []) (rest := []) C (tX3_restart l N x0 g0 M M1 eM1) msX3_restart mw_262 rfl rfl ⟨Nat.le_of_ble_eq_true rfl, Nat.le_of_ble_eq_true rfl⟩ (ltC_T g0) (shC_T g0) rfl rfl rfl rfl (Nat.le_of_ble_eq_true rfl) dX3_relive_1 ?_
  refine bw_iconst (pc := 4) (v := (0 : Int32)) C dX3_relive_4 ic_0 ?_
  obtain ⟨v2, ev2, h⟩ := bw_mv_o h
  refine bw_nmI ev2 ?_
  refine bw_istore_n (pc := 5) (L' := [(2, .int v2), (0, .ref (ρ x0)), (1, .ref (ρ x1))]) C dX3_relive_5 rfl (by decide) rfl ?_
  refine bw_pick [1, 2, 0] rfl ?_
  exact tlX3_relive_6 C N x0 x1 g0 g1 zz N (v2, M1) h
/-! X3_sumOf -/
abbrev rmX3_sumOf : Room := { frames := 0, cells := 0, slots := 0, locals := 0 }
theorem msX3_sumOf : bw_MV yX3_sumOf cX3_sumOf 4 (some .int) RX3 1 := ⟨mw_575, mw_576, mw_3, mw_577, by decide +kernel⟩
def fX3_sumOf_30 (N : Nat) (x0 : Nat) (x1 : Nat) (n1 : Nat)  (x2 : Int32) (M : bw_M) : Option (Int32) :=
  some x2
theorem tX3_sumOf_30 {p : Program} {l : Launch} {e : Env} {s : State} {m : MethodId} {args : Array Value} {below : List Frame} {meth : Method} {c : Code} {D : va_G} {kT : Nat → ClassId} {ρ : Nat → Nat} (C : bw_Cx p s m args meth c cX3_sumOf 4 RX3 45 D kT ρ (some .int)) (N : Nat) (x0 : Nat) (x1 : Nat) (n1 : Nat) (g0 : bw_isT x0) (g1 : x1 < 45) (i1 : bw_shC x1 = .inr (.inl (0, n1)))  (x2 : Int32) (M : bw_M) (rr : Int32)  (h : fX3_sumOf_30 N x0 x1 n1 x2 M = some rr) : bw_At p l e rmX3_sumOf s m args below meth c (MQ below (bw_QI bw_shC 45 D kT ρ rr M) args s 0 0 (bw_A ρ 45)) bw_shC 45 D kT ρ 4 30 [(0, .ref (ρ x0)), (1, .ref (ρ x1)), (2, .int x2)] [] M := by
  unfold fX3_sumOf_30 at h
  refine bw_iload_n (pc := 30) C 2 dX3_sumOf_30 rfl rfl ?_
  exact bw_ireti (pc := 31) C dX3_sumOf_31 (bw_pr M h)
def fX3_sumOf_4 (N : Nat) (x0 : Nat) (x1 : Nat) (n1 : Nat) (k4 : Int32 × Int32 → Option (Int32)) (x2 : Int32) (x3 : Int32) (M : bw_M) : Option (Int32) :=
  if (M.1 x0 0) ≤ x3 then
  fX3_sumOf_30 N x0 x1 n1 x2 M
  else
  if (Int32.ofNat n1) ≤ x3 then
  fX3_sumOf_30 N x0 x1 n1 x2 M
  else
  bw_rd M x1 n1 x3 fun v3 =>
  bw_mv (x2 + v3) fun v4 =>
  bw_mv (x3 + 1) fun v5 =>
  k4 (v4, v5)
theorem tX3_sumOf_4 {p : Program} {l : Launch} {e : Env} {s : State} {m : MethodId} {args : Array Value} {below : List Frame} {meth : Method} {c : Code} {D : va_G} {kT : Nat → ClassId} {ρ : Nat → Nat} (C : bw_Cx p s m args meth c cX3_sumOf 4 RX3 45 D kT ρ (some .int)) (N : Nat) (x0 : Nat) (x1 : Nat) (n1 : Nat) (g0 : bw_isT x0) (g1 : x1 < 45) (i1 : bw_shC x1 = .inr (.inl (0, n1))) (k4 : Int32 × Int32 → Option (Int32)) (x2 : Int32) (x3 : Int32) (M : bw_M) (rr : Int32) (hk4 : ∀ z0, k4 z0 = some rr → bw_At p l e rmX3_sumOf s m args below meth c (MQ below (bw_QI bw_shC 45 D kT ρ rr M) args s 0 0 (bw_A ρ 45)) bw_shC 45 D kT ρ 4 4 [(0, .ref (ρ x0)), (1, .ref (ρ x1)), (2, .int z0.1), (3, .int z0.2)] [] M) (h : fX3_sumOf_4 N x0 x1 n1 k4 x2 x3 M = some rr) : bw_At p l e rmX3_sumOf s m args below meth c (MQ below (bw_QI bw_shC 45 D kT ρ rr M) args s 0 0 (bw_A ρ 45)) bw_shC 45 D kT ρ 4 4 [(0, .ref (ρ x0)), (1, .ref (ρ x1)), (2, .int x2), (3, .int x3)] [] M := by
  unfold fX3_sumOf_4 at h
  refine bw_iload_n (pc := 4) C 3 dX3_sumOf_4 rfl rfl ?_
  refine bw_aload_n (pc := 5) C 0 dX3_sumOf_5 rfl rfl ?_
  refine bw_getI (pc := 6) (q := x0) (k0 := 0) C (ltC_T g0) (shC_T g0) rfl inX3 mw_47 (by decide) rfl dX3_sumOf_6 ?_
  refine bw_icmp_ge (pc := 9) C 30 dX3_sumOf_9 (by decide) h (fun h => ?_) (fun h => ?_)
  · refine bw_pick [0, 1, 2] rfl ?_
    exact tX3_sumOf_30 C N x0 x1 n1 g0 g1 i1 x2 M rr h
  · refine bw_iload_n (pc := 12) C 3 dX3_sumOf_12 rfl rfl ?_
    refine bw_aload_n (pc := 13) C 1 dX3_sumOf_13 rfl rfl ?_
    refine bw_alen (pc := 14) (q := x1) (v := (Int32.ofNat n1)) C g1 i1 (by decide) rfl dX3_sumOf_14 ?_
    refine bw_icmp_ge (pc := 15) C 30 dX3_sumOf_15 (by decide) h (fun h => ?_) (fun h => ?_)
    · refine bw_pick [0, 1, 2] rfl ?_
      exact tX3_sumOf_30 C N x0 x1 n1 g0 g1 i1 x2 M rr h
    · refine bw_iload_n (pc := 18) C 2 dX3_sumOf_18 rfl rfl ?_
      refine bw_aload_n (pc := 19) C 1 dX3_sumOf_19 rfl rfl ?_
      refine bw_iload_n (pc := 20) C 3 dX3_sumOf_20 rfl rfl ?_
      obtain ⟨qv3, v3, ev3, h⟩ := bw_rd_o h
      refine bw_iald (pc := 21) (q := x1) C g1 i1 qv3 ev3 dX3_sumOf_21 ?_
      refine bw_iadd (pc := 22) C dX3_sumOf_22 ?_
      obtain ⟨v4, ev4, h⟩ := bw_mv_o h
      refine bw_nmI ev4 ?_
      refine bw_istore_n (pc := 23) (L' := [(2, .int v4), (0, .ref (ρ x0)), (1, .ref (ρ x1)), (3, .int x3)]) C dX3_sumOf_23 rfl (by decide) rfl ?_
      obtain ⟨v5, ev5, h⟩ := bw_mv_o h
      refine bw_iinc (pc := 24) (x := v5) (L' := [(3, .int v5), (2, .int v4), (0, .ref (ρ x0)), (1, .ref (ρ x1))]) C 3 dX3_sumOf_24 rfl ev5.symm (by decide) rfl ?_
      refine bw_goto (pc := 27) C 4 dX3_sumOf_27 (by decide) ?_
      refine bw_pick [2, 3, 1, 0] rfl ?_
      exact hk4 (v4, v5) h
def flX3_sumOf_4 (N : Nat) (x0 : Nat) (x1 : Nat) (n1 : Nat)   (M : bw_M) (fu : Nat) (w : Int32 × Int32) : Option (Int32) := bw_lp (fun kk w => fX3_sumOf_4 N x0 x1 n1 kk w.1 w.2 M) fu w
theorem tlX3_sumOf_4 {p : Program} {l : Launch} {e : Env} {s : State} {m : MethodId} {args : Array Value} {below : List Frame} {meth : Method} {c : Code} {D : va_G} {kT : Nat → ClassId} {ρ : Nat → Nat} (C : bw_Cx p s m args meth c cX3_sumOf 4 RX3 45 D kT ρ (some .int)) (N : Nat) (x0 : Nat) (x1 : Nat) (n1 : Nat) (g0 : bw_isT x0) (g1 : x1 < 45) (i1 : bw_shC x1 = .inr (.inl (0, n1)))   (M : bw_M) (rr : Int32)  (fu : Nat) (w : Int32 × Int32) (h : flX3_sumOf_4 N x0 x1 n1 M fu w = some rr) : bw_At p l e rmX3_sumOf s m args below meth c (MQ below (bw_QI bw_shC 45 D kT ρ rr M) args s 0 0 (bw_A ρ 45)) bw_shC 45 D kT ρ 4 4 [(0, .ref (ρ x0)), (1, .ref (ρ x1)), (2, .int w.1), (3, .int w.2)] [] M :=
  bw_loop (r := rr) (fun w => bw_At p l e rmX3_sumOf s m args below meth c (MQ below (bw_QI bw_shC 45 D kT ρ rr M) args s 0 0 (bw_A ρ 45)) bw_shC 45 D kT ρ 4 4 [(0, .ref (ρ x0)), (1, .ref (ρ x1)), (2, .int w.1), (3, .int w.2)] [] M) (fun kk hk w h => tX3_sumOf_4 C N x0 x1 n1 g0 g1 i1 kk w.1 w.2 M rr hk h) fu w h
def fX3_sumOf (N : Nat) (x0 : Nat) (x1 : Nat) (n1 : Nat) (M : bw_M) : Option (Int32) :=
  bw_mv (0 : Int32) fun v1 =>
  bw_mv (0 : Int32) fun v2 =>
  flX3_sumOf_4 N x0 x1 n1 M N (v1, v2)
theorem tX3_sumOf (l : Launch) (N : Nat) (x0 : Nat) (x1 : Nat) (n1 : Nat) (g0 : bw_isT x0) (g1 : x1 < 45) (i1 : bw_shC x1 = .inr (.inl (0, n1))) (M : bw_M) (rr : Int32) (h : fX3_sumOf N x0 x1 n1 M = some rr) : bw_CI l bw_shC 45 yX3_sumOf cX3_sumOf 4 (some .int) rmX3_sumOf (fun ρ => [.ref (ρ x0), .ref (ρ x1)]) M rr M := by
  refine bw_inI (Lf := fun ρ => [(0, .ref (ρ x0)), (1, .ref (ρ x1))]) cX3_sumOf 4 (some .int) RX3 pn_X3 rfl (fun ρ => Nat.le_of_ble_eq_true rfl) (fun ρ => rfl) ?_
  intro p e s m args below meth c D kT ρ C
  unfold fX3_sumOf at h
  refine bw_iconst (pc := 0) (v := (0 : Int32)) C dX3_sumOf_0 ic_0 ?_
  obtain ⟨v1, ev1, h⟩ := bw_mv_o h
  refine bw_nmI ev1 ?_
  refine bw_istore_n (pc := 1) (L' := [(2, .int v1), (0, .ref (ρ x0)), (1, .ref (ρ x1))]) C dX3_sumOf_1 rfl (by decide) rfl ?_
  refine bw_iconst (pc := 2) (v := (0 : Int32)) C dX3_sumOf_2 ic_0 ?_
  obtain ⟨v2, ev2, h⟩ := bw_mv_o h
  refine bw_nmI ev2 ?_
  refine bw_istore_n (pc := 3) (L' := [(3, .int v2), (2, .int v1), (0, .ref (ρ x0)), (1, .ref (ρ x1))]) C dX3_sumOf_3 rfl (by decide) rfl ?_
  refine bw_pick [2, 3, 1, 0] rfl ?_
  exact tlX3_sumOf_4 C N x0 x1 n1 g0 g1 i1 M rr N (v1, v2) h
/-! X3_wantNext -/
abbrev rmX3_wantNext : Room := { frames := 1, cells := 0, slots := 0, locals := 22 }
theorem msX3_wantNext : bw_MV yX3_wantNext cX3_wantNext 2 (some .int) RX3 1 := ⟨mw_299, mw_300, mw_3, mw_301, by decide +kernel⟩
def fX3_wantNext (x0 : Nat) (x1 : Int32) (M : bw_M) : Option (Int32) :=
  bw_rd M (x0 + 1) 6 x1 fun v1 =>
  bw_rd M (x0 + 3) 6 x1 fun v2 =>
  bw_cl (fX1_want v1 v2 (M.1 x0 5)) fun v3 =>
  some v3
theorem tX3_wantNext (l : Launch) (x0 : Nat) (x1 : Int32) (g0 : bw_isT x0) (M : bw_M) (rr : Int32) (h : fX3_wantNext x0 x1 M = some rr) : bw_CI l bw_shC 45 yX3_wantNext cX3_wantNext 2 (some .int) rmX3_wantNext (fun ρ => [.ref (ρ x0), .int x1]) M rr M := by
  refine bw_inI (Lf := fun ρ => [(0, .ref (ρ x0)), (1, .int x1)]) cX3_wantNext 2 (some .int) RX3 pn_X3 rfl (fun ρ => Nat.le_of_ble_eq_true rfl) (fun ρ => rfl) ?_
  intro p e s m args below meth c D kT ρ C
  unfold fX3_wantNext at h
  refine bw_aload_n (pc := 0) C 0 dX3_wantNext_0 rfl rfl ?_
  refine bw_getR (pc := 1) (q := x0) (k0 := 8) C (ltC_T g0) (shC_T g0) rfl inX3 mw_62 (by decide) rfl dX3_wantNext_1 ?_
  refine bw_iload_n (pc := 4) C 1 dX3_wantNext_4 rfl rfl ?_
  obtain ⟨qv1, v1, ev1, h⟩ := bw_rd_o h
  refine bw_iald (pc := 5) (q := (x0 + 1)) C (ltC_T1 g0) (shC_T1 g0) qv1 ev1 dX3_wantNext_5 ?_
  refine bw_aload_n (pc := 6) C 0 dX3_wantNext_6 rfl rfl ?_
  refine bw_getR (pc := 7) (q := x0) (k0 := 10) C (ltC_T g0) (shC_T g0) rfl inX3 mw_66 (by decide) rfl dX3_wantNext_7 ?_
  refine bw_iload_n (pc := 10) C 1 dX3_wantNext_10 rfl rfl ?_
  obtain ⟨qv2, v2, ev2, h⟩ := bw_rd_o h
  refine bw_iald (pc := 11) (q := (x0 + 3)) C (ltC_T3 g0) (shC_T3 g0) qv2 ev2 dX3_wantNext_11 ?_
  refine bw_aload_n (pc := 12) C 0 dX3_wantNext_12 rfl rfl ?_
  refine bw_getI (pc := 13) (q := x0) (k0 := 5) C (ltC_T g0) (shC_T g0) rfl inX3 mw_56 (by decide) rfl dX3_wantNext_13 ?_
  obtain ⟨v3, ev3, h⟩ := bw_cl_o h
  refine bw_cSi (pc := 16) (As := [.int v1, .int v2, .int (M.1 x0 5)]) (rest := []) C (tX1_want l v1 v2 (M.1 x0 5) M v3 ev3) msX1_want mw_302 rfl rfl ⟨Nat.le_of_ble_eq_true rfl, Nat.le_of_ble_eq_true rfl⟩ rfl rfl rfl (Nat.le_of_ble_eq_true rfl) dX3_wantNext_16 ?_
  exact bw_ireti (pc := 19) C dX3_wantNext_19 (bw_pr M h)
/-! X3_wantTogether -/
abbrev rmX3_wantTogether : Room := { frames := 2, cells := 0, slots := 0, locals := 43 }
theorem msX3_wantTogether : bw_MV yX3_wantTogether cX3_wantTogether 4 (some .int) RX3 1 := ⟨mw_513, mw_514, mw_3, mw_515, by decide +kernel⟩
def fX3_wantTogether_30 (N : Nat) (x0 : Nat) (x1 : Int32) (k4 : Int32 × Int32 → Option (Int32)) (x3 : Int32) (s0 : Int32) (s1 : Int32) (M : bw_M) : Option (Int32) :=
  bw_mv (s0 + s1) fun v4 =>
  bw_mv (x3 + 1) fun v5 =>
  k4 (v4, v5)
theorem tX3_wantTogether_30 {p : Program} {l : Launch} {e : Env} {s : State} {m : MethodId} {args : Array Value} {below : List Frame} {meth : Method} {c : Code} {D : va_G} {kT : Nat → ClassId} {ρ : Nat → Nat} (C : bw_Cx p s m args meth c cX3_wantTogether 4 RX3 45 D kT ρ (some .int)) (N : Nat) (x0 : Nat) (x1 : Int32) (g0 : bw_isT x0) (k4 : Int32 × Int32 → Option (Int32)) (x3 : Int32) (s0 : Int32) (s1 : Int32) (M : bw_M) (rr : Int32) (hk4 : ∀ z0, k4 z0 = some rr → bw_At p l e rmX3_wantTogether s m args below meth c (MQ below (bw_QI bw_shC 45 D kT ρ rr M) args s 0 0 (bw_A ρ 45)) bw_shC 45 D kT ρ 4 4 [(0, .ref (ρ x0)), (1, .int x1), (2, .int z0.1), (3, .int z0.2)] [] M) (h : fX3_wantTogether_30 N x0 x1 k4 x3 s0 s1 M = some rr) : bw_At p l e rmX3_wantTogether s m args below meth c (MQ below (bw_QI bw_shC 45 D kT ρ rr M) args s 0 0 (bw_A ρ 45)) bw_shC 45 D kT ρ 4 30 [(0, .ref (ρ x0)), (1, .int x1), (3, .int x3)] [.int s1, .int s0] M := by
  unfold fX3_wantTogether_30 at h
  refine bw_iadd (pc := 30) C dX3_wantTogether_30 ?_
  obtain ⟨v4, ev4, h⟩ := bw_mv_o h
  refine bw_nmI ev4 ?_
  refine bw_istore_n (pc := 31) (L' := [(2, .int v4), (0, .ref (ρ x0)), (1, .int x1), (3, .int x3)]) C dX3_wantTogether_31 rfl (by decide) rfl ?_
  obtain ⟨v5, ev5, h⟩ := bw_mv_o h
  refine bw_iinc (pc := 32) (x := v5) (L' := [(3, .int v5), (2, .int v4), (0, .ref (ρ x0)), (1, .int x1)]) C 3 dX3_wantTogether_32 rfl ev5.symm (by decide) rfl ?_
  refine bw_goto (pc := 35) C 4 dX3_wantTogether_35 (by decide) ?_
  refine bw_pick [2, 3, 1, 0] rfl ?_
  exact hk4 (v4, v5) h
def fX3_wantTogether_4 (N : Nat) (x0 : Nat) (x1 : Int32) (k4 : Int32 × Int32 → Option (Int32)) (x2 : Int32) (x3 : Int32) (M : bw_M) : Option (Int32) :=
  if (M.1 x0 0) ≤ x3 then
  some x2
  else
  bw_cl (fX3_isIn x1 x3) fun v3 =>
  if v3 = 0 then
  fX3_wantTogether_30 N x0 x1 k4 x3 x2 (0 : Int32) M
  else
  bw_cl (fX3_wantNext x0 x3 M) fun v6 =>
  fX3_wantTogether_30 N x0 x1 k4 x3 x2 v6 M
theorem tX3_wantTogether_4 {p : Program} {l : Launch} {e : Env} {s : State} {m : MethodId} {args : Array Value} {below : List Frame} {meth : Method} {c : Code} {D : va_G} {kT : Nat → ClassId} {ρ : Nat → Nat} (C : bw_Cx p s m args meth c cX3_wantTogether 4 RX3 45 D kT ρ (some .int)) (N : Nat) (x0 : Nat) (x1 : Int32) (g0 : bw_isT x0) (k4 : Int32 × Int32 → Option (Int32)) (x2 : Int32) (x3 : Int32) (M : bw_M) (rr : Int32) (hk4 : ∀ z0, k4 z0 = some rr → bw_At p l e rmX3_wantTogether s m args below meth c (MQ below (bw_QI bw_shC 45 D kT ρ rr M) args s 0 0 (bw_A ρ 45)) bw_shC 45 D kT ρ 4 4 [(0, .ref (ρ x0)), (1, .int x1), (2, .int z0.1), (3, .int z0.2)] [] M) (h : fX3_wantTogether_4 N x0 x1 k4 x2 x3 M = some rr) : bw_At p l e rmX3_wantTogether s m args below meth c (MQ below (bw_QI bw_shC 45 D kT ρ rr M) args s 0 0 (bw_A ρ 45)) bw_shC 45 D kT ρ 4 4 [(0, .ref (ρ x0)), (1, .int x1), (2, .int x2), (3, .int x3)] [] M := by
  unfold fX3_wantTogether_4 at h
  refine bw_iload_n (pc := 4) C 3 dX3_wantTogether_4 rfl rfl ?_
  refine bw_aload_n (pc := 5) C 0 dX3_wantTogether_5 rfl rfl ?_
  refine bw_getI (pc := 6) (q := x0) (k0 := 0) C (ltC_T g0) (shC_T g0) rfl inX3 mw_47 (by decide) rfl dX3_wantTogether_6 ?_
  refine bw_icmp_ge (pc := 9) C 38 dX3_wantTogether_9 (by decide) h (fun h => ?_) (fun h => ?_)
  · refine bw_iload_n (pc := 38) C 2 dX3_wantTogether_38 rfl rfl ?_
    exact bw_ireti (pc := 39) C dX3_wantTogether_39 (bw_pr M h)
  · refine bw_iload_n (pc := 12) C 2 dX3_wantTogether_12 rfl rfl ?_
    refine bw_iload_n (pc := 13) C 1 dX3_wantTogether_13 rfl rfl ?_
    refine bw_iload_n (pc := 14) C 3 dX3_wantTogether_14 rfl rfl ?_
    obtain ⟨v3, ev3, h⟩ := bw_cl_o h
    refine bw_cSi (pc := 15) (As := [.int x1, .int x3]) (rest := [.int x2]) C (tX3_isIn l x1 x3 M v3 ev3) msX3_isIn mw_309 rfl rfl ⟨Nat.le_of_ble_eq_true rfl, Nat.le_of_ble_eq_true rfl⟩ rfl rfl rfl (Nat.le_of_ble_eq_true rfl) dX3_wantTogether_15 ?_
    refine bw_if_eq (pc := 18) C 29 dX3_wantTogether_18 (by decide) h (fun h => ?_) (fun h => ?_)
    · refine bw_iconst (pc := 29) (v := (0 : Int32)) C dX3_wantTogether_29 ic_0 ?_
      refine bw_pick [0, 1, 3] rfl ?_
      exact tX3_wantTogether_30 C N x0 x1 g0 k4 x3 x2 (0 : Int32) M rr hk4 h
    · refine bw_aload_n (pc := 21) C 0 dX3_wantTogether_21 rfl rfl ?_
      refine bw_iload_n (pc := 22) C 3 dX3_wantTogether_22 rfl rfl ?_
      obtain ⟨v6, ev6, h⟩ := bw_cl_o h
      refine bw_cVi (pc := 23) (q := x0) (As := [.int x3]) (rest := [.int x2]) C (tX3_wantNext l x0 x3 g0 M v6 ev6) msX3_wantNext mw_516 rfl rfl ⟨Nat.le_of_ble_eq_true rfl, Nat.le_of_ble_eq_true rfl⟩ (ltC_T g0) (shC_T g0) rfl rfl rfl rfl (Nat.le_of_ble_eq_true rfl) dX3_wantTogether_23 ?_
      refine bw_goto (pc := 26) C 30 dX3_wantTogether_26 (by decide) ?_
      refine bw_pick [0, 1, 3] rfl ?_
      exact tX3_wantTogether_30 C N x0 x1 g0 k4 x3 x2 v6 M rr hk4 h
def flX3_wantTogether_4 (N : Nat) (x0 : Nat) (x1 : Int32)   (M : bw_M) (fu : Nat) (w : Int32 × Int32) : Option (Int32) := bw_lp (fun kk w => fX3_wantTogether_4 N x0 x1 kk w.1 w.2 M) fu w
theorem tlX3_wantTogether_4 {p : Program} {l : Launch} {e : Env} {s : State} {m : MethodId} {args : Array Value} {below : List Frame} {meth : Method} {c : Code} {D : va_G} {kT : Nat → ClassId} {ρ : Nat → Nat} (C : bw_Cx p s m args meth c cX3_wantTogether 4 RX3 45 D kT ρ (some .int)) (N : Nat) (x0 : Nat) (x1 : Int32) (g0 : bw_isT x0)   (M : bw_M) (rr : Int32)  (fu : Nat) (w : Int32 × Int32) (h : flX3_wantTogether_4 N x0 x1 M fu w = some rr) : bw_At p l e rmX3_wantTogether s m args below meth c (MQ below (bw_QI bw_shC 45 D kT ρ rr M) args s 0 0 (bw_A ρ 45)) bw_shC 45 D kT ρ 4 4 [(0, .ref (ρ x0)), (1, .int x1), (2, .int w.1), (3, .int w.2)] [] M :=
  bw_loop (r := rr) (fun w => bw_At p l e rmX3_wantTogether s m args below meth c (MQ below (bw_QI bw_shC 45 D kT ρ rr M) args s 0 0 (bw_A ρ 45)) bw_shC 45 D kT ρ 4 4 [(0, .ref (ρ x0)), (1, .int x1), (2, .int w.1), (3, .int w.2)] [] M) (fun kk hk w h => tX3_wantTogether_4 C N x0 x1 g0 kk w.1 w.2 M rr hk h) fu w h
def fX3_wantTogether (N : Nat) (x0 : Nat) (x1 : Int32) (M : bw_M) : Option (Int32) :=
  bw_mv (0 : Int32) fun v1 =>
  bw_mv (0 : Int32) fun v2 =>
  flX3_wantTogether_4 N x0 x1 M N (v1, v2)
theorem tX3_wantTogether (l : Launch) (N : Nat) (x0 : Nat) (x1 : Int32) (g0 : bw_isT x0) (M : bw_M) (rr : Int32) (h : fX3_wantTogether N x0 x1 M = some rr) : bw_CI l bw_shC 45 yX3_wantTogether cX3_wantTogether 4 (some .int) rmX3_wantTogether (fun ρ => [.ref (ρ x0), .int x1]) M rr M := by
  refine bw_inI (Lf := fun ρ => [(0, .ref (ρ x0)), (1, .int x1)]) cX3_wantTogether 4 (some .int) RX3 pn_X3 rfl (fun ρ => Nat.le_of_ble_eq_true rfl) (fun ρ => rfl) ?_
  intro p e s m args below meth c D kT ρ C
  unfold fX3_wantTogether at h
  refine bw_iconst (pc := 0) (v := (0 : Int32)) C dX3_wantTogether_0 ic_0 ?_
  obtain ⟨v1, ev1, h⟩ := bw_mv_o h
  refine bw_nmI ev1 ?_
  refine bw_istore_n (pc := 1) (L' := [(2, .int v1), (0, .ref (ρ x0)), (1, .int x1)]) C dX3_wantTogether_1 rfl (by decide) rfl ?_
  refine bw_iconst (pc := 2) (v := (0 : Int32)) C dX3_wantTogether_2 ic_0 ?_
  obtain ⟨v2, ev2, h⟩ := bw_mv_o h
  refine bw_nmI ev2 ?_
  refine bw_istore_n (pc := 3) (L' := [(3, .int v2), (2, .int v1), (0, .ref (ρ x0)), (1, .int x1)]) C dX3_wantTogether_3 rfl (by decide) rfl ?_
  refine bw_pick [2, 3, 1, 0] rfl ?_
  exact tlX3_wantTogether_4 C N x0 x1 g0 M rr N (v1, v2) h
