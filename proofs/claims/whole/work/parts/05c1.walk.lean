/-! X4_first -/
abbrev rmX4_first : Room := { frames := 4, cells := 0, slots := 0, locals := 88 }
theorem msX4_first : bw_MV yX4_first cX4_first 3 (some .int) RX4 1 := ⟨mw_423, mw_424, mw_1, mw_425, by decide +kernel⟩
def fX4_first_26 (N : Nat) (x1 : Int32) (k26 : Int32 × bw_M → Option (Int32 × bw_M)) (x2 : Int32) (M : bw_M) : Option (Int32 × bw_M) :=
  if (40 : Int32) < x2 then
  some ((-9 : Int32), M)
  else
  bw_c2 (fX3_blow N 22 M) fun v4 M5 =>
  bw_cl (fX3_isIn v4 x1) fun v6 =>
  if v6 = 0 then
  bw_mv (x2 + 1) fun v7 =>
  k26 (v7, M5)
  else
  some (x2, M5)
theorem tX4_first_26 {p : Program} {l : Launch} {e : Env} {s : State} {m : MethodId} {args : Array Value} {below : List Frame} {meth : Method} {c : Code} {D : va_G} {kT : Nat → ClassId} {ρ : Nat → Nat} (C : bw_Cx p s m args meth c cX4_first 3 RX4 45 D kT ρ (some .int)) (N : Nat) (x1 : Int32)  (k26 : Int32 × bw_M → Option (Int32 × bw_M)) (x2 : Int32) (M : bw_M) (rr : Int32) (zz : bw_M) (hk26 : ∀ z0, k26 z0 = some (rr, zz) → bw_At p l e rmX4_first s m args below meth c (MQ below (bw_QI bw_shC 45 D kT ρ rr zz) args s 0 0 (bw_A ρ 45)) bw_shC 45 D kT ρ 3 26 [(0, .ref (ρ 0)), (1, .int x1), (2, .int z0.1)] [] z0.2) (h : fX4_first_26 N x1 k26 x2 M = some (rr, zz)) : bw_At p l e rmX4_first s m args below meth c (MQ below (bw_QI bw_shC 45 D kT ρ rr zz) args s 0 0 (bw_A ρ 45)) bw_shC 45 D kT ρ 3 26 [(0, .ref (ρ 0)), (1, .int x1), (2, .int x2)] [] M := by
  unfold fX4_first_26 at h
  refine bw_iload_n (pc := 26) C 2 dX4_first_26 rfl rfl ?_
  refine bw_bipush (pc := 27) (v := (40 : Int32)) C dX4_first_27 bi_40 ?_
  refine bw_icmp_gt (pc := 29) C 54 dX4_first_29 (by decide) h (fun h => ?_) (fun h => ?_)
  · refine bw_bipush (pc := 54) (v := (-9 : Int32)) C dX4_first_54 bi_m9 ?_
    exact bw_ireti (pc := 56) C dX4_first_56 h
  · refine bw_aload_n (pc := 32) C 0 dX4_first_32 rfl rfl ?_
    refine bw_getR (pc := 33) (q := 0) (k0 := 6) C ltC_0 shC_0 rfl inX4 mw_129 (by decide) rfl dX4_first_33 ?_
    obtain ⟨v4, M5, ev4, h⟩ := bw_c2_o h
    refine bw_cVi (pc := 36) (q := 22) (As := []) (rest := []) C (tX3_blow l N 22 isT_22 M v4 M5 ev4) msX3_blow mw_417 rfl rfl ⟨Nat.le_of_ble_eq_true rfl, Nat.le_of_ble_eq_true rfl⟩ ltC_22 shC_22 rfl rfl rfl rfl (Nat.le_of_ble_eq_true rfl) dX4_first_36 ?_
    refine bw_iload_n (pc := 39) C 1 dX4_first_39 rfl rfl ?_
    obtain ⟨v6, ev6, h⟩ := bw_cl_o h
    refine bw_cSi (pc := 40) (As := [.int v4, .int x1]) (rest := []) C (tX3_isIn l v4 x1 M5 v6 ev6) msX3_isIn mw_312 rfl rfl ⟨Nat.le_of_ble_eq_true rfl, Nat.le_of_ble_eq_true rfl⟩ rfl rfl rfl (Nat.le_of_ble_eq_true rfl) dX4_first_40 ?_
    refine bw_if_eq (pc := 43) C 48 dX4_first_43 (by decide) h (fun h => ?_) (fun h => ?_)
    · obtain ⟨v7, ev7, h⟩ := bw_mv_o h
      refine bw_iinc (pc := 48) (x := v7) (L' := [(2, .int v7), (0, .ref (ρ 0)), (1, .int x1)]) C 2 dX4_first_48 rfl ev7.symm (by decide) rfl ?_
      refine bw_goto (pc := 51) C 26 dX4_first_51 (by decide) ?_
      refine bw_pick [1, 2, 0] rfl ?_
      exact hk26 (v7, M5) h
    · refine bw_iload_n (pc := 46) C 2 dX4_first_46 rfl rfl ?_
      exact bw_ireti (pc := 47) C dX4_first_47 h
def flX4_first_26 (N : Nat) (x1 : Int32)    (fu : Nat) (w : Int32 × bw_M) : Option (Int32 × bw_M) := bw_lp (fun kk w => fX4_first_26 N x1 kk w.1 w.2) fu w
theorem tlX4_first_26 {p : Program} {l : Launch} {e : Env} {s : State} {m : MethodId} {args : Array Value} {below : List Frame} {meth : Method} {c : Code} {D : va_G} {kT : Nat → ClassId} {ρ : Nat → Nat} (C : bw_Cx p s m args meth c cX4_first 3 RX4 45 D kT ρ (some .int)) (N : Nat) (x1 : Int32)     (rr : Int32) (zz : bw_M)  (fu : Nat) (w : Int32 × bw_M) (h : flX4_first_26 N x1 fu w = some (rr, zz)) : bw_At p l e rmX4_first s m args below meth c (MQ below (bw_QI bw_shC 45 D kT ρ rr zz) args s 0 0 (bw_A ρ 45)) bw_shC 45 D kT ρ 3 26 [(0, .ref (ρ 0)), (1, .int x1), (2, .int w.1)] [] w.2 :=
  bw_loop (r := (rr, zz)) (fun w => bw_At p l e rmX4_first s m args below meth c (MQ below (bw_QI bw_shC 45 D kT ρ rr zz) args s 0 0 (bw_A ρ 45)) bw_shC 45 D kT ρ 3 26 [(0, .ref (ρ 0)), (1, .int x1), (2, .int w.1)] [] w.2) (fun kk hk w h => tX4_first_26 C N x1 kk w.1 w.2 rr zz hk h) fu w h
def fX4_first (N : Nat) (x1 : Int32) (M : bw_M) : Option (Int32 × bw_M) :=
  bw_cl (fX3_hasPipe 16 x1 M) fun v1 =>
  if v1 = 0 then
  some ((-1 : Int32), M)
  else
  bw_cl (fX3_become N 22 16 M) fun M2 =>
  bw_mv (1 : Int32) fun v3 =>
  flX4_first_26 N x1 N (v3, M2)
theorem tX4_first (l : Launch) (N : Nat) (x1 : Int32)  (M : bw_M) (rr : Int32) (zz : bw_M) (h : fX4_first N x1 M = some (rr, zz)) : bw_CI l bw_shC 45 yX4_first cX4_first 3 (some .int) rmX4_first (fun ρ => [.ref (ρ 0), .int x1]) M rr zz := by
  refine bw_inI (Lf := fun ρ => [(0, .ref (ρ 0)), (1, .int x1)]) cX4_first 3 (some .int) RX4 pn_X4 rfl (fun ρ => Nat.le_of_ble_eq_true rfl) (fun ρ => rfl) ?_
  intro p e s m args below meth c D kT ρ C
  unfold fX4_first at h
  refine bw_aload_n (pc := 0) C 0 dX4_first_0 rfl rfl ?_
  refine bw_getR (pc := 1) (q := 0) (k0 := 5) C ltC_0 shC_0 rfl inX4 mw_128 (by decide) rfl dX4_first_1 ?_
  refine bw_iload_n (pc := 4) C 1 dX4_first_4 rfl rfl ?_
  obtain ⟨v1, ev1, h⟩ := bw_cl_o h
  refine bw_cVi (pc := 5) (q := 16) (As := [.int x1]) (rest := []) C (tX3_hasPipe l 16 x1 isT_16 M v1 ev1) msX3_hasPipe mw_290 rfl rfl ⟨Nat.le_of_ble_eq_true rfl, Nat.le_of_ble_eq_true rfl⟩ ltC_16 shC_16 rfl rfl rfl rfl (Nat.le_of_ble_eq_true rfl) dX4_first_5 ?_
  refine bw_if_ne (pc := 8) C 13 dX4_first_8 (by decide) h (fun h => ?_) (fun h => ?_)
  · refine bw_aload_n (pc := 13) C 0 dX4_first_13 rfl rfl ?_
    refine bw_getR (pc := 14) (q := 0) (k0 := 6) C ltC_0 shC_0 rfl inX4 mw_129 (by decide) rfl dX4_first_14 ?_
    refine bw_aload_n (pc := 17) C 0 dX4_first_17 rfl rfl ?_
    refine bw_getR (pc := 18) (q := 0) (k0 := 5) C ltC_0 shC_0 rfl inX4 mw_128 (by decide) rfl dX4_first_18 ?_
    obtain ⟨M2, eM2, h⟩ := bw_cl_o h
    refine bw_cVv (pc := 21) (q := 22) (As := [.ref (ρ 16)]) (rest := []) C (tX3_become l N 22 16 isT_22 isT_16 M M2 eM2) msX3_become mw_282 rfl rfl ⟨Nat.le_of_ble_eq_true rfl, Nat.le_of_ble_eq_true rfl⟩ ltC_22 shC_22 rfl rfl rfl rfl (Nat.le_of_ble_eq_true rfl) dX4_first_21 ?_
    refine bw_iconst (pc := 24) (v := (1 : Int32)) C dX4_first_24 ic_1 ?_
    obtain ⟨v3, ev3, h⟩ := bw_mv_o h
    refine bw_nmI ev3 ?_
    refine bw_istore_n (pc := 25) (L' := [(2, .int v3), (0, .ref (ρ 0)), (1, .int x1)]) C dX4_first_25 rfl (by decide) rfl ?_
    refine bw_pick [1, 2, 0] rfl ?_
    exact tlX4_first_26 C N x1 rr zz N (v3, M2) h
  · refine bw_iconst (pc := 11) (v := (-1 : Int32)) C dX4_first_11 ic_m1 ?_
    exact bw_ireti (pc := 12) C dX4_first_12 h
/-! X4_greaterPart -/
abbrev rmX4_greaterPart : Room := { frames := 1, cells := 0, slots := 0, locals := 21 }
theorem msX4_greaterPart : bw_MV yX4_greaterPart cX4_greaterPart 3 (some .int) RX4 2 := ⟨mw_494, mw_1086, mw_1, mw_495, by decide +kernel⟩
def fX4_greaterPart (x1 : Int32) (x2 : Int32) (M : bw_M) : Option (Int32) :=
  bw_rd M 41 6 x1 fun v1 =>
  bw_rd M 41 6 x1 fun v2 =>
  some (if v1 < (x2 - v2) then (x2 - v2) else v1)
theorem tX4_greaterPart (l : Launch) (x1 : Int32) (x2 : Int32)  (M : bw_M) (rr : Int32) (h : fX4_greaterPart x1 x2 M = some rr) : bw_CI l bw_shC 45 yX4_greaterPart cX4_greaterPart 3 (some .int) rmX4_greaterPart (fun ρ => [.ref (ρ 0), .int x1, .int x2]) M rr M := by
  refine bw_inI (Lf := fun ρ => [(0, .ref (ρ 0)), (1, .int x1), (2, .int x2)]) cX4_greaterPart 3 (some .int) RX4 pn_X4 rfl (fun ρ => Nat.le_of_ble_eq_true rfl) (fun ρ => rfl) ?_
  intro p e s m args below meth c D kT ρ C
  unfold fX4_greaterPart at h
  refine bw_aload_n (pc := 0) C 0 dX4_greaterPart_0 rfl rfl ?_
  refine bw_getR (pc := 1) (q := 0) (k0 := 9) C ltC_0 shC_0 rfl inX4 mw_132 (by decide) rfl dX4_greaterPart_1 ?_
  refine bw_iload_n (pc := 4) C 1 dX4_greaterPart_4 rfl rfl ?_
  obtain ⟨qv1, v1, ev1, h⟩ := bw_rd_o h
  refine bw_iald (pc := 5) (q := 41) C ltC_41 shC_41 qv1 ev1 dX4_greaterPart_5 ?_
  refine bw_iload_n (pc := 6) C 2 dX4_greaterPart_6 rfl rfl ?_
  refine bw_aload_n (pc := 7) C 0 dX4_greaterPart_7 rfl rfl ?_
  refine bw_getR (pc := 8) (q := 0) (k0 := 9) C ltC_0 shC_0 rfl inX4 mw_132 (by decide) rfl dX4_greaterPart_8 ?_
  refine bw_iload_n (pc := 11) C 1 dX4_greaterPart_11 rfl rfl ?_
  obtain ⟨qv2, v2, ev2, h⟩ := bw_rd_o h
  refine bw_iald (pc := 12) (q := 41) C ltC_41 shC_41 qv2 ev2 dX4_greaterPart_12 ?_
  refine bw_isub (pc := 13) C dX4_greaterPart_13 ?_
  refine bw_mmax (pc := 14) C mw_320 mw_321 mw_9 mw_322 (Nat.le_of_ble_eq_true rfl) (Nat.le_of_ble_eq_true rfl) dX4_greaterPart_14 ?_
  exact bw_ireti (pc := 17) C dX4_greaterPart_17 (bw_pr M h)
/-! X4_greatestDivisor -/
abbrev rmX4_greatestDivisor : Room := { frames := 0, cells := 0, slots := 0, locals := 0 }
theorem msX4_greatestDivisor : bw_MS yX4_greatestDivisor cX4_greatestDivisor 11 (some .long) 2 := ⟨mw_482, mw_1, mw_483, by decide +kernel⟩
def fX4_greatestDivisor_45 (N : Nat) (x0 : Int64) (x2 : Int64)  (x4 : Int64)  : Option (Int64) :=
  some x4
theorem tX4_greatestDivisor_45 {p : Program} {l : Launch} {e : Env} {s : State} {m : MethodId} {args : Array Value} {below : List Frame} {meth : Method} {c : Code} {D : va_G} {kT : Nat → ClassId} {ρ : Nat → Nat} (C : bw_Cx p s m args meth c cX4_greatestDivisor 11 RX4 45 D kT ρ (some .long)) (N : Nat) (x0 : Int64) (x2 : Int64)   (x4 : Int64) (M : bw_M) (rr : Int64)  (h : fX4_greatestDivisor_45 N x0 x2 x4 = some rr) : bw_At p l e rmX4_greatestDivisor s m args below meth c (MQ below (bw_QL bw_shC 45 D kT ρ rr M) args s 0 0 (bw_A ρ 45)) bw_shC 45 D kT ρ 11 45 [(0, .long x0), (2, .long x2), (4, .long x4)] [] M := by
  unfold fX4_greatestDivisor_45 at h
  refine bw_lload (pc := 45) C 2 dX4_greatestDivisor_45 rfl ?_
  exact bw_lreti (pc := 47) C dX4_greatestDivisor_47 (bw_pr M h)
def fX4_greatestDivisor_9 (N : Nat) (x0 : Int64) (x2 : Int64) (k9 : Int64 × Int64 × Int32 → Option (Int64)) (x4 : Int64) (x6 : Int64) (x8 : Int32)  : Option (Int64) :=
  if (1000 : Int32) ≤ x8 then
  fX4_greatestDivisor_45 N x0 x2 x4
  else
  if (lg_cmp x6 (0 : Int64)) = 0 then
  fX4_greatestDivisor_45 N x0 x2 x4
  else
  bw_ck (decide (¬ x6 = 0)) (
  bw_mv (x4 - x4 / x6 * x6) fun v3 =>
  bw_mv (x8 + 1) fun v4 =>
  k9 (x6, v3, v4))
theorem tX4_greatestDivisor_9 {p : Program} {l : Launch} {e : Env} {s : State} {m : MethodId} {args : Array Value} {below : List Frame} {meth : Method} {c : Code} {D : va_G} {kT : Nat → ClassId} {ρ : Nat → Nat} (C : bw_Cx p s m args meth c cX4_greatestDivisor 11 RX4 45 D kT ρ (some .long)) (N : Nat) (x0 : Int64) (x2 : Int64)  (k9 : Int64 × Int64 × Int32 → Option (Int64)) (x4 : Int64) (x6 : Int64) (x8 : Int32) (M : bw_M) (rr : Int64) (hk9 : ∀ z0, k9 z0 = some rr → bw_At p l e rmX4_greatestDivisor s m args below meth c (MQ below (bw_QL bw_shC 45 D kT ρ rr M) args s 0 0 (bw_A ρ 45)) bw_shC 45 D kT ρ 11 9 [(0, .long x0), (2, .long x2), (4, .long z0.1), (6, .long z0.2.1), (8, .int z0.2.2)] [] M) (h : fX4_greatestDivisor_9 N x0 x2 k9 x4 x6 x8 = some rr) : bw_At p l e rmX4_greatestDivisor s m args below meth c (MQ below (bw_QL bw_shC 45 D kT ρ rr M) args s 0 0 (bw_A ρ 45)) bw_shC 45 D kT ρ 11 9 [(0, .long x0), (2, .long x2), (4, .long x4), (6, .long x6), (8, .int x8)] [] M := by
  unfold fX4_greatestDivisor_9 at h
  refine bw_iload (pc := 9) C 4 dX4_greatestDivisor_9 rfl ?_
  refine bw_sipush (pc := 11) (v := (1000 : Int32)) C dX4_greatestDivisor_11 si_1000 ?_
  refine bw_icmp_ge (pc := 14) C 45 dX4_greatestDivisor_14 (by decide) h (fun h => ?_) (fun h => ?_)
  · refine bw_pick [0, 1, 2] rfl ?_
    exact tX4_greatestDivisor_45 C N x0 x2 x4 M rr h
  · refine bw_lload (pc := 17) C 3 dX4_greatestDivisor_17 rfl ?_
    refine bw_lconst (pc := 19) (v := (0 : Int64)) C dX4_greatestDivisor_19 rfl ?_
    refine bw_lcmp (pc := 20) C dX4_greatestDivisor_20 ?_
    refine bw_if_eq (pc := 21) C 45 dX4_greatestDivisor_21 (by decide) h (fun h => ?_) (fun h => ?_)
    · refine bw_pick [0, 1, 2] rfl ?_
      exact tX4_greatestDivisor_45 C N x0 x2 x4 M rr h
    · refine bw_lload (pc := 24) C 2 dX4_greatestDivisor_24 rfl ?_
      refine bw_lload (pc := 26) C 3 dX4_greatestDivisor_26 rfl ?_
      obtain ⟨q2, h⟩ := bw_ck_o h
      refine bw_lrem (pc := 28) C dX4_greatestDivisor_28 (of_decide_eq_true q2) ?_
      obtain ⟨v3, ev3, h⟩ := bw_mv_o h
      refine bw_nmL ev3 ?_
      refine bw_lstore (pc := 29) (L' := [(9, .long v3), (0, .long x0), (2, .long x2), (4, .long x4), (6, .long x6), (8, .int x8)]) C dX4_greatestDivisor_29 (by decide) rfl ?_
      refine bw_lload (pc := 31) C 4 dX4_greatestDivisor_31 rfl ?_
      refine bw_lstore (pc := 33) (L' := [(4, .long x6), (9, .long v3), (0, .long x0), (2, .long x2), (6, .long x6), (8, .int x8)]) C dX4_greatestDivisor_33 (by decide) rfl ?_
      refine bw_lload (pc := 35) C 1 dX4_greatestDivisor_35 rfl ?_
      refine bw_lstore (pc := 37) (L' := [(6, .long v3), (4, .long x6), (9, .long v3), (0, .long x0), (2, .long x2), (8, .int x8)]) C dX4_greatestDivisor_37 (by decide) rfl ?_
      obtain ⟨v4, ev4, h⟩ := bw_mv_o h
      refine bw_iinc (pc := 39) (x := v4) (L' := [(8, .int v4), (6, .long v3), (4, .long x6), (9, .long v3), (0, .long x0), (2, .long x2)]) C 5 dX4_greatestDivisor_39 rfl ev4.symm (by decide) rfl ?_
      refine bw_goto (pc := 42) C 9 dX4_greatestDivisor_42 (by decide) ?_
      refine bw_pick [4, 5, 2, 1, 0] rfl ?_
      exact hk9 (x6, v3, v4) h
def flX4_greatestDivisor_9 (N : Nat) (x0 : Int64) (x2 : Int64)    (fu : Nat) (w : Int64 × Int64 × Int32) : Option (Int64) := bw_lp (fun kk w => fX4_greatestDivisor_9 N x0 x2 kk w.1 w.2.1 w.2.2) fu w
theorem tlX4_greatestDivisor_9 {p : Program} {l : Launch} {e : Env} {s : State} {m : MethodId} {args : Array Value} {below : List Frame} {meth : Method} {c : Code} {D : va_G} {kT : Nat → ClassId} {ρ : Nat → Nat} (C : bw_Cx p s m args meth c cX4_greatestDivisor 11 RX4 45 D kT ρ (some .long)) (N : Nat) (x0 : Int64) (x2 : Int64)    (M : bw_M) (rr : Int64)  (fu : Nat) (w : Int64 × Int64 × Int32) (h : flX4_greatestDivisor_9 N x0 x2 fu w = some rr) : bw_At p l e rmX4_greatestDivisor s m args below meth c (MQ below (bw_QL bw_shC 45 D kT ρ rr M) args s 0 0 (bw_A ρ 45)) bw_shC 45 D kT ρ 11 9 [(0, .long x0), (2, .long x2), (4, .long w.1), (6, .long w.2.1), (8, .int w.2.2)] [] M :=
  bw_loop (r := rr) (fun w => bw_At p l e rmX4_greatestDivisor s m args below meth c (MQ below (bw_QL bw_shC 45 D kT ρ rr M) args s 0 0 (bw_A ρ 45)) bw_shC 45 D kT ρ 11 9 [(0, .long x0), (2, .long x2), (4, .long w.1), (6, .long w.2.1), (8, .int w.2.2)] [] M) (fun kk hk w h => tX4_greatestDivisor_9 C N x0 x2 kk w.1 w.2.1 w.2.2 M rr hk h) fu w h
def fX4_greatestDivisor (N : Nat) (x0 : Int64) (x2 : Int64)  : Option (Int64) :=
  bw_mv (0 : Int32) fun v1 =>
  flX4_greatestDivisor_9 N x0 x2 N (x0, x2, v1)
theorem tX4_greatestDivisor (l : Launch) (N : Nat) (x0 : Int64) (x2 : Int64)  (M : bw_M) (rr : Int64) (h : fX4_greatestDivisor N x0 x2 = some rr) : bw_CL l bw_shC 45 yX4_greatestDivisor cX4_greatestDivisor 11 (some .long) rmX4_greatestDivisor (fun ρ => [.long x0, .long x2]) M rr M := by
  refine bw_inL (Lf := fun ρ => [(0, .long x0), (2, .long x2)]) cX4_greatestDivisor 11 (some .long) RX4 pn_X4 rfl (fun ρ => Nat.le_of_ble_eq_true rfl) (fun ρ => rfl) ?_
  intro p e s m args below meth c D kT ρ C
  unfold fX4_greatestDivisor at h
  refine bw_lload_n (pc := 0) C 0 dX4_greatestDivisor_0 rfl rfl ?_
  refine bw_lstore (pc := 1) (L' := [(4, .long x0), (0, .long x0), (2, .long x2)]) C dX4_greatestDivisor_1 (by decide) rfl ?_
  refine bw_lload_n (pc := 3) C 2 dX4_greatestDivisor_3 rfl rfl ?_
  refine bw_lstore (pc := 4) (L' := [(6, .long x2), (4, .long x0), (0, .long x0), (2, .long x2)]) C dX4_greatestDivisor_4 (by decide) rfl ?_
  refine bw_iconst (pc := 6) (v := (0 : Int32)) C dX4_greatestDivisor_6 ic_0 ?_
  obtain ⟨v1, ev1, h⟩ := bw_mv_o h
  refine bw_nmI ev1 ?_
  refine bw_istore (pc := 7) (L' := [(8, .int v1), (6, .long x2), (4, .long x0), (0, .long x0), (2, .long x2)]) C dX4_greatestDivisor_7 (by decide) rfl ?_
  refine bw_pick [3, 4, 2, 1, 0] rfl ?_
  exact tlX4_greatestDivisor_9 C N x0 x2 M rr N (x0, x2, v1) h
/-! X4_speakAlways -/
abbrev rmX4_speakAlways : Room := { frames := 4, cells := 0, slots := 0, locals := 88 }
theorem msX4_speakAlways : bw_MV yX4_speakAlways cX4_speakAlways 6 (some .boolean) RX4 3 := ⟨mw_459, mw_1080, mw_1, mw_460, by decide +kernel⟩
def fX4_speakAlways_63 (N : Nat) (x1 : Int32) (x2 : Int32) (x3 : Int32)  (x4 : Int32) (M : bw_M) : Option (Int32 × bw_M) :=
  bw_ck (bw_isb x4) (some (x4, M))
theorem tX4_speakAlways_63 {p : Program} {l : Launch} {e : Env} {s : State} {m : MethodId} {args : Array Value} {below : List Frame} {meth : Method} {c : Code} {D : va_G} {kT : Nat → ClassId} {ρ : Nat → Nat} (C : bw_Cx p s m args meth c cX4_speakAlways 6 RX4 45 D kT ρ (some .boolean)) (N : Nat) (x1 : Int32) (x2 : Int32) (x3 : Int32)   (x4 : Int32) (M : bw_M) (rr : Int32) (zz : bw_M)  (h : fX4_speakAlways_63 N x1 x2 x3 x4 M = some (rr, zz)) : bw_At p l e rmX4_speakAlways s m args below meth c (MQ below (bw_QI bw_shC 45 D kT ρ rr zz) args s 0 0 (bw_A ρ 45)) bw_shC 45 D kT ρ 6 63 [(0, .ref (ρ 0)), (1, .int x1), (2, .int x2), (3, .int x3), (4, .int x4)] [] M := by
  unfold fX4_speakAlways_63 at h
  refine bw_iload (pc := 63) C 4 dX4_speakAlways_63 rfl ?_
  obtain ⟨q5, h⟩ := bw_ck_o h
  exact bw_iretz (pc := 65) C (nz_b q5) dX4_speakAlways_65 h
def fX4_speakAlways_55 (N : Nat) (x1 : Int32) (x2 : Int32) (x3 : Int32) (k25 : Int32 × Int32 × bw_M → Option (Int32 × bw_M)) (x5 : Int32) (s0 : Int32) (M : bw_M) : Option (Int32 × bw_M) :=
  bw_mv (x5 + 1) fun v8 =>
  k25 (s0, v8, M)
theorem tX4_speakAlways_55 {p : Program} {l : Launch} {e : Env} {s : State} {m : MethodId} {args : Array Value} {below : List Frame} {meth : Method} {c : Code} {D : va_G} {kT : Nat → ClassId} {ρ : Nat → Nat} (C : bw_Cx p s m args meth c cX4_speakAlways 6 RX4 45 D kT ρ (some .boolean)) (N : Nat) (x1 : Int32) (x2 : Int32) (x3 : Int32)  (k25 : Int32 × Int32 × bw_M → Option (Int32 × bw_M)) (x5 : Int32) (s0 : Int32) (M : bw_M) (rr : Int32) (zz : bw_M) (hk25 : ∀ z0, k25 z0 = some (rr, zz) → bw_At p l e rmX4_speakAlways s m args below meth c (MQ below (bw_QI bw_shC 45 D kT ρ rr zz) args s 0 0 (bw_A ρ 45)) bw_shC 45 D kT ρ 6 25 [(0, .ref (ρ 0)), (1, .int x1), (2, .int x2), (3, .int x3), (4, .int z0.1), (5, .int z0.2.1)] [] z0.2.2) (h : fX4_speakAlways_55 N x1 x2 x3 k25 x5 s0 M = some (rr, zz)) : bw_At p l e rmX4_speakAlways s m args below meth c (MQ below (bw_QI bw_shC 45 D kT ρ rr zz) args s 0 0 (bw_A ρ 45)) bw_shC 45 D kT ρ 6 55 [(0, .ref (ρ 0)), (1, .int x1), (2, .int x2), (3, .int x3), (5, .int x5)] [.int s0] M := by
  unfold fX4_speakAlways_55 at h
  refine bw_istore (pc := 55) (L' := [(4, .int s0), (0, .ref (ρ 0)), (1, .int x1), (2, .int x2), (3, .int x3), (5, .int x5)]) C dX4_speakAlways_55 (by decide) rfl ?_
  obtain ⟨v8, ev8, h⟩ := bw_mv_o h
  refine bw_iinc (pc := 57) (x := v8) (L' := [(5, .int v8), (4, .int s0), (0, .ref (ρ 0)), (1, .int x1), (2, .int x2), (3, .int x3)]) C 5 dX4_speakAlways_57 rfl ev8.symm (by decide) rfl ?_
  refine bw_goto (pc := 60) C 25 dX4_speakAlways_60 (by decide) ?_
  refine bw_pick [2, 3, 4, 5, 1, 0] rfl ?_
  exact hk25 (s0, v8, M) h
def fX4_speakAlways_25 (N : Nat) (x1 : Int32) (x2 : Int32) (x3 : Int32) (k25 : Int32 × Int32 × bw_M → Option (Int32 × bw_M)) (x4 : Int32) (x5 : Int32) (M : bw_M) : Option (Int32 × bw_M) :=
  if x4 = 0 then
  fX4_speakAlways_63 N x1 x2 x3 x4 M
  else
  if x2 ≤ x5 then
  fX4_speakAlways_63 N x1 x2 x3 x4 M
  else
  bw_c2 (fX3_blow N 22 M) fun v6 M7 =>
  if (x1 &&& (v6 ^^^ (-1 : Int32))) = 0 then
  fX4_speakAlways_55 N x1 x2 x3 k25 x5 (1 : Int32) M7
  else
  fX4_speakAlways_55 N x1 x2 x3 k25 x5 (0 : Int32) M7
theorem tX4_speakAlways_25 {p : Program} {l : Launch} {e : Env} {s : State} {m : MethodId} {args : Array Value} {below : List Frame} {meth : Method} {c : Code} {D : va_G} {kT : Nat → ClassId} {ρ : Nat → Nat} (C : bw_Cx p s m args meth c cX4_speakAlways 6 RX4 45 D kT ρ (some .boolean)) (N : Nat) (x1 : Int32) (x2 : Int32) (x3 : Int32)  (k25 : Int32 × Int32 × bw_M → Option (Int32 × bw_M)) (x4 : Int32) (x5 : Int32) (M : bw_M) (rr : Int32) (zz : bw_M) (hk25 : ∀ z0, k25 z0 = some (rr, zz) → bw_At p l e rmX4_speakAlways s m args below meth c (MQ below (bw_QI bw_shC 45 D kT ρ rr zz) args s 0 0 (bw_A ρ 45)) bw_shC 45 D kT ρ 6 25 [(0, .ref (ρ 0)), (1, .int x1), (2, .int x2), (3, .int x3), (4, .int z0.1), (5, .int z0.2.1)] [] z0.2.2) (h : fX4_speakAlways_25 N x1 x2 x3 k25 x4 x5 M = some (rr, zz)) : bw_At p l e rmX4_speakAlways s m args below meth c (MQ below (bw_QI bw_shC 45 D kT ρ rr zz) args s 0 0 (bw_A ρ 45)) bw_shC 45 D kT ρ 6 25 [(0, .ref (ρ 0)), (1, .int x1), (2, .int x2), (3, .int x3), (4, .int x4), (5, .int x5)] [] M := by
  unfold fX4_speakAlways_25 at h
  refine bw_iload (pc := 25) C 4 dX4_speakAlways_25 rfl ?_
  refine bw_if_eq (pc := 27) C 63 dX4_speakAlways_27 (by decide) h (fun h => ?_) (fun h => ?_)
  · refine bw_pick [0, 1, 2, 3, 4] rfl ?_
    exact tX4_speakAlways_63 C N x1 x2 x3 x4 M rr zz h
  · refine bw_iload (pc := 30) C 5 dX4_speakAlways_30 rfl ?_
    refine bw_iload_n (pc := 32) C 2 dX4_speakAlways_32 rfl rfl ?_
    refine bw_icmp_ge (pc := 33) C 63 dX4_speakAlways_33 (by decide) h (fun h => ?_) (fun h => ?_)
    · refine bw_pick [0, 1, 2, 3, 4] rfl ?_
      exact tX4_speakAlways_63 C N x1 x2 x3 x4 M rr zz h
    · refine bw_iload_n (pc := 36) C 1 dX4_speakAlways_36 rfl rfl ?_
      refine bw_aload_n (pc := 37) C 0 dX4_speakAlways_37 rfl rfl ?_
      refine bw_getR (pc := 38) (q := 0) (k0 := 6) C ltC_0 shC_0 rfl inX4 mw_129 (by decide) rfl dX4_speakAlways_38 ?_
      obtain ⟨v6, M7, ev6, h⟩ := bw_c2_o h
      refine bw_cVi (pc := 41) (q := 22) (As := []) (rest := [.int x1]) C (tX3_blow l N 22 isT_22 M v6 M7 ev6) msX3_blow mw_417 rfl rfl ⟨Nat.le_of_ble_eq_true rfl, Nat.le_of_ble_eq_true rfl⟩ ltC_22 shC_22 rfl rfl rfl rfl (Nat.le_of_ble_eq_true rfl) dX4_speakAlways_41 ?_
      refine bw_iconst (pc := 44) (v := (-1 : Int32)) C dX4_speakAlways_44 ic_m1 ?_
      refine bw_ixor (pc := 45) C dX4_speakAlways_45 ?_
      refine bw_iand (pc := 46) C dX4_speakAlways_46 ?_
      refine bw_if_ne (pc := 47) C 54 dX4_speakAlways_47 (by decide) h (fun h => ?_) (fun h => ?_)
      · refine bw_iconst (pc := 54) (v := (0 : Int32)) C dX4_speakAlways_54 ic_0 ?_
        refine bw_pick [0, 1, 2, 3, 5] rfl ?_
        exact tX4_speakAlways_55 C N x1 x2 x3 k25 x5 (0 : Int32) M7 rr zz hk25 h
      · refine bw_iconst (pc := 50) (v := (1 : Int32)) C dX4_speakAlways_50 ic_1 ?_
        refine bw_goto (pc := 51) C 55 dX4_speakAlways_51 (by decide) ?_
        refine bw_pick [0, 1, 2, 3, 5] rfl ?_
        exact tX4_speakAlways_55 C N x1 x2 x3 k25 x5 (1 : Int32) M7 rr zz hk25 h
def flX4_speakAlways_25 (N : Nat) (x1 : Int32) (x2 : Int32) (x3 : Int32)    (fu : Nat) (w : Int32 × Int32 × bw_M) : Option (Int32 × bw_M) := bw_lp (fun kk w => fX4_speakAlways_25 N x1 x2 x3 kk w.1 w.2.1 w.2.2) fu w
theorem tlX4_speakAlways_25 {p : Program} {l : Launch} {e : Env} {s : State} {m : MethodId} {args : Array Value} {below : List Frame} {meth : Method} {c : Code} {D : va_G} {kT : Nat → ClassId} {ρ : Nat → Nat} (C : bw_Cx p s m args meth c cX4_speakAlways 6 RX4 45 D kT ρ (some .boolean)) (N : Nat) (x1 : Int32) (x2 : Int32) (x3 : Int32)     (rr : Int32) (zz : bw_M)  (fu : Nat) (w : Int32 × Int32 × bw_M) (h : flX4_speakAlways_25 N x1 x2 x3 fu w = some (rr, zz)) : bw_At p l e rmX4_speakAlways s m args below meth c (MQ below (bw_QI bw_shC 45 D kT ρ rr zz) args s 0 0 (bw_A ρ 45)) bw_shC 45 D kT ρ 6 25 [(0, .ref (ρ 0)), (1, .int x1), (2, .int x2), (3, .int x3), (4, .int w.1), (5, .int w.2.1)] [] w.2.2 :=
  bw_loop (r := (rr, zz)) (fun w => bw_At p l e rmX4_speakAlways s m args below meth c (MQ below (bw_QI bw_shC 45 D kT ρ rr zz) args s 0 0 (bw_A ρ 45)) bw_shC 45 D kT ρ 6 25 [(0, .ref (ρ 0)), (1, .int x1), (2, .int x2), (3, .int x3), (4, .int w.1), (5, .int w.2.1)] [] w.2.2) (fun kk hk w h => tX4_speakAlways_25 C N x1 x2 x3 kk w.1 w.2.1 w.2.2 rr zz hk h) fu w h
def fX4_speakAlways (N : Nat) (x1 : Int32) (x2 : Int32) (x3 : Int32) (M : bw_M) : Option (Int32 × bw_M) :=
  bw_cl (fX3_become N 22 16 M) fun M1 =>
  bw_mv (bw_pI M1 22 4 x3) fun M2 =>
  bw_mv (1 : Int32) fun v3 =>
  bw_mv (0 : Int32) fun v4 =>
  flX4_speakAlways_25 N x1 x2 x3 N (v3, v4, M2)
theorem tX4_speakAlways (l : Launch) (N : Nat) (x1 : Int32) (x2 : Int32) (x3 : Int32)  (M : bw_M) (rr : Int32) (zz : bw_M) (h : fX4_speakAlways N x1 x2 x3 M = some (rr, zz)) : bw_CI l bw_shC 45 yX4_speakAlways cX4_speakAlways 6 (some .boolean) rmX4_speakAlways (fun ρ => [.ref (ρ 0), .int x1, .int x2, .int x3]) M rr zz := by
  refine bw_inI (Lf := fun ρ => [(0, .ref (ρ 0)), (1, .int x1), (2, .int x2), (3, .int x3)]) cX4_speakAlways 6 (some .boolean) RX4 pn_X4 rfl (fun ρ => Nat.le_of_ble_eq_true rfl) (fun ρ => rfl) ?_
  intro p e s m args below meth c D kT ρ C
  unfold fX4_speakAlways at h
  refine bw_aload_n (pc := 0) C 0 dX4_speakAlways_0 rfl rfl ?_
  refine bw_getR (pc := 1) (q := 0) (k0 := 6) C ltC_0 shC_0 rfl inX4 mw_129 (by decide) rfl dX4_speakAlways_1 ?_
  refine bw_aload_n (pc := 4) C 0 dX4_speakAlways_4 rfl rfl ?_
  refine bw_getR (pc := 5) (q := 0) (k0 := 5) C ltC_0 shC_0 rfl inX4 mw_128 (by decide) rfl dX4_speakAlways_5 ?_
  obtain ⟨M1, eM1, h⟩ := bw_cl_o h
  refine bw_cVv (pc := 8) (q := 22) (As := [.ref (ρ 16)]) (rest := []) C (tX3_become l N 22 16 isT_22 isT_16 M M1 eM1) msX3_become mw_282 rfl rfl ⟨Nat.le_of_ble_eq_true rfl, Nat.le_of_ble_eq_true rfl⟩ ltC_22 shC_22 rfl rfl rfl rfl (Nat.le_of_ble_eq_true rfl) dX4_speakAlways_8 ?_
  refine bw_aload_n (pc := 11) C 0 dX4_speakAlways_11 rfl rfl ?_
  refine bw_getR (pc := 12) (q := 0) (k0 := 6) C ltC_0 shC_0 rfl inX4 mw_129 (by decide) rfl dX4_speakAlways_12 ?_
  refine bw_iload_n (pc := 15) C 3 dX4_speakAlways_15 rfl rfl ?_
  obtain ⟨M2, eM2, h⟩ := bw_mv_o h
  refine bw_putI (pc := 16) (q := 22) (k0 := 4) C ltC_22 shC_22 rfl inX3 mw_55 (by decide) tyX3 tyX3_ok nmX3 rfl rfl rfl eM2 rfl rfl dX4_speakAlways_16 ?_
  refine bw_iconst (pc := 19) (v := (1 : Int32)) C dX4_speakAlways_19 ic_1 ?_
  obtain ⟨v3, ev3, h⟩ := bw_mv_o h
  refine bw_nmI ev3 ?_
  refine bw_istore (pc := 20) (L' := [(4, .int v3), (0, .ref (ρ 0)), (1, .int x1), (2, .int x2), (3, .int x3)]) C dX4_speakAlways_20 (by decide) rfl ?_
  refine bw_iconst (pc := 22) (v := (0 : Int32)) C dX4_speakAlways_22 ic_0 ?_
  obtain ⟨v4, ev4, h⟩ := bw_mv_o h
  refine bw_nmI ev4 ?_
  refine bw_istore (pc := 23) (L' := [(5, .int v4), (4, .int v3), (0, .ref (ρ 0)), (1, .int x1), (2, .int x2), (3, .int x3)]) C dX4_speakAlways_23 (by decide) rfl ?_
  refine bw_pick [2, 3, 4, 5, 1, 0] rfl ?_
  exact tlX4_speakAlways_25 C N x1 x2 x3 rr zz N (v3, v4, M2) h
/-! X4_hard -/
abbrev rmX4_hard : Room := { frames := 5, cells := 0, slots := 0, locals := 113 }
theorem msX4_hard : bw_MV yX4_hard cX4_hard 4 (some .int) RX4 2 := ⟨mw_449, mw_450, mw_1, mw_451, by decide +kernel⟩
def fX4_hard_22 (N : Nat) (x1 : Int32) (x2 : Int32)   (M : bw_M) : Option (Int32 × bw_M) :=
  some ((-1 : Int32), M)
theorem tX4_hard_22 {p : Program} {l : Launch} {e : Env} {s : State} {m : MethodId} {args : Array Value} {below : List Frame} {meth : Method} {c : Code} {D : va_G} {kT : Nat → ClassId} {ρ : Nat → Nat} (C : bw_Cx p s m args meth c cX4_hard 4 RX4 45 D kT ρ (some .int)) (N : Nat) (x1 : Int32) (x2 : Int32)    (M : bw_M) (rr : Int32) (zz : bw_M)  (h : fX4_hard_22 N x1 x2 M = some (rr, zz)) : bw_At p l e rmX4_hard s m args below meth c (MQ below (bw_QI bw_shC 45 D kT ρ rr zz) args s 0 0 (bw_A ρ 45)) bw_shC 45 D kT ρ 4 22 [(0, .ref (ρ 0)), (1, .int x1), (2, .int x2)] [] M := by
  unfold fX4_hard_22 at h
  refine bw_iconst (pc := 22) (v := (-1 : Int32)) C dX4_hard_22 ic_m1 ?_
  exact bw_ireti (pc := 23) C dX4_hard_23 h
def fX4_hard_39 (N : Nat) (x1 : Int32) (x2 : Int32) (k39 : Int32 × bw_M → Option (Int32 × bw_M)) (x3 : Int32) (M : bw_M) : Option (Int32 × bw_M) :=
  if (10 : Int32) ≤ x3 then
  some ((-9 : Int32), M)
  else
  bw_c2 (fX4_speakAlways N x1 x2 x3 M) fun v3 M4 =>
  if v3 = 0 then
  bw_mv (x3 + 1) fun v5 =>
  k39 (v5, M4)
  else
  some (x3, M4)
theorem tX4_hard_39 {p : Program} {l : Launch} {e : Env} {s : State} {m : MethodId} {args : Array Value} {below : List Frame} {meth : Method} {c : Code} {D : va_G} {kT : Nat → ClassId} {ρ : Nat → Nat} (C : bw_Cx p s m args meth c cX4_hard 4 RX4 45 D kT ρ (some .int)) (N : Nat) (x1 : Int32) (x2 : Int32)  (k39 : Int32 × bw_M → Option (Int32 × bw_M)) (x3 : Int32) (M : bw_M) (rr : Int32) (zz : bw_M) (hk39 : ∀ z0, k39 z0 = some (rr, zz) → bw_At p l e rmX4_hard s m args below meth c (MQ below (bw_QI bw_shC 45 D kT ρ rr zz) args s 0 0 (bw_A ρ 45)) bw_shC 45 D kT ρ 4 39 [(0, .ref (ρ 0)), (1, .int x1), (2, .int x2), (3, .int z0.1)] [] z0.2) (h : fX4_hard_39 N x1 x2 k39 x3 M = some (rr, zz)) : bw_At p l e rmX4_hard s m args below meth c (MQ below (bw_QI bw_shC 45 D kT ρ rr zz) args s 0 0 (bw_A ρ 45)) bw_shC 45 D kT ρ 4 39 [(0, .ref (ρ 0)), (1, .int x1), (2, .int x2), (3, .int x3)] [] M := by
  unfold fX4_hard_39 at h
  refine bw_iload_n (pc := 39) C 3 dX4_hard_39 rfl rfl ?_
  refine bw_bipush (pc := 40) (v := (10 : Int32)) C dX4_hard_40 bi_10 ?_
  refine bw_icmp_ge (pc := 42) C 63 dX4_hard_42 (by decide) h (fun h => ?_) (fun h => ?_)
  · refine bw_bipush (pc := 63) (v := (-9 : Int32)) C dX4_hard_63 bi_m9 ?_
    exact bw_ireti (pc := 65) C dX4_hard_65 h
  · refine bw_aload_n (pc := 45) C 0 dX4_hard_45 rfl rfl ?_
    refine bw_iload_n (pc := 46) C 1 dX4_hard_46 rfl rfl ?_
    refine bw_iload_n (pc := 47) C 2 dX4_hard_47 rfl rfl ?_
    refine bw_iload_n (pc := 48) C 3 dX4_hard_48 rfl rfl ?_
    obtain ⟨v3, M4, ev3, h⟩ := bw_c2_o h
    refine bw_cVi (pc := 49) (q := 0) (As := [.int x1, .int x2, .int x3]) (rest := []) C (tX4_speakAlways l N x1 x2 x3 M v3 M4 ev3) msX4_speakAlways mw_457 rfl rfl ⟨Nat.le_of_ble_eq_true rfl, Nat.le_of_ble_eq_true rfl⟩ ltC_0 shC_0 rfl rfl rfl rfl (Nat.le_of_ble_eq_true rfl) dX4_hard_49 ?_
    refine bw_if_eq (pc := 52) C 57 dX4_hard_52 (by decide) h (fun h => ?_) (fun h => ?_)
    · obtain ⟨v5, ev5, h⟩ := bw_mv_o h
      refine bw_iinc (pc := 57) (x := v5) (L' := [(3, .int v5), (0, .ref (ρ 0)), (1, .int x1), (2, .int x2)]) C 3 dX4_hard_57 rfl ev5.symm (by decide) rfl ?_
      refine bw_goto (pc := 60) C 39 dX4_hard_60 (by decide) ?_
      refine bw_pick [1, 2, 3, 0] rfl ?_
      exact hk39 (v5, M4) h
    · refine bw_iload_n (pc := 55) C 3 dX4_hard_55 rfl rfl ?_
      exact bw_ireti (pc := 56) C dX4_hard_56 h
def flX4_hard_39 (N : Nat) (x1 : Int32) (x2 : Int32)    (fu : Nat) (w : Int32 × bw_M) : Option (Int32 × bw_M) := bw_lp (fun kk w => fX4_hard_39 N x1 x2 kk w.1 w.2) fu w
theorem tlX4_hard_39 {p : Program} {l : Launch} {e : Env} {s : State} {m : MethodId} {args : Array Value} {below : List Frame} {meth : Method} {c : Code} {D : va_G} {kT : Nat → ClassId} {ρ : Nat → Nat} (C : bw_Cx p s m args meth c cX4_hard 4 RX4 45 D kT ρ (some .int)) (N : Nat) (x1 : Int32) (x2 : Int32)     (rr : Int32) (zz : bw_M)  (fu : Nat) (w : Int32 × bw_M) (h : flX4_hard_39 N x1 x2 fu w = some (rr, zz)) : bw_At p l e rmX4_hard s m args below meth c (MQ below (bw_QI bw_shC 45 D kT ρ rr zz) args s 0 0 (bw_A ρ 45)) bw_shC 45 D kT ρ 4 39 [(0, .ref (ρ 0)), (1, .int x1), (2, .int x2), (3, .int w.1)] [] w.2 :=
  bw_loop (r := (rr, zz)) (fun w => bw_At p l e rmX4_hard s m args below meth c (MQ below (bw_QI bw_shC 45 D kT ρ rr zz) args s 0 0 (bw_A ρ 45)) bw_shC 45 D kT ρ 4 39 [(0, .ref (ρ 0)), (1, .int x1), (2, .int x2), (3, .int w.1)] [] w.2) (fun kk hk w h => tX4_hard_39 C N x1 x2 kk w.1 w.2 rr zz hk h) fu w h
def fX4_hard (N : Nat) (x1 : Int32) (x2 : Int32) (M : bw_M) : Option (Int32 × bw_M) :=
  bw_cl (fX3_isSet 16 x1 M) fun v1 =>
  if v1 = 0 then
  fX4_hard_22 N x1 x2 M
  else
  if x2 < (1 : Int32) then
  fX4_hard_22 N x1 x2 M
  else
  if x2 ≤ (20 : Int32) then
  if (M.1 16 0) = 0 then
  some ((-4 : Int32), M)
  else
  bw_mv (0 : Int32) fun v2 =>
  flX4_hard_39 N x1 x2 N (v2, M)
  else
  fX4_hard_22 N x1 x2 M
theorem tX4_hard (l : Launch) (N : Nat) (x1 : Int32) (x2 : Int32)  (M : bw_M) (rr : Int32) (zz : bw_M) (h : fX4_hard N x1 x2 M = some (rr, zz)) : bw_CI l bw_shC 45 yX4_hard cX4_hard 4 (some .int) rmX4_hard (fun ρ => [.ref (ρ 0), .int x1, .int x2]) M rr zz := by
  refine bw_inI (Lf := fun ρ => [(0, .ref (ρ 0)), (1, .int x1), (2, .int x2)]) cX4_hard 4 (some .int) RX4 pn_X4 rfl (fun ρ => Nat.le_of_ble_eq_true rfl) (fun ρ => rfl) ?_
  intro p e s m args below meth c D kT ρ C
  unfold fX4_hard at h
  refine bw_aload_n (pc := 0) C 0 dX4_hard_0 rfl rfl ?_
  refine bw_getR (pc := 1) (q := 0) (k0 := 5) C ltC_0 shC_0 rfl inX4 mw_128 (by decide) rfl dX4_hard_1 ?_
  refine bw_iload_n (pc := 4) C 1 dX4_hard_4 rfl rfl ?_
  obtain ⟨v1, ev1, h⟩ := bw_cl_o h
  refine bw_cVi (pc := 5) (q := 16) (As := [.int x1]) (rest := []) C (tX3_isSet l 16 x1 isT_16 M v1 ev1) msX3_isSet mw_452 rfl rfl ⟨Nat.le_of_ble_eq_true rfl, Nat.le_of_ble_eq_true rfl⟩ ltC_16 shC_16 rfl rfl rfl rfl (Nat.le_of_ble_eq_true rfl) dX4_hard_5 ?_
  refine bw_if_eq (pc := 8) C 22 dX4_hard_8 (by decide) h (fun h => ?_) (fun h => ?_)
  · refine bw_pick [0, 1, 2] rfl ?_
    exact tX4_hard_22 C N x1 x2 M rr zz h
  · refine bw_iload_n (pc := 11) C 2 dX4_hard_11 rfl rfl ?_
    refine bw_iconst (pc := 12) (v := (1 : Int32)) C dX4_hard_12 ic_1 ?_
    refine bw_icmp_lt (pc := 13) C 22 dX4_hard_13 (by decide) h (fun h => ?_) (fun h => ?_)
    · refine bw_pick [0, 1, 2] rfl ?_
      exact tX4_hard_22 C N x1 x2 M rr zz h
    · refine bw_iload_n (pc := 16) C 2 dX4_hard_16 rfl rfl ?_
      refine bw_bipush (pc := 17) (v := (20 : Int32)) C dX4_hard_17 bi_20 ?_
      refine bw_icmp_le (pc := 19) C 24 dX4_hard_19 (by decide) h (fun h => ?_) (fun h => ?_)
      · refine bw_aload_n (pc := 24) C 0 dX4_hard_24 rfl rfl ?_
        refine bw_getR (pc := 25) (q := 0) (k0 := 5) C ltC_0 shC_0 rfl inX4 mw_128 (by decide) rfl dX4_hard_25 ?_
        refine bw_getI (pc := 28) (q := 16) (k0 := 0) C ltC_16 shC_16 rfl inX3 mw_49 (by decide) rfl dX4_hard_28 ?_
        refine bw_if_ne (pc := 31) C 37 dX4_hard_31 (by decide) h (fun h => ?_) (fun h => ?_)
        · refine bw_iconst (pc := 37) (v := (0 : Int32)) C dX4_hard_37 ic_0 ?_
          obtain ⟨v2, ev2, h⟩ := bw_mv_o h
          refine bw_nmI ev2 ?_
          refine bw_istore_n (pc := 38) (L' := [(3, .int v2), (0, .ref (ρ 0)), (1, .int x1), (2, .int x2)]) C dX4_hard_38 rfl (by decide) rfl ?_
          refine bw_pick [1, 2, 3, 0] rfl ?_
          exact tlX4_hard_39 C N x1 x2 rr zz N (v2, M) h
        · refine bw_bipush (pc := 34) (v := (-4 : Int32)) C dX4_hard_34 bi_m4 ?_
          exact bw_ireti (pc := 36) C dX4_hard_36 h
      · refine bw_pick [0, 1, 2] rfl ?_
        exact tX4_hard_22 C N x1 x2 M rr zz h
/-! X4_hour -/
abbrev rmX4_hour : Room := { frames := 6, cells := 0, slots := 0, locals := 133 }
theorem msX4_hour : bw_MV yX4_hour cX4_hour 1 (some .int) RX4 0 := ⟨mw_331, mw_332, mw_1, mw_333, by decide +kernel⟩
def fX4_hour (N : Nat)  (M : bw_M) : Option (Int32 × bw_M) :=
  if (M.1 16 0) = 0 then
  some ((-4 : Int32), M)
  else
  bw_c2 (fX4_perform N (0 : Int32) (0 : Int32) M) fun v1 M2 =>
  some (v1, M2)
theorem tX4_hour (l : Launch) (N : Nat)   (M : bw_M) (rr : Int32) (zz : bw_M) (h : fX4_hour N M = some (rr, zz)) : bw_CI l bw_shC 45 yX4_hour cX4_hour 1 (some .int) rmX4_hour (fun ρ => [.ref (ρ 0)]) M rr zz := by
  refine bw_inI (Lf := fun ρ => [(0, .ref (ρ 0))]) cX4_hour 1 (some .int) RX4 pn_X4 rfl (fun ρ => Nat.le_of_ble_eq_true rfl) (fun ρ => rfl) ?_
  intro p e s m args below meth c D kT ρ C
  unfold fX4_hour at h
  refine bw_aload_n (pc := 0) C 0 dX4_hour_0 rfl rfl ?_
  refine bw_getR (pc := 1) (q := 0) (k0 := 5) C ltC_0 shC_0 rfl inX4 mw_128 (by decide) rfl dX4_hour_1 ?_
  refine bw_getI (pc := 4) (q := 16) (k0 := 0) C ltC_16 shC_16 rfl inX3 mw_49 (by decide) rfl dX4_hour_4 ?_
  refine bw_if_ne (pc := 7) C 13 dX4_hour_7 (by decide) h (fun h => ?_) (fun h => ?_)
  · refine bw_aload_n (pc := 13) C 0 dX4_hour_13 rfl rfl ?_
    refine bw_iconst (pc := 14) (v := (0 : Int32)) C dX4_hour_14 ic_0 ?_
    refine bw_iconst (pc := 15) (v := (0 : Int32)) C dX4_hour_15 ic_0 ?_
    obtain ⟨v1, M2, ev1, h⟩ := bw_c2_o h
    refine bw_cVi (pc := 16) (q := 0) (As := [.int (0 : Int32), .int (0 : Int32)]) (rest := []) C (tX4_perform l N (0 : Int32) (0 : Int32) M v1 M2 ev1) msX4_perform mw_334 rfl rfl ⟨Nat.le_of_ble_eq_true rfl, Nat.le_of_ble_eq_true rfl⟩ ltC_0 shC_0 rfl rfl rfl rfl (Nat.le_of_ble_eq_true rfl) dX4_hour_16 ?_
    exact bw_ireti (pc := 19) C dX4_hour_19 h
  · refine bw_bipush (pc := 10) (v := (-4 : Int32)) C dX4_hour_10 bi_m4 ?_
    exact bw_ireti (pc := 12) C dX4_hour_12 h
/-! X4_hush -/
abbrev rmX4_hush : Room := { frames := 5, cells := 0, slots := 0, locals := 109 }
theorem msX4_hush : bw_MV yX4_hush cX4_hush 8 (some .int) RX4 1 := ⟨mw_427, mw_428, mw_1, mw_429, by decide +kernel⟩
def fX4_hush_140 (N : Nat) (x1 : Int32)  (x3 : Int32) (M : bw_M) : Option (Int32 × bw_M) :=
  some (x3, M)
theorem tX4_hush_140 {p : Program} {l : Launch} {e : Env} {s : State} {m : MethodId} {args : Array Value} {below : List Frame} {meth : Method} {c : Code} {D : va_G} {kT : Nat → ClassId} {ρ : Nat → Nat} (C : bw_Cx p s m args meth c cX4_hush 8 RX4 45 D kT ρ (some .int)) (N : Nat) (x1 : Int32)   (x3 : Int32) (M : bw_M) (rr : Int32) (zz : bw_M)  (h : fX4_hush_140 N x1 x3 M = some (rr, zz)) : bw_At p l e rmX4_hush s m args below meth c (MQ below (bw_QI bw_shC 45 D kT ρ rr zz) args s 0 0 (bw_A ρ 45)) bw_shC 45 D kT ρ 8 140 [(0, .ref (ρ 0)), (1, .int x1), (3, .int x3)] [] M := by
  unfold fX4_hush_140 at h
  refine bw_iload_n (pc := 140) C 2 dX4_hush_140 rfl rfl ?_
  exact bw_ireti (pc := 141) C dX4_hush_141 h
def fX4_hush_121 (N : Nat) (x1 : Int32) (k47 : Int32 × Int32 × Int32 × bw_M → Option (Int32 × bw_M)) (x2 : Int32) (x3 : Int32) (x4 : Int32) (x5 : Int32) (M : bw_M) : Option (Int32 × bw_M) :=
  bw_mv (x5 + 1) fun v10 =>
  k47 (x3, x4, v10, M)
theorem tX4_hush_121 {p : Program} {l : Launch} {e : Env} {s : State} {m : MethodId} {args : Array Value} {below : List Frame} {meth : Method} {c : Code} {D : va_G} {kT : Nat → ClassId} {ρ : Nat → Nat} (C : bw_Cx p s m args meth c cX4_hush 8 RX4 45 D kT ρ (some .int)) (N : Nat) (x1 : Int32)  (k47 : Int32 × Int32 × Int32 × bw_M → Option (Int32 × bw_M)) (x2 : Int32) (x3 : Int32) (x4 : Int32) (x5 : Int32) (M : bw_M) (rr : Int32) (zz : bw_M) (hk47 : ∀ z0, k47 z0 = some (rr, zz) → bw_At p l e rmX4_hush s m args below meth c (MQ below (bw_QI bw_shC 45 D kT ρ rr zz) args s 0 0 (bw_A ρ 45)) bw_shC 45 D kT ρ 8 47 [(0, .ref (ρ 0)), (1, .int x1), (2, .int x2), (3, .int z0.1), (4, .int z0.2.1), (5, .int z0.2.2.1)] [] z0.2.2.2) (h : fX4_hush_121 N x1 k47 x2 x3 x4 x5 M = some (rr, zz)) : bw_At p l e rmX4_hush s m args below meth c (MQ below (bw_QI bw_shC 45 D kT ρ rr zz) args s 0 0 (bw_A ρ 45)) bw_shC 45 D kT ρ 8 121 [(0, .ref (ρ 0)), (1, .int x1), (2, .int x2), (3, .int x3), (4, .int x4), (5, .int x5)] [] M := by
  unfold fX4_hush_121 at h
  obtain ⟨v10, ev10, h⟩ := bw_mv_o h
  refine bw_iinc (pc := 121) (x := v10) (L' := [(5, .int v10), (0, .ref (ρ 0)), (1, .int x1), (2, .int x2), (3, .int x3), (4, .int x4)]) C 5 dX4_hush_121 rfl ev10.symm (by decide) rfl ?_
  refine bw_goto (pc := 124) C 47 dX4_hush_124 (by decide) ?_
  refine bw_pick [1, 2, 3, 4, 5, 0] rfl ?_
  exact hk47 (x3, x4, v10, M) h
def fX4_hush_77 (N : Nat) (x1 : Int32) (k47 : Int32 × Int32 × Int32 × bw_M → Option (Int32 × bw_M)) (x2 : Int32) (x3 : Int32) (x4 : Int32) (x5 : Int32) (x6 : Int32) (s0 : Int32) (M : bw_M) : Option (Int32 × bw_M) :=
  if (x5 &&& (x2 ^^^ (-1 : Int32))) = 0 then
  if s0 = 0 then
  fX4_hush_121 N x1 k47 x2 x3 x4 x5 M
  else
  bw_c2 (fX4_spokenIfCut N ((M.1 16 6) ||| x5) M) fun v11 M12 =>
  bw_cl (fX3_isIn v11 x1) fun v13 =>
  if v13 = 0 then
  fX4_hush_121 N x1 k47 x2 x3 x4 x5 M12
  else
  fX4_hush_121 N x1 k47 x2 x6 x5 x5 M12
  else
  fX4_hush_121 N x1 k47 x2 x3 x4 x5 M
theorem tX4_hush_77 {p : Program} {l : Launch} {e : Env} {s : State} {m : MethodId} {args : Array Value} {below : List Frame} {meth : Method} {c : Code} {D : va_G} {kT : Nat → ClassId} {ρ : Nat → Nat} (C : bw_Cx p s m args meth c cX4_hush 8 RX4 45 D kT ρ (some .int)) (N : Nat) (x1 : Int32)  (k47 : Int32 × Int32 × Int32 × bw_M → Option (Int32 × bw_M)) (x2 : Int32) (x3 : Int32) (x4 : Int32) (x5 : Int32) (x6 : Int32) (s0 : Int32) (M : bw_M) (rr : Int32) (zz : bw_M) (hk47 : ∀ z0, k47 z0 = some (rr, zz) → bw_At p l e rmX4_hush s m args below meth c (MQ below (bw_QI bw_shC 45 D kT ρ rr zz) args s 0 0 (bw_A ρ 45)) bw_shC 45 D kT ρ 8 47 [(0, .ref (ρ 0)), (1, .int x1), (2, .int x2), (3, .int z0.1), (4, .int z0.2.1), (5, .int z0.2.2.1)] [] z0.2.2.2) (h : fX4_hush_77 N x1 k47 x2 x3 x4 x5 x6 s0 M = some (rr, zz)) : bw_At p l e rmX4_hush s m args below meth c (MQ below (bw_QI bw_shC 45 D kT ρ rr zz) args s 0 0 (bw_A ρ 45)) bw_shC 45 D kT ρ 8 77 [(0, .ref (ρ 0)), (1, .int x1), (2, .int x2), (3, .int x3), (4, .int x4), (5, .int x5), (6, .int x6)] [.int s0] M := by
  unfold fX4_hush_77 at h
  refine bw_istore (pc := 77) (L' := [(7, .int s0), (0, .ref (ρ 0)), (1, .int x1), (2, .int x2), (3, .int x3), (4, .int x4), (5, .int x5), (6, .int x6)]) C dX4_hush_77 (by decide) rfl ?_
  refine bw_iload (pc := 79) C 6 dX4_hush_79 rfl ?_
  refine bw_iload_n (pc := 81) C 3 dX4_hush_81 rfl rfl ?_
  refine bw_iconst (pc := 82) (v := (-1 : Int32)) C dX4_hush_82 ic_m1 ?_
  refine bw_ixor (pc := 83) C dX4_hush_83 ?_
  refine bw_iand (pc := 84) C dX4_hush_84 ?_
  refine bw_if_ne (pc := 85) C 121 dX4_hush_85 (by decide) h (fun h => ?_) (fun h => ?_)
  · refine bw_pick [1, 2, 3, 4, 5, 6] rfl ?_
    exact tX4_hush_121 C N x1 k47 x2 x3 x4 x5 M rr zz hk47 h
  · refine bw_iload (pc := 88) C 0 dX4_hush_88 rfl ?_
    refine bw_if_eq (pc := 90) C 121 dX4_hush_90 (by decide) h (fun h => ?_) (fun h => ?_)
    · refine bw_pick [1, 2, 3, 4, 5, 6] rfl ?_
      exact tX4_hush_121 C N x1 k47 x2 x3 x4 x5 M rr zz hk47 h
    · refine bw_aload_n (pc := 93) C 1 dX4_hush_93 rfl rfl ?_
      refine bw_aload_n (pc := 94) C 1 dX4_hush_94 rfl rfl ?_
      refine bw_getR (pc := 95) (q := 0) (k0 := 5) C ltC_0 shC_0 rfl inX4 mw_128 (by decide) rfl dX4_hush_95 ?_
      refine bw_getI (pc := 98) (q := 16) (k0 := 6) C ltC_16 shC_16 rfl inX3 mw_59 (by decide) rfl dX4_hush_98 ?_
      refine bw_iload (pc := 101) C 6 dX4_hush_101 rfl ?_
      refine bw_ior (pc := 103) C dX4_hush_103 ?_
      obtain ⟨v11, M12, ev11, h⟩ := bw_c2_o h
      refine bw_cVi (pc := 104) (q := 0) (As := [.int ((M.1 16 6) ||| x5)]) (rest := []) C (tX4_spokenIfCut l N ((M.1 16 6) ||| x5) M v11 M12 ev11) msX4_spokenIfCut mw_440 rfl rfl ⟨Nat.le_of_ble_eq_true rfl, Nat.le_of_ble_eq_true rfl⟩ ltC_0 shC_0 rfl rfl rfl rfl (Nat.le_of_ble_eq_true rfl) dX4_hush_104 ?_
      refine bw_iload_n (pc := 107) C 2 dX4_hush_107 rfl rfl ?_
      obtain ⟨v13, ev13, h⟩ := bw_cl_o h
      refine bw_cSi (pc := 108) (As := [.int v11, .int x1]) (rest := []) C (tX3_isIn l v11 x1 M12 v13 ev13) msX3_isIn mw_312 rfl rfl ⟨Nat.le_of_ble_eq_true rfl, Nat.le_of_ble_eq_true rfl⟩ rfl rfl rfl (Nat.le_of_ble_eq_true rfl) dX4_hush_108 ?_
      refine bw_if_eq (pc := 111) C 121 dX4_hush_111 (by decide) h (fun h => ?_) (fun h => ?_)
      · refine bw_pick [1, 2, 3, 4, 5, 6] rfl ?_
        exact tX4_hush_121 C N x1 k47 x2 x3 x4 x5 M12 rr zz hk47 h
      · refine bw_iload (pc := 114) C 7 dX4_hush_114 rfl ?_
        refine bw_istore_n (pc := 116) (L' := [(3, .int x6), (7, .int s0), (0, .ref (ρ 0)), (1, .int x1), (2, .int x2), (4, .int x4), (5, .int x5), (6, .int x6)]) C dX4_hush_116 rfl (by decide) rfl ?_
        refine bw_iload (pc := 117) C 6 dX4_hush_117 rfl ?_
        refine bw_istore (pc := 119) (L' := [(4, .int x5), (3, .int x6), (7, .int s0), (0, .ref (ρ 0)), (1, .int x1), (2, .int x2), (5, .int x5), (6, .int x6)]) C dX4_hush_119 (by decide) rfl ?_
        refine bw_pick [3, 4, 5, 1, 0, 6] rfl ?_
        exact tX4_hush_121 C N x1 k47 x2 x6 x5 x5 M12 rr zz hk47 h
def fX4_hush_72 (N : Nat) (x1 : Int32) (k47 : Int32 × Int32 × Int32 × bw_M → Option (Int32 × bw_M)) (x2 : Int32) (x3 : Int32) (x4 : Int32) (x5 : Int32) (x6 : Int32) (M : bw_M) : Option (Int32 × bw_M) :=
  fX4_hush_77 N x1 k47 x2 x3 x4 x5 x6 (1 : Int32) M
theorem tX4_hush_72 {p : Program} {l : Launch} {e : Env} {s : State} {m : MethodId} {args : Array Value} {below : List Frame} {meth : Method} {c : Code} {D : va_G} {kT : Nat → ClassId} {ρ : Nat → Nat} (C : bw_Cx p s m args meth c cX4_hush 8 RX4 45 D kT ρ (some .int)) (N : Nat) (x1 : Int32)  (k47 : Int32 × Int32 × Int32 × bw_M → Option (Int32 × bw_M)) (x2 : Int32) (x3 : Int32) (x4 : Int32) (x5 : Int32) (x6 : Int32) (M : bw_M) (rr : Int32) (zz : bw_M) (hk47 : ∀ z0, k47 z0 = some (rr, zz) → bw_At p l e rmX4_hush s m args below meth c (MQ below (bw_QI bw_shC 45 D kT ρ rr zz) args s 0 0 (bw_A ρ 45)) bw_shC 45 D kT ρ 8 47 [(0, .ref (ρ 0)), (1, .int x1), (2, .int x2), (3, .int z0.1), (4, .int z0.2.1), (5, .int z0.2.2.1)] [] z0.2.2.2) (h : fX4_hush_72 N x1 k47 x2 x3 x4 x5 x6 M = some (rr, zz)) : bw_At p l e rmX4_hush s m args below meth c (MQ below (bw_QI bw_shC 45 D kT ρ rr zz) args s 0 0 (bw_A ρ 45)) bw_shC 45 D kT ρ 8 72 [(0, .ref (ρ 0)), (1, .int x1), (2, .int x2), (3, .int x3), (4, .int x4), (5, .int x5), (6, .int x6)] [] M := by
  unfold fX4_hush_72 at h
  refine bw_iconst (pc := 72) (v := (1 : Int32)) C dX4_hush_72 ic_1 ?_
  refine bw_goto (pc := 73) C 77 dX4_hush_73 (by decide) ?_
  refine bw_pick [0, 1, 2, 3, 4, 5, 6] rfl ?_
  exact tX4_hush_77 C N x1 k47 x2 x3 x4 x5 x6 (1 : Int32) M rr zz hk47 h
def fX4_hush_47 (N : Nat) (x1 : Int32) (k47 : Int32 × Int32 × Int32 × bw_M → Option (Int32 × bw_M)) (x2 : Int32) (x3 : Int32) (x4 : Int32) (x5 : Int32) (M : bw_M) : Option (Int32 × bw_M) :=
  if x2 < x5 then
  if x3 = (-9 : Int32) then
  fX4_hush_140 N x1 x3 M
  else
  bw_c2 (fX4_tell x4 M) fun v7 M8 =>
  fX4_hush_140 N x1 x3 M8
  else
  bw_cl (fJ6_bitCount_0f7a4 x5) fun v9 =>
  if x3 = (-9 : Int32) then
  fX4_hush_72 N x1 k47 x2 x3 x4 x5 v9 M
  else
  if x3 ≤ v9 then
  fX4_hush_77 N x1 k47 x2 x3 x4 x5 v9 (0 : Int32) M
  else
  fX4_hush_72 N x1 k47 x2 x3 x4 x5 v9 M
theorem tX4_hush_47 {p : Program} {l : Launch} {e : Env} {s : State} {m : MethodId} {args : Array Value} {below : List Frame} {meth : Method} {c : Code} {D : va_G} {kT : Nat → ClassId} {ρ : Nat → Nat} (C : bw_Cx p s m args meth c cX4_hush 8 RX4 45 D kT ρ (some .int)) (N : Nat) (x1 : Int32)  (k47 : Int32 × Int32 × Int32 × bw_M → Option (Int32 × bw_M)) (x2 : Int32) (x3 : Int32) (x4 : Int32) (x5 : Int32) (M : bw_M) (rr : Int32) (zz : bw_M) (hk47 : ∀ z0, k47 z0 = some (rr, zz) → bw_At p l e rmX4_hush s m args below meth c (MQ below (bw_QI bw_shC 45 D kT ρ rr zz) args s 0 0 (bw_A ρ 45)) bw_shC 45 D kT ρ 8 47 [(0, .ref (ρ 0)), (1, .int x1), (2, .int x2), (3, .int z0.1), (4, .int z0.2.1), (5, .int z0.2.2.1)] [] z0.2.2.2) (h : fX4_hush_47 N x1 k47 x2 x3 x4 x5 M = some (rr, zz)) : bw_At p l e rmX4_hush s m args below meth c (MQ below (bw_QI bw_shC 45 D kT ρ rr zz) args s 0 0 (bw_A ρ 45)) bw_shC 45 D kT ρ 8 47 [(0, .ref (ρ 0)), (1, .int x1), (2, .int x2), (3, .int x3), (4, .int x4), (5, .int x5)] [] M := by
  unfold fX4_hush_47 at h
  refine bw_iload (pc := 47) C 5 dX4_hush_47 rfl ?_
  refine bw_iload_n (pc := 49) C 2 dX4_hush_49 rfl rfl ?_
  refine bw_icmp_gt (pc := 50) C 127 dX4_hush_50 (by decide) h (fun h => ?_) (fun h => ?_)
  · refine bw_iload_n (pc := 127) C 3 dX4_hush_127 rfl rfl ?_
    refine bw_bipush (pc := 128) (v := (-9 : Int32)) C dX4_hush_128 bi_m9 ?_
    refine bw_icmp_eq (pc := 130) C 140 dX4_hush_130 (by decide) h (fun h => ?_) (fun h => ?_)
    · refine bw_pick [0, 1, 3] rfl ?_
      exact tX4_hush_140 C N x1 x3 M rr zz h
    · refine bw_aload_n (pc := 133) C 0 dX4_hush_133 rfl rfl ?_
      refine bw_iload (pc := 134) C 4 dX4_hush_134 rfl ?_
      obtain ⟨v7, M8, ev7, h⟩ := bw_c2_o h
      refine bw_cVi (pc := 136) (q := 0) (As := [.int x4]) (rest := []) C (tX4_tell l x4 M v7 M8 ev7) msX4_tell mw_197 rfl rfl ⟨Nat.le_of_ble_eq_true rfl, Nat.le_of_ble_eq_true rfl⟩ ltC_0 shC_0 rfl rfl rfl rfl (Nat.le_of_ble_eq_true rfl) dX4_hush_136 ?_
      refine bw_pop (pc := 139) C dX4_hush_139 rfl ?_
      refine bw_pick [0, 1, 3] rfl ?_
      exact tX4_hush_140 C N x1 x3 M8 rr zz h
  · refine bw_iload (pc := 53) C 5 dX4_hush_53 rfl ?_
    obtain ⟨v9, ev9, h⟩ := bw_cl_o h
    refine bw_cSi (pc := 55) (As := [.int x5]) (rest := []) C (tJ6_bitCount_0f7a4 l x5 M v9 ev9) msJ6_bitCount_0f7a4 mw_434 rfl rfl ⟨Nat.le_of_ble_eq_true rfl, Nat.le_of_ble_eq_true rfl⟩ rfl rfl rfl (Nat.le_of_ble_eq_true rfl) dX4_hush_55 ?_
    refine bw_istore (pc := 58) (L' := [(6, .int v9), (0, .ref (ρ 0)), (1, .int x1), (2, .int x2), (3, .int x3), (4, .int x4), (5, .int x5)]) C dX4_hush_58 (by decide) rfl ?_
    refine bw_iload_n (pc := 60) C 4 dX4_hush_60 rfl rfl ?_
    refine bw_bipush (pc := 61) (v := (-9 : Int32)) C dX4_hush_61 bi_m9 ?_
    refine bw_icmp_eq (pc := 63) C 72 dX4_hush_63 (by decide) h (fun h => ?_) (fun h => ?_)
    · refine bw_pick [1, 2, 3, 4, 5, 6, 0] rfl ?_
      exact tX4_hush_72 C N x1 k47 x2 x3 x4 x5 v9 M rr zz hk47 h
    · refine bw_iload (pc := 66) C 0 dX4_hush_66 rfl ?_
      refine bw_iload_n (pc := 68) C 4 dX4_hush_68 rfl rfl ?_
      refine bw_icmp_ge (pc := 69) C 76 dX4_hush_69 (by decide) h (fun h => ?_) (fun h => ?_)
      · refine bw_iconst (pc := 76) (v := (0 : Int32)) C dX4_hush_76 ic_0 ?_
        refine bw_pick [1, 2, 3, 4, 5, 6, 0] rfl ?_
        exact tX4_hush_77 C N x1 k47 x2 x3 x4 x5 v9 (0 : Int32) M rr zz hk47 h
      · refine bw_pick [1, 2, 3, 4, 5, 6, 0] rfl ?_
        exact tX4_hush_72 C N x1 k47 x2 x3 x4 x5 v9 M rr zz hk47 h
def flX4_hush_47 (N : Nat) (x1 : Int32)  (x2 : Int32)  (fu : Nat) (w : Int32 × Int32 × Int32 × bw_M) : Option (Int32 × bw_M) := bw_lp (fun kk w => fX4_hush_47 N x1 kk x2 w.1 w.2.1 w.2.2.1 w.2.2.2) fu w
theorem tlX4_hush_47 {p : Program} {l : Launch} {e : Env} {s : State} {m : MethodId} {args : Array Value} {below : List Frame} {meth : Method} {c : Code} {D : va_G} {kT : Nat → ClassId} {ρ : Nat → Nat} (C : bw_Cx p s m args meth c cX4_hush 8 RX4 45 D kT ρ (some .int)) (N : Nat) (x1 : Int32)   (x2 : Int32)  (rr : Int32) (zz : bw_M)  (fu : Nat) (w : Int32 × Int32 × Int32 × bw_M) (h : flX4_hush_47 N x1 x2 fu w = some (rr, zz)) : bw_At p l e rmX4_hush s m args below meth c (MQ below (bw_QI bw_shC 45 D kT ρ rr zz) args s 0 0 (bw_A ρ 45)) bw_shC 45 D kT ρ 8 47 [(0, .ref (ρ 0)), (1, .int x1), (2, .int x2), (3, .int w.1), (4, .int w.2.1), (5, .int w.2.2.1)] [] w.2.2.2 :=
  bw_loop (r := (rr, zz)) (fun w => bw_At p l e rmX4_hush s m args below meth c (MQ below (bw_QI bw_shC 45 D kT ρ rr zz) args s 0 0 (bw_A ρ 45)) bw_shC 45 D kT ρ 8 47 [(0, .ref (ρ 0)), (1, .int x1), (2, .int x2), (3, .int w.1), (4, .int w.2.1), (5, .int w.2.2.1)] [] w.2.2.2) (fun kk hk w h => tX4_hush_47 C N x1 kk x2 w.1 w.2.1 w.2.2.1 w.2.2.2 rr zz hk h) fu w h
def fX4_hush (N : Nat) (x1 : Int32) (M : bw_M) : Option (Int32 × bw_M) :=
  bw_cl (fX3_hasPipe 16 x1 M) fun v1 =>
  if v1 = 0 then
  some ((-1 : Int32), M)
  else
  bw_cl (fX3_allPipes 16 M) fun v2 =>
  bw_mv ((v2 &&& ((M.1 16 6) ^^^ (-1 : Int32))) &&& (((1 : Int32) <<< (x1 &&& 31)) ^^^ (-1 : Int32))) fun v3 =>
  bw_mv (-9 : Int32) fun v4 =>
  bw_mv (-9 : Int32) fun v5 =>
  bw_mv (0 : Int32) fun v6 =>
  flX4_hush_47 N x1 v3 N (v4, v5, v6, M)
theorem tX4_hush (l : Launch) (N : Nat) (x1 : Int32)  (M : bw_M) (rr : Int32) (zz : bw_M) (h : fX4_hush N x1 M = some (rr, zz)) : bw_CI l bw_shC 45 yX4_hush cX4_hush 8 (some .int) rmX4_hush (fun ρ => [.ref (ρ 0), .int x1]) M rr zz := by
  refine bw_inI (Lf := fun ρ => [(0, .ref (ρ 0)), (1, .int x1)]) cX4_hush 8 (some .int) RX4 pn_X4 rfl (fun ρ => Nat.le_of_ble_eq_true rfl) (fun ρ => rfl) ?_
  intro p e s m args below meth c D kT ρ C
  unfold fX4_hush at h
  refine bw_aload_n (pc := 0) C 0 dX4_hush_0 rfl rfl ?_
  refine bw_getR (pc := 1) (q := 0) (k0 := 5) C ltC_0 shC_0 rfl inX4 mw_128 (by decide) rfl dX4_hush_1 ?_
  refine bw_iload_n (pc := 4) C 1 dX4_hush_4 rfl rfl ?_
  obtain ⟨v1, ev1, h⟩ := bw_cl_o h
  refine bw_cVi (pc := 5) (q := 16) (As := [.int x1]) (rest := []) C (tX3_hasPipe l 16 x1 isT_16 M v1 ev1) msX3_hasPipe mw_290 rfl rfl ⟨Nat.le_of_ble_eq_true rfl, Nat.le_of_ble_eq_true rfl⟩ ltC_16 shC_16 rfl rfl rfl rfl (Nat.le_of_ble_eq_true rfl) dX4_hush_5 ?_
  refine bw_if_ne (pc := 8) C 13 dX4_hush_8 (by decide) h (fun h => ?_) (fun h => ?_)
  · refine bw_aload_n (pc := 13) C 0 dX4_hush_13 rfl rfl ?_
    refine bw_getR (pc := 14) (q := 0) (k0 := 5) C ltC_0 shC_0 rfl inX4 mw_128 (by decide) rfl dX4_hush_14 ?_
    obtain ⟨v2, ev2, h⟩ := bw_cl_o h
    refine bw_cVi (pc := 17) (q := 16) (As := []) (rest := []) C (tX3_allPipes l 16 isT_16 M v2 ev2) msX3_allPipes mw_430 rfl rfl ⟨Nat.le_of_ble_eq_true rfl, Nat.le_of_ble_eq_true rfl⟩ ltC_16 shC_16 rfl rfl rfl rfl (Nat.le_of_ble_eq_true rfl) dX4_hush_17 ?_
    refine bw_aload_n (pc := 20) C 0 dX4_hush_20 rfl rfl ?_
    refine bw_getR (pc := 21) (q := 0) (k0 := 5) C ltC_0 shC_0 rfl inX4 mw_128 (by decide) rfl dX4_hush_21 ?_
    refine bw_getI (pc := 24) (q := 16) (k0 := 6) C ltC_16 shC_16 rfl inX3 mw_59 (by decide) rfl dX4_hush_24 ?_
    refine bw_iconst (pc := 27) (v := (-1 : Int32)) C dX4_hush_27 ic_m1 ?_
    refine bw_ixor (pc := 28) C dX4_hush_28 ?_
    refine bw_iand (pc := 29) C dX4_hush_29 ?_
    refine bw_iconst (pc := 30) (v := (1 : Int32)) C dX4_hush_30 ic_1 ?_
    refine bw_iload_n (pc := 31) C 1 dX4_hush_31 rfl rfl ?_
    refine bw_ishl (pc := 32) C dX4_hush_32 ?_
    refine bw_iconst (pc := 33) (v := (-1 : Int32)) C dX4_hush_33 ic_m1 ?_
    refine bw_ixor (pc := 34) C dX4_hush_34 ?_
    refine bw_iand (pc := 35) C dX4_hush_35 ?_
    obtain ⟨v3, ev3, h⟩ := bw_mv_o h
    refine bw_nmI ev3 ?_
    refine bw_istore_n (pc := 36) (L' := [(2, .int v3), (0, .ref (ρ 0)), (1, .int x1)]) C dX4_hush_36 rfl (by decide) rfl ?_
    refine bw_bipush (pc := 37) (v := (-9 : Int32)) C dX4_hush_37 bi_m9 ?_
    obtain ⟨v4, ev4, h⟩ := bw_mv_o h
    refine bw_nmI ev4 ?_
    refine bw_istore_n (pc := 39) (L' := [(3, .int v4), (2, .int v3), (0, .ref (ρ 0)), (1, .int x1)]) C dX4_hush_39 rfl (by decide) rfl ?_
    refine bw_bipush (pc := 40) (v := (-9 : Int32)) C dX4_hush_40 bi_m9 ?_
    obtain ⟨v5, ev5, h⟩ := bw_mv_o h
    refine bw_nmI ev5 ?_
    refine bw_istore (pc := 42) (L' := [(4, .int v5), (3, .int v4), (2, .int v3), (0, .ref (ρ 0)), (1, .int x1)]) C dX4_hush_42 (by decide) rfl ?_
    refine bw_iconst (pc := 44) (v := (0 : Int32)) C dX4_hush_44 ic_0 ?_
    obtain ⟨v6, ev6, h⟩ := bw_mv_o h
    refine bw_nmI ev6 ?_
    refine bw_istore (pc := 45) (L' := [(5, .int v6), (4, .int v5), (3, .int v4), (2, .int v3), (0, .ref (ρ 0)), (1, .int x1)]) C dX4_hush_45 (by decide) rfl ?_
    refine bw_pick [4, 5, 3, 2, 1, 0] rfl ?_
    exact tlX4_hush_47 C N x1 v3 rr zz N (v4, v5, v6, M) h
  · refine bw_iconst (pc := 11) (v := (-1 : Int32)) C dX4_hush_11 ic_m1 ?_
    exact bw_ireti (pc := 12) C dX4_hush_12 h
/-! X4_isKeepingPlace -/
abbrev rmX4_isKeepingPlace : Room := { frames := 0, cells := 0, slots := 0, locals := 0 }
theorem msX4_isKeepingPlace : bw_MS yX4_isKeepingPlace cX4_isKeepingPlace 1 (some .boolean) 1 := ⟨mw_397, mw_1, mw_398, by decide +kernel⟩
def fX4_isKeepingPlace_14 (x0 : Int32)  (s0 : Int32)  : Option (Int32) :=
  bw_ck (bw_isb s0) (some s0)
theorem tX4_isKeepingPlace_14 {p : Program} {l : Launch} {e : Env} {s : State} {m : MethodId} {args : Array Value} {below : List Frame} {meth : Method} {c : Code} {D : va_G} {kT : Nat → ClassId} {ρ : Nat → Nat} (C : bw_Cx p s m args meth c cX4_isKeepingPlace 1 RX4 45 D kT ρ (some .boolean)) (x0 : Int32)   (s0 : Int32) (M : bw_M) (rr : Int32)  (h : fX4_isKeepingPlace_14 x0 s0 = some rr) : bw_At p l e rmX4_isKeepingPlace s m args below meth c (MQ below (bw_QI bw_shC 45 D kT ρ rr M) args s 0 0 (bw_A ρ 45)) bw_shC 45 D kT ρ 1 14 [(0, .int x0)] [.int s0] M := by
  unfold fX4_isKeepingPlace_14 at h
  obtain ⟨q1, h⟩ := bw_ck_o h
  exact bw_iretz (pc := 14) C (nz_b q1) dX4_isKeepingPlace_14 (bw_pr M h)
def fX4_isKeepingPlace_13 (x0 : Int32)    : Option (Int32) :=
  fX4_isKeepingPlace_14 x0 (0 : Int32)
theorem tX4_isKeepingPlace_13 {p : Program} {l : Launch} {e : Env} {s : State} {m : MethodId} {args : Array Value} {below : List Frame} {meth : Method} {c : Code} {D : va_G} {kT : Nat → ClassId} {ρ : Nat → Nat} (C : bw_Cx p s m args meth c cX4_isKeepingPlace 1 RX4 45 D kT ρ (some .boolean)) (x0 : Int32)    (M : bw_M) (rr : Int32)  (h : fX4_isKeepingPlace_13 x0 = some rr) : bw_At p l e rmX4_isKeepingPlace s m args below meth c (MQ below (bw_QI bw_shC 45 D kT ρ rr M) args s 0 0 (bw_A ρ 45)) bw_shC 45 D kT ρ 1 13 [(0, .int x0)] [] M := by
  unfold fX4_isKeepingPlace_13 at h
  refine bw_iconst (pc := 13) (v := (0 : Int32)) C dX4_isKeepingPlace_13 ic_0 ?_
  refine bw_pick [0] rfl ?_
  exact tX4_isKeepingPlace_14 C x0 (0 : Int32) M rr h
def fX4_isKeepingPlace (x0 : Int32)  : Option (Int32) :=
  if x0 < 0 then
  fX4_isKeepingPlace_13 x0
  else
  if (3 : Int32) ≤ x0 then
  fX4_isKeepingPlace_13 x0
  else
  fX4_isKeepingPlace_14 x0 (1 : Int32)
theorem tX4_isKeepingPlace (l : Launch) (x0 : Int32)  (M : bw_M) (rr : Int32) (h : fX4_isKeepingPlace x0 = some rr) : bw_CI l bw_shC 45 yX4_isKeepingPlace cX4_isKeepingPlace 1 (some .boolean) rmX4_isKeepingPlace (fun ρ => [.int x0]) M rr M := by
  refine bw_inI (Lf := fun ρ => [(0, .int x0)]) cX4_isKeepingPlace 1 (some .boolean) RX4 pn_X4 rfl (fun ρ => Nat.le_of_ble_eq_true rfl) (fun ρ => rfl) ?_
  intro p e s m args below meth c D kT ρ C
  unfold fX4_isKeepingPlace at h
  refine bw_iload_n (pc := 0) C 0 dX4_isKeepingPlace_0 rfl rfl ?_
  refine bw_if_lt (pc := 1) C 13 dX4_isKeepingPlace_1 (by decide) h (fun h => ?_) (fun h => ?_)
  · refine bw_pick [0] rfl ?_
    exact tX4_isKeepingPlace_13 C x0 M rr h
  · refine bw_iload_n (pc := 4) C 0 dX4_isKeepingPlace_4 rfl rfl ?_
    refine bw_iconst (pc := 5) (v := (3 : Int32)) C dX4_isKeepingPlace_5 ic_3 ?_
    refine bw_icmp_ge (pc := 6) C 13 dX4_isKeepingPlace_6 (by decide) h (fun h => ?_) (fun h => ?_)
    · refine bw_pick [0] rfl ?_
      exact tX4_isKeepingPlace_13 C x0 M rr h
    · refine bw_iconst (pc := 9) (v := (1 : Int32)) C dX4_isKeepingPlace_9 ic_1 ?_
      refine bw_goto (pc := 10) C 14 dX4_isKeepingPlace_10 (by decide) ?_
      refine bw_pick [0] rfl ?_
      exact tX4_isKeepingPlace_14 C x0 (1 : Int32) M rr h
/-! X4_keep -/
abbrev rmX4_keep : Room := { frames := 2, cells := 0, slots := 0, locals := 47 }
theorem msX4_keep : bw_MV yX4_keep cX4_keep 2 (some .int) RX4 1 := ⟨mw_393, mw_394, mw_1, mw_395, by decide +kernel⟩
def fX4_keep (x1 : Int32) (M : bw_M) : Option (Int32 × bw_M) :=
  bw_cl (fX4_isKeepingPlace x1) fun v1 =>
  if v1 = 0 then
  some ((-1 : Int32), M)
  else
  if (M.1 16 0) = 0 then
  some ((-4 : Int32), M)
  else
  bw_ra 3 x1 fun j2 =>
  bw_cl (fX0_become (32 + 3 * j2) 28 M) fun M3 =>
  some ((M3.1 28 2), M3)
theorem tX4_keep (l : Launch) (x1 : Int32)  (M : bw_M) (rr : Int32) (zz : bw_M) (h : fX4_keep x1 M = some (rr, zz)) : bw_CI l bw_shC 45 yX4_keep cX4_keep 2 (some .int) rmX4_keep (fun ρ => [.ref (ρ 0), .int x1]) M rr zz := by
  refine bw_inI (Lf := fun ρ => [(0, .ref (ρ 0)), (1, .int x1)]) cX4_keep 2 (some .int) RX4 pn_X4 rfl (fun ρ => Nat.le_of_ble_eq_true rfl) (fun ρ => rfl) ?_
  intro p e s m args below meth c D kT ρ C
  unfold fX4_keep at h
  refine bw_iload_n (pc := 0) C 1 dX4_keep_0 rfl rfl ?_
  obtain ⟨v1, ev1, h⟩ := bw_cl_o h
  refine bw_cSi (pc := 1) (As := [.int x1]) (rest := []) C (tX4_isKeepingPlace l x1 M v1 ev1) msX4_isKeepingPlace mw_396 rfl rfl ⟨Nat.le_of_ble_eq_true rfl, Nat.le_of_ble_eq_true rfl⟩ rfl rfl rfl (Nat.le_of_ble_eq_true rfl) dX4_keep_1 ?_
  refine bw_if_ne (pc := 4) C 9 dX4_keep_4 (by decide) h (fun h => ?_) (fun h => ?_)
  · refine bw_aload_n (pc := 9) C 0 dX4_keep_9 rfl rfl ?_
    refine bw_getR (pc := 10) (q := 0) (k0 := 5) C ltC_0 shC_0 rfl inX4 mw_128 (by decide) rfl dX4_keep_10 ?_
    refine bw_getI (pc := 13) (q := 16) (k0 := 0) C ltC_16 shC_16 rfl inX3 mw_49 (by decide) rfl dX4_keep_13 ?_
    refine bw_if_ne (pc := 16) C 22 dX4_keep_16 (by decide) h (fun h => ?_) (fun h => ?_)
    · refine bw_aload_n (pc := 22) C 0 dX4_keep_22 rfl rfl ?_
      refine bw_getR (pc := 23) (q := 0) (k0 := 8) C ltC_0 shC_0 rfl inX4 mw_131 (by decide) rfl dX4_keep_23 ?_
      refine bw_iload_n (pc := 26) C 1 dX4_keep_26 rfl rfl ?_
      obtain ⟨qj2, j2, ej2, lj2, h⟩ := bw_ra_o h
      refine bw_aald (pc := 27) (q := 31) (ty := .object "BlowerBreath$Deeds") C ltC_31 shC_31 rfl rfl qj2 (id_kept ej2 lj2) dX4_keep_27 ?_
      refine bw_aload_n (pc := 28) C 0 dX4_keep_28 rfl rfl ?_
      refine bw_getR (pc := 29) (q := 0) (k0 := 7) C ltC_0 shC_0 rfl inX4 mw_130 (by decide) rfl dX4_keep_29 ?_
      obtain ⟨M3, eM3, h⟩ := bw_cl_o h
      refine bw_cVv (pc := 32) (q := (32 + 3 * j2)) (As := [.ref (ρ 28)]) (rest := []) C (tX0_become l (32 + 3 * j2) 28 (isD_k lj2) isD_28 M M3 eM3) msX0_become mw_399 rfl rfl ⟨Nat.le_of_ble_eq_true rfl, Nat.le_of_ble_eq_true rfl⟩ (ltC_D (isD_k lj2)) (shC_D (isD_k lj2)) rfl rfl rfl rfl (Nat.le_of_ble_eq_true rfl) dX4_keep_32 ?_
      refine bw_aload_n (pc := 35) C 0 dX4_keep_35 rfl rfl ?_
      refine bw_getR (pc := 36) (q := 0) (k0 := 7) C ltC_0 shC_0 rfl inX4 mw_130 (by decide) rfl dX4_keep_36 ?_
      refine bw_getI (pc := 39) (q := 28) (k0 := 2) C ltC_28 shC_28 rfl inX0 mw_110 (by decide) rfl dX4_keep_39 ?_
      exact bw_ireti (pc := 42) C dX4_keep_42 h
    · refine bw_bipush (pc := 19) (v := (-4 : Int32)) C dX4_keep_19 bi_m4 ?_
      exact bw_ireti (pc := 21) C dX4_keep_21 h
  · refine bw_iconst (pc := 7) (v := (-1 : Int32)) C dX4_keep_7 ic_m1 ?_
    exact bw_ireti (pc := 8) C dX4_keep_8 h
/-! X4_refusedHearing -/
abbrev rmX4_refusedHearing : Room := { frames := 2, cells := 0, slots := 0, locals := 41 }
theorem msX4_refusedHearing : bw_MV yX4_refusedHearing cX4_refusedHearing 4 (some .int) RX4 1 := ⟨mw_467, mw_1081, mw_1, mw_468, by decide +kernel⟩
def fX4_refusedHearing_51 (N : Nat) (x1 : Int32)   (M : bw_M) : Option (Int32 × bw_M) :=
  bw_c2 (fX4_found (5 : Int32) M) fun v3 M4 =>
  some (v3, M4)
theorem tX4_refusedHearing_51 {p : Program} {l : Launch} {e : Env} {s : State} {m : MethodId} {args : Array Value} {below : List Frame} {meth : Method} {c : Code} {D : va_G} {kT : Nat → ClassId} {ρ : Nat → Nat} (C : bw_Cx p s m args meth c cX4_refusedHearing 4 RX4 45 D kT ρ (some .int)) (N : Nat) (x1 : Int32)    (M : bw_M) (rr : Int32) (zz : bw_M)  (h : fX4_refusedHearing_51 N x1 M = some (rr, zz)) : bw_At p l e rmX4_refusedHearing s m args below meth c (MQ below (bw_QI bw_shC 45 D kT ρ rr zz) args s 0 0 (bw_A ρ 45)) bw_shC 45 D kT ρ 4 51 [(0, .ref (ρ 0)), (1, .int x1)] [] M := by
  unfold fX4_refusedHearing_51 at h
  refine bw_aload_n (pc := 51) C 0 dX4_refusedHearing_51 rfl rfl ?_
  refine bw_iconst (pc := 52) (v := (5 : Int32)) C dX4_refusedHearing_52 ic_5 ?_
  obtain ⟨v3, M4, ev3, h⟩ := bw_c2_o h
  refine bw_cVi (pc := 53) (q := 0) (As := [.int (5 : Int32)]) (rest := []) C (tX4_found l (5 : Int32) M v3 M4 ev3) msX4_found mw_182 rfl rfl ⟨Nat.le_of_ble_eq_true rfl, Nat.le_of_ble_eq_true rfl⟩ ltC_0 shC_0 rfl rfl rfl rfl (Nat.le_of_ble_eq_true rfl) dX4_refusedHearing_53 ?_
  exact bw_ireti (pc := 56) C dX4_refusedHearing_56 h
def fX4_refusedHearing_59 (N : Nat) (x1 : Int32) (k59 : Int32 → Option (Int32 × bw_M)) (x2 : Int32) (x3 : Int32) (M : bw_M) : Option (Int32 × bw_M) :=
  if x2 ≤ x3 then
  some ((0 : Int32), M)
  else
  bw_ra 6 x1 fun j6 =>
  bw_rd M (2 + j6) 40 x3 fun v7 =>
  bw_cl (fX3_isSet 16 v7 M) fun v8 =>
  if v8 = 0 then
  bw_c2 (fX4_found (3 : Int32) M) fun v10 M11 =>
  some (v10, M11)
  else
  bw_mv (x3 + 1) fun v9 =>
  k59 v9
theorem tX4_refusedHearing_59 {p : Program} {l : Launch} {e : Env} {s : State} {m : MethodId} {args : Array Value} {below : List Frame} {meth : Method} {c : Code} {D : va_G} {kT : Nat → ClassId} {ρ : Nat → Nat} (C : bw_Cx p s m args meth c cX4_refusedHearing 4 RX4 45 D kT ρ (some .int)) (N : Nat) (x1 : Int32)  (k59 : Int32 → Option (Int32 × bw_M)) (x2 : Int32) (x3 : Int32) (M : bw_M) (rr : Int32) (zz : bw_M) (hk59 : ∀ z0, k59 z0 = some (rr, zz) → bw_At p l e rmX4_refusedHearing s m args below meth c (MQ below (bw_QI bw_shC 45 D kT ρ rr zz) args s 0 0 (bw_A ρ 45)) bw_shC 45 D kT ρ 4 59 [(0, .ref (ρ 0)), (1, .int x1), (2, .int x2), (3, .int z0)] [] M) (h : fX4_refusedHearing_59 N x1 k59 x2 x3 M = some (rr, zz)) : bw_At p l e rmX4_refusedHearing s m args below meth c (MQ below (bw_QI bw_shC 45 D kT ρ rr zz) args s 0 0 (bw_A ρ 45)) bw_shC 45 D kT ρ 4 59 [(0, .ref (ρ 0)), (1, .int x1), (2, .int x2), (3, .int x3)] [] M := by
  unfold fX4_refusedHearing_59 at h
  refine bw_iload_n (pc := 59) C 3 dX4_refusedHearing_59 rfl rfl ?_
  refine bw_iload_n (pc := 60) C 2 dX4_refusedHearing_60 rfl rfl ?_
  refine bw_icmp_ge (pc := 61) C 94 dX4_refusedHearing_61 (by decide) h (fun h => ?_) (fun h => ?_)
  · refine bw_iconst (pc := 94) (v := (0 : Int32)) C dX4_refusedHearing_94 ic_0 ?_
    exact bw_ireti (pc := 95) C dX4_refusedHearing_95 h
  · refine bw_aload_n (pc := 64) C 0 dX4_refusedHearing_64 rfl rfl ?_
    refine bw_getR (pc := 65) (q := 0) (k0 := 5) C ltC_0 shC_0 rfl inX4 mw_128 (by decide) rfl dX4_refusedHearing_65 ?_
    refine bw_aload_n (pc := 68) C 0 dX4_refusedHearing_68 rfl rfl ?_
    refine bw_getR (pc := 69) (q := 0) (k0 := 0) C ltC_0 shC_0 rfl inX4 mw_123 (by decide) rfl dX4_refusedHearing_69 ?_
    refine bw_iload_n (pc := 72) C 1 dX4_refusedHearing_72 rfl rfl ?_
    obtain ⟨qj6, j6, ej6, lj6, h⟩ := bw_ra_o h
    refine bw_aald (pc := 73) (q := 1) (ty := .array .int) C ltC_1 shC_1 rfl rfl qj6 (id_rows ej6 lj6) dX4_refusedHearing_73 ?_
    refine bw_iload_n (pc := 74) C 3 dX4_refusedHearing_74 rfl rfl ?_
    obtain ⟨qv7, v7, ev7, h⟩ := bw_rd_o h
    refine bw_iald (pc := 75) (q := (2 + j6)) C (ltC_row lj6) (shC_row lj6) qv7 ev7 dX4_refusedHearing_75 ?_
    obtain ⟨v8, ev8, h⟩ := bw_cl_o h
    refine bw_cVi (pc := 76) (q := 16) (As := [.int v7]) (rest := []) C (tX3_isSet l 16 v7 isT_16 M v8 ev8) msX3_isSet mw_452 rfl rfl ⟨Nat.le_of_ble_eq_true rfl, Nat.le_of_ble_eq_true rfl⟩ ltC_16 shC_16 rfl rfl rfl rfl (Nat.le_of_ble_eq_true rfl) dX4_refusedHearing_76 ?_
    refine bw_if_ne (pc := 79) C 88 dX4_refusedHearing_79 (by decide) h (fun h => ?_) (fun h => ?_)
    · obtain ⟨v9, ev9, h⟩ := bw_mv_o h
      refine bw_iinc (pc := 88) (x := v9) (L' := [(3, .int v9), (0, .ref (ρ 0)), (1, .int x1), (2, .int x2)]) C 3 dX4_refusedHearing_88 rfl ev9.symm (by decide) rfl ?_
      refine bw_goto (pc := 91) C 59 dX4_refusedHearing_91 (by decide) ?_
      refine bw_pick [1, 2, 3, 0] rfl ?_
      exact hk59 v9 h
    · refine bw_aload_n (pc := 82) C 0 dX4_refusedHearing_82 rfl rfl ?_
      refine bw_iconst (pc := 83) (v := (3 : Int32)) C dX4_refusedHearing_83 ic_3 ?_
      obtain ⟨v10, M11, ev10, h⟩ := bw_c2_o h
      refine bw_cVi (pc := 84) (q := 0) (As := [.int (3 : Int32)]) (rest := []) C (tX4_found l (3 : Int32) M v10 M11 ev10) msX4_found mw_182 rfl rfl ⟨Nat.le_of_ble_eq_true rfl, Nat.le_of_ble_eq_true rfl⟩ ltC_0 shC_0 rfl rfl rfl rfl (Nat.le_of_ble_eq_true rfl) dX4_refusedHearing_84 ?_
      exact bw_ireti (pc := 87) C dX4_refusedHearing_87 h
def flX4_refusedHearing_59 (N : Nat) (x1 : Int32)  (x2 : Int32) (M : bw_M) (fu : Nat) (w : Int32) : Option (Int32 × bw_M) := bw_lp (fun kk w => fX4_refusedHearing_59 N x1 kk x2 w M) fu w
theorem tlX4_refusedHearing_59 {p : Program} {l : Launch} {e : Env} {s : State} {m : MethodId} {args : Array Value} {below : List Frame} {meth : Method} {c : Code} {D : va_G} {kT : Nat → ClassId} {ρ : Nat → Nat} (C : bw_Cx p s m args meth c cX4_refusedHearing 4 RX4 45 D kT ρ (some .int)) (N : Nat) (x1 : Int32)   (x2 : Int32) (M : bw_M) (rr : Int32) (zz : bw_M)  (fu : Nat) (w : Int32) (h : flX4_refusedHearing_59 N x1 x2 M fu w = some (rr, zz)) : bw_At p l e rmX4_refusedHearing s m args below meth c (MQ below (bw_QI bw_shC 45 D kT ρ rr zz) args s 0 0 (bw_A ρ 45)) bw_shC 45 D kT ρ 4 59 [(0, .ref (ρ 0)), (1, .int x1), (2, .int x2), (3, .int w)] [] M :=
  bw_loop (r := (rr, zz)) (fun w => bw_At p l e rmX4_refusedHearing s m args below meth c (MQ below (bw_QI bw_shC 45 D kT ρ rr zz) args s 0 0 (bw_A ρ 45)) bw_shC 45 D kT ρ 4 59 [(0, .ref (ρ 0)), (1, .int x1), (2, .int x2), (3, .int w)] [] M) (fun kk hk w h => tX4_refusedHearing_59 C N x1 kk x2 w M rr zz hk h) fu w h
def fX4_refusedHearing (N : Nat) (x1 : Int32) (M : bw_M) : Option (Int32 × bw_M) :=
  bw_cl (fX4_isRow x1) fun v1 =>
  if v1 = 0 then
  some ((-1 : Int32), M)
  else
  if (M.1 16 0) = 0 then
  some ((-4 : Int32), M)
  else
  bw_rd M 8 6 x1 fun v2 =>
  if v2 = (-1 : Int32) then
  bw_c2 (fX4_found (1 : Int32) M) fun v12 M13 =>
  some (v12, M13)
  else
  if v2 < (1 : Int32) then
  fX4_refusedHearing_51 N x1 M
  else
  if v2 ≤ (10 : Int32) then
  bw_mv (0 : Int32) fun v5 =>
  flX4_refusedHearing_59 N x1 v2 M N v5
  else
  fX4_refusedHearing_51 N x1 M
theorem tX4_refusedHearing (l : Launch) (N : Nat) (x1 : Int32)  (M : bw_M) (rr : Int32) (zz : bw_M) (h : fX4_refusedHearing N x1 M = some (rr, zz)) : bw_CI l bw_shC 45 yX4_refusedHearing cX4_refusedHearing 4 (some .int) rmX4_refusedHearing (fun ρ => [.ref (ρ 0), .int x1]) M rr zz := by
  refine bw_inI (Lf := fun ρ => [(0, .ref (ρ 0)), (1, .int x1)]) cX4_refusedHearing 4 (some .int) RX4 pn_X4 rfl (fun ρ => Nat.le_of_ble_eq_true rfl) (fun ρ => rfl) ?_
  intro p e s m args below meth c D kT ρ C
  unfold fX4_refusedHearing at h
  refine bw_iload_n (pc := 0) C 1 dX4_refusedHearing_0 rfl rfl ?_
  obtain ⟨v1, ev1, h⟩ := bw_cl_o h
  refine bw_cSi (pc := 1) (As := [.int x1]) (rest := []) C (tX4_isRow l x1 M v1 ev1) msX4_isRow mw_179 rfl rfl ⟨Nat.le_of_ble_eq_true rfl, Nat.le_of_ble_eq_true rfl⟩ rfl rfl rfl (Nat.le_of_ble_eq_true rfl) dX4_refusedHearing_1 ?_
  refine bw_if_ne (pc := 4) C 9 dX4_refusedHearing_4 (by decide) h (fun h => ?_) (fun h => ?_)
  · refine bw_aload_n (pc := 9) C 0 dX4_refusedHearing_9 rfl rfl ?_
    refine bw_getR (pc := 10) (q := 0) (k0 := 5) C ltC_0 shC_0 rfl inX4 mw_128 (by decide) rfl dX4_refusedHearing_10 ?_
    refine bw_getI (pc := 13) (q := 16) (k0 := 0) C ltC_16 shC_16 rfl inX3 mw_49 (by decide) rfl dX4_refusedHearing_13 ?_
    refine bw_if_ne (pc := 16) C 22 dX4_refusedHearing_16 (by decide) h (fun h => ?_) (fun h => ?_)
    · refine bw_aload_n (pc := 22) C 0 dX4_refusedHearing_22 rfl rfl ?_
      refine bw_getR (pc := 23) (q := 0) (k0 := 1) C ltC_0 shC_0 rfl inX4 mw_124 (by decide) rfl dX4_refusedHearing_23 ?_
      refine bw_iload_n (pc := 26) C 1 dX4_refusedHearing_26 rfl rfl ?_
      obtain ⟨qv2, v2, ev2, h⟩ := bw_rd_o h
      refine bw_iald (pc := 27) (q := 8) C ltC_8 shC_8 qv2 ev2 dX4_refusedHearing_27 ?_
      refine bw_istore_n (pc := 28) (L' := [(2, .int v2), (0, .ref (ρ 0)), (1, .int x1)]) C dX4_refusedHearing_28 rfl (by decide) rfl ?_
      refine bw_iload_n (pc := 29) C 0 dX4_refusedHearing_29 rfl rfl ?_
      refine bw_iconst (pc := 30) (v := (-1 : Int32)) C dX4_refusedHearing_30 ic_m1 ?_
      refine bw_icmp_ne (pc := 31) C 40 dX4_refusedHearing_31 (by decide) h (fun h => ?_) (fun h => ?_)
      · refine bw_iload_n (pc := 40) C 0 dX4_refusedHearing_40 rfl rfl ?_
        refine bw_iconst (pc := 41) (v := (1 : Int32)) C dX4_refusedHearing_41 ic_1 ?_
        refine bw_icmp_lt (pc := 42) C 51 dX4_refusedHearing_42 (by decide) h (fun h => ?_) (fun h => ?_)
        · refine bw_pick [1, 2] rfl ?_
          exact tX4_refusedHearing_51 C N x1 M rr zz h
        · refine bw_iload_n (pc := 45) C 0 dX4_refusedHearing_45 rfl rfl ?_
          refine bw_bipush (pc := 46) (v := (10 : Int32)) C dX4_refusedHearing_46 bi_10 ?_
          refine bw_icmp_le (pc := 48) C 57 dX4_refusedHearing_48 (by decide) h (fun h => ?_) (fun h => ?_)
          · refine bw_iconst (pc := 57) (v := (0 : Int32)) C dX4_refusedHearing_57 ic_0 ?_
            obtain ⟨v5, ev5, h⟩ := bw_mv_o h
            refine bw_nmI ev5 ?_
            refine bw_istore_n (pc := 58) (L' := [(3, .int v5), (2, .int v2), (0, .ref (ρ 0)), (1, .int x1)]) C dX4_refusedHearing_58 rfl (by decide) rfl ?_
            refine bw_pick [2, 3, 1, 0] rfl ?_
            exact tlX4_refusedHearing_59 C N x1 v2 M rr zz N v5 h
          · refine bw_pick [1, 2] rfl ?_
            exact tX4_refusedHearing_51 C N x1 M rr zz h
      · refine bw_aload_n (pc := 34) C 1 dX4_refusedHearing_34 rfl rfl ?_
        refine bw_iconst (pc := 35) (v := (1 : Int32)) C dX4_refusedHearing_35 ic_1 ?_
        obtain ⟨v12, M13, ev12, h⟩ := bw_c2_o h
        refine bw_cVi (pc := 36) (q := 0) (As := [.int (1 : Int32)]) (rest := []) C (tX4_found l (1 : Int32) M v12 M13 ev12) msX4_found mw_182 rfl rfl ⟨Nat.le_of_ble_eq_true rfl, Nat.le_of_ble_eq_true rfl⟩ ltC_0 shC_0 rfl rfl rfl rfl (Nat.le_of_ble_eq_true rfl) dX4_refusedHearing_36 ?_
        exact bw_ireti (pc := 39) C dX4_refusedHearing_39 h
    · refine bw_bipush (pc := 19) (v := (-4 : Int32)) C dX4_refusedHearing_19 bi_m4 ?_
      exact bw_ireti (pc := 21) C dX4_refusedHearing_21 h
  · refine bw_iconst (pc := 7) (v := (-1 : Int32)) C dX4_refusedHearing_7 ic_m1 ?_
    exact bw_ireti (pc := 8) C dX4_refusedHearing_8 h
/-! X4_trialSpeaksLike -/
abbrev rmX4_trialSpeaksLike : Room := { frames := 4, cells := 0, slots := 0, locals := 88 }
theorem msX4_trialSpeaksLike : bw_MV yX4_trialSpeaksLike cX4_trialSpeaksLike 4 (some .boolean) RX4 1 := ⟨mw_475, mw_1083, mw_1, mw_476, by decide +kernel⟩
def fX4_trialSpeaksLike_48 (N : Nat) (x1 : Int32)  (x2 : Int32) (M : bw_M) : Option (Int32 × bw_M) :=
  bw_ck (bw_isb x2) (some (x2, M))
theorem tX4_trialSpeaksLike_48 {p : Program} {l : Launch} {e : Env} {s : State} {m : MethodId} {args : Array Value} {below : List Frame} {meth : Method} {c : Code} {D : va_G} {kT : Nat → ClassId} {ρ : Nat → Nat} (C : bw_Cx p s m args meth c cX4_trialSpeaksLike 4 RX4 45 D kT ρ (some .boolean)) (N : Nat) (x1 : Int32)   (x2 : Int32) (M : bw_M) (rr : Int32) (zz : bw_M)  (h : fX4_trialSpeaksLike_48 N x1 x2 M = some (rr, zz)) : bw_At p l e rmX4_trialSpeaksLike s m args below meth c (MQ below (bw_QI bw_shC 45 D kT ρ rr zz) args s 0 0 (bw_A ρ 45)) bw_shC 45 D kT ρ 4 48 [(0, .ref (ρ 0)), (1, .int x1), (2, .int x2)] [] M := by
  unfold fX4_trialSpeaksLike_48 at h
  refine bw_iload_n (pc := 48) C 2 dX4_trialSpeaksLike_48 rfl rfl ?_
  obtain ⟨q3, h⟩ := bw_ck_o h
  exact bw_iretz (pc := 49) C (nz_b q3) dX4_trialSpeaksLike_49 h
def fX4_trialSpeaksLike_41 (N : Nat) (x1 : Int32) (k4 : Int32 × Int32 × bw_M → Option (Int32 × bw_M)) (x3 : Int32) (s0 : Int32) (M : bw_M) : Option (Int32 × bw_M) :=
  bw_mv (x3 + 1) fun v9 =>
  k4 (s0, v9, M)
theorem tX4_trialSpeaksLike_41 {p : Program} {l : Launch} {e : Env} {s : State} {m : MethodId} {args : Array Value} {below : List Frame} {meth : Method} {c : Code} {D : va_G} {kT : Nat → ClassId} {ρ : Nat → Nat} (C : bw_Cx p s m args meth c cX4_trialSpeaksLike 4 RX4 45 D kT ρ (some .boolean)) (N : Nat) (x1 : Int32)  (k4 : Int32 × Int32 × bw_M → Option (Int32 × bw_M)) (x3 : Int32) (s0 : Int32) (M : bw_M) (rr : Int32) (zz : bw_M) (hk4 : ∀ z0, k4 z0 = some (rr, zz) → bw_At p l e rmX4_trialSpeaksLike s m args below meth c (MQ below (bw_QI bw_shC 45 D kT ρ rr zz) args s 0 0 (bw_A ρ 45)) bw_shC 45 D kT ρ 4 4 [(0, .ref (ρ 0)), (1, .int x1), (2, .int z0.1), (3, .int z0.2.1)] [] z0.2.2) (h : fX4_trialSpeaksLike_41 N x1 k4 x3 s0 M = some (rr, zz)) : bw_At p l e rmX4_trialSpeaksLike s m args below meth c (MQ below (bw_QI bw_shC 45 D kT ρ rr zz) args s 0 0 (bw_A ρ 45)) bw_shC 45 D kT ρ 4 41 [(0, .ref (ρ 0)), (1, .int x1), (3, .int x3)] [.int s0] M := by
  unfold fX4_trialSpeaksLike_41 at h
  refine bw_istore_n (pc := 41) (L' := [(2, .int s0), (0, .ref (ρ 0)), (1, .int x1), (3, .int x3)]) C dX4_trialSpeaksLike_41 rfl (by decide) rfl ?_
  obtain ⟨v9, ev9, h⟩ := bw_mv_o h
  refine bw_iinc (pc := 42) (x := v9) (L' := [(3, .int v9), (2, .int s0), (0, .ref (ρ 0)), (1, .int x1)]) C 3 dX4_trialSpeaksLike_42 rfl ev9.symm (by decide) rfl ?_
  refine bw_goto (pc := 45) C 4 dX4_trialSpeaksLike_45 (by decide) ?_
  refine bw_pick [2, 3, 1, 0] rfl ?_
  exact hk4 (s0, v9, M) h
def fX4_trialSpeaksLike_4 (N : Nat) (x1 : Int32) (k4 : Int32 × Int32 × bw_M → Option (Int32 × bw_M)) (x2 : Int32) (x3 : Int32) (M : bw_M) : Option (Int32 × bw_M) :=
  if x2 = 0 then
  fX4_trialSpeaksLike_48 N x1 x2 M
  else
  bw_rd M 8 6 x1 fun v4 =>
  if v4 ≤ x3 then
  fX4_trialSpeaksLike_48 N x1 x2 M
  else
  bw_c2 (fX3_blow N 22 M) fun v5 M6 =>
  bw_ra 6 x1 fun j7 =>
  bw_rd M6 (2 + j7) 40 x3 fun v8 =>
  if v5 = v8 then
  fX4_trialSpeaksLike_41 N x1 k4 x3 (1 : Int32) M6
  else
  fX4_trialSpeaksLike_41 N x1 k4 x3 (0 : Int32) M6
theorem tX4_trialSpeaksLike_4 {p : Program} {l : Launch} {e : Env} {s : State} {m : MethodId} {args : Array Value} {below : List Frame} {meth : Method} {c : Code} {D : va_G} {kT : Nat → ClassId} {ρ : Nat → Nat} (C : bw_Cx p s m args meth c cX4_trialSpeaksLike 4 RX4 45 D kT ρ (some .boolean)) (N : Nat) (x1 : Int32)  (k4 : Int32 × Int32 × bw_M → Option (Int32 × bw_M)) (x2 : Int32) (x3 : Int32) (M : bw_M) (rr : Int32) (zz : bw_M) (hk4 : ∀ z0, k4 z0 = some (rr, zz) → bw_At p l e rmX4_trialSpeaksLike s m args below meth c (MQ below (bw_QI bw_shC 45 D kT ρ rr zz) args s 0 0 (bw_A ρ 45)) bw_shC 45 D kT ρ 4 4 [(0, .ref (ρ 0)), (1, .int x1), (2, .int z0.1), (3, .int z0.2.1)] [] z0.2.2) (h : fX4_trialSpeaksLike_4 N x1 k4 x2 x3 M = some (rr, zz)) : bw_At p l e rmX4_trialSpeaksLike s m args below meth c (MQ below (bw_QI bw_shC 45 D kT ρ rr zz) args s 0 0 (bw_A ρ 45)) bw_shC 45 D kT ρ 4 4 [(0, .ref (ρ 0)), (1, .int x1), (2, .int x2), (3, .int x3)] [] M := by
  unfold fX4_trialSpeaksLike_4 at h
  refine bw_iload_n (pc := 4) C 2 dX4_trialSpeaksLike_4 rfl rfl ?_
  refine bw_if_eq (pc := 5) C 48 dX4_trialSpeaksLike_5 (by decide) h (fun h => ?_) (fun h => ?_)
  · refine bw_pick [0, 1, 2] rfl ?_
    exact tX4_trialSpeaksLike_48 C N x1 x2 M rr zz h
  · refine bw_iload_n (pc := 8) C 3 dX4_trialSpeaksLike_8 rfl rfl ?_
    refine bw_aload_n (pc := 9) C 0 dX4_trialSpeaksLike_9 rfl rfl ?_
    refine bw_getR (pc := 10) (q := 0) (k0 := 1) C ltC_0 shC_0 rfl inX4 mw_124 (by decide) rfl dX4_trialSpeaksLike_10 ?_
    refine bw_iload_n (pc := 13) C 1 dX4_trialSpeaksLike_13 rfl rfl ?_
    obtain ⟨qv4, v4, ev4, h⟩ := bw_rd_o h
    refine bw_iald (pc := 14) (q := 8) C ltC_8 shC_8 qv4 ev4 dX4_trialSpeaksLike_14 ?_
    refine bw_icmp_ge (pc := 15) C 48 dX4_trialSpeaksLike_15 (by decide) h (fun h => ?_) (fun h => ?_)
    · refine bw_pick [0, 1, 2] rfl ?_
      exact tX4_trialSpeaksLike_48 C N x1 x2 M rr zz h
    · refine bw_aload_n (pc := 18) C 0 dX4_trialSpeaksLike_18 rfl rfl ?_
      refine bw_getR (pc := 19) (q := 0) (k0 := 6) C ltC_0 shC_0 rfl inX4 mw_129 (by decide) rfl dX4_trialSpeaksLike_19 ?_
      obtain ⟨v5, M6, ev5, h⟩ := bw_c2_o h
      refine bw_cVi (pc := 22) (q := 22) (As := []) (rest := []) C (tX3_blow l N 22 isT_22 M v5 M6 ev5) msX3_blow mw_417 rfl rfl ⟨Nat.le_of_ble_eq_true rfl, Nat.le_of_ble_eq_true rfl⟩ ltC_22 shC_22 rfl rfl rfl rfl (Nat.le_of_ble_eq_true rfl) dX4_trialSpeaksLike_22 ?_
      refine bw_aload_n (pc := 25) C 0 dX4_trialSpeaksLike_25 rfl rfl ?_
      refine bw_getR (pc := 26) (q := 0) (k0 := 0) C ltC_0 shC_0 rfl inX4 mw_123 (by decide) rfl dX4_trialSpeaksLike_26 ?_
      refine bw_iload_n (pc := 29) C 1 dX4_trialSpeaksLike_29 rfl rfl ?_
      obtain ⟨qj7, j7, ej7, lj7, h⟩ := bw_ra_o h
      refine bw_aald (pc := 30) (q := 1) (ty := .array .int) C ltC_1 shC_1 rfl rfl qj7 (id_rows ej7 lj7) dX4_trialSpeaksLike_30 ?_
      refine bw_iload_n (pc := 31) C 3 dX4_trialSpeaksLike_31 rfl rfl ?_
      obtain ⟨qv8, v8, ev8, h⟩ := bw_rd_o h
      refine bw_iald (pc := 32) (q := (2 + j7)) C (ltC_row lj7) (shC_row lj7) qv8 ev8 dX4_trialSpeaksLike_32 ?_
      refine bw_icmp_ne (pc := 33) C 40 dX4_trialSpeaksLike_33 (by decide) h (fun h => ?_) (fun h => ?_)
      · refine bw_iconst (pc := 40) (v := (0 : Int32)) C dX4_trialSpeaksLike_40 ic_0 ?_
        refine bw_pick [0, 1, 3] rfl ?_
        exact tX4_trialSpeaksLike_41 C N x1 k4 x3 (0 : Int32) M6 rr zz hk4 h
      · refine bw_iconst (pc := 36) (v := (1 : Int32)) C dX4_trialSpeaksLike_36 ic_1 ?_
        refine bw_goto (pc := 37) C 41 dX4_trialSpeaksLike_37 (by decide) ?_
        refine bw_pick [0, 1, 3] rfl ?_
        exact tX4_trialSpeaksLike_41 C N x1 k4 x3 (1 : Int32) M6 rr zz hk4 h
def flX4_trialSpeaksLike_4 (N : Nat) (x1 : Int32)    (fu : Nat) (w : Int32 × Int32 × bw_M) : Option (Int32 × bw_M) := bw_lp (fun kk w => fX4_trialSpeaksLike_4 N x1 kk w.1 w.2.1 w.2.2) fu w
theorem tlX4_trialSpeaksLike_4 {p : Program} {l : Launch} {e : Env} {s : State} {m : MethodId} {args : Array Value} {below : List Frame} {meth : Method} {c : Code} {D : va_G} {kT : Nat → ClassId} {ρ : Nat → Nat} (C : bw_Cx p s m args meth c cX4_trialSpeaksLike 4 RX4 45 D kT ρ (some .boolean)) (N : Nat) (x1 : Int32)     (rr : Int32) (zz : bw_M)  (fu : Nat) (w : Int32 × Int32 × bw_M) (h : flX4_trialSpeaksLike_4 N x1 fu w = some (rr, zz)) : bw_At p l e rmX4_trialSpeaksLike s m args below meth c (MQ below (bw_QI bw_shC 45 D kT ρ rr zz) args s 0 0 (bw_A ρ 45)) bw_shC 45 D kT ρ 4 4 [(0, .ref (ρ 0)), (1, .int x1), (2, .int w.1), (3, .int w.2.1)] [] w.2.2 :=
  bw_loop (r := (rr, zz)) (fun w => bw_At p l e rmX4_trialSpeaksLike s m args below meth c (MQ below (bw_QI bw_shC 45 D kT ρ rr zz) args s 0 0 (bw_A ρ 45)) bw_shC 45 D kT ρ 4 4 [(0, .ref (ρ 0)), (1, .int x1), (2, .int w.1), (3, .int w.2.1)] [] w.2.2) (fun kk hk w h => tX4_trialSpeaksLike_4 C N x1 kk w.1 w.2.1 w.2.2 rr zz hk h) fu w h
def fX4_trialSpeaksLike (N : Nat) (x1 : Int32) (M : bw_M) : Option (Int32 × bw_M) :=
  bw_mv (1 : Int32) fun v1 =>
  bw_mv (0 : Int32) fun v2 =>
  flX4_trialSpeaksLike_4 N x1 N (v1, v2, M)
theorem tX4_trialSpeaksLike (l : Launch) (N : Nat) (x1 : Int32)  (M : bw_M) (rr : Int32) (zz : bw_M) (h : fX4_trialSpeaksLike N x1 M = some (rr, zz)) : bw_CI l bw_shC 45 yX4_trialSpeaksLike cX4_trialSpeaksLike 4 (some .boolean) rmX4_trialSpeaksLike (fun ρ => [.ref (ρ 0), .int x1]) M rr zz := by
  refine bw_inI (Lf := fun ρ => [(0, .ref (ρ 0)), (1, .int x1)]) cX4_trialSpeaksLike 4 (some .boolean) RX4 pn_X4 rfl (fun ρ => Nat.le_of_ble_eq_true rfl) (fun ρ => rfl) ?_
  intro p e s m args below meth c D kT ρ C
  unfold fX4_trialSpeaksLike at h
  refine bw_iconst (pc := 0) (v := (1 : Int32)) C dX4_trialSpeaksLike_0 ic_1 ?_
  obtain ⟨v1, ev1, h⟩ := bw_mv_o h
  refine bw_nmI ev1 ?_
  refine bw_istore_n (pc := 1) (L' := [(2, .int v1), (0, .ref (ρ 0)), (1, .int x1)]) C dX4_trialSpeaksLike_1 rfl (by decide) rfl ?_
  refine bw_iconst (pc := 2) (v := (0 : Int32)) C dX4_trialSpeaksLike_2 ic_0 ?_
  obtain ⟨v2, ev2, h⟩ := bw_mv_o h
  refine bw_nmI ev2 ?_
  refine bw_istore_n (pc := 3) (L' := [(3, .int v2), (2, .int v1), (0, .ref (ρ 0)), (1, .int x1)]) C dX4_trialSpeaksLike_3 rfl (by decide) rfl ?_
  refine bw_pick [2, 3, 1, 0] rfl ?_
  exact tlX4_trialSpeaksLike_4 C N x1 rr zz N (v1, v2, M) h
/-! X4_kinds -/
abbrev rmX4_kinds : Room := { frames := 5, cells := 0, slots := 0, locals := 111 }
theorem msX4_kinds : bw_MV yX4_kinds cX4_kinds 6 (some .int) RX4 2 := ⟨mw_501, mw_502, mw_1, mw_503, by decide +kernel⟩
def fX4_kinds_77 (N : Nat) (x1 : Int32) (x2 : Int32) (k31 : Int32 × Int32 × bw_M → Option (Int32 × bw_M)) (x4 : Int32) (x5 : Int32) (M : bw_M) : Option (Int32 × bw_M) :=
  bw_mv (x5 + 1) fun v10 =>
  k31 (x4, v10, M)
theorem tX4_kinds_77 {p : Program} {l : Launch} {e : Env} {s : State} {m : MethodId} {args : Array Value} {below : List Frame} {meth : Method} {c : Code} {D : va_G} {kT : Nat → ClassId} {ρ : Nat → Nat} (C : bw_Cx p s m args meth c cX4_kinds 6 RX4 45 D kT ρ (some .int)) (N : Nat) (x1 : Int32) (x2 : Int32)  (k31 : Int32 × Int32 × bw_M → Option (Int32 × bw_M)) (x4 : Int32) (x5 : Int32) (M : bw_M) (rr : Int32) (zz : bw_M) (hk31 : ∀ z0, k31 z0 = some (rr, zz) → bw_At p l e rmX4_kinds s m args below meth c (MQ below (bw_QI bw_shC 45 D kT ρ rr zz) args s 0 0 (bw_A ρ 45)) bw_shC 45 D kT ρ 6 31 [(0, .ref (ρ 0)), (1, .int x1), (2, .int x2), (4, .int z0.1), (5, .int z0.2.1)] [] z0.2.2) (h : fX4_kinds_77 N x1 x2 k31 x4 x5 M = some (rr, zz)) : bw_At p l e rmX4_kinds s m args below meth c (MQ below (bw_QI bw_shC 45 D kT ρ rr zz) args s 0 0 (bw_A ρ 45)) bw_shC 45 D kT ρ 6 77 [(0, .ref (ρ 0)), (1, .int x1), (2, .int x2), (4, .int x4), (5, .int x5)] [] M := by
  unfold fX4_kinds_77 at h
  obtain ⟨v10, ev10, h⟩ := bw_mv_o h
  refine bw_iinc (pc := 77) (x := v10) (L' := [(5, .int v10), (0, .ref (ρ 0)), (1, .int x1), (2, .int x2), (4, .int x4)]) C 4 dX4_kinds_77 rfl ev10.symm (by decide) rfl ?_
  refine bw_goto (pc := 80) C 31 dX4_kinds_80 (by decide) ?_
  refine bw_pick [1, 2, 3, 4, 0] rfl ?_
  exact hk31 (x4, v10, M) h
def fX4_kinds_31 (N : Nat) (x1 : Int32) (x2 : Int32) (k31 : Int32 × Int32 × bw_M → Option (Int32 × bw_M)) (x4 : Int32) (x5 : Int32) (M : bw_M) : Option (Int32 × bw_M) :=
  if (6 : Int32) ≤ x5 then
  some (x4, M)
  else
  bw_cl (fX3_become N 22 16 M) fun M6 =>
  bw_wr M6 23 6 x1 x5 fun M7 =>
  bw_c2 (fX4_trialSpeaksLike N x2 M7) fun v8 M9 =>
  if v8 = 0 then
  fX4_kinds_77 N x1 x2 k31 x4 x5 M9
  else
  bw_mv (x4 ||| ((1 : Int32) <<< (x5 &&& 31))) fun v11 =>
  fX4_kinds_77 N x1 x2 k31 v11 x5 M9
theorem tX4_kinds_31 {p : Program} {l : Launch} {e : Env} {s : State} {m : MethodId} {args : Array Value} {below : List Frame} {meth : Method} {c : Code} {D : va_G} {kT : Nat → ClassId} {ρ : Nat → Nat} (C : bw_Cx p s m args meth c cX4_kinds 6 RX4 45 D kT ρ (some .int)) (N : Nat) (x1 : Int32) (x2 : Int32)  (k31 : Int32 × Int32 × bw_M → Option (Int32 × bw_M)) (x4 : Int32) (x5 : Int32) (M : bw_M) (rr : Int32) (zz : bw_M) (hk31 : ∀ z0, k31 z0 = some (rr, zz) → bw_At p l e rmX4_kinds s m args below meth c (MQ below (bw_QI bw_shC 45 D kT ρ rr zz) args s 0 0 (bw_A ρ 45)) bw_shC 45 D kT ρ 6 31 [(0, .ref (ρ 0)), (1, .int x1), (2, .int x2), (4, .int z0.1), (5, .int z0.2.1)] [] z0.2.2) (h : fX4_kinds_31 N x1 x2 k31 x4 x5 M = some (rr, zz)) : bw_At p l e rmX4_kinds s m args below meth c (MQ below (bw_QI bw_shC 45 D kT ρ rr zz) args s 0 0 (bw_A ρ 45)) bw_shC 45 D kT ρ 6 31 [(0, .ref (ρ 0)), (1, .int x1), (2, .int x2), (4, .int x4), (5, .int x5)] [] M := by
  unfold fX4_kinds_31 at h
  refine bw_iload (pc := 31) C 4 dX4_kinds_31 rfl ?_
  refine bw_bipush (pc := 33) (v := (6 : Int32)) C dX4_kinds_33 bi_6 ?_
  refine bw_icmp_ge (pc := 35) C 83 dX4_kinds_35 (by decide) h (fun h => ?_) (fun h => ?_)
  · refine bw_iload (pc := 83) C 3 dX4_kinds_83 rfl ?_
    exact bw_ireti (pc := 85) C dX4_kinds_85 h
  · refine bw_aload_n (pc := 38) C 0 dX4_kinds_38 rfl rfl ?_
    refine bw_getR (pc := 39) (q := 0) (k0 := 6) C ltC_0 shC_0 rfl inX4 mw_129 (by decide) rfl dX4_kinds_39 ?_
    refine bw_aload_n (pc := 42) C 0 dX4_kinds_42 rfl rfl ?_
    refine bw_getR (pc := 43) (q := 0) (k0 := 5) C ltC_0 shC_0 rfl inX4 mw_128 (by decide) rfl dX4_kinds_43 ?_
    obtain ⟨M6, eM6, h⟩ := bw_cl_o h
    refine bw_cVv (pc := 46) (q := 22) (As := [.ref (ρ 16)]) (rest := []) C (tX3_become l N 22 16 isT_22 isT_16 M M6 eM6) msX3_become mw_282 rfl rfl ⟨Nat.le_of_ble_eq_true rfl, Nat.le_of_ble_eq_true rfl⟩ ltC_22 shC_22 rfl rfl rfl rfl (Nat.le_of_ble_eq_true rfl) dX4_kinds_46 ?_
    refine bw_aload_n (pc := 49) C 0 dX4_kinds_49 rfl rfl ?_
    refine bw_getR (pc := 50) (q := 0) (k0 := 6) C ltC_0 shC_0 rfl inX4 mw_129 (by decide) rfl dX4_kinds_50 ?_
    refine bw_getR (pc := 53) (q := 22) (k0 := 8) C ltC_22 shC_22 rfl inX3 mw_63 (by decide) rfl dX4_kinds_53 ?_
    refine bw_iload_n (pc := 56) C 1 dX4_kinds_56 rfl rfl ?_
    refine bw_iload (pc := 57) C 4 dX4_kinds_57 rfl ?_
    obtain ⟨qM7, M7, eM7, h⟩ := bw_wr_o h
    refine bw_iast (pc := 59) (q := 23) C ltC_23 shC_23 qM7 eM7 dX4_kinds_59 ?_
    refine bw_aload_n (pc := 60) C 0 dX4_kinds_60 rfl rfl ?_
    refine bw_iload_n (pc := 61) C 2 dX4_kinds_61 rfl rfl ?_
    obtain ⟨v8, M9, ev8, h⟩ := bw_c2_o h
    refine bw_cVi (pc := 62) (q := 0) (As := [.int x2]) (rest := []) C (tX4_trialSpeaksLike l N x2 M7 v8 M9 ev8) msX4_trialSpeaksLike mw_473 rfl rfl ⟨Nat.le_of_ble_eq_true rfl, Nat.le_of_ble_eq_true rfl⟩ ltC_0 shC_0 rfl rfl rfl rfl (Nat.le_of_ble_eq_true rfl) dX4_kinds_62 ?_
    refine bw_if_eq (pc := 65) C 77 dX4_kinds_65 (by decide) h (fun h => ?_) (fun h => ?_)
    · refine bw_pick [0, 1, 2, 3, 4] rfl ?_
      exact tX4_kinds_77 C N x1 x2 k31 x4 x5 M9 rr zz hk31 h
    · refine bw_iload (pc := 68) C 3 dX4_kinds_68 rfl ?_
      refine bw_iconst (pc := 70) (v := (1 : Int32)) C dX4_kinds_70 ic_1 ?_
      refine bw_iload (pc := 71) C 4 dX4_kinds_71 rfl ?_
      refine bw_ishl (pc := 73) C dX4_kinds_73 ?_
      refine bw_ior (pc := 74) C dX4_kinds_74 ?_
      obtain ⟨v11, ev11, h⟩ := bw_mv_o h
      refine bw_nmI ev11 ?_
      refine bw_istore (pc := 75) (L' := [(4, .int v11), (0, .ref (ρ 0)), (1, .int x1), (2, .int x2), (5, .int x5)]) C dX4_kinds_75 (by decide) rfl ?_
      refine bw_pick [1, 2, 3, 0, 4] rfl ?_
      exact tX4_kinds_77 C N x1 x2 k31 v11 x5 M9 rr zz hk31 h
def flX4_kinds_31 (N : Nat) (x1 : Int32) (x2 : Int32)    (fu : Nat) (w : Int32 × Int32 × bw_M) : Option (Int32 × bw_M) := bw_lp (fun kk w => fX4_kinds_31 N x1 x2 kk w.1 w.2.1 w.2.2) fu w
theorem tlX4_kinds_31 {p : Program} {l : Launch} {e : Env} {s : State} {m : MethodId} {args : Array Value} {below : List Frame} {meth : Method} {c : Code} {D : va_G} {kT : Nat → ClassId} {ρ : Nat → Nat} (C : bw_Cx p s m args meth c cX4_kinds 6 RX4 45 D kT ρ (some .int)) (N : Nat) (x1 : Int32) (x2 : Int32)     (rr : Int32) (zz : bw_M)  (fu : Nat) (w : Int32 × Int32 × bw_M) (h : flX4_kinds_31 N x1 x2 fu w = some (rr, zz)) : bw_At p l e rmX4_kinds s m args below meth c (MQ below (bw_QI bw_shC 45 D kT ρ rr zz) args s 0 0 (bw_A ρ 45)) bw_shC 45 D kT ρ 6 31 [(0, .ref (ρ 0)), (1, .int x1), (2, .int x2), (4, .int w.1), (5, .int w.2.1)] [] w.2.2 :=
  bw_loop (r := (rr, zz)) (fun w => bw_At p l e rmX4_kinds s m args below meth c (MQ below (bw_QI bw_shC 45 D kT ρ rr zz) args s 0 0 (bw_A ρ 45)) bw_shC 45 D kT ρ 6 31 [(0, .ref (ρ 0)), (1, .int x1), (2, .int x2), (4, .int w.1), (5, .int w.2.1)] [] w.2.2) (fun kk hk w h => tX4_kinds_31 C N x1 x2 kk w.1 w.2.1 w.2.2 rr zz hk h) fu w h
def fX4_kinds (N : Nat) (x1 : Int32) (x2 : Int32) (M : bw_M) : Option (Int32 × bw_M) :=
  bw_cl (fX3_hasPipe 16 x1 M) fun v1 =>
  if v1 = 0 then
  some ((-1 : Int32), M)
  else
  bw_c2 (fX4_refusedHearing N x2 M) fun v2 M3 =>
  if v2 = 0 then
  bw_mv (0 : Int32) fun v4 =>
  bw_mv (0 : Int32) fun v5 =>
  flX4_kinds_31 N x1 x2 N (v4, v5, M3)
  else
  some (v2, M3)
theorem tX4_kinds (l : Launch) (N : Nat) (x1 : Int32) (x2 : Int32)  (M : bw_M) (rr : Int32) (zz : bw_M) (h : fX4_kinds N x1 x2 M = some (rr, zz)) : bw_CI l bw_shC 45 yX4_kinds cX4_kinds 6 (some .int) rmX4_kinds (fun ρ => [.ref (ρ 0), .int x1, .int x2]) M rr zz := by
  refine bw_inI (Lf := fun ρ => [(0, .ref (ρ 0)), (1, .int x1), (2, .int x2)]) cX4_kinds 6 (some .int) RX4 pn_X4 rfl (fun ρ => Nat.le_of_ble_eq_true rfl) (fun ρ => rfl) ?_
  intro p e s m args below meth c D kT ρ C
  unfold fX4_kinds at h
  refine bw_aload_n (pc := 0) C 0 dX4_kinds_0 rfl rfl ?_
  refine bw_getR (pc := 1) (q := 0) (k0 := 5) C ltC_0 shC_0 rfl inX4 mw_128 (by decide) rfl dX4_kinds_1 ?_
  refine bw_iload_n (pc := 4) C 1 dX4_kinds_4 rfl rfl ?_
  obtain ⟨v1, ev1, h⟩ := bw_cl_o h
  refine bw_cVi (pc := 5) (q := 16) (As := [.int x1]) (rest := []) C (tX3_hasPipe l 16 x1 isT_16 M v1 ev1) msX3_hasPipe mw_290 rfl rfl ⟨Nat.le_of_ble_eq_true rfl, Nat.le_of_ble_eq_true rfl⟩ ltC_16 shC_16 rfl rfl rfl rfl (Nat.le_of_ble_eq_true rfl) dX4_kinds_5 ?_
  refine bw_if_ne (pc := 8) C 13 dX4_kinds_8 (by decide) h (fun h => ?_) (fun h => ?_)
  · refine bw_aload_n (pc := 13) C 0 dX4_kinds_13 rfl rfl ?_
    refine bw_iload_n (pc := 14) C 2 dX4_kinds_14 rfl rfl ?_
    obtain ⟨v2, M3, ev2, h⟩ := bw_c2_o h
    refine bw_cVi (pc := 15) (q := 0) (As := [.int x2]) (rest := []) C (tX4_refusedHearing l N x2 M v2 M3 ev2) msX4_refusedHearing mw_465 rfl rfl ⟨Nat.le_of_ble_eq_true rfl, Nat.le_of_ble_eq_true rfl⟩ ltC_0 shC_0 rfl rfl rfl rfl (Nat.le_of_ble_eq_true rfl) dX4_kinds_15 ?_
    refine bw_istore_n (pc := 18) (L' := [(3, .int v2), (0, .ref (ρ 0)), (1, .int x1), (2, .int x2)]) C dX4_kinds_18 rfl (by decide) rfl ?_
    refine bw_iload_n (pc := 19) C 0 dX4_kinds_19 rfl rfl ?_
    refine bw_if_eq (pc := 20) C 25 dX4_kinds_20 (by decide) h (fun h => ?_) (fun h => ?_)
    · refine bw_iconst (pc := 25) (v := (0 : Int32)) C dX4_kinds_25 ic_0 ?_
      obtain ⟨v4, ev4, h⟩ := bw_mv_o h
      refine bw_nmI ev4 ?_
      refine bw_istore (pc := 26) (L' := [(4, .int v4), (3, .int v2), (0, .ref (ρ 0)), (1, .int x1), (2, .int x2)]) C dX4_kinds_26 (by decide) rfl ?_
      refine bw_iconst (pc := 28) (v := (0 : Int32)) C dX4_kinds_28 ic_0 ?_
      obtain ⟨v5, ev5, h⟩ := bw_mv_o h
      refine bw_nmI ev5 ?_
      refine bw_istore (pc := 29) (L' := [(5, .int v5), (4, .int v4), (3, .int v2), (0, .ref (ρ 0)), (1, .int x1), (2, .int x2)]) C dX4_kinds_29 (by decide) rfl ?_
      refine bw_pick [3, 4, 5, 1, 0] rfl ?_
      exact tlX4_kinds_31 C N x1 x2 rr zz N (v4, v5, M3) h
    · refine bw_iload_n (pc := 23) C 0 dX4_kinds_23 rfl rfl ?_
      exact bw_ireti (pc := 24) C dX4_kinds_24 h
  · refine bw_iconst (pc := 11) (v := (-1 : Int32)) C dX4_kinds_11 ic_m1 ?_
    exact bw_ireti (pc := 12) C dX4_kinds_12 h
/-! X4_lay -/
abbrev rmX4_lay : Room := { frames := 2, cells := 0, slots := 0, locals := 44 }
theorem msX4_lay : bw_MV yX4_lay cX4_lay 6 (some .int) RX4 3 := ⟨mw_187, mw_188, mw_1, mw_189, by decide +kernel⟩
def fX4_lay (x1 : Int32) (x2 : Int32) (x3 : Int32) (M : bw_M) : Option (Int32 × bw_M) :=
  bw_c2 (fX4_refusedPlace x1 x2 M) fun v1 M2 =>
  if v1 = 0 then
  bw_ra 6 x1 fun j3 =>
  bw_rd M2 (2 + j3) 40 x2 fun v4 =>
  bw_ra 6 x1 fun j5 =>
  bw_wr M2 (2 + j5) 40 x2 x3 fun M6 =>
  bw_c2 (fX4_tell v4 M6) fun v7 M8 =>
  some (v7, M8)
  else
  some (v1, M2)
theorem tX4_lay (l : Launch) (x1 : Int32) (x2 : Int32) (x3 : Int32)  (M : bw_M) (rr : Int32) (zz : bw_M) (h : fX4_lay x1 x2 x3 M = some (rr, zz)) : bw_CI l bw_shC 45 yX4_lay cX4_lay 6 (some .int) rmX4_lay (fun ρ => [.ref (ρ 0), .int x1, .int x2, .int x3]) M rr zz := by
  refine bw_inI (Lf := fun ρ => [(0, .ref (ρ 0)), (1, .int x1), (2, .int x2), (3, .int x3)]) cX4_lay 6 (some .int) RX4 pn_X4 rfl (fun ρ => Nat.le_of_ble_eq_true rfl) (fun ρ => rfl) ?_
  intro p e s m args below meth c D kT ρ C
  unfold fX4_lay at h
  refine bw_aload_n (pc := 0) C 0 dX4_lay_0 rfl rfl ?_
  refine bw_iload_n (pc := 1) C 1 dX4_lay_1 rfl rfl ?_
  refine bw_iload_n (pc := 2) C 2 dX4_lay_2 rfl rfl ?_
  obtain ⟨v1, M2, ev1, h⟩ := bw_c2_o h
  refine bw_cVi (pc := 3) (q := 0) (As := [.int x1, .int x2]) (rest := []) C (tX4_refusedPlace l x1 x2 M v1 M2 ev1) msX4_refusedPlace mw_190 rfl rfl ⟨Nat.le_of_ble_eq_true rfl, Nat.le_of_ble_eq_true rfl⟩ ltC_0 shC_0 rfl rfl rfl rfl (Nat.le_of_ble_eq_true rfl) dX4_lay_3 ?_
  refine bw_istore (pc := 6) (L' := [(4, .int v1), (0, .ref (ρ 0)), (1, .int x1), (2, .int x2), (3, .int x3)]) C dX4_lay_6 (by decide) rfl ?_
  refine bw_iload (pc := 8) C 0 dX4_lay_8 rfl ?_
  refine bw_if_eq (pc := 10) C 16 dX4_lay_10 (by decide) h (fun h => ?_) (fun h => ?_)
  · refine bw_aload_n (pc := 16) C 1 dX4_lay_16 rfl rfl ?_
    refine bw_getR (pc := 17) (q := 0) (k0 := 0) C ltC_0 shC_0 rfl inX4 mw_123 (by decide) rfl dX4_lay_17 ?_
    refine bw_iload_n (pc := 20) C 2 dX4_lay_20 rfl rfl ?_
    obtain ⟨qj3, j3, ej3, lj3, h⟩ := bw_ra_o h
    refine bw_aald (pc := 21) (q := 1) (ty := .array .int) C ltC_1 shC_1 rfl rfl qj3 (id_rows ej3 lj3) dX4_lay_21 ?_
    refine bw_iload_n (pc := 22) C 3 dX4_lay_22 rfl rfl ?_
    obtain ⟨qv4, v4, ev4, h⟩ := bw_rd_o h
    refine bw_iald (pc := 23) (q := (2 + j3)) C (ltC_row lj3) (shC_row lj3) qv4 ev4 dX4_lay_23 ?_
    refine bw_istore (pc := 24) (L' := [(5, .int v4), (4, .int v1), (0, .ref (ρ 0)), (1, .int x1), (2, .int x2), (3, .int x3)]) C dX4_lay_24 (by decide) rfl ?_
    refine bw_aload_n (pc := 26) C 2 dX4_lay_26 rfl rfl ?_
    refine bw_getR (pc := 27) (q := 0) (k0 := 0) C ltC_0 shC_0 rfl inX4 mw_123 (by decide) rfl dX4_lay_27 ?_
    refine bw_iload_n (pc := 30) C 3 dX4_lay_30 rfl rfl ?_
    obtain ⟨qj5, j5, ej5, lj5, h⟩ := bw_ra_o h
    refine bw_aald (pc := 31) (q := 1) (ty := .array .int) C ltC_1 shC_1 rfl rfl qj5 (id_rows ej5 lj5) dX4_lay_31 ?_
    refine bw_iload_n (pc := 32) C 4 dX4_lay_32 rfl rfl ?_
    refine bw_iload_n (pc := 33) C 5 dX4_lay_33 rfl rfl ?_
    obtain ⟨qM6, M6, eM6, h⟩ := bw_wr_o h
    refine bw_iast (pc := 34) (q := (2 + j5)) C (ltC_row lj5) (shC_row lj5) qM6 eM6 dX4_lay_34 ?_
    refine bw_aload_n (pc := 35) C 2 dX4_lay_35 rfl rfl ?_
    refine bw_iload (pc := 36) C 0 dX4_lay_36 rfl ?_
    obtain ⟨v7, M8, ev7, h⟩ := bw_c2_o h
    refine bw_cVi (pc := 38) (q := 0) (As := [.int v4]) (rest := []) C (tX4_tell l v4 M6 v7 M8 ev7) msX4_tell mw_197 rfl rfl ⟨Nat.le_of_ble_eq_true rfl, Nat.le_of_ble_eq_true rfl⟩ ltC_0 shC_0 rfl rfl rfl rfl (Nat.le_of_ble_eq_true rfl) dX4_lay_38 ?_
    exact bw_ireti (pc := 41) C dX4_lay_41 h
  · refine bw_iload (pc := 13) C 0 dX4_lay_13 rfl ?_
    exact bw_ireti (pc := 15) C dX4_lay_15 h
/-! X4_leak -/
abbrev rmX4_leak : Room := { frames := 6, cells := 0, slots := 0, locals := 133 }
theorem msX4_leak : bw_MV yX4_leak cX4_leak 2 (some .int) RX4 1 := ⟨mw_376, mw_377, mw_1, mw_378, by decide +kernel⟩
def fX4_leak_21 (N : Nat) (x1 : Int32)  (s0 : Int32) (M : bw_M) : Option (Int32 × bw_M) :=
  some (s0, M)
theorem tX4_leak_21 {p : Program} {l : Launch} {e : Env} {s : State} {m : MethodId} {args : Array Value} {below : List Frame} {meth : Method} {c : Code} {D : va_G} {kT : Nat → ClassId} {ρ : Nat → Nat} (C : bw_Cx p s m args meth c cX4_leak 2 RX4 45 D kT ρ (some .int)) (N : Nat) (x1 : Int32)   (s0 : Int32) (M : bw_M) (rr : Int32) (zz : bw_M)  (h : fX4_leak_21 N x1 s0 M = some (rr, zz)) : bw_At p l e rmX4_leak s m args below meth c (MQ below (bw_QI bw_shC 45 D kT ρ rr zz) args s 0 0 (bw_A ρ 45)) bw_shC 45 D kT ρ 2 21 [(0, .ref (ρ 0)), (1, .int x1)] [.int s0] M := by
  unfold fX4_leak_21 at h
  exact bw_ireti (pc := 21) C dX4_leak_21 h
def fX4_leak (N : Nat) (x1 : Int32) (M : bw_M) : Option (Int32 × bw_M) :=
  bw_cl (fX3_hasPipe 16 x1 M) fun v1 =>
  if v1 = 0 then
  fX4_leak_21 N x1 (-1 : Int32) M
  else
  bw_c2 (fX4_perform N (3 : Int32) x1 M) fun v2 M3 =>
  fX4_leak_21 N x1 v2 M3
theorem tX4_leak (l : Launch) (N : Nat) (x1 : Int32)  (M : bw_M) (rr : Int32) (zz : bw_M) (h : fX4_leak N x1 M = some (rr, zz)) : bw_CI l bw_shC 45 yX4_leak cX4_leak 2 (some .int) rmX4_leak (fun ρ => [.ref (ρ 0), .int x1]) M rr zz := by
  refine bw_inI (Lf := fun ρ => [(0, .ref (ρ 0)), (1, .int x1)]) cX4_leak 2 (some .int) RX4 pn_X4 rfl (fun ρ => Nat.le_of_ble_eq_true rfl) (fun ρ => rfl) ?_
  intro p e s m args below meth c D kT ρ C
  unfold fX4_leak at h
  refine bw_aload_n (pc := 0) C 0 dX4_leak_0 rfl rfl ?_
  refine bw_getR (pc := 1) (q := 0) (k0 := 5) C ltC_0 shC_0 rfl inX4 mw_128 (by decide) rfl dX4_leak_1 ?_
  refine bw_iload_n (pc := 4) C 1 dX4_leak_4 rfl rfl ?_
  obtain ⟨v1, ev1, h⟩ := bw_cl_o h
  refine bw_cVi (pc := 5) (q := 16) (As := [.int x1]) (rest := []) C (tX3_hasPipe l 16 x1 isT_16 M v1 ev1) msX3_hasPipe mw_290 rfl rfl ⟨Nat.le_of_ble_eq_true rfl, Nat.le_of_ble_eq_true rfl⟩ ltC_16 shC_16 rfl rfl rfl rfl (Nat.le_of_ble_eq_true rfl) dX4_leak_5 ?_
  refine bw_if_eq (pc := 8) C 20 dX4_leak_8 (by decide) h (fun h => ?_) (fun h => ?_)
  · refine bw_iconst (pc := 20) (v := (-1 : Int32)) C dX4_leak_20 ic_m1 ?_
    refine bw_pick [0, 1] rfl ?_
    exact tX4_leak_21 C N x1 (-1 : Int32) M rr zz h
  · refine bw_aload_n (pc := 11) C 0 dX4_leak_11 rfl rfl ?_
    refine bw_iconst (pc := 12) (v := (3 : Int32)) C dX4_leak_12 ic_3 ?_
    refine bw_iload_n (pc := 13) C 1 dX4_leak_13 rfl rfl ?_
    obtain ⟨v2, M3, ev2, h⟩ := bw_c2_o h
    refine bw_cVi (pc := 14) (q := 0) (As := [.int (3 : Int32), .int x1]) (rest := []) C (tX4_perform l N (3 : Int32) x1 M v2 M3 ev2) msX4_perform mw_334 rfl rfl ⟨Nat.le_of_ble_eq_true rfl, Nat.le_of_ble_eq_true rfl⟩ ltC_0 shC_0 rfl rfl rfl rfl (Nat.le_of_ble_eq_true rfl) dX4_leak_14 ?_
    refine bw_goto (pc := 17) C 21 dX4_leak_17 (by decide) ?_
    refine bw_pick [0, 1] rfl ?_
    exact tX4_leak_21 C N x1 v2 M3 rr zz h
/-! X4_leakingFits -/
abbrev rmX4_leakingFits : Room := { frames := 5, cells := 0, slots := 0, locals := 111 }
theorem msX4_leakingFits : bw_MV yX4_leakingFits cX4_leakingFits 3 (some .boolean) RX4 2 := ⟨mw_471, mw_1082, mw_1, mw_472, by decide +kernel⟩
def fX4_leakingFits (N : Nat) (x1 : Int32) (x2 : Int32) (M : bw_M) : Option (Int32 × bw_M) :=
  bw_cl (fX3_become N 22 16 M) fun M1 =>
  bw_mv (bw_pI M1 22 7 x1) fun M2 =>
  bw_c2 (fX4_trialSpeaksLike N x2 M2) fun v3 M4 =>
  bw_ck (bw_isb v3) (some (v3, M4))
theorem tX4_leakingFits (l : Launch) (N : Nat) (x1 : Int32) (x2 : Int32)  (M : bw_M) (rr : Int32) (zz : bw_M) (h : fX4_leakingFits N x1 x2 M = some (rr, zz)) : bw_CI l bw_shC 45 yX4_leakingFits cX4_leakingFits 3 (some .boolean) rmX4_leakingFits (fun ρ => [.ref (ρ 0), .int x1, .int x2]) M rr zz := by
  refine bw_inI (Lf := fun ρ => [(0, .ref (ρ 0)), (1, .int x1), (2, .int x2)]) cX4_leakingFits 3 (some .boolean) RX4 pn_X4 rfl (fun ρ => Nat.le_of_ble_eq_true rfl) (fun ρ => rfl) ?_
  intro p e s m args below meth c D kT ρ C
  unfold fX4_leakingFits at h
  refine bw_aload_n (pc := 0) C 0 dX4_leakingFits_0 rfl rfl ?_
  refine bw_getR (pc := 1) (q := 0) (k0 := 6) C ltC_0 shC_0 rfl inX4 mw_129 (by decide) rfl dX4_leakingFits_1 ?_
  refine bw_aload_n (pc := 4) C 0 dX4_leakingFits_4 rfl rfl ?_
  refine bw_getR (pc := 5) (q := 0) (k0 := 5) C ltC_0 shC_0 rfl inX4 mw_128 (by decide) rfl dX4_leakingFits_5 ?_
  obtain ⟨M1, eM1, h⟩ := bw_cl_o h
  refine bw_cVv (pc := 8) (q := 22) (As := [.ref (ρ 16)]) (rest := []) C (tX3_become l N 22 16 isT_22 isT_16 M M1 eM1) msX3_become mw_282 rfl rfl ⟨Nat.le_of_ble_eq_true rfl, Nat.le_of_ble_eq_true rfl⟩ ltC_22 shC_22 rfl rfl rfl rfl (Nat.le_of_ble_eq_true rfl) dX4_leakingFits_8 ?_
  refine bw_aload_n (pc := 11) C 0 dX4_leakingFits_11 rfl rfl ?_
  refine bw_getR (pc := 12) (q := 0) (k0 := 6) C ltC_0 shC_0 rfl inX4 mw_129 (by decide) rfl dX4_leakingFits_12 ?_
  refine bw_iload_n (pc := 15) C 1 dX4_leakingFits_15 rfl rfl ?_
  obtain ⟨M2, eM2, h⟩ := bw_mv_o h
  refine bw_putI (pc := 16) (q := 22) (k0 := 7) C ltC_22 shC_22 rfl inX3 mw_61 (by decide) tyX3 tyX3_ok nmX3 rfl rfl rfl eM2 rfl rfl dX4_leakingFits_16 ?_
  refine bw_aload_n (pc := 19) C 0 dX4_leakingFits_19 rfl rfl ?_
  refine bw_iload_n (pc := 20) C 2 dX4_leakingFits_20 rfl rfl ?_
  obtain ⟨v3, M4, ev3, h⟩ := bw_c2_o h
  refine bw_cVi (pc := 21) (q := 0) (As := [.int x2]) (rest := []) C (tX4_trialSpeaksLike l N x2 M2 v3 M4 ev3) msX4_trialSpeaksLike mw_473 rfl rfl ⟨Nat.le_of_ble_eq_true rfl, Nat.le_of_ble_eq_true rfl⟩ ltC_0 shC_0 rfl rfl rfl rfl (Nat.le_of_ble_eq_true rfl) dX4_leakingFits_21 ?_
  obtain ⟨q5, h⟩ := bw_ck_o h
  exact bw_iretz (pc := 24) C (nz_b q5) dX4_leakingFits_24 h
/-! X4_tellShare -/
abbrev rmX4_tellShare : Room := { frames := 1, cells := 0, slots := 0, locals := 30 }
theorem msX4_tellShare : bw_MV yX4_tellShare cX4_tellShare 7 none RX4 2 := ⟨mw_479, mw_1084, mw_1, mw_480, by decide +kernel⟩
def fX4_tellShare_30 (N : Nat) (x1 : Int64) (x3 : Int64)   (M : bw_M) : Option (bw_M) :=
  some M
theorem tX4_tellShare_30 {p : Program} {l : Launch} {e : Env} {s : State} {m : MethodId} {args : Array Value} {below : List Frame} {meth : Method} {c : Code} {D : va_G} {kT : Nat → ClassId} {ρ : Nat → Nat} (C : bw_Cx p s m args meth c cX4_tellShare 7 RX4 45 D kT ρ none) (N : Nat) (x1 : Int64) (x3 : Int64)    (M : bw_M) (zz : bw_M)  (h : fX4_tellShare_30 N x1 x3 M = some zz) : bw_At p l e rmX4_tellShare s m args below meth c (MQ below (bw_QV bw_shC 45 D kT ρ zz) args s 0 0 (bw_A ρ 45)) bw_shC 45 D kT ρ 7 30 [(0, .ref (ρ 0)), (1, .long x1), (3, .long x3)] [] M := by
  unfold fX4_tellShare_30 at h
  exact bw_vreti (pc := 30) C dX4_tellShare_30 h
def fX4_tellShare (N : Nat) (x1 : Int64) (x3 : Int64) (M : bw_M) : Option (bw_M) :=
  bw_cl (fX4_greatestDivisor N x1 x3) fun v1 =>
  if (lg_cmp v1 (0 : Int64)) ≤ 0 then
  fX4_tellShare_30 N x1 x3 M
  else
  bw_ck (decide (¬ v1 = 0)) (
  bw_mv (bw_pL M 15 (x1 / v1)) fun M3 =>
  bw_ck (decide (¬ v1 = 0)) (
  bw_mv (bw_pL M3 16 (x3 / v1)) fun M5 =>
  fX4_tellShare_30 N x1 x3 M5))
theorem tX4_tellShare (l : Launch) (N : Nat) (x1 : Int64) (x3 : Int64)  (M : bw_M) (zz : bw_M) (h : fX4_tellShare N x1 x3 M = some zz) : bw_CV l bw_shC 45 yX4_tellShare cX4_tellShare 7 none rmX4_tellShare (fun ρ => [.ref (ρ 0), .long x1, .long x3]) M zz := by
  refine bw_inV (Lf := fun ρ => [(0, .ref (ρ 0)), (1, .long x1), (3, .long x3)]) cX4_tellShare 7 none RX4 pn_X4 rfl (fun ρ => Nat.le_of_ble_eq_true rfl) (fun ρ => rfl) ?_
  intro p e s m args below meth c D kT ρ C
  unfold fX4_tellShare at h
  refine bw_lload_n (pc := 0) C 1 dX4_tellShare_0 rfl rfl ?_
  refine bw_lload_n (pc := 1) C 2 dX4_tellShare_1 rfl rfl ?_
  obtain ⟨v1, ev1, h⟩ := bw_cl_o h
  refine bw_cSl (pc := 2) (As := [.long x1, .long x3]) (rest := []) C (tX4_greatestDivisor l N x1 x3 M v1 ev1) msX4_greatestDivisor mw_481 rfl rfl ⟨Nat.le_of_ble_eq_true rfl, Nat.le_of_ble_eq_true rfl⟩ rfl rfl rfl (Nat.le_of_ble_eq_true rfl) dX4_tellShare_2 ?_
  refine bw_lstore (pc := 5) (L' := [(5, .long v1), (0, .ref (ρ 0)), (1, .long x1), (3, .long x3)]) C dX4_tellShare_5 (by decide) rfl ?_
  refine bw_lload (pc := 7) C 0 dX4_tellShare_7 rfl ?_
  refine bw_lconst (pc := 9) (v := (0 : Int64)) C dX4_tellShare_9 rfl ?_
  refine bw_lcmp (pc := 10) C dX4_tellShare_10 ?_
  refine bw_if_le (pc := 11) C 30 dX4_tellShare_11 (by decide) h (fun h => ?_) (fun h => ?_)
  · refine bw_pick [1, 2, 3] rfl ?_
    exact tX4_tellShare_30 C N x1 x3 M zz h
  · refine bw_aload_n (pc := 14) C 1 dX4_tellShare_14 rfl rfl ?_
    refine bw_lload_n (pc := 15) C 2 dX4_tellShare_15 rfl rfl ?_
    refine bw_lload (pc := 16) C 0 dX4_tellShare_16 rfl ?_
    obtain ⟨q2, h⟩ := bw_ck_o h
    refine bw_ldiv (pc := 18) C dX4_tellShare_18 (of_decide_eq_true q2) ?_
    obtain ⟨M3, eM3, h⟩ := bw_mv_o h
    refine bw_putL (pc := 19) (q := 0) (k0 := 15) C ltC_0 shC_0 rfl inX4 mw_138 (by decide) tyX4 tyX4_ok nmX4 rfl rfl one_C1 rfl eM3 rfl rfl dX4_tellShare_19 ?_
    refine bw_aload_n (pc := 22) C 1 dX4_tellShare_22 rfl rfl ?_
    refine bw_lload_n (pc := 23) C 3 dX4_tellShare_23 rfl rfl ?_
    refine bw_lload (pc := 24) C 0 dX4_tellShare_24 rfl ?_
    obtain ⟨q4, h⟩ := bw_ck_o h
    refine bw_ldiv (pc := 26) C dX4_tellShare_26 (of_decide_eq_true q4) ?_
    obtain ⟨M5, eM5, h⟩ := bw_mv_o h
    refine bw_putL (pc := 27) (q := 0) (k0 := 16) C ltC_0 shC_0 rfl inX4 mw_139 (by decide) tyX4 tyX4_ok nmX4 rfl rfl one_C1 rfl eM5 rfl rfl dX4_tellShare_27 ?_
    refine bw_pick [1, 2, 3] rfl ?_
    exact tX4_tellShare_30 C N x1 x3 M5 zz h
/-! X4_leaks -/
abbrev rmX4_leaks : Room := { frames := 6, cells := 0, slots := 0, locals := 133 }
theorem msX4_leaks : bw_MV yX4_leaks cX4_leaks 6 (some .int) RX4 1 := ⟨mw_462, mw_463, mw_1, mw_464, by decide +kernel⟩
def fX4_leaks_62 (N : Nat) (x1 : Int32) (k21 : Int32 × Int32 × Int32 × bw_M → Option (Int32 × bw_M)) (x3 : Int32) (x4 : Int32) (x5 : Int32) (M : bw_M) : Option (Int32 × bw_M) :=
  bw_mv (x5 + 1) fun v12 =>
  k21 (x3, x4, v12, M)
theorem tX4_leaks_62 {p : Program} {l : Launch} {e : Env} {s : State} {m : MethodId} {args : Array Value} {below : List Frame} {meth : Method} {c : Code} {D : va_G} {kT : Nat → ClassId} {ρ : Nat → Nat} (C : bw_Cx p s m args meth c cX4_leaks 6 RX4 45 D kT ρ (some .int)) (N : Nat) (x1 : Int32)  (k21 : Int32 × Int32 × Int32 × bw_M → Option (Int32 × bw_M)) (x3 : Int32) (x4 : Int32) (x5 : Int32) (M : bw_M) (rr : Int32) (zz : bw_M) (hk21 : ∀ z0, k21 z0 = some (rr, zz) → bw_At p l e rmX4_leaks s m args below meth c (MQ below (bw_QI bw_shC 45 D kT ρ rr zz) args s 0 0 (bw_A ρ 45)) bw_shC 45 D kT ρ 6 21 [(0, .ref (ρ 0)), (1, .int x1), (3, .int z0.1), (4, .int z0.2.1), (5, .int z0.2.2.1)] [] z0.2.2.2) (h : fX4_leaks_62 N x1 k21 x3 x4 x5 M = some (rr, zz)) : bw_At p l e rmX4_leaks s m args below meth c (MQ below (bw_QI bw_shC 45 D kT ρ rr zz) args s 0 0 (bw_A ρ 45)) bw_shC 45 D kT ρ 6 62 [(0, .ref (ρ 0)), (1, .int x1), (3, .int x3), (4, .int x4), (5, .int x5)] [] M := by
  unfold fX4_leaks_62 at h
  obtain ⟨v12, ev12, h⟩ := bw_mv_o h
  refine bw_iinc (pc := 62) (x := v12) (L' := [(5, .int v12), (0, .ref (ρ 0)), (1, .int x1), (3, .int x3), (4, .int x4)]) C 4 dX4_leaks_62 rfl ev12.symm (by decide) rfl ?_
  refine bw_goto (pc := 65) C 21 dX4_leaks_65 (by decide) ?_
  refine bw_pick [1, 2, 3, 4, 0] rfl ?_
  exact hk21 (x3, x4, v12, M) h
def fX4_leaks_60 (N : Nat) (x1 : Int32) (k21 : Int32 × Int32 × Int32 × bw_M → Option (Int32 × bw_M)) (x3 : Int32) (x5 : Int32) (s0 : Int32) (M : bw_M) : Option (Int32 × bw_M) :=
  fX4_leaks_62 N x1 k21 x3 s0 x5 M
theorem tX4_leaks_60 {p : Program} {l : Launch} {e : Env} {s : State} {m : MethodId} {args : Array Value} {below : List Frame} {meth : Method} {c : Code} {D : va_G} {kT : Nat → ClassId} {ρ : Nat → Nat} (C : bw_Cx p s m args meth c cX4_leaks 6 RX4 45 D kT ρ (some .int)) (N : Nat) (x1 : Int32)  (k21 : Int32 × Int32 × Int32 × bw_M → Option (Int32 × bw_M)) (x3 : Int32) (x5 : Int32) (s0 : Int32) (M : bw_M) (rr : Int32) (zz : bw_M) (hk21 : ∀ z0, k21 z0 = some (rr, zz) → bw_At p l e rmX4_leaks s m args below meth c (MQ below (bw_QI bw_shC 45 D kT ρ rr zz) args s 0 0 (bw_A ρ 45)) bw_shC 45 D kT ρ 6 21 [(0, .ref (ρ 0)), (1, .int x1), (3, .int z0.1), (4, .int z0.2.1), (5, .int z0.2.2.1)] [] z0.2.2.2) (h : fX4_leaks_60 N x1 k21 x3 x5 s0 M = some (rr, zz)) : bw_At p l e rmX4_leaks s m args below meth c (MQ below (bw_QI bw_shC 45 D kT ρ rr zz) args s 0 0 (bw_A ρ 45)) bw_shC 45 D kT ρ 6 60 [(0, .ref (ρ 0)), (1, .int x1), (3, .int x3), (5, .int x5)] [.int s0] M := by
  unfold fX4_leaks_60 at h
  refine bw_istore (pc := 60) (L' := [(4, .int s0), (0, .ref (ρ 0)), (1, .int x1), (3, .int x3), (5, .int x5)]) C dX4_leaks_60 (by decide) rfl ?_
  refine bw_pick [1, 2, 3, 0, 4] rfl ?_
  exact tX4_leaks_62 C N x1 k21 x3 s0 x5 M rr zz hk21 h
def fX4_leaks_21 (N : Nat) (x1 : Int32) (k21 : Int32 × Int32 × Int32 × bw_M → Option (Int32 × bw_M)) (x3 : Int32) (x4 : Int32) (x5 : Int32) (M : bw_M) : Option (Int32 × bw_M) :=
  bw_cl (fX3_allPipes 16 M) fun v6 =>
  if v6 < x5 then
  bw_cl (fX4_tellShare N (Int32.toInt64 x3) (1 : Int64) M) fun M7 =>
  bw_c2 (fX4_tell x4 M7) fun v8 M9 =>
  some (v8, M9)
  else
  bw_c2 (fX4_leakingFits N x5 x1 M) fun v10 M11 =>
  if v10 = 0 then
  fX4_leaks_62 N x1 k21 x3 x4 x5 M11
  else
  bw_mv (x3 + 1) fun v13 =>
  if x4 = (-9 : Int32) then
  fX4_leaks_60 N x1 k21 v13 x5 x5 M11
  else
  fX4_leaks_60 N x1 k21 v13 x5 x4 M11
theorem tX4_leaks_21 {p : Program} {l : Launch} {e : Env} {s : State} {m : MethodId} {args : Array Value} {below : List Frame} {meth : Method} {c : Code} {D : va_G} {kT : Nat → ClassId} {ρ : Nat → Nat} (C : bw_Cx p s m args meth c cX4_leaks 6 RX4 45 D kT ρ (some .int)) (N : Nat) (x1 : Int32)  (k21 : Int32 × Int32 × Int32 × bw_M → Option (Int32 × bw_M)) (x3 : Int32) (x4 : Int32) (x5 : Int32) (M : bw_M) (rr : Int32) (zz : bw_M) (hk21 : ∀ z0, k21 z0 = some (rr, zz) → bw_At p l e rmX4_leaks s m args below meth c (MQ below (bw_QI bw_shC 45 D kT ρ rr zz) args s 0 0 (bw_A ρ 45)) bw_shC 45 D kT ρ 6 21 [(0, .ref (ρ 0)), (1, .int x1), (3, .int z0.1), (4, .int z0.2.1), (5, .int z0.2.2.1)] [] z0.2.2.2) (h : fX4_leaks_21 N x1 k21 x3 x4 x5 M = some (rr, zz)) : bw_At p l e rmX4_leaks s m args below meth c (MQ below (bw_QI bw_shC 45 D kT ρ rr zz) args s 0 0 (bw_A ρ 45)) bw_shC 45 D kT ρ 6 21 [(0, .ref (ρ 0)), (1, .int x1), (3, .int x3), (4, .int x4), (5, .int x5)] [] M := by
  unfold fX4_leaks_21 at h
  refine bw_iload (pc := 21) C 4 dX4_leaks_21 rfl ?_
  refine bw_aload_n (pc := 23) C 0 dX4_leaks_23 rfl rfl ?_
  refine bw_getR (pc := 24) (q := 0) (k0 := 5) C ltC_0 shC_0 rfl inX4 mw_128 (by decide) rfl dX4_leaks_24 ?_
  obtain ⟨v6, ev6, h⟩ := bw_cl_o h
  refine bw_cVi (pc := 27) (q := 16) (As := []) (rest := [.int x5]) C (tX3_allPipes l 16 isT_16 M v6 ev6) msX3_allPipes mw_430 rfl rfl ⟨Nat.le_of_ble_eq_true rfl, Nat.le_of_ble_eq_true rfl⟩ ltC_16 shC_16 rfl rfl rfl rfl (Nat.le_of_ble_eq_true rfl) dX4_leaks_27 ?_
  refine bw_icmp_gt (pc := 30) C 68 dX4_leaks_30 (by decide) h (fun h => ?_) (fun h => ?_)
  · refine bw_aload_n (pc := 68) C 0 dX4_leaks_68 rfl rfl ?_
    refine bw_iload_n (pc := 69) C 2 dX4_leaks_69 rfl rfl ?_
    refine bw_i2l (pc := 70) C dX4_leaks_70 ?_
    refine bw_lconst (pc := 71) (v := (1 : Int64)) C dX4_leaks_71 rfl ?_
    obtain ⟨M7, eM7, h⟩ := bw_cl_o h
    refine bw_cVv (pc := 72) (q := 0) (As := [.long (Int32.toInt64 x3), .long (1 : Int64)]) (rest := []) C (tX4_tellShare l N (Int32.toInt64 x3) (1 : Int64) M M7 eM7) msX4_tellShare mw_477 rfl rfl ⟨Nat.le_of_ble_eq_true rfl, Nat.le_of_ble_eq_true rfl⟩ ltC_0 shC_0 rfl rfl rfl rfl (Nat.le_of_ble_eq_true rfl) dX4_leaks_72 ?_
    refine bw_aload_n (pc := 75) C 0 dX4_leaks_75 rfl rfl ?_
    refine bw_iload (pc := 76) C 3 dX4_leaks_76 rfl ?_
    obtain ⟨v8, M9, ev8, h⟩ := bw_c2_o h
    refine bw_cVi (pc := 78) (q := 0) (As := [.int x4]) (rest := []) C (tX4_tell l x4 M7 v8 M9 ev8) msX4_tell mw_197 rfl rfl ⟨Nat.le_of_ble_eq_true rfl, Nat.le_of_ble_eq_true rfl⟩ ltC_0 shC_0 rfl rfl rfl rfl (Nat.le_of_ble_eq_true rfl) dX4_leaks_78 ?_
    exact bw_ireti (pc := 81) C dX4_leaks_81 h
  · refine bw_aload_n (pc := 33) C 0 dX4_leaks_33 rfl rfl ?_
    refine bw_iload (pc := 34) C 4 dX4_leaks_34 rfl ?_
    refine bw_iload_n (pc := 36) C 1 dX4_leaks_36 rfl rfl ?_
    obtain ⟨v10, M11, ev10, h⟩ := bw_c2_o h
    refine bw_cVi (pc := 37) (q := 0) (As := [.int x5, .int x1]) (rest := []) C (tX4_leakingFits l N x5 x1 M v10 M11 ev10) msX4_leakingFits mw_469 rfl rfl ⟨Nat.le_of_ble_eq_true rfl, Nat.le_of_ble_eq_true rfl⟩ ltC_0 shC_0 rfl rfl rfl rfl (Nat.le_of_ble_eq_true rfl) dX4_leaks_37 ?_
    refine bw_if_eq (pc := 40) C 62 dX4_leaks_40 (by decide) h (fun h => ?_) (fun h => ?_)
    · refine bw_pick [0, 1, 2, 3, 4] rfl ?_
      exact tX4_leaks_62 C N x1 k21 x3 x4 x5 M11 rr zz hk21 h
    · obtain ⟨v13, ev13, h⟩ := bw_mv_o h
      refine bw_iinc (pc := 43) (x := v13) (L' := [(3, .int v13), (0, .ref (ρ 0)), (1, .int x1), (4, .int x4), (5, .int x5)]) C 2 dX4_leaks_43 rfl ev13.symm (by decide) rfl ?_
      refine bw_iload (pc := 46) C 3 dX4_leaks_46 rfl ?_
      refine bw_bipush (pc := 48) (v := (-9 : Int32)) C dX4_leaks_48 bi_m9 ?_
      refine bw_icmp_ne (pc := 50) C 58 dX4_leaks_50 (by decide) h (fun h => ?_) (fun h => ?_)
      · refine bw_iload (pc := 58) C 3 dX4_leaks_58 rfl ?_
        refine bw_pick [1, 2, 0, 4] rfl ?_
        exact tX4_leaks_60 C N x1 k21 v13 x5 x4 M11 rr zz hk21 h
      · refine bw_iload (pc := 53) C 4 dX4_leaks_53 rfl ?_
        refine bw_goto (pc := 55) C 60 dX4_leaks_55 (by decide) ?_
        refine bw_pick [1, 2, 0, 4] rfl ?_
        exact tX4_leaks_60 C N x1 k21 v13 x5 x5 M11 rr zz hk21 h
def flX4_leaks_21 (N : Nat) (x1 : Int32)    (fu : Nat) (w : Int32 × Int32 × Int32 × bw_M) : Option (Int32 × bw_M) := bw_lp (fun kk w => fX4_leaks_21 N x1 kk w.1 w.2.1 w.2.2.1 w.2.2.2) fu w
theorem tlX4_leaks_21 {p : Program} {l : Launch} {e : Env} {s : State} {m : MethodId} {args : Array Value} {below : List Frame} {meth : Method} {c : Code} {D : va_G} {kT : Nat → ClassId} {ρ : Nat → Nat} (C : bw_Cx p s m args meth c cX4_leaks 6 RX4 45 D kT ρ (some .int)) (N : Nat) (x1 : Int32)     (rr : Int32) (zz : bw_M)  (fu : Nat) (w : Int32 × Int32 × Int32 × bw_M) (h : flX4_leaks_21 N x1 fu w = some (rr, zz)) : bw_At p l e rmX4_leaks s m args below meth c (MQ below (bw_QI bw_shC 45 D kT ρ rr zz) args s 0 0 (bw_A ρ 45)) bw_shC 45 D kT ρ 6 21 [(0, .ref (ρ 0)), (1, .int x1), (3, .int w.1), (4, .int w.2.1), (5, .int w.2.2.1)] [] w.2.2.2 :=
  bw_loop (r := (rr, zz)) (fun w => bw_At p l e rmX4_leaks s m args below meth c (MQ below (bw_QI bw_shC 45 D kT ρ rr zz) args s 0 0 (bw_A ρ 45)) bw_shC 45 D kT ρ 6 21 [(0, .ref (ρ 0)), (1, .int x1), (3, .int w.1), (4, .int w.2.1), (5, .int w.2.2.1)] [] w.2.2.2) (fun kk hk w h => tX4_leaks_21 C N x1 kk w.1 w.2.1 w.2.2.1 w.2.2.2 rr zz hk h) fu w h
def fX4_leaks (N : Nat) (x1 : Int32) (M : bw_M) : Option (Int32 × bw_M) :=
  bw_c2 (fX4_refusedHearing N x1 M) fun v1 M2 =>
  if v1 = 0 then
  bw_mv (0 : Int32) fun v3 =>
  bw_mv (-9 : Int32) fun v4 =>
  bw_mv (0 : Int32) fun v5 =>
  flX4_leaks_21 N x1 N (v3, v4, v5, M2)
  else
  some (v1, M2)
theorem tX4_leaks (l : Launch) (N : Nat) (x1 : Int32)  (M : bw_M) (rr : Int32) (zz : bw_M) (h : fX4_leaks N x1 M = some (rr, zz)) : bw_CI l bw_shC 45 yX4_leaks cX4_leaks 6 (some .int) rmX4_leaks (fun ρ => [.ref (ρ 0), .int x1]) M rr zz := by
  refine bw_inI (Lf := fun ρ => [(0, .ref (ρ 0)), (1, .int x1)]) cX4_leaks 6 (some .int) RX4 pn_X4 rfl (fun ρ => Nat.le_of_ble_eq_true rfl) (fun ρ => rfl) ?_
  intro p e s m args below meth c D kT ρ C
  unfold fX4_leaks at h
  refine bw_aload_n (pc := 0) C 0 dX4_leaks_0 rfl rfl ?_
  refine bw_iload_n (pc := 1) C 1 dX4_leaks_1 rfl rfl ?_
  obtain ⟨v1, M2, ev1, h⟩ := bw_c2_o h
  refine bw_cVi (pc := 2) (q := 0) (As := [.int x1]) (rest := []) C (tX4_refusedHearing l N x1 M v1 M2 ev1) msX4_refusedHearing mw_465 rfl rfl ⟨Nat.le_of_ble_eq_true rfl, Nat.le_of_ble_eq_true rfl⟩ ltC_0 shC_0 rfl rfl rfl rfl (Nat.le_of_ble_eq_true rfl) dX4_leaks_2 ?_
  refine bw_istore_n (pc := 5) (L' := [(2, .int v1), (0, .ref (ρ 0)), (1, .int x1)]) C dX4_leaks_5 rfl (by decide) rfl ?_
  refine bw_iload_n (pc := 6) C 0 dX4_leaks_6 rfl rfl ?_
  refine bw_if_eq (pc := 7) C 12 dX4_leaks_7 (by decide) h (fun h => ?_) (fun h => ?_)
  · refine bw_iconst (pc := 12) (v := (0 : Int32)) C dX4_leaks_12 ic_0 ?_
    obtain ⟨v3, ev3, h⟩ := bw_mv_o h
    refine bw_nmI ev3 ?_
    refine bw_istore_n (pc := 13) (L' := [(3, .int v3), (2, .int v1), (0, .ref (ρ 0)), (1, .int x1)]) C dX4_leaks_13 rfl (by decide) rfl ?_
    refine bw_bipush (pc := 14) (v := (-9 : Int32)) C dX4_leaks_14 bi_m9 ?_
    obtain ⟨v4, ev4, h⟩ := bw_mv_o h
    refine bw_nmI ev4 ?_
    refine bw_istore (pc := 16) (L' := [(4, .int v4), (3, .int v3), (2, .int v1), (0, .ref (ρ 0)), (1, .int x1)]) C dX4_leaks_16 (by decide) rfl ?_
    refine bw_iconst (pc := 18) (v := (0 : Int32)) C dX4_leaks_18 ic_0 ?_
    obtain ⟨v5, ev5, h⟩ := bw_mv_o h
    refine bw_nmI ev5 ?_
    refine bw_istore (pc := 19) (L' := [(5, .int v5), (4, .int v4), (3, .int v3), (2, .int v1), (0, .ref (ρ 0)), (1, .int x1)]) C dX4_leaks_19 (by decide) rfl ?_
    refine bw_pick [4, 5, 2, 1, 0] rfl ?_
    exact tlX4_leaks_21 C N x1 rr zz N (v3, v4, v5, M2) h
  · refine bw_iload_n (pc := 10) C 0 dX4_leaks_10 rfl rfl ?_
    exact bw_ireti (pc := 11) C dX4_leaks_11 h
/-! X4_least -/
abbrev rmX4_least : Room := { frames := 4, cells := 0, slots := 0, locals := 88 }
theorem msX4_least : bw_MV yX4_least cX4_least 3 (some .int) RX4 1 := ⟨mw_445, mw_446, mw_1, mw_447, by decide +kernel⟩
def fX4_least_15 (N : Nat) (x1 : Int32) (k15 : Int32 × bw_M → Option (Int32 × bw_M)) (x2 : Int32) (M : bw_M) : Option (Int32 × bw_M) :=
  if (60 : Int32) < ((M.1 16 3) + x2) then
  some ((-9 : Int32), M)
  else
  bw_cl (fX3_become N 22 16 M) fun M3 =>
  bw_mv (bw_pI M3 22 3 ((M3.1 22 3) + x2)) fun M4 =>
  bw_c2 (fX3_blow N 22 M4) fun v5 M6 =>
  bw_cl (fX3_isIn v5 x1) fun v7 =>
  if v7 = 0 then
  bw_mv (x2 + 1) fun v8 =>
  k15 (v8, M6)
  else
  some (x2, M6)
theorem tX4_least_15 {p : Program} {l : Launch} {e : Env} {s : State} {m : MethodId} {args : Array Value} {below : List Frame} {meth : Method} {c : Code} {D : va_G} {kT : Nat → ClassId} {ρ : Nat → Nat} (C : bw_Cx p s m args meth c cX4_least 3 RX4 45 D kT ρ (some .int)) (N : Nat) (x1 : Int32)  (k15 : Int32 × bw_M → Option (Int32 × bw_M)) (x2 : Int32) (M : bw_M) (rr : Int32) (zz : bw_M) (hk15 : ∀ z0, k15 z0 = some (rr, zz) → bw_At p l e rmX4_least s m args below meth c (MQ below (bw_QI bw_shC 45 D kT ρ rr zz) args s 0 0 (bw_A ρ 45)) bw_shC 45 D kT ρ 3 15 [(0, .ref (ρ 0)), (1, .int x1), (2, .int z0.1)] [] z0.2) (h : fX4_least_15 N x1 k15 x2 M = some (rr, zz)) : bw_At p l e rmX4_least s m args below meth c (MQ below (bw_QI bw_shC 45 D kT ρ rr zz) args s 0 0 (bw_A ρ 45)) bw_shC 45 D kT ρ 3 15 [(0, .ref (ρ 0)), (1, .int x1), (2, .int x2)] [] M := by
  unfold fX4_least_15 at h
  refine bw_aload_n (pc := 15) C 0 dX4_least_15 rfl rfl ?_
  refine bw_getR (pc := 16) (q := 0) (k0 := 5) C ltC_0 shC_0 rfl inX4 mw_128 (by decide) rfl dX4_least_16 ?_
  refine bw_getI (pc := 19) (q := 16) (k0 := 3) C ltC_16 shC_16 rfl inX3 mw_53 (by decide) rfl dX4_least_19 ?_
  refine bw_iload_n (pc := 22) C 2 dX4_least_22 rfl rfl ?_
  refine bw_iadd (pc := 23) C dX4_least_23 ?_
  refine bw_bipush (pc := 24) (v := (60 : Int32)) C dX4_least_24 bi_60 ?_
  refine bw_icmp_gt (pc := 26) C 75 dX4_least_26 (by decide) h (fun h => ?_) (fun h => ?_)
  · refine bw_bipush (pc := 75) (v := (-9 : Int32)) C dX4_least_75 bi_m9 ?_
    exact bw_ireti (pc := 77) C dX4_least_77 h
  · refine bw_aload_n (pc := 29) C 0 dX4_least_29 rfl rfl ?_
    refine bw_getR (pc := 30) (q := 0) (k0 := 6) C ltC_0 shC_0 rfl inX4 mw_129 (by decide) rfl dX4_least_30 ?_
    refine bw_aload_n (pc := 33) C 0 dX4_least_33 rfl rfl ?_
    refine bw_getR (pc := 34) (q := 0) (k0 := 5) C ltC_0 shC_0 rfl inX4 mw_128 (by decide) rfl dX4_least_34 ?_
    obtain ⟨M3, eM3, h⟩ := bw_cl_o h
    refine bw_cVv (pc := 37) (q := 22) (As := [.ref (ρ 16)]) (rest := []) C (tX3_become l N 22 16 isT_22 isT_16 M M3 eM3) msX3_become mw_282 rfl rfl ⟨Nat.le_of_ble_eq_true rfl, Nat.le_of_ble_eq_true rfl⟩ ltC_22 shC_22 rfl rfl rfl rfl (Nat.le_of_ble_eq_true rfl) dX4_least_37 ?_
    refine bw_aload_n (pc := 40) C 0 dX4_least_40 rfl rfl ?_
    refine bw_getR (pc := 41) (q := 0) (k0 := 6) C ltC_0 shC_0 rfl inX4 mw_129 (by decide) rfl dX4_least_41 ?_
    refine bw_dup (pc := 44) C dX4_least_44 rfl ?_
    refine bw_getI (pc := 45) (q := 22) (k0 := 3) C ltC_22 shC_22 rfl inX3 mw_53 (by decide) rfl dX4_least_45 ?_
    refine bw_iload_n (pc := 48) C 2 dX4_least_48 rfl rfl ?_
    refine bw_iadd (pc := 49) C dX4_least_49 ?_
    obtain ⟨M4, eM4, h⟩ := bw_mv_o h
    refine bw_putI (pc := 50) (q := 22) (k0 := 3) C ltC_22 shC_22 rfl inX3 mw_53 (by decide) tyX3 tyX3_ok nmX3 rfl rfl rfl eM4 rfl rfl dX4_least_50 ?_
    refine bw_aload_n (pc := 53) C 0 dX4_least_53 rfl rfl ?_
    refine bw_getR (pc := 54) (q := 0) (k0 := 6) C ltC_0 shC_0 rfl inX4 mw_129 (by decide) rfl dX4_least_54 ?_
    obtain ⟨v5, M6, ev5, h⟩ := bw_c2_o h
    refine bw_cVi (pc := 57) (q := 22) (As := []) (rest := []) C (tX3_blow l N 22 isT_22 M4 v5 M6 ev5) msX3_blow mw_417 rfl rfl ⟨Nat.le_of_ble_eq_true rfl, Nat.le_of_ble_eq_true rfl⟩ ltC_22 shC_22 rfl rfl rfl rfl (Nat.le_of_ble_eq_true rfl) dX4_least_57 ?_
    refine bw_iload_n (pc := 60) C 1 dX4_least_60 rfl rfl ?_
    obtain ⟨v7, ev7, h⟩ := bw_cl_o h
    refine bw_cSi (pc := 61) (As := [.int v5, .int x1]) (rest := []) C (tX3_isIn l v5 x1 M6 v7 ev7) msX3_isIn mw_312 rfl rfl ⟨Nat.le_of_ble_eq_true rfl, Nat.le_of_ble_eq_true rfl⟩ rfl rfl rfl (Nat.le_of_ble_eq_true rfl) dX4_least_61 ?_
    refine bw_if_eq (pc := 64) C 69 dX4_least_64 (by decide) h (fun h => ?_) (fun h => ?_)
    · obtain ⟨v8, ev8, h⟩ := bw_mv_o h
      refine bw_iinc (pc := 69) (x := v8) (L' := [(2, .int v8), (0, .ref (ρ 0)), (1, .int x1)]) C 2 dX4_least_69 rfl ev8.symm (by decide) rfl ?_
      refine bw_goto (pc := 72) C 15 dX4_least_72 (by decide) ?_
      refine bw_pick [1, 2, 0] rfl ?_
      exact hk15 (v8, M6) h
    · refine bw_iload_n (pc := 67) C 2 dX4_least_67 rfl rfl ?_
      exact bw_ireti (pc := 68) C dX4_least_68 h
def flX4_least_15 (N : Nat) (x1 : Int32)    (fu : Nat) (w : Int32 × bw_M) : Option (Int32 × bw_M) := bw_lp (fun kk w => fX4_least_15 N x1 kk w.1 w.2) fu w
theorem tlX4_least_15 {p : Program} {l : Launch} {e : Env} {s : State} {m : MethodId} {args : Array Value} {below : List Frame} {meth : Method} {c : Code} {D : va_G} {kT : Nat → ClassId} {ρ : Nat → Nat} (C : bw_Cx p s m args meth c cX4_least 3 RX4 45 D kT ρ (some .int)) (N : Nat) (x1 : Int32)     (rr : Int32) (zz : bw_M)  (fu : Nat) (w : Int32 × bw_M) (h : flX4_least_15 N x1 fu w = some (rr, zz)) : bw_At p l e rmX4_least s m args below meth c (MQ below (bw_QI bw_shC 45 D kT ρ rr zz) args s 0 0 (bw_A ρ 45)) bw_shC 45 D kT ρ 3 15 [(0, .ref (ρ 0)), (1, .int x1), (2, .int w.1)] [] w.2 :=
  bw_loop (r := (rr, zz)) (fun w => bw_At p l e rmX4_least s m args below meth c (MQ below (bw_QI bw_shC 45 D kT ρ rr zz) args s 0 0 (bw_A ρ 45)) bw_shC 45 D kT ρ 3 15 [(0, .ref (ρ 0)), (1, .int x1), (2, .int w.1)] [] w.2) (fun kk hk w h => tX4_least_15 C N x1 kk w.1 w.2 rr zz hk h) fu w h
def fX4_least (N : Nat) (x1 : Int32) (M : bw_M) : Option (Int32 × bw_M) :=
  bw_cl (fX3_hasPipe 16 x1 M) fun v1 =>
  if v1 = 0 then
  some ((-1 : Int32), M)
  else
  bw_mv (0 : Int32) fun v2 =>
  flX4_least_15 N x1 N (v2, M)
theorem tX4_least (l : Launch) (N : Nat) (x1 : Int32)  (M : bw_M) (rr : Int32) (zz : bw_M) (h : fX4_least N x1 M = some (rr, zz)) : bw_CI l bw_shC 45 yX4_least cX4_least 3 (some .int) rmX4_least (fun ρ => [.ref (ρ 0), .int x1]) M rr zz := by
  refine bw_inI (Lf := fun ρ => [(0, .ref (ρ 0)), (1, .int x1)]) cX4_least 3 (some .int) RX4 pn_X4 rfl (fun ρ => Nat.le_of_ble_eq_true rfl) (fun ρ => rfl) ?_
  intro p e s m args below meth c D kT ρ C
  unfold fX4_least at h
  refine bw_aload_n (pc := 0) C 0 dX4_least_0 rfl rfl ?_
  refine bw_getR (pc := 1) (q := 0) (k0 := 5) C ltC_0 shC_0 rfl inX4 mw_128 (by decide) rfl dX4_least_1 ?_
  refine bw_iload_n (pc := 4) C 1 dX4_least_4 rfl rfl ?_
  obtain ⟨v1, ev1, h⟩ := bw_cl_o h
  refine bw_cVi (pc := 5) (q := 16) (As := [.int x1]) (rest := []) C (tX3_hasPipe l 16 x1 isT_16 M v1 ev1) msX3_hasPipe mw_290 rfl rfl ⟨Nat.le_of_ble_eq_true rfl, Nat.le_of_ble_eq_true rfl⟩ ltC_16 shC_16 rfl rfl rfl rfl (Nat.le_of_ble_eq_true rfl) dX4_least_5 ?_
  refine bw_if_ne (pc := 8) C 13 dX4_least_8 (by decide) h (fun h => ?_) (fun h => ?_)
  · refine bw_iconst (pc := 13) (v := (0 : Int32)) C dX4_least_13 ic_0 ?_
    obtain ⟨v2, ev2, h⟩ := bw_mv_o h
    refine bw_nmI ev2 ?_
    refine bw_istore_n (pc := 14) (L' := [(2, .int v2), (0, .ref (ρ 0)), (1, .int x1)]) C dX4_least_14 rfl (by decide) rfl ?_
    refine bw_pick [1, 2, 0] rfl ?_
    exact tlX4_least_15 C N x1 rr zz N (v2, M) h
  · refine bw_iconst (pc := 11) (v := (-1 : Int32)) C dX4_least_11 ic_m1 ?_
    exact bw_ireti (pc := 12) C dX4_least_12 h
/-! X4_tallyNextSpeakers -/
abbrev rmX4_tallyNextSpeakers : Room := { frames := 6, cells := 0, slots := 0, locals := 133 }
theorem msX4_tallyNextSpeakers : bw_MV yX4_tallyNextSpeakers cX4_tallyNextSpeakers 6 (some .int) RX4 1 := ⟨mw_490, mw_1085, mw_1, mw_491, by decide +kernel⟩
def fX4_tallyNextSpeakers_90 (N : Nat) (x1 : Int32) (k12 : Int32 × Int32 × bw_M → Option (Int32 × bw_M)) (x2 : Int32) (x3 : Int32) (M : bw_M) : Option (Int32 × bw_M) :=
  bw_mv (x3 + 1) fun v7 =>
  k12 (x2, v7, M)
theorem tX4_tallyNextSpeakers_90 {p : Program} {l : Launch} {e : Env} {s : State} {m : MethodId} {args : Array Value} {below : List Frame} {meth : Method} {c : Code} {D : va_G} {kT : Nat → ClassId} {ρ : Nat → Nat} (C : bw_Cx p s m args meth c cX4_tallyNextSpeakers 6 RX4 45 D kT ρ (some .int)) (N : Nat) (x1 : Int32)  (k12 : Int32 × Int32 × bw_M → Option (Int32 × bw_M)) (x2 : Int32) (x3 : Int32) (M : bw_M) (rr : Int32) (zz : bw_M) (hk12 : ∀ z0, k12 z0 = some (rr, zz) → bw_At p l e rmX4_tallyNextSpeakers s m args below meth c (MQ below (bw_QI bw_shC 45 D kT ρ rr zz) args s 0 0 (bw_A ρ 45)) bw_shC 45 D kT ρ 6 12 [(0, .ref (ρ 0)), (1, .int x1), (2, .int z0.1), (3, .int z0.2.1)] [] z0.2.2) (h : fX4_tallyNextSpeakers_90 N x1 k12 x2 x3 M = some (rr, zz)) : bw_At p l e rmX4_tallyNextSpeakers s m args below meth c (MQ below (bw_QI bw_shC 45 D kT ρ rr zz) args s 0 0 (bw_A ρ 45)) bw_shC 45 D kT ρ 6 90 [(0, .ref (ρ 0)), (1, .int x1), (2, .int x2), (3, .int x3)] [] M := by
  unfold fX4_tallyNextSpeakers_90 at h
  obtain ⟨v7, ev7, h⟩ := bw_mv_o h
  refine bw_iinc (pc := 90) (x := v7) (L' := [(3, .int v7), (0, .ref (ρ 0)), (1, .int x1), (2, .int x2)]) C 3 dX4_tallyNextSpeakers_90 rfl ev7.symm (by decide) rfl ?_
  refine bw_goto (pc := 93) C 12 dX4_tallyNextSpeakers_93 (by decide) ?_
  refine bw_pick [1, 2, 3, 0] rfl ?_
  exact hk12 (x2, v7, M) h
def fX4_tallyNextSpeakers_82 (N : Nat) (x1 : Int32) (k12 : Int32 × Int32 × bw_M → Option (Int32 × bw_M)) (k47 : Int32 × bw_M → Option (Int32 × bw_M)) (x2 : Int32) (x3 : Int32) (x4 : Int32) (x5 : Int32) (s1 : Int32) (s2 : Int32) (s3 : Int32) (M : bw_M) : Option (Int32 × bw_M) :=
  bw_wr M 41 6 s1 (s2 + s3) fun M14 =>
  bw_mv (x5 + 1) fun v15 =>
  k47 (v15, M14)
theorem tX4_tallyNextSpeakers_82 {p : Program} {l : Launch} {e : Env} {s : State} {m : MethodId} {args : Array Value} {below : List Frame} {meth : Method} {c : Code} {D : va_G} {kT : Nat → ClassId} {ρ : Nat → Nat} (C : bw_Cx p s m args meth c cX4_tallyNextSpeakers 6 RX4 45 D kT ρ (some .int)) (N : Nat) (x1 : Int32)  (k12 : Int32 × Int32 × bw_M → Option (Int32 × bw_M)) (k47 : Int32 × bw_M → Option (Int32 × bw_M)) (x2 : Int32) (x3 : Int32) (x4 : Int32) (x5 : Int32) (s1 : Int32) (s2 : Int32) (s3 : Int32) (M : bw_M) (rr : Int32) (zz : bw_M) (hk12 : ∀ z0, k12 z0 = some (rr, zz) → bw_At p l e rmX4_tallyNextSpeakers s m args below meth c (MQ below (bw_QI bw_shC 45 D kT ρ rr zz) args s 0 0 (bw_A ρ 45)) bw_shC 45 D kT ρ 6 12 [(0, .ref (ρ 0)), (1, .int x1), (2, .int z0.1), (3, .int z0.2.1)] [] z0.2.2) (hk47 : ∀ z0, k47 z0 = some (rr, zz) → bw_At p l e rmX4_tallyNextSpeakers s m args below meth c (MQ below (bw_QI bw_shC 45 D kT ρ rr zz) args s 0 0 (bw_A ρ 45)) bw_shC 45 D kT ρ 6 47 [(0, .ref (ρ 0)), (1, .int x1), (2, .int x2), (3, .int x3), (4, .int x4), (5, .int z0.1)] [] z0.2) (h : fX4_tallyNextSpeakers_82 N x1 k12 k47 x2 x3 x4 x5 s1 s2 s3 M = some (rr, zz)) : bw_At p l e rmX4_tallyNextSpeakers s m args below meth c (MQ below (bw_QI bw_shC 45 D kT ρ rr zz) args s 0 0 (bw_A ρ 45)) bw_shC 45 D kT ρ 6 82 [(0, .ref (ρ 0)), (1, .int x1), (2, .int x2), (3, .int x3), (4, .int x4), (5, .int x5)] [.int s3, .int s2, .int s1, .ref (ρ 41)] M := by
  unfold fX4_tallyNextSpeakers_82 at h
  refine bw_iadd (pc := 82) C dX4_tallyNextSpeakers_82 ?_
  obtain ⟨qM14, M14, eM14, h⟩ := bw_wr_o h
  refine bw_iast (pc := 83) (q := 41) C ltC_41 shC_41 qM14 eM14 dX4_tallyNextSpeakers_83 ?_
  obtain ⟨v15, ev15, h⟩ := bw_mv_o h
  refine bw_iinc (pc := 84) (x := v15) (L' := [(5, .int v15), (0, .ref (ρ 0)), (1, .int x1), (2, .int x2), (3, .int x3), (4, .int x4)]) C 5 dX4_tallyNextSpeakers_84 rfl ev15.symm (by decide) rfl ?_
  refine bw_goto (pc := 87) C 47 dX4_tallyNextSpeakers_87 (by decide) ?_
  refine bw_pick [1, 2, 3, 4, 5, 0] rfl ?_
  exact hk47 (v15, M14) h
def fX4_tallyNextSpeakers_47 (N : Nat) (x1 : Int32) (k12 : Int32 × Int32 × bw_M → Option (Int32 × bw_M)) (k47 : Int32 × bw_M → Option (Int32 × bw_M)) (x2 : Int32) (x3 : Int32) (x4 : Int32) (x5 : Int32) (M : bw_M) : Option (Int32 × bw_M) :=
  if (M.1 16 0) ≤ x5 then
  fX4_tallyNextSpeakers_90 N x1 k12 x2 x3 M
  else
  bw_rd M 41 6 x5 fun v12 =>
  bw_cl (fX3_isIn x4 x5) fun v13 =>
  if v13 = 0 then
  fX4_tallyNextSpeakers_82 N x1 k12 k47 x2 x3 x4 x5 x5 v12 (0 : Int32) M
  else
  fX4_tallyNextSpeakers_82 N x1 k12 k47 x2 x3 x4 x5 x5 v12 (1 : Int32) M
theorem tX4_tallyNextSpeakers_47 {p : Program} {l : Launch} {e : Env} {s : State} {m : MethodId} {args : Array Value} {below : List Frame} {meth : Method} {c : Code} {D : va_G} {kT : Nat → ClassId} {ρ : Nat → Nat} (C : bw_Cx p s m args meth c cX4_tallyNextSpeakers 6 RX4 45 D kT ρ (some .int)) (N : Nat) (x1 : Int32)  (k12 : Int32 × Int32 × bw_M → Option (Int32 × bw_M)) (k47 : Int32 × bw_M → Option (Int32 × bw_M)) (x2 : Int32) (x3 : Int32) (x4 : Int32) (x5 : Int32) (M : bw_M) (rr : Int32) (zz : bw_M) (hk12 : ∀ z0, k12 z0 = some (rr, zz) → bw_At p l e rmX4_tallyNextSpeakers s m args below meth c (MQ below (bw_QI bw_shC 45 D kT ρ rr zz) args s 0 0 (bw_A ρ 45)) bw_shC 45 D kT ρ 6 12 [(0, .ref (ρ 0)), (1, .int x1), (2, .int z0.1), (3, .int z0.2.1)] [] z0.2.2) (hk47 : ∀ z0, k47 z0 = some (rr, zz) → bw_At p l e rmX4_tallyNextSpeakers s m args below meth c (MQ below (bw_QI bw_shC 45 D kT ρ rr zz) args s 0 0 (bw_A ρ 45)) bw_shC 45 D kT ρ 6 47 [(0, .ref (ρ 0)), (1, .int x1), (2, .int x2), (3, .int x3), (4, .int x4), (5, .int z0.1)] [] z0.2) (h : fX4_tallyNextSpeakers_47 N x1 k12 k47 x2 x3 x4 x5 M = some (rr, zz)) : bw_At p l e rmX4_tallyNextSpeakers s m args below meth c (MQ below (bw_QI bw_shC 45 D kT ρ rr zz) args s 0 0 (bw_A ρ 45)) bw_shC 45 D kT ρ 6 47 [(0, .ref (ρ 0)), (1, .int x1), (2, .int x2), (3, .int x3), (4, .int x4), (5, .int x5)] [] M := by
  unfold fX4_tallyNextSpeakers_47 at h
  refine bw_iload (pc := 47) C 5 dX4_tallyNextSpeakers_47 rfl ?_
  refine bw_aload_n (pc := 49) C 0 dX4_tallyNextSpeakers_49 rfl rfl ?_
  refine bw_getR (pc := 50) (q := 0) (k0 := 5) C ltC_0 shC_0 rfl inX4 mw_128 (by decide) rfl dX4_tallyNextSpeakers_50 ?_
  refine bw_getI (pc := 53) (q := 16) (k0 := 0) C ltC_16 shC_16 rfl inX3 mw_49 (by decide) rfl dX4_tallyNextSpeakers_53 ?_
  refine bw_icmp_ge (pc := 56) C 90 dX4_tallyNextSpeakers_56 (by decide) h (fun h => ?_) (fun h => ?_)
  · refine bw_pick [0, 1, 2, 3] rfl ?_
    exact tX4_tallyNextSpeakers_90 C N x1 k12 x2 x3 M rr zz hk12 h
  · refine bw_aload_n (pc := 59) C 0 dX4_tallyNextSpeakers_59 rfl rfl ?_
    refine bw_getR (pc := 60) (q := 0) (k0 := 9) C ltC_0 shC_0 rfl inX4 mw_132 (by decide) rfl dX4_tallyNextSpeakers_60 ?_
    refine bw_iload (pc := 63) C 5 dX4_tallyNextSpeakers_63 rfl ?_
    refine bw_dup2 (pc := 65) C dX4_tallyNextSpeakers_65 rfl rfl ?_
    obtain ⟨qv12, v12, ev12, h⟩ := bw_rd_o h
    refine bw_iald (pc := 66) (q := 41) C ltC_41 shC_41 qv12 ev12 dX4_tallyNextSpeakers_66 ?_
    refine bw_iload (pc := 67) C 4 dX4_tallyNextSpeakers_67 rfl ?_
    refine bw_iload (pc := 69) C 5 dX4_tallyNextSpeakers_69 rfl ?_
    obtain ⟨v13, ev13, h⟩ := bw_cl_o h
    refine bw_cSi (pc := 71) (As := [.int x4, .int x5]) (rest := [.int v12, .int x5, .ref (ρ 41)]) C (tX3_isIn l x4 x5 M v13 ev13) msX3_isIn mw_312 rfl rfl ⟨Nat.le_of_ble_eq_true rfl, Nat.le_of_ble_eq_true rfl⟩ rfl rfl rfl (Nat.le_of_ble_eq_true rfl) dX4_tallyNextSpeakers_71 ?_
    refine bw_if_eq (pc := 74) C 81 dX4_tallyNextSpeakers_74 (by decide) h (fun h => ?_) (fun h => ?_)
    · refine bw_iconst (pc := 81) (v := (0 : Int32)) C dX4_tallyNextSpeakers_81 ic_0 ?_
      refine bw_pick [0, 1, 2, 3, 4, 5] rfl ?_
      exact tX4_tallyNextSpeakers_82 C N x1 k12 k47 x2 x3 x4 x5 x5 v12 (0 : Int32) M rr zz hk12 hk47 h
    · refine bw_iconst (pc := 77) (v := (1 : Int32)) C dX4_tallyNextSpeakers_77 ic_1 ?_
      refine bw_goto (pc := 78) C 82 dX4_tallyNextSpeakers_78 (by decide) ?_
      refine bw_pick [0, 1, 2, 3, 4, 5] rfl ?_
      exact tX4_tallyNextSpeakers_82 C N x1 k12 k47 x2 x3 x4 x5 x5 v12 (1 : Int32) M rr zz hk12 hk47 h
def flX4_tallyNextSpeakers_47 (N : Nat) (x1 : Int32) (k12 : Int32 × Int32 × bw_M → Option (Int32 × bw_M)) (x2 : Int32) (x3 : Int32) (x4 : Int32)  (fu : Nat) (w : Int32 × bw_M) : Option (Int32 × bw_M) := bw_lp (fun kk w => fX4_tallyNextSpeakers_47 N x1 k12 kk x2 x3 x4 w.1 w.2) fu w
theorem tlX4_tallyNextSpeakers_47 {p : Program} {l : Launch} {e : Env} {s : State} {m : MethodId} {args : Array Value} {below : List Frame} {meth : Method} {c : Code} {D : va_G} {kT : Nat → ClassId} {ρ : Nat → Nat} (C : bw_Cx p s m args meth c cX4_tallyNextSpeakers 6 RX4 45 D kT ρ (some .int)) (N : Nat) (x1 : Int32)  (k12 : Int32 × Int32 × bw_M → Option (Int32 × bw_M)) (x2 : Int32) (x3 : Int32) (x4 : Int32)  (rr : Int32) (zz : bw_M) (hk12 : ∀ z0, k12 z0 = some (rr, zz) → bw_At p l e rmX4_tallyNextSpeakers s m args below meth c (MQ below (bw_QI bw_shC 45 D kT ρ rr zz) args s 0 0 (bw_A ρ 45)) bw_shC 45 D kT ρ 6 12 [(0, .ref (ρ 0)), (1, .int x1), (2, .int z0.1), (3, .int z0.2.1)] [] z0.2.2) (fu : Nat) (w : Int32 × bw_M) (h : flX4_tallyNextSpeakers_47 N x1 k12 x2 x3 x4 fu w = some (rr, zz)) : bw_At p l e rmX4_tallyNextSpeakers s m args below meth c (MQ below (bw_QI bw_shC 45 D kT ρ rr zz) args s 0 0 (bw_A ρ 45)) bw_shC 45 D kT ρ 6 47 [(0, .ref (ρ 0)), (1, .int x1), (2, .int x2), (3, .int x3), (4, .int x4), (5, .int w.1)] [] w.2 :=
  bw_loop (r := (rr, zz)) (fun w => bw_At p l e rmX4_tallyNextSpeakers s m args below meth c (MQ below (bw_QI bw_shC 45 D kT ρ rr zz) args s 0 0 (bw_A ρ 45)) bw_shC 45 D kT ρ 6 47 [(0, .ref (ρ 0)), (1, .int x1), (2, .int x2), (3, .int x3), (4, .int x4), (5, .int w.1)] [] w.2) (fun kk hk w h => tX4_tallyNextSpeakers_47 C N x1 k12 kk x2 x3 x4 w.1 w.2 rr zz hk12 hk h) fu w h
def fX4_tallyNextSpeakers_12 (N : Nat) (x1 : Int32) (k12 : Int32 × Int32 × bw_M → Option (Int32 × bw_M)) (x2 : Int32) (x3 : Int32) (M : bw_M) : Option (Int32 × bw_M) :=
  bw_cl (fX3_allPipes 16 M) fun v4 =>
  if v4 < x3 then
  some (x2, M)
  else
  bw_c2 (fX4_leakingFits N x3 x1 M) fun v5 M6 =>
  if v5 = 0 then
  fX4_tallyNextSpeakers_90 N x1 k12 x2 x3 M6
  else
  bw_mv (x2 + 1) fun v8 =>
  bw_c2 (fX3_blow N 22 M6) fun v9 M10 =>
  bw_mv (0 : Int32) fun v11 =>
  flX4_tallyNextSpeakers_47 N x1 k12 v8 x3 v9 N (v11, M10)
theorem tX4_tallyNextSpeakers_12 {p : Program} {l : Launch} {e : Env} {s : State} {m : MethodId} {args : Array Value} {below : List Frame} {meth : Method} {c : Code} {D : va_G} {kT : Nat → ClassId} {ρ : Nat → Nat} (C : bw_Cx p s m args meth c cX4_tallyNextSpeakers 6 RX4 45 D kT ρ (some .int)) (N : Nat) (x1 : Int32)  (k12 : Int32 × Int32 × bw_M → Option (Int32 × bw_M)) (x2 : Int32) (x3 : Int32) (M : bw_M) (rr : Int32) (zz : bw_M) (hk12 : ∀ z0, k12 z0 = some (rr, zz) → bw_At p l e rmX4_tallyNextSpeakers s m args below meth c (MQ below (bw_QI bw_shC 45 D kT ρ rr zz) args s 0 0 (bw_A ρ 45)) bw_shC 45 D kT ρ 6 12 [(0, .ref (ρ 0)), (1, .int x1), (2, .int z0.1), (3, .int z0.2.1)] [] z0.2.2) (h : fX4_tallyNextSpeakers_12 N x1 k12 x2 x3 M = some (rr, zz)) : bw_At p l e rmX4_tallyNextSpeakers s m args below meth c (MQ below (bw_QI bw_shC 45 D kT ρ rr zz) args s 0 0 (bw_A ρ 45)) bw_shC 45 D kT ρ 6 12 [(0, .ref (ρ 0)), (1, .int x1), (2, .int x2), (3, .int x3)] [] M := by
  unfold fX4_tallyNextSpeakers_12 at h
  refine bw_iload_n (pc := 12) C 3 dX4_tallyNextSpeakers_12 rfl rfl ?_
  refine bw_aload_n (pc := 13) C 0 dX4_tallyNextSpeakers_13 rfl rfl ?_
  refine bw_getR (pc := 14) (q := 0) (k0 := 5) C ltC_0 shC_0 rfl inX4 mw_128 (by decide) rfl dX4_tallyNextSpeakers_14 ?_
  obtain ⟨v4, ev4, h⟩ := bw_cl_o h
  refine bw_cVi (pc := 17) (q := 16) (As := []) (rest := [.int x3]) C (tX3_allPipes l 16 isT_16 M v4 ev4) msX3_allPipes mw_430 rfl rfl ⟨Nat.le_of_ble_eq_true rfl, Nat.le_of_ble_eq_true rfl⟩ ltC_16 shC_16 rfl rfl rfl rfl (Nat.le_of_ble_eq_true rfl) dX4_tallyNextSpeakers_17 ?_
  refine bw_icmp_gt (pc := 20) C 96 dX4_tallyNextSpeakers_20 (by decide) h (fun h => ?_) (fun h => ?_)
  · refine bw_iload_n (pc := 96) C 2 dX4_tallyNextSpeakers_96 rfl rfl ?_
    exact bw_ireti (pc := 97) C dX4_tallyNextSpeakers_97 h
  · refine bw_aload_n (pc := 23) C 0 dX4_tallyNextSpeakers_23 rfl rfl ?_
    refine bw_iload_n (pc := 24) C 3 dX4_tallyNextSpeakers_24 rfl rfl ?_
    refine bw_iload_n (pc := 25) C 1 dX4_tallyNextSpeakers_25 rfl rfl ?_
    obtain ⟨v5, M6, ev5, h⟩ := bw_c2_o h
    refine bw_cVi (pc := 26) (q := 0) (As := [.int x3, .int x1]) (rest := []) C (tX4_leakingFits l N x3 x1 M v5 M6 ev5) msX4_leakingFits mw_469 rfl rfl ⟨Nat.le_of_ble_eq_true rfl, Nat.le_of_ble_eq_true rfl⟩ ltC_0 shC_0 rfl rfl rfl rfl (Nat.le_of_ble_eq_true rfl) dX4_tallyNextSpeakers_26 ?_
    refine bw_if_eq (pc := 29) C 90 dX4_tallyNextSpeakers_29 (by decide) h (fun h => ?_) (fun h => ?_)
    · refine bw_pick [0, 1, 2, 3] rfl ?_
      exact tX4_tallyNextSpeakers_90 C N x1 k12 x2 x3 M6 rr zz hk12 h
    · obtain ⟨v8, ev8, h⟩ := bw_mv_o h
      refine bw_iinc (pc := 32) (x := v8) (L' := [(2, .int v8), (0, .ref (ρ 0)), (1, .int x1), (3, .int x3)]) C 2 dX4_tallyNextSpeakers_32 rfl ev8.symm (by decide) rfl ?_
      refine bw_aload_n (pc := 35) C 1 dX4_tallyNextSpeakers_35 rfl rfl ?_
      refine bw_getR (pc := 36) (q := 0) (k0 := 6) C ltC_0 shC_0 rfl inX4 mw_129 (by decide) rfl dX4_tallyNextSpeakers_36 ?_
      obtain ⟨v9, M10, ev9, h⟩ := bw_c2_o h
      refine bw_cVi (pc := 39) (q := 22) (As := []) (rest := []) C (tX3_blow l N 22 isT_22 M6 v9 M10 ev9) msX3_blow mw_417 rfl rfl ⟨Nat.le_of_ble_eq_true rfl, Nat.le_of_ble_eq_true rfl⟩ ltC_22 shC_22 rfl rfl rfl rfl (Nat.le_of_ble_eq_true rfl) dX4_tallyNextSpeakers_39 ?_
      refine bw_istore (pc := 42) (L' := [(4, .int v9), (2, .int v8), (0, .ref (ρ 0)), (1, .int x1), (3, .int x3)]) C dX4_tallyNextSpeakers_42 (by decide) rfl ?_
      refine bw_iconst (pc := 44) (v := (0 : Int32)) C dX4_tallyNextSpeakers_44 ic_0 ?_
      obtain ⟨v11, ev11, h⟩ := bw_mv_o h
      refine bw_nmI ev11 ?_
      refine bw_istore (pc := 45) (L' := [(5, .int v11), (4, .int v9), (2, .int v8), (0, .ref (ρ 0)), (1, .int x1), (3, .int x3)]) C dX4_tallyNextSpeakers_45 (by decide) rfl ?_
      refine bw_pick [3, 4, 2, 5, 1, 0] rfl ?_
      exact tlX4_tallyNextSpeakers_47 C N x1 k12 v8 x3 v9 rr zz hk12 N (v11, M10) h
def flX4_tallyNextSpeakers_12 (N : Nat) (x1 : Int32)    (fu : Nat) (w : Int32 × Int32 × bw_M) : Option (Int32 × bw_M) := bw_lp (fun kk w => fX4_tallyNextSpeakers_12 N x1 kk w.1 w.2.1 w.2.2) fu w
theorem tlX4_tallyNextSpeakers_12 {p : Program} {l : Launch} {e : Env} {s : State} {m : MethodId} {args : Array Value} {below : List Frame} {meth : Method} {c : Code} {D : va_G} {kT : Nat → ClassId} {ρ : Nat → Nat} (C : bw_Cx p s m args meth c cX4_tallyNextSpeakers 6 RX4 45 D kT ρ (some .int)) (N : Nat) (x1 : Int32)     (rr : Int32) (zz : bw_M)  (fu : Nat) (w : Int32 × Int32 × bw_M) (h : flX4_tallyNextSpeakers_12 N x1 fu w = some (rr, zz)) : bw_At p l e rmX4_tallyNextSpeakers s m args below meth c (MQ below (bw_QI bw_shC 45 D kT ρ rr zz) args s 0 0 (bw_A ρ 45)) bw_shC 45 D kT ρ 6 12 [(0, .ref (ρ 0)), (1, .int x1), (2, .int w.1), (3, .int w.2.1)] [] w.2.2 :=
  bw_loop (r := (rr, zz)) (fun w => bw_At p l e rmX4_tallyNextSpeakers s m args below meth c (MQ below (bw_QI bw_shC 45 D kT ρ rr zz) args s 0 0 (bw_A ρ 45)) bw_shC 45 D kT ρ 6 12 [(0, .ref (ρ 0)), (1, .int x1), (2, .int w.1), (3, .int w.2.1)] [] w.2.2) (fun kk hk w h => tX4_tallyNextSpeakers_12 C N x1 kk w.1 w.2.1 w.2.2 rr zz hk h) fu w h
def fX4_tallyNextSpeakers (N : Nat) (x1 : Int32) (M : bw_M) : Option (Int32 × bw_M) :=
  bw_cl (fJ7_fill_53178 N 41 6 (0 : Int32) M) fun M1 =>
  bw_mv (0 : Int32) fun v2 =>
  bw_mv (0 : Int32) fun v3 =>
  flX4_tallyNextSpeakers_12 N x1 N (v2, v3, M1)
theorem tX4_tallyNextSpeakers (l : Launch) (N : Nat) (x1 : Int32)  (M : bw_M) (rr : Int32) (zz : bw_M) (h : fX4_tallyNextSpeakers N x1 M = some (rr, zz)) : bw_CI l bw_shC 45 yX4_tallyNextSpeakers cX4_tallyNextSpeakers 6 (some .int) rmX4_tallyNextSpeakers (fun ρ => [.ref (ρ 0), .int x1]) M rr zz := by
  refine bw_inI (Lf := fun ρ => [(0, .ref (ρ 0)), (1, .int x1)]) cX4_tallyNextSpeakers 6 (some .int) RX4 pn_X4 rfl (fun ρ => Nat.le_of_ble_eq_true rfl) (fun ρ => rfl) ?_
  intro p e s m args below meth c D kT ρ C
  unfold fX4_tallyNextSpeakers at h
  refine bw_aload_n (pc := 0) C 0 dX4_tallyNextSpeakers_0 rfl rfl ?_
  refine bw_getR (pc := 1) (q := 0) (k0 := 9) C ltC_0 shC_0 rfl inX4 mw_132 (by decide) rfl dX4_tallyNextSpeakers_1 ?_
  refine bw_iconst (pc := 4) (v := (0 : Int32)) C dX4_tallyNextSpeakers_4 ic_0 ?_
  obtain ⟨M1, eM1, h⟩ := bw_cl_o h
  refine bw_cSv (pc := 5) (As := [.ref (ρ 41), .int (0 : Int32)]) (rest := []) C (tJ7_fill_53178 l N 41 6 (0 : Int32) ltC_41 shC_41 M M1 eM1) msJ7_fill_53178 mw_120 rfl rfl ⟨Nat.le_of_ble_eq_true rfl, Nat.le_of_ble_eq_true rfl⟩ rfl rfl rfl (Nat.le_of_ble_eq_true rfl) dX4_tallyNextSpeakers_5 ?_
  refine bw_iconst (pc := 8) (v := (0 : Int32)) C dX4_tallyNextSpeakers_8 ic_0 ?_
  obtain ⟨v2, ev2, h⟩ := bw_mv_o h
  refine bw_nmI ev2 ?_
  refine bw_istore_n (pc := 9) (L' := [(2, .int v2), (0, .ref (ρ 0)), (1, .int x1)]) C dX4_tallyNextSpeakers_9 rfl (by decide) rfl ?_
  refine bw_iconst (pc := 10) (v := (0 : Int32)) C dX4_tallyNextSpeakers_10 ic_0 ?_
  obtain ⟨v3, ev3, h⟩ := bw_mv_o h
  refine bw_nmI ev3 ?_
  refine bw_istore_n (pc := 11) (L' := [(3, .int v3), (2, .int v2), (0, .ref (ρ 0)), (1, .int x1)]) C dX4_tallyNextSpeakers_11 rfl (by decide) rfl ?_
  refine bw_pick [2, 3, 1, 0] rfl ?_
  exact tlX4_tallyNextSpeakers_12 C N x1 rr zz N (v2, v3, M1) h
/-! X4_listen -/
abbrev rmX4_listen : Room := { frames := 7, cells := 0, slots := 0, locals := 158 }
theorem msX4_listen : bw_MV yX4_listen cX4_listen 8 (some .int) RX4 1 := ⟨mw_485, mw_486, mw_1, mw_487, by decide +kernel⟩
def fX4_listen_75 (N : Nat) (x1 : Int32) (k39 : Int32 × Int32 × Int32 → Option (Int32 × bw_M)) (x3 : Int32) (x4 : Int32) (x5 : Int32) (x6 : Int32) (M : bw_M) : Option (Int32 × bw_M) :=
  bw_mv (x6 + 1) fun v11 =>
  k39 (x4, x5, v11)
theorem tX4_listen_75 {p : Program} {l : Launch} {e : Env} {s : State} {m : MethodId} {args : Array Value} {below : List Frame} {meth : Method} {c : Code} {D : va_G} {kT : Nat → ClassId} {ρ : Nat → Nat} (C : bw_Cx p s m args meth c cX4_listen 8 RX4 45 D kT ρ (some .int)) (N : Nat) (x1 : Int32)  (k39 : Int32 × Int32 × Int32 → Option (Int32 × bw_M)) (x3 : Int32) (x4 : Int32) (x5 : Int32) (x6 : Int32) (M : bw_M) (rr : Int32) (zz : bw_M) (hk39 : ∀ z0, k39 z0 = some (rr, zz) → bw_At p l e rmX4_listen s m args below meth c (MQ below (bw_QI bw_shC 45 D kT ρ rr zz) args s 0 0 (bw_A ρ 45)) bw_shC 45 D kT ρ 8 39 [(0, .ref (ρ 0)), (1, .int x1), (3, .int x3), (4, .int z0.1), (5, .int z0.2.1), (6, .int z0.2.2)] [] M) (h : fX4_listen_75 N x1 k39 x3 x4 x5 x6 M = some (rr, zz)) : bw_At p l e rmX4_listen s m args below meth c (MQ below (bw_QI bw_shC 45 D kT ρ rr zz) args s 0 0 (bw_A ρ 45)) bw_shC 45 D kT ρ 8 75 [(0, .ref (ρ 0)), (1, .int x1), (3, .int x3), (4, .int x4), (5, .int x5), (6, .int x6)] [] M := by
  unfold fX4_listen_75 at h
  obtain ⟨v11, ev11, h⟩ := bw_mv_o h
  refine bw_iinc (pc := 75) (x := v11) (L' := [(6, .int v11), (0, .ref (ρ 0)), (1, .int x1), (3, .int x3), (4, .int x4), (5, .int x5)]) C 5 dX4_listen_75 rfl ev11.symm (by decide) rfl ?_
  refine bw_goto (pc := 78) C 39 dX4_listen_78 (by decide) ?_
  refine bw_pick [1, 2, 3, 4, 5, 0] rfl ?_
  exact hk39 (x4, x5, v11) h
def fX4_listen_39 (N : Nat) (x1 : Int32) (k39 : Int32 × Int32 × Int32 → Option (Int32 × bw_M)) (x3 : Int32) (x4 : Int32) (x5 : Int32) (x6 : Int32) (M : bw_M) : Option (Int32 × bw_M) :=
  if (M.1 16 0) ≤ x6 then
  bw_c2 (fX4_tell x5 M) fun v8 M9 =>
  some (x4, M9)
  else
  bw_cl (fX4_greaterPart x6 x3 M) fun v10 =>
  if x5 ≤ v10 then
  fX4_listen_75 N x1 k39 x3 x4 x5 x6 M
  else
  fX4_listen_75 N x1 k39 x3 x6 v10 x6 M
theorem tX4_listen_39 {p : Program} {l : Launch} {e : Env} {s : State} {m : MethodId} {args : Array Value} {below : List Frame} {meth : Method} {c : Code} {D : va_G} {kT : Nat → ClassId} {ρ : Nat → Nat} (C : bw_Cx p s m args meth c cX4_listen 8 RX4 45 D kT ρ (some .int)) (N : Nat) (x1 : Int32)  (k39 : Int32 × Int32 × Int32 → Option (Int32 × bw_M)) (x3 : Int32) (x4 : Int32) (x5 : Int32) (x6 : Int32) (M : bw_M) (rr : Int32) (zz : bw_M) (hk39 : ∀ z0, k39 z0 = some (rr, zz) → bw_At p l e rmX4_listen s m args below meth c (MQ below (bw_QI bw_shC 45 D kT ρ rr zz) args s 0 0 (bw_A ρ 45)) bw_shC 45 D kT ρ 8 39 [(0, .ref (ρ 0)), (1, .int x1), (3, .int x3), (4, .int z0.1), (5, .int z0.2.1), (6, .int z0.2.2)] [] M) (h : fX4_listen_39 N x1 k39 x3 x4 x5 x6 M = some (rr, zz)) : bw_At p l e rmX4_listen s m args below meth c (MQ below (bw_QI bw_shC 45 D kT ρ rr zz) args s 0 0 (bw_A ρ 45)) bw_shC 45 D kT ρ 8 39 [(0, .ref (ρ 0)), (1, .int x1), (3, .int x3), (4, .int x4), (5, .int x5), (6, .int x6)] [] M := by
  unfold fX4_listen_39 at h
  refine bw_iload (pc := 39) C 5 dX4_listen_39 rfl ?_
  refine bw_aload_n (pc := 41) C 0 dX4_listen_41 rfl rfl ?_
  refine bw_getR (pc := 42) (q := 0) (k0 := 5) C ltC_0 shC_0 rfl inX4 mw_128 (by decide) rfl dX4_listen_42 ?_
  refine bw_getI (pc := 45) (q := 16) (k0 := 0) C ltC_16 shC_16 rfl inX3 mw_49 (by decide) rfl dX4_listen_45 ?_
  refine bw_icmp_ge (pc := 48) C 81 dX4_listen_48 (by decide) h (fun h => ?_) (fun h => ?_)
  · refine bw_aload_n (pc := 81) C 0 dX4_listen_81 rfl rfl ?_
    refine bw_iload (pc := 82) C 4 dX4_listen_82 rfl ?_
    obtain ⟨v8, M9, ev8, h⟩ := bw_c2_o h
    refine bw_cVi (pc := 84) (q := 0) (As := [.int x5]) (rest := []) C (tX4_tell l x5 M v8 M9 ev8) msX4_tell mw_197 rfl rfl ⟨Nat.le_of_ble_eq_true rfl, Nat.le_of_ble_eq_true rfl⟩ ltC_0 shC_0 rfl rfl rfl rfl (Nat.le_of_ble_eq_true rfl) dX4_listen_84 ?_
    refine bw_pop (pc := 87) C dX4_listen_87 rfl ?_
    refine bw_iload (pc := 88) C 3 dX4_listen_88 rfl ?_
    exact bw_ireti (pc := 90) C dX4_listen_90 h
  · refine bw_aload_n (pc := 51) C 0 dX4_listen_51 rfl rfl ?_
    refine bw_iload (pc := 52) C 5 dX4_listen_52 rfl ?_
    refine bw_iload_n (pc := 54) C 2 dX4_listen_54 rfl rfl ?_
    obtain ⟨v10, ev10, h⟩ := bw_cl_o h
    refine bw_cVi (pc := 55) (q := 0) (As := [.int x6, .int x3]) (rest := []) C (tX4_greaterPart l x6 x3 M v10 ev10) msX4_greaterPart mw_492 rfl rfl ⟨Nat.le_of_ble_eq_true rfl, Nat.le_of_ble_eq_true rfl⟩ ltC_0 shC_0 rfl rfl rfl rfl (Nat.le_of_ble_eq_true rfl) dX4_listen_55 ?_
    refine bw_istore (pc := 58) (L' := [(7, .int v10), (0, .ref (ρ 0)), (1, .int x1), (3, .int x3), (4, .int x4), (5, .int x5), (6, .int x6)]) C dX4_listen_58 (by decide) rfl ?_
    refine bw_iload (pc := 60) C 0 dX4_listen_60 rfl ?_
    refine bw_iload (pc := 62) C 5 dX4_listen_62 rfl ?_
    refine bw_icmp_ge (pc := 64) C 75 dX4_listen_64 (by decide) h (fun h => ?_) (fun h => ?_)
    · refine bw_pick [1, 2, 3, 4, 5, 6] rfl ?_
      exact tX4_listen_75 C N x1 k39 x3 x4 x5 x6 M rr zz hk39 h
    · refine bw_iload (pc := 67) C 6 dX4_listen_67 rfl ?_
      refine bw_istore (pc := 69) (L' := [(4, .int x6), (7, .int v10), (0, .ref (ρ 0)), (1, .int x1), (3, .int x3), (5, .int x5), (6, .int x6)]) C dX4_listen_69 (by decide) rfl ?_
      refine bw_iload (pc := 71) C 1 dX4_listen_71 rfl ?_
      refine bw_istore (pc := 73) (L' := [(5, .int v10), (4, .int x6), (7, .int v10), (0, .ref (ρ 0)), (1, .int x1), (3, .int x3), (6, .int x6)]) C dX4_listen_73 (by decide) rfl ?_
      refine bw_pick [3, 4, 5, 1, 0, 6] rfl ?_
      exact tX4_listen_75 C N x1 k39 x3 x6 v10 x6 M rr zz hk39 h
def flX4_listen_39 (N : Nat) (x1 : Int32)  (x3 : Int32) (M : bw_M) (fu : Nat) (w : Int32 × Int32 × Int32) : Option (Int32 × bw_M) := bw_lp (fun kk w => fX4_listen_39 N x1 kk x3 w.1 w.2.1 w.2.2 M) fu w
theorem tlX4_listen_39 {p : Program} {l : Launch} {e : Env} {s : State} {m : MethodId} {args : Array Value} {below : List Frame} {meth : Method} {c : Code} {D : va_G} {kT : Nat → ClassId} {ρ : Nat → Nat} (C : bw_Cx p s m args meth c cX4_listen 8 RX4 45 D kT ρ (some .int)) (N : Nat) (x1 : Int32)   (x3 : Int32) (M : bw_M) (rr : Int32) (zz : bw_M)  (fu : Nat) (w : Int32 × Int32 × Int32) (h : flX4_listen_39 N x1 x3 M fu w = some (rr, zz)) : bw_At p l e rmX4_listen s m args below meth c (MQ below (bw_QI bw_shC 45 D kT ρ rr zz) args s 0 0 (bw_A ρ 45)) bw_shC 45 D kT ρ 8 39 [(0, .ref (ρ 0)), (1, .int x1), (3, .int x3), (4, .int w.1), (5, .int w.2.1), (6, .int w.2.2)] [] M :=
  bw_loop (r := (rr, zz)) (fun w => bw_At p l e rmX4_listen s m args below meth c (MQ below (bw_QI bw_shC 45 D kT ρ rr zz) args s 0 0 (bw_A ρ 45)) bw_shC 45 D kT ρ 8 39 [(0, .ref (ρ 0)), (1, .int x1), (3, .int x3), (4, .int w.1), (5, .int w.2.1), (6, .int w.2.2)] [] M) (fun kk hk w h => tX4_listen_39 C N x1 kk x3 w.1 w.2.1 w.2.2 M rr zz hk h) fu w h
def fX4_listen (N : Nat) (x1 : Int32) (M : bw_M) : Option (Int32 × bw_M) :=
  bw_c2 (fX4_refusedHearing N x1 M) fun v1 M2 =>
  if v1 = 0 then
  bw_c2 (fX4_tallyNextSpeakers N x1 M2) fun v3 M4 =>
  if v3 = 0 then
  some ((-9 : Int32), M4)
  else
  bw_mv (0 : Int32) fun v5 =>
  bw_cl (fX4_greaterPart (0 : Int32) v3 M4) fun v6 =>
  bw_mv (1 : Int32) fun v7 =>
  flX4_listen_39 N x1 v3 M4 N (v5, v6, v7)
  else
  some (v1, M2)
theorem tX4_listen (l : Launch) (N : Nat) (x1 : Int32)  (M : bw_M) (rr : Int32) (zz : bw_M) (h : fX4_listen N x1 M = some (rr, zz)) : bw_CI l bw_shC 45 yX4_listen cX4_listen 8 (some .int) rmX4_listen (fun ρ => [.ref (ρ 0), .int x1]) M rr zz := by
  refine bw_inI (Lf := fun ρ => [(0, .ref (ρ 0)), (1, .int x1)]) cX4_listen 8 (some .int) RX4 pn_X4 rfl (fun ρ => Nat.le_of_ble_eq_true rfl) (fun ρ => rfl) ?_
  intro p e s m args below meth c D kT ρ C
  unfold fX4_listen at h
  refine bw_aload_n (pc := 0) C 0 dX4_listen_0 rfl rfl ?_
  refine bw_iload_n (pc := 1) C 1 dX4_listen_1 rfl rfl ?_
  obtain ⟨v1, M2, ev1, h⟩ := bw_c2_o h
  refine bw_cVi (pc := 2) (q := 0) (As := [.int x1]) (rest := []) C (tX4_refusedHearing l N x1 M v1 M2 ev1) msX4_refusedHearing mw_465 rfl rfl ⟨Nat.le_of_ble_eq_true rfl, Nat.le_of_ble_eq_true rfl⟩ ltC_0 shC_0 rfl rfl rfl rfl (Nat.le_of_ble_eq_true rfl) dX4_listen_2 ?_
  refine bw_istore_n (pc := 5) (L' := [(2, .int v1), (0, .ref (ρ 0)), (1, .int x1)]) C dX4_listen_5 rfl (by decide) rfl ?_
  refine bw_iload_n (pc := 6) C 0 dX4_listen_6 rfl rfl ?_
  refine bw_if_eq (pc := 7) C 12 dX4_listen_7 (by decide) h (fun h => ?_) (fun h => ?_)
  · refine bw_aload_n (pc := 12) C 1 dX4_listen_12 rfl rfl ?_
    refine bw_iload_n (pc := 13) C 2 dX4_listen_13 rfl rfl ?_
    obtain ⟨v3, M4, ev3, h⟩ := bw_c2_o h
    refine bw_cVi (pc := 14) (q := 0) (As := [.int x1]) (rest := []) C (tX4_tallyNextSpeakers l N x1 M2 v3 M4 ev3) msX4_tallyNextSpeakers mw_488 rfl rfl ⟨Nat.le_of_ble_eq_true rfl, Nat.le_of_ble_eq_true rfl⟩ ltC_0 shC_0 rfl rfl rfl rfl (Nat.le_of_ble_eq_true rfl) dX4_listen_14 ?_
    refine bw_istore_n (pc := 17) (L' := [(3, .int v3), (2, .int v1), (0, .ref (ρ 0)), (1, .int x1)]) C dX4_listen_17 rfl (by decide) rfl ?_
    refine bw_iload_n (pc := 18) C 0 dX4_listen_18 rfl rfl ?_
    refine bw_if_ne (pc := 19) C 25 dX4_listen_19 (by decide) h (fun h => ?_) (fun h => ?_)
    · refine bw_iconst (pc := 25) (v := (0 : Int32)) C dX4_listen_25 ic_0 ?_
      obtain ⟨v5, ev5, h⟩ := bw_mv_o h
      refine bw_nmI ev5 ?_
      refine bw_istore (pc := 26) (L' := [(4, .int v5), (3, .int v3), (2, .int v1), (0, .ref (ρ 0)), (1, .int x1)]) C dX4_listen_26 (by decide) rfl ?_
      refine bw_aload_n (pc := 28) C 3 dX4_listen_28 rfl rfl ?_
      refine bw_iconst (pc := 29) (v := (0 : Int32)) C dX4_listen_29 ic_0 ?_
      refine bw_iload_n (pc := 30) C 1 dX4_listen_30 rfl rfl ?_
      obtain ⟨v6, ev6, h⟩ := bw_cl_o h
      refine bw_cVi (pc := 31) (q := 0) (As := [.int (0 : Int32), .int v3]) (rest := []) C (tX4_greaterPart l (0 : Int32) v3 M4 v6 ev6) msX4_greaterPart mw_492 rfl rfl ⟨Nat.le_of_ble_eq_true rfl, Nat.le_of_ble_eq_true rfl⟩ ltC_0 shC_0 rfl rfl rfl rfl (Nat.le_of_ble_eq_true rfl) dX4_listen_31 ?_
      refine bw_istore (pc := 34) (L' := [(5, .int v6), (4, .int v5), (3, .int v3), (2, .int v1), (0, .ref (ρ 0)), (1, .int x1)]) C dX4_listen_34 (by decide) rfl ?_
      refine bw_iconst (pc := 36) (v := (1 : Int32)) C dX4_listen_36 ic_1 ?_
      obtain ⟨v7, ev7, h⟩ := bw_mv_o h
      refine bw_nmI ev7 ?_
      refine bw_istore (pc := 37) (L' := [(6, .int v7), (5, .int v6), (4, .int v5), (3, .int v3), (2, .int v1), (0, .ref (ρ 0)), (1, .int x1)]) C dX4_listen_37 (by decide) rfl ?_
      refine bw_pick [5, 6, 3, 2, 1, 0] rfl ?_
      exact tlX4_listen_39 C N x1 v3 M4 rr zz N (v5, v6, v7) h
    · refine bw_bipush (pc := 22) (v := (-9 : Int32)) C dX4_listen_22 bi_m9 ?_
      exact bw_ireti (pc := 24) C dX4_listen_24 h
  · refine bw_iload_n (pc := 10) C 0 dX4_listen_10 rfl rfl ?_
    exact bw_ireti (pc := 11) C dX4_listen_11 h
/-! X4_performLot -/
abbrev rmX4_performLot : Room := { frames := 6, cells := 0, slots := 0, locals := 133 }
theorem msX4_performLot : bw_MV yX4_performLot cX4_performLot 3 none RX4 1 := ⟨mw_556, mw_1090, mw_1, mw_557, by decide +kernel⟩
def fX4_performLot_121 (N : Nat) (x1 : Int32)   (M : bw_M) : Option (bw_M) :=
  some M
theorem tX4_performLot_121 {p : Program} {l : Launch} {e : Env} {s : State} {m : MethodId} {args : Array Value} {below : List Frame} {meth : Method} {c : Code} {D : va_G} {kT : Nat → ClassId} {ρ : Nat → Nat} (C : bw_Cx p s m args meth c cX4_performLot 3 RX4 45 D kT ρ none) (N : Nat) (x1 : Int32)    (M : bw_M) (zz : bw_M)  (h : fX4_performLot_121 N x1 M = some zz) : bw_At p l e rmX4_performLot s m args below meth c (MQ below (bw_QV bw_shC 45 D kT ρ zz) args s 0 0 (bw_A ρ 45)) bw_shC 45 D kT ρ 3 121 [(0, .ref (ρ 0)), (1, .int x1)] [] M := by
  unfold fX4_performLot_121 at h
  exact bw_vreti (pc := 121) C dX4_performLot_121 h
def fX4_performLot_23 (N : Nat) (x1 : Int32)  (s0 : Int32) (M : bw_M) : Option (bw_M) :=
  bw_mv ((x1 / (8 : Int32)) - (x1 / (8 : Int32)) / (8 : Int32) * (8 : Int32)) fun v1 =>
  if v1 = (4 : Int32) then
  bw_c2 (fX4_perform N (2 : Int32) s0 M) fun v3 M4 =>
  fX4_performLot_121 N x1 M4
  else if v1 = (5 : Int32) then
  bw_c2 (fX4_perform N (3 : Int32) s0 M) fun v6 M7 =>
  fX4_performLot_121 N x1 M7
  else if v1 = (6 : Int32) then
  bw_c2 (fX4_perform N (4 : Int32) ((x1 / (64 : Int32)) - (x1 / (64 : Int32)) / (10 : Int32) * (10 : Int32)) M) fun v9 M10 =>
  fX4_performLot_121 N x1 M10
  else if v1 = (7 : Int32) then
  bw_c2 (fX4_perform N (1 : Int32) (((x1 / (64 : Int32)) - (x1 / (64 : Int32)) / (9 : Int32) * (9 : Int32)) + (1 : Int32)) M) fun v12 M13 =>
  fX4_performLot_121 N x1 M13
  else 
  bw_c2 (fX4_perform N (0 : Int32) (0 : Int32) M) fun v14 M15 =>
  fX4_performLot_121 N x1 M15
theorem tX4_performLot_23 {p : Program} {l : Launch} {e : Env} {s : State} {m : MethodId} {args : Array Value} {below : List Frame} {meth : Method} {c : Code} {D : va_G} {kT : Nat → ClassId} {ρ : Nat → Nat} (C : bw_Cx p s m args meth c cX4_performLot 3 RX4 45 D kT ρ none) (N : Nat) (x1 : Int32)   (s0 : Int32) (M : bw_M) (zz : bw_M)  (h : fX4_performLot_23 N x1 s0 M = some zz) : bw_At p l e rmX4_performLot s m args below meth c (MQ below (bw_QV bw_shC 45 D kT ρ zz) args s 0 0 (bw_A ρ 45)) bw_shC 45 D kT ρ 3 23 [(0, .ref (ρ 0)), (1, .int x1)] [.int s0] M := by
  unfold fX4_performLot_23 at h
  refine bw_istore_n (pc := 23) (L' := [(2, .int s0), (0, .ref (ρ 0)), (1, .int x1)]) C dX4_performLot_23 rfl (by decide) rfl ?_
  refine bw_iload_n (pc := 24) C 2 dX4_performLot_24 rfl rfl ?_
  refine bw_bipush (pc := 25) (v := (8 : Int32)) C dX4_performLot_25 bi_8 ?_
  refine bw_idiv (pc := 27) C dX4_performLot_27 (by decide) ?_
  refine bw_bipush (pc := 28) (v := (8 : Int32)) C dX4_performLot_28 bi_8 ?_
  refine bw_irem (pc := 30) C dX4_performLot_30 (by decide) ?_
  obtain ⟨v1, ev1, h⟩ := bw_mv_o h
  refine bw_nmI ev1 ?_
  refine bw_swc (pc := 31) C (4 : Int32) h (fun h => ?_) (fun q2 h => ?_)
  · refine bw_swi (pc := 31) C 60 dX4_performLot_31 (by decide) (by decide) rfl (by decide) ?_
    refine bw_aload_n (pc := 60) C 1 dX4_performLot_60 rfl rfl ?_
    refine bw_iconst (pc := 61) (v := (2 : Int32)) C dX4_performLot_61 ic_2 ?_
    refine bw_iload_n (pc := 62) C 0 dX4_performLot_62 rfl rfl ?_
    obtain ⟨v3, M4, ev3, h⟩ := bw_c2_o h
    refine bw_cVi (pc := 63) (q := 0) (As := [.int (2 : Int32), .int s0]) (rest := []) C (tX4_perform l N (2 : Int32) s0 M v3 M4 ev3) msX4_perform mw_334 rfl rfl ⟨Nat.le_of_ble_eq_true rfl, Nat.le_of_ble_eq_true rfl⟩ ltC_0 shC_0 rfl rfl rfl rfl (Nat.le_of_ble_eq_true rfl) dX4_performLot_63 ?_
    refine bw_pop (pc := 66) C dX4_performLot_66 rfl ?_
    refine bw_goto (pc := 67) C 121 dX4_performLot_67 (by decide) ?_
    refine bw_pick [1, 2] rfl ?_
    exact tX4_performLot_121 C N x1 M4 zz h
  refine bw_swc (pc := 31) C (5 : Int32) h (fun h => ?_) (fun q5 h => ?_)
  · refine bw_swi (pc := 31) C 70 dX4_performLot_31 (by decide) (by decide) rfl (by decide) ?_
    refine bw_aload_n (pc := 70) C 1 dX4_performLot_70 rfl rfl ?_
    refine bw_iconst (pc := 71) (v := (3 : Int32)) C dX4_performLot_71 ic_3 ?_
    refine bw_iload_n (pc := 72) C 0 dX4_performLot_72 rfl rfl ?_
    obtain ⟨v6, M7, ev6, h⟩ := bw_c2_o h
    refine bw_cVi (pc := 73) (q := 0) (As := [.int (3 : Int32), .int s0]) (rest := []) C (tX4_perform l N (3 : Int32) s0 M v6 M7 ev6) msX4_perform mw_334 rfl rfl ⟨Nat.le_of_ble_eq_true rfl, Nat.le_of_ble_eq_true rfl⟩ ltC_0 shC_0 rfl rfl rfl rfl (Nat.le_of_ble_eq_true rfl) dX4_performLot_73 ?_
    refine bw_pop (pc := 76) C dX4_performLot_76 rfl ?_
    refine bw_goto (pc := 77) C 121 dX4_performLot_77 (by decide) ?_
    refine bw_pick [1, 2] rfl ?_
    exact tX4_performLot_121 C N x1 M7 zz h
  refine bw_swc (pc := 31) C (6 : Int32) h (fun h => ?_) (fun q8 h => ?_)
  · refine bw_swi (pc := 31) C 80 dX4_performLot_31 (by decide) (by decide) rfl (by decide) ?_
    refine bw_aload_n (pc := 80) C 1 dX4_performLot_80 rfl rfl ?_
    refine bw_iconst (pc := 81) (v := (4 : Int32)) C dX4_performLot_81 ic_4 ?_
    refine bw_iload_n (pc := 82) C 2 dX4_performLot_82 rfl rfl ?_
    refine bw_bipush (pc := 83) (v := (64 : Int32)) C dX4_performLot_83 bi_64 ?_
    refine bw_idiv (pc := 85) C dX4_performLot_85 (by decide) ?_
    refine bw_bipush (pc := 86) (v := (10 : Int32)) C dX4_performLot_86 bi_10 ?_
    refine bw_irem (pc := 88) C dX4_performLot_88 (by decide) ?_
    obtain ⟨v9, M10, ev9, h⟩ := bw_c2_o h
    refine bw_cVi (pc := 89) (q := 0) (As := [.int (4 : Int32), .int ((x1 / (64 : Int32)) - (x1 / (64 : Int32)) / (10 : Int32) * (10 : Int32))]) (rest := []) C (tX4_perform l N (4 : Int32) ((x1 / (64 : Int32)) - (x1 / (64 : Int32)) / (10 : Int32) * (10 : Int32)) M v9 M10 ev9) msX4_perform mw_334 rfl rfl ⟨Nat.le_of_ble_eq_true rfl, Nat.le_of_ble_eq_true rfl⟩ ltC_0 shC_0 rfl rfl rfl rfl (Nat.le_of_ble_eq_true rfl) dX4_performLot_89 ?_
    refine bw_pop (pc := 92) C dX4_performLot_92 rfl ?_
    refine bw_goto (pc := 93) C 121 dX4_performLot_93 (by decide) ?_
    refine bw_pick [1, 2] rfl ?_
    exact tX4_performLot_121 C N x1 M10 zz h
  refine bw_swc (pc := 31) C (7 : Int32) h (fun h => ?_) (fun q11 h => ?_)
  · refine bw_swi (pc := 31) C 96 dX4_performLot_31 (by decide) (by decide) rfl (by decide) ?_
    refine bw_aload_n (pc := 96) C 1 dX4_performLot_96 rfl rfl ?_
    refine bw_iconst (pc := 97) (v := (1 : Int32)) C dX4_performLot_97 ic_1 ?_
    refine bw_iload_n (pc := 98) C 2 dX4_performLot_98 rfl rfl ?_
    refine bw_bipush (pc := 99) (v := (64 : Int32)) C dX4_performLot_99 bi_64 ?_
    refine bw_idiv (pc := 101) C dX4_performLot_101 (by decide) ?_
    refine bw_bipush (pc := 102) (v := (9 : Int32)) C dX4_performLot_102 bi_9 ?_
    refine bw_irem (pc := 104) C dX4_performLot_104 (by decide) ?_
    refine bw_iconst (pc := 105) (v := (1 : Int32)) C dX4_performLot_105 ic_1 ?_
    refine bw_iadd (pc := 106) C dX4_performLot_106 ?_
    obtain ⟨v12, M13, ev12, h⟩ := bw_c2_o h
    refine bw_cVi (pc := 107) (q := 0) (As := [.int (1 : Int32), .int (((x1 / (64 : Int32)) - (x1 / (64 : Int32)) / (9 : Int32) * (9 : Int32)) + (1 : Int32))]) (rest := []) C (tX4_perform l N (1 : Int32) (((x1 / (64 : Int32)) - (x1 / (64 : Int32)) / (9 : Int32) * (9 : Int32)) + (1 : Int32)) M v12 M13 ev12) msX4_perform mw_334 rfl rfl ⟨Nat.le_of_ble_eq_true rfl, Nat.le_of_ble_eq_true rfl⟩ ltC_0 shC_0 rfl rfl rfl rfl (Nat.le_of_ble_eq_true rfl) dX4_performLot_107 ?_
    refine bw_pop (pc := 110) C dX4_performLot_110 rfl ?_
    refine bw_goto (pc := 111) C 121 dX4_performLot_111 (by decide) ?_
    refine bw_pick [1, 2] rfl ?_
    exact tX4_performLot_121 C N x1 M13 zz h
  have ho : (v1).toInt < 4 ∨ 7 < (v1).toInt := bw_sw_out 4 (by decide) (by decide) (by decide) (fun j hj => by
    match j, hj with
    | 0, _ => exact q2
    | 1, _ => exact q5
    | 2, _ => exact q8
    | 3, _ => exact q11
    | j + 4, hj => exact absurd hj (by omega))
  refine bw_swo (pc := 31) C 114 dX4_performLot_31 ho (by decide) ?_
  refine bw_aload_n (pc := 114) C 1 dX4_performLot_114 rfl rfl ?_
  refine bw_iconst (pc := 115) (v := (0 : Int32)) C dX4_performLot_115 ic_0 ?_
  refine bw_iconst (pc := 116) (v := (0 : Int32)) C dX4_performLot_116 ic_0 ?_
  obtain ⟨v14, M15, ev14, h⟩ := bw_c2_o h
  refine bw_cVi (pc := 117) (q := 0) (As := [.int (0 : Int32), .int (0 : Int32)]) (rest := []) C (tX4_perform l N (0 : Int32) (0 : Int32) M v14 M15 ev14) msX4_perform mw_334 rfl rfl ⟨Nat.le_of_ble_eq_true rfl, Nat.le_of_ble_eq_true rfl⟩ ltC_0 shC_0 rfl rfl rfl rfl (Nat.le_of_ble_eq_true rfl) dX4_performLot_117 ?_
  refine bw_pop (pc := 120) C dX4_performLot_120 rfl ?_
  refine bw_pick [1, 2] rfl ?_
  exact tX4_performLot_121 C N x1 M15 zz h
def fX4_performLot (N : Nat) (x1 : Int32) (M : bw_M) : Option (bw_M) :=
  if (M.1 16 0) ≤ 0 then
  fX4_performLot_23 N x1 (0 : Int32) M
  else
  bw_ck (decide (¬ (M.1 16 0) = 0)) (
  fX4_performLot_23 N x1 (x1 - x1 / (M.1 16 0) * (M.1 16 0)) M)
theorem tX4_performLot (l : Launch) (N : Nat) (x1 : Int32)  (M : bw_M) (zz : bw_M) (h : fX4_performLot N x1 M = some zz) : bw_CV l bw_shC 45 yX4_performLot cX4_performLot 3 none rmX4_performLot (fun ρ => [.ref (ρ 0), .int x1]) M zz := by
  refine bw_inV (Lf := fun ρ => [(0, .ref (ρ 0)), (1, .int x1)]) cX4_performLot 3 none RX4 pn_X4 rfl (fun ρ => Nat.le_of_ble_eq_true rfl) (fun ρ => rfl) ?_
  intro p e s m args below meth c D kT ρ C
  unfold fX4_performLot at h
  refine bw_aload_n (pc := 0) C 0 dX4_performLot_0 rfl rfl ?_
  refine bw_getR (pc := 1) (q := 0) (k0 := 5) C ltC_0 shC_0 rfl inX4 mw_128 (by decide) rfl dX4_performLot_1 ?_
  refine bw_getI (pc := 4) (q := 16) (k0 := 0) C ltC_16 shC_16 rfl inX3 mw_49 (by decide) rfl dX4_performLot_4 ?_
  refine bw_if_le (pc := 7) C 22 dX4_performLot_7 (by decide) h (fun h => ?_) (fun h => ?_)
  · refine bw_iconst (pc := 22) (v := (0 : Int32)) C dX4_performLot_22 ic_0 ?_
    refine bw_pick [0, 1] rfl ?_
    exact tX4_performLot_23 C N x1 (0 : Int32) M zz h
  · refine bw_iload_n (pc := 10) C 1 dX4_performLot_10 rfl rfl ?_
    refine bw_aload_n (pc := 11) C 0 dX4_performLot_11 rfl rfl ?_
    refine bw_getR (pc := 12) (q := 0) (k0 := 5) C ltC_0 shC_0 rfl inX4 mw_128 (by decide) rfl dX4_performLot_12 ?_
    refine bw_getI (pc := 15) (q := 16) (k0 := 0) C ltC_16 shC_16 rfl inX3 mw_49 (by decide) rfl dX4_performLot_15 ?_
    obtain ⟨q16, h⟩ := bw_ck_o h
    refine bw_irem (pc := 18) C dX4_performLot_18 (of_decide_eq_true q16) ?_
    refine bw_goto (pc := 19) C 23 dX4_performLot_19 (by decide) ?_
    refine bw_pick [0, 1] rfl ?_
    exact tX4_performLot_23 C N x1 (x1 - x1 / (M.1 16 0) * (M.1 16 0)) M zz h
/-! X4_lots -/
abbrev rmX4_lots : Room := { frames := 7, cells := 0, slots := 0, locals := 155 }
theorem msX4_lots : bw_MV yX4_lots cX4_lots 6 (some .int) RX4 2 := ⟨mw_549, mw_550, mw_1, mw_551, by decide +kernel⟩
def fX4_lots_25 (N : Nat) (x1 : Int32) (x2 : Int32)   (M : bw_M) : Option (Int32 × bw_M) :=
  some ((-1 : Int32), M)
theorem tX4_lots_25 {p : Program} {l : Launch} {e : Env} {s : State} {m : MethodId} {args : Array Value} {below : List Frame} {meth : Method} {c : Code} {D : va_G} {kT : Nat → ClassId} {ρ : Nat → Nat} (C : bw_Cx p s m args meth c cX4_lots 6 RX4 45 D kT ρ (some .int)) (N : Nat) (x1 : Int32) (x2 : Int32)    (M : bw_M) (rr : Int32) (zz : bw_M)  (h : fX4_lots_25 N x1 x2 M = some (rr, zz)) : bw_At p l e rmX4_lots s m args below meth c (MQ below (bw_QI bw_shC 45 D kT ρ rr zz) args s 0 0 (bw_A ρ 45)) bw_shC 45 D kT ρ 6 25 [(0, .ref (ρ 0)), (1, .int x1), (2, .int x2)] [] M := by
  unfold fX4_lots_25 at h
  refine bw_iconst (pc := 25) (v := (-1 : Int32)) C dX4_lots_25 ic_m1 ?_
  exact bw_ireti (pc := 26) C dX4_lots_26 h
def fX4_lots_63 (N : Nat) (x1 : Int32) (x2 : Int32) (k63 : Int64 × Int32 × bw_M → Option (Int32 × bw_M)) (x3 : Int64) (x5 : Int32) (M : bw_M) : Option (Int32 × bw_M) :=
  if x1 ≤ x5 then
  some ((M.1 16 3), M)
  else
  bw_mv ((x3 * (48271 : Int64)) - (x3 * (48271 : Int64)) / (2147483647 : Int64) * (2147483647 : Int64)) fun v3 =>
  bw_cl (fX4_performLot N (Int64.toInt32 v3) M) fun M4 =>
  bw_mv (x5 + 1) fun v5 =>
  k63 (v3, v5, M4)
theorem tX4_lots_63 {p : Program} {l : Launch} {e : Env} {s : State} {m : MethodId} {args : Array Value} {below : List Frame} {meth : Method} {c : Code} {D : va_G} {kT : Nat → ClassId} {ρ : Nat → Nat} (C : bw_Cx p s m args meth c cX4_lots 6 RX4 45 D kT ρ (some .int)) (N : Nat) (x1 : Int32) (x2 : Int32)  (k63 : Int64 × Int32 × bw_M → Option (Int32 × bw_M)) (x3 : Int64) (x5 : Int32) (M : bw_M) (rr : Int32) (zz : bw_M) (hk63 : ∀ z0, k63 z0 = some (rr, zz) → bw_At p l e rmX4_lots s m args below meth c (MQ below (bw_QI bw_shC 45 D kT ρ rr zz) args s 0 0 (bw_A ρ 45)) bw_shC 45 D kT ρ 6 63 [(0, .ref (ρ 0)), (1, .int x1), (2, .int x2), (3, .long z0.1), (5, .int z0.2.1)] [] z0.2.2) (h : fX4_lots_63 N x1 x2 k63 x3 x5 M = some (rr, zz)) : bw_At p l e rmX4_lots s m args below meth c (MQ below (bw_QI bw_shC 45 D kT ρ rr zz) args s 0 0 (bw_A ρ 45)) bw_shC 45 D kT ρ 6 63 [(0, .ref (ρ 0)), (1, .int x1), (2, .int x2), (3, .long x3), (5, .int x5)] [] M := by
  unfold fX4_lots_63 at h
  refine bw_iload (pc := 63) C 4 dX4_lots_63 rfl ?_
  refine bw_iload_n (pc := 65) C 1 dX4_lots_65 rfl rfl ?_
  refine bw_icmp_ge (pc := 66) C 91 dX4_lots_66 (by decide) h (fun h => ?_) (fun h => ?_)
  · refine bw_aload_n (pc := 91) C 0 dX4_lots_91 rfl rfl ?_
    refine bw_getR (pc := 92) (q := 0) (k0 := 5) C ltC_0 shC_0 rfl inX4 mw_128 (by decide) rfl dX4_lots_92 ?_
    refine bw_getI (pc := 95) (q := 16) (k0 := 3) C ltC_16 shC_16 rfl inX3 mw_53 (by decide) rfl dX4_lots_95 ?_
    exact bw_ireti (pc := 98) C dX4_lots_98 h
  · refine bw_lload_n (pc := 69) C 3 dX4_lots_69 rfl rfl ?_
    refine bw_ldc2_w (pc := 70) C mw_553 dX4_lots_70 ?_
    refine bw_lmul (pc := 73) C dX4_lots_73 ?_
    refine bw_ldc2_w (pc := 74) C mw_552 dX4_lots_74 ?_
    refine bw_lrem (pc := 77) C dX4_lots_77 (by decide) ?_
    obtain ⟨v3, ev3, h⟩ := bw_mv_o h
    refine bw_nmL ev3 ?_
    refine bw_lstore_n (pc := 78) (L' := [(3, .long v3), (0, .ref (ρ 0)), (1, .int x1), (2, .int x2), (5, .int x5)]) C dX4_lots_78 rfl (by decide) rfl ?_
    refine bw_aload_n (pc := 79) C 1 dX4_lots_79 rfl rfl ?_
    refine bw_lload_n (pc := 80) C 0 dX4_lots_80 rfl rfl ?_
    refine bw_l2i (pc := 81) C dX4_lots_81 ?_
    obtain ⟨M4, eM4, h⟩ := bw_cl_o h
    refine bw_cVv (pc := 82) (q := 0) (As := [.int (Int64.toInt32 v3)]) (rest := []) C (tX4_performLot l N (Int64.toInt32 v3) M M4 eM4) msX4_performLot mw_554 rfl rfl ⟨Nat.le_of_ble_eq_true rfl, Nat.le_of_ble_eq_true rfl⟩ ltC_0 shC_0 rfl rfl rfl rfl (Nat.le_of_ble_eq_true rfl) dX4_lots_82 ?_
    obtain ⟨v5, ev5, h⟩ := bw_mv_o h
    refine bw_iinc (pc := 85) (x := v5) (L' := [(5, .int v5), (3, .long v3), (0, .ref (ρ 0)), (1, .int x1), (2, .int x2)]) C 4 dX4_lots_85 rfl ev5.symm (by decide) rfl ?_
    refine bw_goto (pc := 88) C 63 dX4_lots_88 (by decide) ?_
    refine bw_pick [2, 3, 4, 1, 0] rfl ?_
    exact hk63 (v3, v5, M4) h
def flX4_lots_63 (N : Nat) (x1 : Int32) (x2 : Int32)    (fu : Nat) (w : Int64 × Int32 × bw_M) : Option (Int32 × bw_M) := bw_lp (fun kk w => fX4_lots_63 N x1 x2 kk w.1 w.2.1 w.2.2) fu w
theorem tlX4_lots_63 {p : Program} {l : Launch} {e : Env} {s : State} {m : MethodId} {args : Array Value} {below : List Frame} {meth : Method} {c : Code} {D : va_G} {kT : Nat → ClassId} {ρ : Nat → Nat} (C : bw_Cx p s m args meth c cX4_lots 6 RX4 45 D kT ρ (some .int)) (N : Nat) (x1 : Int32) (x2 : Int32)     (rr : Int32) (zz : bw_M)  (fu : Nat) (w : Int64 × Int32 × bw_M) (h : flX4_lots_63 N x1 x2 fu w = some (rr, zz)) : bw_At p l e rmX4_lots s m args below meth c (MQ below (bw_QI bw_shC 45 D kT ρ rr zz) args s 0 0 (bw_A ρ 45)) bw_shC 45 D kT ρ 6 63 [(0, .ref (ρ 0)), (1, .int x1), (2, .int x2), (3, .long w.1), (5, .int w.2.1)] [] w.2.2 :=
  bw_loop (r := (rr, zz)) (fun w => bw_At p l e rmX4_lots s m args below meth c (MQ below (bw_QI bw_shC 45 D kT ρ rr zz) args s 0 0 (bw_A ρ 45)) bw_shC 45 D kT ρ 6 63 [(0, .ref (ρ 0)), (1, .int x1), (2, .int x2), (3, .long w.1), (5, .int w.2.1)] [] w.2.2) (fun kk hk w h => tX4_lots_63 C N x1 x2 kk w.1 w.2.1 w.2.2 rr zz hk h) fu w h
def fX4_lots (N : Nat) (x1 : Int32) (x2 : Int32) (M : bw_M) : Option (Int32 × bw_M) :=
  if x1 < (1 : Int32) then
  fX4_lots_25 N x1 x2 M
  else
  if (20 : Int32) < x1 then
  fX4_lots_25 N x1 x2 M
  else
  if x2 < (1 : Int32) then
  fX4_lots_25 N x1 x2 M
  else
  if (lg_cmp (Int32.toInt64 x2) (2147483647 : Int64)) < 0 then
  if (M.1 16 0) = 0 then
  some ((-4 : Int32), M)
  else
  if ((M.1 28 2) + x1) ≤ (40 : Int32) then
  bw_mv (Int32.toInt64 x2) fun v1 =>
  bw_mv (0 : Int32) fun v2 =>
  flX4_lots_63 N x1 x2 N (v1, v2, M)
  else
  some ((-2 : Int32), M)
  else
  fX4_lots_25 N x1 x2 M
theorem tX4_lots (l : Launch) (N : Nat) (x1 : Int32) (x2 : Int32)  (M : bw_M) (rr : Int32) (zz : bw_M) (h : fX4_lots N x1 x2 M = some (rr, zz)) : bw_CI l bw_shC 45 yX4_lots cX4_lots 6 (some .int) rmX4_lots (fun ρ => [.ref (ρ 0), .int x1, .int x2]) M rr zz := by
  refine bw_inI (Lf := fun ρ => [(0, .ref (ρ 0)), (1, .int x1), (2, .int x2)]) cX4_lots 6 (some .int) RX4 pn_X4 rfl (fun ρ => Nat.le_of_ble_eq_true rfl) (fun ρ => rfl) ?_
  intro p e s m args below meth c D kT ρ C
  unfold fX4_lots at h
  refine bw_iload_n (pc := 0) C 1 dX4_lots_0 rfl rfl ?_
  refine bw_iconst (pc := 1) (v := (1 : Int32)) C dX4_lots_1 ic_1 ?_
  refine bw_icmp_lt (pc := 2) C 25 dX4_lots_2 (by decide) h (fun h => ?_) (fun h => ?_)
  · refine bw_pick [0, 1, 2] rfl ?_
    exact tX4_lots_25 C N x1 x2 M rr zz h
  · refine bw_iload_n (pc := 5) C 1 dX4_lots_5 rfl rfl ?_
    refine bw_bipush (pc := 6) (v := (20 : Int32)) C dX4_lots_6 bi_20 ?_
    refine bw_icmp_gt (pc := 8) C 25 dX4_lots_8 (by decide) h (fun h => ?_) (fun h => ?_)
    · refine bw_pick [0, 1, 2] rfl ?_
      exact tX4_lots_25 C N x1 x2 M rr zz h
    · refine bw_iload_n (pc := 11) C 2 dX4_lots_11 rfl rfl ?_
      refine bw_iconst (pc := 12) (v := (1 : Int32)) C dX4_lots_12 ic_1 ?_
      refine bw_icmp_lt (pc := 13) C 25 dX4_lots_13 (by decide) h (fun h => ?_) (fun h => ?_)
      · refine bw_pick [0, 1, 2] rfl ?_
        exact tX4_lots_25 C N x1 x2 M rr zz h
      · refine bw_iload_n (pc := 16) C 2 dX4_lots_16 rfl rfl ?_
        refine bw_i2l (pc := 17) C dX4_lots_17 ?_
        refine bw_ldc2_w (pc := 18) C mw_552 dX4_lots_18 ?_
        refine bw_lcmp (pc := 21) C dX4_lots_21 ?_
        refine bw_if_lt (pc := 22) C 27 dX4_lots_22 (by decide) h (fun h => ?_) (fun h => ?_)
        · refine bw_aload_n (pc := 27) C 0 dX4_lots_27 rfl rfl ?_
          refine bw_getR (pc := 28) (q := 0) (k0 := 5) C ltC_0 shC_0 rfl inX4 mw_128 (by decide) rfl dX4_lots_28 ?_
          refine bw_getI (pc := 31) (q := 16) (k0 := 0) C ltC_16 shC_16 rfl inX3 mw_49 (by decide) rfl dX4_lots_31 ?_
          refine bw_if_ne (pc := 34) C 40 dX4_lots_34 (by decide) h (fun h => ?_) (fun h => ?_)
          · refine bw_aload_n (pc := 40) C 0 dX4_lots_40 rfl rfl ?_
            refine bw_getR (pc := 41) (q := 0) (k0 := 7) C ltC_0 shC_0 rfl inX4 mw_130 (by decide) rfl dX4_lots_41 ?_
            refine bw_getI (pc := 44) (q := 28) (k0 := 2) C ltC_28 shC_28 rfl inX0 mw_110 (by decide) rfl dX4_lots_44 ?_
            refine bw_iload_n (pc := 47) C 1 dX4_lots_47 rfl rfl ?_
            refine bw_iadd (pc := 48) C dX4_lots_48 ?_
            refine bw_bipush (pc := 49) (v := (40 : Int32)) C dX4_lots_49 bi_40 ?_
            refine bw_icmp_le (pc := 51) C 57 dX4_lots_51 (by decide) h (fun h => ?_) (fun h => ?_)
            · refine bw_iload_n (pc := 57) C 2 dX4_lots_57 rfl rfl ?_
              refine bw_i2l (pc := 58) C dX4_lots_58 ?_
              obtain ⟨v1, ev1, h⟩ := bw_mv_o h
              refine bw_nmL ev1 ?_
              refine bw_lstore_n (pc := 59) (L' := [(3, .long v1), (0, .ref (ρ 0)), (1, .int x1), (2, .int x2)]) C dX4_lots_59 rfl (by decide) rfl ?_
              refine bw_iconst (pc := 60) (v := (0 : Int32)) C dX4_lots_60 ic_0 ?_
              obtain ⟨v2, ev2, h⟩ := bw_mv_o h
              refine bw_nmI ev2 ?_
              refine bw_istore (pc := 61) (L' := [(5, .int v2), (3, .long v1), (0, .ref (ρ 0)), (1, .int x1), (2, .int x2)]) C dX4_lots_61 (by decide) rfl ?_
              refine bw_pick [2, 3, 4, 1, 0] rfl ?_
              exact tlX4_lots_63 C N x1 x2 rr zz N (v1, v2, M) h
            · refine bw_bipush (pc := 54) (v := (-2 : Int32)) C dX4_lots_54 bi_m2 ?_
              exact bw_ireti (pc := 56) C dX4_lots_56 h
          · refine bw_bipush (pc := 37) (v := (-4 : Int32)) C dX4_lots_37 bi_m4 ?_
            exact bw_ireti (pc := 39) C dX4_lots_39 h
        · refine bw_pick [0, 1, 2] rfl ?_
          exact tX4_lots_25 C N x1 x2 M rr zz h
/-! X4_lower -/
abbrev rmX4_lower : Room := { frames := 0, cells := 0, slots := 0, locals := 0 }
theorem msX4_lower : bw_MV yX4_lower cX4_lower 1 (some .long) RX4 0 := ⟨mw_567, mw_568, mw_1, mw_569, by decide +kernel⟩
def fX4_lower  (M : bw_M) : Option (Int64) :=
  some (M.2.1 16)
theorem tX4_lower (l : Launch)   (M : bw_M) (rr : Int64) (h : fX4_lower M = some rr) : bw_CL l bw_shC 45 yX4_lower cX4_lower 1 (some .long) rmX4_lower (fun ρ => [.ref (ρ 0)]) M rr M := by
  refine bw_inL (Lf := fun ρ => [(0, .ref (ρ 0))]) cX4_lower 1 (some .long) RX4 pn_X4 rfl (fun ρ => Nat.le_of_ble_eq_true rfl) (fun ρ => rfl) ?_
  intro p e s m args below meth c D kT ρ C
  unfold fX4_lower at h
  refine bw_aload_n (pc := 0) C 0 dX4_lower_0 rfl rfl ?_
  refine bw_getL (pc := 1) (q := 0) (k0 := 16) C ltC_0 shC_0 rfl inX4 mw_139 (by decide) rfl dX4_lower_1 ?_
  exact bw_lreti (pc := 4) C dX4_lower_4 (bw_pr M h)
/-! X4_wantingNoMoreThan -/
abbrev rmX4_wantingNoMoreThan : Room := { frames := 2, cells := 0, slots := 0, locals := 43 }
theorem msX4_wantingNoMoreThan : bw_MV yX4_wantingNoMoreThan cX4_wantingNoMoreThan 5 (some .int) RX4 1 := ⟨mw_328, mw_1075, mw_1, mw_329, by decide +kernel⟩
def fX4_wantingNoMoreThan_45 (N : Nat) (x1 : Int32) (k14 : Int32 × Int32 → Option (Int32)) (x2 : Int32) (x4 : Int32) (s0 : Int32) (s1 : Int32) (M : bw_M) : Option (Int32) :=
  bw_mv (s0 + s1) fun v5 =>
  bw_mv (x4 + 1) fun v6 =>
  k14 (v5, v6)
theorem tX4_wantingNoMoreThan_45 {p : Program} {l : Launch} {e : Env} {s : State} {m : MethodId} {args : Array Value} {below : List Frame} {meth : Method} {c : Code} {D : va_G} {kT : Nat → ClassId} {ρ : Nat → Nat} (C : bw_Cx p s m args meth c cX4_wantingNoMoreThan 5 RX4 45 D kT ρ (some .int)) (N : Nat) (x1 : Int32)  (k14 : Int32 × Int32 → Option (Int32)) (x2 : Int32) (x4 : Int32) (s0 : Int32) (s1 : Int32) (M : bw_M) (rr : Int32) (hk14 : ∀ z0, k14 z0 = some rr → bw_At p l e rmX4_wantingNoMoreThan s m args below meth c (MQ below (bw_QI bw_shC 45 D kT ρ rr M) args s 0 0 (bw_A ρ 45)) bw_shC 45 D kT ρ 5 14 [(0, .ref (ρ 0)), (1, .int x1), (2, .int x2), (3, .int z0.1), (4, .int z0.2)] [] M) (h : fX4_wantingNoMoreThan_45 N x1 k14 x2 x4 s0 s1 M = some rr) : bw_At p l e rmX4_wantingNoMoreThan s m args below meth c (MQ below (bw_QI bw_shC 45 D kT ρ rr M) args s 0 0 (bw_A ρ 45)) bw_shC 45 D kT ρ 5 45 [(0, .ref (ρ 0)), (1, .int x1), (2, .int x2), (4, .int x4)] [.int s1, .int s0] M := by
  unfold fX4_wantingNoMoreThan_45 at h
  refine bw_iadd (pc := 45) C dX4_wantingNoMoreThan_45 ?_
  obtain ⟨v5, ev5, h⟩ := bw_mv_o h
  refine bw_nmI ev5 ?_
  refine bw_istore_n (pc := 46) (L' := [(3, .int v5), (0, .ref (ρ 0)), (1, .int x1), (2, .int x2), (4, .int x4)]) C dX4_wantingNoMoreThan_46 rfl (by decide) rfl ?_
  obtain ⟨v6, ev6, h⟩ := bw_mv_o h
  refine bw_iinc (pc := 47) (x := v6) (L' := [(4, .int v6), (3, .int v5), (0, .ref (ρ 0)), (1, .int x1), (2, .int x2)]) C 4 dX4_wantingNoMoreThan_47 rfl ev6.symm (by decide) rfl ?_
  refine bw_goto (pc := 50) C 14 dX4_wantingNoMoreThan_50 (by decide) ?_
  refine bw_pick [2, 3, 4, 1, 0] rfl ?_
  exact hk14 (v5, v6) h
def fX4_wantingNoMoreThan_14 (N : Nat) (x1 : Int32) (k14 : Int32 × Int32 → Option (Int32)) (x2 : Int32) (x3 : Int32) (x4 : Int32) (M : bw_M) : Option (Int32) :=
  if (M.1 16 0) ≤ x4 then
  some x3
  else
  bw_cl (fX3_wantNext 16 x4 M) fun v4 =>
  if x2 < v4 then
  fX4_wantingNoMoreThan_45 N x1 k14 x2 x4 x3 (0 : Int32) M
  else
  fX4_wantingNoMoreThan_45 N x1 k14 x2 x4 x3 (1 : Int32) M
theorem tX4_wantingNoMoreThan_14 {p : Program} {l : Launch} {e : Env} {s : State} {m : MethodId} {args : Array Value} {below : List Frame} {meth : Method} {c : Code} {D : va_G} {kT : Nat → ClassId} {ρ : Nat → Nat} (C : bw_Cx p s m args meth c cX4_wantingNoMoreThan 5 RX4 45 D kT ρ (some .int)) (N : Nat) (x1 : Int32)  (k14 : Int32 × Int32 → Option (Int32)) (x2 : Int32) (x3 : Int32) (x4 : Int32) (M : bw_M) (rr : Int32) (hk14 : ∀ z0, k14 z0 = some rr → bw_At p l e rmX4_wantingNoMoreThan s m args below meth c (MQ below (bw_QI bw_shC 45 D kT ρ rr M) args s 0 0 (bw_A ρ 45)) bw_shC 45 D kT ρ 5 14 [(0, .ref (ρ 0)), (1, .int x1), (2, .int x2), (3, .int z0.1), (4, .int z0.2)] [] M) (h : fX4_wantingNoMoreThan_14 N x1 k14 x2 x3 x4 M = some rr) : bw_At p l e rmX4_wantingNoMoreThan s m args below meth c (MQ below (bw_QI bw_shC 45 D kT ρ rr M) args s 0 0 (bw_A ρ 45)) bw_shC 45 D kT ρ 5 14 [(0, .ref (ρ 0)), (1, .int x1), (2, .int x2), (3, .int x3), (4, .int x4)] [] M := by
  unfold fX4_wantingNoMoreThan_14 at h
  refine bw_iload (pc := 14) C 4 dX4_wantingNoMoreThan_14 rfl ?_
  refine bw_aload_n (pc := 16) C 0 dX4_wantingNoMoreThan_16 rfl rfl ?_
  refine bw_getR (pc := 17) (q := 0) (k0 := 5) C ltC_0 shC_0 rfl inX4 mw_128 (by decide) rfl dX4_wantingNoMoreThan_17 ?_
  refine bw_getI (pc := 20) (q := 16) (k0 := 0) C ltC_16 shC_16 rfl inX3 mw_49 (by decide) rfl dX4_wantingNoMoreThan_20 ?_
  refine bw_icmp_ge (pc := 23) C 53 dX4_wantingNoMoreThan_23 (by decide) h (fun h => ?_) (fun h => ?_)
  · refine bw_iload_n (pc := 53) C 3 dX4_wantingNoMoreThan_53 rfl rfl ?_
    exact bw_ireti (pc := 54) C dX4_wantingNoMoreThan_54 (bw_pr M h)
  · refine bw_iload_n (pc := 26) C 3 dX4_wantingNoMoreThan_26 rfl rfl ?_
    refine bw_aload_n (pc := 27) C 0 dX4_wantingNoMoreThan_27 rfl rfl ?_
    refine bw_getR (pc := 28) (q := 0) (k0 := 5) C ltC_0 shC_0 rfl inX4 mw_128 (by decide) rfl dX4_wantingNoMoreThan_28 ?_
    refine bw_iload (pc := 31) C 4 dX4_wantingNoMoreThan_31 rfl ?_
    obtain ⟨v4, ev4, h⟩ := bw_cl_o h
    refine bw_cVi (pc := 33) (q := 16) (As := [.int x4]) (rest := [.int x3]) C (tX3_wantNext l 16 x4 isT_16 M v4 ev4) msX3_wantNext mw_298 rfl rfl ⟨Nat.le_of_ble_eq_true rfl, Nat.le_of_ble_eq_true rfl⟩ ltC_16 shC_16 rfl rfl rfl rfl (Nat.le_of_ble_eq_true rfl) dX4_wantingNoMoreThan_33 ?_
    refine bw_iload_n (pc := 36) C 2 dX4_wantingNoMoreThan_36 rfl rfl ?_
    refine bw_icmp_gt (pc := 37) C 44 dX4_wantingNoMoreThan_37 (by decide) h (fun h => ?_) (fun h => ?_)
    · refine bw_iconst (pc := 44) (v := (0 : Int32)) C dX4_wantingNoMoreThan_44 ic_0 ?_
      refine bw_pick [0, 1, 2, 4] rfl ?_
      exact tX4_wantingNoMoreThan_45 C N x1 k14 x2 x4 x3 (0 : Int32) M rr hk14 h
    · refine bw_iconst (pc := 40) (v := (1 : Int32)) C dX4_wantingNoMoreThan_40 ic_1 ?_
      refine bw_goto (pc := 41) C 45 dX4_wantingNoMoreThan_41 (by decide) ?_
      refine bw_pick [0, 1, 2, 4] rfl ?_
      exact tX4_wantingNoMoreThan_45 C N x1 k14 x2 x4 x3 (1 : Int32) M rr hk14 h
def flX4_wantingNoMoreThan_14 (N : Nat) (x1 : Int32)  (x2 : Int32) (M : bw_M) (fu : Nat) (w : Int32 × Int32) : Option (Int32) := bw_lp (fun kk w => fX4_wantingNoMoreThan_14 N x1 kk x2 w.1 w.2 M) fu w
theorem tlX4_wantingNoMoreThan_14 {p : Program} {l : Launch} {e : Env} {s : State} {m : MethodId} {args : Array Value} {below : List Frame} {meth : Method} {c : Code} {D : va_G} {kT : Nat → ClassId} {ρ : Nat → Nat} (C : bw_Cx p s m args meth c cX4_wantingNoMoreThan 5 RX4 45 D kT ρ (some .int)) (N : Nat) (x1 : Int32)   (x2 : Int32) (M : bw_M) (rr : Int32)  (fu : Nat) (w : Int32 × Int32) (h : flX4_wantingNoMoreThan_14 N x1 x2 M fu w = some rr) : bw_At p l e rmX4_wantingNoMoreThan s m args below meth c (MQ below (bw_QI bw_shC 45 D kT ρ rr M) args s 0 0 (bw_A ρ 45)) bw_shC 45 D kT ρ 5 14 [(0, .ref (ρ 0)), (1, .int x1), (2, .int x2), (3, .int w.1), (4, .int w.2)] [] M :=
  bw_loop (r := rr) (fun w => bw_At p l e rmX4_wantingNoMoreThan s m args below meth c (MQ below (bw_QI bw_shC 45 D kT ρ rr M) args s 0 0 (bw_A ρ 45)) bw_shC 45 D kT ρ 5 14 [(0, .ref (ρ 0)), (1, .int x1), (2, .int x2), (3, .int w.1), (4, .int w.2)] [] M) (fun kk hk w h => tX4_wantingNoMoreThan_14 C N x1 kk x2 w.1 w.2 M rr hk h) fu w h
def fX4_wantingNoMoreThan (N : Nat) (x1 : Int32) (M : bw_M) : Option (Int32) :=
  bw_cl (fX3_wantNext 16 x1 M) fun v1 =>
  bw_mv (0 : Int32) fun v2 =>
  bw_mv (0 : Int32) fun v3 =>
  flX4_wantingNoMoreThan_14 N x1 v1 M N (v2, v3)
theorem tX4_wantingNoMoreThan (l : Launch) (N : Nat) (x1 : Int32)  (M : bw_M) (rr : Int32) (h : fX4_wantingNoMoreThan N x1 M = some rr) : bw_CI l bw_shC 45 yX4_wantingNoMoreThan cX4_wantingNoMoreThan 5 (some .int) rmX4_wantingNoMoreThan (fun ρ => [.ref (ρ 0), .int x1]) M rr M := by
  refine bw_inI (Lf := fun ρ => [(0, .ref (ρ 0)), (1, .int x1)]) cX4_wantingNoMoreThan 5 (some .int) RX4 pn_X4 rfl (fun ρ => Nat.le_of_ble_eq_true rfl) (fun ρ => rfl) ?_
  intro p e s m args below meth c D kT ρ C
  unfold fX4_wantingNoMoreThan at h
  refine bw_aload_n (pc := 0) C 0 dX4_wantingNoMoreThan_0 rfl rfl ?_
  refine bw_getR (pc := 1) (q := 0) (k0 := 5) C ltC_0 shC_0 rfl inX4 mw_128 (by decide) rfl dX4_wantingNoMoreThan_1 ?_
  refine bw_iload_n (pc := 4) C 1 dX4_wantingNoMoreThan_4 rfl rfl ?_
  obtain ⟨v1, ev1, h⟩ := bw_cl_o h
  refine bw_cVi (pc := 5) (q := 16) (As := [.int x1]) (rest := []) C (tX3_wantNext l 16 x1 isT_16 M v1 ev1) msX3_wantNext mw_298 rfl rfl ⟨Nat.le_of_ble_eq_true rfl, Nat.le_of_ble_eq_true rfl⟩ ltC_16 shC_16 rfl rfl rfl rfl (Nat.le_of_ble_eq_true rfl) dX4_wantingNoMoreThan_5 ?_
  refine bw_istore_n (pc := 8) (L' := [(2, .int v1), (0, .ref (ρ 0)), (1, .int x1)]) C dX4_wantingNoMoreThan_8 rfl (by decide) rfl ?_
  refine bw_iconst (pc := 9) (v := (0 : Int32)) C dX4_wantingNoMoreThan_9 ic_0 ?_
  obtain ⟨v2, ev2, h⟩ := bw_mv_o h
  refine bw_nmI ev2 ?_
  refine bw_istore_n (pc := 10) (L' := [(3, .int v2), (2, .int v1), (0, .ref (ρ 0)), (1, .int x1)]) C dX4_wantingNoMoreThan_10 rfl (by decide) rfl ?_
  refine bw_iconst (pc := 11) (v := (0 : Int32)) C dX4_wantingNoMoreThan_11 ic_0 ?_
  obtain ⟨v3, ev3, h⟩ := bw_mv_o h
  refine bw_nmI ev3 ?_
  refine bw_istore (pc := 12) (L' := [(4, .int v3), (3, .int v2), (2, .int v1), (0, .ref (ρ 0)), (1, .int x1)]) C dX4_wantingNoMoreThan_12 (by decide) rfl ?_
  refine bw_pick [3, 4, 2, 1, 0] rfl ?_
  exact tlX4_wantingNoMoreThan_14 C N x1 v1 M rr N (v2, v3) h
