/-! X4_tell -/
abbrev rmX4_tell : Room := { frames := 0, cells := 0, slots := 0, locals := 0 }
theorem msX4_tell : bw_MV yX4_tell cX4_tell 2 (some .int) RX4 1 := ⟨mw_199, mw_1067, mw_1, mw_200, by decide +kernel⟩
def fX4_tell (x1 : Int32) (M : bw_M) : Option (Int32 × bw_M) :=
  bw_mv (bw_pI M 0 14 x1) fun M1 =>
  some ((1 : Int32), M1)
theorem tX4_tell (l : Launch) (x1 : Int32)  (M : bw_M) (rr : Int32) (zz : bw_M) (h : fX4_tell x1 M = some (rr, zz)) : bw_CI l bw_shC 45 yX4_tell cX4_tell 2 (some .int) rmX4_tell (fun ρ => [.ref (ρ 0), .int x1]) M rr zz := by
  refine bw_inI (Lf := fun ρ => [(0, .ref (ρ 0)), (1, .int x1)]) cX4_tell 2 (some .int) RX4 pn_X4 rfl (fun ρ => Nat.le_of_ble_eq_true rfl) (fun ρ => rfl) ?_
  intro p e s m args below meth c D kT ρ C
  unfold fX4_tell at h
  refine bw_aload_n (pc := 0) C 0 dX4_tell_0 rfl rfl ?_
  refine bw_iload_n (pc := 1) C 1 dX4_tell_1 rfl rfl ?_
  obtain ⟨M1, eM1, h⟩ := bw_mv_o h
  refine bw_putI (pc := 2) (q := 0) (k0 := 14) C ltC_0 shC_0 rfl inX4 mw_137 (by decide) tyX4 tyX4_ok nmX4 rfl rfl rfl eM1 rfl rfl dX4_tell_2 ?_
  refine bw_iconst (pc := 5) (v := (1 : Int32)) C dX4_tell_5 ic_1 ?_
  exact bw_ireti (pc := 6) C dX4_tell_6 h
/-! X4_air -/
abbrev rmX4_air : Room := { frames := 4, cells := 0, slots := 0, locals := 88 }
theorem msX4_air : bw_MV yX4_air cX4_air 4 (some .int) RX4 1 := ⟨mw_414, mw_415, mw_1, mw_416, by decide +kernel⟩
def fX4_air_10 (N : Nat) (x1 : Int32)   (M : bw_M) : Option (Int32 × bw_M) :=
  some ((-1 : Int32), M)
theorem tX4_air_10 {p : Program} {l : Launch} {e : Env} {s : State} {m : MethodId} {args : Array Value} {below : List Frame} {meth : Method} {c : Code} {D : va_G} {kT : Nat → ClassId} {ρ : Nat → Nat} (C : bw_Cx p s m args meth c cX4_air 4 RX4 45 D kT ρ (some .int)) (N : Nat) (x1 : Int32)    (M : bw_M) (rr : Int32) (zz : bw_M)  (h : fX4_air_10 N x1 M = some (rr, zz)) : bw_At p l e rmX4_air s m args below meth c (MQ below (bw_QI bw_shC 45 D kT ρ rr zz) args s 0 0 (bw_A ρ 45)) bw_shC 45 D kT ρ 4 10 [(0, .ref (ρ 0)), (1, .int x1)] [] M := by
  unfold fX4_air_10 at h
  refine bw_iconst (pc := 10) (v := (-1 : Int32)) C dX4_air_10 ic_m1 ?_
  exact bw_ireti (pc := 11) C dX4_air_11 h
def fX4_air_40 (N : Nat) (x1 : Int32) (k40 : Int32 × Int32 × bw_M → Option (Int32 × bw_M)) (x2 : Int32) (x3 : Int32) (M : bw_M) : Option (Int32 × bw_M) :=
  if x1 ≤ x3 then
  bw_c2 (fX4_tell x2 M) fun v4 M5 =>
  some ((M5.1 22 3), M5)
  else
  bw_c2 (fX3_blow N 22 M) fun v6 M7 =>
  bw_mv (x3 + 1) fun v8 =>
  k40 (v6, v8, M7)
theorem tX4_air_40 {p : Program} {l : Launch} {e : Env} {s : State} {m : MethodId} {args : Array Value} {below : List Frame} {meth : Method} {c : Code} {D : va_G} {kT : Nat → ClassId} {ρ : Nat → Nat} (C : bw_Cx p s m args meth c cX4_air 4 RX4 45 D kT ρ (some .int)) (N : Nat) (x1 : Int32)  (k40 : Int32 × Int32 × bw_M → Option (Int32 × bw_M)) (x2 : Int32) (x3 : Int32) (M : bw_M) (rr : Int32) (zz : bw_M) (hk40 : ∀ z0, k40 z0 = some (rr, zz) → bw_At p l e rmX4_air s m args below meth c (MQ below (bw_QI bw_shC 45 D kT ρ rr zz) args s 0 0 (bw_A ρ 45)) bw_shC 45 D kT ρ 4 40 [(0, .ref (ρ 0)), (1, .int x1), (2, .int z0.1), (3, .int z0.2.1)] [] z0.2.2) (h : fX4_air_40 N x1 k40 x2 x3 M = some (rr, zz)) : bw_At p l e rmX4_air s m args below meth c (MQ below (bw_QI bw_shC 45 D kT ρ rr zz) args s 0 0 (bw_A ρ 45)) bw_shC 45 D kT ρ 4 40 [(0, .ref (ρ 0)), (1, .int x1), (2, .int x2), (3, .int x3)] [] M := by
  unfold fX4_air_40 at h
  refine bw_iload_n (pc := 40) C 3 dX4_air_40 rfl rfl ?_
  refine bw_iload_n (pc := 41) C 1 dX4_air_41 rfl rfl ?_
  refine bw_icmp_ge (pc := 42) C 59 dX4_air_42 (by decide) h (fun h => ?_) (fun h => ?_)
  · refine bw_aload_n (pc := 59) C 0 dX4_air_59 rfl rfl ?_
    refine bw_iload_n (pc := 60) C 2 dX4_air_60 rfl rfl ?_
    obtain ⟨v4, M5, ev4, h⟩ := bw_c2_o h
    refine bw_cVi (pc := 61) (q := 0) (As := [.int x2]) (rest := []) C (tX4_tell l x2 M v4 M5 ev4) msX4_tell mw_197 rfl rfl ⟨Nat.le_of_ble_eq_true rfl, Nat.le_of_ble_eq_true rfl⟩ ltC_0 shC_0 rfl rfl rfl rfl (Nat.le_of_ble_eq_true rfl) dX4_air_61 ?_
    refine bw_pop (pc := 64) C dX4_air_64 rfl ?_
    refine bw_aload_n (pc := 65) C 0 dX4_air_65 rfl rfl ?_
    refine bw_getR (pc := 66) (q := 0) (k0 := 6) C ltC_0 shC_0 rfl inX4 mw_129 (by decide) rfl dX4_air_66 ?_
    refine bw_getI (pc := 69) (q := 22) (k0 := 3) C ltC_22 shC_22 rfl inX3 mw_53 (by decide) rfl dX4_air_69 ?_
    exact bw_ireti (pc := 72) C dX4_air_72 h
  · refine bw_aload_n (pc := 45) C 0 dX4_air_45 rfl rfl ?_
    refine bw_getR (pc := 46) (q := 0) (k0 := 6) C ltC_0 shC_0 rfl inX4 mw_129 (by decide) rfl dX4_air_46 ?_
    obtain ⟨v6, M7, ev6, h⟩ := bw_c2_o h
    refine bw_cVi (pc := 49) (q := 22) (As := []) (rest := []) C (tX3_blow l N 22 isT_22 M v6 M7 ev6) msX3_blow mw_417 rfl rfl ⟨Nat.le_of_ble_eq_true rfl, Nat.le_of_ble_eq_true rfl⟩ ltC_22 shC_22 rfl rfl rfl rfl (Nat.le_of_ble_eq_true rfl) dX4_air_49 ?_
    refine bw_istore_n (pc := 52) (L' := [(2, .int v6), (0, .ref (ρ 0)), (1, .int x1), (3, .int x3)]) C dX4_air_52 rfl (by decide) rfl ?_
    obtain ⟨v8, ev8, h⟩ := bw_mv_o h
    refine bw_iinc (pc := 53) (x := v8) (L' := [(3, .int v8), (2, .int v6), (0, .ref (ρ 0)), (1, .int x1)]) C 3 dX4_air_53 rfl ev8.symm (by decide) rfl ?_
    refine bw_goto (pc := 56) C 40 dX4_air_56 (by decide) ?_
    refine bw_pick [2, 3, 1, 0] rfl ?_
    exact hk40 (v6, v8, M7) h
def flX4_air_40 (N : Nat) (x1 : Int32)    (fu : Nat) (w : Int32 × Int32 × bw_M) : Option (Int32 × bw_M) := bw_lp (fun kk w => fX4_air_40 N x1 kk w.1 w.2.1 w.2.2) fu w
theorem tlX4_air_40 {p : Program} {l : Launch} {e : Env} {s : State} {m : MethodId} {args : Array Value} {below : List Frame} {meth : Method} {c : Code} {D : va_G} {kT : Nat → ClassId} {ρ : Nat → Nat} (C : bw_Cx p s m args meth c cX4_air 4 RX4 45 D kT ρ (some .int)) (N : Nat) (x1 : Int32)     (rr : Int32) (zz : bw_M)  (fu : Nat) (w : Int32 × Int32 × bw_M) (h : flX4_air_40 N x1 fu w = some (rr, zz)) : bw_At p l e rmX4_air s m args below meth c (MQ below (bw_QI bw_shC 45 D kT ρ rr zz) args s 0 0 (bw_A ρ 45)) bw_shC 45 D kT ρ 4 40 [(0, .ref (ρ 0)), (1, .int x1), (2, .int w.1), (3, .int w.2.1)] [] w.2.2 :=
  bw_loop (r := (rr, zz)) (fun w => bw_At p l e rmX4_air s m args below meth c (MQ below (bw_QI bw_shC 45 D kT ρ rr zz) args s 0 0 (bw_A ρ 45)) bw_shC 45 D kT ρ 4 40 [(0, .ref (ρ 0)), (1, .int x1), (2, .int w.1), (3, .int w.2.1)] [] w.2.2) (fun kk hk w h => tX4_air_40 C N x1 kk w.1 w.2.1 w.2.2 rr zz hk h) fu w h
def fX4_air (N : Nat) (x1 : Int32) (M : bw_M) : Option (Int32 × bw_M) :=
  if x1 < 0 then
  fX4_air_10 N x1 M
  else
  if x1 ≤ (40 : Int32) then
  if (M.1 16 0) = 0 then
  some ((-4 : Int32), M)
  else
  bw_cl (fX3_become N 22 16 M) fun M1 =>
  bw_mv (0 : Int32) fun v2 =>
  bw_mv (0 : Int32) fun v3 =>
  flX4_air_40 N x1 N (v2, v3, M1)
  else
  fX4_air_10 N x1 M
theorem tX4_air (l : Launch) (N : Nat) (x1 : Int32)  (M : bw_M) (rr : Int32) (zz : bw_M) (h : fX4_air N x1 M = some (rr, zz)) : bw_CI l bw_shC 45 yX4_air cX4_air 4 (some .int) rmX4_air (fun ρ => [.ref (ρ 0), .int x1]) M rr zz := by
  refine bw_inI (Lf := fun ρ => [(0, .ref (ρ 0)), (1, .int x1)]) cX4_air 4 (some .int) RX4 pn_X4 rfl (fun ρ => Nat.le_of_ble_eq_true rfl) (fun ρ => rfl) ?_
  intro p e s m args below meth c D kT ρ C
  unfold fX4_air at h
  refine bw_iload_n (pc := 0) C 1 dX4_air_0 rfl rfl ?_
  refine bw_if_lt (pc := 1) C 10 dX4_air_1 (by decide) h (fun h => ?_) (fun h => ?_)
  · refine bw_pick [0, 1] rfl ?_
    exact tX4_air_10 C N x1 M rr zz h
  · refine bw_iload_n (pc := 4) C 1 dX4_air_4 rfl rfl ?_
    refine bw_bipush (pc := 5) (v := (40 : Int32)) C dX4_air_5 bi_40 ?_
    refine bw_icmp_le (pc := 7) C 12 dX4_air_7 (by decide) h (fun h => ?_) (fun h => ?_)
    · refine bw_aload_n (pc := 12) C 0 dX4_air_12 rfl rfl ?_
      refine bw_getR (pc := 13) (q := 0) (k0 := 5) C ltC_0 shC_0 rfl inX4 mw_128 (by decide) rfl dX4_air_13 ?_
      refine bw_getI (pc := 16) (q := 16) (k0 := 0) C ltC_16 shC_16 rfl inX3 mw_49 (by decide) rfl dX4_air_16 ?_
      refine bw_if_ne (pc := 19) C 25 dX4_air_19 (by decide) h (fun h => ?_) (fun h => ?_)
      · refine bw_aload_n (pc := 25) C 0 dX4_air_25 rfl rfl ?_
        refine bw_getR (pc := 26) (q := 0) (k0 := 6) C ltC_0 shC_0 rfl inX4 mw_129 (by decide) rfl dX4_air_26 ?_
        refine bw_aload_n (pc := 29) C 0 dX4_air_29 rfl rfl ?_
        refine bw_getR (pc := 30) (q := 0) (k0 := 5) C ltC_0 shC_0 rfl inX4 mw_128 (by decide) rfl dX4_air_30 ?_
        obtain ⟨M1, eM1, h⟩ := bw_cl_o h
        refine bw_cVv (pc := 33) (q := 22) (As := [.ref (ρ 16)]) (rest := []) C (tX3_become l N 22 16 isT_22 isT_16 M M1 eM1) msX3_become mw_282 rfl rfl ⟨Nat.le_of_ble_eq_true rfl, Nat.le_of_ble_eq_true rfl⟩ ltC_22 shC_22 rfl rfl rfl rfl (Nat.le_of_ble_eq_true rfl) dX4_air_33 ?_
        refine bw_iconst (pc := 36) (v := (0 : Int32)) C dX4_air_36 ic_0 ?_
        obtain ⟨v2, ev2, h⟩ := bw_mv_o h
        refine bw_nmI ev2 ?_
        refine bw_istore_n (pc := 37) (L' := [(2, .int v2), (0, .ref (ρ 0)), (1, .int x1)]) C dX4_air_37 rfl (by decide) rfl ?_
        refine bw_iconst (pc := 38) (v := (0 : Int32)) C dX4_air_38 ic_0 ?_
        obtain ⟨v3, ev3, h⟩ := bw_mv_o h
        refine bw_nmI ev3 ?_
        refine bw_istore_n (pc := 39) (L' := [(3, .int v3), (2, .int v2), (0, .ref (ρ 0)), (1, .int x1)]) C dX4_air_39 rfl (by decide) rfl ?_
        refine bw_pick [2, 3, 1, 0] rfl ?_
        exact tlX4_air_40 C N x1 rr zz N (v2, v3, M1) h
      · refine bw_bipush (pc := 22) (v := (-4 : Int32)) C dX4_air_22 bi_m4 ?_
        exact bw_ireti (pc := 24) C dX4_air_24 h
    · refine bw_pick [0, 1] rfl ?_
      exact tX4_air_10 C N x1 M rr zz h
/-! X4_asked -/
abbrev rmX4_asked : Room := { frames := 0, cells := 0, slots := 0, locals := 0 }
theorem msX4_asked : bw_MV yX4_asked cX4_asked 1 (some .int) RX4 0 := ⟨mw_559, mw_560, mw_1, mw_561, by decide +kernel⟩
def fX4_asked  (M : bw_M) : Option (Int32) :=
  some (M.1 0 14)
theorem tX4_asked (l : Launch)   (M : bw_M) (rr : Int32) (h : fX4_asked M = some rr) : bw_CI l bw_shC 45 yX4_asked cX4_asked 1 (some .int) rmX4_asked (fun ρ => [.ref (ρ 0)]) M rr M := by
  refine bw_inI (Lf := fun ρ => [(0, .ref (ρ 0))]) cX4_asked 1 (some .int) RX4 pn_X4 rfl (fun ρ => Nat.le_of_ble_eq_true rfl) (fun ρ => rfl) ?_
  intro p e s m args below meth c D kT ρ C
  unfold fX4_asked at h
  refine bw_aload_n (pc := 0) C 0 dX4_asked_0 rfl rfl ?_
  refine bw_getI (pc := 1) (q := 0) (k0 := 14) C ltC_0 shC_0 rfl inX4 mw_137 (by decide) rfl dX4_asked_1 ?_
  exact bw_ireti (pc := 4) C dX4_asked_4 (bw_pr M h)
/-! X4_isRow -/
abbrev rmX4_isRow : Room := { frames := 0, cells := 0, slots := 0, locals := 0 }
theorem msX4_isRow : bw_MS yX4_isRow cX4_isRow 1 (some .boolean) 1 := ⟨mw_180, mw_1, mw_181, by decide +kernel⟩
def fX4_isRow_15 (x0 : Int32)  (s0 : Int32)  : Option (Int32) :=
  bw_ck (bw_isb s0) (some s0)
theorem tX4_isRow_15 {p : Program} {l : Launch} {e : Env} {s : State} {m : MethodId} {args : Array Value} {below : List Frame} {meth : Method} {c : Code} {D : va_G} {kT : Nat → ClassId} {ρ : Nat → Nat} (C : bw_Cx p s m args meth c cX4_isRow 1 RX4 45 D kT ρ (some .boolean)) (x0 : Int32)   (s0 : Int32) (M : bw_M) (rr : Int32)  (h : fX4_isRow_15 x0 s0 = some rr) : bw_At p l e rmX4_isRow s m args below meth c (MQ below (bw_QI bw_shC 45 D kT ρ rr M) args s 0 0 (bw_A ρ 45)) bw_shC 45 D kT ρ 1 15 [(0, .int x0)] [.int s0] M := by
  unfold fX4_isRow_15 at h
  obtain ⟨q1, h⟩ := bw_ck_o h
  exact bw_iretz (pc := 15) C (nz_b q1) dX4_isRow_15 (bw_pr M h)
def fX4_isRow_14 (x0 : Int32)    : Option (Int32) :=
  fX4_isRow_15 x0 (0 : Int32)
theorem tX4_isRow_14 {p : Program} {l : Launch} {e : Env} {s : State} {m : MethodId} {args : Array Value} {below : List Frame} {meth : Method} {c : Code} {D : va_G} {kT : Nat → ClassId} {ρ : Nat → Nat} (C : bw_Cx p s m args meth c cX4_isRow 1 RX4 45 D kT ρ (some .boolean)) (x0 : Int32)    (M : bw_M) (rr : Int32)  (h : fX4_isRow_14 x0 = some rr) : bw_At p l e rmX4_isRow s m args below meth c (MQ below (bw_QI bw_shC 45 D kT ρ rr M) args s 0 0 (bw_A ρ 45)) bw_shC 45 D kT ρ 1 14 [(0, .int x0)] [] M := by
  unfold fX4_isRow_14 at h
  refine bw_iconst (pc := 14) (v := (0 : Int32)) C dX4_isRow_14 ic_0 ?_
  refine bw_pick [0] rfl ?_
  exact tX4_isRow_15 C x0 (0 : Int32) M rr h
def fX4_isRow (x0 : Int32)  : Option (Int32) :=
  if x0 < 0 then
  fX4_isRow_14 x0
  else
  if (6 : Int32) ≤ x0 then
  fX4_isRow_14 x0
  else
  fX4_isRow_15 x0 (1 : Int32)
theorem tX4_isRow (l : Launch) (x0 : Int32)  (M : bw_M) (rr : Int32) (h : fX4_isRow x0 = some rr) : bw_CI l bw_shC 45 yX4_isRow cX4_isRow 1 (some .boolean) rmX4_isRow (fun ρ => [.int x0]) M rr M := by
  refine bw_inI (Lf := fun ρ => [(0, .int x0)]) cX4_isRow 1 (some .boolean) RX4 pn_X4 rfl (fun ρ => Nat.le_of_ble_eq_true rfl) (fun ρ => rfl) ?_
  intro p e s m args below meth c D kT ρ C
  unfold fX4_isRow at h
  refine bw_iload_n (pc := 0) C 0 dX4_isRow_0 rfl rfl ?_
  refine bw_if_lt (pc := 1) C 14 dX4_isRow_1 (by decide) h (fun h => ?_) (fun h => ?_)
  · refine bw_pick [0] rfl ?_
    exact tX4_isRow_14 C x0 M rr h
  · refine bw_iload_n (pc := 4) C 0 dX4_isRow_4 rfl rfl ?_
    refine bw_bipush (pc := 5) (v := (6 : Int32)) C dX4_isRow_5 bi_6 ?_
    refine bw_icmp_ge (pc := 7) C 14 dX4_isRow_7 (by decide) h (fun h => ?_) (fun h => ?_)
    · refine bw_pick [0] rfl ?_
      exact tX4_isRow_14 C x0 M rr h
    · refine bw_iconst (pc := 10) (v := (1 : Int32)) C dX4_isRow_10 ic_1 ?_
      refine bw_goto (pc := 11) C 15 dX4_isRow_11 (by decide) ?_
      refine bw_pick [0] rfl ?_
      exact tX4_isRow_15 C x0 (1 : Int32) M rr h
/-! X4_found -/
abbrev rmX4_found : Room := { frames := 0, cells := 0, slots := 0, locals := 0 }
theorem msX4_found : bw_MV yX4_found cX4_found 2 (some .int) RX4 1 := ⟨mw_184, mw_1065, mw_1, mw_185, by decide +kernel⟩
def fX4_found (x1 : Int32) (M : bw_M) : Option (Int32 × bw_M) :=
  bw_mv (bw_pI M 0 13 x1) fun M1 =>
  bw_rd M1 44 6 x1 fun v2 =>
  bw_wr M1 44 6 x1 (v2 + (1 : Int32)) fun M3 =>
  some ((-3 : Int32), M3)
theorem tX4_found (l : Launch) (x1 : Int32)  (M : bw_M) (rr : Int32) (zz : bw_M) (h : fX4_found x1 M = some (rr, zz)) : bw_CI l bw_shC 45 yX4_found cX4_found 2 (some .int) rmX4_found (fun ρ => [.ref (ρ 0), .int x1]) M rr zz := by
  refine bw_inI (Lf := fun ρ => [(0, .ref (ρ 0)), (1, .int x1)]) cX4_found 2 (some .int) RX4 pn_X4 rfl (fun ρ => Nat.le_of_ble_eq_true rfl) (fun ρ => rfl) ?_
  intro p e s m args below meth c D kT ρ C
  unfold fX4_found at h
  refine bw_aload_n (pc := 0) C 0 dX4_found_0 rfl rfl ?_
  refine bw_iload_n (pc := 1) C 1 dX4_found_1 rfl rfl ?_
  obtain ⟨M1, eM1, h⟩ := bw_mv_o h
  refine bw_putI (pc := 2) (q := 0) (k0 := 13) C ltC_0 shC_0 rfl inX4 mw_136 (by decide) tyX4 tyX4_ok nmX4 rfl rfl rfl eM1 rfl rfl dX4_found_2 ?_
  refine bw_aload_n (pc := 5) C 0 dX4_found_5 rfl rfl ?_
  refine bw_getR (pc := 6) (q := 0) (k0 := 12) C ltC_0 shC_0 rfl inX4 mw_135 (by decide) rfl dX4_found_6 ?_
  refine bw_iload_n (pc := 9) C 1 dX4_found_9 rfl rfl ?_
  refine bw_dup2 (pc := 10) C dX4_found_10 rfl rfl ?_
  obtain ⟨qv2, v2, ev2, h⟩ := bw_rd_o h
  refine bw_iald (pc := 11) (q := 44) C ltC_44 shC_44 qv2 ev2 dX4_found_11 ?_
  refine bw_iconst (pc := 12) (v := (1 : Int32)) C dX4_found_12 ic_1 ?_
  refine bw_iadd (pc := 13) C dX4_found_13 ?_
  obtain ⟨qM3, M3, eM3, h⟩ := bw_wr_o h
  refine bw_iast (pc := 14) (q := 44) C ltC_44 shC_44 qM3 eM3 dX4_found_14 ?_
  refine bw_bipush (pc := 15) (v := (-3 : Int32)) C dX4_found_15 bi_m3 ?_
  exact bw_ireti (pc := 17) C dX4_found_17 h
/-! X4_hasPlaces -/
abbrev rmX4_hasPlaces : Room := { frames := 0, cells := 0, slots := 0, locals := 0 }
theorem msX4_hasPlaces : bw_MS yX4_hasPlaces cX4_hasPlaces 3 (some .boolean) 3 := ⟨mw_195, mw_1, mw_196, by decide +kernel⟩
def fX4_hasPlaces_21 (x0 : Int32) (x1 : Int32) (x2 : Int32)  (s0 : Int32)  : Option (Int32) :=
  bw_ck (bw_isb s0) (some s0)
theorem tX4_hasPlaces_21 {p : Program} {l : Launch} {e : Env} {s : State} {m : MethodId} {args : Array Value} {below : List Frame} {meth : Method} {c : Code} {D : va_G} {kT : Nat → ClassId} {ρ : Nat → Nat} (C : bw_Cx p s m args meth c cX4_hasPlaces 3 RX4 45 D kT ρ (some .boolean)) (x0 : Int32) (x1 : Int32) (x2 : Int32)   (s0 : Int32) (M : bw_M) (rr : Int32)  (h : fX4_hasPlaces_21 x0 x1 x2 s0 = some rr) : bw_At p l e rmX4_hasPlaces s m args below meth c (MQ below (bw_QI bw_shC 45 D kT ρ rr M) args s 0 0 (bw_A ρ 45)) bw_shC 45 D kT ρ 3 21 [(0, .int x0), (1, .int x1), (2, .int x2)] [.int s0] M := by
  unfold fX4_hasPlaces_21 at h
  obtain ⟨q1, h⟩ := bw_ck_o h
  exact bw_iretz (pc := 21) C (nz_b q1) dX4_hasPlaces_21 (bw_pr M h)
def fX4_hasPlaces_20 (x0 : Int32) (x1 : Int32) (x2 : Int32)    : Option (Int32) :=
  fX4_hasPlaces_21 x0 x1 x2 (0 : Int32)
theorem tX4_hasPlaces_20 {p : Program} {l : Launch} {e : Env} {s : State} {m : MethodId} {args : Array Value} {below : List Frame} {meth : Method} {c : Code} {D : va_G} {kT : Nat → ClassId} {ρ : Nat → Nat} (C : bw_Cx p s m args meth c cX4_hasPlaces 3 RX4 45 D kT ρ (some .boolean)) (x0 : Int32) (x1 : Int32) (x2 : Int32)    (M : bw_M) (rr : Int32)  (h : fX4_hasPlaces_20 x0 x1 x2 = some rr) : bw_At p l e rmX4_hasPlaces s m args below meth c (MQ below (bw_QI bw_shC 45 D kT ρ rr M) args s 0 0 (bw_A ρ 45)) bw_shC 45 D kT ρ 3 20 [(0, .int x0), (1, .int x1), (2, .int x2)] [] M := by
  unfold fX4_hasPlaces_20 at h
  refine bw_iconst (pc := 20) (v := (0 : Int32)) C dX4_hasPlaces_20 ic_0 ?_
  refine bw_pick [0, 1, 2] rfl ?_
  exact tX4_hasPlaces_21 C x0 x1 x2 (0 : Int32) M rr h
def fX4_hasPlaces (x0 : Int32) (x1 : Int32) (x2 : Int32)  : Option (Int32) :=
  if x1 < 0 then
  fX4_hasPlaces_20 x0 x1 x2
  else
  if x0 < x2 then
  fX4_hasPlaces_20 x0 x1 x2
  else
  if (x0 - x2) < x1 then
  fX4_hasPlaces_20 x0 x1 x2
  else
  fX4_hasPlaces_21 x0 x1 x2 (1 : Int32)
theorem tX4_hasPlaces (l : Launch) (x0 : Int32) (x1 : Int32) (x2 : Int32)  (M : bw_M) (rr : Int32) (h : fX4_hasPlaces x0 x1 x2 = some rr) : bw_CI l bw_shC 45 yX4_hasPlaces cX4_hasPlaces 3 (some .boolean) rmX4_hasPlaces (fun ρ => [.int x0, .int x1, .int x2]) M rr M := by
  refine bw_inI (Lf := fun ρ => [(0, .int x0), (1, .int x1), (2, .int x2)]) cX4_hasPlaces 3 (some .boolean) RX4 pn_X4 rfl (fun ρ => Nat.le_of_ble_eq_true rfl) (fun ρ => rfl) ?_
  intro p e s m args below meth c D kT ρ C
  unfold fX4_hasPlaces at h
  refine bw_iload_n (pc := 0) C 1 dX4_hasPlaces_0 rfl rfl ?_
  refine bw_if_lt (pc := 1) C 20 dX4_hasPlaces_1 (by decide) h (fun h => ?_) (fun h => ?_)
  · refine bw_pick [0, 1, 2] rfl ?_
    exact tX4_hasPlaces_20 C x0 x1 x2 M rr h
  · refine bw_iload_n (pc := 4) C 2 dX4_hasPlaces_4 rfl rfl ?_
    refine bw_iload_n (pc := 5) C 0 dX4_hasPlaces_5 rfl rfl ?_
    refine bw_icmp_gt (pc := 6) C 20 dX4_hasPlaces_6 (by decide) h (fun h => ?_) (fun h => ?_)
    · refine bw_pick [0, 1, 2] rfl ?_
      exact tX4_hasPlaces_20 C x0 x1 x2 M rr h
    · refine bw_iload_n (pc := 9) C 1 dX4_hasPlaces_9 rfl rfl ?_
      refine bw_iload_n (pc := 10) C 0 dX4_hasPlaces_10 rfl rfl ?_
      refine bw_iload_n (pc := 11) C 2 dX4_hasPlaces_11 rfl rfl ?_
      refine bw_isub (pc := 12) C dX4_hasPlaces_12 ?_
      refine bw_icmp_gt (pc := 13) C 20 dX4_hasPlaces_13 (by decide) h (fun h => ?_) (fun h => ?_)
      · refine bw_pick [0, 1, 2] rfl ?_
        exact tX4_hasPlaces_20 C x0 x1 x2 M rr h
      · refine bw_iconst (pc := 16) (v := (1 : Int32)) C dX4_hasPlaces_16 ic_1 ?_
        refine bw_goto (pc := 17) C 21 dX4_hasPlaces_17 (by decide) ?_
        refine bw_pick [0, 1, 2] rfl ?_
        exact tX4_hasPlaces_21 C x0 x1 x2 (1 : Int32) M rr h
/-! X4_refusedPlace -/
abbrev rmX4_refusedPlace : Room := { frames := 1, cells := 0, slots := 0, locals := 22 }
theorem msX4_refusedPlace : bw_MV yX4_refusedPlace cX4_refusedPlace 3 (some .int) RX4 2 := ⟨mw_192, mw_1066, mw_1, mw_193, by decide +kernel⟩
def fX4_refusedPlace_48 (x1 : Int32) (x2 : Int32)  (s0 : Int32) (M : bw_M) : Option (Int32 × bw_M) :=
  some (s0, M)
theorem tX4_refusedPlace_48 {p : Program} {l : Launch} {e : Env} {s : State} {m : MethodId} {args : Array Value} {below : List Frame} {meth : Method} {c : Code} {D : va_G} {kT : Nat → ClassId} {ρ : Nat → Nat} (C : bw_Cx p s m args meth c cX4_refusedPlace 3 RX4 45 D kT ρ (some .int)) (x1 : Int32) (x2 : Int32)   (s0 : Int32) (M : bw_M) (rr : Int32) (zz : bw_M)  (h : fX4_refusedPlace_48 x1 x2 s0 M = some (rr, zz)) : bw_At p l e rmX4_refusedPlace s m args below meth c (MQ below (bw_QI bw_shC 45 D kT ρ rr zz) args s 0 0 (bw_A ρ 45)) bw_shC 45 D kT ρ 3 48 [(0, .ref (ρ 0)), (1, .int x1), (2, .int x2)] [.int s0] M := by
  unfold fX4_refusedPlace_48 at h
  exact bw_ireti (pc := 48) C dX4_refusedPlace_48 h
def fX4_refusedPlace (x1 : Int32) (x2 : Int32) (M : bw_M) : Option (Int32 × bw_M) :=
  bw_cl (fX4_isRow x1) fun v1 =>
  if v1 = 0 then
  some ((-1 : Int32), M)
  else
  bw_rd M 8 6 x1 fun v2 =>
  if v2 = (-1 : Int32) then
  bw_c2 (fX4_found (1 : Int32) M) fun v7 M8 =>
  some (v7, M8)
  else
  bw_rd M 8 6 x1 fun v3 =>
  bw_cl (fX4_hasPlaces v3 x2 (1 : Int32)) fun v4 =>
  if v4 = 0 then
  bw_c2 (fX4_found (2 : Int32) M) fun v5 M6 =>
  fX4_refusedPlace_48 x1 x2 v5 M6
  else
  fX4_refusedPlace_48 x1 x2 (0 : Int32) M
theorem tX4_refusedPlace (l : Launch) (x1 : Int32) (x2 : Int32)  (M : bw_M) (rr : Int32) (zz : bw_M) (h : fX4_refusedPlace x1 x2 M = some (rr, zz)) : bw_CI l bw_shC 45 yX4_refusedPlace cX4_refusedPlace 3 (some .int) rmX4_refusedPlace (fun ρ => [.ref (ρ 0), .int x1, .int x2]) M rr zz := by
  refine bw_inI (Lf := fun ρ => [(0, .ref (ρ 0)), (1, .int x1), (2, .int x2)]) cX4_refusedPlace 3 (some .int) RX4 pn_X4 rfl (fun ρ => Nat.le_of_ble_eq_true rfl) (fun ρ => rfl) ?_
  intro p e s m args below meth c D kT ρ C
  unfold fX4_refusedPlace at h
  refine bw_iload_n (pc := 0) C 1 dX4_refusedPlace_0 rfl rfl ?_
  obtain ⟨v1, ev1, h⟩ := bw_cl_o h
  refine bw_cSi (pc := 1) (As := [.int x1]) (rest := []) C (tX4_isRow l x1 M v1 ev1) msX4_isRow mw_179 rfl rfl ⟨Nat.le_of_ble_eq_true rfl, Nat.le_of_ble_eq_true rfl⟩ rfl rfl rfl (Nat.le_of_ble_eq_true rfl) dX4_refusedPlace_1 ?_
  refine bw_if_ne (pc := 4) C 9 dX4_refusedPlace_4 (by decide) h (fun h => ?_) (fun h => ?_)
  · refine bw_aload_n (pc := 9) C 0 dX4_refusedPlace_9 rfl rfl ?_
    refine bw_getR (pc := 10) (q := 0) (k0 := 1) C ltC_0 shC_0 rfl inX4 mw_124 (by decide) rfl dX4_refusedPlace_10 ?_
    refine bw_iload_n (pc := 13) C 1 dX4_refusedPlace_13 rfl rfl ?_
    obtain ⟨qv2, v2, ev2, h⟩ := bw_rd_o h
    refine bw_iald (pc := 14) (q := 8) C ltC_8 shC_8 qv2 ev2 dX4_refusedPlace_14 ?_
    refine bw_iconst (pc := 15) (v := (-1 : Int32)) C dX4_refusedPlace_15 ic_m1 ?_
    refine bw_icmp_ne (pc := 16) C 25 dX4_refusedPlace_16 (by decide) h (fun h => ?_) (fun h => ?_)
    · refine bw_aload_n (pc := 25) C 0 dX4_refusedPlace_25 rfl rfl ?_
      refine bw_getR (pc := 26) (q := 0) (k0 := 1) C ltC_0 shC_0 rfl inX4 mw_124 (by decide) rfl dX4_refusedPlace_26 ?_
      refine bw_iload_n (pc := 29) C 1 dX4_refusedPlace_29 rfl rfl ?_
      obtain ⟨qv3, v3, ev3, h⟩ := bw_rd_o h
      refine bw_iald (pc := 30) (q := 8) C ltC_8 shC_8 qv3 ev3 dX4_refusedPlace_30 ?_
      refine bw_iload_n (pc := 31) C 2 dX4_refusedPlace_31 rfl rfl ?_
      refine bw_iconst (pc := 32) (v := (1 : Int32)) C dX4_refusedPlace_32 ic_1 ?_
      obtain ⟨v4, ev4, h⟩ := bw_cl_o h
      refine bw_cSi (pc := 33) (As := [.int v3, .int x2, .int (1 : Int32)]) (rest := []) C (tX4_hasPlaces l v3 x2 (1 : Int32) M v4 ev4) msX4_hasPlaces mw_194 rfl rfl ⟨Nat.le_of_ble_eq_true rfl, Nat.le_of_ble_eq_true rfl⟩ rfl rfl rfl (Nat.le_of_ble_eq_true rfl) dX4_refusedPlace_33 ?_
      refine bw_if_eq (pc := 36) C 43 dX4_refusedPlace_36 (by decide) h (fun h => ?_) (fun h => ?_)
      · refine bw_aload_n (pc := 43) C 0 dX4_refusedPlace_43 rfl rfl ?_
        refine bw_iconst (pc := 44) (v := (2 : Int32)) C dX4_refusedPlace_44 ic_2 ?_
        obtain ⟨v5, M6, ev5, h⟩ := bw_c2_o h
        refine bw_cVi (pc := 45) (q := 0) (As := [.int (2 : Int32)]) (rest := []) C (tX4_found l (2 : Int32) M v5 M6 ev5) msX4_found mw_182 rfl rfl ⟨Nat.le_of_ble_eq_true rfl, Nat.le_of_ble_eq_true rfl⟩ ltC_0 shC_0 rfl rfl rfl rfl (Nat.le_of_ble_eq_true rfl) dX4_refusedPlace_45 ?_
        refine bw_pick [0, 1, 2] rfl ?_
        exact tX4_refusedPlace_48 C x1 x2 v5 M6 rr zz h
      · refine bw_iconst (pc := 39) (v := (0 : Int32)) C dX4_refusedPlace_39 ic_0 ?_
        refine bw_goto (pc := 40) C 48 dX4_refusedPlace_40 (by decide) ?_
        refine bw_pick [0, 1, 2] rfl ?_
        exact tX4_refusedPlace_48 C x1 x2 (0 : Int32) M rr zz h
    · refine bw_aload_n (pc := 19) C 0 dX4_refusedPlace_19 rfl rfl ?_
      refine bw_iconst (pc := 20) (v := (1 : Int32)) C dX4_refusedPlace_20 ic_1 ?_
      obtain ⟨v7, M8, ev7, h⟩ := bw_c2_o h
      refine bw_cVi (pc := 21) (q := 0) (As := [.int (1 : Int32)]) (rest := []) C (tX4_found l (1 : Int32) M v7 M8 ev7) msX4_found mw_182 rfl rfl ⟨Nat.le_of_ble_eq_true rfl, Nat.le_of_ble_eq_true rfl⟩ ltC_0 shC_0 rfl rfl rfl rfl (Nat.le_of_ble_eq_true rfl) dX4_refusedPlace_21 ?_
      exact bw_ireti (pc := 24) C dX4_refusedPlace_24 h
  · refine bw_iconst (pc := 7) (v := (-1 : Int32)) C dX4_refusedPlace_7 ic_m1 ?_
    exact bw_ireti (pc := 8) C dX4_refusedPlace_8 h
/-! X4_at -/
abbrev rmX4_at : Room := { frames := 2, cells := 0, slots := 0, locals := 44 }
theorem msX4_at : bw_MV yX4_at cX4_at 4 (some .int) RX4 2 := ⟨mw_202, mw_203, mw_1, mw_204, by decide +kernel⟩
def fX4_at_27 (x1 : Int32) (x2 : Int32)  (s0 : Int32) (M : bw_M) : Option (Int32 × bw_M) :=
  some (s0, M)
theorem tX4_at_27 {p : Program} {l : Launch} {e : Env} {s : State} {m : MethodId} {args : Array Value} {below : List Frame} {meth : Method} {c : Code} {D : va_G} {kT : Nat → ClassId} {ρ : Nat → Nat} (C : bw_Cx p s m args meth c cX4_at 4 RX4 45 D kT ρ (some .int)) (x1 : Int32) (x2 : Int32)   (s0 : Int32) (M : bw_M) (rr : Int32) (zz : bw_M)  (h : fX4_at_27 x1 x2 s0 M = some (rr, zz)) : bw_At p l e rmX4_at s m args below meth c (MQ below (bw_QI bw_shC 45 D kT ρ rr zz) args s 0 0 (bw_A ρ 45)) bw_shC 45 D kT ρ 4 27 [(0, .ref (ρ 0)), (1, .int x1), (2, .int x2)] [.int s0] M := by
  unfold fX4_at_27 at h
  exact bw_ireti (pc := 27) C dX4_at_27 h
def fX4_at (x1 : Int32) (x2 : Int32) (M : bw_M) : Option (Int32 × bw_M) :=
  bw_c2 (fX4_refusedPlace x1 x2 M) fun v1 M2 =>
  if v1 = 0 then
  bw_ra 6 x1 fun j3 =>
  bw_rd M2 (2 + j3) 40 x2 fun v4 =>
  bw_c2 (fX4_tell v4 M2) fun v5 M6 =>
  fX4_at_27 x1 x2 v5 M6
  else
  fX4_at_27 x1 x2 v1 M2
theorem tX4_at (l : Launch) (x1 : Int32) (x2 : Int32)  (M : bw_M) (rr : Int32) (zz : bw_M) (h : fX4_at x1 x2 M = some (rr, zz)) : bw_CI l bw_shC 45 yX4_at cX4_at 4 (some .int) rmX4_at (fun ρ => [.ref (ρ 0), .int x1, .int x2]) M rr zz := by
  refine bw_inI (Lf := fun ρ => [(0, .ref (ρ 0)), (1, .int x1), (2, .int x2)]) cX4_at 4 (some .int) RX4 pn_X4 rfl (fun ρ => Nat.le_of_ble_eq_true rfl) (fun ρ => rfl) ?_
  intro p e s m args below meth c D kT ρ C
  unfold fX4_at at h
  refine bw_aload_n (pc := 0) C 0 dX4_at_0 rfl rfl ?_
  refine bw_iload_n (pc := 1) C 1 dX4_at_1 rfl rfl ?_
  refine bw_iload_n (pc := 2) C 2 dX4_at_2 rfl rfl ?_
  obtain ⟨v1, M2, ev1, h⟩ := bw_c2_o h
  refine bw_cVi (pc := 3) (q := 0) (As := [.int x1, .int x2]) (rest := []) C (tX4_refusedPlace l x1 x2 M v1 M2 ev1) msX4_refusedPlace mw_190 rfl rfl ⟨Nat.le_of_ble_eq_true rfl, Nat.le_of_ble_eq_true rfl⟩ ltC_0 shC_0 rfl rfl rfl rfl (Nat.le_of_ble_eq_true rfl) dX4_at_3 ?_
  refine bw_istore_n (pc := 6) (L' := [(3, .int v1), (0, .ref (ρ 0)), (1, .int x1), (2, .int x2)]) C dX4_at_6 rfl (by decide) rfl ?_
  refine bw_iload_n (pc := 7) C 0 dX4_at_7 rfl rfl ?_
  refine bw_if_eq (pc := 8) C 15 dX4_at_8 (by decide) h (fun h => ?_) (fun h => ?_)
  · refine bw_aload_n (pc := 15) C 1 dX4_at_15 rfl rfl ?_
    refine bw_aload_n (pc := 16) C 1 dX4_at_16 rfl rfl ?_
    refine bw_getR (pc := 17) (q := 0) (k0 := 0) C ltC_0 shC_0 rfl inX4 mw_123 (by decide) rfl dX4_at_17 ?_
    refine bw_iload_n (pc := 20) C 2 dX4_at_20 rfl rfl ?_
    obtain ⟨qj3, j3, ej3, lj3, h⟩ := bw_ra_o h
    refine bw_aald (pc := 21) (q := 1) (ty := .array .int) C ltC_1 shC_1 rfl rfl qj3 (id_rows ej3 lj3) dX4_at_21 ?_
    refine bw_iload_n (pc := 22) C 3 dX4_at_22 rfl rfl ?_
    obtain ⟨qv4, v4, ev4, h⟩ := bw_rd_o h
    refine bw_iald (pc := 23) (q := (2 + j3)) C (ltC_row lj3) (shC_row lj3) qv4 ev4 dX4_at_23 ?_
    obtain ⟨v5, M6, ev5, h⟩ := bw_c2_o h
    refine bw_cVi (pc := 24) (q := 0) (As := [.int v4]) (rest := []) C (tX4_tell l v4 M2 v5 M6 ev5) msX4_tell mw_197 rfl rfl ⟨Nat.le_of_ble_eq_true rfl, Nat.le_of_ble_eq_true rfl⟩ ltC_0 shC_0 rfl rfl rfl rfl (Nat.le_of_ble_eq_true rfl) dX4_at_24 ?_
    refine bw_pick [1, 2, 3] rfl ?_
    exact tX4_at_27 C x1 x2 v5 M6 rr zz h
  · refine bw_iload_n (pc := 11) C 0 dX4_at_11 rfl rfl ?_
    refine bw_goto (pc := 12) C 27 dX4_at_12 (by decide) ?_
    refine bw_pick [1, 2, 3] rfl ?_
    exact tX4_at_27 C x1 x2 v1 M2 rr zz h
/-! X4_bestGain -/
abbrev rmX4_bestGain : Room := { frames := 1, cells := 0, slots := 0, locals := 21 }
theorem msX4_bestGain : bw_MV yX4_bestGain cX4_bestGain 6 (some .int) RX4 2 := ⟨mw_530, mw_1088, mw_1, mw_531, by decide +kernel⟩
def fX4_bestGain_54 (N : Nat) (x1 : Int32) (x2 : Int32) (k10 : Int32 × Int32 → Option (Int32)) (x4 : Int32) (s0 : Int32) (M : bw_M) : Option (Int32) :=
  bw_mv (x4 + 1) fun v4 =>
  k10 (s0, v4)
theorem tX4_bestGain_54 {p : Program} {l : Launch} {e : Env} {s : State} {m : MethodId} {args : Array Value} {below : List Frame} {meth : Method} {c : Code} {D : va_G} {kT : Nat → ClassId} {ρ : Nat → Nat} (C : bw_Cx p s m args meth c cX4_bestGain 6 RX4 45 D kT ρ (some .int)) (N : Nat) (x1 : Int32) (x2 : Int32)  (k10 : Int32 × Int32 → Option (Int32)) (x4 : Int32) (s0 : Int32) (M : bw_M) (rr : Int32) (hk10 : ∀ z0, k10 z0 = some rr → bw_At p l e rmX4_bestGain s m args below meth c (MQ below (bw_QI bw_shC 45 D kT ρ rr M) args s 0 0 (bw_A ρ 45)) bw_shC 45 D kT ρ 6 10 [(0, .ref (ρ 0)), (1, .int x1), (2, .int x2), (3, .int z0.1), (4, .int z0.2)] [] M) (h : fX4_bestGain_54 N x1 x2 k10 x4 s0 M = some rr) : bw_At p l e rmX4_bestGain s m args below meth c (MQ below (bw_QI bw_shC 45 D kT ρ rr M) args s 0 0 (bw_A ρ 45)) bw_shC 45 D kT ρ 6 54 [(0, .ref (ρ 0)), (1, .int x1), (2, .int x2), (4, .int x4)] [.int s0] M := by
  unfold fX4_bestGain_54 at h
  refine bw_istore_n (pc := 54) (L' := [(3, .int s0), (0, .ref (ρ 0)), (1, .int x1), (2, .int x2), (4, .int x4)]) C dX4_bestGain_54 rfl (by decide) rfl ?_
  obtain ⟨v4, ev4, h⟩ := bw_mv_o h
  refine bw_iinc (pc := 55) (x := v4) (L' := [(4, .int v4), (3, .int s0), (0, .ref (ρ 0)), (1, .int x1), (2, .int x2)]) C 4 dX4_bestGain_55 rfl ev4.symm (by decide) rfl ?_
  refine bw_goto (pc := 58) C 10 dX4_bestGain_58 (by decide) ?_
  refine bw_pick [2, 3, 4, 1, 0] rfl ?_
  exact hk10 (s0, v4) h
def fX4_bestGain_10 (N : Nat) (x1 : Int32) (x2 : Int32) (k10 : Int32 × Int32 → Option (Int32)) (x3 : Int32) (x4 : Int32) (M : bw_M) : Option (Int32) :=
  if (M.1 16 0) ≤ x4 then
  some x3
  else
  bw_rd M 42 64 (x1 ^^^ ((1 : Int32) <<< (x4 &&& 31))) fun v3 =>
  if x2 = 0 then
  fX4_bestGain_54 N x1 x2 k10 x4 (if v3 < x3 then v3 else x3) M
  else
  fX4_bestGain_54 N x1 x2 k10 x4 (if x3 < v3 then v3 else x3) M
theorem tX4_bestGain_10 {p : Program} {l : Launch} {e : Env} {s : State} {m : MethodId} {args : Array Value} {below : List Frame} {meth : Method} {c : Code} {D : va_G} {kT : Nat → ClassId} {ρ : Nat → Nat} (C : bw_Cx p s m args meth c cX4_bestGain 6 RX4 45 D kT ρ (some .int)) (N : Nat) (x1 : Int32) (x2 : Int32)  (k10 : Int32 × Int32 → Option (Int32)) (x3 : Int32) (x4 : Int32) (M : bw_M) (rr : Int32) (hk10 : ∀ z0, k10 z0 = some rr → bw_At p l e rmX4_bestGain s m args below meth c (MQ below (bw_QI bw_shC 45 D kT ρ rr M) args s 0 0 (bw_A ρ 45)) bw_shC 45 D kT ρ 6 10 [(0, .ref (ρ 0)), (1, .int x1), (2, .int x2), (3, .int z0.1), (4, .int z0.2)] [] M) (h : fX4_bestGain_10 N x1 x2 k10 x3 x4 M = some rr) : bw_At p l e rmX4_bestGain s m args below meth c (MQ below (bw_QI bw_shC 45 D kT ρ rr M) args s 0 0 (bw_A ρ 45)) bw_shC 45 D kT ρ 6 10 [(0, .ref (ρ 0)), (1, .int x1), (2, .int x2), (3, .int x3), (4, .int x4)] [] M := by
  unfold fX4_bestGain_10 at h
  refine bw_iload (pc := 10) C 4 dX4_bestGain_10 rfl ?_
  refine bw_aload_n (pc := 12) C 0 dX4_bestGain_12 rfl rfl ?_
  refine bw_getR (pc := 13) (q := 0) (k0 := 5) C ltC_0 shC_0 rfl inX4 mw_128 (by decide) rfl dX4_bestGain_13 ?_
  refine bw_getI (pc := 16) (q := 16) (k0 := 0) C ltC_16 shC_16 rfl inX3 mw_49 (by decide) rfl dX4_bestGain_16 ?_
  refine bw_icmp_ge (pc := 19) C 61 dX4_bestGain_19 (by decide) h (fun h => ?_) (fun h => ?_)
  · refine bw_iload_n (pc := 61) C 3 dX4_bestGain_61 rfl rfl ?_
    exact bw_ireti (pc := 62) C dX4_bestGain_62 (bw_pr M h)
  · refine bw_aload_n (pc := 22) C 0 dX4_bestGain_22 rfl rfl ?_
    refine bw_getR (pc := 23) (q := 0) (k0 := 10) C ltC_0 shC_0 rfl inX4 mw_133 (by decide) rfl dX4_bestGain_23 ?_
    refine bw_iload_n (pc := 26) C 1 dX4_bestGain_26 rfl rfl ?_
    refine bw_iconst (pc := 27) (v := (1 : Int32)) C dX4_bestGain_27 ic_1 ?_
    refine bw_iload (pc := 28) C 4 dX4_bestGain_28 rfl ?_
    refine bw_ishl (pc := 30) C dX4_bestGain_30 ?_
    refine bw_ixor (pc := 31) C dX4_bestGain_31 ?_
    obtain ⟨qv3, v3, ev3, h⟩ := bw_rd_o h
    refine bw_iald (pc := 32) (q := 42) C ltC_42 shC_42 qv3 ev3 dX4_bestGain_32 ?_
    refine bw_istore (pc := 33) (L' := [(5, .int v3), (0, .ref (ρ 0)), (1, .int x1), (2, .int x2), (3, .int x3), (4, .int x4)]) C dX4_bestGain_33 (by decide) rfl ?_
    refine bw_iload_n (pc := 35) C 3 dX4_bestGain_35 rfl rfl ?_
    refine bw_if_eq (pc := 36) C 48 dX4_bestGain_36 (by decide) h (fun h => ?_) (fun h => ?_)
    · refine bw_iload_n (pc := 48) C 4 dX4_bestGain_48 rfl rfl ?_
      refine bw_iload (pc := 49) C 0 dX4_bestGain_49 rfl ?_
      refine bw_mmin (pc := 51) C mw_532 mw_351 mw_9 mw_352 (Nat.le_of_ble_eq_true rfl) (Nat.le_of_ble_eq_true rfl) dX4_bestGain_51 ?_
      refine bw_pick [1, 2, 3, 5] rfl ?_
      exact tX4_bestGain_54 C N x1 x2 k10 x4 (if v3 < x3 then v3 else x3) M rr hk10 h
    · refine bw_iload_n (pc := 39) C 4 dX4_bestGain_39 rfl rfl ?_
      refine bw_iload (pc := 40) C 0 dX4_bestGain_40 rfl ?_
      refine bw_mmax (pc := 42) C mw_320 mw_321 mw_9 mw_322 (Nat.le_of_ble_eq_true rfl) (Nat.le_of_ble_eq_true rfl) dX4_bestGain_42 ?_
      refine bw_goto (pc := 45) C 54 dX4_bestGain_45 (by decide) ?_
      refine bw_pick [1, 2, 3, 5] rfl ?_
      exact tX4_bestGain_54 C N x1 x2 k10 x4 (if x3 < v3 then v3 else x3) M rr hk10 h
def flX4_bestGain_10 (N : Nat) (x1 : Int32) (x2 : Int32)   (M : bw_M) (fu : Nat) (w : Int32 × Int32) : Option (Int32) := bw_lp (fun kk w => fX4_bestGain_10 N x1 x2 kk w.1 w.2 M) fu w
theorem tlX4_bestGain_10 {p : Program} {l : Launch} {e : Env} {s : State} {m : MethodId} {args : Array Value} {below : List Frame} {meth : Method} {c : Code} {D : va_G} {kT : Nat → ClassId} {ρ : Nat → Nat} (C : bw_Cx p s m args meth c cX4_bestGain 6 RX4 45 D kT ρ (some .int)) (N : Nat) (x1 : Int32) (x2 : Int32)    (M : bw_M) (rr : Int32)  (fu : Nat) (w : Int32 × Int32) (h : flX4_bestGain_10 N x1 x2 M fu w = some rr) : bw_At p l e rmX4_bestGain s m args below meth c (MQ below (bw_QI bw_shC 45 D kT ρ rr M) args s 0 0 (bw_A ρ 45)) bw_shC 45 D kT ρ 6 10 [(0, .ref (ρ 0)), (1, .int x1), (2, .int x2), (3, .int w.1), (4, .int w.2)] [] M :=
  bw_loop (r := rr) (fun w => bw_At p l e rmX4_bestGain s m args below meth c (MQ below (bw_QI bw_shC 45 D kT ρ rr M) args s 0 0 (bw_A ρ 45)) bw_shC 45 D kT ρ 6 10 [(0, .ref (ρ 0)), (1, .int x1), (2, .int x2), (3, .int w.1), (4, .int w.2)] [] M) (fun kk hk w h => tX4_bestGain_10 C N x1 x2 kk w.1 w.2 M rr hk h) fu w h
def fX4_bestGain (N : Nat) (x1 : Int32) (x2 : Int32) (M : bw_M) : Option (Int32) :=
  bw_rd M 42 64 x1 fun v1 =>
  bw_mv (0 : Int32) fun v2 =>
  flX4_bestGain_10 N x1 x2 M N (v1, v2)
theorem tX4_bestGain (l : Launch) (N : Nat) (x1 : Int32) (x2 : Int32)  (M : bw_M) (rr : Int32) (h : fX4_bestGain N x1 x2 M = some rr) : bw_CI l bw_shC 45 yX4_bestGain cX4_bestGain 6 (some .int) rmX4_bestGain (fun ρ => [.ref (ρ 0), .int x1, .int x2]) M rr M := by
  refine bw_inI (Lf := fun ρ => [(0, .ref (ρ 0)), (1, .int x1), (2, .int x2)]) cX4_bestGain 6 (some .int) RX4 pn_X4 rfl (fun ρ => Nat.le_of_ble_eq_true rfl) (fun ρ => rfl) ?_
  intro p e s m args below meth c D kT ρ C
  unfold fX4_bestGain at h
  refine bw_aload_n (pc := 0) C 0 dX4_bestGain_0 rfl rfl ?_
  refine bw_getR (pc := 1) (q := 0) (k0 := 10) C ltC_0 shC_0 rfl inX4 mw_133 (by decide) rfl dX4_bestGain_1 ?_
  refine bw_iload_n (pc := 4) C 1 dX4_bestGain_4 rfl rfl ?_
  obtain ⟨qv1, v1, ev1, h⟩ := bw_rd_o h
  refine bw_iald (pc := 5) (q := 42) C ltC_42 shC_42 qv1 ev1 dX4_bestGain_5 ?_
  refine bw_istore_n (pc := 6) (L' := [(3, .int v1), (0, .ref (ρ 0)), (1, .int x1), (2, .int x2)]) C dX4_bestGain_6 rfl (by decide) rfl ?_
  refine bw_iconst (pc := 7) (v := (0 : Int32)) C dX4_bestGain_7 ic_0 ?_
  obtain ⟨v2, ev2, h⟩ := bw_mv_o h
  refine bw_nmI ev2 ?_
  refine bw_istore (pc := 8) (L' := [(4, .int v2), (3, .int v1), (0, .ref (ρ 0)), (1, .int x1), (2, .int x2)]) C dX4_bestGain_8 (by decide) rfl ?_
  refine bw_pick [2, 3, 4, 1, 0] rfl ?_
  exact tlX4_bestGain_10 C N x1 x2 M rr N (v1, v2) h
/-! X4_copy -/
abbrev rmX4_copy : Room := { frames := 1, cells := 0, slots := 0, locals := 26 }
theorem msX4_copy : bw_MV yX4_copy cX4_copy 6 (some .int) RX4 5 := ⟨mw_210, mw_211, mw_1, mw_212, by decide +kernel⟩
def fX4_copy_14 (x1 : Int32) (x2 : Int32) (x3 : Int32) (x4 : Int32) (x5 : Int32)   (M : bw_M) : Option (Int32 × bw_M) :=
  some ((-1 : Int32), M)
theorem tX4_copy_14 {p : Program} {l : Launch} {e : Env} {s : State} {m : MethodId} {args : Array Value} {below : List Frame} {meth : Method} {c : Code} {D : va_G} {kT : Nat → ClassId} {ρ : Nat → Nat} (C : bw_Cx p s m args meth c cX4_copy 6 RX4 45 D kT ρ (some .int)) (x1 : Int32) (x2 : Int32) (x3 : Int32) (x4 : Int32) (x5 : Int32)    (M : bw_M) (rr : Int32) (zz : bw_M)  (h : fX4_copy_14 x1 x2 x3 x4 x5 M = some (rr, zz)) : bw_At p l e rmX4_copy s m args below meth c (MQ below (bw_QI bw_shC 45 D kT ρ rr zz) args s 0 0 (bw_A ρ 45)) bw_shC 45 D kT ρ 6 14 [(0, .ref (ρ 0)), (1, .int x1), (2, .int x2), (3, .int x3), (4, .int x4), (5, .int x5)] [] M := by
  unfold fX4_copy_14 at h
  refine bw_iconst (pc := 14) (v := (-1 : Int32)) C dX4_copy_14 ic_m1 ?_
  exact bw_ireti (pc := 15) C dX4_copy_15 h
def fX4_copy_47 (x1 : Int32) (x2 : Int32) (x3 : Int32) (x4 : Int32) (x5 : Int32)   (M : bw_M) : Option (Int32 × bw_M) :=
  bw_c2 (fX4_found (1 : Int32) M) fun v4 M5 =>
  some (v4, M5)
theorem tX4_copy_47 {p : Program} {l : Launch} {e : Env} {s : State} {m : MethodId} {args : Array Value} {below : List Frame} {meth : Method} {c : Code} {D : va_G} {kT : Nat → ClassId} {ρ : Nat → Nat} (C : bw_Cx p s m args meth c cX4_copy 6 RX4 45 D kT ρ (some .int)) (x1 : Int32) (x2 : Int32) (x3 : Int32) (x4 : Int32) (x5 : Int32)    (M : bw_M) (rr : Int32) (zz : bw_M)  (h : fX4_copy_47 x1 x2 x3 x4 x5 M = some (rr, zz)) : bw_At p l e rmX4_copy s m args below meth c (MQ below (bw_QI bw_shC 45 D kT ρ rr zz) args s 0 0 (bw_A ρ 45)) bw_shC 45 D kT ρ 6 47 [(0, .ref (ρ 0)), (1, .int x1), (2, .int x2), (3, .int x3), (4, .int x4), (5, .int x5)] [] M := by
  unfold fX4_copy_47 at h
  refine bw_aload_n (pc := 47) C 0 dX4_copy_47 rfl rfl ?_
  refine bw_iconst (pc := 48) (v := (1 : Int32)) C dX4_copy_48 ic_1 ?_
  obtain ⟨v4, M5, ev4, h⟩ := bw_c2_o h
  refine bw_cVi (pc := 49) (q := 0) (As := [.int (1 : Int32)]) (rest := []) C (tX4_found l (1 : Int32) M v4 M5 ev4) msX4_found mw_182 rfl rfl ⟨Nat.le_of_ble_eq_true rfl, Nat.le_of_ble_eq_true rfl⟩ ltC_0 shC_0 rfl rfl rfl rfl (Nat.le_of_ble_eq_true rfl) dX4_copy_49 ?_
  exact bw_ireti (pc := 52) C dX4_copy_52 h
def fX4_copy_84 (x1 : Int32) (x2 : Int32) (x3 : Int32) (x4 : Int32) (x5 : Int32)   (M : bw_M) : Option (Int32 × bw_M) :=
  bw_c2 (fX4_found (2 : Int32) M) fun v9 M10 =>
  some (v9, M10)
theorem tX4_copy_84 {p : Program} {l : Launch} {e : Env} {s : State} {m : MethodId} {args : Array Value} {below : List Frame} {meth : Method} {c : Code} {D : va_G} {kT : Nat → ClassId} {ρ : Nat → Nat} (C : bw_Cx p s m args meth c cX4_copy 6 RX4 45 D kT ρ (some .int)) (x1 : Int32) (x2 : Int32) (x3 : Int32) (x4 : Int32) (x5 : Int32)    (M : bw_M) (rr : Int32) (zz : bw_M)  (h : fX4_copy_84 x1 x2 x3 x4 x5 M = some (rr, zz)) : bw_At p l e rmX4_copy s m args below meth c (MQ below (bw_QI bw_shC 45 D kT ρ rr zz) args s 0 0 (bw_A ρ 45)) bw_shC 45 D kT ρ 6 84 [(0, .ref (ρ 0)), (1, .int x1), (2, .int x2), (3, .int x3), (4, .int x4), (5, .int x5)] [] M := by
  unfold fX4_copy_84 at h
  refine bw_aload_n (pc := 84) C 0 dX4_copy_84 rfl rfl ?_
  refine bw_iconst (pc := 85) (v := (2 : Int32)) C dX4_copy_85 ic_2 ?_
  obtain ⟨v9, M10, ev9, h⟩ := bw_c2_o h
  refine bw_cVi (pc := 86) (q := 0) (As := [.int (2 : Int32)]) (rest := []) C (tX4_found l (2 : Int32) M v9 M10 ev9) msX4_found mw_182 rfl rfl ⟨Nat.le_of_ble_eq_true rfl, Nat.le_of_ble_eq_true rfl⟩ ltC_0 shC_0 rfl rfl rfl rfl (Nat.le_of_ble_eq_true rfl) dX4_copy_86 ?_
  exact bw_ireti (pc := 89) C dX4_copy_89 h
def fX4_copy (x1 : Int32) (x2 : Int32) (x3 : Int32) (x4 : Int32) (x5 : Int32) (M : bw_M) : Option (Int32 × bw_M) :=
  bw_cl (fX4_isRow x1) fun v1 =>
  if v1 = 0 then
  fX4_copy_14 x1 x2 x3 x4 x5 M
  else
  bw_cl (fX4_isRow x3) fun v2 =>
  if v2 = 0 then
  fX4_copy_14 x1 x2 x3 x4 x5 M
  else
  if 0 ≤ x5 then
  bw_rd M 8 6 x1 fun v3 =>
  if v3 = (-1 : Int32) then
  fX4_copy_47 x1 x2 x3 x4 x5 M
  else
  bw_rd M 8 6 x3 fun v6 =>
  if v6 = (-1 : Int32) then
  fX4_copy_47 x1 x2 x3 x4 x5 M
  else
  bw_rd M 8 6 x1 fun v7 =>
  bw_cl (fX4_hasPlaces v7 x2 x5) fun v8 =>
  if v8 = 0 then
  fX4_copy_84 x1 x2 x3 x4 x5 M
  else
  bw_rd M 8 6 x3 fun v11 =>
  bw_cl (fX4_hasPlaces v11 x4 x5) fun v12 =>
  if v12 = 0 then
  fX4_copy_84 x1 x2 x3 x4 x5 M
  else
  bw_ra 6 x1 fun j13 =>
  bw_ra 6 x3 fun j14 =>
  bw_cp M (2 + j13) 40 x2 (2 + j14) 40 x4 x5 fun M15 =>
  some ((1 : Int32), M15)
  else
  bw_c2 (fX4_found (5 : Int32) M) fun v16 M17 =>
  some (v16, M17)
theorem tX4_copy (l : Launch) (x1 : Int32) (x2 : Int32) (x3 : Int32) (x4 : Int32) (x5 : Int32)  (M : bw_M) (rr : Int32) (zz : bw_M) (h : fX4_copy x1 x2 x3 x4 x5 M = some (rr, zz)) : bw_CI l bw_shC 45 yX4_copy cX4_copy 6 (some .int) rmX4_copy (fun ρ => [.ref (ρ 0), .int x1, .int x2, .int x3, .int x4, .int x5]) M rr zz := by
  refine bw_inI (Lf := fun ρ => [(0, .ref (ρ 0)), (1, .int x1), (2, .int x2), (3, .int x3), (4, .int x4), (5, .int x5)]) cX4_copy 6 (some .int) RX4 pn_X4 rfl (fun ρ => Nat.le_of_ble_eq_true rfl) (fun ρ => rfl) ?_
  intro p e s m args below meth c D kT ρ C
  unfold fX4_copy at h
  refine bw_iload_n (pc := 0) C 1 dX4_copy_0 rfl rfl ?_
  obtain ⟨v1, ev1, h⟩ := bw_cl_o h
  refine bw_cSi (pc := 1) (As := [.int x1]) (rest := []) C (tX4_isRow l x1 M v1 ev1) msX4_isRow mw_179 rfl rfl ⟨Nat.le_of_ble_eq_true rfl, Nat.le_of_ble_eq_true rfl⟩ rfl rfl rfl (Nat.le_of_ble_eq_true rfl) dX4_copy_1 ?_
  refine bw_if_eq (pc := 4) C 14 dX4_copy_4 (by decide) h (fun h => ?_) (fun h => ?_)
  · refine bw_pick [0, 1, 2, 3, 4, 5] rfl ?_
    exact tX4_copy_14 C x1 x2 x3 x4 x5 M rr zz h
  · refine bw_iload_n (pc := 7) C 3 dX4_copy_7 rfl rfl ?_
    obtain ⟨v2, ev2, h⟩ := bw_cl_o h
    refine bw_cSi (pc := 8) (As := [.int x3]) (rest := []) C (tX4_isRow l x3 M v2 ev2) msX4_isRow mw_179 rfl rfl ⟨Nat.le_of_ble_eq_true rfl, Nat.le_of_ble_eq_true rfl⟩ rfl rfl rfl (Nat.le_of_ble_eq_true rfl) dX4_copy_8 ?_
    refine bw_if_ne (pc := 11) C 16 dX4_copy_11 (by decide) h (fun h => ?_) (fun h => ?_)
    · refine bw_iload (pc := 16) C 5 dX4_copy_16 rfl ?_
      refine bw_if_ge (pc := 18) C 27 dX4_copy_18 (by decide) h (fun h => ?_) (fun h => ?_)
      · refine bw_aload_n (pc := 27) C 0 dX4_copy_27 rfl rfl ?_
        refine bw_getR (pc := 28) (q := 0) (k0 := 1) C ltC_0 shC_0 rfl inX4 mw_124 (by decide) rfl dX4_copy_28 ?_
        refine bw_iload_n (pc := 31) C 1 dX4_copy_31 rfl rfl ?_
        obtain ⟨qv3, v3, ev3, h⟩ := bw_rd_o h
        refine bw_iald (pc := 32) (q := 8) C ltC_8 shC_8 qv3 ev3 dX4_copy_32 ?_
        refine bw_iconst (pc := 33) (v := (-1 : Int32)) C dX4_copy_33 ic_m1 ?_
        refine bw_icmp_eq (pc := 34) C 47 dX4_copy_34 (by decide) h (fun h => ?_) (fun h => ?_)
        · refine bw_pick [0, 1, 2, 3, 4, 5] rfl ?_
          exact tX4_copy_47 C x1 x2 x3 x4 x5 M rr zz h
        · refine bw_aload_n (pc := 37) C 0 dX4_copy_37 rfl rfl ?_
          refine bw_getR (pc := 38) (q := 0) (k0 := 1) C ltC_0 shC_0 rfl inX4 mw_124 (by decide) rfl dX4_copy_38 ?_
          refine bw_iload_n (pc := 41) C 3 dX4_copy_41 rfl rfl ?_
          obtain ⟨qv6, v6, ev6, h⟩ := bw_rd_o h
          refine bw_iald (pc := 42) (q := 8) C ltC_8 shC_8 qv6 ev6 dX4_copy_42 ?_
          refine bw_iconst (pc := 43) (v := (-1 : Int32)) C dX4_copy_43 ic_m1 ?_
          refine bw_icmp_ne (pc := 44) C 53 dX4_copy_44 (by decide) h (fun h => ?_) (fun h => ?_)
          · refine bw_aload_n (pc := 53) C 0 dX4_copy_53 rfl rfl ?_
            refine bw_getR (pc := 54) (q := 0) (k0 := 1) C ltC_0 shC_0 rfl inX4 mw_124 (by decide) rfl dX4_copy_54 ?_
            refine bw_iload_n (pc := 57) C 1 dX4_copy_57 rfl rfl ?_
            obtain ⟨qv7, v7, ev7, h⟩ := bw_rd_o h
            refine bw_iald (pc := 58) (q := 8) C ltC_8 shC_8 qv7 ev7 dX4_copy_58 ?_
            refine bw_iload_n (pc := 59) C 2 dX4_copy_59 rfl rfl ?_
            refine bw_iload (pc := 60) C 5 dX4_copy_60 rfl ?_
            obtain ⟨v8, ev8, h⟩ := bw_cl_o h
            refine bw_cSi (pc := 62) (As := [.int v7, .int x2, .int x5]) (rest := []) C (tX4_hasPlaces l v7 x2 x5 M v8 ev8) msX4_hasPlaces mw_194 rfl rfl ⟨Nat.le_of_ble_eq_true rfl, Nat.le_of_ble_eq_true rfl⟩ rfl rfl rfl (Nat.le_of_ble_eq_true rfl) dX4_copy_62 ?_
            refine bw_if_eq (pc := 65) C 84 dX4_copy_65 (by decide) h (fun h => ?_) (fun h => ?_)
            · refine bw_pick [0, 1, 2, 3, 4, 5] rfl ?_
              exact tX4_copy_84 C x1 x2 x3 x4 x5 M rr zz h
            · refine bw_aload_n (pc := 68) C 0 dX4_copy_68 rfl rfl ?_
              refine bw_getR (pc := 69) (q := 0) (k0 := 1) C ltC_0 shC_0 rfl inX4 mw_124 (by decide) rfl dX4_copy_69 ?_
              refine bw_iload_n (pc := 72) C 3 dX4_copy_72 rfl rfl ?_
              obtain ⟨qv11, v11, ev11, h⟩ := bw_rd_o h
              refine bw_iald (pc := 73) (q := 8) C ltC_8 shC_8 qv11 ev11 dX4_copy_73 ?_
              refine bw_iload (pc := 74) C 4 dX4_copy_74 rfl ?_
              refine bw_iload (pc := 76) C 5 dX4_copy_76 rfl ?_
              obtain ⟨v12, ev12, h⟩ := bw_cl_o h
              refine bw_cSi (pc := 78) (As := [.int v11, .int x4, .int x5]) (rest := []) C (tX4_hasPlaces l v11 x4 x5 M v12 ev12) msX4_hasPlaces mw_194 rfl rfl ⟨Nat.le_of_ble_eq_true rfl, Nat.le_of_ble_eq_true rfl⟩ rfl rfl rfl (Nat.le_of_ble_eq_true rfl) dX4_copy_78 ?_
              refine bw_if_ne (pc := 81) C 90 dX4_copy_81 (by decide) h (fun h => ?_) (fun h => ?_)
              · refine bw_aload_n (pc := 90) C 0 dX4_copy_90 rfl rfl ?_
                refine bw_getR (pc := 91) (q := 0) (k0 := 0) C ltC_0 shC_0 rfl inX4 mw_123 (by decide) rfl dX4_copy_91 ?_
                refine bw_iload_n (pc := 94) C 1 dX4_copy_94 rfl rfl ?_
                obtain ⟨qj13, j13, ej13, lj13, h⟩ := bw_ra_o h
                refine bw_aald (pc := 95) (q := 1) (ty := .array .int) C ltC_1 shC_1 rfl rfl qj13 (id_rows ej13 lj13) dX4_copy_95 ?_
                refine bw_iload_n (pc := 96) C 2 dX4_copy_96 rfl rfl ?_
                refine bw_aload_n (pc := 97) C 0 dX4_copy_97 rfl rfl ?_
                refine bw_getR (pc := 98) (q := 0) (k0 := 0) C ltC_0 shC_0 rfl inX4 mw_123 (by decide) rfl dX4_copy_98 ?_
                refine bw_iload_n (pc := 101) C 3 dX4_copy_101 rfl rfl ?_
                obtain ⟨qj14, j14, ej14, lj14, h⟩ := bw_ra_o h
                refine bw_aald (pc := 102) (q := 1) (ty := .array .int) C ltC_1 shC_1 rfl rfl qj14 (id_rows ej14 lj14) dX4_copy_102 ?_
                refine bw_iload (pc := 103) C 4 dX4_copy_103 rfl ?_
                refine bw_iload (pc := 105) C 5 dX4_copy_105 rfl ?_
                obtain ⟨qM15, M15, eM15, h⟩ := bw_cp_o h
                refine bw_acopy (pc := 107) (qs := (2 + j13)) (qd := (2 + j14)) C (ltC_row lj13) (ltC_row lj14) (shC_row lj13) (shC_row lj14) qM15 eM15 mw_213 mw_215 mw_214 mw_7 (Nat.le_of_ble_eq_true rfl) (Nat.le_of_ble_eq_true rfl) dX4_copy_107 ?_
                refine bw_iconst (pc := 110) (v := (1 : Int32)) C dX4_copy_110 ic_1 ?_
                exact bw_ireti (pc := 111) C dX4_copy_111 h
              · refine bw_pick [0, 1, 2, 3, 4, 5] rfl ?_
                exact tX4_copy_84 C x1 x2 x3 x4 x5 M rr zz h
          · refine bw_pick [0, 1, 2, 3, 4, 5] rfl ?_
            exact tX4_copy_47 C x1 x2 x3 x4 x5 M rr zz h
      · refine bw_aload_n (pc := 21) C 0 dX4_copy_21 rfl rfl ?_
        refine bw_iconst (pc := 22) (v := (5 : Int32)) C dX4_copy_22 ic_5 ?_
        obtain ⟨v16, M17, ev16, h⟩ := bw_c2_o h
        refine bw_cVi (pc := 23) (q := 0) (As := [.int (5 : Int32)]) (rest := []) C (tX4_found l (5 : Int32) M v16 M17 ev16) msX4_found mw_182 rfl rfl ⟨Nat.le_of_ble_eq_true rfl, Nat.le_of_ble_eq_true rfl⟩ ltC_0 shC_0 rfl rfl rfl rfl (Nat.le_of_ble_eq_true rfl) dX4_copy_23 ?_
        exact bw_ireti (pc := 26) C dX4_copy_26 h
    · refine bw_pick [0, 1, 2, 3, 4, 5] rfl ?_
      exact tX4_copy_14 C x1 x2 x3 x4 x5 M rr zz h
/-! X4_thereOf -/
abbrev rmX4_thereOf : Room := { frames := 0, cells := 0, slots := 0, locals := 0 }
theorem msX4_thereOf : bw_MS yX4_thereOf cX4_thereOf 6 (some .int) 1 := ⟨mw_584, mw_1, mw_585, by decide +kernel⟩
def fX4_thereOf_34 (N : Nat) (x0 : Nat) (n0 : Nat) (k10 : Int32 × Int32 → Option (Int32)) (x3 : Int32) (x4 : Int32) (s0 : Int32) (s1 : Int32) (M : bw_M) : Option (Int32) :=
  bw_mv (s0 + s1) fun v5 =>
  bw_mv (x4 + 1) fun v6 =>
  k10 (v5, v6)
theorem tX4_thereOf_34 {p : Program} {l : Launch} {e : Env} {s : State} {m : MethodId} {args : Array Value} {below : List Frame} {meth : Method} {c : Code} {D : va_G} {kT : Nat → ClassId} {ρ : Nat → Nat} (C : bw_Cx p s m args meth c cX4_thereOf 6 RX4 45 D kT ρ (some .int)) (N : Nat) (x0 : Nat) (n0 : Nat) (g0 : x0 < 45) (i0 : bw_shC x0 = .inr (.inl (0, n0))) (k10 : Int32 × Int32 → Option (Int32)) (x3 : Int32) (x4 : Int32) (s0 : Int32) (s1 : Int32) (M : bw_M) (rr : Int32) (hk10 : ∀ z0, k10 z0 = some rr → bw_At p l e rmX4_thereOf s m args below meth c (MQ below (bw_QI bw_shC 45 D kT ρ rr M) args s 0 0 (bw_A ρ 45)) bw_shC 45 D kT ρ 6 10 [(0, .ref (ρ x0)), (1, .int z0.1), (2, .ref (ρ x0)), (3, .int x3), (4, .int z0.2)] [] M) (h : fX4_thereOf_34 N x0 n0 k10 x3 x4 s0 s1 M = some rr) : bw_At p l e rmX4_thereOf s m args below meth c (MQ below (bw_QI bw_shC 45 D kT ρ rr M) args s 0 0 (bw_A ρ 45)) bw_shC 45 D kT ρ 6 34 [(0, .ref (ρ x0)), (2, .ref (ρ x0)), (3, .int x3), (4, .int x4)] [.int s1, .int s0] M := by
  unfold fX4_thereOf_34 at h
  refine bw_iadd (pc := 34) C dX4_thereOf_34 ?_
  obtain ⟨v5, ev5, h⟩ := bw_mv_o h
  refine bw_nmI ev5 ?_
  refine bw_istore_n (pc := 35) (L' := [(1, .int v5), (0, .ref (ρ x0)), (2, .ref (ρ x0)), (3, .int x3), (4, .int x4)]) C dX4_thereOf_35 rfl (by decide) rfl ?_
  obtain ⟨v6, ev6, h⟩ := bw_mv_o h
  refine bw_iinc (pc := 36) (x := v6) (L' := [(4, .int v6), (1, .int v5), (0, .ref (ρ x0)), (2, .ref (ρ x0)), (3, .int x3)]) C 4 dX4_thereOf_36 rfl ev6.symm (by decide) rfl ?_
  refine bw_goto (pc := 39) C 10 dX4_thereOf_39 (by decide) ?_
  refine bw_pick [2, 1, 3, 4, 0] rfl ?_
  exact hk10 (v5, v6) h
def fX4_thereOf_10 (N : Nat) (x0 : Nat) (n0 : Nat) (k10 : Int32 × Int32 → Option (Int32)) (x1 : Int32) (x3 : Int32) (x4 : Int32) (M : bw_M) : Option (Int32) :=
  if x3 ≤ x4 then
  some x1
  else
  bw_rd M x0 n0 x4 fun v4 =>
  if v4 = (-1 : Int32) then
  fX4_thereOf_34 N x0 n0 k10 x3 x4 x1 (0 : Int32) M
  else
  fX4_thereOf_34 N x0 n0 k10 x3 x4 x1 (1 : Int32) M
theorem tX4_thereOf_10 {p : Program} {l : Launch} {e : Env} {s : State} {m : MethodId} {args : Array Value} {below : List Frame} {meth : Method} {c : Code} {D : va_G} {kT : Nat → ClassId} {ρ : Nat → Nat} (C : bw_Cx p s m args meth c cX4_thereOf 6 RX4 45 D kT ρ (some .int)) (N : Nat) (x0 : Nat) (n0 : Nat) (g0 : x0 < 45) (i0 : bw_shC x0 = .inr (.inl (0, n0))) (k10 : Int32 × Int32 → Option (Int32)) (x1 : Int32) (x3 : Int32) (x4 : Int32) (M : bw_M) (rr : Int32) (hk10 : ∀ z0, k10 z0 = some rr → bw_At p l e rmX4_thereOf s m args below meth c (MQ below (bw_QI bw_shC 45 D kT ρ rr M) args s 0 0 (bw_A ρ 45)) bw_shC 45 D kT ρ 6 10 [(0, .ref (ρ x0)), (1, .int z0.1), (2, .ref (ρ x0)), (3, .int x3), (4, .int z0.2)] [] M) (h : fX4_thereOf_10 N x0 n0 k10 x1 x3 x4 M = some rr) : bw_At p l e rmX4_thereOf s m args below meth c (MQ below (bw_QI bw_shC 45 D kT ρ rr M) args s 0 0 (bw_A ρ 45)) bw_shC 45 D kT ρ 6 10 [(0, .ref (ρ x0)), (1, .int x1), (2, .ref (ρ x0)), (3, .int x3), (4, .int x4)] [] M := by
  unfold fX4_thereOf_10 at h
  refine bw_iload (pc := 10) C 4 dX4_thereOf_10 rfl ?_
  refine bw_iload_n (pc := 12) C 3 dX4_thereOf_12 rfl rfl ?_
  refine bw_icmp_ge (pc := 13) C 42 dX4_thereOf_13 (by decide) h (fun h => ?_) (fun h => ?_)
  · refine bw_iload_n (pc := 42) C 1 dX4_thereOf_42 rfl rfl ?_
    exact bw_ireti (pc := 43) C dX4_thereOf_43 (bw_pr M h)
  · refine bw_aload_n (pc := 16) C 2 dX4_thereOf_16 rfl rfl ?_
    refine bw_iload (pc := 17) C 4 dX4_thereOf_17 rfl ?_
    obtain ⟨qv4, v4, ev4, h⟩ := bw_rd_o h
    refine bw_iald (pc := 19) (q := x0) C g0 i0 qv4 ev4 dX4_thereOf_19 ?_
    refine bw_istore (pc := 20) (L' := [(5, .int v4), (0, .ref (ρ x0)), (1, .int x1), (2, .ref (ρ x0)), (3, .int x3), (4, .int x4)]) C dX4_thereOf_20 (by decide) rfl ?_
    refine bw_iload_n (pc := 22) C 2 dX4_thereOf_22 rfl rfl ?_
    refine bw_iload (pc := 23) C 0 dX4_thereOf_23 rfl ?_
    refine bw_iconst (pc := 25) (v := (-1 : Int32)) C dX4_thereOf_25 ic_m1 ?_
    refine bw_icmp_ne (pc := 26) C 33 dX4_thereOf_26 (by decide) h (fun h => ?_) (fun h => ?_)
    · refine bw_iconst (pc := 33) (v := (1 : Int32)) C dX4_thereOf_33 ic_1 ?_
      refine bw_pick [1, 3, 4, 5] rfl ?_
      exact tX4_thereOf_34 C N x0 n0 g0 i0 k10 x3 x4 x1 (1 : Int32) M rr hk10 h
    · refine bw_iconst (pc := 29) (v := (0 : Int32)) C dX4_thereOf_29 ic_0 ?_
      refine bw_goto (pc := 30) C 34 dX4_thereOf_30 (by decide) ?_
      refine bw_pick [1, 3, 4, 5] rfl ?_
      exact tX4_thereOf_34 C N x0 n0 g0 i0 k10 x3 x4 x1 (0 : Int32) M rr hk10 h
def flX4_thereOf_10 (N : Nat) (x0 : Nat) (n0 : Nat)  (x3 : Int32) (M : bw_M) (fu : Nat) (w : Int32 × Int32) : Option (Int32) := bw_lp (fun kk w => fX4_thereOf_10 N x0 n0 kk w.1 x3 w.2 M) fu w
theorem tlX4_thereOf_10 {p : Program} {l : Launch} {e : Env} {s : State} {m : MethodId} {args : Array Value} {below : List Frame} {meth : Method} {c : Code} {D : va_G} {kT : Nat → ClassId} {ρ : Nat → Nat} (C : bw_Cx p s m args meth c cX4_thereOf 6 RX4 45 D kT ρ (some .int)) (N : Nat) (x0 : Nat) (n0 : Nat) (g0 : x0 < 45) (i0 : bw_shC x0 = .inr (.inl (0, n0)))  (x3 : Int32) (M : bw_M) (rr : Int32)  (fu : Nat) (w : Int32 × Int32) (h : flX4_thereOf_10 N x0 n0 x3 M fu w = some rr) : bw_At p l e rmX4_thereOf s m args below meth c (MQ below (bw_QI bw_shC 45 D kT ρ rr M) args s 0 0 (bw_A ρ 45)) bw_shC 45 D kT ρ 6 10 [(0, .ref (ρ x0)), (1, .int w.1), (2, .ref (ρ x0)), (3, .int x3), (4, .int w.2)] [] M :=
  bw_loop (r := rr) (fun w => bw_At p l e rmX4_thereOf s m args below meth c (MQ below (bw_QI bw_shC 45 D kT ρ rr M) args s 0 0 (bw_A ρ 45)) bw_shC 45 D kT ρ 6 10 [(0, .ref (ρ x0)), (1, .int w.1), (2, .ref (ρ x0)), (3, .int x3), (4, .int w.2)] [] M) (fun kk hk w h => tX4_thereOf_10 C N x0 n0 g0 i0 kk w.1 x3 w.2 M rr hk h) fu w h
def fX4_thereOf (N : Nat) (x0 : Nat) (n0 : Nat) (M : bw_M) : Option (Int32) :=
  bw_mv (0 : Int32) fun v1 =>
  bw_mv (Int32.ofNat n0) fun v2 =>
  bw_mv (0 : Int32) fun v3 =>
  flX4_thereOf_10 N x0 n0 v2 M N (v1, v3)
theorem tX4_thereOf (l : Launch) (N : Nat) (x0 : Nat) (n0 : Nat) (g0 : x0 < 45) (i0 : bw_shC x0 = .inr (.inl (0, n0))) (M : bw_M) (rr : Int32) (h : fX4_thereOf N x0 n0 M = some rr) : bw_CI l bw_shC 45 yX4_thereOf cX4_thereOf 6 (some .int) rmX4_thereOf (fun ρ => [.ref (ρ x0)]) M rr M := by
  refine bw_inI (Lf := fun ρ => [(0, .ref (ρ x0))]) cX4_thereOf 6 (some .int) RX4 pn_X4 rfl (fun ρ => Nat.le_of_ble_eq_true rfl) (fun ρ => rfl) ?_
  intro p e s m args below meth c D kT ρ C
  unfold fX4_thereOf at h
  refine bw_iconst (pc := 0) (v := (0 : Int32)) C dX4_thereOf_0 ic_0 ?_
  obtain ⟨v1, ev1, h⟩ := bw_mv_o h
  refine bw_nmI ev1 ?_
  refine bw_istore_n (pc := 1) (L' := [(1, .int v1), (0, .ref (ρ x0))]) C dX4_thereOf_1 rfl (by decide) rfl ?_
  refine bw_aload_n (pc := 2) C 1 dX4_thereOf_2 rfl rfl ?_
  refine bw_astore_n (pc := 3) (L' := [(2, .ref (ρ x0)), (1, .int v1), (0, .ref (ρ x0))]) C dX4_thereOf_3 rfl (by decide) rfl ?_
  refine bw_aload_n (pc := 4) C 0 dX4_thereOf_4 rfl rfl ?_
  refine bw_alen (pc := 5) (q := x0) (v := (Int32.ofNat n0)) C g0 i0 (by decide) rfl dX4_thereOf_5 ?_
  obtain ⟨v2, ev2, h⟩ := bw_mv_o h
  refine bw_nmI ev2 ?_
  refine bw_istore_n (pc := 6) (L' := [(3, .int v2), (2, .ref (ρ x0)), (1, .int v1), (0, .ref (ρ x0))]) C dX4_thereOf_6 rfl (by decide) rfl ?_
  refine bw_iconst (pc := 7) (v := (0 : Int32)) C dX4_thereOf_7 ic_0 ?_
  obtain ⟨v3, ev3, h⟩ := bw_mv_o h
  refine bw_nmI ev3 ?_
  refine bw_istore (pc := 8) (L' := [(4, .int v3), (3, .int v2), (2, .ref (ρ x0)), (1, .int v1), (0, .ref (ρ x0))]) C dX4_thereOf_8 (by decide) rfl ?_
  refine bw_pick [4, 3, 2, 1, 0] rfl ?_
  exact tlX4_thereOf_10 C N x0 n0 g0 i0 v2 M rr N (v1, v3) h
/-! X4_keptTowns -/
abbrev rmX4_keptTowns : Room := { frames := 0, cells := 0, slots := 0, locals := 0 }
theorem msX4_keptTowns : bw_MV yX4_keptTowns cX4_keptTowns 3 (some .int) RX4 0 := ⟨mw_588, mw_1091, mw_1, mw_589, by decide +kernel⟩
def fX4_keptTowns_28 (N : Nat)  (k4 : Int32 × Int32 → Option (Int32)) (x2 : Int32) (s0 : Int32) (s1 : Int32) (M : bw_M) : Option (Int32) :=
  bw_mv (s0 + s1) fun v4 =>
  bw_mv (x2 + 1) fun v5 =>
  k4 (v4, v5)
theorem tX4_keptTowns_28 {p : Program} {l : Launch} {e : Env} {s : State} {m : MethodId} {args : Array Value} {below : List Frame} {meth : Method} {c : Code} {D : va_G} {kT : Nat → ClassId} {ρ : Nat → Nat} (C : bw_Cx p s m args meth c cX4_keptTowns 3 RX4 45 D kT ρ (some .int)) (N : Nat)   (k4 : Int32 × Int32 → Option (Int32)) (x2 : Int32) (s0 : Int32) (s1 : Int32) (M : bw_M) (rr : Int32) (hk4 : ∀ z0, k4 z0 = some rr → bw_At p l e rmX4_keptTowns s m args below meth c (MQ below (bw_QI bw_shC 45 D kT ρ rr M) args s 0 0 (bw_A ρ 45)) bw_shC 45 D kT ρ 3 4 [(0, .ref (ρ 0)), (1, .int z0.1), (2, .int z0.2)] [] M) (h : fX4_keptTowns_28 N k4 x2 s0 s1 M = some rr) : bw_At p l e rmX4_keptTowns s m args below meth c (MQ below (bw_QI bw_shC 45 D kT ρ rr M) args s 0 0 (bw_A ρ 45)) bw_shC 45 D kT ρ 3 28 [(0, .ref (ρ 0)), (2, .int x2)] [.int s1, .int s0] M := by
  unfold fX4_keptTowns_28 at h
  refine bw_iadd (pc := 28) C dX4_keptTowns_28 ?_
  obtain ⟨v4, ev4, h⟩ := bw_mv_o h
  refine bw_nmI ev4 ?_
  refine bw_istore_n (pc := 29) (L' := [(1, .int v4), (0, .ref (ρ 0)), (2, .int x2)]) C dX4_keptTowns_29 rfl (by decide) rfl ?_
  obtain ⟨v5, ev5, h⟩ := bw_mv_o h
  refine bw_iinc (pc := 30) (x := v5) (L' := [(2, .int v5), (1, .int v4), (0, .ref (ρ 0))]) C 2 dX4_keptTowns_30 rfl ev5.symm (by decide) rfl ?_
  refine bw_goto (pc := 33) C 4 dX4_keptTowns_33 (by decide) ?_
  refine bw_pick [2, 1, 0] rfl ?_
  exact hk4 (v4, v5) h
def fX4_keptTowns_4 (N : Nat)  (k4 : Int32 × Int32 → Option (Int32)) (x1 : Int32) (x2 : Int32) (M : bw_M) : Option (Int32) :=
  if (3 : Int32) ≤ x2 then
  some x1
  else
  bw_ra 3 x2 fun j3 =>
  if (M.1 (32 + 3 * j3) 2) = (-1 : Int32) then
  fX4_keptTowns_28 N k4 x2 x1 (0 : Int32) M
  else
  fX4_keptTowns_28 N k4 x2 x1 (1 : Int32) M
theorem tX4_keptTowns_4 {p : Program} {l : Launch} {e : Env} {s : State} {m : MethodId} {args : Array Value} {below : List Frame} {meth : Method} {c : Code} {D : va_G} {kT : Nat → ClassId} {ρ : Nat → Nat} (C : bw_Cx p s m args meth c cX4_keptTowns 3 RX4 45 D kT ρ (some .int)) (N : Nat)   (k4 : Int32 × Int32 → Option (Int32)) (x1 : Int32) (x2 : Int32) (M : bw_M) (rr : Int32) (hk4 : ∀ z0, k4 z0 = some rr → bw_At p l e rmX4_keptTowns s m args below meth c (MQ below (bw_QI bw_shC 45 D kT ρ rr M) args s 0 0 (bw_A ρ 45)) bw_shC 45 D kT ρ 3 4 [(0, .ref (ρ 0)), (1, .int z0.1), (2, .int z0.2)] [] M) (h : fX4_keptTowns_4 N k4 x1 x2 M = some rr) : bw_At p l e rmX4_keptTowns s m args below meth c (MQ below (bw_QI bw_shC 45 D kT ρ rr M) args s 0 0 (bw_A ρ 45)) bw_shC 45 D kT ρ 3 4 [(0, .ref (ρ 0)), (1, .int x1), (2, .int x2)] [] M := by
  unfold fX4_keptTowns_4 at h
  refine bw_iload_n (pc := 4) C 2 dX4_keptTowns_4 rfl rfl ?_
  refine bw_iconst (pc := 5) (v := (3 : Int32)) C dX4_keptTowns_5 ic_3 ?_
  refine bw_icmp_ge (pc := 6) C 36 dX4_keptTowns_6 (by decide) h (fun h => ?_) (fun h => ?_)
  · refine bw_iload_n (pc := 36) C 1 dX4_keptTowns_36 rfl rfl ?_
    exact bw_ireti (pc := 37) C dX4_keptTowns_37 (bw_pr M h)
  · refine bw_iload_n (pc := 9) C 1 dX4_keptTowns_9 rfl rfl ?_
    refine bw_aload_n (pc := 10) C 0 dX4_keptTowns_10 rfl rfl ?_
    refine bw_getR (pc := 11) (q := 0) (k0 := 8) C ltC_0 shC_0 rfl inX4 mw_131 (by decide) rfl dX4_keptTowns_11 ?_
    refine bw_iload_n (pc := 14) C 2 dX4_keptTowns_14 rfl rfl ?_
    obtain ⟨qj3, j3, ej3, lj3, h⟩ := bw_ra_o h
    refine bw_aald (pc := 15) (q := 31) (ty := .object "BlowerBreath$Deeds") C ltC_31 shC_31 rfl rfl qj3 (id_kept ej3 lj3) dX4_keptTowns_15 ?_
    refine bw_getI (pc := 16) (q := (32 + 3 * j3)) (k0 := 2) C (ltC_D (isD_k lj3)) (shC_D (isD_k lj3)) rfl inX0 mw_110 (by decide) rfl dX4_keptTowns_16 ?_
    refine bw_iconst (pc := 19) (v := (-1 : Int32)) C dX4_keptTowns_19 ic_m1 ?_
    refine bw_icmp_ne (pc := 20) C 27 dX4_keptTowns_20 (by decide) h (fun h => ?_) (fun h => ?_)
    · refine bw_iconst (pc := 27) (v := (1 : Int32)) C dX4_keptTowns_27 ic_1 ?_
      refine bw_pick [0, 2] rfl ?_
      exact tX4_keptTowns_28 C N k4 x2 x1 (1 : Int32) M rr hk4 h
    · refine bw_iconst (pc := 23) (v := (0 : Int32)) C dX4_keptTowns_23 ic_0 ?_
      refine bw_goto (pc := 24) C 28 dX4_keptTowns_24 (by decide) ?_
      refine bw_pick [0, 2] rfl ?_
      exact tX4_keptTowns_28 C N k4 x2 x1 (0 : Int32) M rr hk4 h
def flX4_keptTowns_4 (N : Nat)    (M : bw_M) (fu : Nat) (w : Int32 × Int32) : Option (Int32) := bw_lp (fun kk w => fX4_keptTowns_4 N kk w.1 w.2 M) fu w
theorem tlX4_keptTowns_4 {p : Program} {l : Launch} {e : Env} {s : State} {m : MethodId} {args : Array Value} {below : List Frame} {meth : Method} {c : Code} {D : va_G} {kT : Nat → ClassId} {ρ : Nat → Nat} (C : bw_Cx p s m args meth c cX4_keptTowns 3 RX4 45 D kT ρ (some .int)) (N : Nat)     (M : bw_M) (rr : Int32)  (fu : Nat) (w : Int32 × Int32) (h : flX4_keptTowns_4 N M fu w = some rr) : bw_At p l e rmX4_keptTowns s m args below meth c (MQ below (bw_QI bw_shC 45 D kT ρ rr M) args s 0 0 (bw_A ρ 45)) bw_shC 45 D kT ρ 3 4 [(0, .ref (ρ 0)), (1, .int w.1), (2, .int w.2)] [] M :=
  bw_loop (r := rr) (fun w => bw_At p l e rmX4_keptTowns s m args below meth c (MQ below (bw_QI bw_shC 45 D kT ρ rr M) args s 0 0 (bw_A ρ 45)) bw_shC 45 D kT ρ 3 4 [(0, .ref (ρ 0)), (1, .int w.1), (2, .int w.2)] [] M) (fun kk hk w h => tX4_keptTowns_4 C N kk w.1 w.2 M rr hk h) fu w h
def fX4_keptTowns (N : Nat)  (M : bw_M) : Option (Int32) :=
  bw_mv (0 : Int32) fun v1 =>
  bw_mv (0 : Int32) fun v2 =>
  flX4_keptTowns_4 N M N (v1, v2)
theorem tX4_keptTowns (l : Launch) (N : Nat)   (M : bw_M) (rr : Int32) (h : fX4_keptTowns N M = some rr) : bw_CI l bw_shC 45 yX4_keptTowns cX4_keptTowns 3 (some .int) rmX4_keptTowns (fun ρ => [.ref (ρ 0)]) M rr M := by
  refine bw_inI (Lf := fun ρ => [(0, .ref (ρ 0))]) cX4_keptTowns 3 (some .int) RX4 pn_X4 rfl (fun ρ => Nat.le_of_ble_eq_true rfl) (fun ρ => rfl) ?_
  intro p e s m args below meth c D kT ρ C
  unfold fX4_keptTowns at h
  refine bw_iconst (pc := 0) (v := (0 : Int32)) C dX4_keptTowns_0 ic_0 ?_
  obtain ⟨v1, ev1, h⟩ := bw_mv_o h
  refine bw_nmI ev1 ?_
  refine bw_istore_n (pc := 1) (L' := [(1, .int v1), (0, .ref (ρ 0))]) C dX4_keptTowns_1 rfl (by decide) rfl ?_
  refine bw_iconst (pc := 2) (v := (0 : Int32)) C dX4_keptTowns_2 ic_0 ?_
  obtain ⟨v2, ev2, h⟩ := bw_mv_o h
  refine bw_nmI ev2 ?_
  refine bw_istore_n (pc := 3) (L' := [(2, .int v2), (1, .int v1), (0, .ref (ρ 0))]) C dX4_keptTowns_3 rfl (by decide) rfl ?_
  refine bw_pick [2, 1, 0] rfl ?_
  exact tlX4_keptTowns_4 C N M rr N (v1, v2) h
/-! X4_count -/
abbrev rmX4_count : Room := { frames := 2, cells := 0, slots := 0, locals := 44 }
theorem msX4_count : bw_MV yX4_count cX4_count 2 (some .int) RX4 1 := ⟨mw_571, mw_572, mw_1, mw_573, by decide +kernel⟩
def fX4_count (N : Nat) (x1 : Int32) (M : bw_M) : Option (Int32) :=
  if x1 = (0 : Int32) then
  some (M.1 16 0)
  else if x1 = (1 : Int32) then
  some (M.1 16 3)
  else if x1 = (2 : Int32) then
  some (M.1 16 4)
  else if x1 = (3 : Int32) then
  some (M.1 16 5)
  else if x1 = (4 : Int32) then
  some (M.1 28 2)
  else if x1 = (5 : Int32) then
  some (M.1 16 6)
  else if x1 = (6 : Int32) then
  some (M.1 16 7)
  else if x1 = (7 : Int32) then
  bw_cl (fX3_sumOf N 16 20 6 M) fun v9 =>
  some v9
  else if x1 = (8 : Int32) then
  bw_cl (fX3_sumOf N 16 21 6 M) fun v11 =>
  some v11
  else if x1 = (9 : Int32) then
  bw_cl (fX3_pipesOf N 16 (1 : Int32) M) fun v13 =>
  some v13
  else if x1 = (10 : Int32) then
  bw_cl (fX3_pipesOf N 16 (3 : Int32) M) fun v15 =>
  some v15
  else if x1 = (11 : Int32) then
  bw_cl (fX4_thereOf N 8 6 M) fun v17 =>
  some v17
  else if x1 = (12 : Int32) then
  bw_cl (fX4_thereOf N 14 4 M) fun v19 =>
  some v19
  else if x1 = (13 : Int32) then
  bw_cl (fX4_keptTowns N M) fun v21 =>
  some v21
  else 
  some (-1 : Int32)
theorem tX4_count (l : Launch) (N : Nat) (x1 : Int32)  (M : bw_M) (rr : Int32) (h : fX4_count N x1 M = some rr) : bw_CI l bw_shC 45 yX4_count cX4_count 2 (some .int) rmX4_count (fun ρ => [.ref (ρ 0), .int x1]) M rr M := by
  refine bw_inI (Lf := fun ρ => [(0, .ref (ρ 0)), (1, .int x1)]) cX4_count 2 (some .int) RX4 pn_X4 rfl (fun ρ => Nat.le_of_ble_eq_true rfl) (fun ρ => rfl) ?_
  intro p e s m args below meth c D kT ρ C
  unfold fX4_count at h
  refine bw_iload_n (pc := 0) C 1 dX4_count_0 rfl rfl ?_
  refine bw_swc (pc := 1) C (0 : Int32) h (fun h => ?_) (fun q1 h => ?_)
  · refine bw_swi (pc := 1) C 72 dX4_count_1 (by decide) (by decide) rfl (by decide) ?_
    refine bw_aload_n (pc := 72) C 0 dX4_count_72 rfl rfl ?_
    refine bw_getR (pc := 73) (q := 0) (k0 := 5) C ltC_0 shC_0 rfl inX4 mw_128 (by decide) rfl dX4_count_73 ?_
    refine bw_getI (pc := 76) (q := 16) (k0 := 0) C ltC_16 shC_16 rfl inX3 mw_49 (by decide) rfl dX4_count_76 ?_
    exact bw_ireti (pc := 79) C dX4_count_79 (bw_pr M h)
  refine bw_swc (pc := 1) C (1 : Int32) h (fun h => ?_) (fun q2 h => ?_)
  · refine bw_swi (pc := 1) C 80 dX4_count_1 (by decide) (by decide) rfl (by decide) ?_
    refine bw_aload_n (pc := 80) C 0 dX4_count_80 rfl rfl ?_
    refine bw_getR (pc := 81) (q := 0) (k0 := 5) C ltC_0 shC_0 rfl inX4 mw_128 (by decide) rfl dX4_count_81 ?_
    refine bw_getI (pc := 84) (q := 16) (k0 := 3) C ltC_16 shC_16 rfl inX3 mw_53 (by decide) rfl dX4_count_84 ?_
    exact bw_ireti (pc := 87) C dX4_count_87 (bw_pr M h)
  refine bw_swc (pc := 1) C (2 : Int32) h (fun h => ?_) (fun q3 h => ?_)
  · refine bw_swi (pc := 1) C 88 dX4_count_1 (by decide) (by decide) rfl (by decide) ?_
    refine bw_aload_n (pc := 88) C 0 dX4_count_88 rfl rfl ?_
    refine bw_getR (pc := 89) (q := 0) (k0 := 5) C ltC_0 shC_0 rfl inX4 mw_128 (by decide) rfl dX4_count_89 ?_
    refine bw_getI (pc := 92) (q := 16) (k0 := 4) C ltC_16 shC_16 rfl inX3 mw_55 (by decide) rfl dX4_count_92 ?_
    exact bw_ireti (pc := 95) C dX4_count_95 (bw_pr M h)
  refine bw_swc (pc := 1) C (3 : Int32) h (fun h => ?_) (fun q4 h => ?_)
  · refine bw_swi (pc := 1) C 96 dX4_count_1 (by decide) (by decide) rfl (by decide) ?_
    refine bw_aload_n (pc := 96) C 0 dX4_count_96 rfl rfl ?_
    refine bw_getR (pc := 97) (q := 0) (k0 := 5) C ltC_0 shC_0 rfl inX4 mw_128 (by decide) rfl dX4_count_97 ?_
    refine bw_getI (pc := 100) (q := 16) (k0 := 5) C ltC_16 shC_16 rfl inX3 mw_57 (by decide) rfl dX4_count_100 ?_
    exact bw_ireti (pc := 103) C dX4_count_103 (bw_pr M h)
  refine bw_swc (pc := 1) C (4 : Int32) h (fun h => ?_) (fun q5 h => ?_)
  · refine bw_swi (pc := 1) C 104 dX4_count_1 (by decide) (by decide) rfl (by decide) ?_
    refine bw_aload_n (pc := 104) C 0 dX4_count_104 rfl rfl ?_
    refine bw_getR (pc := 105) (q := 0) (k0 := 7) C ltC_0 shC_0 rfl inX4 mw_130 (by decide) rfl dX4_count_105 ?_
    refine bw_getI (pc := 108) (q := 28) (k0 := 2) C ltC_28 shC_28 rfl inX0 mw_110 (by decide) rfl dX4_count_108 ?_
    exact bw_ireti (pc := 111) C dX4_count_111 (bw_pr M h)
  refine bw_swc (pc := 1) C (5 : Int32) h (fun h => ?_) (fun q6 h => ?_)
  · refine bw_swi (pc := 1) C 112 dX4_count_1 (by decide) (by decide) rfl (by decide) ?_
    refine bw_aload_n (pc := 112) C 0 dX4_count_112 rfl rfl ?_
    refine bw_getR (pc := 113) (q := 0) (k0 := 5) C ltC_0 shC_0 rfl inX4 mw_128 (by decide) rfl dX4_count_113 ?_
    refine bw_getI (pc := 116) (q := 16) (k0 := 6) C ltC_16 shC_16 rfl inX3 mw_59 (by decide) rfl dX4_count_116 ?_
    exact bw_ireti (pc := 119) C dX4_count_119 (bw_pr M h)
  refine bw_swc (pc := 1) C (6 : Int32) h (fun h => ?_) (fun q7 h => ?_)
  · refine bw_swi (pc := 1) C 120 dX4_count_1 (by decide) (by decide) rfl (by decide) ?_
    refine bw_aload_n (pc := 120) C 0 dX4_count_120 rfl rfl ?_
    refine bw_getR (pc := 121) (q := 0) (k0 := 5) C ltC_0 shC_0 rfl inX4 mw_128 (by decide) rfl dX4_count_121 ?_
    refine bw_getI (pc := 124) (q := 16) (k0 := 7) C ltC_16 shC_16 rfl inX3 mw_61 (by decide) rfl dX4_count_124 ?_
    exact bw_ireti (pc := 127) C dX4_count_127 (bw_pr M h)
  refine bw_swc (pc := 1) C (7 : Int32) h (fun h => ?_) (fun q8 h => ?_)
  · refine bw_swi (pc := 1) C 128 dX4_count_1 (by decide) (by decide) rfl (by decide) ?_
    refine bw_aload_n (pc := 128) C 0 dX4_count_128 rfl rfl ?_
    refine bw_getR (pc := 129) (q := 0) (k0 := 5) C ltC_0 shC_0 rfl inX4 mw_128 (by decide) rfl dX4_count_129 ?_
    refine bw_aload_n (pc := 132) C 0 dX4_count_132 rfl rfl ?_
    refine bw_getR (pc := 133) (q := 0) (k0 := 5) C ltC_0 shC_0 rfl inX4 mw_128 (by decide) rfl dX4_count_133 ?_
    refine bw_getR (pc := 136) (q := 16) (k0 := 11) C ltC_16 shC_16 rfl inX3 mw_69 (by decide) rfl dX4_count_136 ?_
    obtain ⟨v9, ev9, h⟩ := bw_cl_o h
    refine bw_cVi (pc := 139) (q := 16) (As := [.ref (ρ 20)]) (rest := []) C (tX3_sumOf l N 16 20 6 isT_16 ltC_20 shC_20 M v9 ev9) msX3_sumOf mw_574 rfl rfl ⟨Nat.le_of_ble_eq_true rfl, Nat.le_of_ble_eq_true rfl⟩ ltC_16 shC_16 rfl rfl rfl rfl (Nat.le_of_ble_eq_true rfl) dX4_count_139 ?_
    exact bw_ireti (pc := 142) C dX4_count_142 (bw_pr M h)
  refine bw_swc (pc := 1) C (8 : Int32) h (fun h => ?_) (fun q10 h => ?_)
  · refine bw_swi (pc := 1) C 143 dX4_count_1 (by decide) (by decide) rfl (by decide) ?_
    refine bw_aload_n (pc := 143) C 0 dX4_count_143 rfl rfl ?_
    refine bw_getR (pc := 144) (q := 0) (k0 := 5) C ltC_0 shC_0 rfl inX4 mw_128 (by decide) rfl dX4_count_144 ?_
    refine bw_aload_n (pc := 147) C 0 dX4_count_147 rfl rfl ?_
    refine bw_getR (pc := 148) (q := 0) (k0 := 5) C ltC_0 shC_0 rfl inX4 mw_128 (by decide) rfl dX4_count_148 ?_
    refine bw_getR (pc := 151) (q := 16) (k0 := 12) C ltC_16 shC_16 rfl inX3 mw_71 (by decide) rfl dX4_count_151 ?_
    obtain ⟨v11, ev11, h⟩ := bw_cl_o h
    refine bw_cVi (pc := 154) (q := 16) (As := [.ref (ρ 21)]) (rest := []) C (tX3_sumOf l N 16 21 6 isT_16 ltC_21 shC_21 M v11 ev11) msX3_sumOf mw_574 rfl rfl ⟨Nat.le_of_ble_eq_true rfl, Nat.le_of_ble_eq_true rfl⟩ ltC_16 shC_16 rfl rfl rfl rfl (Nat.le_of_ble_eq_true rfl) dX4_count_154 ?_
    exact bw_ireti (pc := 157) C dX4_count_157 (bw_pr M h)
  refine bw_swc (pc := 1) C (9 : Int32) h (fun h => ?_) (fun q12 h => ?_)
  · refine bw_swi (pc := 1) C 158 dX4_count_1 (by decide) (by decide) rfl (by decide) ?_
    refine bw_aload_n (pc := 158) C 0 dX4_count_158 rfl rfl ?_
    refine bw_getR (pc := 159) (q := 0) (k0 := 5) C ltC_0 shC_0 rfl inX4 mw_128 (by decide) rfl dX4_count_159 ?_
    refine bw_iconst (pc := 162) (v := (1 : Int32)) C dX4_count_162 ic_1 ?_
    obtain ⟨v13, ev13, h⟩ := bw_cl_o h
    refine bw_cVi (pc := 163) (q := 16) (As := [.int (1 : Int32)]) (rest := []) C (tX3_pipesOf l N 16 (1 : Int32) isT_16 M v13 ev13) msX3_pipesOf mw_578 rfl rfl ⟨Nat.le_of_ble_eq_true rfl, Nat.le_of_ble_eq_true rfl⟩ ltC_16 shC_16 rfl rfl rfl rfl (Nat.le_of_ble_eq_true rfl) dX4_count_163 ?_
    exact bw_ireti (pc := 166) C dX4_count_166 (bw_pr M h)
  refine bw_swc (pc := 1) C (10 : Int32) h (fun h => ?_) (fun q14 h => ?_)
  · refine bw_swi (pc := 1) C 167 dX4_count_1 (by decide) (by decide) rfl (by decide) ?_
    refine bw_aload_n (pc := 167) C 0 dX4_count_167 rfl rfl ?_
    refine bw_getR (pc := 168) (q := 0) (k0 := 5) C ltC_0 shC_0 rfl inX4 mw_128 (by decide) rfl dX4_count_168 ?_
    refine bw_iconst (pc := 171) (v := (3 : Int32)) C dX4_count_171 ic_3 ?_
    obtain ⟨v15, ev15, h⟩ := bw_cl_o h
    refine bw_cVi (pc := 172) (q := 16) (As := [.int (3 : Int32)]) (rest := []) C (tX3_pipesOf l N 16 (3 : Int32) isT_16 M v15 ev15) msX3_pipesOf mw_578 rfl rfl ⟨Nat.le_of_ble_eq_true rfl, Nat.le_of_ble_eq_true rfl⟩ ltC_16 shC_16 rfl rfl rfl rfl (Nat.le_of_ble_eq_true rfl) dX4_count_172 ?_
    exact bw_ireti (pc := 175) C dX4_count_175 (bw_pr M h)
  refine bw_swc (pc := 1) C (11 : Int32) h (fun h => ?_) (fun q16 h => ?_)
  · refine bw_swi (pc := 1) C 176 dX4_count_1 (by decide) (by decide) rfl (by decide) ?_
    refine bw_aload_n (pc := 176) C 0 dX4_count_176 rfl rfl ?_
    refine bw_getR (pc := 177) (q := 0) (k0 := 1) C ltC_0 shC_0 rfl inX4 mw_124 (by decide) rfl dX4_count_177 ?_
    obtain ⟨v17, ev17, h⟩ := bw_cl_o h
    refine bw_cSi (pc := 180) (As := [.ref (ρ 8)]) (rest := []) C (tX4_thereOf l N 8 6 ltC_8 shC_8 M v17 ev17) msX4_thereOf mw_583 rfl rfl ⟨Nat.le_of_ble_eq_true rfl, Nat.le_of_ble_eq_true rfl⟩ rfl rfl rfl (Nat.le_of_ble_eq_true rfl) dX4_count_180 ?_
    exact bw_ireti (pc := 183) C dX4_count_183 (bw_pr M h)
  refine bw_swc (pc := 1) C (12 : Int32) h (fun h => ?_) (fun q18 h => ?_)
  · refine bw_swi (pc := 1) C 184 dX4_count_1 (by decide) (by decide) rfl (by decide) ?_
    refine bw_aload_n (pc := 184) C 0 dX4_count_184 rfl rfl ?_
    refine bw_getR (pc := 185) (q := 0) (k0 := 3) C ltC_0 shC_0 rfl inX4 mw_126 (by decide) rfl dX4_count_185 ?_
    obtain ⟨v19, ev19, h⟩ := bw_cl_o h
    refine bw_cSi (pc := 188) (As := [.ref (ρ 14)]) (rest := []) C (tX4_thereOf l N 14 4 ltC_14 shC_14 M v19 ev19) msX4_thereOf mw_583 rfl rfl ⟨Nat.le_of_ble_eq_true rfl, Nat.le_of_ble_eq_true rfl⟩ rfl rfl rfl (Nat.le_of_ble_eq_true rfl) dX4_count_188 ?_
    exact bw_ireti (pc := 191) C dX4_count_191 (bw_pr M h)
  refine bw_swc (pc := 1) C (13 : Int32) h (fun h => ?_) (fun q20 h => ?_)
  · refine bw_swi (pc := 1) C 192 dX4_count_1 (by decide) (by decide) rfl (by decide) ?_
    refine bw_aload_n (pc := 192) C 0 dX4_count_192 rfl rfl ?_
    obtain ⟨v21, ev21, h⟩ := bw_cl_o h
    refine bw_cVi (pc := 193) (q := 0) (As := []) (rest := []) C (tX4_keptTowns l N M v21 ev21) msX4_keptTowns mw_586 rfl rfl ⟨Nat.le_of_ble_eq_true rfl, Nat.le_of_ble_eq_true rfl⟩ ltC_0 shC_0 rfl rfl rfl rfl (Nat.le_of_ble_eq_true rfl) dX4_count_193 ?_
    exact bw_ireti (pc := 196) C dX4_count_196 (bw_pr M h)
  have ho : (x1).toInt < 0 ∨ 13 < (x1).toInt := bw_sw_out 14 (by decide) (by decide) (by decide) (fun j hj => by
    match j, hj with
    | 0, _ => exact q1
    | 1, _ => exact q2
    | 2, _ => exact q3
    | 3, _ => exact q4
    | 4, _ => exact q5
    | 5, _ => exact q6
    | 6, _ => exact q7
    | 7, _ => exact q8
    | 8, _ => exact q10
    | 9, _ => exact q12
    | 10, _ => exact q14
    | 11, _ => exact q16
    | 12, _ => exact q18
    | 13, _ => exact q20
    | j + 14, hj => exact absurd hj (by omega))
  refine bw_swo (pc := 1) C 197 dX4_count_1 ho (by decide) ?_
  refine bw_iconst (pc := 197) (v := (-1 : Int32)) C dX4_count_197 ic_m1 ?_
  exact bw_ireti (pc := 198) C dX4_count_198 (bw_pr M h)
/-! X4_perform -/
abbrev rmX4_perform : Room := { frames := 5, cells := 0, slots := 0, locals := 111 }
theorem msX4_perform : bw_MV yX4_perform cX4_perform 3 (some .int) RX4 2 := ⟨mw_336, mw_1076, mw_1, mw_337, by decide +kernel⟩
def fX4_perform_26 (N : Nat) (x1 : Int32) (x2 : Int32)  (s0 : Int32) (M : bw_M) : Option (Int32 × bw_M) :=
  some (s0, M)
theorem tX4_perform_26 {p : Program} {l : Launch} {e : Env} {s : State} {m : MethodId} {args : Array Value} {below : List Frame} {meth : Method} {c : Code} {D : va_G} {kT : Nat → ClassId} {ρ : Nat → Nat} (C : bw_Cx p s m args meth c cX4_perform 3 RX4 45 D kT ρ (some .int)) (N : Nat) (x1 : Int32) (x2 : Int32)   (s0 : Int32) (M : bw_M) (rr : Int32) (zz : bw_M)  (h : fX4_perform_26 N x1 x2 s0 M = some (rr, zz)) : bw_At p l e rmX4_perform s m args below meth c (MQ below (bw_QI bw_shC 45 D kT ρ rr zz) args s 0 0 (bw_A ρ 45)) bw_shC 45 D kT ρ 3 26 [(0, .ref (ρ 0)), (1, .int x1), (2, .int x2)] [.int s0] M := by
  unfold fX4_perform_26 at h
  exact bw_ireti (pc := 26) C dX4_perform_26 h
def fX4_perform (N : Nat) (x1 : Int32) (x2 : Int32) (M : bw_M) : Option (Int32 × bw_M) :=
  bw_c2 (fX0_add 28 x1 x2 M) fun v1 M2 =>
  if v1 = 0 then
  fX4_perform_26 N x1 x2 (-2 : Int32) M2
  else
  bw_c2 (fX3_undergo N 16 x1 x2 M2) fun v3 M4 =>
  fX4_perform_26 N x1 x2 v3 M4
theorem tX4_perform (l : Launch) (N : Nat) (x1 : Int32) (x2 : Int32)  (M : bw_M) (rr : Int32) (zz : bw_M) (h : fX4_perform N x1 x2 M = some (rr, zz)) : bw_CI l bw_shC 45 yX4_perform cX4_perform 3 (some .int) rmX4_perform (fun ρ => [.ref (ρ 0), .int x1, .int x2]) M rr zz := by
  refine bw_inI (Lf := fun ρ => [(0, .ref (ρ 0)), (1, .int x1), (2, .int x2)]) cX4_perform 3 (some .int) RX4 pn_X4 rfl (fun ρ => Nat.le_of_ble_eq_true rfl) (fun ρ => rfl) ?_
  intro p e s m args below meth c D kT ρ C
  unfold fX4_perform at h
  refine bw_aload_n (pc := 0) C 0 dX4_perform_0 rfl rfl ?_
  refine bw_getR (pc := 1) (q := 0) (k0 := 7) C ltC_0 shC_0 rfl inX4 mw_130 (by decide) rfl dX4_perform_1 ?_
  refine bw_iload_n (pc := 4) C 1 dX4_perform_4 rfl rfl ?_
  refine bw_iload_n (pc := 5) C 2 dX4_perform_5 rfl rfl ?_
  obtain ⟨v1, M2, ev1, h⟩ := bw_c2_o h
  refine bw_cVi (pc := 6) (q := 28) (As := [.int x1, .int x2]) (rest := []) C (tX0_add l 28 x1 x2 isD_28 M v1 M2 ev1) msX0_add mw_338 rfl rfl ⟨Nat.le_of_ble_eq_true rfl, Nat.le_of_ble_eq_true rfl⟩ ltC_28 shC_28 rfl rfl rfl rfl (Nat.le_of_ble_eq_true rfl) dX4_perform_6 ?_
  refine bw_if_eq (pc := 9) C 24 dX4_perform_9 (by decide) h (fun h => ?_) (fun h => ?_)
  · refine bw_bipush (pc := 24) (v := (-2 : Int32)) C dX4_perform_24 bi_m2 ?_
    refine bw_pick [0, 1, 2] rfl ?_
    exact tX4_perform_26 C N x1 x2 (-2 : Int32) M2 rr zz h
  · refine bw_aload_n (pc := 12) C 0 dX4_perform_12 rfl rfl ?_
    refine bw_getR (pc := 13) (q := 0) (k0 := 5) C ltC_0 shC_0 rfl inX4 mw_128 (by decide) rfl dX4_perform_13 ?_
    refine bw_iload_n (pc := 16) C 1 dX4_perform_16 rfl rfl ?_
    refine bw_iload_n (pc := 17) C 2 dX4_perform_17 rfl rfl ?_
    obtain ⟨v3, M4, ev3, h⟩ := bw_c2_o h
    refine bw_cVi (pc := 18) (q := 16) (As := [.int x1, .int x2]) (rest := []) C (tX3_undergo l N 16 x1 x2 isT_16 M2 v3 M4 ev3) msX3_undergo mw_342 rfl rfl ⟨Nat.le_of_ble_eq_true rfl, Nat.le_of_ble_eq_true rfl⟩ ltC_16 shC_16 rfl rfl rfl rfl (Nat.le_of_ble_eq_true rfl) dX4_perform_18 ?_
    refine bw_goto (pc := 21) C 26 dX4_perform_21 (by decide) ?_
    refine bw_pick [0, 1, 2] rfl ?_
    exact tX4_perform_26 C N x1 x2 v3 M4 rr zz h
/-! X4_cut -/
abbrev rmX4_cut : Room := { frames := 6, cells := 0, slots := 0, locals := 133 }
theorem msX4_cut : bw_MV yX4_cut cX4_cut 2 (some .int) RX4 1 := ⟨mw_372, mw_373, mw_1, mw_374, by decide +kernel⟩
def fX4_cut_21 (N : Nat) (x1 : Int32)  (s0 : Int32) (M : bw_M) : Option (Int32 × bw_M) :=
  some (s0, M)
theorem tX4_cut_21 {p : Program} {l : Launch} {e : Env} {s : State} {m : MethodId} {args : Array Value} {below : List Frame} {meth : Method} {c : Code} {D : va_G} {kT : Nat → ClassId} {ρ : Nat → Nat} (C : bw_Cx p s m args meth c cX4_cut 2 RX4 45 D kT ρ (some .int)) (N : Nat) (x1 : Int32)   (s0 : Int32) (M : bw_M) (rr : Int32) (zz : bw_M)  (h : fX4_cut_21 N x1 s0 M = some (rr, zz)) : bw_At p l e rmX4_cut s m args below meth c (MQ below (bw_QI bw_shC 45 D kT ρ rr zz) args s 0 0 (bw_A ρ 45)) bw_shC 45 D kT ρ 2 21 [(0, .ref (ρ 0)), (1, .int x1)] [.int s0] M := by
  unfold fX4_cut_21 at h
  exact bw_ireti (pc := 21) C dX4_cut_21 h
def fX4_cut (N : Nat) (x1 : Int32) (M : bw_M) : Option (Int32 × bw_M) :=
  bw_cl (fX3_hasPipe 16 x1 M) fun v1 =>
  if v1 = 0 then
  fX4_cut_21 N x1 (-1 : Int32) M
  else
  bw_c2 (fX4_perform N (2 : Int32) x1 M) fun v2 M3 =>
  fX4_cut_21 N x1 v2 M3
theorem tX4_cut (l : Launch) (N : Nat) (x1 : Int32)  (M : bw_M) (rr : Int32) (zz : bw_M) (h : fX4_cut N x1 M = some (rr, zz)) : bw_CI l bw_shC 45 yX4_cut cX4_cut 2 (some .int) rmX4_cut (fun ρ => [.ref (ρ 0), .int x1]) M rr zz := by
  refine bw_inI (Lf := fun ρ => [(0, .ref (ρ 0)), (1, .int x1)]) cX4_cut 2 (some .int) RX4 pn_X4 rfl (fun ρ => Nat.le_of_ble_eq_true rfl) (fun ρ => rfl) ?_
  intro p e s m args below meth c D kT ρ C
  unfold fX4_cut at h
  refine bw_aload_n (pc := 0) C 0 dX4_cut_0 rfl rfl ?_
  refine bw_getR (pc := 1) (q := 0) (k0 := 5) C ltC_0 shC_0 rfl inX4 mw_128 (by decide) rfl dX4_cut_1 ?_
  refine bw_iload_n (pc := 4) C 1 dX4_cut_4 rfl rfl ?_
  obtain ⟨v1, ev1, h⟩ := bw_cl_o h
  refine bw_cVi (pc := 5) (q := 16) (As := [.int x1]) (rest := []) C (tX3_hasPipe l 16 x1 isT_16 M v1 ev1) msX3_hasPipe mw_290 rfl rfl ⟨Nat.le_of_ble_eq_true rfl, Nat.le_of_ble_eq_true rfl⟩ ltC_16 shC_16 rfl rfl rfl rfl (Nat.le_of_ble_eq_true rfl) dX4_cut_5 ?_
  refine bw_if_eq (pc := 8) C 20 dX4_cut_8 (by decide) h (fun h => ?_) (fun h => ?_)
  · refine bw_iconst (pc := 20) (v := (-1 : Int32)) C dX4_cut_20 ic_m1 ?_
    refine bw_pick [0, 1] rfl ?_
    exact tX4_cut_21 C N x1 (-1 : Int32) M rr zz h
  · refine bw_aload_n (pc := 11) C 0 dX4_cut_11 rfl rfl ?_
    refine bw_iconst (pc := 12) (v := (2 : Int32)) C dX4_cut_12 ic_2 ?_
    refine bw_iload_n (pc := 13) C 1 dX4_cut_13 rfl rfl ?_
    obtain ⟨v2, M3, ev2, h⟩ := bw_c2_o h
    refine bw_cVi (pc := 14) (q := 0) (As := [.int (2 : Int32), .int x1]) (rest := []) C (tX4_perform l N (2 : Int32) x1 M v2 M3 ev2) msX4_perform mw_334 rfl rfl ⟨Nat.le_of_ble_eq_true rfl, Nat.le_of_ble_eq_true rfl⟩ ltC_0 shC_0 rfl rfl rfl rfl (Nat.le_of_ble_eq_true rfl) dX4_cut_14 ?_
    refine bw_goto (pc := 17) C 21 dX4_cut_17 (by decide) ?_
    refine bw_pick [0, 1] rfl ?_
    exact tX4_cut_21 C N x1 v2 M3 rr zz h
/-! X4_pipeFact -/
abbrev rmX4_pipeFact : Room := { frames := 2, cells := 0, slots := 0, locals := 43 }
theorem msX4_pipeFact : bw_MV yX4_pipeFact cX4_pipeFact 3 (some .int) RX4 2 := ⟨mw_296, mw_1074, mw_1, mw_297, by decide +kernel⟩
def fX4_pipeFact_122 (N : Nat) (x1 : Int32) (x2 : Int32)  (s0 : Int32) (M : bw_M) : Option (Int32) :=
  some s0
theorem tX4_pipeFact_122 {p : Program} {l : Launch} {e : Env} {s : State} {m : MethodId} {args : Array Value} {below : List Frame} {meth : Method} {c : Code} {D : va_G} {kT : Nat → ClassId} {ρ : Nat → Nat} (C : bw_Cx p s m args meth c cX4_pipeFact 3 RX4 45 D kT ρ (some .int)) (N : Nat) (x1 : Int32) (x2 : Int32)   (s0 : Int32) (M : bw_M) (rr : Int32)  (h : fX4_pipeFact_122 N x1 x2 s0 M = some rr) : bw_At p l e rmX4_pipeFact s m args below meth c (MQ below (bw_QI bw_shC 45 D kT ρ rr M) args s 0 0 (bw_A ρ 45)) bw_shC 45 D kT ρ 3 122 [(0, .ref (ρ 0)), (1, .int x1), (2, .int x2)] [.int s0] M := by
  unfold fX4_pipeFact_122 at h
  exact bw_ireti (pc := 122) C dX4_pipeFact_122 (bw_pr M h)
def fX4_pipeFact_142 (N : Nat) (x1 : Int32) (x2 : Int32)  (s0 : Int32) (M : bw_M) : Option (Int32) :=
  some s0
theorem tX4_pipeFact_142 {p : Program} {l : Launch} {e : Env} {s : State} {m : MethodId} {args : Array Value} {below : List Frame} {meth : Method} {c : Code} {D : va_G} {kT : Nat → ClassId} {ρ : Nat → Nat} (C : bw_Cx p s m args meth c cX4_pipeFact 3 RX4 45 D kT ρ (some .int)) (N : Nat) (x1 : Int32) (x2 : Int32)   (s0 : Int32) (M : bw_M) (rr : Int32)  (h : fX4_pipeFact_142 N x1 x2 s0 M = some rr) : bw_At p l e rmX4_pipeFact s m args below meth c (MQ below (bw_QI bw_shC 45 D kT ρ rr M) args s 0 0 (bw_A ρ 45)) bw_shC 45 D kT ρ 3 142 [(0, .ref (ρ 0)), (1, .int x1), (2, .int x2)] [.int s0] M := by
  unfold fX4_pipeFact_142 at h
  exact bw_ireti (pc := 142) C dX4_pipeFact_142 (bw_pr M h)
def fX4_pipeFact (N : Nat) (x1 : Int32) (x2 : Int32) (M : bw_M) : Option (Int32) :=
  if x2 = (0 : Int32) then
  bw_rd M 17 6 x1 fun v2 =>
  some v2
  else if x2 = (1 : Int32) then
  bw_rd M 18 6 x1 fun v4 =>
  some v4
  else if x2 = (2 : Int32) then
  bw_rd M 19 6 x1 fun v6 =>
  some v6
  else if x2 = (3 : Int32) then
  bw_cl (fX3_wantNext 16 x1 M) fun v8 =>
  some v8
  else if x2 = (4 : Int32) then
  bw_rd M 20 6 x1 fun v10 =>
  some v10
  else if x2 = (5 : Int32) then
  bw_rd M 21 6 x1 fun v12 =>
  some v12
  else if x2 = (6 : Int32) then
  bw_cl (fX3_cutOffSet N 16 M) fun v14 =>
  bw_cl (fX3_isIn v14 x1) fun v15 =>
  if v15 = 0 then
  fX4_pipeFact_122 N x1 x2 (0 : Int32) M
  else
  fX4_pipeFact_122 N x1 x2 (1 : Int32) M
  else 
  bw_cl (fX3_isIn (M.1 16 7) x1) fun v16 =>
  if v16 = 0 then
  fX4_pipeFact_142 N x1 x2 (0 : Int32) M
  else
  fX4_pipeFact_142 N x1 x2 (1 : Int32) M
theorem tX4_pipeFact (l : Launch) (N : Nat) (x1 : Int32) (x2 : Int32)  (M : bw_M) (rr : Int32) (h : fX4_pipeFact N x1 x2 M = some rr) : bw_CI l bw_shC 45 yX4_pipeFact cX4_pipeFact 3 (some .int) rmX4_pipeFact (fun ρ => [.ref (ρ 0), .int x1, .int x2]) M rr M := by
  refine bw_inI (Lf := fun ρ => [(0, .ref (ρ 0)), (1, .int x1), (2, .int x2)]) cX4_pipeFact 3 (some .int) RX4 pn_X4 rfl (fun ρ => Nat.le_of_ble_eq_true rfl) (fun ρ => rfl) ?_
  intro p e s m args below meth c D kT ρ C
  unfold fX4_pipeFact at h
  refine bw_iload_n (pc := 0) C 2 dX4_pipeFact_0 rfl rfl ?_
  refine bw_swc (pc := 1) C (0 : Int32) h (fun h => ?_) (fun q1 h => ?_)
  · refine bw_swi (pc := 1) C 44 dX4_pipeFact_1 (by decide) (by decide) rfl (by decide) ?_
    refine bw_aload_n (pc := 44) C 0 dX4_pipeFact_44 rfl rfl ?_
    refine bw_getR (pc := 45) (q := 0) (k0 := 5) C ltC_0 shC_0 rfl inX4 mw_128 (by decide) rfl dX4_pipeFact_45 ?_
    refine bw_getR (pc := 48) (q := 16) (k0 := 8) C ltC_16 shC_16 rfl inX3 mw_63 (by decide) rfl dX4_pipeFact_48 ?_
    refine bw_iload_n (pc := 51) C 1 dX4_pipeFact_51 rfl rfl ?_
    obtain ⟨qv2, v2, ev2, h⟩ := bw_rd_o h
    refine bw_iald (pc := 52) (q := 17) C ltC_17 shC_17 qv2 ev2 dX4_pipeFact_52 ?_
    exact bw_ireti (pc := 53) C dX4_pipeFact_53 (bw_pr M h)
  refine bw_swc (pc := 1) C (1 : Int32) h (fun h => ?_) (fun q3 h => ?_)
  · refine bw_swi (pc := 1) C 54 dX4_pipeFact_1 (by decide) (by decide) rfl (by decide) ?_
    refine bw_aload_n (pc := 54) C 0 dX4_pipeFact_54 rfl rfl ?_
    refine bw_getR (pc := 55) (q := 0) (k0 := 5) C ltC_0 shC_0 rfl inX4 mw_128 (by decide) rfl dX4_pipeFact_55 ?_
    refine bw_getR (pc := 58) (q := 16) (k0 := 9) C ltC_16 shC_16 rfl inX3 mw_65 (by decide) rfl dX4_pipeFact_58 ?_
    refine bw_iload_n (pc := 61) C 1 dX4_pipeFact_61 rfl rfl ?_
    obtain ⟨qv4, v4, ev4, h⟩ := bw_rd_o h
    refine bw_iald (pc := 62) (q := 18) C ltC_18 shC_18 qv4 ev4 dX4_pipeFact_62 ?_
    exact bw_ireti (pc := 63) C dX4_pipeFact_63 (bw_pr M h)
  refine bw_swc (pc := 1) C (2 : Int32) h (fun h => ?_) (fun q5 h => ?_)
  · refine bw_swi (pc := 1) C 64 dX4_pipeFact_1 (by decide) (by decide) rfl (by decide) ?_
    refine bw_aload_n (pc := 64) C 0 dX4_pipeFact_64 rfl rfl ?_
    refine bw_getR (pc := 65) (q := 0) (k0 := 5) C ltC_0 shC_0 rfl inX4 mw_128 (by decide) rfl dX4_pipeFact_65 ?_
    refine bw_getR (pc := 68) (q := 16) (k0 := 10) C ltC_16 shC_16 rfl inX3 mw_67 (by decide) rfl dX4_pipeFact_68 ?_
    refine bw_iload_n (pc := 71) C 1 dX4_pipeFact_71 rfl rfl ?_
    obtain ⟨qv6, v6, ev6, h⟩ := bw_rd_o h
    refine bw_iald (pc := 72) (q := 19) C ltC_19 shC_19 qv6 ev6 dX4_pipeFact_72 ?_
    exact bw_ireti (pc := 73) C dX4_pipeFact_73 (bw_pr M h)
  refine bw_swc (pc := 1) C (3 : Int32) h (fun h => ?_) (fun q7 h => ?_)
  · refine bw_swi (pc := 1) C 74 dX4_pipeFact_1 (by decide) (by decide) rfl (by decide) ?_
    refine bw_aload_n (pc := 74) C 0 dX4_pipeFact_74 rfl rfl ?_
    refine bw_getR (pc := 75) (q := 0) (k0 := 5) C ltC_0 shC_0 rfl inX4 mw_128 (by decide) rfl dX4_pipeFact_75 ?_
    refine bw_iload_n (pc := 78) C 1 dX4_pipeFact_78 rfl rfl ?_
    obtain ⟨v8, ev8, h⟩ := bw_cl_o h
    refine bw_cVi (pc := 79) (q := 16) (As := [.int x1]) (rest := []) C (tX3_wantNext l 16 x1 isT_16 M v8 ev8) msX3_wantNext mw_298 rfl rfl ⟨Nat.le_of_ble_eq_true rfl, Nat.le_of_ble_eq_true rfl⟩ ltC_16 shC_16 rfl rfl rfl rfl (Nat.le_of_ble_eq_true rfl) dX4_pipeFact_79 ?_
    exact bw_ireti (pc := 82) C dX4_pipeFact_82 (bw_pr M h)
  refine bw_swc (pc := 1) C (4 : Int32) h (fun h => ?_) (fun q9 h => ?_)
  · refine bw_swi (pc := 1) C 83 dX4_pipeFact_1 (by decide) (by decide) rfl (by decide) ?_
    refine bw_aload_n (pc := 83) C 0 dX4_pipeFact_83 rfl rfl ?_
    refine bw_getR (pc := 84) (q := 0) (k0 := 5) C ltC_0 shC_0 rfl inX4 mw_128 (by decide) rfl dX4_pipeFact_84 ?_
    refine bw_getR (pc := 87) (q := 16) (k0 := 11) C ltC_16 shC_16 rfl inX3 mw_69 (by decide) rfl dX4_pipeFact_87 ?_
    refine bw_iload_n (pc := 90) C 1 dX4_pipeFact_90 rfl rfl ?_
    obtain ⟨qv10, v10, ev10, h⟩ := bw_rd_o h
    refine bw_iald (pc := 91) (q := 20) C ltC_20 shC_20 qv10 ev10 dX4_pipeFact_91 ?_
    exact bw_ireti (pc := 92) C dX4_pipeFact_92 (bw_pr M h)
  refine bw_swc (pc := 1) C (5 : Int32) h (fun h => ?_) (fun q11 h => ?_)
  · refine bw_swi (pc := 1) C 93 dX4_pipeFact_1 (by decide) (by decide) rfl (by decide) ?_
    refine bw_aload_n (pc := 93) C 0 dX4_pipeFact_93 rfl rfl ?_
    refine bw_getR (pc := 94) (q := 0) (k0 := 5) C ltC_0 shC_0 rfl inX4 mw_128 (by decide) rfl dX4_pipeFact_94 ?_
    refine bw_getR (pc := 97) (q := 16) (k0 := 12) C ltC_16 shC_16 rfl inX3 mw_71 (by decide) rfl dX4_pipeFact_97 ?_
    refine bw_iload_n (pc := 100) C 1 dX4_pipeFact_100 rfl rfl ?_
    obtain ⟨qv12, v12, ev12, h⟩ := bw_rd_o h
    refine bw_iald (pc := 101) (q := 21) C ltC_21 shC_21 qv12 ev12 dX4_pipeFact_101 ?_
    exact bw_ireti (pc := 102) C dX4_pipeFact_102 (bw_pr M h)
  refine bw_swc (pc := 1) C (6 : Int32) h (fun h => ?_) (fun q13 h => ?_)
  · refine bw_swi (pc := 1) C 103 dX4_pipeFact_1 (by decide) (by decide) rfl (by decide) ?_
    refine bw_aload_n (pc := 103) C 0 dX4_pipeFact_103 rfl rfl ?_
    refine bw_getR (pc := 104) (q := 0) (k0 := 5) C ltC_0 shC_0 rfl inX4 mw_128 (by decide) rfl dX4_pipeFact_104 ?_
    obtain ⟨v14, ev14, h⟩ := bw_cl_o h
    refine bw_cVi (pc := 107) (q := 16) (As := []) (rest := []) C (tX3_cutOffSet l N 16 isT_16 M v14 ev14) msX3_cutOffSet mw_305 rfl rfl ⟨Nat.le_of_ble_eq_true rfl, Nat.le_of_ble_eq_true rfl⟩ ltC_16 shC_16 rfl rfl rfl rfl (Nat.le_of_ble_eq_true rfl) dX4_pipeFact_107 ?_
    refine bw_iload_n (pc := 110) C 1 dX4_pipeFact_110 rfl rfl ?_
    obtain ⟨v15, ev15, h⟩ := bw_cl_o h
    refine bw_cSi (pc := 111) (As := [.int v14, .int x1]) (rest := []) C (tX3_isIn l v14 x1 M v15 ev15) msX3_isIn mw_312 rfl rfl ⟨Nat.le_of_ble_eq_true rfl, Nat.le_of_ble_eq_true rfl⟩ rfl rfl rfl (Nat.le_of_ble_eq_true rfl) dX4_pipeFact_111 ?_
    refine bw_if_eq (pc := 114) C 121 dX4_pipeFact_114 (by decide) h (fun h => ?_) (fun h => ?_)
    · refine bw_iconst (pc := 121) (v := (0 : Int32)) C dX4_pipeFact_121 ic_0 ?_
      refine bw_pick [0, 1, 2] rfl ?_
      exact tX4_pipeFact_122 C N x1 x2 (0 : Int32) M rr h
    · refine bw_iconst (pc := 117) (v := (1 : Int32)) C dX4_pipeFact_117 ic_1 ?_
      refine bw_goto (pc := 118) C 122 dX4_pipeFact_118 (by decide) ?_
      refine bw_pick [0, 1, 2] rfl ?_
      exact tX4_pipeFact_122 C N x1 x2 (1 : Int32) M rr h
  have ho : (x2).toInt < 0 ∨ 6 < (x2).toInt := bw_sw_out 7 (by decide) (by decide) (by decide) (fun j hj => by
    match j, hj with
    | 0, _ => exact q1
    | 1, _ => exact q3
    | 2, _ => exact q5
    | 3, _ => exact q7
    | 4, _ => exact q9
    | 5, _ => exact q11
    | 6, _ => exact q13
    | j + 7, hj => exact absurd hj (by omega))
  refine bw_swo (pc := 1) C 123 dX4_pipeFact_1 ho (by decide) ?_
  refine bw_aload_n (pc := 123) C 0 dX4_pipeFact_123 rfl rfl ?_
  refine bw_getR (pc := 124) (q := 0) (k0 := 5) C ltC_0 shC_0 rfl inX4 mw_128 (by decide) rfl dX4_pipeFact_124 ?_
  refine bw_getI (pc := 127) (q := 16) (k0 := 7) C ltC_16 shC_16 rfl inX3 mw_61 (by decide) rfl dX4_pipeFact_127 ?_
  refine bw_iload_n (pc := 130) C 1 dX4_pipeFact_130 rfl rfl ?_
  obtain ⟨v16, ev16, h⟩ := bw_cl_o h
  refine bw_cSi (pc := 131) (As := [.int (M.1 16 7), .int x1]) (rest := []) C (tX3_isIn l (M.1 16 7) x1 M v16 ev16) msX3_isIn mw_312 rfl rfl ⟨Nat.le_of_ble_eq_true rfl, Nat.le_of_ble_eq_true rfl⟩ rfl rfl rfl (Nat.le_of_ble_eq_true rfl) dX4_pipeFact_131 ?_
  refine bw_if_eq (pc := 134) C 141 dX4_pipeFact_134 (by decide) h (fun h => ?_) (fun h => ?_)
  · refine bw_iconst (pc := 141) (v := (0 : Int32)) C dX4_pipeFact_141 ic_0 ?_
    refine bw_pick [0, 1, 2] rfl ?_
    exact tX4_pipeFact_142 C N x1 x2 (0 : Int32) M rr h
  · refine bw_iconst (pc := 137) (v := (1 : Int32)) C dX4_pipeFact_137 ic_1 ?_
    refine bw_goto (pc := 138) C 142 dX4_pipeFact_138 (by decide) ?_
    refine bw_pick [0, 1, 2] rfl ?_
    exact tX4_pipeFact_142 C N x1 x2 (1 : Int32) M rr h
/-! X4_digest -/
abbrev rmX4_digest : Room := { frames := 3, cells := 0, slots := 0, locals := 65 }
theorem msX4_digest : bw_MV yX4_digest cX4_digest 5 (some .long) RX4 0 := ⟨mw_599, mw_600, mw_1, mw_601, by decide +kernel⟩
def fX4_digest_200 (N : Nat)  (k178 : Int64 × Int32 → Option (Int64)) (k200 : Int64 × Int32 → Option (Int64)) (x1 : Int64) (x3 : Int32) (x4 : Int32) (M : bw_M) : Option (Int64) :=
  bw_rd M 14 4 x3 fun v10 =>
  if v10 ≤ x4 then
  bw_mv (x3 + 1) fun v11 =>
  k178 (x1, v11)
  else
  bw_ra 4 x3 fun j12 =>
  bw_rd M (10 + j12) 60 x4 fun v13 =>
  bw_mv (((31 : Int64) * x1) + (Int32.toInt64 v13)) fun v14 =>
  bw_mv (x4 + 1) fun v15 =>
  k200 (v14, v15)
theorem tX4_digest_200 {p : Program} {l : Launch} {e : Env} {s : State} {m : MethodId} {args : Array Value} {below : List Frame} {meth : Method} {c : Code} {D : va_G} {kT : Nat → ClassId} {ρ : Nat → Nat} (C : bw_Cx p s m args meth c cX4_digest 5 RX4 45 D kT ρ (some .long)) (N : Nat)   (k178 : Int64 × Int32 → Option (Int64)) (k200 : Int64 × Int32 → Option (Int64)) (x1 : Int64) (x3 : Int32) (x4 : Int32) (M : bw_M) (rr : Int64) (hk178 : ∀ z0, k178 z0 = some rr → bw_At p l e rmX4_digest s m args below meth c (MQ below (bw_QL bw_shC 45 D kT ρ rr M) args s 0 0 (bw_A ρ 45)) bw_shC 45 D kT ρ 5 178 [(0, .ref (ρ 0)), (1, .long z0.1), (3, .int z0.2)] [] M) (hk200 : ∀ z0, k200 z0 = some rr → bw_At p l e rmX4_digest s m args below meth c (MQ below (bw_QL bw_shC 45 D kT ρ rr M) args s 0 0 (bw_A ρ 45)) bw_shC 45 D kT ρ 5 200 [(0, .ref (ρ 0)), (1, .long z0.1), (3, .int x3), (4, .int z0.2)] [] M) (h : fX4_digest_200 N k178 k200 x1 x3 x4 M = some rr) : bw_At p l e rmX4_digest s m args below meth c (MQ below (bw_QL bw_shC 45 D kT ρ rr M) args s 0 0 (bw_A ρ 45)) bw_shC 45 D kT ρ 5 200 [(0, .ref (ρ 0)), (1, .long x1), (3, .int x3), (4, .int x4)] [] M := by
  unfold fX4_digest_200 at h
  refine bw_iload (pc := 200) C 3 dX4_digest_200 rfl ?_
  refine bw_aload_n (pc := 202) C 0 dX4_digest_202 rfl rfl ?_
  refine bw_getR (pc := 203) (q := 0) (k0 := 3) C ltC_0 shC_0 rfl inX4 mw_126 (by decide) rfl dX4_digest_203 ?_
  refine bw_iload_n (pc := 206) C 2 dX4_digest_206 rfl rfl ?_
  obtain ⟨qv10, v10, ev10, h⟩ := bw_rd_o h
  refine bw_iald (pc := 207) (q := 14) C ltC_14 shC_14 qv10 ev10 dX4_digest_207 ?_
  refine bw_icmp_ge (pc := 208) C 234 dX4_digest_208 (by decide) h (fun h => ?_) (fun h => ?_)
  · obtain ⟨v11, ev11, h⟩ := bw_mv_o h
    refine bw_iinc (pc := 234) (x := v11) (L' := [(3, .int v11), (0, .ref (ρ 0)), (1, .long x1), (4, .int x4)]) C 2 dX4_digest_234 rfl ev11.symm (by decide) rfl ?_
    refine bw_goto (pc := 237) C 178 dX4_digest_237 (by decide) ?_
    refine bw_pick [1, 2, 0] rfl ?_
    exact hk178 (x1, v11) h
  · refine bw_ldc2_w (pc := 211) C mw_603 dX4_digest_211 ?_
    refine bw_lload_n (pc := 214) C 1 dX4_digest_214 rfl rfl ?_
    refine bw_lmul (pc := 215) C dX4_digest_215 ?_
    refine bw_aload_n (pc := 216) C 0 dX4_digest_216 rfl rfl ?_
    refine bw_getR (pc := 217) (q := 0) (k0 := 2) C ltC_0 shC_0 rfl inX4 mw_125 (by decide) rfl dX4_digest_217 ?_
    refine bw_iload_n (pc := 220) C 2 dX4_digest_220 rfl rfl ?_
    obtain ⟨qj12, j12, ej12, lj12, h⟩ := bw_ra_o h
    refine bw_aald (pc := 221) (q := 9) (ty := .array .byte) C ltC_9 shC_9 rfl rfl qj12 (id_txts ej12 lj12) dX4_digest_221 ?_
    refine bw_iload (pc := 222) C 3 dX4_digest_222 rfl ?_
    obtain ⟨qv13, v13, ev13, h⟩ := bw_rd_o h
    refine bw_bald (pc := 224) (q := (10 + j12)) C (ltC_txt lj12) (shC_txt lj12) qv13 ev13 dX4_digest_224 ?_
    refine bw_i2l (pc := 225) C dX4_digest_225 ?_
    refine bw_ladd (pc := 226) C dX4_digest_226 ?_
    obtain ⟨v14, ev14, h⟩ := bw_mv_o h
    refine bw_nmL ev14 ?_
    refine bw_lstore_n (pc := 227) (L' := [(1, .long v14), (0, .ref (ρ 0)), (3, .int x3), (4, .int x4)]) C dX4_digest_227 rfl (by decide) rfl ?_
    obtain ⟨v15, ev15, h⟩ := bw_mv_o h
    refine bw_iinc (pc := 228) (x := v15) (L' := [(4, .int v15), (1, .long v14), (0, .ref (ρ 0)), (3, .int x3)]) C 3 dX4_digest_228 rfl ev15.symm (by decide) rfl ?_
    refine bw_goto (pc := 231) C 200 dX4_digest_231 (by decide) ?_
    refine bw_pick [2, 1, 3, 0] rfl ?_
    exact hk200 (v14, v15) h
def flX4_digest_200 (N : Nat)  (k178 : Int64 × Int32 → Option (Int64)) (x3 : Int32) (M : bw_M) (fu : Nat) (w : Int64 × Int32) : Option (Int64) := bw_lp (fun kk w => fX4_digest_200 N k178 kk w.1 x3 w.2 M) fu w
theorem tlX4_digest_200 {p : Program} {l : Launch} {e : Env} {s : State} {m : MethodId} {args : Array Value} {below : List Frame} {meth : Method} {c : Code} {D : va_G} {kT : Nat → ClassId} {ρ : Nat → Nat} (C : bw_Cx p s m args meth c cX4_digest 5 RX4 45 D kT ρ (some .long)) (N : Nat)   (k178 : Int64 × Int32 → Option (Int64)) (x3 : Int32) (M : bw_M) (rr : Int64) (hk178 : ∀ z0, k178 z0 = some rr → bw_At p l e rmX4_digest s m args below meth c (MQ below (bw_QL bw_shC 45 D kT ρ rr M) args s 0 0 (bw_A ρ 45)) bw_shC 45 D kT ρ 5 178 [(0, .ref (ρ 0)), (1, .long z0.1), (3, .int z0.2)] [] M) (fu : Nat) (w : Int64 × Int32) (h : flX4_digest_200 N k178 x3 M fu w = some rr) : bw_At p l e rmX4_digest s m args below meth c (MQ below (bw_QL bw_shC 45 D kT ρ rr M) args s 0 0 (bw_A ρ 45)) bw_shC 45 D kT ρ 5 200 [(0, .ref (ρ 0)), (1, .long w.1), (3, .int x3), (4, .int w.2)] [] M :=
  bw_loop (r := rr) (fun w => bw_At p l e rmX4_digest s m args below meth c (MQ below (bw_QL bw_shC 45 D kT ρ rr M) args s 0 0 (bw_A ρ 45)) bw_shC 45 D kT ρ 5 200 [(0, .ref (ρ 0)), (1, .long w.1), (3, .int x3), (4, .int w.2)] [] M) (fun kk hk w h => tX4_digest_200 C N k178 kk w.1 x3 w.2 M rr hk178 hk h) fu w h
def fX4_digest_178 (N : Nat)  (k178 : Int64 × Int32 → Option (Int64)) (x1 : Int64) (x3 : Int32) (M : bw_M) : Option (Int64) :=
  if (4 : Int32) ≤ x3 then
  some x1
  else
  bw_rd M 14 4 x3 fun v7 =>
  bw_mv (((31 : Int64) * x1) + (Int32.toInt64 v7)) fun v8 =>
  bw_mv (0 : Int32) fun v9 =>
  flX4_digest_200 N k178 x3 M N (v8, v9)
theorem tX4_digest_178 {p : Program} {l : Launch} {e : Env} {s : State} {m : MethodId} {args : Array Value} {below : List Frame} {meth : Method} {c : Code} {D : va_G} {kT : Nat → ClassId} {ρ : Nat → Nat} (C : bw_Cx p s m args meth c cX4_digest 5 RX4 45 D kT ρ (some .long)) (N : Nat)   (k178 : Int64 × Int32 → Option (Int64)) (x1 : Int64) (x3 : Int32) (M : bw_M) (rr : Int64) (hk178 : ∀ z0, k178 z0 = some rr → bw_At p l e rmX4_digest s m args below meth c (MQ below (bw_QL bw_shC 45 D kT ρ rr M) args s 0 0 (bw_A ρ 45)) bw_shC 45 D kT ρ 5 178 [(0, .ref (ρ 0)), (1, .long z0.1), (3, .int z0.2)] [] M) (h : fX4_digest_178 N k178 x1 x3 M = some rr) : bw_At p l e rmX4_digest s m args below meth c (MQ below (bw_QL bw_shC 45 D kT ρ rr M) args s 0 0 (bw_A ρ 45)) bw_shC 45 D kT ρ 5 178 [(0, .ref (ρ 0)), (1, .long x1), (3, .int x3)] [] M := by
  unfold fX4_digest_178 at h
  refine bw_iload_n (pc := 178) C 2 dX4_digest_178 rfl rfl ?_
  refine bw_iconst (pc := 179) (v := (4 : Int32)) C dX4_digest_179 ic_4 ?_
  refine bw_icmp_ge (pc := 180) C 240 dX4_digest_180 (by decide) h (fun h => ?_) (fun h => ?_)
  · refine bw_lload_n (pc := 240) C 1 dX4_digest_240 rfl rfl ?_
    exact bw_lreti (pc := 241) C dX4_digest_241 (bw_pr M h)
  · refine bw_ldc2_w (pc := 183) C mw_603 dX4_digest_183 ?_
    refine bw_lload_n (pc := 186) C 1 dX4_digest_186 rfl rfl ?_
    refine bw_lmul (pc := 187) C dX4_digest_187 ?_
    refine bw_aload_n (pc := 188) C 0 dX4_digest_188 rfl rfl ?_
    refine bw_getR (pc := 189) (q := 0) (k0 := 3) C ltC_0 shC_0 rfl inX4 mw_126 (by decide) rfl dX4_digest_189 ?_
    refine bw_iload_n (pc := 192) C 2 dX4_digest_192 rfl rfl ?_
    obtain ⟨qv7, v7, ev7, h⟩ := bw_rd_o h
    refine bw_iald (pc := 193) (q := 14) C ltC_14 shC_14 qv7 ev7 dX4_digest_193 ?_
    refine bw_i2l (pc := 194) C dX4_digest_194 ?_
    refine bw_ladd (pc := 195) C dX4_digest_195 ?_
    obtain ⟨v8, ev8, h⟩ := bw_mv_o h
    refine bw_nmL ev8 ?_
    refine bw_lstore_n (pc := 196) (L' := [(1, .long v8), (0, .ref (ρ 0)), (3, .int x3)]) C dX4_digest_196 rfl (by decide) rfl ?_
    refine bw_iconst (pc := 197) (v := (0 : Int32)) C dX4_digest_197 ic_0 ?_
    obtain ⟨v9, ev9, h⟩ := bw_mv_o h
    refine bw_nmI ev9 ?_
    refine bw_istore (pc := 198) (L' := [(4, .int v9), (1, .long v8), (0, .ref (ρ 0)), (3, .int x3)]) C dX4_digest_198 (by decide) rfl ?_
    refine bw_pick [2, 1, 3, 0] rfl ?_
    exact tlX4_digest_200 C N k178 x3 M rr hk178 N (v8, v9) h
def flX4_digest_178 (N : Nat)    (M : bw_M) (fu : Nat) (w : Int64 × Int32) : Option (Int64) := bw_lp (fun kk w => fX4_digest_178 N kk w.1 w.2 M) fu w
theorem tlX4_digest_178 {p : Program} {l : Launch} {e : Env} {s : State} {m : MethodId} {args : Array Value} {below : List Frame} {meth : Method} {c : Code} {D : va_G} {kT : Nat → ClassId} {ρ : Nat → Nat} (C : bw_Cx p s m args meth c cX4_digest 5 RX4 45 D kT ρ (some .long)) (N : Nat)     (M : bw_M) (rr : Int64)  (fu : Nat) (w : Int64 × Int32) (h : flX4_digest_178 N M fu w = some rr) : bw_At p l e rmX4_digest s m args below meth c (MQ below (bw_QL bw_shC 45 D kT ρ rr M) args s 0 0 (bw_A ρ 45)) bw_shC 45 D kT ρ 5 178 [(0, .ref (ρ 0)), (1, .long w.1), (3, .int w.2)] [] M :=
  bw_loop (r := rr) (fun w => bw_At p l e rmX4_digest s m args below meth c (MQ below (bw_QL bw_shC 45 D kT ρ rr M) args s 0 0 (bw_A ρ 45)) bw_shC 45 D kT ρ 5 178 [(0, .ref (ρ 0)), (1, .long w.1), (3, .int w.2)] [] M) (fun kk hk w h => tX4_digest_178 C N kk w.1 w.2 M rr hk h) fu w h
def fX4_digest_136 (N : Nat)  (k113 : Int64 × Int32 → Option (Int64)) (k136 : Int64 × Int32 → Option (Int64)) (x1 : Int64) (x3 : Int32) (x4 : Int32) (M : bw_M) : Option (Int64) :=
  bw_rd M 8 6 x3 fun v19 =>
  if v19 ≤ x4 then
  bw_mv (x3 + 1) fun v20 =>
  k113 (x1, v20)
  else
  bw_ra 6 x3 fun j21 =>
  bw_rd M (2 + j21) 40 x4 fun v22 =>
  bw_mv (((31 : Int64) * x1) + (Int32.toInt64 v22)) fun v23 =>
  bw_mv (x4 + 1) fun v24 =>
  k136 (v23, v24)
theorem tX4_digest_136 {p : Program} {l : Launch} {e : Env} {s : State} {m : MethodId} {args : Array Value} {below : List Frame} {meth : Method} {c : Code} {D : va_G} {kT : Nat → ClassId} {ρ : Nat → Nat} (C : bw_Cx p s m args meth c cX4_digest 5 RX4 45 D kT ρ (some .long)) (N : Nat)   (k113 : Int64 × Int32 → Option (Int64)) (k136 : Int64 × Int32 → Option (Int64)) (x1 : Int64) (x3 : Int32) (x4 : Int32) (M : bw_M) (rr : Int64) (hk113 : ∀ z0, k113 z0 = some rr → bw_At p l e rmX4_digest s m args below meth c (MQ below (bw_QL bw_shC 45 D kT ρ rr M) args s 0 0 (bw_A ρ 45)) bw_shC 45 D kT ρ 5 113 [(0, .ref (ρ 0)), (1, .long z0.1), (3, .int z0.2)] [] M) (hk136 : ∀ z0, k136 z0 = some rr → bw_At p l e rmX4_digest s m args below meth c (MQ below (bw_QL bw_shC 45 D kT ρ rr M) args s 0 0 (bw_A ρ 45)) bw_shC 45 D kT ρ 5 136 [(0, .ref (ρ 0)), (1, .long z0.1), (3, .int x3), (4, .int z0.2)] [] M) (h : fX4_digest_136 N k113 k136 x1 x3 x4 M = some rr) : bw_At p l e rmX4_digest s m args below meth c (MQ below (bw_QL bw_shC 45 D kT ρ rr M) args s 0 0 (bw_A ρ 45)) bw_shC 45 D kT ρ 5 136 [(0, .ref (ρ 0)), (1, .long x1), (3, .int x3), (4, .int x4)] [] M := by
  unfold fX4_digest_136 at h
  refine bw_iload (pc := 136) C 3 dX4_digest_136 rfl ?_
  refine bw_aload_n (pc := 138) C 0 dX4_digest_138 rfl rfl ?_
  refine bw_getR (pc := 139) (q := 0) (k0 := 1) C ltC_0 shC_0 rfl inX4 mw_124 (by decide) rfl dX4_digest_139 ?_
  refine bw_iload_n (pc := 142) C 2 dX4_digest_142 rfl rfl ?_
  obtain ⟨qv19, v19, ev19, h⟩ := bw_rd_o h
  refine bw_iald (pc := 143) (q := 8) C ltC_8 shC_8 qv19 ev19 dX4_digest_143 ?_
  refine bw_icmp_ge (pc := 144) C 170 dX4_digest_144 (by decide) h (fun h => ?_) (fun h => ?_)
  · obtain ⟨v20, ev20, h⟩ := bw_mv_o h
    refine bw_iinc (pc := 170) (x := v20) (L' := [(3, .int v20), (0, .ref (ρ 0)), (1, .long x1), (4, .int x4)]) C 2 dX4_digest_170 rfl ev20.symm (by decide) rfl ?_
    refine bw_goto (pc := 173) C 113 dX4_digest_173 (by decide) ?_
    refine bw_pick [1, 2, 0] rfl ?_
    exact hk113 (x1, v20) h
  · refine bw_ldc2_w (pc := 147) C mw_603 dX4_digest_147 ?_
    refine bw_lload_n (pc := 150) C 1 dX4_digest_150 rfl rfl ?_
    refine bw_lmul (pc := 151) C dX4_digest_151 ?_
    refine bw_aload_n (pc := 152) C 0 dX4_digest_152 rfl rfl ?_
    refine bw_getR (pc := 153) (q := 0) (k0 := 0) C ltC_0 shC_0 rfl inX4 mw_123 (by decide) rfl dX4_digest_153 ?_
    refine bw_iload_n (pc := 156) C 2 dX4_digest_156 rfl rfl ?_
    obtain ⟨qj21, j21, ej21, lj21, h⟩ := bw_ra_o h
    refine bw_aald (pc := 157) (q := 1) (ty := .array .int) C ltC_1 shC_1 rfl rfl qj21 (id_rows ej21 lj21) dX4_digest_157 ?_
    refine bw_iload (pc := 158) C 3 dX4_digest_158 rfl ?_
    obtain ⟨qv22, v22, ev22, h⟩ := bw_rd_o h
    refine bw_iald (pc := 160) (q := (2 + j21)) C (ltC_row lj21) (shC_row lj21) qv22 ev22 dX4_digest_160 ?_
    refine bw_i2l (pc := 161) C dX4_digest_161 ?_
    refine bw_ladd (pc := 162) C dX4_digest_162 ?_
    obtain ⟨v23, ev23, h⟩ := bw_mv_o h
    refine bw_nmL ev23 ?_
    refine bw_lstore_n (pc := 163) (L' := [(1, .long v23), (0, .ref (ρ 0)), (3, .int x3), (4, .int x4)]) C dX4_digest_163 rfl (by decide) rfl ?_
    obtain ⟨v24, ev24, h⟩ := bw_mv_o h
    refine bw_iinc (pc := 164) (x := v24) (L' := [(4, .int v24), (1, .long v23), (0, .ref (ρ 0)), (3, .int x3)]) C 3 dX4_digest_164 rfl ev24.symm (by decide) rfl ?_
    refine bw_goto (pc := 167) C 136 dX4_digest_167 (by decide) ?_
    refine bw_pick [2, 1, 3, 0] rfl ?_
    exact hk136 (v23, v24) h
def flX4_digest_136 (N : Nat)  (k113 : Int64 × Int32 → Option (Int64)) (x3 : Int32) (M : bw_M) (fu : Nat) (w : Int64 × Int32) : Option (Int64) := bw_lp (fun kk w => fX4_digest_136 N k113 kk w.1 x3 w.2 M) fu w
theorem tlX4_digest_136 {p : Program} {l : Launch} {e : Env} {s : State} {m : MethodId} {args : Array Value} {below : List Frame} {meth : Method} {c : Code} {D : va_G} {kT : Nat → ClassId} {ρ : Nat → Nat} (C : bw_Cx p s m args meth c cX4_digest 5 RX4 45 D kT ρ (some .long)) (N : Nat)   (k113 : Int64 × Int32 → Option (Int64)) (x3 : Int32) (M : bw_M) (rr : Int64) (hk113 : ∀ z0, k113 z0 = some rr → bw_At p l e rmX4_digest s m args below meth c (MQ below (bw_QL bw_shC 45 D kT ρ rr M) args s 0 0 (bw_A ρ 45)) bw_shC 45 D kT ρ 5 113 [(0, .ref (ρ 0)), (1, .long z0.1), (3, .int z0.2)] [] M) (fu : Nat) (w : Int64 × Int32) (h : flX4_digest_136 N k113 x3 M fu w = some rr) : bw_At p l e rmX4_digest s m args below meth c (MQ below (bw_QL bw_shC 45 D kT ρ rr M) args s 0 0 (bw_A ρ 45)) bw_shC 45 D kT ρ 5 136 [(0, .ref (ρ 0)), (1, .long w.1), (3, .int x3), (4, .int w.2)] [] M :=
  bw_loop (r := rr) (fun w => bw_At p l e rmX4_digest s m args below meth c (MQ below (bw_QL bw_shC 45 D kT ρ rr M) args s 0 0 (bw_A ρ 45)) bw_shC 45 D kT ρ 5 136 [(0, .ref (ρ 0)), (1, .long w.1), (3, .int x3), (4, .int w.2)] [] M) (fun kk hk w h => tX4_digest_136 C N k113 kk w.1 x3 w.2 M rr hk113 hk h) fu w h
def fX4_digest_113 (N : Nat)  (k113 : Int64 × Int32 → Option (Int64)) (x1 : Int64) (x3 : Int32) (M : bw_M) : Option (Int64) :=
  if (6 : Int32) ≤ x3 then
  bw_mv (0 : Int32) fun v6 =>
  flX4_digest_178 N M N (x1, v6)
  else
  bw_rd M 8 6 x3 fun v16 =>
  bw_mv (((31 : Int64) * x1) + (Int32.toInt64 v16)) fun v17 =>
  bw_mv (0 : Int32) fun v18 =>
  flX4_digest_136 N k113 x3 M N (v17, v18)
theorem tX4_digest_113 {p : Program} {l : Launch} {e : Env} {s : State} {m : MethodId} {args : Array Value} {below : List Frame} {meth : Method} {c : Code} {D : va_G} {kT : Nat → ClassId} {ρ : Nat → Nat} (C : bw_Cx p s m args meth c cX4_digest 5 RX4 45 D kT ρ (some .long)) (N : Nat)   (k113 : Int64 × Int32 → Option (Int64)) (x1 : Int64) (x3 : Int32) (M : bw_M) (rr : Int64) (hk113 : ∀ z0, k113 z0 = some rr → bw_At p l e rmX4_digest s m args below meth c (MQ below (bw_QL bw_shC 45 D kT ρ rr M) args s 0 0 (bw_A ρ 45)) bw_shC 45 D kT ρ 5 113 [(0, .ref (ρ 0)), (1, .long z0.1), (3, .int z0.2)] [] M) (h : fX4_digest_113 N k113 x1 x3 M = some rr) : bw_At p l e rmX4_digest s m args below meth c (MQ below (bw_QL bw_shC 45 D kT ρ rr M) args s 0 0 (bw_A ρ 45)) bw_shC 45 D kT ρ 5 113 [(0, .ref (ρ 0)), (1, .long x1), (3, .int x3)] [] M := by
  unfold fX4_digest_113 at h
  refine bw_iload_n (pc := 113) C 2 dX4_digest_113 rfl rfl ?_
  refine bw_bipush (pc := 114) (v := (6 : Int32)) C dX4_digest_114 bi_6 ?_
  refine bw_icmp_ge (pc := 116) C 176 dX4_digest_116 (by decide) h (fun h => ?_) (fun h => ?_)
  · refine bw_iconst (pc := 176) (v := (0 : Int32)) C dX4_digest_176 ic_0 ?_
    obtain ⟨v6, ev6, h⟩ := bw_mv_o h
    refine bw_nmI ev6 ?_
    refine bw_istore_n (pc := 177) (L' := [(3, .int v6), (0, .ref (ρ 0)), (1, .long x1)]) C dX4_digest_177 rfl (by decide) rfl ?_
    refine bw_pick [1, 2, 0] rfl ?_
    exact tlX4_digest_178 C N M rr N (x1, v6) h
  · refine bw_ldc2_w (pc := 119) C mw_603 dX4_digest_119 ?_
    refine bw_lload_n (pc := 122) C 1 dX4_digest_122 rfl rfl ?_
    refine bw_lmul (pc := 123) C dX4_digest_123 ?_
    refine bw_aload_n (pc := 124) C 0 dX4_digest_124 rfl rfl ?_
    refine bw_getR (pc := 125) (q := 0) (k0 := 1) C ltC_0 shC_0 rfl inX4 mw_124 (by decide) rfl dX4_digest_125 ?_
    refine bw_iload_n (pc := 128) C 2 dX4_digest_128 rfl rfl ?_
    obtain ⟨qv16, v16, ev16, h⟩ := bw_rd_o h
    refine bw_iald (pc := 129) (q := 8) C ltC_8 shC_8 qv16 ev16 dX4_digest_129 ?_
    refine bw_i2l (pc := 130) C dX4_digest_130 ?_
    refine bw_ladd (pc := 131) C dX4_digest_131 ?_
    obtain ⟨v17, ev17, h⟩ := bw_mv_o h
    refine bw_nmL ev17 ?_
    refine bw_lstore_n (pc := 132) (L' := [(1, .long v17), (0, .ref (ρ 0)), (3, .int x3)]) C dX4_digest_132 rfl (by decide) rfl ?_
    refine bw_iconst (pc := 133) (v := (0 : Int32)) C dX4_digest_133 ic_0 ?_
    obtain ⟨v18, ev18, h⟩ := bw_mv_o h
    refine bw_nmI ev18 ?_
    refine bw_istore (pc := 134) (L' := [(4, .int v18), (1, .long v17), (0, .ref (ρ 0)), (3, .int x3)]) C dX4_digest_134 (by decide) rfl ?_
    refine bw_pick [2, 1, 3, 0] rfl ?_
    exact tlX4_digest_136 C N k113 x3 M rr hk113 N (v17, v18) h
def flX4_digest_113 (N : Nat)    (M : bw_M) (fu : Nat) (w : Int64 × Int32) : Option (Int64) := bw_lp (fun kk w => fX4_digest_113 N kk w.1 w.2 M) fu w
theorem tlX4_digest_113 {p : Program} {l : Launch} {e : Env} {s : State} {m : MethodId} {args : Array Value} {below : List Frame} {meth : Method} {c : Code} {D : va_G} {kT : Nat → ClassId} {ρ : Nat → Nat} (C : bw_Cx p s m args meth c cX4_digest 5 RX4 45 D kT ρ (some .long)) (N : Nat)     (M : bw_M) (rr : Int64)  (fu : Nat) (w : Int64 × Int32) (h : flX4_digest_113 N M fu w = some rr) : bw_At p l e rmX4_digest s m args below meth c (MQ below (bw_QL bw_shC 45 D kT ρ rr M) args s 0 0 (bw_A ρ 45)) bw_shC 45 D kT ρ 5 113 [(0, .ref (ρ 0)), (1, .long w.1), (3, .int w.2)] [] M :=
  bw_loop (r := rr) (fun w => bw_At p l e rmX4_digest s m args below meth c (MQ below (bw_QL bw_shC 45 D kT ρ rr M) args s 0 0 (bw_A ρ 45)) bw_shC 45 D kT ρ 5 113 [(0, .ref (ρ 0)), (1, .long w.1), (3, .int w.2)] [] M) (fun kk hk w h => tX4_digest_113 C N kk w.1 w.2 M rr hk h) fu w h
def fX4_digest_83 (N : Nat)  (k83 : Int64 × Int32 → Option (Int64)) (x1 : Int64) (x3 : Int32) (M : bw_M) : Option (Int64) :=
  if (3 : Int32) ≤ x3 then
  bw_mv (0 : Int32) fun v5 =>
  flX4_digest_113 N M N (x1, v5)
  else
  bw_ra 3 x3 fun j25 =>
  bw_mv (((31 : Int64) * x1) + (Int32.toInt64 (M.1 (32 + 3 * j25) 2))) fun v26 =>
  bw_mv (x3 + 1) fun v27 =>
  k83 (v26, v27)
theorem tX4_digest_83 {p : Program} {l : Launch} {e : Env} {s : State} {m : MethodId} {args : Array Value} {below : List Frame} {meth : Method} {c : Code} {D : va_G} {kT : Nat → ClassId} {ρ : Nat → Nat} (C : bw_Cx p s m args meth c cX4_digest 5 RX4 45 D kT ρ (some .long)) (N : Nat)   (k83 : Int64 × Int32 → Option (Int64)) (x1 : Int64) (x3 : Int32) (M : bw_M) (rr : Int64) (hk83 : ∀ z0, k83 z0 = some rr → bw_At p l e rmX4_digest s m args below meth c (MQ below (bw_QL bw_shC 45 D kT ρ rr M) args s 0 0 (bw_A ρ 45)) bw_shC 45 D kT ρ 5 83 [(0, .ref (ρ 0)), (1, .long z0.1), (3, .int z0.2)] [] M) (h : fX4_digest_83 N k83 x1 x3 M = some rr) : bw_At p l e rmX4_digest s m args below meth c (MQ below (bw_QL bw_shC 45 D kT ρ rr M) args s 0 0 (bw_A ρ 45)) bw_shC 45 D kT ρ 5 83 [(0, .ref (ρ 0)), (1, .long x1), (3, .int x3)] [] M := by
  unfold fX4_digest_83 at h
  refine bw_iload_n (pc := 83) C 2 dX4_digest_83 rfl rfl ?_
  refine bw_iconst (pc := 84) (v := (3 : Int32)) C dX4_digest_84 ic_3 ?_
  refine bw_icmp_ge (pc := 85) C 111 dX4_digest_85 (by decide) h (fun h => ?_) (fun h => ?_)
  · refine bw_iconst (pc := 111) (v := (0 : Int32)) C dX4_digest_111 ic_0 ?_
    obtain ⟨v5, ev5, h⟩ := bw_mv_o h
    refine bw_nmI ev5 ?_
    refine bw_istore_n (pc := 112) (L' := [(3, .int v5), (0, .ref (ρ 0)), (1, .long x1)]) C dX4_digest_112 rfl (by decide) rfl ?_
    refine bw_pick [1, 2, 0] rfl ?_
    exact tlX4_digest_113 C N M rr N (x1, v5) h
  · refine bw_ldc2_w (pc := 88) C mw_603 dX4_digest_88 ?_
    refine bw_lload_n (pc := 91) C 1 dX4_digest_91 rfl rfl ?_
    refine bw_lmul (pc := 92) C dX4_digest_92 ?_
    refine bw_aload_n (pc := 93) C 0 dX4_digest_93 rfl rfl ?_
    refine bw_getR (pc := 94) (q := 0) (k0 := 8) C ltC_0 shC_0 rfl inX4 mw_131 (by decide) rfl dX4_digest_94 ?_
    refine bw_iload_n (pc := 97) C 2 dX4_digest_97 rfl rfl ?_
    obtain ⟨qj25, j25, ej25, lj25, h⟩ := bw_ra_o h
    refine bw_aald (pc := 98) (q := 31) (ty := .object "BlowerBreath$Deeds") C ltC_31 shC_31 rfl rfl qj25 (id_kept ej25 lj25) dX4_digest_98 ?_
    refine bw_getI (pc := 99) (q := (32 + 3 * j25)) (k0 := 2) C (ltC_D (isD_k lj25)) (shC_D (isD_k lj25)) rfl inX0 mw_110 (by decide) rfl dX4_digest_99 ?_
    refine bw_i2l (pc := 102) C dX4_digest_102 ?_
    refine bw_ladd (pc := 103) C dX4_digest_103 ?_
    obtain ⟨v26, ev26, h⟩ := bw_mv_o h
    refine bw_nmL ev26 ?_
    refine bw_lstore_n (pc := 104) (L' := [(1, .long v26), (0, .ref (ρ 0)), (3, .int x3)]) C dX4_digest_104 rfl (by decide) rfl ?_
    obtain ⟨v27, ev27, h⟩ := bw_mv_o h
    refine bw_iinc (pc := 105) (x := v27) (L' := [(3, .int v27), (1, .long v26), (0, .ref (ρ 0))]) C 2 dX4_digest_105 rfl ev27.symm (by decide) rfl ?_
    refine bw_goto (pc := 108) C 83 dX4_digest_108 (by decide) ?_
    refine bw_pick [2, 1, 0] rfl ?_
    exact hk83 (v26, v27) h
def flX4_digest_83 (N : Nat)    (M : bw_M) (fu : Nat) (w : Int64 × Int32) : Option (Int64) := bw_lp (fun kk w => fX4_digest_83 N kk w.1 w.2 M) fu w
theorem tlX4_digest_83 {p : Program} {l : Launch} {e : Env} {s : State} {m : MethodId} {args : Array Value} {below : List Frame} {meth : Method} {c : Code} {D : va_G} {kT : Nat → ClassId} {ρ : Nat → Nat} (C : bw_Cx p s m args meth c cX4_digest 5 RX4 45 D kT ρ (some .long)) (N : Nat)     (M : bw_M) (rr : Int64)  (fu : Nat) (w : Int64 × Int32) (h : flX4_digest_83 N M fu w = some rr) : bw_At p l e rmX4_digest s m args below meth c (MQ below (bw_QL bw_shC 45 D kT ρ rr M) args s 0 0 (bw_A ρ 45)) bw_shC 45 D kT ρ 5 83 [(0, .ref (ρ 0)), (1, .long w.1), (3, .int w.2)] [] M :=
  bw_loop (r := rr) (fun w => bw_At p l e rmX4_digest s m args below meth c (MQ below (bw_QL bw_shC 45 D kT ρ rr M) args s 0 0 (bw_A ρ 45)) bw_shC 45 D kT ρ 5 83 [(0, .ref (ρ 0)), (1, .long w.1), (3, .int w.2)] [] M) (fun kk hk w h => tX4_digest_83 C N kk w.1 w.2 M rr hk h) fu w h
def fX4_digest_47 (N : Nat)  (k33 : Int64 × Int32 → Option (Int64)) (k47 : Int64 × Int32 → Option (Int64)) (x1 : Int64) (x3 : Int32) (x4 : Int32) (M : bw_M) : Option (Int64) :=
  if (8 : Int32) ≤ x4 then
  bw_mv (x3 + 1) fun v29 =>
  k33 (x1, v29)
  else
  bw_cl (fX4_pipeFact N x3 x4 M) fun v30 =>
  bw_mv (((31 : Int64) * x1) + (Int32.toInt64 v30)) fun v31 =>
  bw_mv (x4 + 1) fun v32 =>
  k47 (v31, v32)
theorem tX4_digest_47 {p : Program} {l : Launch} {e : Env} {s : State} {m : MethodId} {args : Array Value} {below : List Frame} {meth : Method} {c : Code} {D : va_G} {kT : Nat → ClassId} {ρ : Nat → Nat} (C : bw_Cx p s m args meth c cX4_digest 5 RX4 45 D kT ρ (some .long)) (N : Nat)   (k33 : Int64 × Int32 → Option (Int64)) (k47 : Int64 × Int32 → Option (Int64)) (x1 : Int64) (x3 : Int32) (x4 : Int32) (M : bw_M) (rr : Int64) (hk33 : ∀ z0, k33 z0 = some rr → bw_At p l e rmX4_digest s m args below meth c (MQ below (bw_QL bw_shC 45 D kT ρ rr M) args s 0 0 (bw_A ρ 45)) bw_shC 45 D kT ρ 5 33 [(0, .ref (ρ 0)), (1, .long z0.1), (3, .int z0.2)] [] M) (hk47 : ∀ z0, k47 z0 = some rr → bw_At p l e rmX4_digest s m args below meth c (MQ below (bw_QL bw_shC 45 D kT ρ rr M) args s 0 0 (bw_A ρ 45)) bw_shC 45 D kT ρ 5 47 [(0, .ref (ρ 0)), (1, .long z0.1), (3, .int x3), (4, .int z0.2)] [] M) (h : fX4_digest_47 N k33 k47 x1 x3 x4 M = some rr) : bw_At p l e rmX4_digest s m args below meth c (MQ below (bw_QL bw_shC 45 D kT ρ rr M) args s 0 0 (bw_A ρ 45)) bw_shC 45 D kT ρ 5 47 [(0, .ref (ρ 0)), (1, .long x1), (3, .int x3), (4, .int x4)] [] M := by
  unfold fX4_digest_47 at h
  refine bw_iload (pc := 47) C 3 dX4_digest_47 rfl ?_
  refine bw_bipush (pc := 49) (v := (8 : Int32)) C dX4_digest_49 bi_8 ?_
  refine bw_icmp_ge (pc := 51) C 75 dX4_digest_51 (by decide) h (fun h => ?_) (fun h => ?_)
  · obtain ⟨v29, ev29, h⟩ := bw_mv_o h
    refine bw_iinc (pc := 75) (x := v29) (L' := [(3, .int v29), (0, .ref (ρ 0)), (1, .long x1), (4, .int x4)]) C 2 dX4_digest_75 rfl ev29.symm (by decide) rfl ?_
    refine bw_goto (pc := 78) C 33 dX4_digest_78 (by decide) ?_
    refine bw_pick [1, 2, 0] rfl ?_
    exact hk33 (x1, v29) h
  · refine bw_ldc2_w (pc := 54) C mw_603 dX4_digest_54 ?_
    refine bw_lload_n (pc := 57) C 1 dX4_digest_57 rfl rfl ?_
    refine bw_lmul (pc := 58) C dX4_digest_58 ?_
    refine bw_aload_n (pc := 59) C 0 dX4_digest_59 rfl rfl ?_
    refine bw_iload_n (pc := 60) C 2 dX4_digest_60 rfl rfl ?_
    refine bw_iload (pc := 61) C 3 dX4_digest_61 rfl ?_
    obtain ⟨v30, ev30, h⟩ := bw_cl_o h
    refine bw_cVi (pc := 63) (q := 0) (As := [.int x3, .int x4]) (rest := [.long ((31 : Int64) * x1)]) C (tX4_pipeFact l N x3 x4 M v30 ev30) msX4_pipeFact mw_294 rfl rfl ⟨Nat.le_of_ble_eq_true rfl, Nat.le_of_ble_eq_true rfl⟩ ltC_0 shC_0 rfl rfl rfl rfl (Nat.le_of_ble_eq_true rfl) dX4_digest_63 ?_
    refine bw_i2l (pc := 66) C dX4_digest_66 ?_
    refine bw_ladd (pc := 67) C dX4_digest_67 ?_
    obtain ⟨v31, ev31, h⟩ := bw_mv_o h
    refine bw_nmL ev31 ?_
    refine bw_lstore_n (pc := 68) (L' := [(1, .long v31), (0, .ref (ρ 0)), (3, .int x3), (4, .int x4)]) C dX4_digest_68 rfl (by decide) rfl ?_
    obtain ⟨v32, ev32, h⟩ := bw_mv_o h
    refine bw_iinc (pc := 69) (x := v32) (L' := [(4, .int v32), (1, .long v31), (0, .ref (ρ 0)), (3, .int x3)]) C 3 dX4_digest_69 rfl ev32.symm (by decide) rfl ?_
    refine bw_goto (pc := 72) C 47 dX4_digest_72 (by decide) ?_
    refine bw_pick [2, 1, 3, 0] rfl ?_
    exact hk47 (v31, v32) h
def flX4_digest_47 (N : Nat)  (k33 : Int64 × Int32 → Option (Int64)) (x3 : Int32) (M : bw_M) (fu : Nat) (w : Int64 × Int32) : Option (Int64) := bw_lp (fun kk w => fX4_digest_47 N k33 kk w.1 x3 w.2 M) fu w
theorem tlX4_digest_47 {p : Program} {l : Launch} {e : Env} {s : State} {m : MethodId} {args : Array Value} {below : List Frame} {meth : Method} {c : Code} {D : va_G} {kT : Nat → ClassId} {ρ : Nat → Nat} (C : bw_Cx p s m args meth c cX4_digest 5 RX4 45 D kT ρ (some .long)) (N : Nat)   (k33 : Int64 × Int32 → Option (Int64)) (x3 : Int32) (M : bw_M) (rr : Int64) (hk33 : ∀ z0, k33 z0 = some rr → bw_At p l e rmX4_digest s m args below meth c (MQ below (bw_QL bw_shC 45 D kT ρ rr M) args s 0 0 (bw_A ρ 45)) bw_shC 45 D kT ρ 5 33 [(0, .ref (ρ 0)), (1, .long z0.1), (3, .int z0.2)] [] M) (fu : Nat) (w : Int64 × Int32) (h : flX4_digest_47 N k33 x3 M fu w = some rr) : bw_At p l e rmX4_digest s m args below meth c (MQ below (bw_QL bw_shC 45 D kT ρ rr M) args s 0 0 (bw_A ρ 45)) bw_shC 45 D kT ρ 5 47 [(0, .ref (ρ 0)), (1, .long w.1), (3, .int x3), (4, .int w.2)] [] M :=
  bw_loop (r := rr) (fun w => bw_At p l e rmX4_digest s m args below meth c (MQ below (bw_QL bw_shC 45 D kT ρ rr M) args s 0 0 (bw_A ρ 45)) bw_shC 45 D kT ρ 5 47 [(0, .ref (ρ 0)), (1, .long w.1), (3, .int x3), (4, .int w.2)] [] M) (fun kk hk w h => tX4_digest_47 C N k33 kk w.1 x3 w.2 M rr hk33 hk h) fu w h
def fX4_digest_33 (N : Nat)  (k33 : Int64 × Int32 → Option (Int64)) (x1 : Int64) (x3 : Int32) (M : bw_M) : Option (Int64) :=
  if (M.1 16 0) ≤ x3 then
  bw_mv (0 : Int32) fun v4 =>
  flX4_digest_83 N M N (x1, v4)
  else
  bw_mv (0 : Int32) fun v28 =>
  flX4_digest_47 N k33 x3 M N (x1, v28)
theorem tX4_digest_33 {p : Program} {l : Launch} {e : Env} {s : State} {m : MethodId} {args : Array Value} {below : List Frame} {meth : Method} {c : Code} {D : va_G} {kT : Nat → ClassId} {ρ : Nat → Nat} (C : bw_Cx p s m args meth c cX4_digest 5 RX4 45 D kT ρ (some .long)) (N : Nat)   (k33 : Int64 × Int32 → Option (Int64)) (x1 : Int64) (x3 : Int32) (M : bw_M) (rr : Int64) (hk33 : ∀ z0, k33 z0 = some rr → bw_At p l e rmX4_digest s m args below meth c (MQ below (bw_QL bw_shC 45 D kT ρ rr M) args s 0 0 (bw_A ρ 45)) bw_shC 45 D kT ρ 5 33 [(0, .ref (ρ 0)), (1, .long z0.1), (3, .int z0.2)] [] M) (h : fX4_digest_33 N k33 x1 x3 M = some rr) : bw_At p l e rmX4_digest s m args below meth c (MQ below (bw_QL bw_shC 45 D kT ρ rr M) args s 0 0 (bw_A ρ 45)) bw_shC 45 D kT ρ 5 33 [(0, .ref (ρ 0)), (1, .long x1), (3, .int x3)] [] M := by
  unfold fX4_digest_33 at h
  refine bw_iload_n (pc := 33) C 2 dX4_digest_33 rfl rfl ?_
  refine bw_aload_n (pc := 34) C 0 dX4_digest_34 rfl rfl ?_
  refine bw_getR (pc := 35) (q := 0) (k0 := 5) C ltC_0 shC_0 rfl inX4 mw_128 (by decide) rfl dX4_digest_35 ?_
  refine bw_getI (pc := 38) (q := 16) (k0 := 0) C ltC_16 shC_16 rfl inX3 mw_49 (by decide) rfl dX4_digest_38 ?_
  refine bw_icmp_ge (pc := 41) C 81 dX4_digest_41 (by decide) h (fun h => ?_) (fun h => ?_)
  · refine bw_iconst (pc := 81) (v := (0 : Int32)) C dX4_digest_81 ic_0 ?_
    obtain ⟨v4, ev4, h⟩ := bw_mv_o h
    refine bw_nmI ev4 ?_
    refine bw_istore_n (pc := 82) (L' := [(3, .int v4), (0, .ref (ρ 0)), (1, .long x1)]) C dX4_digest_82 rfl (by decide) rfl ?_
    refine bw_pick [1, 2, 0] rfl ?_
    exact tlX4_digest_83 C N M rr N (x1, v4) h
  · refine bw_iconst (pc := 44) (v := (0 : Int32)) C dX4_digest_44 ic_0 ?_
    obtain ⟨v28, ev28, h⟩ := bw_mv_o h
    refine bw_nmI ev28 ?_
    refine bw_istore (pc := 45) (L' := [(4, .int v28), (0, .ref (ρ 0)), (1, .long x1), (3, .int x3)]) C dX4_digest_45 (by decide) rfl ?_
    refine bw_pick [1, 2, 3, 0] rfl ?_
    exact tlX4_digest_47 C N k33 x3 M rr hk33 N (x1, v28) h
def flX4_digest_33 (N : Nat)    (M : bw_M) (fu : Nat) (w : Int64 × Int32) : Option (Int64) := bw_lp (fun kk w => fX4_digest_33 N kk w.1 w.2 M) fu w
theorem tlX4_digest_33 {p : Program} {l : Launch} {e : Env} {s : State} {m : MethodId} {args : Array Value} {below : List Frame} {meth : Method} {c : Code} {D : va_G} {kT : Nat → ClassId} {ρ : Nat → Nat} (C : bw_Cx p s m args meth c cX4_digest 5 RX4 45 D kT ρ (some .long)) (N : Nat)     (M : bw_M) (rr : Int64)  (fu : Nat) (w : Int64 × Int32) (h : flX4_digest_33 N M fu w = some rr) : bw_At p l e rmX4_digest s m args below meth c (MQ below (bw_QL bw_shC 45 D kT ρ rr M) args s 0 0 (bw_A ρ 45)) bw_shC 45 D kT ρ 5 33 [(0, .ref (ρ 0)), (1, .long w.1), (3, .int w.2)] [] M :=
  bw_loop (r := rr) (fun w => bw_At p l e rmX4_digest s m args below meth c (MQ below (bw_QL bw_shC 45 D kT ρ rr M) args s 0 0 (bw_A ρ 45)) bw_shC 45 D kT ρ 5 33 [(0, .ref (ρ 0)), (1, .long w.1), (3, .int w.2)] [] M) (fun kk hk w h => tX4_digest_33 C N kk w.1 w.2 M rr hk h) fu w h
def fX4_digest_6 (N : Nat)  (k6 : Int64 × Int32 → Option (Int64)) (x1 : Int64) (x3 : Int32) (M : bw_M) : Option (Int64) :=
  if (14 : Int32) ≤ x3 then
  bw_mv (0 : Int32) fun v3 =>
  flX4_digest_33 N M N (x1, v3)
  else
  bw_cl (fX4_count N x3 M) fun v33 =>
  bw_mv (((31 : Int64) * x1) + (Int32.toInt64 v33)) fun v34 =>
  bw_mv (x3 + 1) fun v35 =>
  k6 (v34, v35)
theorem tX4_digest_6 {p : Program} {l : Launch} {e : Env} {s : State} {m : MethodId} {args : Array Value} {below : List Frame} {meth : Method} {c : Code} {D : va_G} {kT : Nat → ClassId} {ρ : Nat → Nat} (C : bw_Cx p s m args meth c cX4_digest 5 RX4 45 D kT ρ (some .long)) (N : Nat)   (k6 : Int64 × Int32 → Option (Int64)) (x1 : Int64) (x3 : Int32) (M : bw_M) (rr : Int64) (hk6 : ∀ z0, k6 z0 = some rr → bw_At p l e rmX4_digest s m args below meth c (MQ below (bw_QL bw_shC 45 D kT ρ rr M) args s 0 0 (bw_A ρ 45)) bw_shC 45 D kT ρ 5 6 [(0, .ref (ρ 0)), (1, .long z0.1), (3, .int z0.2)] [] M) (h : fX4_digest_6 N k6 x1 x3 M = some rr) : bw_At p l e rmX4_digest s m args below meth c (MQ below (bw_QL bw_shC 45 D kT ρ rr M) args s 0 0 (bw_A ρ 45)) bw_shC 45 D kT ρ 5 6 [(0, .ref (ρ 0)), (1, .long x1), (3, .int x3)] [] M := by
  unfold fX4_digest_6 at h
  refine bw_iload_n (pc := 6) C 2 dX4_digest_6 rfl rfl ?_
  refine bw_bipush (pc := 7) (v := (14 : Int32)) C dX4_digest_7 bi_14 ?_
  refine bw_icmp_ge (pc := 9) C 31 dX4_digest_9 (by decide) h (fun h => ?_) (fun h => ?_)
  · refine bw_iconst (pc := 31) (v := (0 : Int32)) C dX4_digest_31 ic_0 ?_
    obtain ⟨v3, ev3, h⟩ := bw_mv_o h
    refine bw_nmI ev3 ?_
    refine bw_istore_n (pc := 32) (L' := [(3, .int v3), (0, .ref (ρ 0)), (1, .long x1)]) C dX4_digest_32 rfl (by decide) rfl ?_
    refine bw_pick [1, 2, 0] rfl ?_
    exact tlX4_digest_33 C N M rr N (x1, v3) h
  · refine bw_ldc2_w (pc := 12) C mw_603 dX4_digest_12 ?_
    refine bw_lload_n (pc := 15) C 1 dX4_digest_15 rfl rfl ?_
    refine bw_lmul (pc := 16) C dX4_digest_16 ?_
    refine bw_aload_n (pc := 17) C 0 dX4_digest_17 rfl rfl ?_
    refine bw_iload_n (pc := 18) C 2 dX4_digest_18 rfl rfl ?_
    obtain ⟨v33, ev33, h⟩ := bw_cl_o h
    refine bw_cVi (pc := 19) (q := 0) (As := [.int x3]) (rest := [.long ((31 : Int64) * x1)]) C (tX4_count l N x3 M v33 ev33) msX4_count mw_604 rfl rfl ⟨Nat.le_of_ble_eq_true rfl, Nat.le_of_ble_eq_true rfl⟩ ltC_0 shC_0 rfl rfl rfl rfl (Nat.le_of_ble_eq_true rfl) dX4_digest_19 ?_
    refine bw_i2l (pc := 22) C dX4_digest_22 ?_
    refine bw_ladd (pc := 23) C dX4_digest_23 ?_
    obtain ⟨v34, ev34, h⟩ := bw_mv_o h
    refine bw_nmL ev34 ?_
    refine bw_lstore_n (pc := 24) (L' := [(1, .long v34), (0, .ref (ρ 0)), (3, .int x3)]) C dX4_digest_24 rfl (by decide) rfl ?_
    obtain ⟨v35, ev35, h⟩ := bw_mv_o h
    refine bw_iinc (pc := 25) (x := v35) (L' := [(3, .int v35), (1, .long v34), (0, .ref (ρ 0))]) C 2 dX4_digest_25 rfl ev35.symm (by decide) rfl ?_
    refine bw_goto (pc := 28) C 6 dX4_digest_28 (by decide) ?_
    refine bw_pick [2, 1, 0] rfl ?_
    exact hk6 (v34, v35) h
def flX4_digest_6 (N : Nat)    (M : bw_M) (fu : Nat) (w : Int64 × Int32) : Option (Int64) := bw_lp (fun kk w => fX4_digest_6 N kk w.1 w.2 M) fu w
theorem tlX4_digest_6 {p : Program} {l : Launch} {e : Env} {s : State} {m : MethodId} {args : Array Value} {below : List Frame} {meth : Method} {c : Code} {D : va_G} {kT : Nat → ClassId} {ρ : Nat → Nat} (C : bw_Cx p s m args meth c cX4_digest 5 RX4 45 D kT ρ (some .long)) (N : Nat)     (M : bw_M) (rr : Int64)  (fu : Nat) (w : Int64 × Int32) (h : flX4_digest_6 N M fu w = some rr) : bw_At p l e rmX4_digest s m args below meth c (MQ below (bw_QL bw_shC 45 D kT ρ rr M) args s 0 0 (bw_A ρ 45)) bw_shC 45 D kT ρ 5 6 [(0, .ref (ρ 0)), (1, .long w.1), (3, .int w.2)] [] M :=
  bw_loop (r := rr) (fun w => bw_At p l e rmX4_digest s m args below meth c (MQ below (bw_QL bw_shC 45 D kT ρ rr M) args s 0 0 (bw_A ρ 45)) bw_shC 45 D kT ρ 5 6 [(0, .ref (ρ 0)), (1, .long w.1), (3, .int w.2)] [] M) (fun kk hk w h => tX4_digest_6 C N kk w.1 w.2 M rr hk h) fu w h
def fX4_digest (N : Nat)  (M : bw_M) : Option (Int64) :=
  bw_mv (17 : Int64) fun v1 =>
  bw_mv (0 : Int32) fun v2 =>
  flX4_digest_6 N M N (v1, v2)
theorem tX4_digest (l : Launch) (N : Nat)   (M : bw_M) (rr : Int64) (h : fX4_digest N M = some rr) : bw_CL l bw_shC 45 yX4_digest cX4_digest 5 (some .long) rmX4_digest (fun ρ => [.ref (ρ 0)]) M rr M := by
  refine bw_inL (Lf := fun ρ => [(0, .ref (ρ 0))]) cX4_digest 5 (some .long) RX4 pn_X4 rfl (fun ρ => Nat.le_of_ble_eq_true rfl) (fun ρ => rfl) ?_
  intro p e s m args below meth c D kT ρ C
  unfold fX4_digest at h
  refine bw_ldc2_w (pc := 0) C mw_602 dX4_digest_0 ?_
  obtain ⟨v1, ev1, h⟩ := bw_mv_o h
  refine bw_nmL ev1 ?_
  refine bw_lstore_n (pc := 3) (L' := [(1, .long v1), (0, .ref (ρ 0))]) C dX4_digest_3 rfl (by decide) rfl ?_
  refine bw_iconst (pc := 4) (v := (0 : Int32)) C dX4_digest_4 ic_0 ?_
  obtain ⟨v2, ev2, h⟩ := bw_mv_o h
  refine bw_nmI ev2 ?_
  refine bw_istore_n (pc := 5) (L' := [(3, .int v2), (1, .long v1), (0, .ref (ρ 0))]) C dX4_digest_5 rfl (by decide) rfl ?_
  refine bw_pick [2, 1, 0] rfl ?_
  exact tlX4_digest_6 C N M rr N (v1, v2) h
/-! X4_spokenIfCut -/
abbrev rmX4_spokenIfCut : Room := { frames := 4, cells := 0, slots := 0, locals := 88 }
theorem msX4_spokenIfCut : bw_MV yX4_spokenIfCut cX4_spokenIfCut 2 (some .int) RX4 1 := ⟨mw_442, mw_1079, mw_1, mw_443, by decide +kernel⟩
def fX4_spokenIfCut (N : Nat) (x1 : Int32) (M : bw_M) : Option (Int32 × bw_M) :=
  bw_cl (fX3_become N 22 16 M) fun M1 =>
  bw_mv (bw_pI M1 22 6 x1) fun M2 =>
  bw_c2 (fX3_blow N 22 M2) fun v3 M4 =>
  some (v3, M4)
theorem tX4_spokenIfCut (l : Launch) (N : Nat) (x1 : Int32)  (M : bw_M) (rr : Int32) (zz : bw_M) (h : fX4_spokenIfCut N x1 M = some (rr, zz)) : bw_CI l bw_shC 45 yX4_spokenIfCut cX4_spokenIfCut 2 (some .int) rmX4_spokenIfCut (fun ρ => [.ref (ρ 0), .int x1]) M rr zz := by
  refine bw_inI (Lf := fun ρ => [(0, .ref (ρ 0)), (1, .int x1)]) cX4_spokenIfCut 2 (some .int) RX4 pn_X4 rfl (fun ρ => Nat.le_of_ble_eq_true rfl) (fun ρ => rfl) ?_
  intro p e s m args below meth c D kT ρ C
  unfold fX4_spokenIfCut at h
  refine bw_aload_n (pc := 0) C 0 dX4_spokenIfCut_0 rfl rfl ?_
  refine bw_getR (pc := 1) (q := 0) (k0 := 6) C ltC_0 shC_0 rfl inX4 mw_129 (by decide) rfl dX4_spokenIfCut_1 ?_
  refine bw_aload_n (pc := 4) C 0 dX4_spokenIfCut_4 rfl rfl ?_
  refine bw_getR (pc := 5) (q := 0) (k0 := 5) C ltC_0 shC_0 rfl inX4 mw_128 (by decide) rfl dX4_spokenIfCut_5 ?_
  obtain ⟨M1, eM1, h⟩ := bw_cl_o h
  refine bw_cVv (pc := 8) (q := 22) (As := [.ref (ρ 16)]) (rest := []) C (tX3_become l N 22 16 isT_22 isT_16 M M1 eM1) msX3_become mw_282 rfl rfl ⟨Nat.le_of_ble_eq_true rfl, Nat.le_of_ble_eq_true rfl⟩ ltC_22 shC_22 rfl rfl rfl rfl (Nat.le_of_ble_eq_true rfl) dX4_spokenIfCut_8 ?_
  refine bw_aload_n (pc := 11) C 0 dX4_spokenIfCut_11 rfl rfl ?_
  refine bw_getR (pc := 12) (q := 0) (k0 := 6) C ltC_0 shC_0 rfl inX4 mw_129 (by decide) rfl dX4_spokenIfCut_12 ?_
  refine bw_iload_n (pc := 15) C 1 dX4_spokenIfCut_15 rfl rfl ?_
  obtain ⟨M2, eM2, h⟩ := bw_mv_o h
  refine bw_putI (pc := 16) (q := 22) (k0 := 6) C ltC_22 shC_22 rfl inX3 mw_59 (by decide) tyX3 tyX3_ok nmX3 rfl rfl rfl eM2 rfl rfl dX4_spokenIfCut_16 ?_
  refine bw_aload_n (pc := 19) C 0 dX4_spokenIfCut_19 rfl rfl ?_
  refine bw_getR (pc := 20) (q := 0) (k0 := 6) C ltC_0 shC_0 rfl inX4 mw_129 (by decide) rfl dX4_spokenIfCut_20 ?_
  obtain ⟨v3, M4, ev3, h⟩ := bw_c2_o h
  refine bw_cVi (pc := 23) (q := 22) (As := []) (rest := []) C (tX3_blow l N 22 isT_22 M2 v3 M4 ev3) msX3_blow mw_417 rfl rfl ⟨Nat.le_of_ble_eq_true rfl, Nat.le_of_ble_eq_true rfl⟩ ltC_22 shC_22 rfl rfl rfl rfl (Nat.le_of_ble_eq_true rfl) dX4_spokenIfCut_23 ?_
  exact bw_ireti (pc := 26) C dX4_spokenIfCut_26 h
/-! X4_evenBeyondUneven -/
abbrev rmX4_evenBeyondUneven : Room := { frames := 1, cells := 0, slots := 0, locals := 20 }
theorem msX4_evenBeyondUneven : bw_MS yX4_evenBeyondUneven cX4_evenBeyondUneven 1 (some .int) 1 := ⟨mw_526, mw_1, mw_527, by decide +kernel⟩
def fX4_evenBeyondUneven (x0 : Int32)  : Option (Int32) :=
  bw_cl (fJ6_bitCount_0f7a4 (x0 &&& (21 : Int32))) fun v1 =>
  bw_cl (fJ6_bitCount_0f7a4 (x0 &&& (42 : Int32))) fun v2 =>
  some (v1 - v2)
theorem tX4_evenBeyondUneven (l : Launch) (x0 : Int32)  (M : bw_M) (rr : Int32) (h : fX4_evenBeyondUneven x0 = some rr) : bw_CI l bw_shC 45 yX4_evenBeyondUneven cX4_evenBeyondUneven 1 (some .int) rmX4_evenBeyondUneven (fun ρ => [.int x0]) M rr M := by
  refine bw_inI (Lf := fun ρ => [(0, .int x0)]) cX4_evenBeyondUneven 1 (some .int) RX4 pn_X4 rfl (fun ρ => Nat.le_of_ble_eq_true rfl) (fun ρ => rfl) ?_
  intro p e s m args below meth c D kT ρ C
  unfold fX4_evenBeyondUneven at h
  refine bw_iload_n (pc := 0) C 0 dX4_evenBeyondUneven_0 rfl rfl ?_
  refine bw_bipush (pc := 1) (v := (21 : Int32)) C dX4_evenBeyondUneven_1 bi_21 ?_
  refine bw_iand (pc := 3) C dX4_evenBeyondUneven_3 ?_
  obtain ⟨v1, ev1, h⟩ := bw_cl_o h
  refine bw_cSi (pc := 4) (As := [.int (x0 &&& (21 : Int32))]) (rest := []) C (tJ6_bitCount_0f7a4 l (x0 &&& (21 : Int32)) M v1 ev1) msJ6_bitCount_0f7a4 mw_434 rfl rfl ⟨Nat.le_of_ble_eq_true rfl, Nat.le_of_ble_eq_true rfl⟩ rfl rfl rfl (Nat.le_of_ble_eq_true rfl) dX4_evenBeyondUneven_4 ?_
  refine bw_iload_n (pc := 7) C 0 dX4_evenBeyondUneven_7 rfl rfl ?_
  refine bw_bipush (pc := 8) (v := (42 : Int32)) C dX4_evenBeyondUneven_8 bi_42 ?_
  refine bw_iand (pc := 10) C dX4_evenBeyondUneven_10 ?_
  obtain ⟨v2, ev2, h⟩ := bw_cl_o h
  refine bw_cSi (pc := 11) (As := [.int (x0 &&& (42 : Int32))]) (rest := [.int v1]) C (tJ6_bitCount_0f7a4 l (x0 &&& (42 : Int32)) M v2 ev2) msJ6_bitCount_0f7a4 mw_434 rfl rfl ⟨Nat.le_of_ble_eq_true rfl, Nat.le_of_ble_eq_true rfl⟩ rfl rfl rfl (Nat.le_of_ble_eq_true rfl) dX4_evenBeyondUneven_11 ?_
  refine bw_isub (pc := 14) C dX4_evenBeyondUneven_14 ?_
  exact bw_ireti (pc := 15) C dX4_evenBeyondUneven_15 (bw_pr M h)
/-! X4_duel -/
abbrev rmX4_duel : Room := { frames := 5, cells := 0, slots := 0, locals := 109 }
theorem msX4_duel : bw_MV yX4_duel cX4_duel 5 (some .int) RX4 1 := ⟨mw_522, mw_523, mw_1, mw_524, by decide +kernel⟩
def fX4_duel_9 (N : Nat) (x1 : Int32)   (M : bw_M) : Option (Int32 × bw_M) :=
  some ((-1 : Int32), M)
theorem tX4_duel_9 {p : Program} {l : Launch} {e : Env} {s : State} {m : MethodId} {args : Array Value} {below : List Frame} {meth : Method} {c : Code} {D : va_G} {kT : Nat → ClassId} {ρ : Nat → Nat} (C : bw_Cx p s m args meth c cX4_duel 5 RX4 45 D kT ρ (some .int)) (N : Nat) (x1 : Int32)    (M : bw_M) (rr : Int32) (zz : bw_M)  (h : fX4_duel_9 N x1 M = some (rr, zz)) : bw_At p l e rmX4_duel s m args below meth c (MQ below (bw_QI bw_shC 45 D kT ρ rr zz) args s 0 0 (bw_A ρ 45)) bw_shC 45 D kT ρ 5 9 [(0, .ref (ρ 0)), (1, .int x1)] [] M := by
  unfold fX4_duel_9 at h
  refine bw_iconst (pc := 9) (v := (-1 : Int32)) C dX4_duel_9 ic_m1 ?_
  exact bw_ireti (pc := 10) C dX4_duel_10 h
def fX4_duel_100 (N : Nat) (x1 : Int32) (k67 : Int32 × bw_M → Option (Int32 × bw_M)) (k74 : Int32 × bw_M → Option (Int32 × bw_M)) (x2 : Int32) (x3 : Int32) (x4 : Int32) (s1 : Int32) (s3 : Int32) (s4 : Int32) (M : bw_M) : Option (Int32 × bw_M) :=
  bw_cl (fX4_bestGain N s3 s4 M) fun v11 =>
  bw_wr M 43 64 s1 v11 fun M12 =>
  bw_mv (x4 + 1) fun v13 =>
  k74 (v13, M12)
theorem tX4_duel_100 {p : Program} {l : Launch} {e : Env} {s : State} {m : MethodId} {args : Array Value} {below : List Frame} {meth : Method} {c : Code} {D : va_G} {kT : Nat → ClassId} {ρ : Nat → Nat} (C : bw_Cx p s m args meth c cX4_duel 5 RX4 45 D kT ρ (some .int)) (N : Nat) (x1 : Int32)  (k67 : Int32 × bw_M → Option (Int32 × bw_M)) (k74 : Int32 × bw_M → Option (Int32 × bw_M)) (x2 : Int32) (x3 : Int32) (x4 : Int32) (s1 : Int32) (s3 : Int32) (s4 : Int32) (M : bw_M) (rr : Int32) (zz : bw_M) (hk67 : ∀ z0, k67 z0 = some (rr, zz) → bw_At p l e rmX4_duel s m args below meth c (MQ below (bw_QI bw_shC 45 D kT ρ rr zz) args s 0 0 (bw_A ρ 45)) bw_shC 45 D kT ρ 5 67 [(0, .ref (ρ 0)), (1, .int x1), (2, .int x2), (3, .int z0.1)] [] z0.2) (hk74 : ∀ z0, k74 z0 = some (rr, zz) → bw_At p l e rmX4_duel s m args below meth c (MQ below (bw_QI bw_shC 45 D kT ρ rr zz) args s 0 0 (bw_A ρ 45)) bw_shC 45 D kT ρ 5 74 [(0, .ref (ρ 0)), (1, .int x1), (2, .int x2), (3, .int x3), (4, .int z0.1)] [] z0.2) (h : fX4_duel_100 N x1 k67 k74 x2 x3 x4 s1 s3 s4 M = some (rr, zz)) : bw_At p l e rmX4_duel s m args below meth c (MQ below (bw_QI bw_shC 45 D kT ρ rr zz) args s 0 0 (bw_A ρ 45)) bw_shC 45 D kT ρ 5 100 [(0, .ref (ρ 0)), (1, .int x1), (2, .int x2), (3, .int x3), (4, .int x4)] [.int s4, .int s3, .ref (ρ 0), .int s1, .ref (ρ 43)] M := by
  unfold fX4_duel_100 at h
  obtain ⟨v11, ev11, h⟩ := bw_cl_o h
  refine bw_cVi (pc := 100) (q := 0) (As := [.int s3, .int s4]) (rest := [.int s1, .ref (ρ 43)]) C (tX4_bestGain l N s3 s4 M v11 ev11) msX4_bestGain mw_528 rfl rfl ⟨Nat.le_of_ble_eq_true rfl, Nat.le_of_ble_eq_true rfl⟩ ltC_0 shC_0 rfl rfl rfl rfl (Nat.le_of_ble_eq_true rfl) dX4_duel_100 ?_
  obtain ⟨qM12, M12, eM12, h⟩ := bw_wr_o h
  refine bw_iast (pc := 103) (q := 43) C ltC_43 shC_43 qM12 eM12 dX4_duel_103 ?_
  obtain ⟨v13, ev13, h⟩ := bw_mv_o h
  refine bw_iinc (pc := 104) (x := v13) (L' := [(4, .int v13), (0, .ref (ρ 0)), (1, .int x1), (2, .int x2), (3, .int x3)]) C 4 dX4_duel_104 rfl ev13.symm (by decide) rfl ?_
  refine bw_goto (pc := 107) C 74 dX4_duel_107 (by decide) ?_
  refine bw_pick [1, 2, 3, 4, 0] rfl ?_
  exact hk74 (v13, M12) h
def fX4_duel_74 (N : Nat) (x1 : Int32) (k67 : Int32 × bw_M → Option (Int32 × bw_M)) (k74 : Int32 × bw_M → Option (Int32 × bw_M)) (x2 : Int32) (x3 : Int32) (x4 : Int32) (M : bw_M) : Option (Int32 × bw_M) :=
  if x2 ≤ x4 then
  bw_cp M 43 64 (0 : Int32) 42 64 (0 : Int32) x2 fun M9 =>
  bw_mv (x3 + Int32.ofInt (-1)) fun v10 =>
  k67 (v10, M9)
  else
  if (x3 - x3 / (2 : Int32) * (2 : Int32)) = 0 then
  fX4_duel_100 N x1 k67 k74 x2 x3 x4 x4 x4 (1 : Int32) M
  else
  fX4_duel_100 N x1 k67 k74 x2 x3 x4 x4 x4 (0 : Int32) M
theorem tX4_duel_74 {p : Program} {l : Launch} {e : Env} {s : State} {m : MethodId} {args : Array Value} {below : List Frame} {meth : Method} {c : Code} {D : va_G} {kT : Nat → ClassId} {ρ : Nat → Nat} (C : bw_Cx p s m args meth c cX4_duel 5 RX4 45 D kT ρ (some .int)) (N : Nat) (x1 : Int32)  (k67 : Int32 × bw_M → Option (Int32 × bw_M)) (k74 : Int32 × bw_M → Option (Int32 × bw_M)) (x2 : Int32) (x3 : Int32) (x4 : Int32) (M : bw_M) (rr : Int32) (zz : bw_M) (hk67 : ∀ z0, k67 z0 = some (rr, zz) → bw_At p l e rmX4_duel s m args below meth c (MQ below (bw_QI bw_shC 45 D kT ρ rr zz) args s 0 0 (bw_A ρ 45)) bw_shC 45 D kT ρ 5 67 [(0, .ref (ρ 0)), (1, .int x1), (2, .int x2), (3, .int z0.1)] [] z0.2) (hk74 : ∀ z0, k74 z0 = some (rr, zz) → bw_At p l e rmX4_duel s m args below meth c (MQ below (bw_QI bw_shC 45 D kT ρ rr zz) args s 0 0 (bw_A ρ 45)) bw_shC 45 D kT ρ 5 74 [(0, .ref (ρ 0)), (1, .int x1), (2, .int x2), (3, .int x3), (4, .int z0.1)] [] z0.2) (h : fX4_duel_74 N x1 k67 k74 x2 x3 x4 M = some (rr, zz)) : bw_At p l e rmX4_duel s m args below meth c (MQ below (bw_QI bw_shC 45 D kT ρ rr zz) args s 0 0 (bw_A ρ 45)) bw_shC 45 D kT ρ 5 74 [(0, .ref (ρ 0)), (1, .int x1), (2, .int x2), (3, .int x3), (4, .int x4)] [] M := by
  unfold fX4_duel_74 at h
  refine bw_iload (pc := 74) C 4 dX4_duel_74 rfl ?_
  refine bw_iload_n (pc := 76) C 2 dX4_duel_76 rfl rfl ?_
  refine bw_icmp_ge (pc := 77) C 110 dX4_duel_77 (by decide) h (fun h => ?_) (fun h => ?_)
  · refine bw_aload_n (pc := 110) C 0 dX4_duel_110 rfl rfl ?_
    refine bw_getR (pc := 111) (q := 0) (k0 := 11) C ltC_0 shC_0 rfl inX4 mw_134 (by decide) rfl dX4_duel_111 ?_
    refine bw_iconst (pc := 114) (v := (0 : Int32)) C dX4_duel_114 ic_0 ?_
    refine bw_aload_n (pc := 115) C 0 dX4_duel_115 rfl rfl ?_
    refine bw_getR (pc := 116) (q := 0) (k0 := 10) C ltC_0 shC_0 rfl inX4 mw_133 (by decide) rfl dX4_duel_116 ?_
    refine bw_iconst (pc := 119) (v := (0 : Int32)) C dX4_duel_119 ic_0 ?_
    refine bw_iload_n (pc := 120) C 2 dX4_duel_120 rfl rfl ?_
    obtain ⟨qM9, M9, eM9, h⟩ := bw_cp_o h
    refine bw_acopy (pc := 121) (qs := 43) (qd := 42) C ltC_43 ltC_42 shC_43 shC_42 qM9 eM9 mw_213 mw_215 mw_214 mw_7 (Nat.le_of_ble_eq_true rfl) (Nat.le_of_ble_eq_true rfl) dX4_duel_121 ?_
    obtain ⟨v10, ev10, h⟩ := bw_mv_o h
    refine bw_iinc (pc := 124) (x := v10) (L' := [(3, .int v10), (0, .ref (ρ 0)), (1, .int x1), (2, .int x2), (4, .int x4)]) C 3 dX4_duel_124 rfl ev10.symm (by decide) rfl ?_
    refine bw_goto (pc := 127) C 67 dX4_duel_127 (by decide) ?_
    refine bw_pick [1, 2, 3, 0] rfl ?_
    exact hk67 (v10, M9) h
  · refine bw_aload_n (pc := 80) C 0 dX4_duel_80 rfl rfl ?_
    refine bw_getR (pc := 81) (q := 0) (k0 := 11) C ltC_0 shC_0 rfl inX4 mw_134 (by decide) rfl dX4_duel_81 ?_
    refine bw_iload (pc := 84) C 4 dX4_duel_84 rfl ?_
    refine bw_aload_n (pc := 86) C 0 dX4_duel_86 rfl rfl ?_
    refine bw_iload (pc := 87) C 4 dX4_duel_87 rfl ?_
    refine bw_iload_n (pc := 89) C 3 dX4_duel_89 rfl rfl ?_
    refine bw_iconst (pc := 90) (v := (2 : Int32)) C dX4_duel_90 ic_2 ?_
    refine bw_irem (pc := 91) C dX4_duel_91 (by decide) ?_
    refine bw_if_ne (pc := 92) C 99 dX4_duel_92 (by decide) h (fun h => ?_) (fun h => ?_)
    · refine bw_iconst (pc := 99) (v := (0 : Int32)) C dX4_duel_99 ic_0 ?_
      refine bw_pick [0, 1, 2, 3, 4] rfl ?_
      exact tX4_duel_100 C N x1 k67 k74 x2 x3 x4 x4 x4 (0 : Int32) M rr zz hk67 hk74 h
    · refine bw_iconst (pc := 95) (v := (1 : Int32)) C dX4_duel_95 ic_1 ?_
      refine bw_goto (pc := 96) C 100 dX4_duel_96 (by decide) ?_
      refine bw_pick [0, 1, 2, 3, 4] rfl ?_
      exact tX4_duel_100 C N x1 k67 k74 x2 x3 x4 x4 x4 (1 : Int32) M rr zz hk67 hk74 h
def flX4_duel_74 (N : Nat) (x1 : Int32) (k67 : Int32 × bw_M → Option (Int32 × bw_M)) (x2 : Int32) (x3 : Int32)  (fu : Nat) (w : Int32 × bw_M) : Option (Int32 × bw_M) := bw_lp (fun kk w => fX4_duel_74 N x1 k67 kk x2 x3 w.1 w.2) fu w
theorem tlX4_duel_74 {p : Program} {l : Launch} {e : Env} {s : State} {m : MethodId} {args : Array Value} {below : List Frame} {meth : Method} {c : Code} {D : va_G} {kT : Nat → ClassId} {ρ : Nat → Nat} (C : bw_Cx p s m args meth c cX4_duel 5 RX4 45 D kT ρ (some .int)) (N : Nat) (x1 : Int32)  (k67 : Int32 × bw_M → Option (Int32 × bw_M)) (x2 : Int32) (x3 : Int32)  (rr : Int32) (zz : bw_M) (hk67 : ∀ z0, k67 z0 = some (rr, zz) → bw_At p l e rmX4_duel s m args below meth c (MQ below (bw_QI bw_shC 45 D kT ρ rr zz) args s 0 0 (bw_A ρ 45)) bw_shC 45 D kT ρ 5 67 [(0, .ref (ρ 0)), (1, .int x1), (2, .int x2), (3, .int z0.1)] [] z0.2) (fu : Nat) (w : Int32 × bw_M) (h : flX4_duel_74 N x1 k67 x2 x3 fu w = some (rr, zz)) : bw_At p l e rmX4_duel s m args below meth c (MQ below (bw_QI bw_shC 45 D kT ρ rr zz) args s 0 0 (bw_A ρ 45)) bw_shC 45 D kT ρ 5 74 [(0, .ref (ρ 0)), (1, .int x1), (2, .int x2), (3, .int x3), (4, .int w.1)] [] w.2 :=
  bw_loop (r := (rr, zz)) (fun w => bw_At p l e rmX4_duel s m args below meth c (MQ below (bw_QI bw_shC 45 D kT ρ rr zz) args s 0 0 (bw_A ρ 45)) bw_shC 45 D kT ρ 5 74 [(0, .ref (ρ 0)), (1, .int x1), (2, .int x2), (3, .int x3), (4, .int w.1)] [] w.2) (fun kk hk w h => tX4_duel_74 C N x1 k67 kk x2 x3 w.1 w.2 rr zz hk67 hk h) fu w h
def fX4_duel_67 (N : Nat) (x1 : Int32) (k67 : Int32 × bw_M → Option (Int32 × bw_M)) (x2 : Int32) (x3 : Int32) (M : bw_M) : Option (Int32 × bw_M) :=
  if x3 < 0 then
  bw_rd M 42 64 (M.1 16 6) fun v5 =>
  bw_c2 (fX4_tell v5 M) fun v6 M7 =>
  some (v6, M7)
  else
  bw_mv (0 : Int32) fun v8 =>
  flX4_duel_74 N x1 k67 x2 x3 N (v8, M)
theorem tX4_duel_67 {p : Program} {l : Launch} {e : Env} {s : State} {m : MethodId} {args : Array Value} {below : List Frame} {meth : Method} {c : Code} {D : va_G} {kT : Nat → ClassId} {ρ : Nat → Nat} (C : bw_Cx p s m args meth c cX4_duel 5 RX4 45 D kT ρ (some .int)) (N : Nat) (x1 : Int32)  (k67 : Int32 × bw_M → Option (Int32 × bw_M)) (x2 : Int32) (x3 : Int32) (M : bw_M) (rr : Int32) (zz : bw_M) (hk67 : ∀ z0, k67 z0 = some (rr, zz) → bw_At p l e rmX4_duel s m args below meth c (MQ below (bw_QI bw_shC 45 D kT ρ rr zz) args s 0 0 (bw_A ρ 45)) bw_shC 45 D kT ρ 5 67 [(0, .ref (ρ 0)), (1, .int x1), (2, .int x2), (3, .int z0.1)] [] z0.2) (h : fX4_duel_67 N x1 k67 x2 x3 M = some (rr, zz)) : bw_At p l e rmX4_duel s m args below meth c (MQ below (bw_QI bw_shC 45 D kT ρ rr zz) args s 0 0 (bw_A ρ 45)) bw_shC 45 D kT ρ 5 67 [(0, .ref (ρ 0)), (1, .int x1), (2, .int x2), (3, .int x3)] [] M := by
  unfold fX4_duel_67 at h
  refine bw_iload_n (pc := 67) C 3 dX4_duel_67 rfl rfl ?_
  refine bw_if_lt (pc := 68) C 130 dX4_duel_68 (by decide) h (fun h => ?_) (fun h => ?_)
  · refine bw_aload_n (pc := 130) C 0 dX4_duel_130 rfl rfl ?_
    refine bw_aload_n (pc := 131) C 0 dX4_duel_131 rfl rfl ?_
    refine bw_getR (pc := 132) (q := 0) (k0 := 10) C ltC_0 shC_0 rfl inX4 mw_133 (by decide) rfl dX4_duel_132 ?_
    refine bw_aload_n (pc := 135) C 0 dX4_duel_135 rfl rfl ?_
    refine bw_getR (pc := 136) (q := 0) (k0 := 5) C ltC_0 shC_0 rfl inX4 mw_128 (by decide) rfl dX4_duel_136 ?_
    refine bw_getI (pc := 139) (q := 16) (k0 := 6) C ltC_16 shC_16 rfl inX3 mw_59 (by decide) rfl dX4_duel_139 ?_
    obtain ⟨qv5, v5, ev5, h⟩ := bw_rd_o h
    refine bw_iald (pc := 142) (q := 42) C ltC_42 shC_42 qv5 ev5 dX4_duel_142 ?_
    obtain ⟨v6, M7, ev6, h⟩ := bw_c2_o h
    refine bw_cVi (pc := 143) (q := 0) (As := [.int v5]) (rest := []) C (tX4_tell l v5 M v6 M7 ev6) msX4_tell mw_197 rfl rfl ⟨Nat.le_of_ble_eq_true rfl, Nat.le_of_ble_eq_true rfl⟩ ltC_0 shC_0 rfl rfl rfl rfl (Nat.le_of_ble_eq_true rfl) dX4_duel_143 ?_
    exact bw_ireti (pc := 146) C dX4_duel_146 h
  · refine bw_iconst (pc := 71) (v := (0 : Int32)) C dX4_duel_71 ic_0 ?_
    obtain ⟨v8, ev8, h⟩ := bw_mv_o h
    refine bw_nmI ev8 ?_
    refine bw_istore (pc := 72) (L' := [(4, .int v8), (0, .ref (ρ 0)), (1, .int x1), (2, .int x2), (3, .int x3)]) C dX4_duel_72 (by decide) rfl ?_
    refine bw_pick [1, 2, 3, 4, 0] rfl ?_
    exact tlX4_duel_74 C N x1 k67 x2 x3 rr zz hk67 N (v8, M) h
def flX4_duel_67 (N : Nat) (x1 : Int32)  (x2 : Int32)  (fu : Nat) (w : Int32 × bw_M) : Option (Int32 × bw_M) := bw_lp (fun kk w => fX4_duel_67 N x1 kk x2 w.1 w.2) fu w
theorem tlX4_duel_67 {p : Program} {l : Launch} {e : Env} {s : State} {m : MethodId} {args : Array Value} {below : List Frame} {meth : Method} {c : Code} {D : va_G} {kT : Nat → ClassId} {ρ : Nat → Nat} (C : bw_Cx p s m args meth c cX4_duel 5 RX4 45 D kT ρ (some .int)) (N : Nat) (x1 : Int32)   (x2 : Int32)  (rr : Int32) (zz : bw_M)  (fu : Nat) (w : Int32 × bw_M) (h : flX4_duel_67 N x1 x2 fu w = some (rr, zz)) : bw_At p l e rmX4_duel s m args below meth c (MQ below (bw_QI bw_shC 45 D kT ρ rr zz) args s 0 0 (bw_A ρ 45)) bw_shC 45 D kT ρ 5 67 [(0, .ref (ρ 0)), (1, .int x1), (2, .int x2), (3, .int w.1)] [] w.2 :=
  bw_loop (r := (rr, zz)) (fun w => bw_At p l e rmX4_duel s m args below meth c (MQ below (bw_QI bw_shC 45 D kT ρ rr zz) args s 0 0 (bw_A ρ 45)) bw_shC 45 D kT ρ 5 67 [(0, .ref (ρ 0)), (1, .int x1), (2, .int x2), (3, .int w.1)] [] w.2) (fun kk hk w h => tX4_duel_67 C N x1 kk x2 w.1 w.2 rr zz hk h) fu w h
def fX4_duel_36 (N : Nat) (x1 : Int32) (k36 : Int32 × bw_M → Option (Int32 × bw_M)) (x2 : Int32) (x3 : Int32) (M : bw_M) : Option (Int32 × bw_M) :=
  if x2 ≤ x3 then
  bw_mv (((2 : Int32) * x1) - (1 : Int32)) fun v4 =>
  flX4_duel_67 N x1 x2 N (v4, M)
  else
  bw_c2 (fX4_spokenIfCut N x3 M) fun v14 M15 =>
  bw_cl (fX4_evenBeyondUneven v14) fun v16 =>
  bw_wr M15 42 64 x3 v16 fun M17 =>
  bw_mv (x3 + 1) fun v18 =>
  k36 (v18, M17)
theorem tX4_duel_36 {p : Program} {l : Launch} {e : Env} {s : State} {m : MethodId} {args : Array Value} {below : List Frame} {meth : Method} {c : Code} {D : va_G} {kT : Nat → ClassId} {ρ : Nat → Nat} (C : bw_Cx p s m args meth c cX4_duel 5 RX4 45 D kT ρ (some .int)) (N : Nat) (x1 : Int32)  (k36 : Int32 × bw_M → Option (Int32 × bw_M)) (x2 : Int32) (x3 : Int32) (M : bw_M) (rr : Int32) (zz : bw_M) (hk36 : ∀ z0, k36 z0 = some (rr, zz) → bw_At p l e rmX4_duel s m args below meth c (MQ below (bw_QI bw_shC 45 D kT ρ rr zz) args s 0 0 (bw_A ρ 45)) bw_shC 45 D kT ρ 5 36 [(0, .ref (ρ 0)), (1, .int x1), (2, .int x2), (3, .int z0.1)] [] z0.2) (h : fX4_duel_36 N x1 k36 x2 x3 M = some (rr, zz)) : bw_At p l e rmX4_duel s m args below meth c (MQ below (bw_QI bw_shC 45 D kT ρ rr zz) args s 0 0 (bw_A ρ 45)) bw_shC 45 D kT ρ 5 36 [(0, .ref (ρ 0)), (1, .int x1), (2, .int x2), (3, .int x3)] [] M := by
  unfold fX4_duel_36 at h
  refine bw_iload_n (pc := 36) C 3 dX4_duel_36 rfl rfl ?_
  refine bw_iload_n (pc := 37) C 2 dX4_duel_37 rfl rfl ?_
  refine bw_icmp_ge (pc := 38) C 61 dX4_duel_38 (by decide) h (fun h => ?_) (fun h => ?_)
  · refine bw_iconst (pc := 61) (v := (2 : Int32)) C dX4_duel_61 ic_2 ?_
    refine bw_iload_n (pc := 62) C 1 dX4_duel_62 rfl rfl ?_
    refine bw_imul (pc := 63) C dX4_duel_63 ?_
    refine bw_iconst (pc := 64) (v := (1 : Int32)) C dX4_duel_64 ic_1 ?_
    refine bw_isub (pc := 65) C dX4_duel_65 ?_
    obtain ⟨v4, ev4, h⟩ := bw_mv_o h
    refine bw_nmI ev4 ?_
    refine bw_istore_n (pc := 66) (L' := [(3, .int v4), (0, .ref (ρ 0)), (1, .int x1), (2, .int x2)]) C dX4_duel_66 rfl (by decide) rfl ?_
    refine bw_pick [1, 2, 3, 0] rfl ?_
    exact tlX4_duel_67 C N x1 x2 rr zz N (v4, M) h
  · refine bw_aload_n (pc := 41) C 0 dX4_duel_41 rfl rfl ?_
    refine bw_getR (pc := 42) (q := 0) (k0 := 10) C ltC_0 shC_0 rfl inX4 mw_133 (by decide) rfl dX4_duel_42 ?_
    refine bw_iload_n (pc := 45) C 3 dX4_duel_45 rfl rfl ?_
    refine bw_aload_n (pc := 46) C 0 dX4_duel_46 rfl rfl ?_
    refine bw_iload_n (pc := 47) C 3 dX4_duel_47 rfl rfl ?_
    obtain ⟨v14, M15, ev14, h⟩ := bw_c2_o h
    refine bw_cVi (pc := 48) (q := 0) (As := [.int x3]) (rest := [.int x3, .ref (ρ 42)]) C (tX4_spokenIfCut l N x3 M v14 M15 ev14) msX4_spokenIfCut mw_440 rfl rfl ⟨Nat.le_of_ble_eq_true rfl, Nat.le_of_ble_eq_true rfl⟩ ltC_0 shC_0 rfl rfl rfl rfl (Nat.le_of_ble_eq_true rfl) dX4_duel_48 ?_
    obtain ⟨v16, ev16, h⟩ := bw_cl_o h
    refine bw_cSi (pc := 51) (As := [.int v14]) (rest := [.int x3, .ref (ρ 42)]) C (tX4_evenBeyondUneven l v14 M15 v16 ev16) msX4_evenBeyondUneven mw_525 rfl rfl ⟨Nat.le_of_ble_eq_true rfl, Nat.le_of_ble_eq_true rfl⟩ rfl rfl rfl (Nat.le_of_ble_eq_true rfl) dX4_duel_51 ?_
    obtain ⟨qM17, M17, eM17, h⟩ := bw_wr_o h
    refine bw_iast (pc := 54) (q := 42) C ltC_42 shC_42 qM17 eM17 dX4_duel_54 ?_
    obtain ⟨v18, ev18, h⟩ := bw_mv_o h
    refine bw_iinc (pc := 55) (x := v18) (L' := [(3, .int v18), (0, .ref (ρ 0)), (1, .int x1), (2, .int x2)]) C 3 dX4_duel_55 rfl ev18.symm (by decide) rfl ?_
    refine bw_goto (pc := 58) C 36 dX4_duel_58 (by decide) ?_
    refine bw_pick [1, 2, 3, 0] rfl ?_
    exact hk36 (v18, M17) h
def flX4_duel_36 (N : Nat) (x1 : Int32)  (x2 : Int32)  (fu : Nat) (w : Int32 × bw_M) : Option (Int32 × bw_M) := bw_lp (fun kk w => fX4_duel_36 N x1 kk x2 w.1 w.2) fu w
theorem tlX4_duel_36 {p : Program} {l : Launch} {e : Env} {s : State} {m : MethodId} {args : Array Value} {below : List Frame} {meth : Method} {c : Code} {D : va_G} {kT : Nat → ClassId} {ρ : Nat → Nat} (C : bw_Cx p s m args meth c cX4_duel 5 RX4 45 D kT ρ (some .int)) (N : Nat) (x1 : Int32)   (x2 : Int32)  (rr : Int32) (zz : bw_M)  (fu : Nat) (w : Int32 × bw_M) (h : flX4_duel_36 N x1 x2 fu w = some (rr, zz)) : bw_At p l e rmX4_duel s m args below meth c (MQ below (bw_QI bw_shC 45 D kT ρ rr zz) args s 0 0 (bw_A ρ 45)) bw_shC 45 D kT ρ 5 36 [(0, .ref (ρ 0)), (1, .int x1), (2, .int x2), (3, .int w.1)] [] w.2 :=
  bw_loop (r := (rr, zz)) (fun w => bw_At p l e rmX4_duel s m args below meth c (MQ below (bw_QI bw_shC 45 D kT ρ rr zz) args s 0 0 (bw_A ρ 45)) bw_shC 45 D kT ρ 5 36 [(0, .ref (ρ 0)), (1, .int x1), (2, .int x2), (3, .int w.1)] [] w.2) (fun kk hk w h => tX4_duel_36 C N x1 kk x2 w.1 w.2 rr zz hk h) fu w h
def fX4_duel (N : Nat) (x1 : Int32) (M : bw_M) : Option (Int32 × bw_M) :=
  if x1 < 0 then
  fX4_duel_9 N x1 M
  else
  if x1 ≤ (2 : Int32) then
  if (M.1 16 0) = 0 then
  some ((-4 : Int32), M)
  else
  bw_cl (fX3_allPipes 16 M) fun v1 =>
  bw_mv (v1 + (1 : Int32)) fun v2 =>
  bw_mv (0 : Int32) fun v3 =>
  flX4_duel_36 N x1 v2 N (v3, M)
  else
  fX4_duel_9 N x1 M
theorem tX4_duel (l : Launch) (N : Nat) (x1 : Int32)  (M : bw_M) (rr : Int32) (zz : bw_M) (h : fX4_duel N x1 M = some (rr, zz)) : bw_CI l bw_shC 45 yX4_duel cX4_duel 5 (some .int) rmX4_duel (fun ρ => [.ref (ρ 0), .int x1]) M rr zz := by
  refine bw_inI (Lf := fun ρ => [(0, .ref (ρ 0)), (1, .int x1)]) cX4_duel 5 (some .int) RX4 pn_X4 rfl (fun ρ => Nat.le_of_ble_eq_true rfl) (fun ρ => rfl) ?_
  intro p e s m args below meth c D kT ρ C
  unfold fX4_duel at h
  refine bw_iload_n (pc := 0) C 1 dX4_duel_0 rfl rfl ?_
  refine bw_if_lt (pc := 1) C 9 dX4_duel_1 (by decide) h (fun h => ?_) (fun h => ?_)
  · refine bw_pick [0, 1] rfl ?_
    exact tX4_duel_9 C N x1 M rr zz h
  · refine bw_iload_n (pc := 4) C 1 dX4_duel_4 rfl rfl ?_
    refine bw_iconst (pc := 5) (v := (2 : Int32)) C dX4_duel_5 ic_2 ?_
    refine bw_icmp_le (pc := 6) C 11 dX4_duel_6 (by decide) h (fun h => ?_) (fun h => ?_)
    · refine bw_aload_n (pc := 11) C 0 dX4_duel_11 rfl rfl ?_
      refine bw_getR (pc := 12) (q := 0) (k0 := 5) C ltC_0 shC_0 rfl inX4 mw_128 (by decide) rfl dX4_duel_12 ?_
      refine bw_getI (pc := 15) (q := 16) (k0 := 0) C ltC_16 shC_16 rfl inX3 mw_49 (by decide) rfl dX4_duel_15 ?_
      refine bw_if_ne (pc := 18) C 24 dX4_duel_18 (by decide) h (fun h => ?_) (fun h => ?_)
      · refine bw_aload_n (pc := 24) C 0 dX4_duel_24 rfl rfl ?_
        refine bw_getR (pc := 25) (q := 0) (k0 := 5) C ltC_0 shC_0 rfl inX4 mw_128 (by decide) rfl dX4_duel_25 ?_
        obtain ⟨v1, ev1, h⟩ := bw_cl_o h
        refine bw_cVi (pc := 28) (q := 16) (As := []) (rest := []) C (tX3_allPipes l 16 isT_16 M v1 ev1) msX3_allPipes mw_430 rfl rfl ⟨Nat.le_of_ble_eq_true rfl, Nat.le_of_ble_eq_true rfl⟩ ltC_16 shC_16 rfl rfl rfl rfl (Nat.le_of_ble_eq_true rfl) dX4_duel_28 ?_
        refine bw_iconst (pc := 31) (v := (1 : Int32)) C dX4_duel_31 ic_1 ?_
        refine bw_iadd (pc := 32) C dX4_duel_32 ?_
        obtain ⟨v2, ev2, h⟩ := bw_mv_o h
        refine bw_nmI ev2 ?_
        refine bw_istore_n (pc := 33) (L' := [(2, .int v2), (0, .ref (ρ 0)), (1, .int x1)]) C dX4_duel_33 rfl (by decide) rfl ?_
        refine bw_iconst (pc := 34) (v := (0 : Int32)) C dX4_duel_34 ic_0 ?_
        obtain ⟨v3, ev3, h⟩ := bw_mv_o h
        refine bw_nmI ev3 ?_
        refine bw_istore_n (pc := 35) (L' := [(3, .int v3), (2, .int v2), (0, .ref (ρ 0)), (1, .int x1)]) C dX4_duel_35 rfl (by decide) rfl ?_
        refine bw_pick [2, 3, 1, 0] rfl ?_
        exact tlX4_duel_36 C N x1 v2 rr zz N (v3, M) h
      · refine bw_bipush (pc := 21) (v := (-4 : Int32)) C dX4_duel_21 bi_m4 ?_
        exact bw_ireti (pc := 23) C dX4_duel_23 h
    · refine bw_pick [0, 1] rfl ?_
      exact tX4_duel_9 C N x1 M rr zz h
/-! X4_isText -/
abbrev rmX4_isText : Room := { frames := 0, cells := 0, slots := 0, locals := 0 }
theorem msX4_isText : bw_MS yX4_isText cX4_isText 1 (some .boolean) 1 := ⟨mw_225, mw_1, mw_226, by decide +kernel⟩
def fX4_isText_14 (x0 : Int32)  (s0 : Int32)  : Option (Int32) :=
  bw_ck (bw_isb s0) (some s0)
theorem tX4_isText_14 {p : Program} {l : Launch} {e : Env} {s : State} {m : MethodId} {args : Array Value} {below : List Frame} {meth : Method} {c : Code} {D : va_G} {kT : Nat → ClassId} {ρ : Nat → Nat} (C : bw_Cx p s m args meth c cX4_isText 1 RX4 45 D kT ρ (some .boolean)) (x0 : Int32)   (s0 : Int32) (M : bw_M) (rr : Int32)  (h : fX4_isText_14 x0 s0 = some rr) : bw_At p l e rmX4_isText s m args below meth c (MQ below (bw_QI bw_shC 45 D kT ρ rr M) args s 0 0 (bw_A ρ 45)) bw_shC 45 D kT ρ 1 14 [(0, .int x0)] [.int s0] M := by
  unfold fX4_isText_14 at h
  obtain ⟨q1, h⟩ := bw_ck_o h
  exact bw_iretz (pc := 14) C (nz_b q1) dX4_isText_14 (bw_pr M h)
def fX4_isText_13 (x0 : Int32)    : Option (Int32) :=
  fX4_isText_14 x0 (0 : Int32)
theorem tX4_isText_13 {p : Program} {l : Launch} {e : Env} {s : State} {m : MethodId} {args : Array Value} {below : List Frame} {meth : Method} {c : Code} {D : va_G} {kT : Nat → ClassId} {ρ : Nat → Nat} (C : bw_Cx p s m args meth c cX4_isText 1 RX4 45 D kT ρ (some .boolean)) (x0 : Int32)    (M : bw_M) (rr : Int32)  (h : fX4_isText_13 x0 = some rr) : bw_At p l e rmX4_isText s m args below meth c (MQ below (bw_QI bw_shC 45 D kT ρ rr M) args s 0 0 (bw_A ρ 45)) bw_shC 45 D kT ρ 1 13 [(0, .int x0)] [] M := by
  unfold fX4_isText_13 at h
  refine bw_iconst (pc := 13) (v := (0 : Int32)) C dX4_isText_13 ic_0 ?_
  refine bw_pick [0] rfl ?_
  exact tX4_isText_14 C x0 (0 : Int32) M rr h
def fX4_isText (x0 : Int32)  : Option (Int32) :=
  if x0 < 0 then
  fX4_isText_13 x0
  else
  if (4 : Int32) ≤ x0 then
  fX4_isText_13 x0
  else
  fX4_isText_14 x0 (1 : Int32)
theorem tX4_isText (l : Launch) (x0 : Int32)  (M : bw_M) (rr : Int32) (h : fX4_isText x0 = some rr) : bw_CI l bw_shC 45 yX4_isText cX4_isText 1 (some .boolean) rmX4_isText (fun ρ => [.int x0]) M rr M := by
  refine bw_inI (Lf := fun ρ => [(0, .int x0)]) cX4_isText 1 (some .boolean) RX4 pn_X4 rfl (fun ρ => Nat.le_of_ble_eq_true rfl) (fun ρ => rfl) ?_
  intro p e s m args below meth c D kT ρ C
  unfold fX4_isText at h
  refine bw_iload_n (pc := 0) C 0 dX4_isText_0 rfl rfl ?_
  refine bw_if_lt (pc := 1) C 13 dX4_isText_1 (by decide) h (fun h => ?_) (fun h => ?_)
  · refine bw_pick [0] rfl ?_
    exact tX4_isText_13 C x0 M rr h
  · refine bw_iload_n (pc := 4) C 0 dX4_isText_4 rfl rfl ?_
    refine bw_iconst (pc := 5) (v := (4 : Int32)) C dX4_isText_5 ic_4 ?_
    refine bw_icmp_ge (pc := 6) C 13 dX4_isText_6 (by decide) h (fun h => ?_) (fun h => ?_)
    · refine bw_pick [0] rfl ?_
      exact tX4_isText_13 C x0 M rr h
    · refine bw_iconst (pc := 9) (v := (1 : Int32)) C dX4_isText_9 ic_1 ?_
      refine bw_goto (pc := 10) C 14 dX4_isText_10 (by decide) ?_
      refine bw_pick [0] rfl ?_
      exact tX4_isText_14 C x0 (1 : Int32) M rr h
/-! X4_fault -/
abbrev rmX4_fault : Room := { frames := 5, cells := 0, slots := 0, locals := 114 }
theorem msX4_fault : bw_MV yX4_fault cX4_fault 2 (some .int) RX4 1 := ⟨mw_235, mw_236, mw_1, mw_237, by decide +kernel⟩
def fX4_fault (N : Nat) (x1 : Int32) (M : bw_M) : Option (Int32 × bw_M) :=
  bw_cl (fX4_isText x1) fun v1 =>
  if v1 = 0 then
  some ((-1 : Int32), M)
  else
  bw_rd M 14 4 x1 fun v2 =>
  if v2 = (-1 : Int32) then
  bw_c2 (fX4_found (1 : Int32) M) fun v7 M8 =>
  some (v7, M8)
  else
  bw_ra 4 x1 fun j3 =>
  bw_rd M 14 4 x1 fun v4 =>
  bw_c2 (fX2_readTown N (10 + j3) 60 v4 22 M) fun v5 M6 =>
  some (v5, M6)
theorem tX4_fault (l : Launch) (N : Nat) (x1 : Int32)  (M : bw_M) (rr : Int32) (zz : bw_M) (h : fX4_fault N x1 M = some (rr, zz)) : bw_CI l bw_shC 45 yX4_fault cX4_fault 2 (some .int) rmX4_fault (fun ρ => [.ref (ρ 0), .int x1]) M rr zz := by
  refine bw_inI (Lf := fun ρ => [(0, .ref (ρ 0)), (1, .int x1)]) cX4_fault 2 (some .int) RX4 pn_X4 rfl (fun ρ => Nat.le_of_ble_eq_true rfl) (fun ρ => rfl) ?_
  intro p e s m args below meth c D kT ρ C
  unfold fX4_fault at h
  refine bw_iload_n (pc := 0) C 1 dX4_fault_0 rfl rfl ?_
  obtain ⟨v1, ev1, h⟩ := bw_cl_o h
  refine bw_cSi (pc := 1) (As := [.int x1]) (rest := []) C (tX4_isText l x1 M v1 ev1) msX4_isText mw_224 rfl rfl ⟨Nat.le_of_ble_eq_true rfl, Nat.le_of_ble_eq_true rfl⟩ rfl rfl rfl (Nat.le_of_ble_eq_true rfl) dX4_fault_1 ?_
  refine bw_if_ne (pc := 4) C 9 dX4_fault_4 (by decide) h (fun h => ?_) (fun h => ?_)
  · refine bw_aload_n (pc := 9) C 0 dX4_fault_9 rfl rfl ?_
    refine bw_getR (pc := 10) (q := 0) (k0 := 3) C ltC_0 shC_0 rfl inX4 mw_126 (by decide) rfl dX4_fault_10 ?_
    refine bw_iload_n (pc := 13) C 1 dX4_fault_13 rfl rfl ?_
    obtain ⟨qv2, v2, ev2, h⟩ := bw_rd_o h
    refine bw_iald (pc := 14) (q := 14) C ltC_14 shC_14 qv2 ev2 dX4_fault_14 ?_
    refine bw_iconst (pc := 15) (v := (-1 : Int32)) C dX4_fault_15 ic_m1 ?_
    refine bw_icmp_ne (pc := 16) C 25 dX4_fault_16 (by decide) h (fun h => ?_) (fun h => ?_)
    · refine bw_aload_n (pc := 25) C 0 dX4_fault_25 rfl rfl ?_
      refine bw_getR (pc := 26) (q := 0) (k0 := 4) C ltC_0 shC_0 rfl inX4 mw_127 (by decide) rfl dX4_fault_26 ?_
      refine bw_aload_n (pc := 29) C 0 dX4_fault_29 rfl rfl ?_
      refine bw_getR (pc := 30) (q := 0) (k0 := 2) C ltC_0 shC_0 rfl inX4 mw_125 (by decide) rfl dX4_fault_30 ?_
      refine bw_iload_n (pc := 33) C 1 dX4_fault_33 rfl rfl ?_
      obtain ⟨qj3, j3, ej3, lj3, h⟩ := bw_ra_o h
      refine bw_aald (pc := 34) (q := 9) (ty := .array .byte) C ltC_9 shC_9 rfl rfl qj3 (id_txts ej3 lj3) dX4_fault_34 ?_
      refine bw_aload_n (pc := 35) C 0 dX4_fault_35 rfl rfl ?_
      refine bw_getR (pc := 36) (q := 0) (k0 := 3) C ltC_0 shC_0 rfl inX4 mw_126 (by decide) rfl dX4_fault_36 ?_
      refine bw_iload_n (pc := 39) C 1 dX4_fault_39 rfl rfl ?_
      obtain ⟨qv4, v4, ev4, h⟩ := bw_rd_o h
      refine bw_iald (pc := 40) (q := 14) C ltC_14 shC_14 qv4 ev4 dX4_fault_40 ?_
      refine bw_aload_n (pc := 41) C 0 dX4_fault_41 rfl rfl ?_
      refine bw_getR (pc := 42) (q := 0) (k0 := 6) C ltC_0 shC_0 rfl inX4 mw_129 (by decide) rfl dX4_fault_42 ?_
      obtain ⟨v5, M6, ev5, h⟩ := bw_c2_o h
      refine bw_cVi (pc := 45) (q := 15) (As := [.ref (ρ (10 + j3)), .int v4, .ref (ρ 22)]) (rest := []) C (tX2_readTown l N (10 + j3) 60 v4 22 (ltC_txt lj3) (shC_txt lj3) isT_22 M v5 M6 ev5) msX2_readTown mw_238 rfl rfl ⟨Nat.le_of_ble_eq_true rfl, Nat.le_of_ble_eq_true rfl⟩ ltC_15 shC_15 rfl rfl rfl rfl (Nat.le_of_ble_eq_true rfl) dX4_fault_45 ?_
      exact bw_ireti (pc := 48) C dX4_fault_48 h
    · refine bw_aload_n (pc := 19) C 0 dX4_fault_19 rfl rfl ?_
      refine bw_iconst (pc := 20) (v := (1 : Int32)) C dX4_fault_20 ic_1 ?_
      obtain ⟨v7, M8, ev7, h⟩ := bw_c2_o h
      refine bw_cVi (pc := 21) (q := 0) (As := [.int (1 : Int32)]) (rest := []) C (tX4_found l (1 : Int32) M v7 M8 ev7) msX4_found mw_182 rfl rfl ⟨Nat.le_of_ble_eq_true rfl, Nat.le_of_ble_eq_true rfl⟩ ltC_0 shC_0 rfl rfl rfl rfl (Nat.le_of_ble_eq_true rfl) dX4_fault_21 ?_
      exact bw_ireti (pc := 24) C dX4_fault_24 h
  · refine bw_iconst (pc := 7) (v := (-1 : Int32)) C dX4_fault_7 ic_m1 ?_
    exact bw_ireti (pc := 8) C dX4_fault_8 h
/-! X4_finding -/
abbrev rmX4_finding : Room := { frames := 0, cells := 0, slots := 0, locals := 0 }
theorem msX4_finding : bw_MV yX4_finding cX4_finding 1 (some .int) RX4 0 := ⟨mw_591, mw_592, mw_1, mw_593, by decide +kernel⟩
def fX4_finding  (M : bw_M) : Option (Int32) :=
  some (M.1 0 13)
theorem tX4_finding (l : Launch)   (M : bw_M) (rr : Int32) (h : fX4_finding M = some rr) : bw_CI l bw_shC 45 yX4_finding cX4_finding 1 (some .int) rmX4_finding (fun ρ => [.ref (ρ 0)]) M rr M := by
  refine bw_inI (Lf := fun ρ => [(0, .ref (ρ 0))]) cX4_finding 1 (some .int) RX4 pn_X4 rfl (fun ρ => Nat.le_of_ble_eq_true rfl) (fun ρ => rfl) ?_
  intro p e s m args below meth c D kT ρ C
  unfold fX4_finding at h
  refine bw_aload_n (pc := 0) C 0 dX4_finding_0 rfl rfl ?_
  refine bw_getI (pc := 1) (q := 0) (k0 := 13) C ltC_0 shC_0 rfl inX4 mw_136 (by decide) rfl dX4_finding_1 ?_
  exact bw_ireti (pc := 4) C dX4_finding_4 (bw_pr M h)
/-! X4_findings -/
abbrev rmX4_findings : Room := { frames := 0, cells := 0, slots := 0, locals := 0 }
theorem msX4_findings : bw_MV yX4_findings cX4_findings 2 (some .int) RX4 1 := ⟨mw_595, mw_596, mw_1, mw_597, by decide +kernel⟩
def fX4_findings_20 (x1 : Int32)  (s0 : Int32) (M : bw_M) : Option (Int32) :=
  some s0
theorem tX4_findings_20 {p : Program} {l : Launch} {e : Env} {s : State} {m : MethodId} {args : Array Value} {below : List Frame} {meth : Method} {c : Code} {D : va_G} {kT : Nat → ClassId} {ρ : Nat → Nat} (C : bw_Cx p s m args meth c cX4_findings 2 RX4 45 D kT ρ (some .int)) (x1 : Int32)   (s0 : Int32) (M : bw_M) (rr : Int32)  (h : fX4_findings_20 x1 s0 M = some rr) : bw_At p l e rmX4_findings s m args below meth c (MQ below (bw_QI bw_shC 45 D kT ρ rr M) args s 0 0 (bw_A ρ 45)) bw_shC 45 D kT ρ 2 20 [(0, .ref (ρ 0)), (1, .int x1)] [.int s0] M := by
  unfold fX4_findings_20 at h
  exact bw_ireti (pc := 20) C dX4_findings_20 (bw_pr M h)
def fX4_findings_10 (x1 : Int32)   (M : bw_M) : Option (Int32) :=
  fX4_findings_20 x1 (-1 : Int32) M
theorem tX4_findings_10 {p : Program} {l : Launch} {e : Env} {s : State} {m : MethodId} {args : Array Value} {below : List Frame} {meth : Method} {c : Code} {D : va_G} {kT : Nat → ClassId} {ρ : Nat → Nat} (C : bw_Cx p s m args meth c cX4_findings 2 RX4 45 D kT ρ (some .int)) (x1 : Int32)    (M : bw_M) (rr : Int32)  (h : fX4_findings_10 x1 M = some rr) : bw_At p l e rmX4_findings s m args below meth c (MQ below (bw_QI bw_shC 45 D kT ρ rr M) args s 0 0 (bw_A ρ 45)) bw_shC 45 D kT ρ 2 10 [(0, .ref (ρ 0)), (1, .int x1)] [] M := by
  unfold fX4_findings_10 at h
  refine bw_iconst (pc := 10) (v := (-1 : Int32)) C dX4_findings_10 ic_m1 ?_
  refine bw_goto (pc := 11) C 20 dX4_findings_11 (by decide) ?_
  refine bw_pick [0, 1] rfl ?_
  exact tX4_findings_20 C x1 (-1 : Int32) M rr h
def fX4_findings (x1 : Int32) (M : bw_M) : Option (Int32) :=
  if x1 < (1 : Int32) then
  fX4_findings_10 x1 M
  else
  if x1 ≤ (5 : Int32) then
  bw_rd M 44 6 x1 fun v1 =>
  fX4_findings_20 x1 v1 M
  else
  fX4_findings_10 x1 M
theorem tX4_findings (l : Launch) (x1 : Int32)  (M : bw_M) (rr : Int32) (h : fX4_findings x1 M = some rr) : bw_CI l bw_shC 45 yX4_findings cX4_findings 2 (some .int) rmX4_findings (fun ρ => [.ref (ρ 0), .int x1]) M rr M := by
  refine bw_inI (Lf := fun ρ => [(0, .ref (ρ 0)), (1, .int x1)]) cX4_findings 2 (some .int) RX4 pn_X4 rfl (fun ρ => Nat.le_of_ble_eq_true rfl) (fun ρ => rfl) ?_
  intro p e s m args below meth c D kT ρ C
  unfold fX4_findings at h
  refine bw_iload_n (pc := 0) C 1 dX4_findings_0 rfl rfl ?_
  refine bw_iconst (pc := 1) (v := (1 : Int32)) C dX4_findings_1 ic_1 ?_
  refine bw_icmp_lt (pc := 2) C 10 dX4_findings_2 (by decide) h (fun h => ?_) (fun h => ?_)
  · refine bw_pick [0, 1] rfl ?_
    exact tX4_findings_10 C x1 M rr h
  · refine bw_iload_n (pc := 5) C 1 dX4_findings_5 rfl rfl ?_
    refine bw_iconst (pc := 6) (v := (5 : Int32)) C dX4_findings_6 ic_5 ?_
    refine bw_icmp_le (pc := 7) C 14 dX4_findings_7 (by decide) h (fun h => ?_) (fun h => ?_)
    · refine bw_aload_n (pc := 14) C 0 dX4_findings_14 rfl rfl ?_
      refine bw_getR (pc := 15) (q := 0) (k0 := 12) C ltC_0 shC_0 rfl inX4 mw_135 (by decide) rfl dX4_findings_15 ?_
      refine bw_iload_n (pc := 18) C 1 dX4_findings_18 rfl rfl ?_
      obtain ⟨qv1, v1, ev1, h⟩ := bw_rd_o h
      refine bw_iald (pc := 19) (q := 44) C ltC_44 shC_44 qv1 ev1 dX4_findings_19 ?_
      refine bw_pick [0, 1] rfl ?_
      exact tX4_findings_20 C x1 v1 M rr h
    · refine bw_pick [0, 1] rfl ?_
      exact tX4_findings_10 C x1 M rr h
