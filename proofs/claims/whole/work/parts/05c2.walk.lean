/-! X4_mark -/
abbrev rmX4_mark : Room := { frames := 3, cells := 0, slots := 0, locals := 67 }
theorem msX4_mark : bw_MV yX4_mark cX4_mark 3 (some .int) RX4 2 := ⟨mw_314, mw_315, mw_1, mw_316, by decide +kernel⟩
def fX4_mark_21 (N : Nat) (x1 : Int32) (x2 : Int32)   (M : bw_M) : Option (Int32 × bw_M) :=
  some ((-1 : Int32), M)
theorem tX4_mark_21 {p : Program} {l : Launch} {e : Env} {s : State} {m : MethodId} {args : Array Value} {below : List Frame} {meth : Method} {c : Code} {D : va_G} {kT : Nat → ClassId} {ρ : Nat → Nat} (C : bw_Cx p s m args meth c cX4_mark 3 RX4 45 D kT ρ (some .int)) (N : Nat) (x1 : Int32) (x2 : Int32)    (M : bw_M) (rr : Int32) (zz : bw_M)  (h : fX4_mark_21 N x1 x2 M = some (rr, zz)) : bw_At p l e rmX4_mark s m args below meth c (MQ below (bw_QI bw_shC 45 D kT ρ rr zz) args s 0 0 (bw_A ρ 45)) bw_shC 45 D kT ρ 3 21 [(0, .ref (ρ 0)), (1, .int x1), (2, .int x2)] [] M := by
  unfold fX4_mark_21 at h
  refine bw_iconst (pc := 21) (v := (-1 : Int32)) C dX4_mark_21 ic_m1 ?_
  exact bw_ireti (pc := 22) C dX4_mark_22 h
def fX4_mark (N : Nat) (x1 : Int32) (x2 : Int32) (M : bw_M) : Option (Int32 × bw_M) :=
  bw_cl (fX3_hasPipe 16 x1 M) fun v1 =>
  if v1 = 0 then
  fX4_mark_21 N x1 x2 M
  else
  if x2 ≤ 0 then
  fX4_mark_21 N x1 x2 M
  else
  if x2 < (6 : Int32) then
  bw_rd M 17 6 x1 fun v2 =>
  bw_cl (fX1_isOf v2 x2) fun v3 =>
  if v3 = 0 then
  bw_c2 (fX4_found (3 : Int32) M) fun v14 M15 =>
  some (v14, M15)
  else
  if x2 = (1 : Int32) then
  bw_rd M 20 6 x1 fun v5 =>
  some (((20 : Int32) - v5), M)
  else if x2 = (2 : Int32) then
  bw_rd M 19 6 x1 fun v7 =>
  some ((if (0 : Int32) < (v7 - (M.1 16 3)) then (v7 - (M.1 16 3)) else (0 : Int32)), M)
  else if x2 = (3 : Int32) then
  bw_cl (fX3_wantNext 16 x1 M) fun v9 =>
  bw_rd M 19 6 x1 fun v10 =>
  some ((v9 - v10), M)
  else if x2 = (4 : Int32) then
  bw_cl (fX1_hoursToRest (M.1 16 5)) fun v12 =>
  some (v12, M)
  else 
  bw_cl (fX4_wantingNoMoreThan N x1 M) fun v13 =>
  some (v13, M)
  else
  fX4_mark_21 N x1 x2 M
theorem tX4_mark (l : Launch) (N : Nat) (x1 : Int32) (x2 : Int32)  (M : bw_M) (rr : Int32) (zz : bw_M) (h : fX4_mark N x1 x2 M = some (rr, zz)) : bw_CI l bw_shC 45 yX4_mark cX4_mark 3 (some .int) rmX4_mark (fun ρ => [.ref (ρ 0), .int x1, .int x2]) M rr zz := by
  refine bw_inI (Lf := fun ρ => [(0, .ref (ρ 0)), (1, .int x1), (2, .int x2)]) cX4_mark 3 (some .int) RX4 pn_X4 rfl (fun ρ => Nat.le_of_ble_eq_true rfl) (fun ρ => rfl) ?_
  intro p e s m args below meth c D kT ρ C
  unfold fX4_mark at h
  refine bw_aload_n (pc := 0) C 0 dX4_mark_0 rfl rfl ?_
  refine bw_getR (pc := 1) (q := 0) (k0 := 5) C ltC_0 shC_0 rfl inX4 mw_128 (by decide) rfl dX4_mark_1 ?_
  refine bw_iload_n (pc := 4) C 1 dX4_mark_4 rfl rfl ?_
  obtain ⟨v1, ev1, h⟩ := bw_cl_o h
  refine bw_cVi (pc := 5) (q := 16) (As := [.int x1]) (rest := []) C (tX3_hasPipe l 16 x1 isT_16 M v1 ev1) msX3_hasPipe mw_290 rfl rfl ⟨Nat.le_of_ble_eq_true rfl, Nat.le_of_ble_eq_true rfl⟩ ltC_16 shC_16 rfl rfl rfl rfl (Nat.le_of_ble_eq_true rfl) dX4_mark_5 ?_
  refine bw_if_eq (pc := 8) C 21 dX4_mark_8 (by decide) h (fun h => ?_) (fun h => ?_)
  · refine bw_pick [0, 1, 2] rfl ?_
    exact tX4_mark_21 C N x1 x2 M rr zz h
  · refine bw_iload_n (pc := 11) C 2 dX4_mark_11 rfl rfl ?_
    refine bw_if_le (pc := 12) C 21 dX4_mark_12 (by decide) h (fun h => ?_) (fun h => ?_)
    · refine bw_pick [0, 1, 2] rfl ?_
      exact tX4_mark_21 C N x1 x2 M rr zz h
    · refine bw_iload_n (pc := 15) C 2 dX4_mark_15 rfl rfl ?_
      refine bw_bipush (pc := 16) (v := (6 : Int32)) C dX4_mark_16 bi_6 ?_
      refine bw_icmp_lt (pc := 18) C 23 dX4_mark_18 (by decide) h (fun h => ?_) (fun h => ?_)
      · refine bw_aload_n (pc := 23) C 0 dX4_mark_23 rfl rfl ?_
        refine bw_getR (pc := 24) (q := 0) (k0 := 5) C ltC_0 shC_0 rfl inX4 mw_128 (by decide) rfl dX4_mark_24 ?_
        refine bw_getR (pc := 27) (q := 16) (k0 := 8) C ltC_16 shC_16 rfl inX3 mw_63 (by decide) rfl dX4_mark_27 ?_
        refine bw_iload_n (pc := 30) C 1 dX4_mark_30 rfl rfl ?_
        obtain ⟨qv2, v2, ev2, h⟩ := bw_rd_o h
        refine bw_iald (pc := 31) (q := 17) C ltC_17 shC_17 qv2 ev2 dX4_mark_31 ?_
        refine bw_iload_n (pc := 32) C 2 dX4_mark_32 rfl rfl ?_
        obtain ⟨v3, ev3, h⟩ := bw_cl_o h
        refine bw_cSi (pc := 33) (As := [.int v2, .int x2]) (rest := []) C (tX1_isOf l v2 x2 M v3 ev3) msX1_isOf mw_317 rfl rfl ⟨Nat.le_of_ble_eq_true rfl, Nat.le_of_ble_eq_true rfl⟩ rfl rfl rfl (Nat.le_of_ble_eq_true rfl) dX4_mark_33 ?_
        refine bw_if_ne (pc := 36) C 45 dX4_mark_36 (by decide) h (fun h => ?_) (fun h => ?_)
        · refine bw_iload_n (pc := 45) C 2 dX4_mark_45 rfl rfl ?_
          refine bw_swc (pc := 46) C (1 : Int32) h (fun h => ?_) (fun q4 h => ?_)
          · refine bw_swi (pc := 46) C 76 dX4_mark_46 (by decide) (by decide) rfl (by decide) ?_
            refine bw_bipush (pc := 76) (v := (20 : Int32)) C dX4_mark_76 bi_20 ?_
            refine bw_aload_n (pc := 78) C 0 dX4_mark_78 rfl rfl ?_
            refine bw_getR (pc := 79) (q := 0) (k0 := 5) C ltC_0 shC_0 rfl inX4 mw_128 (by decide) rfl dX4_mark_79 ?_
            refine bw_getR (pc := 82) (q := 16) (k0 := 11) C ltC_16 shC_16 rfl inX3 mw_69 (by decide) rfl dX4_mark_82 ?_
            refine bw_iload_n (pc := 85) C 1 dX4_mark_85 rfl rfl ?_
            obtain ⟨qv5, v5, ev5, h⟩ := bw_rd_o h
            refine bw_iald (pc := 86) (q := 20) C ltC_20 shC_20 qv5 ev5 dX4_mark_86 ?_
            refine bw_isub (pc := 87) C dX4_mark_87 ?_
            exact bw_ireti (pc := 88) C dX4_mark_88 h
          refine bw_swc (pc := 46) C (2 : Int32) h (fun h => ?_) (fun q6 h => ?_)
          · refine bw_swi (pc := 46) C 89 dX4_mark_46 (by decide) (by decide) rfl (by decide) ?_
            refine bw_iconst (pc := 89) (v := (0 : Int32)) C dX4_mark_89 ic_0 ?_
            refine bw_aload_n (pc := 90) C 0 dX4_mark_90 rfl rfl ?_
            refine bw_getR (pc := 91) (q := 0) (k0 := 5) C ltC_0 shC_0 rfl inX4 mw_128 (by decide) rfl dX4_mark_91 ?_
            refine bw_getR (pc := 94) (q := 16) (k0 := 10) C ltC_16 shC_16 rfl inX3 mw_67 (by decide) rfl dX4_mark_94 ?_
            refine bw_iload_n (pc := 97) C 1 dX4_mark_97 rfl rfl ?_
            obtain ⟨qv7, v7, ev7, h⟩ := bw_rd_o h
            refine bw_iald (pc := 98) (q := 19) C ltC_19 shC_19 qv7 ev7 dX4_mark_98 ?_
            refine bw_aload_n (pc := 99) C 0 dX4_mark_99 rfl rfl ?_
            refine bw_getR (pc := 100) (q := 0) (k0 := 5) C ltC_0 shC_0 rfl inX4 mw_128 (by decide) rfl dX4_mark_100 ?_
            refine bw_getI (pc := 103) (q := 16) (k0 := 3) C ltC_16 shC_16 rfl inX3 mw_53 (by decide) rfl dX4_mark_103 ?_
            refine bw_isub (pc := 106) C dX4_mark_106 ?_
            refine bw_mmax (pc := 107) C mw_320 mw_321 mw_9 mw_322 (Nat.le_of_ble_eq_true rfl) (Nat.le_of_ble_eq_true rfl) dX4_mark_107 ?_
            exact bw_ireti (pc := 110) C dX4_mark_110 h
          refine bw_swc (pc := 46) C (3 : Int32) h (fun h => ?_) (fun q8 h => ?_)
          · refine bw_swi (pc := 46) C 111 dX4_mark_46 (by decide) (by decide) rfl (by decide) ?_
            refine bw_aload_n (pc := 111) C 0 dX4_mark_111 rfl rfl ?_
            refine bw_getR (pc := 112) (q := 0) (k0 := 5) C ltC_0 shC_0 rfl inX4 mw_128 (by decide) rfl dX4_mark_112 ?_
            refine bw_iload_n (pc := 115) C 1 dX4_mark_115 rfl rfl ?_
            obtain ⟨v9, ev9, h⟩ := bw_cl_o h
            refine bw_cVi (pc := 116) (q := 16) (As := [.int x1]) (rest := []) C (tX3_wantNext l 16 x1 isT_16 M v9 ev9) msX3_wantNext mw_298 rfl rfl ⟨Nat.le_of_ble_eq_true rfl, Nat.le_of_ble_eq_true rfl⟩ ltC_16 shC_16 rfl rfl rfl rfl (Nat.le_of_ble_eq_true rfl) dX4_mark_116 ?_
            refine bw_aload_n (pc := 119) C 0 dX4_mark_119 rfl rfl ?_
            refine bw_getR (pc := 120) (q := 0) (k0 := 5) C ltC_0 shC_0 rfl inX4 mw_128 (by decide) rfl dX4_mark_120 ?_
            refine bw_getR (pc := 123) (q := 16) (k0 := 10) C ltC_16 shC_16 rfl inX3 mw_67 (by decide) rfl dX4_mark_123 ?_
            refine bw_iload_n (pc := 126) C 1 dX4_mark_126 rfl rfl ?_
            obtain ⟨qv10, v10, ev10, h⟩ := bw_rd_o h
            refine bw_iald (pc := 127) (q := 19) C ltC_19 shC_19 qv10 ev10 dX4_mark_127 ?_
            refine bw_isub (pc := 128) C dX4_mark_128 ?_
            exact bw_ireti (pc := 129) C dX4_mark_129 h
          refine bw_swc (pc := 46) C (4 : Int32) h (fun h => ?_) (fun q11 h => ?_)
          · refine bw_swi (pc := 46) C 130 dX4_mark_46 (by decide) (by decide) rfl (by decide) ?_
            refine bw_aload_n (pc := 130) C 0 dX4_mark_130 rfl rfl ?_
            refine bw_getR (pc := 131) (q := 0) (k0 := 5) C ltC_0 shC_0 rfl inX4 mw_128 (by decide) rfl dX4_mark_131 ?_
            refine bw_getI (pc := 134) (q := 16) (k0 := 5) C ltC_16 shC_16 rfl inX3 mw_57 (by decide) rfl dX4_mark_134 ?_
            obtain ⟨v12, ev12, h⟩ := bw_cl_o h
            refine bw_cSi (pc := 137) (As := [.int (M.1 16 5)]) (rest := []) C (tX1_hoursToRest l (M.1 16 5) M v12 ev12) msX1_hoursToRest mw_323 rfl rfl ⟨Nat.le_of_ble_eq_true rfl, Nat.le_of_ble_eq_true rfl⟩ rfl rfl rfl (Nat.le_of_ble_eq_true rfl) dX4_mark_137 ?_
            exact bw_ireti (pc := 140) C dX4_mark_140 h
          have ho : (x2).toInt < 1 ∨ 4 < (x2).toInt := bw_sw_out 4 (by decide) (by decide) (by decide) (fun j hj => by
            match j, hj with
            | 0, _ => exact q4
            | 1, _ => exact q6
            | 2, _ => exact q8
            | 3, _ => exact q11
            | j + 4, hj => exact absurd hj (by omega))
          refine bw_swo (pc := 46) C 141 dX4_mark_46 ho (by decide) ?_
          refine bw_aload_n (pc := 141) C 0 dX4_mark_141 rfl rfl ?_
          refine bw_iload_n (pc := 142) C 1 dX4_mark_142 rfl rfl ?_
          obtain ⟨v13, ev13, h⟩ := bw_cl_o h
          refine bw_cVi (pc := 143) (q := 0) (As := [.int x1]) (rest := []) C (tX4_wantingNoMoreThan l N x1 M v13 ev13) msX4_wantingNoMoreThan mw_326 rfl rfl ⟨Nat.le_of_ble_eq_true rfl, Nat.le_of_ble_eq_true rfl⟩ ltC_0 shC_0 rfl rfl rfl rfl (Nat.le_of_ble_eq_true rfl) dX4_mark_143 ?_
          exact bw_ireti (pc := 146) C dX4_mark_146 h
        · refine bw_aload_n (pc := 39) C 0 dX4_mark_39 rfl rfl ?_
          refine bw_iconst (pc := 40) (v := (3 : Int32)) C dX4_mark_40 ic_3 ?_
          obtain ⟨v14, M15, ev14, h⟩ := bw_c2_o h
          refine bw_cVi (pc := 41) (q := 0) (As := [.int (3 : Int32)]) (rest := []) C (tX4_found l (3 : Int32) M v14 M15 ev14) msX4_found mw_182 rfl rfl ⟨Nat.le_of_ble_eq_true rfl, Nat.le_of_ble_eq_true rfl⟩ ltC_0 shC_0 rfl rfl rfl rfl (Nat.le_of_ble_eq_true rfl) dX4_mark_41 ?_
          exact bw_ireti (pc := 44) C dX4_mark_44 h
      · refine bw_pick [0, 1, 2] rfl ?_
        exact tX4_mark_21 C N x1 x2 M rr zz h
/-! X4_mean -/
abbrev rmX4_mean : Room := { frames := 1, cells := 0, slots := 0, locals := 21 }
theorem msX4_mean : bw_MV yX4_mean cX4_mean 6 (some .int) RX4 1 := ⟨mw_217, mw_218, mw_1, mw_219, by decide +kernel⟩
def fX4_mean_42 (N : Nat) (x1 : Int32) (k42 : Int64 × Int32 → Option (Int32 × bw_M)) (x2 : Int32) (x3 : Int64) (x5 : Int32) (M : bw_M) : Option (Int32 × bw_M) :=
  if x2 ≤ x5 then
  bw_ck (decide (¬ (Int32.toInt64 x2) = 0)) (
  bw_c2 (fX4_tell (Int64.toInt32 (x3 / (Int32.toInt64 x2))) M) fun v6 M7 =>
  some (v6, M7))
  else
  bw_ra 6 x1 fun j8 =>
  bw_rd M (2 + j8) 40 x5 fun v9 =>
  bw_mv (x3 + (Int32.toInt64 v9)) fun v10 =>
  bw_mv (x5 + 1) fun v11 =>
  k42 (v10, v11)
theorem tX4_mean_42 {p : Program} {l : Launch} {e : Env} {s : State} {m : MethodId} {args : Array Value} {below : List Frame} {meth : Method} {c : Code} {D : va_G} {kT : Nat → ClassId} {ρ : Nat → Nat} (C : bw_Cx p s m args meth c cX4_mean 6 RX4 45 D kT ρ (some .int)) (N : Nat) (x1 : Int32)  (k42 : Int64 × Int32 → Option (Int32 × bw_M)) (x2 : Int32) (x3 : Int64) (x5 : Int32) (M : bw_M) (rr : Int32) (zz : bw_M) (hk42 : ∀ z0, k42 z0 = some (rr, zz) → bw_At p l e rmX4_mean s m args below meth c (MQ below (bw_QI bw_shC 45 D kT ρ rr zz) args s 0 0 (bw_A ρ 45)) bw_shC 45 D kT ρ 6 42 [(0, .ref (ρ 0)), (1, .int x1), (2, .int x2), (3, .long z0.1), (5, .int z0.2)] [] M) (h : fX4_mean_42 N x1 k42 x2 x3 x5 M = some (rr, zz)) : bw_At p l e rmX4_mean s m args below meth c (MQ below (bw_QI bw_shC 45 D kT ρ rr zz) args s 0 0 (bw_A ρ 45)) bw_shC 45 D kT ρ 6 42 [(0, .ref (ρ 0)), (1, .int x1), (2, .int x2), (3, .long x3), (5, .int x5)] [] M := by
  unfold fX4_mean_42 at h
  refine bw_iload (pc := 42) C 4 dX4_mean_42 rfl ?_
  refine bw_iload_n (pc := 44) C 2 dX4_mean_44 rfl rfl ?_
  refine bw_icmp_ge (pc := 45) C 67 dX4_mean_45 (by decide) h (fun h => ?_) (fun h => ?_)
  · refine bw_aload_n (pc := 67) C 0 dX4_mean_67 rfl rfl ?_
    refine bw_lload_n (pc := 68) C 3 dX4_mean_68 rfl rfl ?_
    refine bw_iload_n (pc := 69) C 2 dX4_mean_69 rfl rfl ?_
    refine bw_i2l (pc := 70) C dX4_mean_70 ?_
    obtain ⟨q5, h⟩ := bw_ck_o h
    refine bw_ldiv (pc := 71) C dX4_mean_71 (of_decide_eq_true q5) ?_
    refine bw_l2i (pc := 72) C dX4_mean_72 ?_
    obtain ⟨v6, M7, ev6, h⟩ := bw_c2_o h
    refine bw_cVi (pc := 73) (q := 0) (As := [.int (Int64.toInt32 (x3 / (Int32.toInt64 x2)))]) (rest := []) C (tX4_tell l (Int64.toInt32 (x3 / (Int32.toInt64 x2))) M v6 M7 ev6) msX4_tell mw_197 rfl rfl ⟨Nat.le_of_ble_eq_true rfl, Nat.le_of_ble_eq_true rfl⟩ ltC_0 shC_0 rfl rfl rfl rfl (Nat.le_of_ble_eq_true rfl) dX4_mean_73 ?_
    exact bw_ireti (pc := 76) C dX4_mean_76 h
  · refine bw_lload_n (pc := 48) C 3 dX4_mean_48 rfl rfl ?_
    refine bw_aload_n (pc := 49) C 0 dX4_mean_49 rfl rfl ?_
    refine bw_getR (pc := 50) (q := 0) (k0 := 0) C ltC_0 shC_0 rfl inX4 mw_123 (by decide) rfl dX4_mean_50 ?_
    refine bw_iload_n (pc := 53) C 1 dX4_mean_53 rfl rfl ?_
    obtain ⟨qj8, j8, ej8, lj8, h⟩ := bw_ra_o h
    refine bw_aald (pc := 54) (q := 1) (ty := .array .int) C ltC_1 shC_1 rfl rfl qj8 (id_rows ej8 lj8) dX4_mean_54 ?_
    refine bw_iload (pc := 55) C 4 dX4_mean_55 rfl ?_
    obtain ⟨qv9, v9, ev9, h⟩ := bw_rd_o h
    refine bw_iald (pc := 57) (q := (2 + j8)) C (ltC_row lj8) (shC_row lj8) qv9 ev9 dX4_mean_57 ?_
    refine bw_i2l (pc := 58) C dX4_mean_58 ?_
    refine bw_ladd (pc := 59) C dX4_mean_59 ?_
    obtain ⟨v10, ev10, h⟩ := bw_mv_o h
    refine bw_nmL ev10 ?_
    refine bw_lstore_n (pc := 60) (L' := [(3, .long v10), (0, .ref (ρ 0)), (1, .int x1), (2, .int x2), (5, .int x5)]) C dX4_mean_60 rfl (by decide) rfl ?_
    obtain ⟨v11, ev11, h⟩ := bw_mv_o h
    refine bw_iinc (pc := 61) (x := v11) (L' := [(5, .int v11), (3, .long v10), (0, .ref (ρ 0)), (1, .int x1), (2, .int x2)]) C 4 dX4_mean_61 rfl ev11.symm (by decide) rfl ?_
    refine bw_goto (pc := 64) C 42 dX4_mean_64 (by decide) ?_
    refine bw_pick [2, 3, 4, 1, 0] rfl ?_
    exact hk42 (v10, v11) h
def flX4_mean_42 (N : Nat) (x1 : Int32)  (x2 : Int32) (M : bw_M) (fu : Nat) (w : Int64 × Int32) : Option (Int32 × bw_M) := bw_lp (fun kk w => fX4_mean_42 N x1 kk x2 w.1 w.2 M) fu w
theorem tlX4_mean_42 {p : Program} {l : Launch} {e : Env} {s : State} {m : MethodId} {args : Array Value} {below : List Frame} {meth : Method} {c : Code} {D : va_G} {kT : Nat → ClassId} {ρ : Nat → Nat} (C : bw_Cx p s m args meth c cX4_mean 6 RX4 45 D kT ρ (some .int)) (N : Nat) (x1 : Int32)   (x2 : Int32) (M : bw_M) (rr : Int32) (zz : bw_M)  (fu : Nat) (w : Int64 × Int32) (h : flX4_mean_42 N x1 x2 M fu w = some (rr, zz)) : bw_At p l e rmX4_mean s m args below meth c (MQ below (bw_QI bw_shC 45 D kT ρ rr zz) args s 0 0 (bw_A ρ 45)) bw_shC 45 D kT ρ 6 42 [(0, .ref (ρ 0)), (1, .int x1), (2, .int x2), (3, .long w.1), (5, .int w.2)] [] M :=
  bw_loop (r := (rr, zz)) (fun w => bw_At p l e rmX4_mean s m args below meth c (MQ below (bw_QI bw_shC 45 D kT ρ rr zz) args s 0 0 (bw_A ρ 45)) bw_shC 45 D kT ρ 6 42 [(0, .ref (ρ 0)), (1, .int x1), (2, .int x2), (3, .long w.1), (5, .int w.2)] [] M) (fun kk hk w h => tX4_mean_42 C N x1 kk x2 w.1 w.2 M rr zz hk h) fu w h
def fX4_mean (N : Nat) (x1 : Int32) (M : bw_M) : Option (Int32 × bw_M) :=
  bw_cl (fX4_isRow x1) fun v1 =>
  if v1 = 0 then
  some ((-1 : Int32), M)
  else
  bw_rd M 8 6 x1 fun v2 =>
  if v2 = (-1 : Int32) then
  bw_c2 (fX4_found (1 : Int32) M) fun v14 M15 =>
  some (v14, M15)
  else
  if v2 = 0 then
  bw_c2 (fX4_found (4 : Int32) M) fun v12 M13 =>
  some (v12, M13)
  else
  bw_mv (0 : Int64) fun v3 =>
  bw_mv (0 : Int32) fun v4 =>
  flX4_mean_42 N x1 v2 M N (v3, v4)
theorem tX4_mean (l : Launch) (N : Nat) (x1 : Int32)  (M : bw_M) (rr : Int32) (zz : bw_M) (h : fX4_mean N x1 M = some (rr, zz)) : bw_CI l bw_shC 45 yX4_mean cX4_mean 6 (some .int) rmX4_mean (fun ρ => [.ref (ρ 0), .int x1]) M rr zz := by
  refine bw_inI (Lf := fun ρ => [(0, .ref (ρ 0)), (1, .int x1)]) cX4_mean 6 (some .int) RX4 pn_X4 rfl (fun ρ => Nat.le_of_ble_eq_true rfl) (fun ρ => rfl) ?_
  intro p e s m args below meth c D kT ρ C
  unfold fX4_mean at h
  refine bw_iload_n (pc := 0) C 1 dX4_mean_0 rfl rfl ?_
  obtain ⟨v1, ev1, h⟩ := bw_cl_o h
  refine bw_cSi (pc := 1) (As := [.int x1]) (rest := []) C (tX4_isRow l x1 M v1 ev1) msX4_isRow mw_179 rfl rfl ⟨Nat.le_of_ble_eq_true rfl, Nat.le_of_ble_eq_true rfl⟩ rfl rfl rfl (Nat.le_of_ble_eq_true rfl) dX4_mean_1 ?_
  refine bw_if_ne (pc := 4) C 9 dX4_mean_4 (by decide) h (fun h => ?_) (fun h => ?_)
  · refine bw_aload_n (pc := 9) C 0 dX4_mean_9 rfl rfl ?_
    refine bw_getR (pc := 10) (q := 0) (k0 := 1) C ltC_0 shC_0 rfl inX4 mw_124 (by decide) rfl dX4_mean_10 ?_
    refine bw_iload_n (pc := 13) C 1 dX4_mean_13 rfl rfl ?_
    obtain ⟨qv2, v2, ev2, h⟩ := bw_rd_o h
    refine bw_iald (pc := 14) (q := 8) C ltC_8 shC_8 qv2 ev2 dX4_mean_14 ?_
    refine bw_istore_n (pc := 15) (L' := [(2, .int v2), (0, .ref (ρ 0)), (1, .int x1)]) C dX4_mean_15 rfl (by decide) rfl ?_
    refine bw_iload_n (pc := 16) C 0 dX4_mean_16 rfl rfl ?_
    refine bw_iconst (pc := 17) (v := (-1 : Int32)) C dX4_mean_17 ic_m1 ?_
    refine bw_icmp_ne (pc := 18) C 27 dX4_mean_18 (by decide) h (fun h => ?_) (fun h => ?_)
    · refine bw_iload_n (pc := 27) C 0 dX4_mean_27 rfl rfl ?_
      refine bw_if_ne (pc := 28) C 37 dX4_mean_28 (by decide) h (fun h => ?_) (fun h => ?_)
      · refine bw_lconst (pc := 37) (v := (0 : Int64)) C dX4_mean_37 rfl ?_
        obtain ⟨v3, ev3, h⟩ := bw_mv_o h
        refine bw_nmL ev3 ?_
        refine bw_lstore_n (pc := 38) (L' := [(3, .long v3), (2, .int v2), (0, .ref (ρ 0)), (1, .int x1)]) C dX4_mean_38 rfl (by decide) rfl ?_
        refine bw_iconst (pc := 39) (v := (0 : Int32)) C dX4_mean_39 ic_0 ?_
        obtain ⟨v4, ev4, h⟩ := bw_mv_o h
        refine bw_nmI ev4 ?_
        refine bw_istore (pc := 40) (L' := [(5, .int v4), (3, .long v3), (2, .int v2), (0, .ref (ρ 0)), (1, .int x1)]) C dX4_mean_40 (by decide) rfl ?_
        refine bw_pick [3, 4, 2, 1, 0] rfl ?_
        exact tlX4_mean_42 C N x1 v2 M rr zz N (v3, v4) h
      · refine bw_aload_n (pc := 31) C 1 dX4_mean_31 rfl rfl ?_
        refine bw_iconst (pc := 32) (v := (4 : Int32)) C dX4_mean_32 ic_4 ?_
        obtain ⟨v12, M13, ev12, h⟩ := bw_c2_o h
        refine bw_cVi (pc := 33) (q := 0) (As := [.int (4 : Int32)]) (rest := []) C (tX4_found l (4 : Int32) M v12 M13 ev12) msX4_found mw_182 rfl rfl ⟨Nat.le_of_ble_eq_true rfl, Nat.le_of_ble_eq_true rfl⟩ ltC_0 shC_0 rfl rfl rfl rfl (Nat.le_of_ble_eq_true rfl) dX4_mean_33 ?_
        exact bw_ireti (pc := 36) C dX4_mean_36 h
    · refine bw_aload_n (pc := 21) C 1 dX4_mean_21 rfl rfl ?_
      refine bw_iconst (pc := 22) (v := (1 : Int32)) C dX4_mean_22 ic_1 ?_
      obtain ⟨v14, M15, ev14, h⟩ := bw_c2_o h
      refine bw_cVi (pc := 23) (q := 0) (As := [.int (1 : Int32)]) (rest := []) C (tX4_found l (1 : Int32) M v14 M15 ev14) msX4_found mw_182 rfl rfl ⟨Nat.le_of_ble_eq_true rfl, Nat.le_of_ble_eq_true rfl⟩ ltC_0 shC_0 rfl rfl rfl rfl (Nat.le_of_ble_eq_true rfl) dX4_mean_23 ?_
      exact bw_ireti (pc := 26) C dX4_mean_26 h
  · refine bw_iconst (pc := 7) (v := (-1 : Int32)) C dX4_mean_7 ic_m1 ?_
    exact bw_ireti (pc := 8) C dX4_mean_8 h
/-! X4_power -/
abbrev rmX4_power : Room := { frames := 0, cells := 0, slots := 0, locals := 0 }
theorem msX4_power : bw_MS yX4_power cX4_power 6 (some .long) 2 := ⟨mw_542, mw_1, mw_543, by decide +kernel⟩
def fX4_power_5 (N : Nat) (x0 : Int64) (x2 : Int32) (k5 : Int64 × Int32 → Option (Int64)) (x3 : Int64) (x5 : Int32)  : Option (Int64) :=
  if x2 ≤ x5 then
  some x3
  else
  bw_mv (x3 * x0) fun v3 =>
  bw_mv (x5 + 1) fun v4 =>
  k5 (v3, v4)
theorem tX4_power_5 {p : Program} {l : Launch} {e : Env} {s : State} {m : MethodId} {args : Array Value} {below : List Frame} {meth : Method} {c : Code} {D : va_G} {kT : Nat → ClassId} {ρ : Nat → Nat} (C : bw_Cx p s m args meth c cX4_power 6 RX4 45 D kT ρ (some .long)) (N : Nat) (x0 : Int64) (x2 : Int32)  (k5 : Int64 × Int32 → Option (Int64)) (x3 : Int64) (x5 : Int32) (M : bw_M) (rr : Int64) (hk5 : ∀ z0, k5 z0 = some rr → bw_At p l e rmX4_power s m args below meth c (MQ below (bw_QL bw_shC 45 D kT ρ rr M) args s 0 0 (bw_A ρ 45)) bw_shC 45 D kT ρ 6 5 [(0, .long x0), (2, .int x2), (3, .long z0.1), (5, .int z0.2)] [] M) (h : fX4_power_5 N x0 x2 k5 x3 x5 = some rr) : bw_At p l e rmX4_power s m args below meth c (MQ below (bw_QL bw_shC 45 D kT ρ rr M) args s 0 0 (bw_A ρ 45)) bw_shC 45 D kT ρ 6 5 [(0, .long x0), (2, .int x2), (3, .long x3), (5, .int x5)] [] M := by
  unfold fX4_power_5 at h
  refine bw_iload (pc := 5) C 3 dX4_power_5 rfl ?_
  refine bw_iload_n (pc := 7) C 1 dX4_power_7 rfl rfl ?_
  refine bw_icmp_ge (pc := 8) C 21 dX4_power_8 (by decide) h (fun h => ?_) (fun h => ?_)
  · refine bw_lload_n (pc := 21) C 2 dX4_power_21 rfl rfl ?_
    exact bw_lreti (pc := 22) C dX4_power_22 (bw_pr M h)
  · refine bw_lload_n (pc := 11) C 2 dX4_power_11 rfl rfl ?_
    refine bw_lload_n (pc := 12) C 0 dX4_power_12 rfl rfl ?_
    refine bw_lmul (pc := 13) C dX4_power_13 ?_
    obtain ⟨v3, ev3, h⟩ := bw_mv_o h
    refine bw_nmL ev3 ?_
    refine bw_lstore_n (pc := 14) (L' := [(3, .long v3), (0, .long x0), (2, .int x2), (5, .int x5)]) C dX4_power_14 rfl (by decide) rfl ?_
    obtain ⟨v4, ev4, h⟩ := bw_mv_o h
    refine bw_iinc (pc := 15) (x := v4) (L' := [(5, .int v4), (3, .long v3), (0, .long x0), (2, .int x2)]) C 3 dX4_power_15 rfl ev4.symm (by decide) rfl ?_
    refine bw_goto (pc := 18) C 5 dX4_power_18 (by decide) ?_
    refine bw_pick [2, 3, 1, 0] rfl ?_
    exact hk5 (v3, v4) h
def flX4_power_5 (N : Nat) (x0 : Int64) (x2 : Int32)    (fu : Nat) (w : Int64 × Int32) : Option (Int64) := bw_lp (fun kk w => fX4_power_5 N x0 x2 kk w.1 w.2) fu w
theorem tlX4_power_5 {p : Program} {l : Launch} {e : Env} {s : State} {m : MethodId} {args : Array Value} {below : List Frame} {meth : Method} {c : Code} {D : va_G} {kT : Nat → ClassId} {ρ : Nat → Nat} (C : bw_Cx p s m args meth c cX4_power 6 RX4 45 D kT ρ (some .long)) (N : Nat) (x0 : Int64) (x2 : Int32)    (M : bw_M) (rr : Int64)  (fu : Nat) (w : Int64 × Int32) (h : flX4_power_5 N x0 x2 fu w = some rr) : bw_At p l e rmX4_power s m args below meth c (MQ below (bw_QL bw_shC 45 D kT ρ rr M) args s 0 0 (bw_A ρ 45)) bw_shC 45 D kT ρ 6 5 [(0, .long x0), (2, .int x2), (3, .long w.1), (5, .int w.2)] [] M :=
  bw_loop (r := rr) (fun w => bw_At p l e rmX4_power s m args below meth c (MQ below (bw_QL bw_shC 45 D kT ρ rr M) args s 0 0 (bw_A ρ 45)) bw_shC 45 D kT ρ 6 5 [(0, .long x0), (2, .int x2), (3, .long w.1), (5, .int w.2)] [] M) (fun kk hk w h => tX4_power_5 C N x0 x2 kk w.1 w.2 M rr hk h) fu w h
def fX4_power (N : Nat) (x0 : Int64) (x2 : Int32)  : Option (Int64) :=
  bw_mv (1 : Int64) fun v1 =>
  bw_mv (0 : Int32) fun v2 =>
  flX4_power_5 N x0 x2 N (v1, v2)
theorem tX4_power (l : Launch) (N : Nat) (x0 : Int64) (x2 : Int32)  (M : bw_M) (rr : Int64) (h : fX4_power N x0 x2 = some rr) : bw_CL l bw_shC 45 yX4_power cX4_power 6 (some .long) rmX4_power (fun ρ => [.long x0, .int x2]) M rr M := by
  refine bw_inL (Lf := fun ρ => [(0, .long x0), (2, .int x2)]) cX4_power 6 (some .long) RX4 pn_X4 rfl (fun ρ => Nat.le_of_ble_eq_true rfl) (fun ρ => rfl) ?_
  intro p e s m args below meth c D kT ρ C
  unfold fX4_power at h
  refine bw_lconst (pc := 0) (v := (1 : Int64)) C dX4_power_0 rfl ?_
  obtain ⟨v1, ev1, h⟩ := bw_mv_o h
  refine bw_nmL ev1 ?_
  refine bw_lstore_n (pc := 1) (L' := [(3, .long v1), (0, .long x0), (2, .int x2)]) C dX4_power_1 rfl (by decide) rfl ?_
  refine bw_iconst (pc := 2) (v := (0 : Int32)) C dX4_power_2 ic_0 ?_
  obtain ⟨v2, ev2, h⟩ := bw_mv_o h
  refine bw_nmI ev2 ?_
  refine bw_istore (pc := 3) (L' := [(5, .int v2), (3, .long v1), (0, .long x0), (2, .int x2)]) C dX4_power_3 (by decide) rfl ?_
  refine bw_pick [2, 3, 1, 0] rfl ?_
  exact tlX4_power_5 C N x0 x2 M rr N (v1, v2) h
/-! X4_tellMeanOfNextHour -/
abbrev rmX4_tellMeanOfNextHour : Room := { frames := 4, cells := 0, slots := 0, locals := 88 }
theorem msX4_tellMeanOfNextHour : bw_MV yX4_tellMeanOfNextHour cX4_tellMeanOfNextHour 13 none RX4 2 := ⟨mw_539, mw_1089, mw_1, mw_540, by decide +kernel⟩
def fX4_tellMeanOfNextHour_159 (N : Nat) (x1 : Int32) (x2 : Int32) (k27 : Int64 × Int64 × Int32 × bw_M → Option (bw_M)) (x3 : Int32) (x4 : Int64) (x6 : Int64) (x8 : Int32) (M : bw_M) : Option (bw_M) :=
  bw_mv (x8 + 1) fun v7 =>
  k27 (x4, x6, v7, M)
theorem tX4_tellMeanOfNextHour_159 {p : Program} {l : Launch} {e : Env} {s : State} {m : MethodId} {args : Array Value} {below : List Frame} {meth : Method} {c : Code} {D : va_G} {kT : Nat → ClassId} {ρ : Nat → Nat} (C : bw_Cx p s m args meth c cX4_tellMeanOfNextHour 13 RX4 45 D kT ρ none) (N : Nat) (x1 : Int32) (x2 : Int32)  (k27 : Int64 × Int64 × Int32 × bw_M → Option (bw_M)) (x3 : Int32) (x4 : Int64) (x6 : Int64) (x8 : Int32) (M : bw_M) (zz : bw_M) (hk27 : ∀ z0, k27 z0 = some zz → bw_At p l e rmX4_tellMeanOfNextHour s m args below meth c (MQ below (bw_QV bw_shC 45 D kT ρ zz) args s 0 0 (bw_A ρ 45)) bw_shC 45 D kT ρ 13 27 [(0, .ref (ρ 0)), (1, .int x1), (2, .int x2), (3, .int x3), (4, .long z0.1), (6, .long z0.2.1), (8, .int z0.2.2.1)] [] z0.2.2.2) (h : fX4_tellMeanOfNextHour_159 N x1 x2 k27 x3 x4 x6 x8 M = some zz) : bw_At p l e rmX4_tellMeanOfNextHour s m args below meth c (MQ below (bw_QV bw_shC 45 D kT ρ zz) args s 0 0 (bw_A ρ 45)) bw_shC 45 D kT ρ 13 159 [(0, .ref (ρ 0)), (1, .int x1), (2, .int x2), (3, .int x3), (4, .long x4), (6, .long x6), (8, .int x8)] [] M := by
  unfold fX4_tellMeanOfNextHour_159 at h
  obtain ⟨v7, ev7, h⟩ := bw_mv_o h
  refine bw_iinc (pc := 159) (x := v7) (L' := [(8, .int v7), (0, .ref (ρ 0)), (1, .int x1), (2, .int x2), (3, .int x3), (4, .long x4), (6, .long x6)]) C 6 dX4_tellMeanOfNextHour_159 rfl ev7.symm (by decide) rfl ?_
  refine bw_goto (pc := 162) C 27 dX4_tellMeanOfNextHour_162 (by decide) ?_
  refine bw_pick [1, 2, 3, 4, 5, 6, 0] rfl ?_
  exact hk27 (x4, x6, v7, M) h
def fX4_tellMeanOfNextHour_139 (N : Nat) (x1 : Int32) (x2 : Int32) (k27 : Int64 × Int64 × Int32 × bw_M → Option (bw_M)) (x3 : Int32) (x4 : Int64) (x6 : Int64) (x8 : Int32) (x9 : Int64) (s0 : Int32) (M : bw_M) : Option (bw_M) :=
  bw_mv (x4 + (x9 * (Int32.toInt64 s0))) fun v18 =>
  bw_mv (x6 + x9) fun v19 =>
  fX4_tellMeanOfNextHour_159 N x1 x2 k27 x3 v18 v19 x8 M
theorem tX4_tellMeanOfNextHour_139 {p : Program} {l : Launch} {e : Env} {s : State} {m : MethodId} {args : Array Value} {below : List Frame} {meth : Method} {c : Code} {D : va_G} {kT : Nat → ClassId} {ρ : Nat → Nat} (C : bw_Cx p s m args meth c cX4_tellMeanOfNextHour 13 RX4 45 D kT ρ none) (N : Nat) (x1 : Int32) (x2 : Int32)  (k27 : Int64 × Int64 × Int32 × bw_M → Option (bw_M)) (x3 : Int32) (x4 : Int64) (x6 : Int64) (x8 : Int32) (x9 : Int64) (s0 : Int32) (M : bw_M) (zz : bw_M) (hk27 : ∀ z0, k27 z0 = some zz → bw_At p l e rmX4_tellMeanOfNextHour s m args below meth c (MQ below (bw_QV bw_shC 45 D kT ρ zz) args s 0 0 (bw_A ρ 45)) bw_shC 45 D kT ρ 13 27 [(0, .ref (ρ 0)), (1, .int x1), (2, .int x2), (3, .int x3), (4, .long z0.1), (6, .long z0.2.1), (8, .int z0.2.2.1)] [] z0.2.2.2) (h : fX4_tellMeanOfNextHour_139 N x1 x2 k27 x3 x4 x6 x8 x9 s0 M = some zz) : bw_At p l e rmX4_tellMeanOfNextHour s m args below meth c (MQ below (bw_QV bw_shC 45 D kT ρ zz) args s 0 0 (bw_A ρ 45)) bw_shC 45 D kT ρ 13 139 [(0, .ref (ρ 0)), (1, .int x1), (2, .int x2), (3, .int x3), (4, .long x4), (6, .long x6), (8, .int x8), (9, .long x9)] [.int s0] M := by
  unfold fX4_tellMeanOfNextHour_139 at h
  refine bw_istore (pc := 139) (L' := [(12, .int s0), (0, .ref (ρ 0)), (1, .int x1), (2, .int x2), (3, .int x3), (4, .long x4), (6, .long x6), (8, .int x8), (9, .long x9)]) C dX4_tellMeanOfNextHour_139 (by decide) rfl ?_
  refine bw_lload (pc := 141) C 5 dX4_tellMeanOfNextHour_141 rfl ?_
  refine bw_lload (pc := 143) C 8 dX4_tellMeanOfNextHour_143 rfl ?_
  refine bw_iload (pc := 145) C 0 dX4_tellMeanOfNextHour_145 rfl ?_
  refine bw_i2l (pc := 147) C dX4_tellMeanOfNextHour_147 ?_
  refine bw_lmul (pc := 148) C dX4_tellMeanOfNextHour_148 ?_
  refine bw_ladd (pc := 149) C dX4_tellMeanOfNextHour_149 ?_
  obtain ⟨v18, ev18, h⟩ := bw_mv_o h
  refine bw_nmL ev18 ?_
  refine bw_lstore (pc := 150) (L' := [(4, .long v18), (12, .int s0), (0, .ref (ρ 0)), (1, .int x1), (2, .int x2), (3, .int x3), (6, .long x6), (8, .int x8), (9, .long x9)]) C dX4_tellMeanOfNextHour_150 (by decide) rfl ?_
  refine bw_lload (pc := 152) C 6 dX4_tellMeanOfNextHour_152 rfl ?_
  refine bw_lload (pc := 154) C 8 dX4_tellMeanOfNextHour_154 rfl ?_
  refine bw_ladd (pc := 156) C dX4_tellMeanOfNextHour_156 ?_
  obtain ⟨v19, ev19, h⟩ := bw_mv_o h
  refine bw_nmL ev19 ?_
  refine bw_lstore (pc := 157) (L' := [(6, .long v19), (4, .long v18), (12, .int s0), (0, .ref (ρ 0)), (1, .int x1), (2, .int x2), (3, .int x3), (8, .int x8), (9, .long x9)]) C dX4_tellMeanOfNextHour_157 (by decide) rfl ?_
  refine bw_pick [3, 4, 5, 6, 1, 0, 7] rfl ?_
  exact tX4_tellMeanOfNextHour_159 C N x1 x2 k27 x3 v18 v19 x8 M zz hk27 h
def fX4_tellMeanOfNextHour_27 (N : Nat) (x1 : Int32) (x2 : Int32) (k27 : Int64 × Int64 × Int32 × bw_M → Option (bw_M)) (x3 : Int32) (x4 : Int64) (x6 : Int64) (x8 : Int32) (M : bw_M) : Option (bw_M) :=
  if x3 < x8 then
  bw_cl (fX4_tellShare N x4 x6 M) fun M6 =>
  some M6
  else
  if (x8 &&& (x3 ^^^ (-1 : Int32))) = 0 then
  bw_cl (fJ6_bitCount_0f7a4 x8) fun v8 =>
  bw_cl (fX4_power N (Int32.toInt64 x2) v8) fun v9 =>
  bw_cl (fJ6_bitCount_0f7a4 (x3 &&& (x8 ^^^ (-1 : Int32)))) fun v10 =>
  bw_cl (fX4_power N (Int32.toInt64 ((12 : Int32) - x2)) v10) fun v11 =>
  bw_mv (v9 * v11) fun v12 =>
  bw_cl (fX3_become N 22 16 M) fun M13 =>
  bw_mv (bw_pI M13 22 7 ((M13.1 16 7) ||| x8)) fun M14 =>
  bw_c2 (fX3_blow N 22 M14) fun v15 M16 =>
  if x1 = (-9 : Int32) then
  fX4_tellMeanOfNextHour_139 N x1 x2 k27 x3 x4 x6 x8 v12 (M16.1 22 3) M16
  else
  bw_cl (fX3_isIn v15 x1) fun v17 =>
  if v17 = 0 then
  fX4_tellMeanOfNextHour_139 N x1 x2 k27 x3 x4 x6 x8 v12 (0 : Int32) M16
  else
  fX4_tellMeanOfNextHour_139 N x1 x2 k27 x3 x4 x6 x8 v12 (1 : Int32) M16
  else
  fX4_tellMeanOfNextHour_159 N x1 x2 k27 x3 x4 x6 x8 M
theorem tX4_tellMeanOfNextHour_27 {p : Program} {l : Launch} {e : Env} {s : State} {m : MethodId} {args : Array Value} {below : List Frame} {meth : Method} {c : Code} {D : va_G} {kT : Nat → ClassId} {ρ : Nat → Nat} (C : bw_Cx p s m args meth c cX4_tellMeanOfNextHour 13 RX4 45 D kT ρ none) (N : Nat) (x1 : Int32) (x2 : Int32)  (k27 : Int64 × Int64 × Int32 × bw_M → Option (bw_M)) (x3 : Int32) (x4 : Int64) (x6 : Int64) (x8 : Int32) (M : bw_M) (zz : bw_M) (hk27 : ∀ z0, k27 z0 = some zz → bw_At p l e rmX4_tellMeanOfNextHour s m args below meth c (MQ below (bw_QV bw_shC 45 D kT ρ zz) args s 0 0 (bw_A ρ 45)) bw_shC 45 D kT ρ 13 27 [(0, .ref (ρ 0)), (1, .int x1), (2, .int x2), (3, .int x3), (4, .long z0.1), (6, .long z0.2.1), (8, .int z0.2.2.1)] [] z0.2.2.2) (h : fX4_tellMeanOfNextHour_27 N x1 x2 k27 x3 x4 x6 x8 M = some zz) : bw_At p l e rmX4_tellMeanOfNextHour s m args below meth c (MQ below (bw_QV bw_shC 45 D kT ρ zz) args s 0 0 (bw_A ρ 45)) bw_shC 45 D kT ρ 13 27 [(0, .ref (ρ 0)), (1, .int x1), (2, .int x2), (3, .int x3), (4, .long x4), (6, .long x6), (8, .int x8)] [] M := by
  unfold fX4_tellMeanOfNextHour_27 at h
  refine bw_iload (pc := 27) C 6 dX4_tellMeanOfNextHour_27 rfl ?_
  refine bw_iload_n (pc := 29) C 3 dX4_tellMeanOfNextHour_29 rfl rfl ?_
  refine bw_icmp_gt (pc := 30) C 165 dX4_tellMeanOfNextHour_30 (by decide) h (fun h => ?_) (fun h => ?_)
  · refine bw_aload_n (pc := 165) C 0 dX4_tellMeanOfNextHour_165 rfl rfl ?_
    refine bw_lload (pc := 166) C 4 dX4_tellMeanOfNextHour_166 rfl ?_
    refine bw_lload (pc := 168) C 5 dX4_tellMeanOfNextHour_168 rfl ?_
    obtain ⟨M6, eM6, h⟩ := bw_cl_o h
    refine bw_cVv (pc := 170) (q := 0) (As := [.long x4, .long x6]) (rest := []) C (tX4_tellShare l N x4 x6 M M6 eM6) msX4_tellShare mw_477 rfl rfl ⟨Nat.le_of_ble_eq_true rfl, Nat.le_of_ble_eq_true rfl⟩ ltC_0 shC_0 rfl rfl rfl rfl (Nat.le_of_ble_eq_true rfl) dX4_tellMeanOfNextHour_170 ?_
    exact bw_vreti (pc := 173) C dX4_tellMeanOfNextHour_173 h
  · refine bw_iload (pc := 33) C 6 dX4_tellMeanOfNextHour_33 rfl ?_
    refine bw_iload_n (pc := 35) C 3 dX4_tellMeanOfNextHour_35 rfl rfl ?_
    refine bw_iconst (pc := 36) (v := (-1 : Int32)) C dX4_tellMeanOfNextHour_36 ic_m1 ?_
    refine bw_ixor (pc := 37) C dX4_tellMeanOfNextHour_37 ?_
    refine bw_iand (pc := 38) C dX4_tellMeanOfNextHour_38 ?_
    refine bw_if_ne (pc := 39) C 159 dX4_tellMeanOfNextHour_39 (by decide) h (fun h => ?_) (fun h => ?_)
    · refine bw_pick [0, 1, 2, 3, 4, 5, 6] rfl ?_
      exact tX4_tellMeanOfNextHour_159 C N x1 x2 k27 x3 x4 x6 x8 M zz hk27 h
    · refine bw_iload_n (pc := 42) C 2 dX4_tellMeanOfNextHour_42 rfl rfl ?_
      refine bw_i2l (pc := 43) C dX4_tellMeanOfNextHour_43 ?_
      refine bw_iload (pc := 44) C 6 dX4_tellMeanOfNextHour_44 rfl ?_
      obtain ⟨v8, ev8, h⟩ := bw_cl_o h
      refine bw_cSi (pc := 46) (As := [.int x8]) (rest := [.long (Int32.toInt64 x2)]) C (tJ6_bitCount_0f7a4 l x8 M v8 ev8) msJ6_bitCount_0f7a4 mw_434 rfl rfl ⟨Nat.le_of_ble_eq_true rfl, Nat.le_of_ble_eq_true rfl⟩ rfl rfl rfl (Nat.le_of_ble_eq_true rfl) dX4_tellMeanOfNextHour_46 ?_
      obtain ⟨v9, ev9, h⟩ := bw_cl_o h
      refine bw_cSl (pc := 49) (As := [.long (Int32.toInt64 x2), .int v8]) (rest := []) C (tX4_power l N (Int32.toInt64 x2) v8 M v9 ev9) msX4_power mw_541 rfl rfl ⟨Nat.le_of_ble_eq_true rfl, Nat.le_of_ble_eq_true rfl⟩ rfl rfl rfl (Nat.le_of_ble_eq_true rfl) dX4_tellMeanOfNextHour_49 ?_
      refine bw_bipush (pc := 52) (v := (12 : Int32)) C dX4_tellMeanOfNextHour_52 bi_12 ?_
      refine bw_iload_n (pc := 54) C 2 dX4_tellMeanOfNextHour_54 rfl rfl ?_
      refine bw_isub (pc := 55) C dX4_tellMeanOfNextHour_55 ?_
      refine bw_i2l (pc := 56) C dX4_tellMeanOfNextHour_56 ?_
      refine bw_iload_n (pc := 57) C 3 dX4_tellMeanOfNextHour_57 rfl rfl ?_
      refine bw_iload (pc := 58) C 6 dX4_tellMeanOfNextHour_58 rfl ?_
      refine bw_iconst (pc := 60) (v := (-1 : Int32)) C dX4_tellMeanOfNextHour_60 ic_m1 ?_
      refine bw_ixor (pc := 61) C dX4_tellMeanOfNextHour_61 ?_
      refine bw_iand (pc := 62) C dX4_tellMeanOfNextHour_62 ?_
      obtain ⟨v10, ev10, h⟩ := bw_cl_o h
      refine bw_cSi (pc := 63) (As := [.int (x3 &&& (x8 ^^^ (-1 : Int32)))]) (rest := [.long (Int32.toInt64 ((12 : Int32) - x2)), .long v9]) C (tJ6_bitCount_0f7a4 l (x3 &&& (x8 ^^^ (-1 : Int32))) M v10 ev10) msJ6_bitCount_0f7a4 mw_434 rfl rfl ⟨Nat.le_of_ble_eq_true rfl, Nat.le_of_ble_eq_true rfl⟩ rfl rfl rfl (Nat.le_of_ble_eq_true rfl) dX4_tellMeanOfNextHour_63 ?_
      obtain ⟨v11, ev11, h⟩ := bw_cl_o h
      refine bw_cSl (pc := 66) (As := [.long (Int32.toInt64 ((12 : Int32) - x2)), .int v10]) (rest := [.long v9]) C (tX4_power l N (Int32.toInt64 ((12 : Int32) - x2)) v10 M v11 ev11) msX4_power mw_541 rfl rfl ⟨Nat.le_of_ble_eq_true rfl, Nat.le_of_ble_eq_true rfl⟩ rfl rfl rfl (Nat.le_of_ble_eq_true rfl) dX4_tellMeanOfNextHour_66 ?_
      refine bw_lmul (pc := 69) C dX4_tellMeanOfNextHour_69 ?_
      obtain ⟨v12, ev12, h⟩ := bw_mv_o h
      refine bw_nmL ev12 ?_
      refine bw_lstore (pc := 70) (L' := [(9, .long v12), (0, .ref (ρ 0)), (1, .int x1), (2, .int x2), (3, .int x3), (4, .long x4), (6, .long x6), (8, .int x8)]) C dX4_tellMeanOfNextHour_70 (by decide) rfl ?_
      refine bw_aload_n (pc := 72) C 1 dX4_tellMeanOfNextHour_72 rfl rfl ?_
      refine bw_getR (pc := 73) (q := 0) (k0 := 6) C ltC_0 shC_0 rfl inX4 mw_129 (by decide) rfl dX4_tellMeanOfNextHour_73 ?_
      refine bw_aload_n (pc := 76) C 1 dX4_tellMeanOfNextHour_76 rfl rfl ?_
      refine bw_getR (pc := 77) (q := 0) (k0 := 5) C ltC_0 shC_0 rfl inX4 mw_128 (by decide) rfl dX4_tellMeanOfNextHour_77 ?_
      obtain ⟨M13, eM13, h⟩ := bw_cl_o h
      refine bw_cVv (pc := 80) (q := 22) (As := [.ref (ρ 16)]) (rest := []) C (tX3_become l N 22 16 isT_22 isT_16 M M13 eM13) msX3_become mw_282 rfl rfl ⟨Nat.le_of_ble_eq_true rfl, Nat.le_of_ble_eq_true rfl⟩ ltC_22 shC_22 rfl rfl rfl rfl (Nat.le_of_ble_eq_true rfl) dX4_tellMeanOfNextHour_80 ?_
      refine bw_aload_n (pc := 83) C 1 dX4_tellMeanOfNextHour_83 rfl rfl ?_
      refine bw_getR (pc := 84) (q := 0) (k0 := 6) C ltC_0 shC_0 rfl inX4 mw_129 (by decide) rfl dX4_tellMeanOfNextHour_84 ?_
      refine bw_aload_n (pc := 87) C 1 dX4_tellMeanOfNextHour_87 rfl rfl ?_
      refine bw_getR (pc := 88) (q := 0) (k0 := 5) C ltC_0 shC_0 rfl inX4 mw_128 (by decide) rfl dX4_tellMeanOfNextHour_88 ?_
      refine bw_getI (pc := 91) (q := 16) (k0 := 7) C ltC_16 shC_16 rfl inX3 mw_61 (by decide) rfl dX4_tellMeanOfNextHour_91 ?_
      refine bw_iload (pc := 94) C 7 dX4_tellMeanOfNextHour_94 rfl ?_
      refine bw_ior (pc := 96) C dX4_tellMeanOfNextHour_96 ?_
      obtain ⟨M14, eM14, h⟩ := bw_mv_o h
      refine bw_putI (pc := 97) (q := 22) (k0 := 7) C ltC_22 shC_22 rfl inX3 mw_61 (by decide) tyX3 tyX3_ok nmX3 rfl rfl rfl eM14 rfl rfl dX4_tellMeanOfNextHour_97 ?_
      refine bw_aload_n (pc := 100) C 1 dX4_tellMeanOfNextHour_100 rfl rfl ?_
      refine bw_getR (pc := 101) (q := 0) (k0 := 6) C ltC_0 shC_0 rfl inX4 mw_129 (by decide) rfl dX4_tellMeanOfNextHour_101 ?_
      obtain ⟨v15, M16, ev15, h⟩ := bw_c2_o h
      refine bw_cVi (pc := 104) (q := 22) (As := []) (rest := []) C (tX3_blow l N 22 isT_22 M14 v15 M16 ev15) msX3_blow mw_417 rfl rfl ⟨Nat.le_of_ble_eq_true rfl, Nat.le_of_ble_eq_true rfl⟩ ltC_22 shC_22 rfl rfl rfl rfl (Nat.le_of_ble_eq_true rfl) dX4_tellMeanOfNextHour_104 ?_
      refine bw_istore (pc := 107) (L' := [(11, .int v15), (9, .long v12), (0, .ref (ρ 0)), (1, .int x1), (2, .int x2), (3, .int x3), (4, .long x4), (6, .long x6), (8, .int x8)]) C dX4_tellMeanOfNextHour_107 (by decide) rfl ?_
      refine bw_iload_n (pc := 109) C 3 dX4_tellMeanOfNextHour_109 rfl rfl ?_
      refine bw_bipush (pc := 110) (v := (-9 : Int32)) C dX4_tellMeanOfNextHour_110 bi_m9 ?_
      refine bw_icmp_ne (pc := 112) C 125 dX4_tellMeanOfNextHour_112 (by decide) h (fun h => ?_) (fun h => ?_)
      · refine bw_iload (pc := 125) C 0 dX4_tellMeanOfNextHour_125 rfl ?_
        refine bw_iload_n (pc := 127) C 3 dX4_tellMeanOfNextHour_127 rfl rfl ?_
        obtain ⟨v17, ev17, h⟩ := bw_cl_o h
        refine bw_cSi (pc := 128) (As := [.int v15, .int x1]) (rest := []) C (tX3_isIn l v15 x1 M16 v17 ev17) msX3_isIn mw_312 rfl rfl ⟨Nat.le_of_ble_eq_true rfl, Nat.le_of_ble_eq_true rfl⟩ rfl rfl rfl (Nat.le_of_ble_eq_true rfl) dX4_tellMeanOfNextHour_128 ?_
        refine bw_if_eq (pc := 131) C 138 dX4_tellMeanOfNextHour_131 (by decide) h (fun h => ?_) (fun h => ?_)
        · refine bw_iconst (pc := 138) (v := (0 : Int32)) C dX4_tellMeanOfNextHour_138 ic_0 ?_
          refine bw_pick [2, 3, 4, 5, 6, 7, 8, 1] rfl ?_
          exact tX4_tellMeanOfNextHour_139 C N x1 x2 k27 x3 x4 x6 x8 v12 (0 : Int32) M16 zz hk27 h
        · refine bw_iconst (pc := 134) (v := (1 : Int32)) C dX4_tellMeanOfNextHour_134 ic_1 ?_
          refine bw_goto (pc := 135) C 139 dX4_tellMeanOfNextHour_135 (by decide) ?_
          refine bw_pick [2, 3, 4, 5, 6, 7, 8, 1] rfl ?_
          exact tX4_tellMeanOfNextHour_139 C N x1 x2 k27 x3 x4 x6 x8 v12 (1 : Int32) M16 zz hk27 h
      · refine bw_aload_n (pc := 115) C 2 dX4_tellMeanOfNextHour_115 rfl rfl ?_
        refine bw_getR (pc := 116) (q := 0) (k0 := 6) C ltC_0 shC_0 rfl inX4 mw_129 (by decide) rfl dX4_tellMeanOfNextHour_116 ?_
        refine bw_getI (pc := 119) (q := 22) (k0 := 3) C ltC_22 shC_22 rfl inX3 mw_53 (by decide) rfl dX4_tellMeanOfNextHour_119 ?_
        refine bw_goto (pc := 122) C 139 dX4_tellMeanOfNextHour_122 (by decide) ?_
        refine bw_pick [2, 3, 4, 5, 6, 7, 8, 1] rfl ?_
        exact tX4_tellMeanOfNextHour_139 C N x1 x2 k27 x3 x4 x6 x8 v12 (M16.1 22 3) M16 zz hk27 h
def flX4_tellMeanOfNextHour_27 (N : Nat) (x1 : Int32) (x2 : Int32)  (x3 : Int32)  (fu : Nat) (w : Int64 × Int64 × Int32 × bw_M) : Option (bw_M) := bw_lp (fun kk w => fX4_tellMeanOfNextHour_27 N x1 x2 kk x3 w.1 w.2.1 w.2.2.1 w.2.2.2) fu w
theorem tlX4_tellMeanOfNextHour_27 {p : Program} {l : Launch} {e : Env} {s : State} {m : MethodId} {args : Array Value} {below : List Frame} {meth : Method} {c : Code} {D : va_G} {kT : Nat → ClassId} {ρ : Nat → Nat} (C : bw_Cx p s m args meth c cX4_tellMeanOfNextHour 13 RX4 45 D kT ρ none) (N : Nat) (x1 : Int32) (x2 : Int32)   (x3 : Int32)  (zz : bw_M)  (fu : Nat) (w : Int64 × Int64 × Int32 × bw_M) (h : flX4_tellMeanOfNextHour_27 N x1 x2 x3 fu w = some zz) : bw_At p l e rmX4_tellMeanOfNextHour s m args below meth c (MQ below (bw_QV bw_shC 45 D kT ρ zz) args s 0 0 (bw_A ρ 45)) bw_shC 45 D kT ρ 13 27 [(0, .ref (ρ 0)), (1, .int x1), (2, .int x2), (3, .int x3), (4, .long w.1), (6, .long w.2.1), (8, .int w.2.2.1)] [] w.2.2.2 :=
  bw_loop (r := zz) (fun w => bw_At p l e rmX4_tellMeanOfNextHour s m args below meth c (MQ below (bw_QV bw_shC 45 D kT ρ zz) args s 0 0 (bw_A ρ 45)) bw_shC 45 D kT ρ 13 27 [(0, .ref (ρ 0)), (1, .int x1), (2, .int x2), (3, .int x3), (4, .long w.1), (6, .long w.2.1), (8, .int w.2.2.1)] [] w.2.2.2) (fun kk hk w h => tX4_tellMeanOfNextHour_27 C N x1 x2 kk x3 w.1 w.2.1 w.2.2.1 w.2.2.2 zz hk h) fu w h
def fX4_tellMeanOfNextHour (N : Nat) (x1 : Int32) (x2 : Int32) (M : bw_M) : Option (bw_M) :=
  bw_cl (fX3_allPipes 16 M) fun v1 =>
  bw_mv (v1 &&& ((M.1 16 7) ^^^ (-1 : Int32))) fun v2 =>
  bw_mv (0 : Int64) fun v3 =>
  bw_mv (0 : Int64) fun v4 =>
  bw_mv (0 : Int32) fun v5 =>
  flX4_tellMeanOfNextHour_27 N x1 x2 v2 N (v3, v4, v5, M)
theorem tX4_tellMeanOfNextHour (l : Launch) (N : Nat) (x1 : Int32) (x2 : Int32)  (M : bw_M) (zz : bw_M) (h : fX4_tellMeanOfNextHour N x1 x2 M = some zz) : bw_CV l bw_shC 45 yX4_tellMeanOfNextHour cX4_tellMeanOfNextHour 13 none rmX4_tellMeanOfNextHour (fun ρ => [.ref (ρ 0), .int x1, .int x2]) M zz := by
  refine bw_inV (Lf := fun ρ => [(0, .ref (ρ 0)), (1, .int x1), (2, .int x2)]) cX4_tellMeanOfNextHour 13 none RX4 pn_X4 rfl (fun ρ => Nat.le_of_ble_eq_true rfl) (fun ρ => rfl) ?_
  intro p e s m args below meth c D kT ρ C
  unfold fX4_tellMeanOfNextHour at h
  refine bw_aload_n (pc := 0) C 0 dX4_tellMeanOfNextHour_0 rfl rfl ?_
  refine bw_getR (pc := 1) (q := 0) (k0 := 5) C ltC_0 shC_0 rfl inX4 mw_128 (by decide) rfl dX4_tellMeanOfNextHour_1 ?_
  obtain ⟨v1, ev1, h⟩ := bw_cl_o h
  refine bw_cVi (pc := 4) (q := 16) (As := []) (rest := []) C (tX3_allPipes l 16 isT_16 M v1 ev1) msX3_allPipes mw_430 rfl rfl ⟨Nat.le_of_ble_eq_true rfl, Nat.le_of_ble_eq_true rfl⟩ ltC_16 shC_16 rfl rfl rfl rfl (Nat.le_of_ble_eq_true rfl) dX4_tellMeanOfNextHour_4 ?_
  refine bw_aload_n (pc := 7) C 0 dX4_tellMeanOfNextHour_7 rfl rfl ?_
  refine bw_getR (pc := 8) (q := 0) (k0 := 5) C ltC_0 shC_0 rfl inX4 mw_128 (by decide) rfl dX4_tellMeanOfNextHour_8 ?_
  refine bw_getI (pc := 11) (q := 16) (k0 := 7) C ltC_16 shC_16 rfl inX3 mw_61 (by decide) rfl dX4_tellMeanOfNextHour_11 ?_
  refine bw_iconst (pc := 14) (v := (-1 : Int32)) C dX4_tellMeanOfNextHour_14 ic_m1 ?_
  refine bw_ixor (pc := 15) C dX4_tellMeanOfNextHour_15 ?_
  refine bw_iand (pc := 16) C dX4_tellMeanOfNextHour_16 ?_
  obtain ⟨v2, ev2, h⟩ := bw_mv_o h
  refine bw_nmI ev2 ?_
  refine bw_istore_n (pc := 17) (L' := [(3, .int v2), (0, .ref (ρ 0)), (1, .int x1), (2, .int x2)]) C dX4_tellMeanOfNextHour_17 rfl (by decide) rfl ?_
  refine bw_lconst (pc := 18) (v := (0 : Int64)) C dX4_tellMeanOfNextHour_18 rfl ?_
  obtain ⟨v3, ev3, h⟩ := bw_mv_o h
  refine bw_nmL ev3 ?_
  refine bw_lstore (pc := 19) (L' := [(4, .long v3), (3, .int v2), (0, .ref (ρ 0)), (1, .int x1), (2, .int x2)]) C dX4_tellMeanOfNextHour_19 (by decide) rfl ?_
  refine bw_lconst (pc := 21) (v := (0 : Int64)) C dX4_tellMeanOfNextHour_21 rfl ?_
  obtain ⟨v4, ev4, h⟩ := bw_mv_o h
  refine bw_nmL ev4 ?_
  refine bw_lstore (pc := 22) (L' := [(6, .long v4), (4, .long v3), (3, .int v2), (0, .ref (ρ 0)), (1, .int x1), (2, .int x2)]) C dX4_tellMeanOfNextHour_22 (by decide) rfl ?_
  refine bw_iconst (pc := 24) (v := (0 : Int32)) C dX4_tellMeanOfNextHour_24 ic_0 ?_
  obtain ⟨v5, ev5, h⟩ := bw_mv_o h
  refine bw_nmI ev5 ?_
  refine bw_istore (pc := 25) (L' := [(8, .int v5), (6, .long v4), (4, .long v3), (3, .int v2), (0, .ref (ρ 0)), (1, .int x1), (2, .int x2)]) C dX4_tellMeanOfNextHour_25 (by decide) rfl ?_
  refine bw_pick [4, 5, 6, 3, 2, 1, 0] rfl ?_
  exact tlX4_tellMeanOfNextHour_27 C N x1 x2 v2 zz N (v3, v4, v5, M) h
/-! X4_mid -/
abbrev rmX4_mid : Room := { frames := 5, cells := 0, slots := 0, locals := 120 }
theorem msX4_mid : bw_MV yX4_mid cX4_mid 2 (some .int) RX4 1 := ⟨mw_545, mw_546, mw_1, mw_547, by decide +kernel⟩
def fX4_mid_10 (N : Nat) (x1 : Int32)   (M : bw_M) : Option (Int32 × bw_M) :=
  some ((-1 : Int32), M)
theorem tX4_mid_10 {p : Program} {l : Launch} {e : Env} {s : State} {m : MethodId} {args : Array Value} {below : List Frame} {meth : Method} {c : Code} {D : va_G} {kT : Nat → ClassId} {ρ : Nat → Nat} (C : bw_Cx p s m args meth c cX4_mid 2 RX4 45 D kT ρ (some .int)) (N : Nat) (x1 : Int32)    (M : bw_M) (rr : Int32) (zz : bw_M)  (h : fX4_mid_10 N x1 M = some (rr, zz)) : bw_At p l e rmX4_mid s m args below meth c (MQ below (bw_QI bw_shC 45 D kT ρ rr zz) args s 0 0 (bw_A ρ 45)) bw_shC 45 D kT ρ 2 10 [(0, .ref (ρ 0)), (1, .int x1)] [] M := by
  unfold fX4_mid_10 at h
  refine bw_iconst (pc := 10) (v := (-1 : Int32)) C dX4_mid_10 ic_m1 ?_
  exact bw_ireti (pc := 11) C dX4_mid_11 h
def fX4_mid (N : Nat) (x1 : Int32) (M : bw_M) : Option (Int32 × bw_M) :=
  if x1 < 0 then
  fX4_mid_10 N x1 M
  else
  if x1 ≤ (12 : Int32) then
  if (M.1 16 0) = 0 then
  some ((-4 : Int32), M)
  else
  bw_cl (fX4_tellMeanOfNextHour N (-9 : Int32) x1 M) fun M1 =>
  some ((1 : Int32), M1)
  else
  fX4_mid_10 N x1 M
theorem tX4_mid (l : Launch) (N : Nat) (x1 : Int32)  (M : bw_M) (rr : Int32) (zz : bw_M) (h : fX4_mid N x1 M = some (rr, zz)) : bw_CI l bw_shC 45 yX4_mid cX4_mid 2 (some .int) rmX4_mid (fun ρ => [.ref (ρ 0), .int x1]) M rr zz := by
  refine bw_inI (Lf := fun ρ => [(0, .ref (ρ 0)), (1, .int x1)]) cX4_mid 2 (some .int) RX4 pn_X4 rfl (fun ρ => Nat.le_of_ble_eq_true rfl) (fun ρ => rfl) ?_
  intro p e s m args below meth c D kT ρ C
  unfold fX4_mid at h
  refine bw_iload_n (pc := 0) C 1 dX4_mid_0 rfl rfl ?_
  refine bw_if_lt (pc := 1) C 10 dX4_mid_1 (by decide) h (fun h => ?_) (fun h => ?_)
  · refine bw_pick [0, 1] rfl ?_
    exact tX4_mid_10 C N x1 M rr zz h
  · refine bw_iload_n (pc := 4) C 1 dX4_mid_4 rfl rfl ?_
    refine bw_bipush (pc := 5) (v := (12 : Int32)) C dX4_mid_5 bi_12 ?_
    refine bw_icmp_le (pc := 7) C 12 dX4_mid_7 (by decide) h (fun h => ?_) (fun h => ?_)
    · refine bw_aload_n (pc := 12) C 0 dX4_mid_12 rfl rfl ?_
      refine bw_getR (pc := 13) (q := 0) (k0 := 5) C ltC_0 shC_0 rfl inX4 mw_128 (by decide) rfl dX4_mid_13 ?_
      refine bw_getI (pc := 16) (q := 16) (k0 := 0) C ltC_16 shC_16 rfl inX3 mw_49 (by decide) rfl dX4_mid_16 ?_
      refine bw_if_ne (pc := 19) C 25 dX4_mid_19 (by decide) h (fun h => ?_) (fun h => ?_)
      · refine bw_aload_n (pc := 25) C 0 dX4_mid_25 rfl rfl ?_
        refine bw_bipush (pc := 26) (v := (-9 : Int32)) C dX4_mid_26 bi_m9 ?_
        refine bw_iload_n (pc := 28) C 1 dX4_mid_28 rfl rfl ?_
        obtain ⟨M1, eM1, h⟩ := bw_cl_o h
        refine bw_cVv (pc := 29) (q := 0) (As := [.int (-9 : Int32), .int x1]) (rest := []) C (tX4_tellMeanOfNextHour l N (-9 : Int32) x1 M M1 eM1) msX4_tellMeanOfNextHour mw_537 rfl rfl ⟨Nat.le_of_ble_eq_true rfl, Nat.le_of_ble_eq_true rfl⟩ ltC_0 shC_0 rfl rfl rfl rfl (Nat.le_of_ble_eq_true rfl) dX4_mid_29 ?_
        refine bw_iconst (pc := 32) (v := (1 : Int32)) C dX4_mid_32 ic_1 ?_
        exact bw_ireti (pc := 33) C dX4_mid_33 h
      · refine bw_bipush (pc := 22) (v := (-4 : Int32)) C dX4_mid_22 bi_m4 ?_
        exact bw_ireti (pc := 24) C dX4_mid_24 h
    · refine bw_pick [0, 1] rfl ?_
      exact tX4_mid_10 C N x1 M rr zz h
/-! X4_odds -/
abbrev rmX4_odds : Room := { frames := 5, cells := 0, slots := 0, locals := 120 }
theorem msX4_odds : bw_MV yX4_odds cX4_odds 3 (some .int) RX4 2 := ⟨mw_534, mw_535, mw_1, mw_536, by decide +kernel⟩
def fX4_odds_21 (N : Nat) (x1 : Int32) (x2 : Int32)   (M : bw_M) : Option (Int32 × bw_M) :=
  some ((-1 : Int32), M)
theorem tX4_odds_21 {p : Program} {l : Launch} {e : Env} {s : State} {m : MethodId} {args : Array Value} {below : List Frame} {meth : Method} {c : Code} {D : va_G} {kT : Nat → ClassId} {ρ : Nat → Nat} (C : bw_Cx p s m args meth c cX4_odds 3 RX4 45 D kT ρ (some .int)) (N : Nat) (x1 : Int32) (x2 : Int32)    (M : bw_M) (rr : Int32) (zz : bw_M)  (h : fX4_odds_21 N x1 x2 M = some (rr, zz)) : bw_At p l e rmX4_odds s m args below meth c (MQ below (bw_QI bw_shC 45 D kT ρ rr zz) args s 0 0 (bw_A ρ 45)) bw_shC 45 D kT ρ 3 21 [(0, .ref (ρ 0)), (1, .int x1), (2, .int x2)] [] M := by
  unfold fX4_odds_21 at h
  refine bw_iconst (pc := 21) (v := (-1 : Int32)) C dX4_odds_21 ic_m1 ?_
  exact bw_ireti (pc := 22) C dX4_odds_22 h
def fX4_odds (N : Nat) (x1 : Int32) (x2 : Int32) (M : bw_M) : Option (Int32 × bw_M) :=
  bw_cl (fX3_hasPipe 16 x1 M) fun v1 =>
  if v1 = 0 then
  fX4_odds_21 N x1 x2 M
  else
  if x2 < 0 then
  fX4_odds_21 N x1 x2 M
  else
  if x2 ≤ (12 : Int32) then
  bw_cl (fX4_tellMeanOfNextHour N x1 x2 M) fun M2 =>
  some ((1 : Int32), M2)
  else
  fX4_odds_21 N x1 x2 M
theorem tX4_odds (l : Launch) (N : Nat) (x1 : Int32) (x2 : Int32)  (M : bw_M) (rr : Int32) (zz : bw_M) (h : fX4_odds N x1 x2 M = some (rr, zz)) : bw_CI l bw_shC 45 yX4_odds cX4_odds 3 (some .int) rmX4_odds (fun ρ => [.ref (ρ 0), .int x1, .int x2]) M rr zz := by
  refine bw_inI (Lf := fun ρ => [(0, .ref (ρ 0)), (1, .int x1), (2, .int x2)]) cX4_odds 3 (some .int) RX4 pn_X4 rfl (fun ρ => Nat.le_of_ble_eq_true rfl) (fun ρ => rfl) ?_
  intro p e s m args below meth c D kT ρ C
  unfold fX4_odds at h
  refine bw_aload_n (pc := 0) C 0 dX4_odds_0 rfl rfl ?_
  refine bw_getR (pc := 1) (q := 0) (k0 := 5) C ltC_0 shC_0 rfl inX4 mw_128 (by decide) rfl dX4_odds_1 ?_
  refine bw_iload_n (pc := 4) C 1 dX4_odds_4 rfl rfl ?_
  obtain ⟨v1, ev1, h⟩ := bw_cl_o h
  refine bw_cVi (pc := 5) (q := 16) (As := [.int x1]) (rest := []) C (tX3_hasPipe l 16 x1 isT_16 M v1 ev1) msX3_hasPipe mw_290 rfl rfl ⟨Nat.le_of_ble_eq_true rfl, Nat.le_of_ble_eq_true rfl⟩ ltC_16 shC_16 rfl rfl rfl rfl (Nat.le_of_ble_eq_true rfl) dX4_odds_5 ?_
  refine bw_if_eq (pc := 8) C 21 dX4_odds_8 (by decide) h (fun h => ?_) (fun h => ?_)
  · refine bw_pick [0, 1, 2] rfl ?_
    exact tX4_odds_21 C N x1 x2 M rr zz h
  · refine bw_iload_n (pc := 11) C 2 dX4_odds_11 rfl rfl ?_
    refine bw_if_lt (pc := 12) C 21 dX4_odds_12 (by decide) h (fun h => ?_) (fun h => ?_)
    · refine bw_pick [0, 1, 2] rfl ?_
      exact tX4_odds_21 C N x1 x2 M rr zz h
    · refine bw_iload_n (pc := 15) C 2 dX4_odds_15 rfl rfl ?_
      refine bw_bipush (pc := 16) (v := (12 : Int32)) C dX4_odds_16 bi_12 ?_
      refine bw_icmp_le (pc := 18) C 23 dX4_odds_18 (by decide) h (fun h => ?_) (fun h => ?_)
      · refine bw_aload_n (pc := 23) C 0 dX4_odds_23 rfl rfl ?_
        refine bw_iload_n (pc := 24) C 1 dX4_odds_24 rfl rfl ?_
        refine bw_iload_n (pc := 25) C 2 dX4_odds_25 rfl rfl ?_
        obtain ⟨M2, eM2, h⟩ := bw_cl_o h
        refine bw_cVv (pc := 26) (q := 0) (As := [.int x1, .int x2]) (rest := []) C (tX4_tellMeanOfNextHour l N x1 x2 M M2 eM2) msX4_tellMeanOfNextHour mw_537 rfl rfl ⟨Nat.le_of_ble_eq_true rfl, Nat.le_of_ble_eq_true rfl⟩ ltC_0 shC_0 rfl rfl rfl rfl (Nat.le_of_ble_eq_true rfl) dX4_odds_26 ?_
        refine bw_iconst (pc := 29) (v := (1 : Int32)) C dX4_odds_29 ic_1 ?_
        exact bw_ireti (pc := 30) C dX4_odds_30 h
      · refine bw_pick [0, 1, 2] rfl ?_
        exact tX4_odds_21 C N x1 x2 M rr zz h
/-! X4_on -/
abbrev rmX4_on : Room := { frames := 6, cells := 0, slots := 0, locals := 133 }
theorem msX4_on : bw_MV yX4_on cX4_on 2 (some .int) RX4 1 := ⟨mw_405, mw_406, mw_1, mw_407, by decide +kernel⟩
def fX4_on (N : Nat) (x1 : Int32) (M : bw_M) : Option (Int32 × bw_M) :=
  bw_cl (fX4_isKeepingPlace x1) fun v1 =>
  if v1 = 0 then
  some ((-1 : Int32), M)
  else
  bw_ra 3 x1 fun j2 =>
  if (M.1 (32 + 3 * j2) 2) = (-1 : Int32) then
  bw_c2 (fX4_found (1 : Int32) M) fun v6 M7 =>
  some (v6, M7)
  else
  bw_ra 3 x1 fun j3 =>
  bw_cl (fX0_become 28 (32 + 3 * j3) M) fun M4 =>
  bw_cl (fX3_relive N 16 28 M4) fun M5 =>
  some ((M5.1 28 2), M5)
theorem tX4_on (l : Launch) (N : Nat) (x1 : Int32)  (M : bw_M) (rr : Int32) (zz : bw_M) (h : fX4_on N x1 M = some (rr, zz)) : bw_CI l bw_shC 45 yX4_on cX4_on 2 (some .int) rmX4_on (fun ρ => [.ref (ρ 0), .int x1]) M rr zz := by
  refine bw_inI (Lf := fun ρ => [(0, .ref (ρ 0)), (1, .int x1)]) cX4_on 2 (some .int) RX4 pn_X4 rfl (fun ρ => Nat.le_of_ble_eq_true rfl) (fun ρ => rfl) ?_
  intro p e s m args below meth c D kT ρ C
  unfold fX4_on at h
  refine bw_iload_n (pc := 0) C 1 dX4_on_0 rfl rfl ?_
  obtain ⟨v1, ev1, h⟩ := bw_cl_o h
  refine bw_cSi (pc := 1) (As := [.int x1]) (rest := []) C (tX4_isKeepingPlace l x1 M v1 ev1) msX4_isKeepingPlace mw_396 rfl rfl ⟨Nat.le_of_ble_eq_true rfl, Nat.le_of_ble_eq_true rfl⟩ rfl rfl rfl (Nat.le_of_ble_eq_true rfl) dX4_on_1 ?_
  refine bw_if_ne (pc := 4) C 9 dX4_on_4 (by decide) h (fun h => ?_) (fun h => ?_)
  · refine bw_aload_n (pc := 9) C 0 dX4_on_9 rfl rfl ?_
    refine bw_getR (pc := 10) (q := 0) (k0 := 8) C ltC_0 shC_0 rfl inX4 mw_131 (by decide) rfl dX4_on_10 ?_
    refine bw_iload_n (pc := 13) C 1 dX4_on_13 rfl rfl ?_
    obtain ⟨qj2, j2, ej2, lj2, h⟩ := bw_ra_o h
    refine bw_aald (pc := 14) (q := 31) (ty := .object "BlowerBreath$Deeds") C ltC_31 shC_31 rfl rfl qj2 (id_kept ej2 lj2) dX4_on_14 ?_
    refine bw_getI (pc := 15) (q := (32 + 3 * j2)) (k0 := 2) C (ltC_D (isD_k lj2)) (shC_D (isD_k lj2)) rfl inX0 mw_110 (by decide) rfl dX4_on_15 ?_
    refine bw_iconst (pc := 18) (v := (-1 : Int32)) C dX4_on_18 ic_m1 ?_
    refine bw_icmp_ne (pc := 19) C 28 dX4_on_19 (by decide) h (fun h => ?_) (fun h => ?_)
    · refine bw_aload_n (pc := 28) C 0 dX4_on_28 rfl rfl ?_
      refine bw_getR (pc := 29) (q := 0) (k0 := 7) C ltC_0 shC_0 rfl inX4 mw_130 (by decide) rfl dX4_on_29 ?_
      refine bw_aload_n (pc := 32) C 0 dX4_on_32 rfl rfl ?_
      refine bw_getR (pc := 33) (q := 0) (k0 := 8) C ltC_0 shC_0 rfl inX4 mw_131 (by decide) rfl dX4_on_33 ?_
      refine bw_iload_n (pc := 36) C 1 dX4_on_36 rfl rfl ?_
      obtain ⟨qj3, j3, ej3, lj3, h⟩ := bw_ra_o h
      refine bw_aald (pc := 37) (q := 31) (ty := .object "BlowerBreath$Deeds") C ltC_31 shC_31 rfl rfl qj3 (id_kept ej3 lj3) dX4_on_37 ?_
      obtain ⟨M4, eM4, h⟩ := bw_cl_o h
      refine bw_cVv (pc := 38) (q := 28) (As := [.ref (ρ (32 + 3 * j3))]) (rest := []) C (tX0_become l 28 (32 + 3 * j3) isD_28 (isD_k lj3) M M4 eM4) msX0_become mw_399 rfl rfl ⟨Nat.le_of_ble_eq_true rfl, Nat.le_of_ble_eq_true rfl⟩ ltC_28 shC_28 rfl rfl rfl rfl (Nat.le_of_ble_eq_true rfl) dX4_on_38 ?_
      refine bw_aload_n (pc := 41) C 0 dX4_on_41 rfl rfl ?_
      refine bw_getR (pc := 42) (q := 0) (k0 := 5) C ltC_0 shC_0 rfl inX4 mw_128 (by decide) rfl dX4_on_42 ?_
      refine bw_aload_n (pc := 45) C 0 dX4_on_45 rfl rfl ?_
      refine bw_getR (pc := 46) (q := 0) (k0 := 7) C ltC_0 shC_0 rfl inX4 mw_130 (by decide) rfl dX4_on_46 ?_
      obtain ⟨M5, eM5, h⟩ := bw_cl_o h
      refine bw_cVv (pc := 49) (q := 16) (As := [.ref (ρ 28)]) (rest := []) C (tX3_relive l N 16 28 isT_16 isD_28 M4 M5 eM5) msX3_relive mw_387 rfl rfl ⟨Nat.le_of_ble_eq_true rfl, Nat.le_of_ble_eq_true rfl⟩ ltC_16 shC_16 rfl rfl rfl rfl (Nat.le_of_ble_eq_true rfl) dX4_on_49 ?_
      refine bw_aload_n (pc := 52) C 0 dX4_on_52 rfl rfl ?_
      refine bw_getR (pc := 53) (q := 0) (k0 := 7) C ltC_0 shC_0 rfl inX4 mw_130 (by decide) rfl dX4_on_53 ?_
      refine bw_getI (pc := 56) (q := 28) (k0 := 2) C ltC_28 shC_28 rfl inX0 mw_110 (by decide) rfl dX4_on_56 ?_
      exact bw_ireti (pc := 59) C dX4_on_59 h
    · refine bw_aload_n (pc := 22) C 0 dX4_on_22 rfl rfl ?_
      refine bw_iconst (pc := 23) (v := (1 : Int32)) C dX4_on_23 ic_1 ?_
      obtain ⟨v6, M7, ev6, h⟩ := bw_c2_o h
      refine bw_cVi (pc := 24) (q := 0) (As := [.int (1 : Int32)]) (rest := []) C (tX4_found l (1 : Int32) M v6 M7 ev6) msX4_found mw_182 rfl rfl ⟨Nat.le_of_ble_eq_true rfl, Nat.le_of_ble_eq_true rfl⟩ ltC_0 shC_0 rfl rfl rfl rfl (Nat.le_of_ble_eq_true rfl) dX4_on_24 ?_
      exact bw_ireti (pc := 27) C dX4_on_27 h
  · refine bw_iconst (pc := 7) (v := (-1 : Int32)) C dX4_on_7 ic_m1 ?_
    exact bw_ireti (pc := 8) C dX4_on_8 h
/-! X4_pipe -/
abbrev rmX4_pipe : Room := { frames := 3, cells := 0, slots := 0, locals := 65 }
theorem msX4_pipe : bw_MV yX4_pipe cX4_pipe 3 (some .int) RX4 2 := ⟨mw_287, mw_288, mw_1, mw_289, by decide +kernel⟩
def fX4_pipe_21 (N : Nat) (x1 : Int32) (x2 : Int32)   (M : bw_M) : Option (Int32 × bw_M) :=
  some ((-1 : Int32), M)
theorem tX4_pipe_21 {p : Program} {l : Launch} {e : Env} {s : State} {m : MethodId} {args : Array Value} {below : List Frame} {meth : Method} {c : Code} {D : va_G} {kT : Nat → ClassId} {ρ : Nat → Nat} (C : bw_Cx p s m args meth c cX4_pipe 3 RX4 45 D kT ρ (some .int)) (N : Nat) (x1 : Int32) (x2 : Int32)    (M : bw_M) (rr : Int32) (zz : bw_M)  (h : fX4_pipe_21 N x1 x2 M = some (rr, zz)) : bw_At p l e rmX4_pipe s m args below meth c (MQ below (bw_QI bw_shC 45 D kT ρ rr zz) args s 0 0 (bw_A ρ 45)) bw_shC 45 D kT ρ 3 21 [(0, .ref (ρ 0)), (1, .int x1), (2, .int x2)] [] M := by
  unfold fX4_pipe_21 at h
  refine bw_iconst (pc := 21) (v := (-1 : Int32)) C dX4_pipe_21 ic_m1 ?_
  exact bw_ireti (pc := 22) C dX4_pipe_22 h
def fX4_pipe (N : Nat) (x1 : Int32) (x2 : Int32) (M : bw_M) : Option (Int32 × bw_M) :=
  bw_cl (fX3_hasPipe 16 x1 M) fun v1 =>
  if v1 = 0 then
  fX4_pipe_21 N x1 x2 M
  else
  if x2 < 0 then
  fX4_pipe_21 N x1 x2 M
  else
  if x2 < (8 : Int32) then
  bw_cl (fX4_pipeFact N x1 x2 M) fun v2 =>
  bw_c2 (fX4_tell v2 M) fun v3 M4 =>
  some (v3, M4)
  else
  fX4_pipe_21 N x1 x2 M
theorem tX4_pipe (l : Launch) (N : Nat) (x1 : Int32) (x2 : Int32)  (M : bw_M) (rr : Int32) (zz : bw_M) (h : fX4_pipe N x1 x2 M = some (rr, zz)) : bw_CI l bw_shC 45 yX4_pipe cX4_pipe 3 (some .int) rmX4_pipe (fun ρ => [.ref (ρ 0), .int x1, .int x2]) M rr zz := by
  refine bw_inI (Lf := fun ρ => [(0, .ref (ρ 0)), (1, .int x1), (2, .int x2)]) cX4_pipe 3 (some .int) RX4 pn_X4 rfl (fun ρ => Nat.le_of_ble_eq_true rfl) (fun ρ => rfl) ?_
  intro p e s m args below meth c D kT ρ C
  unfold fX4_pipe at h
  refine bw_aload_n (pc := 0) C 0 dX4_pipe_0 rfl rfl ?_
  refine bw_getR (pc := 1) (q := 0) (k0 := 5) C ltC_0 shC_0 rfl inX4 mw_128 (by decide) rfl dX4_pipe_1 ?_
  refine bw_iload_n (pc := 4) C 1 dX4_pipe_4 rfl rfl ?_
  obtain ⟨v1, ev1, h⟩ := bw_cl_o h
  refine bw_cVi (pc := 5) (q := 16) (As := [.int x1]) (rest := []) C (tX3_hasPipe l 16 x1 isT_16 M v1 ev1) msX3_hasPipe mw_290 rfl rfl ⟨Nat.le_of_ble_eq_true rfl, Nat.le_of_ble_eq_true rfl⟩ ltC_16 shC_16 rfl rfl rfl rfl (Nat.le_of_ble_eq_true rfl) dX4_pipe_5 ?_
  refine bw_if_eq (pc := 8) C 21 dX4_pipe_8 (by decide) h (fun h => ?_) (fun h => ?_)
  · refine bw_pick [0, 1, 2] rfl ?_
    exact tX4_pipe_21 C N x1 x2 M rr zz h
  · refine bw_iload_n (pc := 11) C 2 dX4_pipe_11 rfl rfl ?_
    refine bw_if_lt (pc := 12) C 21 dX4_pipe_12 (by decide) h (fun h => ?_) (fun h => ?_)
    · refine bw_pick [0, 1, 2] rfl ?_
      exact tX4_pipe_21 C N x1 x2 M rr zz h
    · refine bw_iload_n (pc := 15) C 2 dX4_pipe_15 rfl rfl ?_
      refine bw_bipush (pc := 16) (v := (8 : Int32)) C dX4_pipe_16 bi_8 ?_
      refine bw_icmp_lt (pc := 18) C 23 dX4_pipe_18 (by decide) h (fun h => ?_) (fun h => ?_)
      · refine bw_aload_n (pc := 23) C 0 dX4_pipe_23 rfl rfl ?_
        refine bw_aload_n (pc := 24) C 0 dX4_pipe_24 rfl rfl ?_
        refine bw_iload_n (pc := 25) C 1 dX4_pipe_25 rfl rfl ?_
        refine bw_iload_n (pc := 26) C 2 dX4_pipe_26 rfl rfl ?_
        obtain ⟨v2, ev2, h⟩ := bw_cl_o h
        refine bw_cVi (pc := 27) (q := 0) (As := [.int x1, .int x2]) (rest := [.ref (ρ 0)]) C (tX4_pipeFact l N x1 x2 M v2 ev2) msX4_pipeFact mw_294 rfl rfl ⟨Nat.le_of_ble_eq_true rfl, Nat.le_of_ble_eq_true rfl⟩ ltC_0 shC_0 rfl rfl rfl rfl (Nat.le_of_ble_eq_true rfl) dX4_pipe_27 ?_
        obtain ⟨v3, M4, ev3, h⟩ := bw_c2_o h
        refine bw_cVi (pc := 30) (q := 0) (As := [.int v2]) (rest := []) C (tX4_tell l v2 M v3 M4 ev3) msX4_tell mw_197 rfl rfl ⟨Nat.le_of_ble_eq_true rfl, Nat.le_of_ble_eq_true rfl⟩ ltC_0 shC_0 rfl rfl rfl rfl (Nat.le_of_ble_eq_true rfl) dX4_pipe_30 ?_
        exact bw_ireti (pc := 33) C dX4_pipe_33 h
      · refine bw_pick [0, 1, 2] rfl ?_
        exact tX4_pipe_21 C N x1 x2 M rr zz h
/-! X4_pump -/
abbrev rmX4_pump : Room := { frames := 6, cells := 0, slots := 0, locals := 133 }
theorem msX4_pump : bw_MV yX4_pump cX4_pump 2 (some .int) RX4 1 := ⟨mw_368, mw_369, mw_1, mw_370, by decide +kernel⟩
def fX4_pump_16 (N : Nat) (x1 : Int32)   (M : bw_M) : Option (Int32 × bw_M) :=
  some ((-1 : Int32), M)
theorem tX4_pump_16 {p : Program} {l : Launch} {e : Env} {s : State} {m : MethodId} {args : Array Value} {below : List Frame} {meth : Method} {c : Code} {D : va_G} {kT : Nat → ClassId} {ρ : Nat → Nat} (C : bw_Cx p s m args meth c cX4_pump 2 RX4 45 D kT ρ (some .int)) (N : Nat) (x1 : Int32)    (M : bw_M) (rr : Int32) (zz : bw_M)  (h : fX4_pump_16 N x1 M = some (rr, zz)) : bw_At p l e rmX4_pump s m args below meth c (MQ below (bw_QI bw_shC 45 D kT ρ rr zz) args s 0 0 (bw_A ρ 45)) bw_shC 45 D kT ρ 2 16 [(0, .ref (ρ 0)), (1, .int x1)] [] M := by
  unfold fX4_pump_16 at h
  refine bw_iconst (pc := 16) (v := (-1 : Int32)) C dX4_pump_16 ic_m1 ?_
  exact bw_ireti (pc := 17) C dX4_pump_17 h
def fX4_pump_54 (N : Nat) (x1 : Int32)   (M : bw_M) : Option (Int32 × bw_M) :=
  some ((-4 : Int32), M)
theorem tX4_pump_54 {p : Program} {l : Launch} {e : Env} {s : State} {m : MethodId} {args : Array Value} {below : List Frame} {meth : Method} {c : Code} {D : va_G} {kT : Nat → ClassId} {ρ : Nat → Nat} (C : bw_Cx p s m args meth c cX4_pump 2 RX4 45 D kT ρ (some .int)) (N : Nat) (x1 : Int32)    (M : bw_M) (rr : Int32) (zz : bw_M)  (h : fX4_pump_54 N x1 M = some (rr, zz)) : bw_At p l e rmX4_pump s m args below meth c (MQ below (bw_QI bw_shC 45 D kT ρ rr zz) args s 0 0 (bw_A ρ 45)) bw_shC 45 D kT ρ 2 54 [(0, .ref (ρ 0)), (1, .int x1)] [] M := by
  unfold fX4_pump_54 at h
  refine bw_bipush (pc := 54) (v := (-4 : Int32)) C dX4_pump_54 bi_m4 ?_
  exact bw_ireti (pc := 56) C dX4_pump_56 h
def fX4_pump (N : Nat) (x1 : Int32) (M : bw_M) : Option (Int32 × bw_M) :=
  if x1 = 0 then
  fX4_pump_16 N x1 M
  else
  if x1 < (-9 : Int32) then
  fX4_pump_16 N x1 M
  else
  if x1 ≤ (9 : Int32) then
  if (M.1 16 0) = 0 then
  fX4_pump_54 N x1 M
  else
  if (60 : Int32) < ((M.1 16 3) + x1) then
  fX4_pump_54 N x1 M
  else
  if 0 ≤ ((M.1 16 3) + x1) then
  bw_c2 (fX4_perform N (1 : Int32) x1 M) fun v1 M2 =>
  some (v1, M2)
  else
  fX4_pump_54 N x1 M
  else
  fX4_pump_16 N x1 M
theorem tX4_pump (l : Launch) (N : Nat) (x1 : Int32)  (M : bw_M) (rr : Int32) (zz : bw_M) (h : fX4_pump N x1 M = some (rr, zz)) : bw_CI l bw_shC 45 yX4_pump cX4_pump 2 (some .int) rmX4_pump (fun ρ => [.ref (ρ 0), .int x1]) M rr zz := by
  refine bw_inI (Lf := fun ρ => [(0, .ref (ρ 0)), (1, .int x1)]) cX4_pump 2 (some .int) RX4 pn_X4 rfl (fun ρ => Nat.le_of_ble_eq_true rfl) (fun ρ => rfl) ?_
  intro p e s m args below meth c D kT ρ C
  unfold fX4_pump at h
  refine bw_iload_n (pc := 0) C 1 dX4_pump_0 rfl rfl ?_
  refine bw_if_eq (pc := 1) C 16 dX4_pump_1 (by decide) h (fun h => ?_) (fun h => ?_)
  · refine bw_pick [0, 1] rfl ?_
    exact tX4_pump_16 C N x1 M rr zz h
  · refine bw_iload_n (pc := 4) C 1 dX4_pump_4 rfl rfl ?_
    refine bw_bipush (pc := 5) (v := (-9 : Int32)) C dX4_pump_5 bi_m9 ?_
    refine bw_icmp_lt (pc := 7) C 16 dX4_pump_7 (by decide) h (fun h => ?_) (fun h => ?_)
    · refine bw_pick [0, 1] rfl ?_
      exact tX4_pump_16 C N x1 M rr zz h
    · refine bw_iload_n (pc := 10) C 1 dX4_pump_10 rfl rfl ?_
      refine bw_bipush (pc := 11) (v := (9 : Int32)) C dX4_pump_11 bi_9 ?_
      refine bw_icmp_le (pc := 13) C 18 dX4_pump_13 (by decide) h (fun h => ?_) (fun h => ?_)
      · refine bw_aload_n (pc := 18) C 0 dX4_pump_18 rfl rfl ?_
        refine bw_getR (pc := 19) (q := 0) (k0 := 5) C ltC_0 shC_0 rfl inX4 mw_128 (by decide) rfl dX4_pump_19 ?_
        refine bw_getI (pc := 22) (q := 16) (k0 := 0) C ltC_16 shC_16 rfl inX3 mw_49 (by decide) rfl dX4_pump_22 ?_
        refine bw_if_eq (pc := 25) C 54 dX4_pump_25 (by decide) h (fun h => ?_) (fun h => ?_)
        · refine bw_pick [0, 1] rfl ?_
          exact tX4_pump_54 C N x1 M rr zz h
        · refine bw_aload_n (pc := 28) C 0 dX4_pump_28 rfl rfl ?_
          refine bw_getR (pc := 29) (q := 0) (k0 := 5) C ltC_0 shC_0 rfl inX4 mw_128 (by decide) rfl dX4_pump_29 ?_
          refine bw_getI (pc := 32) (q := 16) (k0 := 3) C ltC_16 shC_16 rfl inX3 mw_53 (by decide) rfl dX4_pump_32 ?_
          refine bw_iload_n (pc := 35) C 1 dX4_pump_35 rfl rfl ?_
          refine bw_iadd (pc := 36) C dX4_pump_36 ?_
          refine bw_bipush (pc := 37) (v := (60 : Int32)) C dX4_pump_37 bi_60 ?_
          refine bw_icmp_gt (pc := 39) C 54 dX4_pump_39 (by decide) h (fun h => ?_) (fun h => ?_)
          · refine bw_pick [0, 1] rfl ?_
            exact tX4_pump_54 C N x1 M rr zz h
          · refine bw_aload_n (pc := 42) C 0 dX4_pump_42 rfl rfl ?_
            refine bw_getR (pc := 43) (q := 0) (k0 := 5) C ltC_0 shC_0 rfl inX4 mw_128 (by decide) rfl dX4_pump_43 ?_
            refine bw_getI (pc := 46) (q := 16) (k0 := 3) C ltC_16 shC_16 rfl inX3 mw_53 (by decide) rfl dX4_pump_46 ?_
            refine bw_iload_n (pc := 49) C 1 dX4_pump_49 rfl rfl ?_
            refine bw_iadd (pc := 50) C dX4_pump_50 ?_
            refine bw_if_ge (pc := 51) C 57 dX4_pump_51 (by decide) h (fun h => ?_) (fun h => ?_)
            · refine bw_aload_n (pc := 57) C 0 dX4_pump_57 rfl rfl ?_
              refine bw_iconst (pc := 58) (v := (1 : Int32)) C dX4_pump_58 ic_1 ?_
              refine bw_iload_n (pc := 59) C 1 dX4_pump_59 rfl rfl ?_
              obtain ⟨v1, M2, ev1, h⟩ := bw_c2_o h
              refine bw_cVi (pc := 60) (q := 0) (As := [.int (1 : Int32), .int x1]) (rest := []) C (tX4_perform l N (1 : Int32) x1 M v1 M2 ev1) msX4_perform mw_334 rfl rfl ⟨Nat.le_of_ble_eq_true rfl, Nat.le_of_ble_eq_true rfl⟩ ltC_0 shC_0 rfl rfl rfl rfl (Nat.le_of_ble_eq_true rfl) dX4_pump_60 ?_
              exact bw_ireti (pc := 63) C dX4_pump_63 h
            · refine bw_pick [0, 1] rfl ?_
              exact tX4_pump_54 C N x1 M rr zz h
      · refine bw_pick [0, 1] rfl ?_
        exact tX4_pump_16 C N x1 M rr zz h
/-! X4_put -/
abbrev rmX4_put : Room := { frames := 1, cells := 0, slots := 0, locals := 22 }
theorem msX4_put : bw_MV yX4_put cX4_put 5 (some .int) RX4 3 := ⟨mw_231, mw_232, mw_1, mw_233, by decide +kernel⟩
def fX4_put (x1 : Int32) (x2 : Int32) (x3 : Int32) (M : bw_M) : Option (Int32 × bw_M) :=
  bw_cl (fX4_isText x1) fun v1 =>
  if v1 = 0 then
  some ((-1 : Int32), M)
  else
  bw_rd M 14 4 x1 fun v2 =>
  if v2 = (-1 : Int32) then
  bw_c2 (fX4_found (1 : Int32) M) fun v11 M12 =>
  some (v11, M12)
  else
  bw_rd M 14 4 x1 fun v3 =>
  bw_cl (fX4_hasPlaces v3 x2 (1 : Int32)) fun v4 =>
  if v4 = 0 then
  bw_c2 (fX4_found (2 : Int32) M) fun v9 M10 =>
  some (v9, M10)
  else
  bw_ra 4 x1 fun j5 =>
  bw_rd M (10 + j5) 60 x2 fun v6 =>
  bw_ra 4 x1 fun j7 =>
  bw_wr M (10 + j7) 60 x2 (Int8.toInt32 (Int32.toInt8 (Int8.toInt32 (Int32.toInt8 x3)))) fun M8 =>
  some ((v6 + (1000 : Int32)), M8)
theorem tX4_put (l : Launch) (x1 : Int32) (x2 : Int32) (x3 : Int32)  (M : bw_M) (rr : Int32) (zz : bw_M) (h : fX4_put x1 x2 x3 M = some (rr, zz)) : bw_CI l bw_shC 45 yX4_put cX4_put 5 (some .int) rmX4_put (fun ρ => [.ref (ρ 0), .int x1, .int x2, .int x3]) M rr zz := by
  refine bw_inI (Lf := fun ρ => [(0, .ref (ρ 0)), (1, .int x1), (2, .int x2), (3, .int x3)]) cX4_put 5 (some .int) RX4 pn_X4 rfl (fun ρ => Nat.le_of_ble_eq_true rfl) (fun ρ => rfl) ?_
  intro p e s m args below meth c D kT ρ C
  unfold fX4_put at h
  refine bw_iload_n (pc := 0) C 1 dX4_put_0 rfl rfl ?_
  obtain ⟨v1, ev1, h⟩ := bw_cl_o h
  refine bw_cSi (pc := 1) (As := [.int x1]) (rest := []) C (tX4_isText l x1 M v1 ev1) msX4_isText mw_224 rfl rfl ⟨Nat.le_of_ble_eq_true rfl, Nat.le_of_ble_eq_true rfl⟩ rfl rfl rfl (Nat.le_of_ble_eq_true rfl) dX4_put_1 ?_
  refine bw_if_ne (pc := 4) C 9 dX4_put_4 (by decide) h (fun h => ?_) (fun h => ?_)
  · refine bw_aload_n (pc := 9) C 0 dX4_put_9 rfl rfl ?_
    refine bw_getR (pc := 10) (q := 0) (k0 := 3) C ltC_0 shC_0 rfl inX4 mw_126 (by decide) rfl dX4_put_10 ?_
    refine bw_iload_n (pc := 13) C 1 dX4_put_13 rfl rfl ?_
    obtain ⟨qv2, v2, ev2, h⟩ := bw_rd_o h
    refine bw_iald (pc := 14) (q := 14) C ltC_14 shC_14 qv2 ev2 dX4_put_14 ?_
    refine bw_iconst (pc := 15) (v := (-1 : Int32)) C dX4_put_15 ic_m1 ?_
    refine bw_icmp_ne (pc := 16) C 25 dX4_put_16 (by decide) h (fun h => ?_) (fun h => ?_)
    · refine bw_aload_n (pc := 25) C 0 dX4_put_25 rfl rfl ?_
      refine bw_getR (pc := 26) (q := 0) (k0 := 3) C ltC_0 shC_0 rfl inX4 mw_126 (by decide) rfl dX4_put_26 ?_
      refine bw_iload_n (pc := 29) C 1 dX4_put_29 rfl rfl ?_
      obtain ⟨qv3, v3, ev3, h⟩ := bw_rd_o h
      refine bw_iald (pc := 30) (q := 14) C ltC_14 shC_14 qv3 ev3 dX4_put_30 ?_
      refine bw_iload_n (pc := 31) C 2 dX4_put_31 rfl rfl ?_
      refine bw_iconst (pc := 32) (v := (1 : Int32)) C dX4_put_32 ic_1 ?_
      obtain ⟨v4, ev4, h⟩ := bw_cl_o h
      refine bw_cSi (pc := 33) (As := [.int v3, .int x2, .int (1 : Int32)]) (rest := []) C (tX4_hasPlaces l v3 x2 (1 : Int32) M v4 ev4) msX4_hasPlaces mw_194 rfl rfl ⟨Nat.le_of_ble_eq_true rfl, Nat.le_of_ble_eq_true rfl⟩ rfl rfl rfl (Nat.le_of_ble_eq_true rfl) dX4_put_33 ?_
      refine bw_if_ne (pc := 36) C 45 dX4_put_36 (by decide) h (fun h => ?_) (fun h => ?_)
      · refine bw_aload_n (pc := 45) C 0 dX4_put_45 rfl rfl ?_
        refine bw_getR (pc := 46) (q := 0) (k0 := 2) C ltC_0 shC_0 rfl inX4 mw_125 (by decide) rfl dX4_put_46 ?_
        refine bw_iload_n (pc := 49) C 1 dX4_put_49 rfl rfl ?_
        obtain ⟨qj5, j5, ej5, lj5, h⟩ := bw_ra_o h
        refine bw_aald (pc := 50) (q := 9) (ty := .array .byte) C ltC_9 shC_9 rfl rfl qj5 (id_txts ej5 lj5) dX4_put_50 ?_
        refine bw_iload_n (pc := 51) C 2 dX4_put_51 rfl rfl ?_
        obtain ⟨qv6, v6, ev6, h⟩ := bw_rd_o h
        refine bw_bald (pc := 52) (q := (10 + j5)) C (ltC_txt lj5) (shC_txt lj5) qv6 ev6 dX4_put_52 ?_
        refine bw_istore (pc := 53) (L' := [(4, .int v6), (0, .ref (ρ 0)), (1, .int x1), (2, .int x2), (3, .int x3)]) C dX4_put_53 (by decide) rfl ?_
        refine bw_aload_n (pc := 55) C 1 dX4_put_55 rfl rfl ?_
        refine bw_getR (pc := 56) (q := 0) (k0 := 2) C ltC_0 shC_0 rfl inX4 mw_125 (by decide) rfl dX4_put_56 ?_
        refine bw_iload_n (pc := 59) C 2 dX4_put_59 rfl rfl ?_
        obtain ⟨qj7, j7, ej7, lj7, h⟩ := bw_ra_o h
        refine bw_aald (pc := 60) (q := 9) (ty := .array .byte) C ltC_9 shC_9 rfl rfl qj7 (id_txts ej7 lj7) dX4_put_60 ?_
        refine bw_iload_n (pc := 61) C 3 dX4_put_61 rfl rfl ?_
        refine bw_iload_n (pc := 62) C 4 dX4_put_62 rfl rfl ?_
        refine bw_i2b (pc := 63) C dX4_put_63 ?_
        obtain ⟨qM8, M8, eM8, h⟩ := bw_wr_o h
        refine bw_bast (pc := 64) (q := (10 + j7)) C (ltC_txt lj7) (shC_txt lj7) qM8 eM8 dX4_put_64 ?_
        refine bw_iload (pc := 65) C 0 dX4_put_65 rfl ?_
        refine bw_sipush (pc := 67) (v := (1000 : Int32)) C dX4_put_67 si_1000 ?_
        refine bw_iadd (pc := 70) C dX4_put_70 ?_
        exact bw_ireti (pc := 71) C dX4_put_71 h
      · refine bw_aload_n (pc := 39) C 0 dX4_put_39 rfl rfl ?_
        refine bw_iconst (pc := 40) (v := (2 : Int32)) C dX4_put_40 ic_2 ?_
        obtain ⟨v9, M10, ev9, h⟩ := bw_c2_o h
        refine bw_cVi (pc := 41) (q := 0) (As := [.int (2 : Int32)]) (rest := []) C (tX4_found l (2 : Int32) M v9 M10 ev9) msX4_found mw_182 rfl rfl ⟨Nat.le_of_ble_eq_true rfl, Nat.le_of_ble_eq_true rfl⟩ ltC_0 shC_0 rfl rfl rfl rfl (Nat.le_of_ble_eq_true rfl) dX4_put_41 ?_
        exact bw_ireti (pc := 44) C dX4_put_44 h
    · refine bw_aload_n (pc := 19) C 0 dX4_put_19 rfl rfl ?_
      refine bw_iconst (pc := 20) (v := (1 : Int32)) C dX4_put_20 ic_1 ?_
      obtain ⟨v11, M12, ev11, h⟩ := bw_c2_o h
      refine bw_cVi (pc := 21) (q := 0) (As := [.int (1 : Int32)]) (rest := []) C (tX4_found l (1 : Int32) M v11 M12 ev11) msX4_found mw_182 rfl rfl ⟨Nat.le_of_ble_eq_true rfl, Nat.le_of_ble_eq_true rfl⟩ ltC_0 shC_0 rfl rfl rfl rfl (Nat.le_of_ble_eq_true rfl) dX4_put_21 ?_
      exact bw_ireti (pc := 24) C dX4_put_24 h
  · refine bw_iconst (pc := 7) (v := (-1 : Int32)) C dX4_put_7 ic_m1 ?_
    exact bw_ireti (pc := 8) C dX4_put_8 h
/-! X4_refusedSum -/
abbrev rmX4_refusedSum : Room := { frames := 0, cells := 0, slots := 0, locals := 0 }
theorem msX4_refusedSum : bw_MV yX4_refusedSum cX4_refusedSum 2 (some .int) RX4 1 := ⟨mw_510, mw_1087, mw_1, mw_511, by decide +kernel⟩
def fX4_refusedSum_10 (x1 : Int32)   (M : bw_M) : Option (Int32) :=
  some (-1 : Int32)
theorem tX4_refusedSum_10 {p : Program} {l : Launch} {e : Env} {s : State} {m : MethodId} {args : Array Value} {below : List Frame} {meth : Method} {c : Code} {D : va_G} {kT : Nat → ClassId} {ρ : Nat → Nat} (C : bw_Cx p s m args meth c cX4_refusedSum 2 RX4 45 D kT ρ (some .int)) (x1 : Int32)    (M : bw_M) (rr : Int32)  (h : fX4_refusedSum_10 x1 M = some rr) : bw_At p l e rmX4_refusedSum s m args below meth c (MQ below (bw_QI bw_shC 45 D kT ρ rr M) args s 0 0 (bw_A ρ 45)) bw_shC 45 D kT ρ 2 10 [(0, .ref (ρ 0)), (1, .int x1)] [] M := by
  unfold fX4_refusedSum_10 at h
  refine bw_iconst (pc := 10) (v := (-1 : Int32)) C dX4_refusedSum_10 ic_m1 ?_
  exact bw_ireti (pc := 11) C dX4_refusedSum_11 (bw_pr M h)
def fX4_refusedSum_28 (x1 : Int32)  (s0 : Int32) (M : bw_M) : Option (Int32) :=
  some s0
theorem tX4_refusedSum_28 {p : Program} {l : Launch} {e : Env} {s : State} {m : MethodId} {args : Array Value} {below : List Frame} {meth : Method} {c : Code} {D : va_G} {kT : Nat → ClassId} {ρ : Nat → Nat} (C : bw_Cx p s m args meth c cX4_refusedSum 2 RX4 45 D kT ρ (some .int)) (x1 : Int32)   (s0 : Int32) (M : bw_M) (rr : Int32)  (h : fX4_refusedSum_28 x1 s0 M = some rr) : bw_At p l e rmX4_refusedSum s m args below meth c (MQ below (bw_QI bw_shC 45 D kT ρ rr M) args s 0 0 (bw_A ρ 45)) bw_shC 45 D kT ρ 2 28 [(0, .ref (ρ 0)), (1, .int x1)] [.int s0] M := by
  unfold fX4_refusedSum_28 at h
  exact bw_ireti (pc := 28) C dX4_refusedSum_28 (bw_pr M h)
def fX4_refusedSum (x1 : Int32) (M : bw_M) : Option (Int32) :=
  if x1 < 0 then
  fX4_refusedSum_10 x1 M
  else
  if x1 ≤ (99 : Int32) then
  if (M.1 16 0) = 0 then
  fX4_refusedSum_28 x1 (-4 : Int32) M
  else
  fX4_refusedSum_28 x1 (0 : Int32) M
  else
  fX4_refusedSum_10 x1 M
theorem tX4_refusedSum (l : Launch) (x1 : Int32)  (M : bw_M) (rr : Int32) (h : fX4_refusedSum x1 M = some rr) : bw_CI l bw_shC 45 yX4_refusedSum cX4_refusedSum 2 (some .int) rmX4_refusedSum (fun ρ => [.ref (ρ 0), .int x1]) M rr M := by
  refine bw_inI (Lf := fun ρ => [(0, .ref (ρ 0)), (1, .int x1)]) cX4_refusedSum 2 (some .int) RX4 pn_X4 rfl (fun ρ => Nat.le_of_ble_eq_true rfl) (fun ρ => rfl) ?_
  intro p e s m args below meth c D kT ρ C
  unfold fX4_refusedSum at h
  refine bw_iload_n (pc := 0) C 1 dX4_refusedSum_0 rfl rfl ?_
  refine bw_if_lt (pc := 1) C 10 dX4_refusedSum_1 (by decide) h (fun h => ?_) (fun h => ?_)
  · refine bw_pick [0, 1] rfl ?_
    exact tX4_refusedSum_10 C x1 M rr h
  · refine bw_iload_n (pc := 4) C 1 dX4_refusedSum_4 rfl rfl ?_
    refine bw_bipush (pc := 5) (v := (99 : Int32)) C dX4_refusedSum_5 bi_99 ?_
    refine bw_icmp_le (pc := 7) C 12 dX4_refusedSum_7 (by decide) h (fun h => ?_) (fun h => ?_)
    · refine bw_aload_n (pc := 12) C 0 dX4_refusedSum_12 rfl rfl ?_
      refine bw_getR (pc := 13) (q := 0) (k0 := 5) C ltC_0 shC_0 rfl inX4 mw_128 (by decide) rfl dX4_refusedSum_13 ?_
      refine bw_getI (pc := 16) (q := 16) (k0 := 0) C ltC_16 shC_16 rfl inX3 mw_49 (by decide) rfl dX4_refusedSum_16 ?_
      refine bw_if_ne (pc := 19) C 27 dX4_refusedSum_19 (by decide) h (fun h => ?_) (fun h => ?_)
      · refine bw_iconst (pc := 27) (v := (0 : Int32)) C dX4_refusedSum_27 ic_0 ?_
        refine bw_pick [0, 1] rfl ?_
        exact tX4_refusedSum_28 C x1 (0 : Int32) M rr h
      · refine bw_bipush (pc := 22) (v := (-4 : Int32)) C dX4_refusedSum_22 bi_m4 ?_
        refine bw_goto (pc := 24) C 28 dX4_refusedSum_24 (by decide) ?_
        refine bw_pick [0, 1] rfl ?_
        exact tX4_refusedSum_28 C x1 (-4 : Int32) M rr h
    · refine bw_pick [0, 1] rfl ?_
      exact tX4_refusedSum_10 C x1 M rr h
/-! X4_row -/
abbrev rmX4_row : Room := { frames := 1, cells := 0, slots := 0, locals := 23 }
theorem msX4_row : bw_MV yX4_row cX4_row 3 (some .int) RX4 2 := ⟨mw_176, mw_177, mw_1, mw_178, by decide +kernel⟩
def fX4_row_13 (N : Nat) (x1 : Int32) (x2 : Int32)   (M : bw_M) : Option (Int32 × bw_M) :=
  some ((-1 : Int32), M)
theorem tX4_row_13 {p : Program} {l : Launch} {e : Env} {s : State} {m : MethodId} {args : Array Value} {below : List Frame} {meth : Method} {c : Code} {D : va_G} {kT : Nat → ClassId} {ρ : Nat → Nat} (C : bw_Cx p s m args meth c cX4_row 3 RX4 45 D kT ρ (some .int)) (N : Nat) (x1 : Int32) (x2 : Int32)    (M : bw_M) (rr : Int32) (zz : bw_M)  (h : fX4_row_13 N x1 x2 M = some (rr, zz)) : bw_At p l e rmX4_row s m args below meth c (MQ below (bw_QI bw_shC 45 D kT ρ rr zz) args s 0 0 (bw_A ρ 45)) bw_shC 45 D kT ρ 3 13 [(0, .ref (ρ 0)), (1, .int x1), (2, .int x2)] [] M := by
  unfold fX4_row_13 at h
  refine bw_iconst (pc := 13) (v := (-1 : Int32)) C dX4_row_13 ic_m1 ?_
  exact bw_ireti (pc := 14) C dX4_row_14 h
def fX4_row (N : Nat) (x1 : Int32) (x2 : Int32) (M : bw_M) : Option (Int32 × bw_M) :=
  bw_cl (fX4_isRow x1) fun v1 =>
  if v1 = 0 then
  fX4_row_13 N x1 x2 M
  else
  if x2 ≤ (40 : Int32) then
  if 0 ≤ x2 then
  bw_ra 6 x1 fun j2 =>
  bw_cl (fJ7_fill_53178 N (2 + j2) 40 (0 : Int32) M) fun M3 =>
  bw_wr M3 8 6 x1 x2 fun M4 =>
  some (x2, M4)
  else
  bw_c2 (fX4_found (5 : Int32) M) fun v5 M6 =>
  some (v5, M6)
  else
  fX4_row_13 N x1 x2 M
theorem tX4_row (l : Launch) (N : Nat) (x1 : Int32) (x2 : Int32)  (M : bw_M) (rr : Int32) (zz : bw_M) (h : fX4_row N x1 x2 M = some (rr, zz)) : bw_CI l bw_shC 45 yX4_row cX4_row 3 (some .int) rmX4_row (fun ρ => [.ref (ρ 0), .int x1, .int x2]) M rr zz := by
  refine bw_inI (Lf := fun ρ => [(0, .ref (ρ 0)), (1, .int x1), (2, .int x2)]) cX4_row 3 (some .int) RX4 pn_X4 rfl (fun ρ => Nat.le_of_ble_eq_true rfl) (fun ρ => rfl) ?_
  intro p e s m args below meth c D kT ρ C
  unfold fX4_row at h
  refine bw_iload_n (pc := 0) C 1 dX4_row_0 rfl rfl ?_
  obtain ⟨v1, ev1, h⟩ := bw_cl_o h
  refine bw_cSi (pc := 1) (As := [.int x1]) (rest := []) C (tX4_isRow l x1 M v1 ev1) msX4_isRow mw_179 rfl rfl ⟨Nat.le_of_ble_eq_true rfl, Nat.le_of_ble_eq_true rfl⟩ rfl rfl rfl (Nat.le_of_ble_eq_true rfl) dX4_row_1 ?_
  refine bw_if_eq (pc := 4) C 13 dX4_row_4 (by decide) h (fun h => ?_) (fun h => ?_)
  · refine bw_pick [0, 1, 2] rfl ?_
    exact tX4_row_13 C N x1 x2 M rr zz h
  · refine bw_iload_n (pc := 7) C 2 dX4_row_7 rfl rfl ?_
    refine bw_bipush (pc := 8) (v := (40 : Int32)) C dX4_row_8 bi_40 ?_
    refine bw_icmp_le (pc := 10) C 15 dX4_row_10 (by decide) h (fun h => ?_) (fun h => ?_)
    · refine bw_iload_n (pc := 15) C 2 dX4_row_15 rfl rfl ?_
      refine bw_if_ge (pc := 16) C 25 dX4_row_16 (by decide) h (fun h => ?_) (fun h => ?_)
      · refine bw_aload_n (pc := 25) C 0 dX4_row_25 rfl rfl ?_
        refine bw_getR (pc := 26) (q := 0) (k0 := 0) C ltC_0 shC_0 rfl inX4 mw_123 (by decide) rfl dX4_row_26 ?_
        refine bw_iload_n (pc := 29) C 1 dX4_row_29 rfl rfl ?_
        obtain ⟨qj2, j2, ej2, lj2, h⟩ := bw_ra_o h
        refine bw_aald (pc := 30) (q := 1) (ty := .array .int) C ltC_1 shC_1 rfl rfl qj2 (id_rows ej2 lj2) dX4_row_30 ?_
        refine bw_iconst (pc := 31) (v := (0 : Int32)) C dX4_row_31 ic_0 ?_
        obtain ⟨M3, eM3, h⟩ := bw_cl_o h
        refine bw_cSv (pc := 32) (As := [.ref (ρ (2 + j2)), .int (0 : Int32)]) (rest := []) C (tJ7_fill_53178 l N (2 + j2) 40 (0 : Int32) (ltC_row lj2) (shC_row lj2) M M3 eM3) msJ7_fill_53178 mw_120 rfl rfl ⟨Nat.le_of_ble_eq_true rfl, Nat.le_of_ble_eq_true rfl⟩ rfl rfl rfl (Nat.le_of_ble_eq_true rfl) dX4_row_32 ?_
        refine bw_aload_n (pc := 35) C 0 dX4_row_35 rfl rfl ?_
        refine bw_getR (pc := 36) (q := 0) (k0 := 1) C ltC_0 shC_0 rfl inX4 mw_124 (by decide) rfl dX4_row_36 ?_
        refine bw_iload_n (pc := 39) C 1 dX4_row_39 rfl rfl ?_
        refine bw_iload_n (pc := 40) C 2 dX4_row_40 rfl rfl ?_
        obtain ⟨qM4, M4, eM4, h⟩ := bw_wr_o h
        refine bw_iast (pc := 41) (q := 8) C ltC_8 shC_8 qM4 eM4 dX4_row_41 ?_
        refine bw_iload_n (pc := 42) C 2 dX4_row_42 rfl rfl ?_
        exact bw_ireti (pc := 43) C dX4_row_43 h
      · refine bw_aload_n (pc := 19) C 0 dX4_row_19 rfl rfl ?_
        refine bw_iconst (pc := 20) (v := (5 : Int32)) C dX4_row_20 ic_5 ?_
        obtain ⟨v5, M6, ev5, h⟩ := bw_c2_o h
        refine bw_cVi (pc := 21) (q := 0) (As := [.int (5 : Int32)]) (rest := []) C (tX4_found l (5 : Int32) M v5 M6 ev5) msX4_found mw_182 rfl rfl ⟨Nat.le_of_ble_eq_true rfl, Nat.le_of_ble_eq_true rfl⟩ ltC_0 shC_0 rfl rfl rfl rfl (Nat.le_of_ble_eq_true rfl) dX4_row_21 ?_
        exact bw_ireti (pc := 24) C dX4_row_24 h
    · refine bw_pick [0, 1, 2] rfl ?_
      exact tX4_row_13 C N x1 x2 M rr zz h
/-! X4_says -/
abbrev rmX4_says : Room := { frames := 4, cells := 0, slots := 0, locals := 88 }
theorem msX4_says : bw_MV yX4_says cX4_says 4 (some .int) RX4 2 := ⟨mw_419, mw_420, mw_1, mw_421, by decide +kernel⟩
def fX4_says_21 (N : Nat) (x1 : Int32) (x2 : Int32)   (M : bw_M) : Option (Int32 × bw_M) :=
  some ((-1 : Int32), M)
theorem tX4_says_21 {p : Program} {l : Launch} {e : Env} {s : State} {m : MethodId} {args : Array Value} {below : List Frame} {meth : Method} {c : Code} {D : va_G} {kT : Nat → ClassId} {ρ : Nat → Nat} (C : bw_Cx p s m args meth c cX4_says 4 RX4 45 D kT ρ (some .int)) (N : Nat) (x1 : Int32) (x2 : Int32)    (M : bw_M) (rr : Int32) (zz : bw_M)  (h : fX4_says_21 N x1 x2 M = some (rr, zz)) : bw_At p l e rmX4_says s m args below meth c (MQ below (bw_QI bw_shC 45 D kT ρ rr zz) args s 0 0 (bw_A ρ 45)) bw_shC 45 D kT ρ 4 21 [(0, .ref (ρ 0)), (1, .int x1), (2, .int x2)] [] M := by
  unfold fX4_says_21 at h
  refine bw_iconst (pc := 21) (v := (-1 : Int32)) C dX4_says_21 ic_m1 ?_
  exact bw_ireti (pc := 22) C dX4_says_22 h
def fX4_says_36 (N : Nat) (x1 : Int32) (x2 : Int32) (k36 : Int32 × bw_M → Option (Int32 × bw_M)) (x3 : Int32) (M : bw_M) : Option (Int32 × bw_M) :=
  if x2 ≤ x3 then
  bw_rd M 27 6 x1 fun v4 =>
  bw_rd M 21 6 x1 fun v5 =>
  some ((v4 - v5), M)
  else
  bw_c2 (fX3_blow N 22 M) fun v6 M7 =>
  bw_mv (x3 + 1) fun v8 =>
  k36 (v8, M7)
theorem tX4_says_36 {p : Program} {l : Launch} {e : Env} {s : State} {m : MethodId} {args : Array Value} {below : List Frame} {meth : Method} {c : Code} {D : va_G} {kT : Nat → ClassId} {ρ : Nat → Nat} (C : bw_Cx p s m args meth c cX4_says 4 RX4 45 D kT ρ (some .int)) (N : Nat) (x1 : Int32) (x2 : Int32)  (k36 : Int32 × bw_M → Option (Int32 × bw_M)) (x3 : Int32) (M : bw_M) (rr : Int32) (zz : bw_M) (hk36 : ∀ z0, k36 z0 = some (rr, zz) → bw_At p l e rmX4_says s m args below meth c (MQ below (bw_QI bw_shC 45 D kT ρ rr zz) args s 0 0 (bw_A ρ 45)) bw_shC 45 D kT ρ 4 36 [(0, .ref (ρ 0)), (1, .int x1), (2, .int x2), (3, .int z0.1)] [] z0.2) (h : fX4_says_36 N x1 x2 k36 x3 M = some (rr, zz)) : bw_At p l e rmX4_says s m args below meth c (MQ below (bw_QI bw_shC 45 D kT ρ rr zz) args s 0 0 (bw_A ρ 45)) bw_shC 45 D kT ρ 4 36 [(0, .ref (ρ 0)), (1, .int x1), (2, .int x2), (3, .int x3)] [] M := by
  unfold fX4_says_36 at h
  refine bw_iload_n (pc := 36) C 3 dX4_says_36 rfl rfl ?_
  refine bw_iload_n (pc := 37) C 2 dX4_says_37 rfl rfl ?_
  refine bw_icmp_ge (pc := 38) C 55 dX4_says_38 (by decide) h (fun h => ?_) (fun h => ?_)
  · refine bw_aload_n (pc := 55) C 0 dX4_says_55 rfl rfl ?_
    refine bw_getR (pc := 56) (q := 0) (k0 := 6) C ltC_0 shC_0 rfl inX4 mw_129 (by decide) rfl dX4_says_56 ?_
    refine bw_getR (pc := 59) (q := 22) (k0 := 12) C ltC_22 shC_22 rfl inX3 mw_71 (by decide) rfl dX4_says_59 ?_
    refine bw_iload_n (pc := 62) C 1 dX4_says_62 rfl rfl ?_
    obtain ⟨qv4, v4, ev4, h⟩ := bw_rd_o h
    refine bw_iald (pc := 63) (q := 27) C ltC_27 shC_27 qv4 ev4 dX4_says_63 ?_
    refine bw_aload_n (pc := 64) C 0 dX4_says_64 rfl rfl ?_
    refine bw_getR (pc := 65) (q := 0) (k0 := 5) C ltC_0 shC_0 rfl inX4 mw_128 (by decide) rfl dX4_says_65 ?_
    refine bw_getR (pc := 68) (q := 16) (k0 := 12) C ltC_16 shC_16 rfl inX3 mw_71 (by decide) rfl dX4_says_68 ?_
    refine bw_iload_n (pc := 71) C 1 dX4_says_71 rfl rfl ?_
    obtain ⟨qv5, v5, ev5, h⟩ := bw_rd_o h
    refine bw_iald (pc := 72) (q := 21) C ltC_21 shC_21 qv5 ev5 dX4_says_72 ?_
    refine bw_isub (pc := 73) C dX4_says_73 ?_
    exact bw_ireti (pc := 74) C dX4_says_74 h
  · refine bw_aload_n (pc := 41) C 0 dX4_says_41 rfl rfl ?_
    refine bw_getR (pc := 42) (q := 0) (k0 := 6) C ltC_0 shC_0 rfl inX4 mw_129 (by decide) rfl dX4_says_42 ?_
    obtain ⟨v6, M7, ev6, h⟩ := bw_c2_o h
    refine bw_cVi (pc := 45) (q := 22) (As := []) (rest := []) C (tX3_blow l N 22 isT_22 M v6 M7 ev6) msX3_blow mw_417 rfl rfl ⟨Nat.le_of_ble_eq_true rfl, Nat.le_of_ble_eq_true rfl⟩ ltC_22 shC_22 rfl rfl rfl rfl (Nat.le_of_ble_eq_true rfl) dX4_says_45 ?_
    refine bw_pop (pc := 48) C dX4_says_48 rfl ?_
    obtain ⟨v8, ev8, h⟩ := bw_mv_o h
    refine bw_iinc (pc := 49) (x := v8) (L' := [(3, .int v8), (0, .ref (ρ 0)), (1, .int x1), (2, .int x2)]) C 3 dX4_says_49 rfl ev8.symm (by decide) rfl ?_
    refine bw_goto (pc := 52) C 36 dX4_says_52 (by decide) ?_
    refine bw_pick [1, 2, 3, 0] rfl ?_
    exact hk36 (v8, M7) h
def flX4_says_36 (N : Nat) (x1 : Int32) (x2 : Int32)    (fu : Nat) (w : Int32 × bw_M) : Option (Int32 × bw_M) := bw_lp (fun kk w => fX4_says_36 N x1 x2 kk w.1 w.2) fu w
theorem tlX4_says_36 {p : Program} {l : Launch} {e : Env} {s : State} {m : MethodId} {args : Array Value} {below : List Frame} {meth : Method} {c : Code} {D : va_G} {kT : Nat → ClassId} {ρ : Nat → Nat} (C : bw_Cx p s m args meth c cX4_says 4 RX4 45 D kT ρ (some .int)) (N : Nat) (x1 : Int32) (x2 : Int32)     (rr : Int32) (zz : bw_M)  (fu : Nat) (w : Int32 × bw_M) (h : flX4_says_36 N x1 x2 fu w = some (rr, zz)) : bw_At p l e rmX4_says s m args below meth c (MQ below (bw_QI bw_shC 45 D kT ρ rr zz) args s 0 0 (bw_A ρ 45)) bw_shC 45 D kT ρ 4 36 [(0, .ref (ρ 0)), (1, .int x1), (2, .int x2), (3, .int w.1)] [] w.2 :=
  bw_loop (r := (rr, zz)) (fun w => bw_At p l e rmX4_says s m args below meth c (MQ below (bw_QI bw_shC 45 D kT ρ rr zz) args s 0 0 (bw_A ρ 45)) bw_shC 45 D kT ρ 4 36 [(0, .ref (ρ 0)), (1, .int x1), (2, .int x2), (3, .int w.1)] [] w.2) (fun kk hk w h => tX4_says_36 C N x1 x2 kk w.1 w.2 rr zz hk h) fu w h
def fX4_says (N : Nat) (x1 : Int32) (x2 : Int32) (M : bw_M) : Option (Int32 × bw_M) :=
  bw_cl (fX3_hasPipe 16 x1 M) fun v1 =>
  if v1 = 0 then
  fX4_says_21 N x1 x2 M
  else
  if x2 < 0 then
  fX4_says_21 N x1 x2 M
  else
  if x2 ≤ (40 : Int32) then
  bw_cl (fX3_become N 22 16 M) fun M2 =>
  bw_mv (0 : Int32) fun v3 =>
  flX4_says_36 N x1 x2 N (v3, M2)
  else
  fX4_says_21 N x1 x2 M
theorem tX4_says (l : Launch) (N : Nat) (x1 : Int32) (x2 : Int32)  (M : bw_M) (rr : Int32) (zz : bw_M) (h : fX4_says N x1 x2 M = some (rr, zz)) : bw_CI l bw_shC 45 yX4_says cX4_says 4 (some .int) rmX4_says (fun ρ => [.ref (ρ 0), .int x1, .int x2]) M rr zz := by
  refine bw_inI (Lf := fun ρ => [(0, .ref (ρ 0)), (1, .int x1), (2, .int x2)]) cX4_says 4 (some .int) RX4 pn_X4 rfl (fun ρ => Nat.le_of_ble_eq_true rfl) (fun ρ => rfl) ?_
  intro p e s m args below meth c D kT ρ C
  unfold fX4_says at h
  refine bw_aload_n (pc := 0) C 0 dX4_says_0 rfl rfl ?_
  refine bw_getR (pc := 1) (q := 0) (k0 := 5) C ltC_0 shC_0 rfl inX4 mw_128 (by decide) rfl dX4_says_1 ?_
  refine bw_iload_n (pc := 4) C 1 dX4_says_4 rfl rfl ?_
  obtain ⟨v1, ev1, h⟩ := bw_cl_o h
  refine bw_cVi (pc := 5) (q := 16) (As := [.int x1]) (rest := []) C (tX3_hasPipe l 16 x1 isT_16 M v1 ev1) msX3_hasPipe mw_290 rfl rfl ⟨Nat.le_of_ble_eq_true rfl, Nat.le_of_ble_eq_true rfl⟩ ltC_16 shC_16 rfl rfl rfl rfl (Nat.le_of_ble_eq_true rfl) dX4_says_5 ?_
  refine bw_if_eq (pc := 8) C 21 dX4_says_8 (by decide) h (fun h => ?_) (fun h => ?_)
  · refine bw_pick [0, 1, 2] rfl ?_
    exact tX4_says_21 C N x1 x2 M rr zz h
  · refine bw_iload_n (pc := 11) C 2 dX4_says_11 rfl rfl ?_
    refine bw_if_lt (pc := 12) C 21 dX4_says_12 (by decide) h (fun h => ?_) (fun h => ?_)
    · refine bw_pick [0, 1, 2] rfl ?_
      exact tX4_says_21 C N x1 x2 M rr zz h
    · refine bw_iload_n (pc := 15) C 2 dX4_says_15 rfl rfl ?_
      refine bw_bipush (pc := 16) (v := (40 : Int32)) C dX4_says_16 bi_40 ?_
      refine bw_icmp_le (pc := 18) C 23 dX4_says_18 (by decide) h (fun h => ?_) (fun h => ?_)
      · refine bw_aload_n (pc := 23) C 0 dX4_says_23 rfl rfl ?_
        refine bw_getR (pc := 24) (q := 0) (k0 := 6) C ltC_0 shC_0 rfl inX4 mw_129 (by decide) rfl dX4_says_24 ?_
        refine bw_aload_n (pc := 27) C 0 dX4_says_27 rfl rfl ?_
        refine bw_getR (pc := 28) (q := 0) (k0 := 5) C ltC_0 shC_0 rfl inX4 mw_128 (by decide) rfl dX4_says_28 ?_
        obtain ⟨M2, eM2, h⟩ := bw_cl_o h
        refine bw_cVv (pc := 31) (q := 22) (As := [.ref (ρ 16)]) (rest := []) C (tX3_become l N 22 16 isT_22 isT_16 M M2 eM2) msX3_become mw_282 rfl rfl ⟨Nat.le_of_ble_eq_true rfl, Nat.le_of_ble_eq_true rfl⟩ ltC_22 shC_22 rfl rfl rfl rfl (Nat.le_of_ble_eq_true rfl) dX4_says_31 ?_
        refine bw_iconst (pc := 34) (v := (0 : Int32)) C dX4_says_34 ic_0 ?_
        obtain ⟨v3, ev3, h⟩ := bw_mv_o h
        refine bw_nmI ev3 ?_
        refine bw_istore_n (pc := 35) (L' := [(3, .int v3), (0, .ref (ρ 0)), (1, .int x1), (2, .int x2)]) C dX4_says_35 rfl (by decide) rfl ?_
        refine bw_pick [1, 2, 3, 0] rfl ?_
        exact tlX4_says_36 C N x1 x2 rr zz N (v3, M2) h
      · refine bw_pick [0, 1, 2] rfl ?_
        exact tX4_says_21 C N x1 x2 M rr zz h
/-! X4_sets -/
abbrev rmX4_sets : Room := { frames := 3, cells := 0, slots := 0, locals := 66 }
theorem msX4_sets : bw_MV yX4_sets cX4_sets 6 (some .int) RX4 1 := ⟨mw_505, mw_506, mw_1, mw_507, by decide +kernel⟩
def fX4_sets_65 (N : Nat) (x1 : Int32) (k21 : Int32 × Int32 × Int32 → Option (Int32 × bw_M)) (x3 : Int32) (x4 : Int32) (x5 : Int32) (M : bw_M) : Option (Int32 × bw_M) :=
  bw_mv (x5 + 1) fun v10 =>
  k21 (x3, x4, v10)
theorem tX4_sets_65 {p : Program} {l : Launch} {e : Env} {s : State} {m : MethodId} {args : Array Value} {below : List Frame} {meth : Method} {c : Code} {D : va_G} {kT : Nat → ClassId} {ρ : Nat → Nat} (C : bw_Cx p s m args meth c cX4_sets 6 RX4 45 D kT ρ (some .int)) (N : Nat) (x1 : Int32)  (k21 : Int32 × Int32 × Int32 → Option (Int32 × bw_M)) (x3 : Int32) (x4 : Int32) (x5 : Int32) (M : bw_M) (rr : Int32) (zz : bw_M) (hk21 : ∀ z0, k21 z0 = some (rr, zz) → bw_At p l e rmX4_sets s m args below meth c (MQ below (bw_QI bw_shC 45 D kT ρ rr zz) args s 0 0 (bw_A ρ 45)) bw_shC 45 D kT ρ 6 21 [(0, .ref (ρ 0)), (1, .int x1), (3, .int z0.1), (4, .int z0.2.1), (5, .int z0.2.2)] [] M) (h : fX4_sets_65 N x1 k21 x3 x4 x5 M = some (rr, zz)) : bw_At p l e rmX4_sets s m args below meth c (MQ below (bw_QI bw_shC 45 D kT ρ rr zz) args s 0 0 (bw_A ρ 45)) bw_shC 45 D kT ρ 6 65 [(0, .ref (ρ 0)), (1, .int x1), (3, .int x3), (4, .int x4), (5, .int x5)] [] M := by
  unfold fX4_sets_65 at h
  obtain ⟨v10, ev10, h⟩ := bw_mv_o h
  refine bw_iinc (pc := 65) (x := v10) (L' := [(5, .int v10), (0, .ref (ρ 0)), (1, .int x1), (3, .int x3), (4, .int x4)]) C 4 dX4_sets_65 rfl ev10.symm (by decide) rfl ?_
  refine bw_goto (pc := 68) C 21 dX4_sets_68 (by decide) ?_
  refine bw_pick [1, 2, 3, 4, 0] rfl ?_
  exact hk21 (x3, x4, v10) h
def fX4_sets_63 (N : Nat) (x1 : Int32) (k21 : Int32 × Int32 × Int32 → Option (Int32 × bw_M)) (x3 : Int32) (x5 : Int32) (s0 : Int32) (M : bw_M) : Option (Int32 × bw_M) :=
  fX4_sets_65 N x1 k21 x3 s0 x5 M
theorem tX4_sets_63 {p : Program} {l : Launch} {e : Env} {s : State} {m : MethodId} {args : Array Value} {below : List Frame} {meth : Method} {c : Code} {D : va_G} {kT : Nat → ClassId} {ρ : Nat → Nat} (C : bw_Cx p s m args meth c cX4_sets 6 RX4 45 D kT ρ (some .int)) (N : Nat) (x1 : Int32)  (k21 : Int32 × Int32 × Int32 → Option (Int32 × bw_M)) (x3 : Int32) (x5 : Int32) (s0 : Int32) (M : bw_M) (rr : Int32) (zz : bw_M) (hk21 : ∀ z0, k21 z0 = some (rr, zz) → bw_At p l e rmX4_sets s m args below meth c (MQ below (bw_QI bw_shC 45 D kT ρ rr zz) args s 0 0 (bw_A ρ 45)) bw_shC 45 D kT ρ 6 21 [(0, .ref (ρ 0)), (1, .int x1), (3, .int z0.1), (4, .int z0.2.1), (5, .int z0.2.2)] [] M) (h : fX4_sets_63 N x1 k21 x3 x5 s0 M = some (rr, zz)) : bw_At p l e rmX4_sets s m args below meth c (MQ below (bw_QI bw_shC 45 D kT ρ rr zz) args s 0 0 (bw_A ρ 45)) bw_shC 45 D kT ρ 6 63 [(0, .ref (ρ 0)), (1, .int x1), (3, .int x3), (5, .int x5)] [.int s0] M := by
  unfold fX4_sets_63 at h
  refine bw_istore (pc := 63) (L' := [(4, .int s0), (0, .ref (ρ 0)), (1, .int x1), (3, .int x3), (5, .int x5)]) C dX4_sets_63 (by decide) rfl ?_
  refine bw_pick [1, 2, 3, 0, 4] rfl ?_
  exact tX4_sets_65 C N x1 k21 x3 s0 x5 M rr zz hk21 h
def fX4_sets_21 (N : Nat) (x1 : Int32) (k21 : Int32 × Int32 × Int32 → Option (Int32 × bw_M)) (x3 : Int32) (x4 : Int32) (x5 : Int32) (M : bw_M) : Option (Int32 × bw_M) :=
  bw_cl (fX3_allPipes 16 M) fun v5 =>
  if v5 < x5 then
  bw_cl (fX4_tellShare N (Int32.toInt64 x3) (1 : Int64) M) fun M6 =>
  bw_c2 (fX4_tell x4 M6) fun v7 M8 =>
  some (v7, M8)
  else
  bw_cl (fX3_wantTogether N 16 x5 M) fun v9 =>
  if v9 = x1 then
  bw_mv (x3 + 1) fun v11 =>
  if x4 = (-9 : Int32) then
  fX4_sets_63 N x1 k21 v11 x5 x5 M
  else
  fX4_sets_63 N x1 k21 v11 x5 x4 M
  else
  fX4_sets_65 N x1 k21 x3 x4 x5 M
theorem tX4_sets_21 {p : Program} {l : Launch} {e : Env} {s : State} {m : MethodId} {args : Array Value} {below : List Frame} {meth : Method} {c : Code} {D : va_G} {kT : Nat → ClassId} {ρ : Nat → Nat} (C : bw_Cx p s m args meth c cX4_sets 6 RX4 45 D kT ρ (some .int)) (N : Nat) (x1 : Int32)  (k21 : Int32 × Int32 × Int32 → Option (Int32 × bw_M)) (x3 : Int32) (x4 : Int32) (x5 : Int32) (M : bw_M) (rr : Int32) (zz : bw_M) (hk21 : ∀ z0, k21 z0 = some (rr, zz) → bw_At p l e rmX4_sets s m args below meth c (MQ below (bw_QI bw_shC 45 D kT ρ rr zz) args s 0 0 (bw_A ρ 45)) bw_shC 45 D kT ρ 6 21 [(0, .ref (ρ 0)), (1, .int x1), (3, .int z0.1), (4, .int z0.2.1), (5, .int z0.2.2)] [] M) (h : fX4_sets_21 N x1 k21 x3 x4 x5 M = some (rr, zz)) : bw_At p l e rmX4_sets s m args below meth c (MQ below (bw_QI bw_shC 45 D kT ρ rr zz) args s 0 0 (bw_A ρ 45)) bw_shC 45 D kT ρ 6 21 [(0, .ref (ρ 0)), (1, .int x1), (3, .int x3), (4, .int x4), (5, .int x5)] [] M := by
  unfold fX4_sets_21 at h
  refine bw_iload (pc := 21) C 4 dX4_sets_21 rfl ?_
  refine bw_aload_n (pc := 23) C 0 dX4_sets_23 rfl rfl ?_
  refine bw_getR (pc := 24) (q := 0) (k0 := 5) C ltC_0 shC_0 rfl inX4 mw_128 (by decide) rfl dX4_sets_24 ?_
  obtain ⟨v5, ev5, h⟩ := bw_cl_o h
  refine bw_cVi (pc := 27) (q := 16) (As := []) (rest := [.int x5]) C (tX3_allPipes l 16 isT_16 M v5 ev5) msX3_allPipes mw_430 rfl rfl ⟨Nat.le_of_ble_eq_true rfl, Nat.le_of_ble_eq_true rfl⟩ ltC_16 shC_16 rfl rfl rfl rfl (Nat.le_of_ble_eq_true rfl) dX4_sets_27 ?_
  refine bw_icmp_gt (pc := 30) C 71 dX4_sets_30 (by decide) h (fun h => ?_) (fun h => ?_)
  · refine bw_aload_n (pc := 71) C 0 dX4_sets_71 rfl rfl ?_
    refine bw_iload_n (pc := 72) C 2 dX4_sets_72 rfl rfl ?_
    refine bw_i2l (pc := 73) C dX4_sets_73 ?_
    refine bw_lconst (pc := 74) (v := (1 : Int64)) C dX4_sets_74 rfl ?_
    obtain ⟨M6, eM6, h⟩ := bw_cl_o h
    refine bw_cVv (pc := 75) (q := 0) (As := [.long (Int32.toInt64 x3), .long (1 : Int64)]) (rest := []) C (tX4_tellShare l N (Int32.toInt64 x3) (1 : Int64) M M6 eM6) msX4_tellShare mw_477 rfl rfl ⟨Nat.le_of_ble_eq_true rfl, Nat.le_of_ble_eq_true rfl⟩ ltC_0 shC_0 rfl rfl rfl rfl (Nat.le_of_ble_eq_true rfl) dX4_sets_75 ?_
    refine bw_aload_n (pc := 78) C 0 dX4_sets_78 rfl rfl ?_
    refine bw_iload (pc := 79) C 3 dX4_sets_79 rfl ?_
    obtain ⟨v7, M8, ev7, h⟩ := bw_c2_o h
    refine bw_cVi (pc := 81) (q := 0) (As := [.int x4]) (rest := []) C (tX4_tell l x4 M6 v7 M8 ev7) msX4_tell mw_197 rfl rfl ⟨Nat.le_of_ble_eq_true rfl, Nat.le_of_ble_eq_true rfl⟩ ltC_0 shC_0 rfl rfl rfl rfl (Nat.le_of_ble_eq_true rfl) dX4_sets_81 ?_
    exact bw_ireti (pc := 84) C dX4_sets_84 h
  · refine bw_aload_n (pc := 33) C 0 dX4_sets_33 rfl rfl ?_
    refine bw_getR (pc := 34) (q := 0) (k0 := 5) C ltC_0 shC_0 rfl inX4 mw_128 (by decide) rfl dX4_sets_34 ?_
    refine bw_iload (pc := 37) C 4 dX4_sets_37 rfl ?_
    obtain ⟨v9, ev9, h⟩ := bw_cl_o h
    refine bw_cVi (pc := 39) (q := 16) (As := [.int x5]) (rest := []) C (tX3_wantTogether l N 16 x5 isT_16 M v9 ev9) msX3_wantTogether mw_512 rfl rfl ⟨Nat.le_of_ble_eq_true rfl, Nat.le_of_ble_eq_true rfl⟩ ltC_16 shC_16 rfl rfl rfl rfl (Nat.le_of_ble_eq_true rfl) dX4_sets_39 ?_
    refine bw_iload_n (pc := 42) C 1 dX4_sets_42 rfl rfl ?_
    refine bw_icmp_ne (pc := 43) C 65 dX4_sets_43 (by decide) h (fun h => ?_) (fun h => ?_)
    · refine bw_pick [0, 1, 2, 3, 4] rfl ?_
      exact tX4_sets_65 C N x1 k21 x3 x4 x5 M rr zz hk21 h
    · obtain ⟨v11, ev11, h⟩ := bw_mv_o h
      refine bw_iinc (pc := 46) (x := v11) (L' := [(3, .int v11), (0, .ref (ρ 0)), (1, .int x1), (4, .int x4), (5, .int x5)]) C 2 dX4_sets_46 rfl ev11.symm (by decide) rfl ?_
      refine bw_iload (pc := 49) C 3 dX4_sets_49 rfl ?_
      refine bw_bipush (pc := 51) (v := (-9 : Int32)) C dX4_sets_51 bi_m9 ?_
      refine bw_icmp_ne (pc := 53) C 61 dX4_sets_53 (by decide) h (fun h => ?_) (fun h => ?_)
      · refine bw_iload (pc := 61) C 3 dX4_sets_61 rfl ?_
        refine bw_pick [1, 2, 0, 4] rfl ?_
        exact tX4_sets_63 C N x1 k21 v11 x5 x4 M rr zz hk21 h
      · refine bw_iload (pc := 56) C 4 dX4_sets_56 rfl ?_
        refine bw_goto (pc := 58) C 63 dX4_sets_58 (by decide) ?_
        refine bw_pick [1, 2, 0, 4] rfl ?_
        exact tX4_sets_63 C N x1 k21 v11 x5 x5 M rr zz hk21 h
def flX4_sets_21 (N : Nat) (x1 : Int32)   (M : bw_M) (fu : Nat) (w : Int32 × Int32 × Int32) : Option (Int32 × bw_M) := bw_lp (fun kk w => fX4_sets_21 N x1 kk w.1 w.2.1 w.2.2 M) fu w
theorem tlX4_sets_21 {p : Program} {l : Launch} {e : Env} {s : State} {m : MethodId} {args : Array Value} {below : List Frame} {meth : Method} {c : Code} {D : va_G} {kT : Nat → ClassId} {ρ : Nat → Nat} (C : bw_Cx p s m args meth c cX4_sets 6 RX4 45 D kT ρ (some .int)) (N : Nat) (x1 : Int32)    (M : bw_M) (rr : Int32) (zz : bw_M)  (fu : Nat) (w : Int32 × Int32 × Int32) (h : flX4_sets_21 N x1 M fu w = some (rr, zz)) : bw_At p l e rmX4_sets s m args below meth c (MQ below (bw_QI bw_shC 45 D kT ρ rr zz) args s 0 0 (bw_A ρ 45)) bw_shC 45 D kT ρ 6 21 [(0, .ref (ρ 0)), (1, .int x1), (3, .int w.1), (4, .int w.2.1), (5, .int w.2.2)] [] M :=
  bw_loop (r := (rr, zz)) (fun w => bw_At p l e rmX4_sets s m args below meth c (MQ below (bw_QI bw_shC 45 D kT ρ rr zz) args s 0 0 (bw_A ρ 45)) bw_shC 45 D kT ρ 6 21 [(0, .ref (ρ 0)), (1, .int x1), (3, .int w.1), (4, .int w.2.1), (5, .int w.2.2)] [] M) (fun kk hk w h => tX4_sets_21 C N x1 kk w.1 w.2.1 w.2.2 M rr zz hk h) fu w h
def fX4_sets (N : Nat) (x1 : Int32) (M : bw_M) : Option (Int32 × bw_M) :=
  bw_cl (fX4_refusedSum x1 M) fun v1 =>
  if v1 = 0 then
  bw_mv (0 : Int32) fun v2 =>
  bw_mv (-9 : Int32) fun v3 =>
  bw_mv (0 : Int32) fun v4 =>
  flX4_sets_21 N x1 M N (v2, v3, v4)
  else
  some (v1, M)
theorem tX4_sets (l : Launch) (N : Nat) (x1 : Int32)  (M : bw_M) (rr : Int32) (zz : bw_M) (h : fX4_sets N x1 M = some (rr, zz)) : bw_CI l bw_shC 45 yX4_sets cX4_sets 6 (some .int) rmX4_sets (fun ρ => [.ref (ρ 0), .int x1]) M rr zz := by
  refine bw_inI (Lf := fun ρ => [(0, .ref (ρ 0)), (1, .int x1)]) cX4_sets 6 (some .int) RX4 pn_X4 rfl (fun ρ => Nat.le_of_ble_eq_true rfl) (fun ρ => rfl) ?_
  intro p e s m args below meth c D kT ρ C
  unfold fX4_sets at h
  refine bw_aload_n (pc := 0) C 0 dX4_sets_0 rfl rfl ?_
  refine bw_iload_n (pc := 1) C 1 dX4_sets_1 rfl rfl ?_
  obtain ⟨v1, ev1, h⟩ := bw_cl_o h
  refine bw_cVi (pc := 2) (q := 0) (As := [.int x1]) (rest := []) C (tX4_refusedSum l x1 M v1 ev1) msX4_refusedSum mw_508 rfl rfl ⟨Nat.le_of_ble_eq_true rfl, Nat.le_of_ble_eq_true rfl⟩ ltC_0 shC_0 rfl rfl rfl rfl (Nat.le_of_ble_eq_true rfl) dX4_sets_2 ?_
  refine bw_istore_n (pc := 5) (L' := [(2, .int v1), (0, .ref (ρ 0)), (1, .int x1)]) C dX4_sets_5 rfl (by decide) rfl ?_
  refine bw_iload_n (pc := 6) C 0 dX4_sets_6 rfl rfl ?_
  refine bw_if_eq (pc := 7) C 12 dX4_sets_7 (by decide) h (fun h => ?_) (fun h => ?_)
  · refine bw_iconst (pc := 12) (v := (0 : Int32)) C dX4_sets_12 ic_0 ?_
    obtain ⟨v2, ev2, h⟩ := bw_mv_o h
    refine bw_nmI ev2 ?_
    refine bw_istore_n (pc := 13) (L' := [(3, .int v2), (2, .int v1), (0, .ref (ρ 0)), (1, .int x1)]) C dX4_sets_13 rfl (by decide) rfl ?_
    refine bw_bipush (pc := 14) (v := (-9 : Int32)) C dX4_sets_14 bi_m9 ?_
    obtain ⟨v3, ev3, h⟩ := bw_mv_o h
    refine bw_nmI ev3 ?_
    refine bw_istore (pc := 16) (L' := [(4, .int v3), (3, .int v2), (2, .int v1), (0, .ref (ρ 0)), (1, .int x1)]) C dX4_sets_16 (by decide) rfl ?_
    refine bw_iconst (pc := 18) (v := (0 : Int32)) C dX4_sets_18 ic_0 ?_
    obtain ⟨v4, ev4, h⟩ := bw_mv_o h
    refine bw_nmI ev4 ?_
    refine bw_istore (pc := 19) (L' := [(5, .int v4), (4, .int v3), (3, .int v2), (2, .int v1), (0, .ref (ρ 0)), (1, .int x1)]) C dX4_sets_19 (by decide) rfl ?_
    refine bw_pick [4, 5, 2, 1, 0] rfl ?_
    exact tlX4_sets_21 C N x1 M rr zz N (v2, v3, v4) h
  · refine bw_iload_n (pc := 10) C 0 dX4_sets_10 rfl rfl ?_
    exact bw_ireti (pc := 11) C dX4_sets_11 h
/-! X4_stroke -/
abbrev rmX4_stroke : Room := { frames := 6, cells := 0, slots := 0, locals := 133 }
theorem msX4_stroke : bw_MV yX4_stroke cX4_stroke 2 (some .int) RX4 1 := ⟨mw_380, mw_381, mw_1, mw_382, by decide +kernel⟩
def fX4_stroke_10 (N : Nat) (x1 : Int32)   (M : bw_M) : Option (Int32 × bw_M) :=
  some ((-1 : Int32), M)
theorem tX4_stroke_10 {p : Program} {l : Launch} {e : Env} {s : State} {m : MethodId} {args : Array Value} {below : List Frame} {meth : Method} {c : Code} {D : va_G} {kT : Nat → ClassId} {ρ : Nat → Nat} (C : bw_Cx p s m args meth c cX4_stroke 2 RX4 45 D kT ρ (some .int)) (N : Nat) (x1 : Int32)    (M : bw_M) (rr : Int32) (zz : bw_M)  (h : fX4_stroke_10 N x1 M = some (rr, zz)) : bw_At p l e rmX4_stroke s m args below meth c (MQ below (bw_QI bw_shC 45 D kT ρ rr zz) args s 0 0 (bw_A ρ 45)) bw_shC 45 D kT ρ 2 10 [(0, .ref (ρ 0)), (1, .int x1)] [] M := by
  unfold fX4_stroke_10 at h
  refine bw_iconst (pc := 10) (v := (-1 : Int32)) C dX4_stroke_10 ic_m1 ?_
  exact bw_ireti (pc := 11) C dX4_stroke_11 h
def fX4_stroke_33 (N : Nat) (x1 : Int32)   (M : bw_M) : Option (Int32 × bw_M) :=
  some ((-4 : Int32), M)
theorem tX4_stroke_33 {p : Program} {l : Launch} {e : Env} {s : State} {m : MethodId} {args : Array Value} {below : List Frame} {meth : Method} {c : Code} {D : va_G} {kT : Nat → ClassId} {ρ : Nat → Nat} (C : bw_Cx p s m args meth c cX4_stroke 2 RX4 45 D kT ρ (some .int)) (N : Nat) (x1 : Int32)    (M : bw_M) (rr : Int32) (zz : bw_M)  (h : fX4_stroke_33 N x1 M = some (rr, zz)) : bw_At p l e rmX4_stroke s m args below meth c (MQ below (bw_QI bw_shC 45 D kT ρ rr zz) args s 0 0 (bw_A ρ 45)) bw_shC 45 D kT ρ 2 33 [(0, .ref (ρ 0)), (1, .int x1)] [] M := by
  unfold fX4_stroke_33 at h
  refine bw_bipush (pc := 33) (v := (-4 : Int32)) C dX4_stroke_33 bi_m4 ?_
  exact bw_ireti (pc := 35) C dX4_stroke_35 h
def fX4_stroke (N : Nat) (x1 : Int32) (M : bw_M) : Option (Int32 × bw_M) :=
  if x1 < 0 then
  fX4_stroke_10 N x1 M
  else
  if x1 < (10 : Int32) then
  if (M.1 16 0) = 0 then
  fX4_stroke_33 N x1 M
  else
  if (M.1 16 4) = x1 then
  fX4_stroke_33 N x1 M
  else
  bw_c2 (fX4_perform N (4 : Int32) x1 M) fun v1 M2 =>
  some (v1, M2)
  else
  fX4_stroke_10 N x1 M
theorem tX4_stroke (l : Launch) (N : Nat) (x1 : Int32)  (M : bw_M) (rr : Int32) (zz : bw_M) (h : fX4_stroke N x1 M = some (rr, zz)) : bw_CI l bw_shC 45 yX4_stroke cX4_stroke 2 (some .int) rmX4_stroke (fun ρ => [.ref (ρ 0), .int x1]) M rr zz := by
  refine bw_inI (Lf := fun ρ => [(0, .ref (ρ 0)), (1, .int x1)]) cX4_stroke 2 (some .int) RX4 pn_X4 rfl (fun ρ => Nat.le_of_ble_eq_true rfl) (fun ρ => rfl) ?_
  intro p e s m args below meth c D kT ρ C
  unfold fX4_stroke at h
  refine bw_iload_n (pc := 0) C 1 dX4_stroke_0 rfl rfl ?_
  refine bw_if_lt (pc := 1) C 10 dX4_stroke_1 (by decide) h (fun h => ?_) (fun h => ?_)
  · refine bw_pick [0, 1] rfl ?_
    exact tX4_stroke_10 C N x1 M rr zz h
  · refine bw_iload_n (pc := 4) C 1 dX4_stroke_4 rfl rfl ?_
    refine bw_bipush (pc := 5) (v := (10 : Int32)) C dX4_stroke_5 bi_10 ?_
    refine bw_icmp_lt (pc := 7) C 12 dX4_stroke_7 (by decide) h (fun h => ?_) (fun h => ?_)
    · refine bw_aload_n (pc := 12) C 0 dX4_stroke_12 rfl rfl ?_
      refine bw_getR (pc := 13) (q := 0) (k0 := 5) C ltC_0 shC_0 rfl inX4 mw_128 (by decide) rfl dX4_stroke_13 ?_
      refine bw_getI (pc := 16) (q := 16) (k0 := 0) C ltC_16 shC_16 rfl inX3 mw_49 (by decide) rfl dX4_stroke_16 ?_
      refine bw_if_eq (pc := 19) C 33 dX4_stroke_19 (by decide) h (fun h => ?_) (fun h => ?_)
      · refine bw_pick [0, 1] rfl ?_
        exact tX4_stroke_33 C N x1 M rr zz h
      · refine bw_aload_n (pc := 22) C 0 dX4_stroke_22 rfl rfl ?_
        refine bw_getR (pc := 23) (q := 0) (k0 := 5) C ltC_0 shC_0 rfl inX4 mw_128 (by decide) rfl dX4_stroke_23 ?_
        refine bw_getI (pc := 26) (q := 16) (k0 := 4) C ltC_16 shC_16 rfl inX3 mw_55 (by decide) rfl dX4_stroke_26 ?_
        refine bw_iload_n (pc := 29) C 1 dX4_stroke_29 rfl rfl ?_
        refine bw_icmp_ne (pc := 30) C 36 dX4_stroke_30 (by decide) h (fun h => ?_) (fun h => ?_)
        · refine bw_aload_n (pc := 36) C 0 dX4_stroke_36 rfl rfl ?_
          refine bw_iconst (pc := 37) (v := (4 : Int32)) C dX4_stroke_37 ic_4 ?_
          refine bw_iload_n (pc := 38) C 1 dX4_stroke_38 rfl rfl ?_
          obtain ⟨v1, M2, ev1, h⟩ := bw_c2_o h
          refine bw_cVi (pc := 39) (q := 0) (As := [.int (4 : Int32), .int x1]) (rest := []) C (tX4_perform l N (4 : Int32) x1 M v1 M2 ev1) msX4_perform mw_334 rfl rfl ⟨Nat.le_of_ble_eq_true rfl, Nat.le_of_ble_eq_true rfl⟩ ltC_0 shC_0 rfl rfl rfl rfl (Nat.le_of_ble_eq_true rfl) dX4_stroke_39 ?_
          exact bw_ireti (pc := 42) C dX4_stroke_42 h
        · refine bw_pick [0, 1] rfl ?_
          exact tX4_stroke_33 C N x1 M rr zz h
    · refine bw_pick [0, 1] rfl ?_
      exact tX4_stroke_10 C N x1 M rr zz h
/-! X4_strokes -/
abbrev rmX4_strokes : Room := { frames := 5, cells := 0, slots := 0, locals := 111 }
theorem msX4_strokes : bw_MV yX4_strokes cX4_strokes 5 (some .int) RX4 1 := ⟨mw_497, mw_498, mw_1, mw_499, by decide +kernel⟩
def fX4_strokes_59 (N : Nat) (x1 : Int32) (k17 : Int32 × Int32 × bw_M → Option (Int32 × bw_M)) (x3 : Int32) (x4 : Int32) (M : bw_M) : Option (Int32 × bw_M) :=
  bw_mv (x4 + 1) fun v9 =>
  k17 (x3, v9, M)
theorem tX4_strokes_59 {p : Program} {l : Launch} {e : Env} {s : State} {m : MethodId} {args : Array Value} {below : List Frame} {meth : Method} {c : Code} {D : va_G} {kT : Nat → ClassId} {ρ : Nat → Nat} (C : bw_Cx p s m args meth c cX4_strokes 5 RX4 45 D kT ρ (some .int)) (N : Nat) (x1 : Int32)  (k17 : Int32 × Int32 × bw_M → Option (Int32 × bw_M)) (x3 : Int32) (x4 : Int32) (M : bw_M) (rr : Int32) (zz : bw_M) (hk17 : ∀ z0, k17 z0 = some (rr, zz) → bw_At p l e rmX4_strokes s m args below meth c (MQ below (bw_QI bw_shC 45 D kT ρ rr zz) args s 0 0 (bw_A ρ 45)) bw_shC 45 D kT ρ 5 17 [(0, .ref (ρ 0)), (1, .int x1), (3, .int z0.1), (4, .int z0.2.1)] [] z0.2.2) (h : fX4_strokes_59 N x1 k17 x3 x4 M = some (rr, zz)) : bw_At p l e rmX4_strokes s m args below meth c (MQ below (bw_QI bw_shC 45 D kT ρ rr zz) args s 0 0 (bw_A ρ 45)) bw_shC 45 D kT ρ 5 59 [(0, .ref (ρ 0)), (1, .int x1), (3, .int x3), (4, .int x4)] [] M := by
  unfold fX4_strokes_59 at h
  obtain ⟨v9, ev9, h⟩ := bw_mv_o h
  refine bw_iinc (pc := 59) (x := v9) (L' := [(4, .int v9), (0, .ref (ρ 0)), (1, .int x1), (3, .int x3)]) C 3 dX4_strokes_59 rfl ev9.symm (by decide) rfl ?_
  refine bw_goto (pc := 62) C 17 dX4_strokes_62 (by decide) ?_
  refine bw_pick [1, 2, 3, 0] rfl ?_
  exact hk17 (x3, v9, M) h
def fX4_strokes_17 (N : Nat) (x1 : Int32) (k17 : Int32 × Int32 × bw_M → Option (Int32 × bw_M)) (x3 : Int32) (x4 : Int32) (M : bw_M) : Option (Int32 × bw_M) :=
  if (10 : Int32) ≤ x4 then
  some (x3, M)
  else
  bw_cl (fX3_become N 22 16 M) fun M5 =>
  bw_mv (bw_pI M5 22 4 x4) fun M6 =>
  bw_c2 (fX4_trialSpeaksLike N x1 M6) fun v7 M8 =>
  if v7 = 0 then
  fX4_strokes_59 N x1 k17 x3 x4 M8
  else
  bw_mv (x3 ||| ((1 : Int32) <<< (x4 &&& 31))) fun v10 =>
  fX4_strokes_59 N x1 k17 v10 x4 M8
theorem tX4_strokes_17 {p : Program} {l : Launch} {e : Env} {s : State} {m : MethodId} {args : Array Value} {below : List Frame} {meth : Method} {c : Code} {D : va_G} {kT : Nat → ClassId} {ρ : Nat → Nat} (C : bw_Cx p s m args meth c cX4_strokes 5 RX4 45 D kT ρ (some .int)) (N : Nat) (x1 : Int32)  (k17 : Int32 × Int32 × bw_M → Option (Int32 × bw_M)) (x3 : Int32) (x4 : Int32) (M : bw_M) (rr : Int32) (zz : bw_M) (hk17 : ∀ z0, k17 z0 = some (rr, zz) → bw_At p l e rmX4_strokes s m args below meth c (MQ below (bw_QI bw_shC 45 D kT ρ rr zz) args s 0 0 (bw_A ρ 45)) bw_shC 45 D kT ρ 5 17 [(0, .ref (ρ 0)), (1, .int x1), (3, .int z0.1), (4, .int z0.2.1)] [] z0.2.2) (h : fX4_strokes_17 N x1 k17 x3 x4 M = some (rr, zz)) : bw_At p l e rmX4_strokes s m args below meth c (MQ below (bw_QI bw_shC 45 D kT ρ rr zz) args s 0 0 (bw_A ρ 45)) bw_shC 45 D kT ρ 5 17 [(0, .ref (ρ 0)), (1, .int x1), (3, .int x3), (4, .int x4)] [] M := by
  unfold fX4_strokes_17 at h
  refine bw_iload (pc := 17) C 3 dX4_strokes_17 rfl ?_
  refine bw_bipush (pc := 19) (v := (10 : Int32)) C dX4_strokes_19 bi_10 ?_
  refine bw_icmp_ge (pc := 21) C 65 dX4_strokes_21 (by decide) h (fun h => ?_) (fun h => ?_)
  · refine bw_iload_n (pc := 65) C 2 dX4_strokes_65 rfl rfl ?_
    exact bw_ireti (pc := 66) C dX4_strokes_66 h
  · refine bw_aload_n (pc := 24) C 0 dX4_strokes_24 rfl rfl ?_
    refine bw_getR (pc := 25) (q := 0) (k0 := 6) C ltC_0 shC_0 rfl inX4 mw_129 (by decide) rfl dX4_strokes_25 ?_
    refine bw_aload_n (pc := 28) C 0 dX4_strokes_28 rfl rfl ?_
    refine bw_getR (pc := 29) (q := 0) (k0 := 5) C ltC_0 shC_0 rfl inX4 mw_128 (by decide) rfl dX4_strokes_29 ?_
    obtain ⟨M5, eM5, h⟩ := bw_cl_o h
    refine bw_cVv (pc := 32) (q := 22) (As := [.ref (ρ 16)]) (rest := []) C (tX3_become l N 22 16 isT_22 isT_16 M M5 eM5) msX3_become mw_282 rfl rfl ⟨Nat.le_of_ble_eq_true rfl, Nat.le_of_ble_eq_true rfl⟩ ltC_22 shC_22 rfl rfl rfl rfl (Nat.le_of_ble_eq_true rfl) dX4_strokes_32 ?_
    refine bw_aload_n (pc := 35) C 0 dX4_strokes_35 rfl rfl ?_
    refine bw_getR (pc := 36) (q := 0) (k0 := 6) C ltC_0 shC_0 rfl inX4 mw_129 (by decide) rfl dX4_strokes_36 ?_
    refine bw_iload (pc := 39) C 3 dX4_strokes_39 rfl ?_
    obtain ⟨M6, eM6, h⟩ := bw_mv_o h
    refine bw_putI (pc := 41) (q := 22) (k0 := 4) C ltC_22 shC_22 rfl inX3 mw_55 (by decide) tyX3 tyX3_ok nmX3 rfl rfl rfl eM6 rfl rfl dX4_strokes_41 ?_
    refine bw_aload_n (pc := 44) C 0 dX4_strokes_44 rfl rfl ?_
    refine bw_iload_n (pc := 45) C 1 dX4_strokes_45 rfl rfl ?_
    obtain ⟨v7, M8, ev7, h⟩ := bw_c2_o h
    refine bw_cVi (pc := 46) (q := 0) (As := [.int x1]) (rest := []) C (tX4_trialSpeaksLike l N x1 M6 v7 M8 ev7) msX4_trialSpeaksLike mw_473 rfl rfl ⟨Nat.le_of_ble_eq_true rfl, Nat.le_of_ble_eq_true rfl⟩ ltC_0 shC_0 rfl rfl rfl rfl (Nat.le_of_ble_eq_true rfl) dX4_strokes_46 ?_
    refine bw_if_eq (pc := 49) C 59 dX4_strokes_49 (by decide) h (fun h => ?_) (fun h => ?_)
    · refine bw_pick [0, 1, 2, 3] rfl ?_
      exact tX4_strokes_59 C N x1 k17 x3 x4 M8 rr zz hk17 h
    · refine bw_iload_n (pc := 52) C 2 dX4_strokes_52 rfl rfl ?_
      refine bw_iconst (pc := 53) (v := (1 : Int32)) C dX4_strokes_53 ic_1 ?_
      refine bw_iload (pc := 54) C 3 dX4_strokes_54 rfl ?_
      refine bw_ishl (pc := 56) C dX4_strokes_56 ?_
      refine bw_ior (pc := 57) C dX4_strokes_57 ?_
      obtain ⟨v10, ev10, h⟩ := bw_mv_o h
      refine bw_nmI ev10 ?_
      refine bw_istore_n (pc := 58) (L' := [(3, .int v10), (0, .ref (ρ 0)), (1, .int x1), (4, .int x4)]) C dX4_strokes_58 rfl (by decide) rfl ?_
      refine bw_pick [1, 2, 0, 3] rfl ?_
      exact tX4_strokes_59 C N x1 k17 v10 x4 M8 rr zz hk17 h
def flX4_strokes_17 (N : Nat) (x1 : Int32)    (fu : Nat) (w : Int32 × Int32 × bw_M) : Option (Int32 × bw_M) := bw_lp (fun kk w => fX4_strokes_17 N x1 kk w.1 w.2.1 w.2.2) fu w
theorem tlX4_strokes_17 {p : Program} {l : Launch} {e : Env} {s : State} {m : MethodId} {args : Array Value} {below : List Frame} {meth : Method} {c : Code} {D : va_G} {kT : Nat → ClassId} {ρ : Nat → Nat} (C : bw_Cx p s m args meth c cX4_strokes 5 RX4 45 D kT ρ (some .int)) (N : Nat) (x1 : Int32)     (rr : Int32) (zz : bw_M)  (fu : Nat) (w : Int32 × Int32 × bw_M) (h : flX4_strokes_17 N x1 fu w = some (rr, zz)) : bw_At p l e rmX4_strokes s m args below meth c (MQ below (bw_QI bw_shC 45 D kT ρ rr zz) args s 0 0 (bw_A ρ 45)) bw_shC 45 D kT ρ 5 17 [(0, .ref (ρ 0)), (1, .int x1), (3, .int w.1), (4, .int w.2.1)] [] w.2.2 :=
  bw_loop (r := (rr, zz)) (fun w => bw_At p l e rmX4_strokes s m args below meth c (MQ below (bw_QI bw_shC 45 D kT ρ rr zz) args s 0 0 (bw_A ρ 45)) bw_shC 45 D kT ρ 5 17 [(0, .ref (ρ 0)), (1, .int x1), (3, .int w.1), (4, .int w.2.1)] [] w.2.2) (fun kk hk w h => tX4_strokes_17 C N x1 kk w.1 w.2.1 w.2.2 rr zz hk h) fu w h
def fX4_strokes (N : Nat) (x1 : Int32) (M : bw_M) : Option (Int32 × bw_M) :=
  bw_c2 (fX4_refusedHearing N x1 M) fun v1 M2 =>
  if v1 = 0 then
  bw_mv (0 : Int32) fun v3 =>
  bw_mv (0 : Int32) fun v4 =>
  flX4_strokes_17 N x1 N (v3, v4, M2)
  else
  some (v1, M2)
theorem tX4_strokes (l : Launch) (N : Nat) (x1 : Int32)  (M : bw_M) (rr : Int32) (zz : bw_M) (h : fX4_strokes N x1 M = some (rr, zz)) : bw_CI l bw_shC 45 yX4_strokes cX4_strokes 5 (some .int) rmX4_strokes (fun ρ => [.ref (ρ 0), .int x1]) M rr zz := by
  refine bw_inI (Lf := fun ρ => [(0, .ref (ρ 0)), (1, .int x1)]) cX4_strokes 5 (some .int) RX4 pn_X4 rfl (fun ρ => Nat.le_of_ble_eq_true rfl) (fun ρ => rfl) ?_
  intro p e s m args below meth c D kT ρ C
  unfold fX4_strokes at h
  refine bw_aload_n (pc := 0) C 0 dX4_strokes_0 rfl rfl ?_
  refine bw_iload_n (pc := 1) C 1 dX4_strokes_1 rfl rfl ?_
  obtain ⟨v1, M2, ev1, h⟩ := bw_c2_o h
  refine bw_cVi (pc := 2) (q := 0) (As := [.int x1]) (rest := []) C (tX4_refusedHearing l N x1 M v1 M2 ev1) msX4_refusedHearing mw_465 rfl rfl ⟨Nat.le_of_ble_eq_true rfl, Nat.le_of_ble_eq_true rfl⟩ ltC_0 shC_0 rfl rfl rfl rfl (Nat.le_of_ble_eq_true rfl) dX4_strokes_2 ?_
  refine bw_istore_n (pc := 5) (L' := [(2, .int v1), (0, .ref (ρ 0)), (1, .int x1)]) C dX4_strokes_5 rfl (by decide) rfl ?_
  refine bw_iload_n (pc := 6) C 0 dX4_strokes_6 rfl rfl ?_
  refine bw_if_eq (pc := 7) C 12 dX4_strokes_7 (by decide) h (fun h => ?_) (fun h => ?_)
  · refine bw_iconst (pc := 12) (v := (0 : Int32)) C dX4_strokes_12 ic_0 ?_
    obtain ⟨v3, ev3, h⟩ := bw_mv_o h
    refine bw_nmI ev3 ?_
    refine bw_istore_n (pc := 13) (L' := [(3, .int v3), (2, .int v1), (0, .ref (ρ 0)), (1, .int x1)]) C dX4_strokes_13 rfl (by decide) rfl ?_
    refine bw_iconst (pc := 14) (v := (0 : Int32)) C dX4_strokes_14 ic_0 ?_
    obtain ⟨v4, ev4, h⟩ := bw_mv_o h
    refine bw_nmI ev4 ?_
    refine bw_istore (pc := 15) (L' := [(4, .int v4), (3, .int v3), (2, .int v1), (0, .ref (ρ 0)), (1, .int x1)]) C dX4_strokes_15 (by decide) rfl ?_
    refine bw_pick [3, 4, 1, 0] rfl ?_
    exact tlX4_strokes_17 C N x1 rr zz N (v3, v4, M2) h
  · refine bw_iload_n (pc := 10) C 0 dX4_strokes_10 rfl rfl ?_
    exact bw_ireti (pc := 11) C dX4_strokes_11 h
/-! X4_sure -/
abbrev rmX4_sure : Room := { frames := 3, cells := 0, slots := 0, locals := 66 }
theorem msX4_sure : bw_MV yX4_sure cX4_sure 7 (some .int) RX4 1 := ⟨mw_518, mw_519, mw_1, mw_520, by decide +kernel⟩
def fX4_sure_69 (N : Nat) (x1 : Int32) (k29 : Int32 × Int32 × Int32 × Int32 → Option (Int32 × bw_M)) (x3 : Int32) (x4 : Int32) (x5 : Int32) (x6 : Int32) (M : bw_M) : Option (Int32 × bw_M) :=
  bw_mv (x6 + 1) fun v13 =>
  k29 (x3, x4, x5, v13)
theorem tX4_sure_69 {p : Program} {l : Launch} {e : Env} {s : State} {m : MethodId} {args : Array Value} {below : List Frame} {meth : Method} {c : Code} {D : va_G} {kT : Nat → ClassId} {ρ : Nat → Nat} (C : bw_Cx p s m args meth c cX4_sure 7 RX4 45 D kT ρ (some .int)) (N : Nat) (x1 : Int32)  (k29 : Int32 × Int32 × Int32 × Int32 → Option (Int32 × bw_M)) (x3 : Int32) (x4 : Int32) (x5 : Int32) (x6 : Int32) (M : bw_M) (rr : Int32) (zz : bw_M) (hk29 : ∀ z0, k29 z0 = some (rr, zz) → bw_At p l e rmX4_sure s m args below meth c (MQ below (bw_QI bw_shC 45 D kT ρ rr zz) args s 0 0 (bw_A ρ 45)) bw_shC 45 D kT ρ 7 29 [(0, .ref (ρ 0)), (1, .int x1), (3, .int z0.1), (4, .int z0.2.1), (5, .int z0.2.2.1), (6, .int z0.2.2.2)] [] M) (h : fX4_sure_69 N x1 k29 x3 x4 x5 x6 M = some (rr, zz)) : bw_At p l e rmX4_sure s m args below meth c (MQ below (bw_QI bw_shC 45 D kT ρ rr zz) args s 0 0 (bw_A ρ 45)) bw_shC 45 D kT ρ 7 69 [(0, .ref (ρ 0)), (1, .int x1), (3, .int x3), (4, .int x4), (5, .int x5), (6, .int x6)] [] M := by
  unfold fX4_sure_69 at h
  obtain ⟨v13, ev13, h⟩ := bw_mv_o h
  refine bw_iinc (pc := 69) (x := v13) (L' := [(6, .int v13), (0, .ref (ρ 0)), (1, .int x1), (3, .int x3), (4, .int x4), (5, .int x5)]) C 5 dX4_sure_69 rfl ev13.symm (by decide) rfl ?_
  refine bw_goto (pc := 72) C 29 dX4_sure_72 (by decide) ?_
  refine bw_pick [1, 2, 3, 4, 5, 0] rfl ?_
  exact hk29 (x3, x4, x5, v13) h
def fX4_sure_29 (N : Nat) (x1 : Int32) (k29 : Int32 × Int32 × Int32 × Int32 → Option (Int32 × bw_M)) (x3 : Int32) (x4 : Int32) (x5 : Int32) (x6 : Int32) (M : bw_M) : Option (Int32 × bw_M) :=
  bw_cl (fX3_allPipes 16 M) fun v6 =>
  if v6 < x6 then
  if x5 = 0 then
  bw_c2 (fX4_found (4 : Int32) M) fun v10 M11 =>
  some (v10, M11)
  else
  bw_cl (fX3_allPipes 16 M) fun v7 =>
  bw_c2 (fX4_tell (v7 &&& (x4 ^^^ (-1 : Int32))) M) fun v8 M9 =>
  some (x3, M9)
  else
  bw_cl (fX3_wantTogether N 16 x6 M) fun v12 =>
  if v12 = x1 then
  bw_mv (1 : Int32) fun v14 =>
  bw_mv (x3 &&& x6) fun v15 =>
  bw_mv (x4 ||| x6) fun v16 =>
  fX4_sure_69 N x1 k29 v15 v16 v14 x6 M
  else
  fX4_sure_69 N x1 k29 x3 x4 x5 x6 M
theorem tX4_sure_29 {p : Program} {l : Launch} {e : Env} {s : State} {m : MethodId} {args : Array Value} {below : List Frame} {meth : Method} {c : Code} {D : va_G} {kT : Nat → ClassId} {ρ : Nat → Nat} (C : bw_Cx p s m args meth c cX4_sure 7 RX4 45 D kT ρ (some .int)) (N : Nat) (x1 : Int32)  (k29 : Int32 × Int32 × Int32 × Int32 → Option (Int32 × bw_M)) (x3 : Int32) (x4 : Int32) (x5 : Int32) (x6 : Int32) (M : bw_M) (rr : Int32) (zz : bw_M) (hk29 : ∀ z0, k29 z0 = some (rr, zz) → bw_At p l e rmX4_sure s m args below meth c (MQ below (bw_QI bw_shC 45 D kT ρ rr zz) args s 0 0 (bw_A ρ 45)) bw_shC 45 D kT ρ 7 29 [(0, .ref (ρ 0)), (1, .int x1), (3, .int z0.1), (4, .int z0.2.1), (5, .int z0.2.2.1), (6, .int z0.2.2.2)] [] M) (h : fX4_sure_29 N x1 k29 x3 x4 x5 x6 M = some (rr, zz)) : bw_At p l e rmX4_sure s m args below meth c (MQ below (bw_QI bw_shC 45 D kT ρ rr zz) args s 0 0 (bw_A ρ 45)) bw_shC 45 D kT ρ 7 29 [(0, .ref (ρ 0)), (1, .int x1), (3, .int x3), (4, .int x4), (5, .int x5), (6, .int x6)] [] M := by
  unfold fX4_sure_29 at h
  refine bw_iload (pc := 29) C 5 dX4_sure_29 rfl ?_
  refine bw_aload_n (pc := 31) C 0 dX4_sure_31 rfl rfl ?_
  refine bw_getR (pc := 32) (q := 0) (k0 := 5) C ltC_0 shC_0 rfl inX4 mw_128 (by decide) rfl dX4_sure_32 ?_
  obtain ⟨v6, ev6, h⟩ := bw_cl_o h
  refine bw_cVi (pc := 35) (q := 16) (As := []) (rest := [.int x6]) C (tX3_allPipes l 16 isT_16 M v6 ev6) msX3_allPipes mw_430 rfl rfl ⟨Nat.le_of_ble_eq_true rfl, Nat.le_of_ble_eq_true rfl⟩ ltC_16 shC_16 rfl rfl rfl rfl (Nat.le_of_ble_eq_true rfl) dX4_sure_35 ?_
  refine bw_icmp_gt (pc := 38) C 75 dX4_sure_38 (by decide) h (fun h => ?_) (fun h => ?_)
  · refine bw_iload (pc := 75) C 4 dX4_sure_75 rfl ?_
    refine bw_if_ne (pc := 77) C 86 dX4_sure_77 (by decide) h (fun h => ?_) (fun h => ?_)
    · refine bw_aload_n (pc := 86) C 0 dX4_sure_86 rfl rfl ?_
      refine bw_aload_n (pc := 87) C 0 dX4_sure_87 rfl rfl ?_
      refine bw_getR (pc := 88) (q := 0) (k0 := 5) C ltC_0 shC_0 rfl inX4 mw_128 (by decide) rfl dX4_sure_88 ?_
      obtain ⟨v7, ev7, h⟩ := bw_cl_o h
      refine bw_cVi (pc := 91) (q := 16) (As := []) (rest := [.ref (ρ 0)]) C (tX3_allPipes l 16 isT_16 M v7 ev7) msX3_allPipes mw_430 rfl rfl ⟨Nat.le_of_ble_eq_true rfl, Nat.le_of_ble_eq_true rfl⟩ ltC_16 shC_16 rfl rfl rfl rfl (Nat.le_of_ble_eq_true rfl) dX4_sure_91 ?_
      refine bw_iload (pc := 94) C 3 dX4_sure_94 rfl ?_
      refine bw_iconst (pc := 96) (v := (-1 : Int32)) C dX4_sure_96 ic_m1 ?_
      refine bw_ixor (pc := 97) C dX4_sure_97 ?_
      refine bw_iand (pc := 98) C dX4_sure_98 ?_
      obtain ⟨v8, M9, ev8, h⟩ := bw_c2_o h
      refine bw_cVi (pc := 99) (q := 0) (As := [.int (v7 &&& (x4 ^^^ (-1 : Int32)))]) (rest := []) C (tX4_tell l (v7 &&& (x4 ^^^ (-1 : Int32))) M v8 M9 ev8) msX4_tell mw_197 rfl rfl ⟨Nat.le_of_ble_eq_true rfl, Nat.le_of_ble_eq_true rfl⟩ ltC_0 shC_0 rfl rfl rfl rfl (Nat.le_of_ble_eq_true rfl) dX4_sure_99 ?_
      refine bw_pop (pc := 102) C dX4_sure_102 rfl ?_
      refine bw_iload_n (pc := 103) C 2 dX4_sure_103 rfl rfl ?_
      exact bw_ireti (pc := 104) C dX4_sure_104 h
    · refine bw_aload_n (pc := 80) C 0 dX4_sure_80 rfl rfl ?_
      refine bw_iconst (pc := 81) (v := (4 : Int32)) C dX4_sure_81 ic_4 ?_
      obtain ⟨v10, M11, ev10, h⟩ := bw_c2_o h
      refine bw_cVi (pc := 82) (q := 0) (As := [.int (4 : Int32)]) (rest := []) C (tX4_found l (4 : Int32) M v10 M11 ev10) msX4_found mw_182 rfl rfl ⟨Nat.le_of_ble_eq_true rfl, Nat.le_of_ble_eq_true rfl⟩ ltC_0 shC_0 rfl rfl rfl rfl (Nat.le_of_ble_eq_true rfl) dX4_sure_82 ?_
      exact bw_ireti (pc := 85) C dX4_sure_85 h
  · refine bw_aload_n (pc := 41) C 0 dX4_sure_41 rfl rfl ?_
    refine bw_getR (pc := 42) (q := 0) (k0 := 5) C ltC_0 shC_0 rfl inX4 mw_128 (by decide) rfl dX4_sure_42 ?_
    refine bw_iload (pc := 45) C 5 dX4_sure_45 rfl ?_
    obtain ⟨v12, ev12, h⟩ := bw_cl_o h
    refine bw_cVi (pc := 47) (q := 16) (As := [.int x6]) (rest := []) C (tX3_wantTogether l N 16 x6 isT_16 M v12 ev12) msX3_wantTogether mw_512 rfl rfl ⟨Nat.le_of_ble_eq_true rfl, Nat.le_of_ble_eq_true rfl⟩ ltC_16 shC_16 rfl rfl rfl rfl (Nat.le_of_ble_eq_true rfl) dX4_sure_47 ?_
    refine bw_iload_n (pc := 50) C 1 dX4_sure_50 rfl rfl ?_
    refine bw_icmp_ne (pc := 51) C 69 dX4_sure_51 (by decide) h (fun h => ?_) (fun h => ?_)
    · refine bw_pick [0, 1, 2, 3, 4, 5] rfl ?_
      exact tX4_sure_69 C N x1 k29 x3 x4 x5 x6 M rr zz hk29 h
    · refine bw_iconst (pc := 54) (v := (1 : Int32)) C dX4_sure_54 ic_1 ?_
      obtain ⟨v14, ev14, h⟩ := bw_mv_o h
      refine bw_nmI ev14 ?_
      refine bw_istore (pc := 55) (L' := [(5, .int v14), (0, .ref (ρ 0)), (1, .int x1), (3, .int x3), (4, .int x4), (6, .int x6)]) C dX4_sure_55 (by decide) rfl ?_
      refine bw_iload_n (pc := 57) C 3 dX4_sure_57 rfl rfl ?_
      refine bw_iload (pc := 58) C 5 dX4_sure_58 rfl ?_
      refine bw_iand (pc := 60) C dX4_sure_60 ?_
      obtain ⟨v15, ev15, h⟩ := bw_mv_o h
      refine bw_nmI ev15 ?_
      refine bw_istore_n (pc := 61) (L' := [(3, .int v15), (5, .int v14), (0, .ref (ρ 0)), (1, .int x1), (4, .int x4), (6, .int x6)]) C dX4_sure_61 rfl (by decide) rfl ?_
      refine bw_iload (pc := 62) C 4 dX4_sure_62 rfl ?_
      refine bw_iload (pc := 64) C 5 dX4_sure_64 rfl ?_
      refine bw_ior (pc := 66) C dX4_sure_66 ?_
      obtain ⟨v16, ev16, h⟩ := bw_mv_o h
      refine bw_nmI ev16 ?_
      refine bw_istore (pc := 67) (L' := [(4, .int v16), (3, .int v15), (5, .int v14), (0, .ref (ρ 0)), (1, .int x1), (6, .int x6)]) C dX4_sure_67 (by decide) rfl ?_
      refine bw_pick [3, 4, 1, 0, 2, 5] rfl ?_
      exact tX4_sure_69 C N x1 k29 v15 v16 v14 x6 M rr zz hk29 h
def flX4_sure_29 (N : Nat) (x1 : Int32)   (M : bw_M) (fu : Nat) (w : Int32 × Int32 × Int32 × Int32) : Option (Int32 × bw_M) := bw_lp (fun kk w => fX4_sure_29 N x1 kk w.1 w.2.1 w.2.2.1 w.2.2.2 M) fu w
theorem tlX4_sure_29 {p : Program} {l : Launch} {e : Env} {s : State} {m : MethodId} {args : Array Value} {below : List Frame} {meth : Method} {c : Code} {D : va_G} {kT : Nat → ClassId} {ρ : Nat → Nat} (C : bw_Cx p s m args meth c cX4_sure 7 RX4 45 D kT ρ (some .int)) (N : Nat) (x1 : Int32)    (M : bw_M) (rr : Int32) (zz : bw_M)  (fu : Nat) (w : Int32 × Int32 × Int32 × Int32) (h : flX4_sure_29 N x1 M fu w = some (rr, zz)) : bw_At p l e rmX4_sure s m args below meth c (MQ below (bw_QI bw_shC 45 D kT ρ rr zz) args s 0 0 (bw_A ρ 45)) bw_shC 45 D kT ρ 7 29 [(0, .ref (ρ 0)), (1, .int x1), (3, .int w.1), (4, .int w.2.1), (5, .int w.2.2.1), (6, .int w.2.2.2)] [] M :=
  bw_loop (r := (rr, zz)) (fun w => bw_At p l e rmX4_sure s m args below meth c (MQ below (bw_QI bw_shC 45 D kT ρ rr zz) args s 0 0 (bw_A ρ 45)) bw_shC 45 D kT ρ 7 29 [(0, .ref (ρ 0)), (1, .int x1), (3, .int w.1), (4, .int w.2.1), (5, .int w.2.2.1), (6, .int w.2.2.2)] [] M) (fun kk hk w h => tX4_sure_29 C N x1 kk w.1 w.2.1 w.2.2.1 w.2.2.2 M rr zz hk h) fu w h
def fX4_sure (N : Nat) (x1 : Int32) (M : bw_M) : Option (Int32 × bw_M) :=
  bw_cl (fX4_refusedSum x1 M) fun v1 =>
  if v1 = 0 then
  bw_cl (fX3_allPipes 16 M) fun v2 =>
  bw_mv (0 : Int32) fun v3 =>
  bw_mv (0 : Int32) fun v4 =>
  bw_mv (0 : Int32) fun v5 =>
  flX4_sure_29 N x1 M N (v2, v3, v4, v5)
  else
  some (v1, M)
theorem tX4_sure (l : Launch) (N : Nat) (x1 : Int32)  (M : bw_M) (rr : Int32) (zz : bw_M) (h : fX4_sure N x1 M = some (rr, zz)) : bw_CI l bw_shC 45 yX4_sure cX4_sure 7 (some .int) rmX4_sure (fun ρ => [.ref (ρ 0), .int x1]) M rr zz := by
  refine bw_inI (Lf := fun ρ => [(0, .ref (ρ 0)), (1, .int x1)]) cX4_sure 7 (some .int) RX4 pn_X4 rfl (fun ρ => Nat.le_of_ble_eq_true rfl) (fun ρ => rfl) ?_
  intro p e s m args below meth c D kT ρ C
  unfold fX4_sure at h
  refine bw_aload_n (pc := 0) C 0 dX4_sure_0 rfl rfl ?_
  refine bw_iload_n (pc := 1) C 1 dX4_sure_1 rfl rfl ?_
  obtain ⟨v1, ev1, h⟩ := bw_cl_o h
  refine bw_cVi (pc := 2) (q := 0) (As := [.int x1]) (rest := []) C (tX4_refusedSum l x1 M v1 ev1) msX4_refusedSum mw_508 rfl rfl ⟨Nat.le_of_ble_eq_true rfl, Nat.le_of_ble_eq_true rfl⟩ ltC_0 shC_0 rfl rfl rfl rfl (Nat.le_of_ble_eq_true rfl) dX4_sure_2 ?_
  refine bw_istore_n (pc := 5) (L' := [(2, .int v1), (0, .ref (ρ 0)), (1, .int x1)]) C dX4_sure_5 rfl (by decide) rfl ?_
  refine bw_iload_n (pc := 6) C 0 dX4_sure_6 rfl rfl ?_
  refine bw_if_eq (pc := 7) C 12 dX4_sure_7 (by decide) h (fun h => ?_) (fun h => ?_)
  · refine bw_aload_n (pc := 12) C 1 dX4_sure_12 rfl rfl ?_
    refine bw_getR (pc := 13) (q := 0) (k0 := 5) C ltC_0 shC_0 rfl inX4 mw_128 (by decide) rfl dX4_sure_13 ?_
    obtain ⟨v2, ev2, h⟩ := bw_cl_o h
    refine bw_cVi (pc := 16) (q := 16) (As := []) (rest := []) C (tX3_allPipes l 16 isT_16 M v2 ev2) msX3_allPipes mw_430 rfl rfl ⟨Nat.le_of_ble_eq_true rfl, Nat.le_of_ble_eq_true rfl⟩ ltC_16 shC_16 rfl rfl rfl rfl (Nat.le_of_ble_eq_true rfl) dX4_sure_16 ?_
    refine bw_istore_n (pc := 19) (L' := [(3, .int v2), (2, .int v1), (0, .ref (ρ 0)), (1, .int x1)]) C dX4_sure_19 rfl (by decide) rfl ?_
    refine bw_iconst (pc := 20) (v := (0 : Int32)) C dX4_sure_20 ic_0 ?_
    obtain ⟨v3, ev3, h⟩ := bw_mv_o h
    refine bw_nmI ev3 ?_
    refine bw_istore (pc := 21) (L' := [(4, .int v3), (3, .int v2), (2, .int v1), (0, .ref (ρ 0)), (1, .int x1)]) C dX4_sure_21 (by decide) rfl ?_
    refine bw_iconst (pc := 23) (v := (0 : Int32)) C dX4_sure_23 ic_0 ?_
    obtain ⟨v4, ev4, h⟩ := bw_mv_o h
    refine bw_nmI ev4 ?_
    refine bw_istore (pc := 24) (L' := [(5, .int v4), (4, .int v3), (3, .int v2), (2, .int v1), (0, .ref (ρ 0)), (1, .int x1)]) C dX4_sure_24 (by decide) rfl ?_
    refine bw_iconst (pc := 26) (v := (0 : Int32)) C dX4_sure_26 ic_0 ?_
    obtain ⟨v5, ev5, h⟩ := bw_mv_o h
    refine bw_nmI ev5 ?_
    refine bw_istore (pc := 27) (L' := [(6, .int v5), (5, .int v4), (4, .int v3), (3, .int v2), (2, .int v1), (0, .ref (ρ 0)), (1, .int x1)]) C dX4_sure_27 (by decide) rfl ?_
    refine bw_pick [5, 6, 3, 2, 1, 0] rfl ?_
    exact tlX4_sure_29 C N x1 M rr zz N (v2, v3, v4, v5) h
  · refine bw_iload_n (pc := 10) C 0 dX4_sure_10 rfl rfl ?_
    exact bw_ireti (pc := 11) C dX4_sure_11 h
/-! X4_tear -/
abbrev rmX4_tear : Room := { frames := 1, cells := 0, slots := 0, locals := 21 }
theorem msX4_tear : bw_MV yX4_tear cX4_tear 2 (some .int) RX4 1 := ⟨mw_206, mw_207, mw_1, mw_208, by decide +kernel⟩
def fX4_tear (x1 : Int32) (M : bw_M) : Option (Int32 × bw_M) :=
  bw_cl (fX4_isRow x1) fun v1 =>
  if v1 = 0 then
  some ((-1 : Int32), M)
  else
  bw_rd M 8 6 x1 fun v2 =>
  if v2 = (-1 : Int32) then
  bw_c2 (fX4_found (1 : Int32) M) fun v4 M5 =>
  some (v4, M5)
  else
  bw_wr M 8 6 x1 (-1 : Int32) fun M3 =>
  some ((1 : Int32), M3)
theorem tX4_tear (l : Launch) (x1 : Int32)  (M : bw_M) (rr : Int32) (zz : bw_M) (h : fX4_tear x1 M = some (rr, zz)) : bw_CI l bw_shC 45 yX4_tear cX4_tear 2 (some .int) rmX4_tear (fun ρ => [.ref (ρ 0), .int x1]) M rr zz := by
  refine bw_inI (Lf := fun ρ => [(0, .ref (ρ 0)), (1, .int x1)]) cX4_tear 2 (some .int) RX4 pn_X4 rfl (fun ρ => Nat.le_of_ble_eq_true rfl) (fun ρ => rfl) ?_
  intro p e s m args below meth c D kT ρ C
  unfold fX4_tear at h
  refine bw_iload_n (pc := 0) C 1 dX4_tear_0 rfl rfl ?_
  obtain ⟨v1, ev1, h⟩ := bw_cl_o h
  refine bw_cSi (pc := 1) (As := [.int x1]) (rest := []) C (tX4_isRow l x1 M v1 ev1) msX4_isRow mw_179 rfl rfl ⟨Nat.le_of_ble_eq_true rfl, Nat.le_of_ble_eq_true rfl⟩ rfl rfl rfl (Nat.le_of_ble_eq_true rfl) dX4_tear_1 ?_
  refine bw_if_ne (pc := 4) C 9 dX4_tear_4 (by decide) h (fun h => ?_) (fun h => ?_)
  · refine bw_aload_n (pc := 9) C 0 dX4_tear_9 rfl rfl ?_
    refine bw_getR (pc := 10) (q := 0) (k0 := 1) C ltC_0 shC_0 rfl inX4 mw_124 (by decide) rfl dX4_tear_10 ?_
    refine bw_iload_n (pc := 13) C 1 dX4_tear_13 rfl rfl ?_
    obtain ⟨qv2, v2, ev2, h⟩ := bw_rd_o h
    refine bw_iald (pc := 14) (q := 8) C ltC_8 shC_8 qv2 ev2 dX4_tear_14 ?_
    refine bw_iconst (pc := 15) (v := (-1 : Int32)) C dX4_tear_15 ic_m1 ?_
    refine bw_icmp_ne (pc := 16) C 25 dX4_tear_16 (by decide) h (fun h => ?_) (fun h => ?_)
    · refine bw_aload_n (pc := 25) C 0 dX4_tear_25 rfl rfl ?_
      refine bw_getR (pc := 26) (q := 0) (k0 := 1) C ltC_0 shC_0 rfl inX4 mw_124 (by decide) rfl dX4_tear_26 ?_
      refine bw_iload_n (pc := 29) C 1 dX4_tear_29 rfl rfl ?_
      refine bw_iconst (pc := 30) (v := (-1 : Int32)) C dX4_tear_30 ic_m1 ?_
      obtain ⟨qM3, M3, eM3, h⟩ := bw_wr_o h
      refine bw_iast (pc := 31) (q := 8) C ltC_8 shC_8 qM3 eM3 dX4_tear_31 ?_
      refine bw_iconst (pc := 32) (v := (1 : Int32)) C dX4_tear_32 ic_1 ?_
      exact bw_ireti (pc := 33) C dX4_tear_33 h
    · refine bw_aload_n (pc := 19) C 0 dX4_tear_19 rfl rfl ?_
      refine bw_iconst (pc := 20) (v := (1 : Int32)) C dX4_tear_20 ic_1 ?_
      obtain ⟨v4, M5, ev4, h⟩ := bw_c2_o h
      refine bw_cVi (pc := 21) (q := 0) (As := [.int (1 : Int32)]) (rest := []) C (tX4_found l (1 : Int32) M v4 M5 ev4) msX4_found mw_182 rfl rfl ⟨Nat.le_of_ble_eq_true rfl, Nat.le_of_ble_eq_true rfl⟩ ltC_0 shC_0 rfl rfl rfl rfl (Nat.le_of_ble_eq_true rfl) dX4_tear_21 ?_
      exact bw_ireti (pc := 24) C dX4_tear_24 h
  · refine bw_iconst (pc := 7) (v := (-1 : Int32)) C dX4_tear_7 ic_m1 ?_
    exact bw_ireti (pc := 8) C dX4_tear_8 h
/-! X4_text -/
abbrev rmX4_text : Room := { frames := 1, cells := 0, slots := 0, locals := 23 }
theorem msX4_text : bw_MV yX4_text cX4_text 3 (some .int) RX4 2 := ⟨mw_221, mw_222, mw_1, mw_223, by decide +kernel⟩
def fX4_text_13 (N : Nat) (x1 : Int32) (x2 : Int32)   (M : bw_M) : Option (Int32 × bw_M) :=
  some ((-1 : Int32), M)
theorem tX4_text_13 {p : Program} {l : Launch} {e : Env} {s : State} {m : MethodId} {args : Array Value} {below : List Frame} {meth : Method} {c : Code} {D : va_G} {kT : Nat → ClassId} {ρ : Nat → Nat} (C : bw_Cx p s m args meth c cX4_text 3 RX4 45 D kT ρ (some .int)) (N : Nat) (x1 : Int32) (x2 : Int32)    (M : bw_M) (rr : Int32) (zz : bw_M)  (h : fX4_text_13 N x1 x2 M = some (rr, zz)) : bw_At p l e rmX4_text s m args below meth c (MQ below (bw_QI bw_shC 45 D kT ρ rr zz) args s 0 0 (bw_A ρ 45)) bw_shC 45 D kT ρ 3 13 [(0, .ref (ρ 0)), (1, .int x1), (2, .int x2)] [] M := by
  unfold fX4_text_13 at h
  refine bw_iconst (pc := 13) (v := (-1 : Int32)) C dX4_text_13 ic_m1 ?_
  exact bw_ireti (pc := 14) C dX4_text_14 h
def fX4_text (N : Nat) (x1 : Int32) (x2 : Int32) (M : bw_M) : Option (Int32 × bw_M) :=
  bw_cl (fX4_isText x1) fun v1 =>
  if v1 = 0 then
  fX4_text_13 N x1 x2 M
  else
  if x2 ≤ (60 : Int32) then
  if 0 ≤ x2 then
  bw_ra 4 x1 fun j2 =>
  bw_cl (fJ7_fill_031fb N (10 + j2) 60 (32 : Int32) M) fun M3 =>
  bw_wr M3 14 4 x1 x2 fun M4 =>
  some (x2, M4)
  else
  bw_c2 (fX4_found (5 : Int32) M) fun v5 M6 =>
  some (v5, M6)
  else
  fX4_text_13 N x1 x2 M
theorem tX4_text (l : Launch) (N : Nat) (x1 : Int32) (x2 : Int32)  (M : bw_M) (rr : Int32) (zz : bw_M) (h : fX4_text N x1 x2 M = some (rr, zz)) : bw_CI l bw_shC 45 yX4_text cX4_text 3 (some .int) rmX4_text (fun ρ => [.ref (ρ 0), .int x1, .int x2]) M rr zz := by
  refine bw_inI (Lf := fun ρ => [(0, .ref (ρ 0)), (1, .int x1), (2, .int x2)]) cX4_text 3 (some .int) RX4 pn_X4 rfl (fun ρ => Nat.le_of_ble_eq_true rfl) (fun ρ => rfl) ?_
  intro p e s m args below meth c D kT ρ C
  unfold fX4_text at h
  refine bw_iload_n (pc := 0) C 1 dX4_text_0 rfl rfl ?_
  obtain ⟨v1, ev1, h⟩ := bw_cl_o h
  refine bw_cSi (pc := 1) (As := [.int x1]) (rest := []) C (tX4_isText l x1 M v1 ev1) msX4_isText mw_224 rfl rfl ⟨Nat.le_of_ble_eq_true rfl, Nat.le_of_ble_eq_true rfl⟩ rfl rfl rfl (Nat.le_of_ble_eq_true rfl) dX4_text_1 ?_
  refine bw_if_eq (pc := 4) C 13 dX4_text_4 (by decide) h (fun h => ?_) (fun h => ?_)
  · refine bw_pick [0, 1, 2] rfl ?_
    exact tX4_text_13 C N x1 x2 M rr zz h
  · refine bw_iload_n (pc := 7) C 2 dX4_text_7 rfl rfl ?_
    refine bw_bipush (pc := 8) (v := (60 : Int32)) C dX4_text_8 bi_60 ?_
    refine bw_icmp_le (pc := 10) C 15 dX4_text_10 (by decide) h (fun h => ?_) (fun h => ?_)
    · refine bw_iload_n (pc := 15) C 2 dX4_text_15 rfl rfl ?_
      refine bw_if_ge (pc := 16) C 25 dX4_text_16 (by decide) h (fun h => ?_) (fun h => ?_)
      · refine bw_aload_n (pc := 25) C 0 dX4_text_25 rfl rfl ?_
        refine bw_getR (pc := 26) (q := 0) (k0 := 2) C ltC_0 shC_0 rfl inX4 mw_125 (by decide) rfl dX4_text_26 ?_
        refine bw_iload_n (pc := 29) C 1 dX4_text_29 rfl rfl ?_
        obtain ⟨qj2, j2, ej2, lj2, h⟩ := bw_ra_o h
        refine bw_aald (pc := 30) (q := 9) (ty := .array .byte) C ltC_9 shC_9 rfl rfl qj2 (id_txts ej2 lj2) dX4_text_30 ?_
        refine bw_bipush (pc := 31) (v := (32 : Int32)) C dX4_text_31 bi_32 ?_
        obtain ⟨M3, eM3, h⟩ := bw_cl_o h
        refine bw_cSv (pc := 33) (As := [.ref (ρ (10 + j2)), .int (32 : Int32)]) (rest := []) C (tJ7_fill_031fb l N (10 + j2) 60 (32 : Int32) (ltC_txt lj2) (shC_txt lj2) M M3 eM3) msJ7_fill_031fb mw_227 rfl rfl ⟨Nat.le_of_ble_eq_true rfl, Nat.le_of_ble_eq_true rfl⟩ rfl rfl rfl (Nat.le_of_ble_eq_true rfl) dX4_text_33 ?_
        refine bw_aload_n (pc := 36) C 0 dX4_text_36 rfl rfl ?_
        refine bw_getR (pc := 37) (q := 0) (k0 := 3) C ltC_0 shC_0 rfl inX4 mw_126 (by decide) rfl dX4_text_37 ?_
        refine bw_iload_n (pc := 40) C 1 dX4_text_40 rfl rfl ?_
        refine bw_iload_n (pc := 41) C 2 dX4_text_41 rfl rfl ?_
        obtain ⟨qM4, M4, eM4, h⟩ := bw_wr_o h
        refine bw_iast (pc := 42) (q := 14) C ltC_14 shC_14 qM4 eM4 dX4_text_42 ?_
        refine bw_iload_n (pc := 43) C 2 dX4_text_43 rfl rfl ?_
        exact bw_ireti (pc := 44) C dX4_text_44 h
      · refine bw_aload_n (pc := 19) C 0 dX4_text_19 rfl rfl ?_
        refine bw_iconst (pc := 20) (v := (5 : Int32)) C dX4_text_20 ic_5 ?_
        obtain ⟨v5, M6, ev5, h⟩ := bw_c2_o h
        refine bw_cVi (pc := 21) (q := 0) (As := [.int (5 : Int32)]) (rest := []) C (tX4_found l (5 : Int32) M v5 M6 ev5) msX4_found mw_182 rfl rfl ⟨Nat.le_of_ble_eq_true rfl, Nat.le_of_ble_eq_true rfl⟩ ltC_0 shC_0 rfl rfl rfl rfl (Nat.le_of_ble_eq_true rfl) dX4_text_21 ?_
        exact bw_ireti (pc := 24) C dX4_text_24 h
    · refine bw_pick [0, 1, 2] rfl ?_
      exact tX4_text_13 C N x1 x2 M rr zz h
/-! X4_town -/
abbrev rmX4_town : Room := { frames := 5, cells := 0, slots := 0, locals := 114 }
theorem msX4_town : bw_MV yX4_town cX4_town 3 (some .int) RX4 1 := ⟨mw_279, mw_280, mw_1, mw_281, by decide +kernel⟩
def fX4_town_77 (N : Nat) (x1 : Int32) (k77 : Int32 × bw_M → Option (Int32 × bw_M)) (x2 : Int32) (M : bw_M) : Option (Int32 × bw_M) :=
  if (3 : Int32) ≤ x2 then
  some ((M.1 16 0), M)
  else
  bw_ra 3 x2 fun j10 =>
  bw_mv (bw_pI M (32 + 3 * j10) 2 (-1 : Int32)) fun M11 =>
  bw_mv (x2 + 1) fun v12 =>
  k77 (v12, M11)
theorem tX4_town_77 {p : Program} {l : Launch} {e : Env} {s : State} {m : MethodId} {args : Array Value} {below : List Frame} {meth : Method} {c : Code} {D : va_G} {kT : Nat → ClassId} {ρ : Nat → Nat} (C : bw_Cx p s m args meth c cX4_town 3 RX4 45 D kT ρ (some .int)) (N : Nat) (x1 : Int32)  (k77 : Int32 × bw_M → Option (Int32 × bw_M)) (x2 : Int32) (M : bw_M) (rr : Int32) (zz : bw_M) (hk77 : ∀ z0, k77 z0 = some (rr, zz) → bw_At p l e rmX4_town s m args below meth c (MQ below (bw_QI bw_shC 45 D kT ρ rr zz) args s 0 0 (bw_A ρ 45)) bw_shC 45 D kT ρ 3 77 [(0, .ref (ρ 0)), (1, .int x1), (2, .int z0.1)] [] z0.2) (h : fX4_town_77 N x1 k77 x2 M = some (rr, zz)) : bw_At p l e rmX4_town s m args below meth c (MQ below (bw_QI bw_shC 45 D kT ρ rr zz) args s 0 0 (bw_A ρ 45)) bw_shC 45 D kT ρ 3 77 [(0, .ref (ρ 0)), (1, .int x1), (2, .int x2)] [] M := by
  unfold fX4_town_77 at h
  refine bw_iload_n (pc := 77) C 2 dX4_town_77 rfl rfl ?_
  refine bw_iconst (pc := 78) (v := (3 : Int32)) C dX4_town_78 ic_3 ?_
  refine bw_icmp_ge (pc := 79) C 98 dX4_town_79 (by decide) h (fun h => ?_) (fun h => ?_)
  · refine bw_aload_n (pc := 98) C 0 dX4_town_98 rfl rfl ?_
    refine bw_getR (pc := 99) (q := 0) (k0 := 5) C ltC_0 shC_0 rfl inX4 mw_128 (by decide) rfl dX4_town_99 ?_
    refine bw_getI (pc := 102) (q := 16) (k0 := 0) C ltC_16 shC_16 rfl inX3 mw_49 (by decide) rfl dX4_town_102 ?_
    exact bw_ireti (pc := 105) C dX4_town_105 h
  · refine bw_aload_n (pc := 82) C 0 dX4_town_82 rfl rfl ?_
    refine bw_getR (pc := 83) (q := 0) (k0 := 8) C ltC_0 shC_0 rfl inX4 mw_131 (by decide) rfl dX4_town_83 ?_
    refine bw_iload_n (pc := 86) C 2 dX4_town_86 rfl rfl ?_
    obtain ⟨qj10, j10, ej10, lj10, h⟩ := bw_ra_o h
    refine bw_aald (pc := 87) (q := 31) (ty := .object "BlowerBreath$Deeds") C ltC_31 shC_31 rfl rfl qj10 (id_kept ej10 lj10) dX4_town_87 ?_
    refine bw_iconst (pc := 88) (v := (-1 : Int32)) C dX4_town_88 ic_m1 ?_
    obtain ⟨M11, eM11, h⟩ := bw_mv_o h
    refine bw_putI (pc := 89) (q := (32 + 3 * j10)) (k0 := 2) C (ltC_D (isD_k lj10)) (shC_D (isD_k lj10)) rfl inX0 mw_110 (by decide) tyX0 tyX0_ok nmX0 rfl rfl rfl eM11 rfl rfl dX4_town_89 ?_
    obtain ⟨v12, ev12, h⟩ := bw_mv_o h
    refine bw_iinc (pc := 92) (x := v12) (L' := [(2, .int v12), (0, .ref (ρ 0)), (1, .int x1)]) C 2 dX4_town_92 rfl ev12.symm (by decide) rfl ?_
    refine bw_goto (pc := 95) C 77 dX4_town_95 (by decide) ?_
    refine bw_pick [1, 2, 0] rfl ?_
    exact hk77 (v12, M11) h
def flX4_town_77 (N : Nat) (x1 : Int32)    (fu : Nat) (w : Int32 × bw_M) : Option (Int32 × bw_M) := bw_lp (fun kk w => fX4_town_77 N x1 kk w.1 w.2) fu w
theorem tlX4_town_77 {p : Program} {l : Launch} {e : Env} {s : State} {m : MethodId} {args : Array Value} {below : List Frame} {meth : Method} {c : Code} {D : va_G} {kT : Nat → ClassId} {ρ : Nat → Nat} (C : bw_Cx p s m args meth c cX4_town 3 RX4 45 D kT ρ (some .int)) (N : Nat) (x1 : Int32)     (rr : Int32) (zz : bw_M)  (fu : Nat) (w : Int32 × bw_M) (h : flX4_town_77 N x1 fu w = some (rr, zz)) : bw_At p l e rmX4_town s m args below meth c (MQ below (bw_QI bw_shC 45 D kT ρ rr zz) args s 0 0 (bw_A ρ 45)) bw_shC 45 D kT ρ 3 77 [(0, .ref (ρ 0)), (1, .int x1), (2, .int w.1)] [] w.2 :=
  bw_loop (r := (rr, zz)) (fun w => bw_At p l e rmX4_town s m args below meth c (MQ below (bw_QI bw_shC 45 D kT ρ rr zz) args s 0 0 (bw_A ρ 45)) bw_shC 45 D kT ρ 3 77 [(0, .ref (ρ 0)), (1, .int x1), (2, .int w.1)] [] w.2) (fun kk hk w h => tX4_town_77 C N x1 kk w.1 w.2 rr zz hk h) fu w h
def fX4_town (N : Nat) (x1 : Int32) (M : bw_M) : Option (Int32 × bw_M) :=
  bw_cl (fX4_isText x1) fun v1 =>
  if v1 = 0 then
  some ((-1 : Int32), M)
  else
  bw_rd M 14 4 x1 fun v2 =>
  if v2 = (-1 : Int32) then
  bw_c2 (fX4_found (1 : Int32) M) fun v13 M14 =>
  some (v13, M14)
  else
  bw_ra 4 x1 fun j3 =>
  bw_rd M 14 4 x1 fun v4 =>
  bw_c2 (fX2_readTown N (10 + j3) 60 v4 22 M) fun v5 M6 =>
  if v5 = (-9 : Int32) then
  bw_cl (fX3_become N 16 22 M6) fun M7 =>
  bw_mv (bw_pI M7 28 2 (0 : Int32)) fun M8 =>
  bw_mv (0 : Int32) fun v9 =>
  flX4_town_77 N x1 N (v9, M8)
  else
  some ((-4 : Int32), M6)
theorem tX4_town (l : Launch) (N : Nat) (x1 : Int32)  (M : bw_M) (rr : Int32) (zz : bw_M) (h : fX4_town N x1 M = some (rr, zz)) : bw_CI l bw_shC 45 yX4_town cX4_town 3 (some .int) rmX4_town (fun ρ => [.ref (ρ 0), .int x1]) M rr zz := by
  refine bw_inI (Lf := fun ρ => [(0, .ref (ρ 0)), (1, .int x1)]) cX4_town 3 (some .int) RX4 pn_X4 rfl (fun ρ => Nat.le_of_ble_eq_true rfl) (fun ρ => rfl) ?_
  intro p e s m args below meth c D kT ρ C
  unfold fX4_town at h
  refine bw_iload_n (pc := 0) C 1 dX4_town_0 rfl rfl ?_
  obtain ⟨v1, ev1, h⟩ := bw_cl_o h
  refine bw_cSi (pc := 1) (As := [.int x1]) (rest := []) C (tX4_isText l x1 M v1 ev1) msX4_isText mw_224 rfl rfl ⟨Nat.le_of_ble_eq_true rfl, Nat.le_of_ble_eq_true rfl⟩ rfl rfl rfl (Nat.le_of_ble_eq_true rfl) dX4_town_1 ?_
  refine bw_if_ne (pc := 4) C 9 dX4_town_4 (by decide) h (fun h => ?_) (fun h => ?_)
  · refine bw_aload_n (pc := 9) C 0 dX4_town_9 rfl rfl ?_
    refine bw_getR (pc := 10) (q := 0) (k0 := 3) C ltC_0 shC_0 rfl inX4 mw_126 (by decide) rfl dX4_town_10 ?_
    refine bw_iload_n (pc := 13) C 1 dX4_town_13 rfl rfl ?_
    obtain ⟨qv2, v2, ev2, h⟩ := bw_rd_o h
    refine bw_iald (pc := 14) (q := 14) C ltC_14 shC_14 qv2 ev2 dX4_town_14 ?_
    refine bw_iconst (pc := 15) (v := (-1 : Int32)) C dX4_town_15 ic_m1 ?_
    refine bw_icmp_ne (pc := 16) C 25 dX4_town_16 (by decide) h (fun h => ?_) (fun h => ?_)
    · refine bw_aload_n (pc := 25) C 0 dX4_town_25 rfl rfl ?_
      refine bw_getR (pc := 26) (q := 0) (k0 := 4) C ltC_0 shC_0 rfl inX4 mw_127 (by decide) rfl dX4_town_26 ?_
      refine bw_aload_n (pc := 29) C 0 dX4_town_29 rfl rfl ?_
      refine bw_getR (pc := 30) (q := 0) (k0 := 2) C ltC_0 shC_0 rfl inX4 mw_125 (by decide) rfl dX4_town_30 ?_
      refine bw_iload_n (pc := 33) C 1 dX4_town_33 rfl rfl ?_
      obtain ⟨qj3, j3, ej3, lj3, h⟩ := bw_ra_o h
      refine bw_aald (pc := 34) (q := 9) (ty := .array .byte) C ltC_9 shC_9 rfl rfl qj3 (id_txts ej3 lj3) dX4_town_34 ?_
      refine bw_aload_n (pc := 35) C 0 dX4_town_35 rfl rfl ?_
      refine bw_getR (pc := 36) (q := 0) (k0 := 3) C ltC_0 shC_0 rfl inX4 mw_126 (by decide) rfl dX4_town_36 ?_
      refine bw_iload_n (pc := 39) C 1 dX4_town_39 rfl rfl ?_
      obtain ⟨qv4, v4, ev4, h⟩ := bw_rd_o h
      refine bw_iald (pc := 40) (q := 14) C ltC_14 shC_14 qv4 ev4 dX4_town_40 ?_
      refine bw_aload_n (pc := 41) C 0 dX4_town_41 rfl rfl ?_
      refine bw_getR (pc := 42) (q := 0) (k0 := 6) C ltC_0 shC_0 rfl inX4 mw_129 (by decide) rfl dX4_town_42 ?_
      obtain ⟨v5, M6, ev5, h⟩ := bw_c2_o h
      refine bw_cVi (pc := 45) (q := 15) (As := [.ref (ρ (10 + j3)), .int v4, .ref (ρ 22)]) (rest := []) C (tX2_readTown l N (10 + j3) 60 v4 22 (ltC_txt lj3) (shC_txt lj3) isT_22 M v5 M6 ev5) msX2_readTown mw_238 rfl rfl ⟨Nat.le_of_ble_eq_true rfl, Nat.le_of_ble_eq_true rfl⟩ ltC_15 shC_15 rfl rfl rfl rfl (Nat.le_of_ble_eq_true rfl) dX4_town_45 ?_
      refine bw_bipush (pc := 48) (v := (-9 : Int32)) C dX4_town_48 bi_m9 ?_
      refine bw_icmp_eq (pc := 50) C 56 dX4_town_50 (by decide) h (fun h => ?_) (fun h => ?_)
      · refine bw_aload_n (pc := 56) C 0 dX4_town_56 rfl rfl ?_
        refine bw_getR (pc := 57) (q := 0) (k0 := 5) C ltC_0 shC_0 rfl inX4 mw_128 (by decide) rfl dX4_town_57 ?_
        refine bw_aload_n (pc := 60) C 0 dX4_town_60 rfl rfl ?_
        refine bw_getR (pc := 61) (q := 0) (k0 := 6) C ltC_0 shC_0 rfl inX4 mw_129 (by decide) rfl dX4_town_61 ?_
        obtain ⟨M7, eM7, h⟩ := bw_cl_o h
        refine bw_cVv (pc := 64) (q := 16) (As := [.ref (ρ 22)]) (rest := []) C (tX3_become l N 16 22 isT_16 isT_22 M6 M7 eM7) msX3_become mw_282 rfl rfl ⟨Nat.le_of_ble_eq_true rfl, Nat.le_of_ble_eq_true rfl⟩ ltC_16 shC_16 rfl rfl rfl rfl (Nat.le_of_ble_eq_true rfl) dX4_town_64 ?_
        refine bw_aload_n (pc := 67) C 0 dX4_town_67 rfl rfl ?_
        refine bw_getR (pc := 68) (q := 0) (k0 := 7) C ltC_0 shC_0 rfl inX4 mw_130 (by decide) rfl dX4_town_68 ?_
        refine bw_iconst (pc := 71) (v := (0 : Int32)) C dX4_town_71 ic_0 ?_
        obtain ⟨M8, eM8, h⟩ := bw_mv_o h
        refine bw_putI (pc := 72) (q := 28) (k0 := 2) C ltC_28 shC_28 rfl inX0 mw_110 (by decide) tyX0 tyX0_ok nmX0 rfl rfl rfl eM8 rfl rfl dX4_town_72 ?_
        refine bw_iconst (pc := 75) (v := (0 : Int32)) C dX4_town_75 ic_0 ?_
        obtain ⟨v9, ev9, h⟩ := bw_mv_o h
        refine bw_nmI ev9 ?_
        refine bw_istore_n (pc := 76) (L' := [(2, .int v9), (0, .ref (ρ 0)), (1, .int x1)]) C dX4_town_76 rfl (by decide) rfl ?_
        refine bw_pick [1, 2, 0] rfl ?_
        exact tlX4_town_77 C N x1 rr zz N (v9, M8) h
      · refine bw_bipush (pc := 53) (v := (-4 : Int32)) C dX4_town_53 bi_m4 ?_
        exact bw_ireti (pc := 55) C dX4_town_55 h
    · refine bw_aload_n (pc := 19) C 0 dX4_town_19 rfl rfl ?_
      refine bw_iconst (pc := 20) (v := (1 : Int32)) C dX4_town_20 ic_1 ?_
      obtain ⟨v13, M14, ev13, h⟩ := bw_c2_o h
      refine bw_cVi (pc := 21) (q := 0) (As := [.int (1 : Int32)]) (rest := []) C (tX4_found l (1 : Int32) M v13 M14 ev13) msX4_found mw_182 rfl rfl ⟨Nat.le_of_ble_eq_true rfl, Nat.le_of_ble_eq_true rfl⟩ ltC_0 shC_0 rfl rfl rfl rfl (Nat.le_of_ble_eq_true rfl) dX4_town_21 ?_
      exact bw_ireti (pc := 24) C dX4_town_24 h
  · refine bw_iconst (pc := 7) (v := (-1 : Int32)) C dX4_town_7 ic_m1 ?_
    exact bw_ireti (pc := 8) C dX4_town_8 h
/-! X4_undo -/
abbrev rmX4_undo : Room := { frames := 6, cells := 0, slots := 0, locals := 133 }
theorem msX4_undo : bw_MV yX4_undo cX4_undo 3 (some .int) RX4 1 := ⟨mw_384, mw_385, mw_1, mw_386, by decide +kernel⟩
def fX4_undo_15 (N : Nat) (x1 : Int32)   (M : bw_M) : Option (Int32 × bw_M) :=
  some ((-1 : Int32), M)
theorem tX4_undo_15 {p : Program} {l : Launch} {e : Env} {s : State} {m : MethodId} {args : Array Value} {below : List Frame} {meth : Method} {c : Code} {D : va_G} {kT : Nat → ClassId} {ρ : Nat → Nat} (C : bw_Cx p s m args meth c cX4_undo 3 RX4 45 D kT ρ (some .int)) (N : Nat) (x1 : Int32)    (M : bw_M) (rr : Int32) (zz : bw_M)  (h : fX4_undo_15 N x1 M = some (rr, zz)) : bw_At p l e rmX4_undo s m args below meth c (MQ below (bw_QI bw_shC 45 D kT ρ rr zz) args s 0 0 (bw_A ρ 45)) bw_shC 45 D kT ρ 3 15 [(0, .ref (ρ 0)), (1, .int x1)] [] M := by
  unfold fX4_undo_15 at h
  refine bw_iconst (pc := 15) (v := (-1 : Int32)) C dX4_undo_15 ic_m1 ?_
  exact bw_ireti (pc := 16) C dX4_undo_16 h
def fX4_undo (N : Nat) (x1 : Int32) (M : bw_M) : Option (Int32 × bw_M) :=
  if x1 < 0 then
  fX4_undo_15 N x1 M
  else
  if x1 ≤ (M.1 28 2) then
  bw_mv ((M.1 28 2) - x1) fun v1 =>
  bw_mv (bw_pI M 28 2 x1) fun M2 =>
  bw_cl (fX3_relive N 16 28 M2) fun M3 =>
  some (v1, M3)
  else
  fX4_undo_15 N x1 M
theorem tX4_undo (l : Launch) (N : Nat) (x1 : Int32)  (M : bw_M) (rr : Int32) (zz : bw_M) (h : fX4_undo N x1 M = some (rr, zz)) : bw_CI l bw_shC 45 yX4_undo cX4_undo 3 (some .int) rmX4_undo (fun ρ => [.ref (ρ 0), .int x1]) M rr zz := by
  refine bw_inI (Lf := fun ρ => [(0, .ref (ρ 0)), (1, .int x1)]) cX4_undo 3 (some .int) RX4 pn_X4 rfl (fun ρ => Nat.le_of_ble_eq_true rfl) (fun ρ => rfl) ?_
  intro p e s m args below meth c D kT ρ C
  unfold fX4_undo at h
  refine bw_iload_n (pc := 0) C 1 dX4_undo_0 rfl rfl ?_
  refine bw_if_lt (pc := 1) C 15 dX4_undo_1 (by decide) h (fun h => ?_) (fun h => ?_)
  · refine bw_pick [0, 1] rfl ?_
    exact tX4_undo_15 C N x1 M rr zz h
  · refine bw_iload_n (pc := 4) C 1 dX4_undo_4 rfl rfl ?_
    refine bw_aload_n (pc := 5) C 0 dX4_undo_5 rfl rfl ?_
    refine bw_getR (pc := 6) (q := 0) (k0 := 7) C ltC_0 shC_0 rfl inX4 mw_130 (by decide) rfl dX4_undo_6 ?_
    refine bw_getI (pc := 9) (q := 28) (k0 := 2) C ltC_28 shC_28 rfl inX0 mw_110 (by decide) rfl dX4_undo_9 ?_
    refine bw_icmp_le (pc := 12) C 17 dX4_undo_12 (by decide) h (fun h => ?_) (fun h => ?_)
    · refine bw_aload_n (pc := 17) C 0 dX4_undo_17 rfl rfl ?_
      refine bw_getR (pc := 18) (q := 0) (k0 := 7) C ltC_0 shC_0 rfl inX4 mw_130 (by decide) rfl dX4_undo_18 ?_
      refine bw_getI (pc := 21) (q := 28) (k0 := 2) C ltC_28 shC_28 rfl inX0 mw_110 (by decide) rfl dX4_undo_21 ?_
      refine bw_iload_n (pc := 24) C 1 dX4_undo_24 rfl rfl ?_
      refine bw_isub (pc := 25) C dX4_undo_25 ?_
      obtain ⟨v1, ev1, h⟩ := bw_mv_o h
      refine bw_nmI ev1 ?_
      refine bw_istore_n (pc := 26) (L' := [(2, .int v1), (0, .ref (ρ 0)), (1, .int x1)]) C dX4_undo_26 rfl (by decide) rfl ?_
      refine bw_aload_n (pc := 27) C 1 dX4_undo_27 rfl rfl ?_
      refine bw_getR (pc := 28) (q := 0) (k0 := 7) C ltC_0 shC_0 rfl inX4 mw_130 (by decide) rfl dX4_undo_28 ?_
      refine bw_iload_n (pc := 31) C 2 dX4_undo_31 rfl rfl ?_
      obtain ⟨M2, eM2, h⟩ := bw_mv_o h
      refine bw_putI (pc := 32) (q := 28) (k0 := 2) C ltC_28 shC_28 rfl inX0 mw_110 (by decide) tyX0 tyX0_ok nmX0 rfl rfl rfl eM2 rfl rfl dX4_undo_32 ?_
      refine bw_aload_n (pc := 35) C 1 dX4_undo_35 rfl rfl ?_
      refine bw_getR (pc := 36) (q := 0) (k0 := 5) C ltC_0 shC_0 rfl inX4 mw_128 (by decide) rfl dX4_undo_36 ?_
      refine bw_aload_n (pc := 39) C 1 dX4_undo_39 rfl rfl ?_
      refine bw_getR (pc := 40) (q := 0) (k0 := 7) C ltC_0 shC_0 rfl inX4 mw_130 (by decide) rfl dX4_undo_40 ?_
      obtain ⟨M3, eM3, h⟩ := bw_cl_o h
      refine bw_cVv (pc := 43) (q := 16) (As := [.ref (ρ 28)]) (rest := []) C (tX3_relive l N 16 28 isT_16 isD_28 M2 M3 eM3) msX3_relive mw_387 rfl rfl ⟨Nat.le_of_ble_eq_true rfl, Nat.le_of_ble_eq_true rfl⟩ ltC_16 shC_16 rfl rfl rfl rfl (Nat.le_of_ble_eq_true rfl) dX4_undo_43 ?_
      refine bw_iload_n (pc := 46) C 0 dX4_undo_46 rfl rfl ?_
      exact bw_ireti (pc := 47) C dX4_undo_47 h
    · refine bw_pick [0, 1] rfl ?_
      exact tX4_undo_15 C N x1 M rr zz h
/-! X4_upper -/
abbrev rmX4_upper : Room := { frames := 0, cells := 0, slots := 0, locals := 0 }
theorem msX4_upper : bw_MV yX4_upper cX4_upper 1 (some .long) RX4 0 := ⟨mw_563, mw_564, mw_1, mw_565, by decide +kernel⟩
def fX4_upper  (M : bw_M) : Option (Int64) :=
  some (M.2.1 15)
theorem tX4_upper (l : Launch)   (M : bw_M) (rr : Int64) (h : fX4_upper M = some rr) : bw_CL l bw_shC 45 yX4_upper cX4_upper 1 (some .long) rmX4_upper (fun ρ => [.ref (ρ 0)]) M rr M := by
  refine bw_inL (Lf := fun ρ => [(0, .ref (ρ 0))]) cX4_upper 1 (some .long) RX4 pn_X4 rfl (fun ρ => Nat.le_of_ble_eq_true rfl) (fun ρ => rfl) ?_
  intro p e s m args below meth c D kT ρ C
  unfold fX4_upper at h
  refine bw_aload_n (pc := 0) C 0 dX4_upper_0 rfl rfl ?_
  refine bw_getL (pc := 1) (q := 0) (k0 := 15) C ltC_0 shC_0 rfl inX4 mw_138 (by decide) rfl dX4_upper_1 ?_
  exact bw_lreti (pc := 4) C dX4_upper_4 (bw_pr M h)
/-! X4_wants -/
abbrev rmX4_wants : Room := { frames := 1, cells := 0, slots := 0, locals := 22 }
theorem msX4_wants : bw_MV yX4_wants cX4_wants 4 (some .int) RX4 3 := ⟨mw_409, mw_410, mw_1, mw_411, by decide +kernel⟩
def fX4_wants_32 (x1 : Int32) (x2 : Int32) (x3 : Int32)   (M : bw_M) : Option (Int32) :=
  some (-1 : Int32)
theorem tX4_wants_32 {p : Program} {l : Launch} {e : Env} {s : State} {m : MethodId} {args : Array Value} {below : List Frame} {meth : Method} {c : Code} {D : va_G} {kT : Nat → ClassId} {ρ : Nat → Nat} (C : bw_Cx p s m args meth c cX4_wants 4 RX4 45 D kT ρ (some .int)) (x1 : Int32) (x2 : Int32) (x3 : Int32)    (M : bw_M) (rr : Int32)  (h : fX4_wants_32 x1 x2 x3 M = some rr) : bw_At p l e rmX4_wants s m args below meth c (MQ below (bw_QI bw_shC 45 D kT ρ rr M) args s 0 0 (bw_A ρ 45)) bw_shC 45 D kT ρ 4 32 [(0, .ref (ρ 0)), (1, .int x1), (2, .int x2), (3, .int x3)] [] M := by
  unfold fX4_wants_32 at h
  refine bw_iconst (pc := 32) (v := (-1 : Int32)) C dX4_wants_32 ic_m1 ?_
  exact bw_ireti (pc := 33) C dX4_wants_33 (bw_pr M h)
def fX4_wants (x1 : Int32) (x2 : Int32) (x3 : Int32) (M : bw_M) : Option (Int32) :=
  bw_cl (fX3_hasPipe 16 x1 M) fun v1 =>
  if v1 = 0 then
  fX4_wants_32 x1 x2 x3 M
  else
  if x2 < (1 : Int32) then
  fX4_wants_32 x1 x2 x3 M
  else
  if (9 : Int32) < x2 then
  fX4_wants_32 x1 x2 x3 M
  else
  if x3 < 0 then
  fX4_wants_32 x1 x2 x3 M
  else
  if x3 ≤ (99 : Int32) then
  bw_rd M 17 6 x1 fun v2 =>
  bw_cl (fX1_want v2 x2 x3) fun v3 =>
  some v3
  else
  fX4_wants_32 x1 x2 x3 M
theorem tX4_wants (l : Launch) (x1 : Int32) (x2 : Int32) (x3 : Int32)  (M : bw_M) (rr : Int32) (h : fX4_wants x1 x2 x3 M = some rr) : bw_CI l bw_shC 45 yX4_wants cX4_wants 4 (some .int) rmX4_wants (fun ρ => [.ref (ρ 0), .int x1, .int x2, .int x3]) M rr M := by
  refine bw_inI (Lf := fun ρ => [(0, .ref (ρ 0)), (1, .int x1), (2, .int x2), (3, .int x3)]) cX4_wants 4 (some .int) RX4 pn_X4 rfl (fun ρ => Nat.le_of_ble_eq_true rfl) (fun ρ => rfl) ?_
  intro p e s m args below meth c D kT ρ C
  unfold fX4_wants at h
  refine bw_aload_n (pc := 0) C 0 dX4_wants_0 rfl rfl ?_
  refine bw_getR (pc := 1) (q := 0) (k0 := 5) C ltC_0 shC_0 rfl inX4 mw_128 (by decide) rfl dX4_wants_1 ?_
  refine bw_iload_n (pc := 4) C 1 dX4_wants_4 rfl rfl ?_
  obtain ⟨v1, ev1, h⟩ := bw_cl_o h
  refine bw_cVi (pc := 5) (q := 16) (As := [.int x1]) (rest := []) C (tX3_hasPipe l 16 x1 isT_16 M v1 ev1) msX3_hasPipe mw_290 rfl rfl ⟨Nat.le_of_ble_eq_true rfl, Nat.le_of_ble_eq_true rfl⟩ ltC_16 shC_16 rfl rfl rfl rfl (Nat.le_of_ble_eq_true rfl) dX4_wants_5 ?_
  refine bw_if_eq (pc := 8) C 32 dX4_wants_8 (by decide) h (fun h => ?_) (fun h => ?_)
  · refine bw_pick [0, 1, 2, 3] rfl ?_
    exact tX4_wants_32 C x1 x2 x3 M rr h
  · refine bw_iload_n (pc := 11) C 2 dX4_wants_11 rfl rfl ?_
    refine bw_iconst (pc := 12) (v := (1 : Int32)) C dX4_wants_12 ic_1 ?_
    refine bw_icmp_lt (pc := 13) C 32 dX4_wants_13 (by decide) h (fun h => ?_) (fun h => ?_)
    · refine bw_pick [0, 1, 2, 3] rfl ?_
      exact tX4_wants_32 C x1 x2 x3 M rr h
    · refine bw_iload_n (pc := 16) C 2 dX4_wants_16 rfl rfl ?_
      refine bw_bipush (pc := 17) (v := (9 : Int32)) C dX4_wants_17 bi_9 ?_
      refine bw_icmp_gt (pc := 19) C 32 dX4_wants_19 (by decide) h (fun h => ?_) (fun h => ?_)
      · refine bw_pick [0, 1, 2, 3] rfl ?_
        exact tX4_wants_32 C x1 x2 x3 M rr h
      · refine bw_iload_n (pc := 22) C 3 dX4_wants_22 rfl rfl ?_
        refine bw_if_lt (pc := 23) C 32 dX4_wants_23 (by decide) h (fun h => ?_) (fun h => ?_)
        · refine bw_pick [0, 1, 2, 3] rfl ?_
          exact tX4_wants_32 C x1 x2 x3 M rr h
        · refine bw_iload_n (pc := 26) C 3 dX4_wants_26 rfl rfl ?_
          refine bw_bipush (pc := 27) (v := (99 : Int32)) C dX4_wants_27 bi_99 ?_
          refine bw_icmp_le (pc := 29) C 34 dX4_wants_29 (by decide) h (fun h => ?_) (fun h => ?_)
          · refine bw_aload_n (pc := 34) C 0 dX4_wants_34 rfl rfl ?_
            refine bw_getR (pc := 35) (q := 0) (k0 := 5) C ltC_0 shC_0 rfl inX4 mw_128 (by decide) rfl dX4_wants_35 ?_
            refine bw_getR (pc := 38) (q := 16) (k0 := 8) C ltC_16 shC_16 rfl inX3 mw_63 (by decide) rfl dX4_wants_38 ?_
            refine bw_iload_n (pc := 41) C 1 dX4_wants_41 rfl rfl ?_
            obtain ⟨qv2, v2, ev2, h⟩ := bw_rd_o h
            refine bw_iald (pc := 42) (q := 17) C ltC_17 shC_17 qv2 ev2 dX4_wants_42 ?_
            refine bw_iload_n (pc := 43) C 2 dX4_wants_43 rfl rfl ?_
            refine bw_iload_n (pc := 44) C 3 dX4_wants_44 rfl rfl ?_
            obtain ⟨v3, ev3, h⟩ := bw_cl_o h
            refine bw_cSi (pc := 45) (As := [.int v2, .int x2, .int x3]) (rest := []) C (tX1_want l v2 x2 x3 M v3 ev3) msX1_want mw_412 rfl rfl ⟨Nat.le_of_ble_eq_true rfl, Nat.le_of_ble_eq_true rfl⟩ rfl rfl rfl (Nat.le_of_ble_eq_true rfl) dX4_wants_45 ?_
            exact bw_ireti (pc := 48) C dX4_wants_48 (bw_pr M h)
          · refine bw_pick [0, 1, 2, 3] rfl ?_
            exact tX4_wants_32 C x1 x2 x3 M rr h
