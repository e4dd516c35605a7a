/-! X5_pipe -/
abbrev rmX5_pipe : Room := { frames := 2, cells := 0, slots := 0, locals := 46 }
theorem msX5_pipe : bw_MV yX5_pipe cX5_pipe 3 (some .int) RX5 2 := ⟨mw_796, mw_797, mw_6, mw_798, by decide +kernel⟩
def fX5_pipe_20 (N : Nat) (x1 : Int32) (x2 : Int32)   (M : bw_M) : Option (Int32 × bw_M) :=
  some ((-1 : Int32), M)
theorem tX5_pipe_20 {p : Program} {l : Launch} {e : Env} {s : State} {m : MethodId} {args : Array Value} {below : List Frame} {meth : Method} {c : Code} {D : va_G} {kT : Nat → ClassId} {ρ : Nat → Nat} (C : bw_Cx p s m args meth c cX5_pipe 3 RX5 19 D kT ρ (some .int)) (N : Nat) (x1 : Int32) (x2 : Int32)    (M : bw_M) (rr : Int32) (zz : bw_M)  (h : fX5_pipe_20 N x1 x2 M = some (rr, zz)) : bw_At p l e rmX5_pipe s m args below meth c (MQ below (bw_QI bw_shM 19 D kT ρ rr zz) args s 0 0 (bw_A ρ 19)) bw_shM 19 D kT ρ 3 20 [(0, .ref (ρ 0)), (1, .int x1), (2, .int x2)] [] M := by
  unfold fX5_pipe_20 at h
  refine bw_iconst (pc := 20) (v := (-1 : Int32)) C dX5_pipe_20 ic_m1 ?_
  exact bw_ireti (pc := 21) C dX5_pipe_21 h
def fX5_pipe_156 (N : Nat) (x1 : Int32) (x2 : Int32)  (s1 : Int32) (M : bw_M) : Option (Int32 × bw_M) :=
  bw_c2 (fX5_tell s1 M) fun v29 M30 =>
  some (v29, M30)
theorem tX5_pipe_156 {p : Program} {l : Launch} {e : Env} {s : State} {m : MethodId} {args : Array Value} {below : List Frame} {meth : Method} {c : Code} {D : va_G} {kT : Nat → ClassId} {ρ : Nat → Nat} (C : bw_Cx p s m args meth c cX5_pipe 3 RX5 19 D kT ρ (some .int)) (N : Nat) (x1 : Int32) (x2 : Int32)   (s1 : Int32) (M : bw_M) (rr : Int32) (zz : bw_M)  (h : fX5_pipe_156 N x1 x2 s1 M = some (rr, zz)) : bw_At p l e rmX5_pipe s m args below meth c (MQ below (bw_QI bw_shM 19 D kT ρ rr zz) args s 0 0 (bw_A ρ 19)) bw_shM 19 D kT ρ 3 156 [(0, .ref (ρ 0)), (1, .int x1), (2, .int x2)] [.int s1, .ref (ρ 0)] M := by
  unfold fX5_pipe_156 at h
  obtain ⟨v29, M30, ev29, h⟩ := bw_c2_o h
  refine bw_cVi (pc := 156) (q := 0) (As := [.int s1]) (rest := []) C (tX5_tell l s1 M v29 M30 ev29) msX5_tell mw_728 rfl rfl ⟨Nat.le_of_ble_eq_true rfl, Nat.le_of_ble_eq_true rfl⟩ ltM_0 shM_0 rfl rfl rfl rfl (Nat.le_of_ble_eq_true rfl) dX5_pipe_156 ?_
  exact bw_ireti (pc := 159) C dX5_pipe_159 h
def fX5_pipe (N : Nat) (x1 : Int32) (x2 : Int32) (M : bw_M) : Option (Int32 × bw_M) :=
  bw_cl (fX5_isPipe x1 M) fun v1 =>
  if v1 = 0 then
  fX5_pipe_20 N x1 x2 M
  else
  bw_cl (fX5_in (Int32.toInt64 x2) (0 : Int64) (7 : Int64)) fun v2 =>
  if v2 = 0 then
  fX5_pipe_20 N x1 x2 M
  else
  if x2 = (0 : Int32) then
  bw_rd M 6 6 x1 fun v4 =>
  bw_c2 (fX5_tell v4 M) fun v5 M6 =>
  some (v5, M6)
  else if x2 = (1 : Int32) then
  bw_rd M 7 6 x1 fun v8 =>
  bw_c2 (fX5_tell v8 M) fun v9 M10 =>
  some (v9, M10)
  else if x2 = (2 : Int32) then
  bw_rd M 8 6 x1 fun v12 =>
  bw_c2 (fX5_tell v12 M) fun v13 M14 =>
  some (v13, M14)
  else if x2 = (3 : Int32) then
  bw_cl (fX5_wantsOn 9 17 x1 M) fun v16 =>
  bw_c2 (fX5_tell v16 M) fun v17 M18 =>
  some (v17, M18)
  else if x2 = (4 : Int32) then
  bw_rd M 9 17 ((5 : Int32) + x1) fun v20 =>
  bw_c2 (fX5_tell v20 M) fun v21 M22 =>
  some (v21, M22)
  else if x2 = (5 : Int32) then
  bw_rd M 9 17 ((11 : Int32) + x1) fun v24 =>
  bw_c2 (fX5_tell v24 M) fun v25 M26 =>
  some (v25, M26)
  else if x2 = (6 : Int32) then
  bw_cl (fX5_isCutOff N 9 17 x1 M) fun v28 =>
  if v28 = 0 then
  fX5_pipe_156 N x1 x2 (0 : Int32) M
  else
  fX5_pipe_156 N x1 x2 (1 : Int32) M
  else 
  bw_rd M 9 17 (4 : Int32) fun v31 =>
  bw_c2 (fX5_tell ((v31 >>> (x1 &&& 31)) &&& (1 : Int32)) M) fun v32 M33 =>
  some (v32, M33)
theorem tX5_pipe (l : Launch) (N : Nat) (x1 : Int32) (x2 : Int32)  (M : bw_M) (rr : Int32) (zz : bw_M) (h : fX5_pipe N x1 x2 M = some (rr, zz)) : bw_CI l bw_shM 19 yX5_pipe cX5_pipe 3 (some .int) rmX5_pipe (fun ρ => [.ref (ρ 0), .int x1, .int x2]) M rr zz := by
  refine bw_inI (Lf := fun ρ => [(0, .ref (ρ 0)), (1, .int x1), (2, .int x2)]) cX5_pipe 3 (some .int) RX5 pn_X5 rfl (fun ρ => Nat.le_of_ble_eq_true rfl) (fun ρ => rfl) ?_
  intro p e s m args below meth c D kT ρ C
  unfold fX5_pipe at h
  refine bw_aload_n (pc := 0) C 0 dX5_pipe_0 rfl rfl ?_
  refine bw_iload_n (pc := 1) C 1 dX5_pipe_1 rfl rfl ?_
  obtain ⟨v1, ev1, h⟩ := bw_cl_o h
  refine bw_cVi (pc := 2) (q := 0) (As := [.int x1]) (rest := []) C (tX5_isPipe l x1 M v1 ev1) msX5_isPipe mw_799 rfl rfl ⟨Nat.le_of_ble_eq_true rfl, Nat.le_of_ble_eq_true rfl⟩ ltM_0 shM_0 rfl rfl rfl rfl (Nat.le_of_ble_eq_true rfl) dX5_pipe_2 ?_
  refine bw_if_eq (pc := 5) C 20 dX5_pipe_5 (by decide) h (fun h => ?_) (fun h => ?_)
  · refine bw_pick [0, 1, 2] rfl ?_
    exact tX5_pipe_20 C N x1 x2 M rr zz h
  · refine bw_iload_n (pc := 8) C 2 dX5_pipe_8 rfl rfl ?_
    refine bw_i2l (pc := 9) C dX5_pipe_9 ?_
    refine bw_lconst (pc := 10) (v := (0 : Int64)) C dX5_pipe_10 rfl ?_
    refine bw_ldc2_w (pc := 11) C mw_803 dX5_pipe_11 ?_
    obtain ⟨v2, ev2, h⟩ := bw_cl_o h
    refine bw_cSi (pc := 14) (As := [.long (Int32.toInt64 x2), .long (0 : Int64), .long (7 : Int64)]) (rest := []) C (tX5_in l (Int32.toInt64 x2) (0 : Int64) (7 : Int64) M v2 ev2) msX5_in mw_717 rfl rfl ⟨Nat.le_of_ble_eq_true rfl, Nat.le_of_ble_eq_true rfl⟩ rfl rfl rfl (Nat.le_of_ble_eq_true rfl) dX5_pipe_14 ?_
    refine bw_if_ne (pc := 17) C 22 dX5_pipe_17 (by decide) h (fun h => ?_) (fun h => ?_)
    · refine bw_iload_n (pc := 22) C 2 dX5_pipe_22 rfl rfl ?_
      refine bw_swc (pc := 23) C (0 : Int32) h (fun h => ?_) (fun q3 h => ?_)
      · refine bw_swi (pc := 23) C 64 dX5_pipe_23 (by decide) (by decide) rfl (by decide) ?_
        refine bw_aload_n (pc := 64) C 0 dX5_pipe_64 rfl rfl ?_
        refine bw_aload_n (pc := 65) C 0 dX5_pipe_65 rfl rfl ?_
        refine bw_getR (pc := 66) (q := 0) (k0 := 10) C ltM_0 shM_0 rfl inX5 mw_625 (by decide) rfl dX5_pipe_66 ?_
        refine bw_iload_n (pc := 69) C 1 dX5_pipe_69 rfl rfl ?_
        obtain ⟨qv4, v4, ev4, h⟩ := bw_rd_o h
        refine bw_iald (pc := 70) (q := 6) C ltM_6 shM_6 qv4 ev4 dX5_pipe_70 ?_
        obtain ⟨v5, M6, ev5, h⟩ := bw_c2_o h
        refine bw_cVi (pc := 71) (q := 0) (As := [.int v4]) (rest := []) C (tX5_tell l v4 M v5 M6 ev5) msX5_tell mw_728 rfl rfl ⟨Nat.le_of_ble_eq_true rfl, Nat.le_of_ble_eq_true rfl⟩ ltM_0 shM_0 rfl rfl rfl rfl (Nat.le_of_ble_eq_true rfl) dX5_pipe_71 ?_
        exact bw_ireti (pc := 74) C dX5_pipe_74 h
      refine bw_swc (pc := 23) C (1 : Int32) h (fun h => ?_) (fun q7 h => ?_)
      · refine bw_swi (pc := 23) C 75 dX5_pipe_23 (by decide) (by decide) rfl (by decide) ?_
        refine bw_aload_n (pc := 75) C 0 dX5_pipe_75 rfl rfl ?_
        refine bw_aload_n (pc := 76) C 0 dX5_pipe_76 rfl rfl ?_
        refine bw_getR (pc := 77) (q := 0) (k0 := 11) C ltM_0 shM_0 rfl inX5 mw_626 (by decide) rfl dX5_pipe_77 ?_
        refine bw_iload_n (pc := 80) C 1 dX5_pipe_80 rfl rfl ?_
        obtain ⟨qv8, v8, ev8, h⟩ := bw_rd_o h
        refine bw_iald (pc := 81) (q := 7) C ltM_7 shM_7 qv8 ev8 dX5_pipe_81 ?_
        obtain ⟨v9, M10, ev9, h⟩ := bw_c2_o h
        refine bw_cVi (pc := 82) (q := 0) (As := [.int v8]) (rest := []) C (tX5_tell l v8 M v9 M10 ev9) msX5_tell mw_728 rfl rfl ⟨Nat.le_of_ble_eq_true rfl, Nat.le_of_ble_eq_true rfl⟩ ltM_0 shM_0 rfl rfl rfl rfl (Nat.le_of_ble_eq_true rfl) dX5_pipe_82 ?_
        exact bw_ireti (pc := 85) C dX5_pipe_85 h
      refine bw_swc (pc := 23) C (2 : Int32) h (fun h => ?_) (fun q11 h => ?_)
      · refine bw_swi (pc := 23) C 86 dX5_pipe_23 (by decide) (by decide) rfl (by decide) ?_
        refine bw_aload_n (pc := 86) C 0 dX5_pipe_86 rfl rfl ?_
        refine bw_aload_n (pc := 87) C 0 dX5_pipe_87 rfl rfl ?_
        refine bw_getR (pc := 88) (q := 0) (k0 := 12) C ltM_0 shM_0 rfl inX5 mw_627 (by decide) rfl dX5_pipe_88 ?_
        refine bw_iload_n (pc := 91) C 1 dX5_pipe_91 rfl rfl ?_
        obtain ⟨qv12, v12, ev12, h⟩ := bw_rd_o h
        refine bw_iald (pc := 92) (q := 8) C ltM_8 shM_8 qv12 ev12 dX5_pipe_92 ?_
        obtain ⟨v13, M14, ev13, h⟩ := bw_c2_o h
        refine bw_cVi (pc := 93) (q := 0) (As := [.int v12]) (rest := []) C (tX5_tell l v12 M v13 M14 ev13) msX5_tell mw_728 rfl rfl ⟨Nat.le_of_ble_eq_true rfl, Nat.le_of_ble_eq_true rfl⟩ ltM_0 shM_0 rfl rfl rfl rfl (Nat.le_of_ble_eq_true rfl) dX5_pipe_93 ?_
        exact bw_ireti (pc := 96) C dX5_pipe_96 h
      refine bw_swc (pc := 23) C (3 : Int32) h (fun h => ?_) (fun q15 h => ?_)
      · refine bw_swi (pc := 23) C 97 dX5_pipe_23 (by decide) (by decide) rfl (by decide) ?_
        refine bw_aload_n (pc := 97) C 0 dX5_pipe_97 rfl rfl ?_
        refine bw_aload_n (pc := 98) C 0 dX5_pipe_98 rfl rfl ?_
        refine bw_aload_n (pc := 99) C 0 dX5_pipe_99 rfl rfl ?_
        refine bw_getR (pc := 100) (q := 0) (k0 := 13) C ltM_0 shM_0 rfl inX5 mw_628 (by decide) rfl dX5_pipe_100 ?_
        refine bw_iload_n (pc := 103) C 1 dX5_pipe_103 rfl rfl ?_
        obtain ⟨v16, ev16, h⟩ := bw_cl_o h
        refine bw_cVi (pc := 104) (q := 0) (As := [.ref (ρ 9), .int x1]) (rest := [.ref (ρ 0)]) C (tX5_wantsOn l 9 17 x1 ltM_9 shM_9 M v16 ev16) msX5_wantsOn mw_804 rfl rfl ⟨Nat.le_of_ble_eq_true rfl, Nat.le_of_ble_eq_true rfl⟩ ltM_0 shM_0 rfl rfl rfl rfl (Nat.le_of_ble_eq_true rfl) dX5_pipe_104 ?_
        obtain ⟨v17, M18, ev17, h⟩ := bw_c2_o h
        refine bw_cVi (pc := 107) (q := 0) (As := [.int v16]) (rest := []) C (tX5_tell l v16 M v17 M18 ev17) msX5_tell mw_728 rfl rfl ⟨Nat.le_of_ble_eq_true rfl, Nat.le_of_ble_eq_true rfl⟩ ltM_0 shM_0 rfl rfl rfl rfl (Nat.le_of_ble_eq_true rfl) dX5_pipe_107 ?_
        exact bw_ireti (pc := 110) C dX5_pipe_110 h
      refine bw_swc (pc := 23) C (4 : Int32) h (fun h => ?_) (fun q19 h => ?_)
      · refine bw_swi (pc := 23) C 111 dX5_pipe_23 (by decide) (by decide) rfl (by decide) ?_
        refine bw_aload_n (pc := 111) C 0 dX5_pipe_111 rfl rfl ?_
        refine bw_aload_n (pc := 112) C 0 dX5_pipe_112 rfl rfl ?_
        refine bw_getR (pc := 113) (q := 0) (k0 := 13) C ltM_0 shM_0 rfl inX5 mw_628 (by decide) rfl dX5_pipe_113 ?_
        refine bw_iconst (pc := 116) (v := (5 : Int32)) C dX5_pipe_116 ic_5 ?_
        refine bw_iload_n (pc := 117) C 1 dX5_pipe_117 rfl rfl ?_
        refine bw_iadd (pc := 118) C dX5_pipe_118 ?_
        obtain ⟨qv20, v20, ev20, h⟩ := bw_rd_o h
        refine bw_iald (pc := 119) (q := 9) C ltM_9 shM_9 qv20 ev20 dX5_pipe_119 ?_
        obtain ⟨v21, M22, ev21, h⟩ := bw_c2_o h
        refine bw_cVi (pc := 120) (q := 0) (As := [.int v20]) (rest := []) C (tX5_tell l v20 M v21 M22 ev21) msX5_tell mw_728 rfl rfl ⟨Nat.le_of_ble_eq_true rfl, Nat.le_of_ble_eq_true rfl⟩ ltM_0 shM_0 rfl rfl rfl rfl (Nat.le_of_ble_eq_true rfl) dX5_pipe_120 ?_
        exact bw_ireti (pc := 123) C dX5_pipe_123 h
      refine bw_swc (pc := 23) C (5 : Int32) h (fun h => ?_) (fun q23 h => ?_)
      · refine bw_swi (pc := 23) C 124 dX5_pipe_23 (by decide) (by decide) rfl (by decide) ?_
        refine bw_aload_n (pc := 124) C 0 dX5_pipe_124 rfl rfl ?_
        refine bw_aload_n (pc := 125) C 0 dX5_pipe_125 rfl rfl ?_
        refine bw_getR (pc := 126) (q := 0) (k0 := 13) C ltM_0 shM_0 rfl inX5 mw_628 (by decide) rfl dX5_pipe_126 ?_
        refine bw_bipush (pc := 129) (v := (11 : Int32)) C dX5_pipe_129 bi_11 ?_
        refine bw_iload_n (pc := 131) C 1 dX5_pipe_131 rfl rfl ?_
        refine bw_iadd (pc := 132) C dX5_pipe_132 ?_
        obtain ⟨qv24, v24, ev24, h⟩ := bw_rd_o h
        refine bw_iald (pc := 133) (q := 9) C ltM_9 shM_9 qv24 ev24 dX5_pipe_133 ?_
        obtain ⟨v25, M26, ev25, h⟩ := bw_c2_o h
        refine bw_cVi (pc := 134) (q := 0) (As := [.int v24]) (rest := []) C (tX5_tell l v24 M v25 M26 ev25) msX5_tell mw_728 rfl rfl ⟨Nat.le_of_ble_eq_true rfl, Nat.le_of_ble_eq_true rfl⟩ ltM_0 shM_0 rfl rfl rfl rfl (Nat.le_of_ble_eq_true rfl) dX5_pipe_134 ?_
        exact bw_ireti (pc := 137) C dX5_pipe_137 h
      refine bw_swc (pc := 23) C (6 : Int32) h (fun h => ?_) (fun q27 h => ?_)
      · refine bw_swi (pc := 23) C 138 dX5_pipe_23 (by decide) (by decide) rfl (by decide) ?_
        refine bw_aload_n (pc := 138) C 0 dX5_pipe_138 rfl rfl ?_
        refine bw_aload_n (pc := 139) C 0 dX5_pipe_139 rfl rfl ?_
        refine bw_aload_n (pc := 140) C 0 dX5_pipe_140 rfl rfl ?_
        refine bw_getR (pc := 141) (q := 0) (k0 := 13) C ltM_0 shM_0 rfl inX5 mw_628 (by decide) rfl dX5_pipe_141 ?_
        refine bw_iload_n (pc := 144) C 1 dX5_pipe_144 rfl rfl ?_
        obtain ⟨v28, ev28, h⟩ := bw_cl_o h
        refine bw_cVi (pc := 145) (q := 0) (As := [.ref (ρ 9), .int x1]) (rest := [.ref (ρ 0)]) C (tX5_isCutOff l N 9 17 x1 ltM_9 shM_9 M v28 ev28) msX5_isCutOff mw_811 rfl rfl ⟨Nat.le_of_ble_eq_true rfl, Nat.le_of_ble_eq_true rfl⟩ ltM_0 shM_0 rfl rfl rfl rfl (Nat.le_of_ble_eq_true rfl) dX5_pipe_145 ?_
        refine bw_if_eq (pc := 148) C 155 dX5_pipe_148 (by decide) h (fun h => ?_) (fun h => ?_)
        · refine bw_iconst (pc := 155) (v := (0 : Int32)) C dX5_pipe_155 ic_0 ?_
          refine bw_pick [0, 1, 2] rfl ?_
          exact tX5_pipe_156 C N x1 x2 (0 : Int32) M rr zz h
        · refine bw_iconst (pc := 151) (v := (1 : Int32)) C dX5_pipe_151 ic_1 ?_
          refine bw_goto (pc := 152) C 156 dX5_pipe_152 (by decide) ?_
          refine bw_pick [0, 1, 2] rfl ?_
          exact tX5_pipe_156 C N x1 x2 (1 : Int32) M rr zz h
      have ho : (x2).toInt < 0 ∨ 6 < (x2).toInt := bw_sw_out 7 (by decide) (by decide) (by decide) (fun j hj => by
        match j, hj with
        | 0, _ => exact q3
        | 1, _ => exact q7
        | 2, _ => exact q11
        | 3, _ => exact q15
        | 4, _ => exact q19
        | 5, _ => exact q23
        | 6, _ => exact q27
        | j + 7, hj => exact absurd hj (by omega))
      refine bw_swo (pc := 23) C 160 dX5_pipe_23 ho (by decide) ?_
      refine bw_aload_n (pc := 160) C 0 dX5_pipe_160 rfl rfl ?_
      refine bw_aload_n (pc := 161) C 0 dX5_pipe_161 rfl rfl ?_
      refine bw_getR (pc := 162) (q := 0) (k0 := 13) C ltM_0 shM_0 rfl inX5 mw_628 (by decide) rfl dX5_pipe_162 ?_
      refine bw_iconst (pc := 165) (v := (4 : Int32)) C dX5_pipe_165 ic_4 ?_
      obtain ⟨qv31, v31, ev31, h⟩ := bw_rd_o h
      refine bw_iald (pc := 166) (q := 9) C ltM_9 shM_9 qv31 ev31 dX5_pipe_166 ?_
      refine bw_iload_n (pc := 167) C 1 dX5_pipe_167 rfl rfl ?_
      refine bw_ishr (pc := 168) C dX5_pipe_168 ?_
      refine bw_iconst (pc := 169) (v := (1 : Int32)) C dX5_pipe_169 ic_1 ?_
      refine bw_iand (pc := 170) C dX5_pipe_170 ?_
      obtain ⟨v32, M33, ev32, h⟩ := bw_c2_o h
      refine bw_cVi (pc := 171) (q := 0) (As := [.int ((v31 >>> (x1 &&& 31)) &&& (1 : Int32))]) (rest := []) C (tX5_tell l ((v31 >>> (x1 &&& 31)) &&& (1 : Int32)) M v32 M33 ev32) msX5_tell mw_728 rfl rfl ⟨Nat.le_of_ble_eq_true rfl, Nat.le_of_ble_eq_true rfl⟩ ltM_0 shM_0 rfl rfl rfl rfl (Nat.le_of_ble_eq_true rfl) dX5_pipe_171 ?_
      exact bw_ireti (pc := 174) C dX5_pipe_174 h
    · refine bw_pick [0, 1, 2] rfl ?_
      exact tX5_pipe_20 C N x1 x2 M rr zz h
/-! X5_pump -/
abbrev rmX5_pump : Room := { frames := 2, cells := 0, slots := 0, locals := 45 }
theorem msX5_pump : bw_MV yX5_pump cX5_pump 2 (some .int) RX5 1 := ⟨mw_852, mw_853, mw_6, mw_854, by decide +kernel⟩
def fX5_pump_18 (N : Nat) (x1 : Int32)   (M : bw_M) : Option (Int32 × bw_M) :=
  some ((-1 : Int32), M)
theorem tX5_pump_18 {p : Program} {l : Launch} {e : Env} {s : State} {m : MethodId} {args : Array Value} {below : List Frame} {meth : Method} {c : Code} {D : va_G} {kT : Nat → ClassId} {ρ : Nat → Nat} (C : bw_Cx p s m args meth c cX5_pump 2 RX5 19 D kT ρ (some .int)) (N : Nat) (x1 : Int32)    (M : bw_M) (rr : Int32) (zz : bw_M)  (h : fX5_pump_18 N x1 M = some (rr, zz)) : bw_At p l e rmX5_pump s m args below meth c (MQ below (bw_QI bw_shM 19 D kT ρ rr zz) args s 0 0 (bw_A ρ 19)) bw_shM 19 D kT ρ 2 18 [(0, .ref (ρ 0)), (1, .int x1)] [] M := by
  unfold fX5_pump_18 at h
  refine bw_iconst (pc := 18) (v := (-1 : Int32)) C dX5_pump_18 ic_m1 ?_
  exact bw_ireti (pc := 19) C dX5_pump_19 h
def fX5_pump_46 (N : Nat) (x1 : Int32)   (M : bw_M) : Option (Int32 × bw_M) :=
  some ((-4 : Int32), M)
theorem tX5_pump_46 {p : Program} {l : Launch} {e : Env} {s : State} {m : MethodId} {args : Array Value} {below : List Frame} {meth : Method} {c : Code} {D : va_G} {kT : Nat → ClassId} {ρ : Nat → Nat} (C : bw_Cx p s m args meth c cX5_pump 2 RX5 19 D kT ρ (some .int)) (N : Nat) (x1 : Int32)    (M : bw_M) (rr : Int32) (zz : bw_M)  (h : fX5_pump_46 N x1 M = some (rr, zz)) : bw_At p l e rmX5_pump s m args below meth c (MQ below (bw_QI bw_shM 19 D kT ρ rr zz) args s 0 0 (bw_A ρ 19)) bw_shM 19 D kT ρ 2 46 [(0, .ref (ρ 0)), (1, .int x1)] [] M := by
  unfold fX5_pump_46 at h
  refine bw_bipush (pc := 46) (v := (-4 : Int32)) C dX5_pump_46 bi_m4 ?_
  exact bw_ireti (pc := 48) C dX5_pump_48 h
def fX5_pump (N : Nat) (x1 : Int32) (M : bw_M) : Option (Int32 × bw_M) :=
  bw_cl (fX5_in (Int32.toInt64 x1) (-9 : Int64) (9 : Int64)) fun v1 =>
  if v1 = 0 then
  fX5_pump_18 N x1 M
  else
  if x1 = 0 then
  fX5_pump_18 N x1 M
  else
  if (M.1 0 9) = 0 then
  fX5_pump_46 N x1 M
  else
  bw_rd M 9 17 (0 : Int32) fun v2 =>
  bw_cl (fX5_in (Int32.toInt64 (v2 + x1)) (0 : Int64) (60 : Int64)) fun v3 =>
  if v3 = 0 then
  fX5_pump_46 N x1 M
  else
  if (M.1 0 16) = (40 : Int32) then
  some ((-2 : Int32), M)
  else
  bw_cl (fX5_remember N M) fun M4 =>
  bw_rd M4 9 17 (0 : Int32) fun v5 =>
  bw_wr M4 9 17 (0 : Int32) (v5 + x1) fun M6 =>
  bw_rd M6 9 17 (0 : Int32) fun v7 =>
  some (v7, M6)
theorem tX5_pump (l : Launch) (N : Nat) (x1 : Int32)  (M : bw_M) (rr : Int32) (zz : bw_M) (h : fX5_pump N x1 M = some (rr, zz)) : bw_CI l bw_shM 19 yX5_pump cX5_pump 2 (some .int) rmX5_pump (fun ρ => [.ref (ρ 0), .int x1]) M rr zz := by
  refine bw_inI (Lf := fun ρ => [(0, .ref (ρ 0)), (1, .int x1)]) cX5_pump 2 (some .int) RX5 pn_X5 rfl (fun ρ => Nat.le_of_ble_eq_true rfl) (fun ρ => rfl) ?_
  intro p e s m args below meth c D kT ρ C
  unfold fX5_pump at h
  refine bw_iload_n (pc := 0) C 1 dX5_pump_0 rfl rfl ?_
  refine bw_i2l (pc := 1) C dX5_pump_1 ?_
  refine bw_ldc2_w (pc := 2) C mw_855 dX5_pump_2 ?_
  refine bw_ldc2_w (pc := 5) C mw_856 dX5_pump_5 ?_
  obtain ⟨v1, ev1, h⟩ := bw_cl_o h
  refine bw_cSi (pc := 8) (As := [.long (Int32.toInt64 x1), .long (-9 : Int64), .long (9 : Int64)]) (rest := []) C (tX5_in l (Int32.toInt64 x1) (-9 : Int64) (9 : Int64) M v1 ev1) msX5_in mw_717 rfl rfl ⟨Nat.le_of_ble_eq_true rfl, Nat.le_of_ble_eq_true rfl⟩ rfl rfl rfl (Nat.le_of_ble_eq_true rfl) dX5_pump_8 ?_
  refine bw_if_eq (pc := 11) C 18 dX5_pump_11 (by decide) h (fun h => ?_) (fun h => ?_)
  · refine bw_pick [0, 1] rfl ?_
    exact tX5_pump_18 C N x1 M rr zz h
  · refine bw_iload_n (pc := 14) C 1 dX5_pump_14 rfl rfl ?_
    refine bw_if_ne (pc := 15) C 20 dX5_pump_15 (by decide) h (fun h => ?_) (fun h => ?_)
    · refine bw_aload_n (pc := 20) C 0 dX5_pump_20 rfl rfl ?_
      refine bw_getI (pc := 21) (q := 0) (k0 := 9) C ltM_0 shM_0 rfl inX5 mw_624 (by decide) rfl dX5_pump_21 ?_
      refine bw_if_eq (pc := 24) C 46 dX5_pump_24 (by decide) h (fun h => ?_) (fun h => ?_)
      · refine bw_pick [0, 1] rfl ?_
        exact tX5_pump_46 C N x1 M rr zz h
      · refine bw_aload_n (pc := 27) C 0 dX5_pump_27 rfl rfl ?_
        refine bw_getR (pc := 28) (q := 0) (k0 := 13) C ltM_0 shM_0 rfl inX5 mw_628 (by decide) rfl dX5_pump_28 ?_
        refine bw_iconst (pc := 31) (v := (0 : Int32)) C dX5_pump_31 ic_0 ?_
        obtain ⟨qv2, v2, ev2, h⟩ := bw_rd_o h
        refine bw_iald (pc := 32) (q := 9) C ltM_9 shM_9 qv2 ev2 dX5_pump_32 ?_
        refine bw_iload_n (pc := 33) C 1 dX5_pump_33 rfl rfl ?_
        refine bw_iadd (pc := 34) C dX5_pump_34 ?_
        refine bw_i2l (pc := 35) C dX5_pump_35 ?_
        refine bw_lconst (pc := 36) (v := (0 : Int64)) C dX5_pump_36 rfl ?_
        refine bw_ldc2_w (pc := 37) C mw_857 dX5_pump_37 ?_
        obtain ⟨v3, ev3, h⟩ := bw_cl_o h
        refine bw_cSi (pc := 40) (As := [.long (Int32.toInt64 (v2 + x1)), .long (0 : Int64), .long (60 : Int64)]) (rest := []) C (tX5_in l (Int32.toInt64 (v2 + x1)) (0 : Int64) (60 : Int64) M v3 ev3) msX5_in mw_717 rfl rfl ⟨Nat.le_of_ble_eq_true rfl, Nat.le_of_ble_eq_true rfl⟩ rfl rfl rfl (Nat.le_of_ble_eq_true rfl) dX5_pump_40 ?_
        refine bw_if_ne (pc := 43) C 49 dX5_pump_43 (by decide) h (fun h => ?_) (fun h => ?_)
        · refine bw_aload_n (pc := 49) C 0 dX5_pump_49 rfl rfl ?_
          refine bw_getI (pc := 50) (q := 0) (k0 := 16) C ltM_0 shM_0 rfl inX5 mw_631 (by decide) rfl dX5_pump_50 ?_
          refine bw_bipush (pc := 53) (v := (40 : Int32)) C dX5_pump_53 bi_40 ?_
          refine bw_icmp_ne (pc := 55) C 61 dX5_pump_55 (by decide) h (fun h => ?_) (fun h => ?_)
          · refine bw_aload_n (pc := 61) C 0 dX5_pump_61 rfl rfl ?_
            obtain ⟨M4, eM4, h⟩ := bw_cl_o h
            refine bw_cVv (pc := 62) (q := 0) (As := []) (rest := []) C (tX5_remember l N M M4 eM4) msX5_remember mw_833 rfl rfl ⟨Nat.le_of_ble_eq_true rfl, Nat.le_of_ble_eq_true rfl⟩ ltM_0 shM_0 rfl rfl rfl rfl (Nat.le_of_ble_eq_true rfl) dX5_pump_62 ?_
            refine bw_aload_n (pc := 65) C 0 dX5_pump_65 rfl rfl ?_
            refine bw_getR (pc := 66) (q := 0) (k0 := 13) C ltM_0 shM_0 rfl inX5 mw_628 (by decide) rfl dX5_pump_66 ?_
            refine bw_iconst (pc := 69) (v := (0 : Int32)) C dX5_pump_69 ic_0 ?_
            refine bw_dup2 (pc := 70) C dX5_pump_70 rfl rfl ?_
            obtain ⟨qv5, v5, ev5, h⟩ := bw_rd_o h
            refine bw_iald (pc := 71) (q := 9) C ltM_9 shM_9 qv5 ev5 dX5_pump_71 ?_
            refine bw_iload_n (pc := 72) C 1 dX5_pump_72 rfl rfl ?_
            refine bw_iadd (pc := 73) C dX5_pump_73 ?_
            obtain ⟨qM6, M6, eM6, h⟩ := bw_wr_o h
            refine bw_iast (pc := 74) (q := 9) C ltM_9 shM_9 qM6 eM6 dX5_pump_74 ?_
            refine bw_aload_n (pc := 75) C 0 dX5_pump_75 rfl rfl ?_
            refine bw_getR (pc := 76) (q := 0) (k0 := 13) C ltM_0 shM_0 rfl inX5 mw_628 (by decide) rfl dX5_pump_76 ?_
            refine bw_iconst (pc := 79) (v := (0 : Int32)) C dX5_pump_79 ic_0 ?_
            obtain ⟨qv7, v7, ev7, h⟩ := bw_rd_o h
            refine bw_iald (pc := 80) (q := 9) C ltM_9 shM_9 qv7 ev7 dX5_pump_80 ?_
            exact bw_ireti (pc := 81) C dX5_pump_81 h
          · refine bw_bipush (pc := 58) (v := (-2 : Int32)) C dX5_pump_58 bi_m2 ?_
            exact bw_ireti (pc := 60) C dX5_pump_60 h
        · refine bw_pick [0, 1] rfl ?_
          exact tX5_pump_46 C N x1 M rr zz h
    · refine bw_pick [0, 1] rfl ?_
      exact tX5_pump_18 C N x1 M rr zz h
/-! X5_put -/
abbrev rmX5_put : Room := { frames := 2, cells := 0, slots := 0, locals := 45 }
theorem msX5_put : bw_MV yX5_put cX5_put 5 (some .int) RX5 3 := ⟨mw_757, mw_758, mw_6, mw_759, by decide +kernel⟩
def fX5_put (x1 : Int32) (x2 : Int32) (x3 : Int32) (M : bw_M) : Option (Int32 × bw_M) :=
  bw_cl (fX5_isText x1) fun v1 =>
  if v1 = 0 then
  some ((-1 : Int32), M)
  else
  bw_rd M 4 4 x1 fun v2 =>
  if 0 ≤ v2 then
  bw_rd M 4 4 x1 fun v3 =>
  bw_cl (fX5_in (Int32.toInt64 x2) (0 : Int64) (Int32.toInt64 (v3 - (1 : Int32)))) fun v4 =>
  if v4 = 0 then
  bw_c2 (fX5_found (2 : Int32) M) fun v7 M8 =>
  some (v7, M8)
  else
  bw_rd M 3 240 (((60 : Int32) * x1) + x2) fun v5 =>
  bw_wr M 3 240 (((60 : Int32) * x1) + x2) (Int8.toInt32 (Int32.toInt8 x3)) fun M6 =>
  some ((v5 + (1000 : Int32)), M6)
  else
  bw_c2 (fX5_found (1 : Int32) M) fun v9 M10 =>
  some (v9, M10)
theorem tX5_put (l : Launch) (x1 : Int32) (x2 : Int32) (x3 : Int32)  (M : bw_M) (rr : Int32) (zz : bw_M) (h : fX5_put x1 x2 x3 M = some (rr, zz)) : bw_CI l bw_shM 19 yX5_put cX5_put 5 (some .int) rmX5_put (fun ρ => [.ref (ρ 0), .int x1, .int x2, .int x3]) M rr zz := by
  refine bw_inI (Lf := fun ρ => [(0, .ref (ρ 0)), (1, .int x1), (2, .int x2), (3, .int x3)]) cX5_put 5 (some .int) RX5 pn_X5 rfl (fun ρ => Nat.le_of_ble_eq_true rfl) (fun ρ => rfl) ?_
  intro p e s m args below meth c D kT ρ C
  unfold fX5_put at h
  refine bw_iload_n (pc := 0) C 1 dX5_put_0 rfl rfl ?_
  obtain ⟨v1, ev1, h⟩ := bw_cl_o h
  refine bw_cSi (pc := 1) (As := [.int x1]) (rest := []) C (tX5_isText l x1 M v1 ev1) msX5_isText mw_752 rfl rfl ⟨Nat.le_of_ble_eq_true rfl, Nat.le_of_ble_eq_true rfl⟩ rfl rfl rfl (Nat.le_of_ble_eq_true rfl) dX5_put_1 ?_
  refine bw_if_ne (pc := 4) C 9 dX5_put_4 (by decide) h (fun h => ?_) (fun h => ?_)
  · refine bw_aload_n (pc := 9) C 0 dX5_put_9 rfl rfl ?_
    refine bw_getR (pc := 10) (q := 0) (k0 := 3) C ltM_0 shM_0 rfl inX5 mw_618 (by decide) rfl dX5_put_10 ?_
    refine bw_iload_n (pc := 13) C 1 dX5_put_13 rfl rfl ?_
    obtain ⟨qv2, v2, ev2, h⟩ := bw_rd_o h
    refine bw_iald (pc := 14) (q := 4) C ltM_4 shM_4 qv2 ev2 dX5_put_14 ?_
    refine bw_if_ge (pc := 15) C 24 dX5_put_15 (by decide) h (fun h => ?_) (fun h => ?_)
    · refine bw_iload_n (pc := 24) C 2 dX5_put_24 rfl rfl ?_
      refine bw_i2l (pc := 25) C dX5_put_25 ?_
      refine bw_lconst (pc := 26) (v := (0 : Int64)) C dX5_put_26 rfl ?_
      refine bw_aload_n (pc := 27) C 0 dX5_put_27 rfl rfl ?_
      refine bw_getR (pc := 28) (q := 0) (k0 := 3) C ltM_0 shM_0 rfl inX5 mw_618 (by decide) rfl dX5_put_28 ?_
      refine bw_iload_n (pc := 31) C 1 dX5_put_31 rfl rfl ?_
      obtain ⟨qv3, v3, ev3, h⟩ := bw_rd_o h
      refine bw_iald (pc := 32) (q := 4) C ltM_4 shM_4 qv3 ev3 dX5_put_32 ?_
      refine bw_iconst (pc := 33) (v := (1 : Int32)) C dX5_put_33 ic_1 ?_
      refine bw_isub (pc := 34) C dX5_put_34 ?_
      refine bw_i2l (pc := 35) C dX5_put_35 ?_
      obtain ⟨v4, ev4, h⟩ := bw_cl_o h
      refine bw_cSi (pc := 36) (As := [.long (Int32.toInt64 x2), .long (0 : Int64), .long (Int32.toInt64 (v3 - (1 : Int32)))]) (rest := []) C (tX5_in l (Int32.toInt64 x2) (0 : Int64) (Int32.toInt64 (v3 - (1 : Int32))) M v4 ev4) msX5_in mw_717 rfl rfl ⟨Nat.le_of_ble_eq_true rfl, Nat.le_of_ble_eq_true rfl⟩ rfl rfl rfl (Nat.le_of_ble_eq_true rfl) dX5_put_36 ?_
      refine bw_if_ne (pc := 39) C 48 dX5_put_39 (by decide) h (fun h => ?_) (fun h => ?_)
      · refine bw_aload_n (pc := 48) C 0 dX5_put_48 rfl rfl ?_
        refine bw_getR (pc := 49) (q := 0) (k0 := 2) C ltM_0 shM_0 rfl inX5 mw_617 (by decide) rfl dX5_put_49 ?_
        refine bw_bipush (pc := 52) (v := (60 : Int32)) C dX5_put_52 bi_60 ?_
        refine bw_iload_n (pc := 54) C 1 dX5_put_54 rfl rfl ?_
        refine bw_imul (pc := 55) C dX5_put_55 ?_
        refine bw_iload_n (pc := 56) C 2 dX5_put_56 rfl rfl ?_
        refine bw_iadd (pc := 57) C dX5_put_57 ?_
        obtain ⟨qv5, v5, ev5, h⟩ := bw_rd_o h
        refine bw_iald (pc := 58) (q := 3) C ltM_3 shM_3 qv5 ev5 dX5_put_58 ?_
        refine bw_istore (pc := 59) (L' := [(4, .int v5), (0, .ref (ρ 0)), (1, .int x1), (2, .int x2), (3, .int x3)]) C dX5_put_59 (by decide) rfl ?_
        refine bw_aload_n (pc := 61) C 1 dX5_put_61 rfl rfl ?_
        refine bw_getR (pc := 62) (q := 0) (k0 := 2) C ltM_0 shM_0 rfl inX5 mw_617 (by decide) rfl dX5_put_62 ?_
        refine bw_bipush (pc := 65) (v := (60 : Int32)) C dX5_put_65 bi_60 ?_
        refine bw_iload_n (pc := 67) C 2 dX5_put_67 rfl rfl ?_
        refine bw_imul (pc := 68) C dX5_put_68 ?_
        refine bw_iload_n (pc := 69) C 3 dX5_put_69 rfl rfl ?_
        refine bw_iadd (pc := 70) C dX5_put_70 ?_
        refine bw_iload_n (pc := 71) C 4 dX5_put_71 rfl rfl ?_
        refine bw_i2b (pc := 72) C dX5_put_72 ?_
        obtain ⟨qM6, M6, eM6, h⟩ := bw_wr_o h
        refine bw_iast (pc := 73) (q := 3) C ltM_3 shM_3 qM6 eM6 dX5_put_73 ?_
        refine bw_iload (pc := 74) C 0 dX5_put_74 rfl ?_
        refine bw_sipush (pc := 76) (v := (1000 : Int32)) C dX5_put_76 si_1000 ?_
        refine bw_iadd (pc := 79) C dX5_put_79 ?_
        exact bw_ireti (pc := 80) C dX5_put_80 h
      · refine bw_aload_n (pc := 42) C 0 dX5_put_42 rfl rfl ?_
        refine bw_iconst (pc := 43) (v := (2 : Int32)) C dX5_put_43 ic_2 ?_
        obtain ⟨v7, M8, ev7, h⟩ := bw_c2_o h
        refine bw_cVi (pc := 44) (q := 0) (As := [.int (2 : Int32)]) (rest := []) C (tX5_found l (2 : Int32) M v7 M8 ev7) msX5_found mw_720 rfl rfl ⟨Nat.le_of_ble_eq_true rfl, Nat.le_of_ble_eq_true rfl⟩ ltM_0 shM_0 rfl rfl rfl rfl (Nat.le_of_ble_eq_true rfl) dX5_put_44 ?_
        exact bw_ireti (pc := 47) C dX5_put_47 h
    · refine bw_aload_n (pc := 18) C 0 dX5_put_18 rfl rfl ?_
      refine bw_iconst (pc := 19) (v := (1 : Int32)) C dX5_put_19 ic_1 ?_
      obtain ⟨v9, M10, ev9, h⟩ := bw_c2_o h
      refine bw_cVi (pc := 20) (q := 0) (As := [.int (1 : Int32)]) (rest := []) C (tX5_found l (1 : Int32) M v9 M10 ev9) msX5_found mw_720 rfl rfl ⟨Nat.le_of_ble_eq_true rfl, Nat.le_of_ble_eq_true rfl⟩ ltM_0 shM_0 rfl rfl rfl rfl (Nat.le_of_ble_eq_true rfl) dX5_put_20 ?_
      exact bw_ireti (pc := 23) C dX5_put_23 h
  · refine bw_iconst (pc := 7) (v := (-1 : Int32)) C dX5_put_7 ic_m1 ?_
    exact bw_ireti (pc := 8) C dX5_put_8 h
/-! X5_row -/
abbrev rmX5_row : Room := { frames := 2, cells := 0, slots := 0, locals := 45 }
theorem msX5_row : bw_MV yX5_row cX5_row 4 (some .int) RX5 2 := ⟨mw_710, mw_711, mw_6, mw_712, by decide +kernel⟩
def fX5_row_13 (N : Nat) (x1 : Int32) (x2 : Int32)   (M : bw_M) : Option (Int32 × bw_M) :=
  some ((-1 : Int32), M)
theorem tX5_row_13 {p : Program} {l : Launch} {e : Env} {s : State} {m : MethodId} {args : Array Value} {below : List Frame} {meth : Method} {c : Code} {D : va_G} {kT : Nat → ClassId} {ρ : Nat → Nat} (C : bw_Cx p s m args meth c cX5_row 4 RX5 19 D kT ρ (some .int)) (N : Nat) (x1 : Int32) (x2 : Int32)    (M : bw_M) (rr : Int32) (zz : bw_M)  (h : fX5_row_13 N x1 x2 M = some (rr, zz)) : bw_At p l e rmX5_row s m args below meth c (MQ below (bw_QI bw_shM 19 D kT ρ rr zz) args s 0 0 (bw_A ρ 19)) bw_shM 19 D kT ρ 4 13 [(0, .ref (ρ 0)), (1, .int x1), (2, .int x2)] [] M := by
  unfold fX5_row_13 at h
  refine bw_iconst (pc := 13) (v := (-1 : Int32)) C dX5_row_13 ic_m1 ?_
  exact bw_ireti (pc := 14) C dX5_row_14 h
def fX5_row_34 (N : Nat) (x1 : Int32) (x2 : Int32) (k34 : Int32 × bw_M → Option (Int32 × bw_M)) (x3 : Int32) (M : bw_M) : Option (Int32 × bw_M) :=
  if (40 : Int32) ≤ x3 then
  some (x2, M)
  else
  bw_wr M 1 240 (((40 : Int32) * x1) + x3) (0 : Int32) fun M4 =>
  bw_mv (x3 + 1) fun v5 =>
  k34 (v5, M4)
theorem tX5_row_34 {p : Program} {l : Launch} {e : Env} {s : State} {m : MethodId} {args : Array Value} {below : List Frame} {meth : Method} {c : Code} {D : va_G} {kT : Nat → ClassId} {ρ : Nat → Nat} (C : bw_Cx p s m args meth c cX5_row 4 RX5 19 D kT ρ (some .int)) (N : Nat) (x1 : Int32) (x2 : Int32)  (k34 : Int32 × bw_M → Option (Int32 × bw_M)) (x3 : Int32) (M : bw_M) (rr : Int32) (zz : bw_M) (hk34 : ∀ z0, k34 z0 = some (rr, zz) → bw_At p l e rmX5_row s m args below meth c (MQ below (bw_QI bw_shM 19 D kT ρ rr zz) args s 0 0 (bw_A ρ 19)) bw_shM 19 D kT ρ 4 34 [(0, .ref (ρ 0)), (1, .int x1), (2, .int x2), (3, .int z0.1)] [] z0.2) (h : fX5_row_34 N x1 x2 k34 x3 M = some (rr, zz)) : bw_At p l e rmX5_row s m args below meth c (MQ below (bw_QI bw_shM 19 D kT ρ rr zz) args s 0 0 (bw_A ρ 19)) bw_shM 19 D kT ρ 4 34 [(0, .ref (ρ 0)), (1, .int x1), (2, .int x2), (3, .int x3)] [] M := by
  unfold fX5_row_34 at h
  refine bw_iload_n (pc := 34) C 3 dX5_row_34 rfl rfl ?_
  refine bw_bipush (pc := 35) (v := (40 : Int32)) C dX5_row_35 bi_40 ?_
  refine bw_icmp_ge (pc := 37) C 58 dX5_row_37 (by decide) h (fun h => ?_) (fun h => ?_)
  · refine bw_iload_n (pc := 58) C 2 dX5_row_58 rfl rfl ?_
    exact bw_ireti (pc := 59) C dX5_row_59 h
  · refine bw_aload_n (pc := 40) C 0 dX5_row_40 rfl rfl ?_
    refine bw_getR (pc := 41) (q := 0) (k0 := 0) C ltM_0 shM_0 rfl inX5 mw_615 (by decide) rfl dX5_row_41 ?_
    refine bw_bipush (pc := 44) (v := (40 : Int32)) C dX5_row_44 bi_40 ?_
    refine bw_iload_n (pc := 46) C 1 dX5_row_46 rfl rfl ?_
    refine bw_imul (pc := 47) C dX5_row_47 ?_
    refine bw_iload_n (pc := 48) C 3 dX5_row_48 rfl rfl ?_
    refine bw_iadd (pc := 49) C dX5_row_49 ?_
    refine bw_iconst (pc := 50) (v := (0 : Int32)) C dX5_row_50 ic_0 ?_
    obtain ⟨qM4, M4, eM4, h⟩ := bw_wr_o h
    refine bw_iast (pc := 51) (q := 1) C ltM_1 shM_1 qM4 eM4 dX5_row_51 ?_
    obtain ⟨v5, ev5, h⟩ := bw_mv_o h
    refine bw_iinc (pc := 52) (x := v5) (L' := [(3, .int v5), (0, .ref (ρ 0)), (1, .int x1), (2, .int x2)]) C 3 dX5_row_52 rfl ev5.symm (by decide) rfl ?_
    refine bw_goto (pc := 55) C 34 dX5_row_55 (by decide) ?_
    refine bw_pick [1, 2, 3, 0] rfl ?_
    exact hk34 (v5, M4) h
def flX5_row_34 (N : Nat) (x1 : Int32) (x2 : Int32)    (fu : Nat) (w : Int32 × bw_M) : Option (Int32 × bw_M) := bw_lp (fun kk w => fX5_row_34 N x1 x2 kk w.1 w.2) fu w
theorem tlX5_row_34 {p : Program} {l : Launch} {e : Env} {s : State} {m : MethodId} {args : Array Value} {below : List Frame} {meth : Method} {c : Code} {D : va_G} {kT : Nat → ClassId} {ρ : Nat → Nat} (C : bw_Cx p s m args meth c cX5_row 4 RX5 19 D kT ρ (some .int)) (N : Nat) (x1 : Int32) (x2 : Int32)     (rr : Int32) (zz : bw_M)  (fu : Nat) (w : Int32 × bw_M) (h : flX5_row_34 N x1 x2 fu w = some (rr, zz)) : bw_At p l e rmX5_row s m args below meth c (MQ below (bw_QI bw_shM 19 D kT ρ rr zz) args s 0 0 (bw_A ρ 19)) bw_shM 19 D kT ρ 4 34 [(0, .ref (ρ 0)), (1, .int x1), (2, .int x2), (3, .int w.1)] [] w.2 :=
  bw_loop (r := (rr, zz)) (fun w => bw_At p l e rmX5_row s m args below meth c (MQ below (bw_QI bw_shM 19 D kT ρ rr zz) args s 0 0 (bw_A ρ 19)) bw_shM 19 D kT ρ 4 34 [(0, .ref (ρ 0)), (1, .int x1), (2, .int x2), (3, .int w.1)] [] w.2) (fun kk hk w h => tX5_row_34 C N x1 x2 kk w.1 w.2 rr zz hk h) fu w h
def fX5_row (N : Nat) (x1 : Int32) (x2 : Int32) (M : bw_M) : Option (Int32 × bw_M) :=
  bw_cl (fX5_isRow x1) fun v1 =>
  if v1 = 0 then
  fX5_row_13 N x1 x2 M
  else
  if x2 ≤ (40 : Int32) then
  if 0 ≤ x2 then
  bw_wr M 2 6 x1 x2 fun M2 =>
  bw_mv (0 : Int32) fun v3 =>
  flX5_row_34 N x1 x2 N (v3, M2)
  else
  bw_c2 (fX5_found (5 : Int32) M) fun v6 M7 =>
  some (v6, M7)
  else
  fX5_row_13 N x1 x2 M
theorem tX5_row (l : Launch) (N : Nat) (x1 : Int32) (x2 : Int32)  (M : bw_M) (rr : Int32) (zz : bw_M) (h : fX5_row N x1 x2 M = some (rr, zz)) : bw_CI l bw_shM 19 yX5_row cX5_row 4 (some .int) rmX5_row (fun ρ => [.ref (ρ 0), .int x1, .int x2]) M rr zz := by
  refine bw_inI (Lf := fun ρ => [(0, .ref (ρ 0)), (1, .int x1), (2, .int x2)]) cX5_row 4 (some .int) RX5 pn_X5 rfl (fun ρ => Nat.le_of_ble_eq_true rfl) (fun ρ => rfl) ?_
  intro p e s m args below meth c D kT ρ C
  unfold fX5_row at h
  refine bw_iload_n (pc := 0) C 1 dX5_row_0 rfl rfl ?_
  obtain ⟨v1, ev1, h⟩ := bw_cl_o h
  refine bw_cSi (pc := 1) (As := [.int x1]) (rest := []) C (tX5_isRow l x1 M v1 ev1) msX5_isRow mw_713 rfl rfl ⟨Nat.le_of_ble_eq_true rfl, Nat.le_of_ble_eq_true rfl⟩ rfl rfl rfl (Nat.le_of_ble_eq_true rfl) dX5_row_1 ?_
  refine bw_if_eq (pc := 4) C 13 dX5_row_4 (by decide) h (fun h => ?_) (fun h => ?_)
  · refine bw_pick [0, 1, 2] rfl ?_
    exact tX5_row_13 C N x1 x2 M rr zz h
  · refine bw_iload_n (pc := 7) C 2 dX5_row_7 rfl rfl ?_
    refine bw_bipush (pc := 8) (v := (40 : Int32)) C dX5_row_8 bi_40 ?_
    refine bw_icmp_le (pc := 10) C 15 dX5_row_10 (by decide) h (fun h => ?_) (fun h => ?_)
    · refine bw_iload_n (pc := 15) C 2 dX5_row_15 rfl rfl ?_
      refine bw_if_ge (pc := 16) C 25 dX5_row_16 (by decide) h (fun h => ?_) (fun h => ?_)
      · refine bw_aload_n (pc := 25) C 0 dX5_row_25 rfl rfl ?_
        refine bw_getR (pc := 26) (q := 0) (k0 := 1) C ltM_0 shM_0 rfl inX5 mw_616 (by decide) rfl dX5_row_26 ?_
        refine bw_iload_n (pc := 29) C 1 dX5_row_29 rfl rfl ?_
        refine bw_iload_n (pc := 30) C 2 dX5_row_30 rfl rfl ?_
        obtain ⟨qM2, M2, eM2, h⟩ := bw_wr_o h
        refine bw_iast (pc := 31) (q := 2) C ltM_2 shM_2 qM2 eM2 dX5_row_31 ?_
        refine bw_iconst (pc := 32) (v := (0 : Int32)) C dX5_row_32 ic_0 ?_
        obtain ⟨v3, ev3, h⟩ := bw_mv_o h
        refine bw_nmI ev3 ?_
        refine bw_istore_n (pc := 33) (L' := [(3, .int v3), (0, .ref (ρ 0)), (1, .int x1), (2, .int x2)]) C dX5_row_33 rfl (by decide) rfl ?_
        refine bw_pick [1, 2, 3, 0] rfl ?_
        exact tlX5_row_34 C N x1 x2 rr zz N (v3, M2) h
      · refine bw_aload_n (pc := 19) C 0 dX5_row_19 rfl rfl ?_
        refine bw_iconst (pc := 20) (v := (5 : Int32)) C dX5_row_20 ic_5 ?_
        obtain ⟨v6, M7, ev6, h⟩ := bw_c2_o h
        refine bw_cVi (pc := 21) (q := 0) (As := [.int (5 : Int32)]) (rest := []) C (tX5_found l (5 : Int32) M v6 M7 ev6) msX5_found mw_720 rfl rfl ⟨Nat.le_of_ble_eq_true rfl, Nat.le_of_ble_eq_true rfl⟩ ltM_0 shM_0 rfl rfl rfl rfl (Nat.le_of_ble_eq_true rfl) dX5_row_21 ?_
        exact bw_ireti (pc := 24) C dX5_row_24 h
    · refine bw_pick [0, 1, 2] rfl ?_
      exact tX5_row_13 C N x1 x2 M rr zz h
/-! X5_says -/
abbrev rmX5_says : Room := { frames := 4, cells := 0, slots := 0, locals := 90 }
theorem msX5_says : bw_MV yX5_says cX5_says 5 (some .int) RX5 2 := ⟨mw_906, mw_907, mw_6, mw_908, by decide +kernel⟩
def fX5_says_20 (N : Nat) (x1 : Int32) (x2 : Int32)   (M : bw_M) : Option (Int32 × bw_M) :=
  some ((-1 : Int32), M)
theorem tX5_says_20 {p : Program} {l : Launch} {e : Env} {s : State} {m : MethodId} {args : Array Value} {below : List Frame} {meth : Method} {c : Code} {D : va_G} {kT : Nat → ClassId} {ρ : Nat → Nat} (C : bw_Cx p s m args meth c cX5_says 5 RX5 19 D kT ρ (some .int)) (N : Nat) (x1 : Int32) (x2 : Int32)    (M : bw_M) (rr : Int32) (zz : bw_M)  (h : fX5_says_20 N x1 x2 M = some (rr, zz)) : bw_At p l e rmX5_says s m args below meth c (MQ below (bw_QI bw_shM 19 D kT ρ rr zz) args s 0 0 (bw_A ρ 19)) bw_shM 19 D kT ρ 5 20 [(0, .ref (ρ 0)), (1, .int x1), (2, .int x2)] [] M := by
  unfold fX5_says_20 at h
  refine bw_iconst (pc := 20) (v := (-1 : Int32)) C dX5_says_20 ic_m1 ?_
  exact bw_ireti (pc := 21) C dX5_says_21 h
def fX5_says_58 (N : Nat) (x1 : Int32) (x2 : Int32) (k31 : Int32 × Int32 × bw_M → Option (Int32 × bw_M)) (x4 : Int32) (s0 : Int32) (s1 : Int32) (M : bw_M) : Option (Int32 × bw_M) :=
  bw_mv (s0 + s1) fun v9 =>
  bw_mv (x4 + 1) fun v10 =>
  k31 (v9, v10, M)
theorem tX5_says_58 {p : Program} {l : Launch} {e : Env} {s : State} {m : MethodId} {args : Array Value} {below : List Frame} {meth : Method} {c : Code} {D : va_G} {kT : Nat → ClassId} {ρ : Nat → Nat} (C : bw_Cx p s m args meth c cX5_says 5 RX5 19 D kT ρ (some .int)) (N : Nat) (x1 : Int32) (x2 : Int32)  (k31 : Int32 × Int32 × bw_M → Option (Int32 × bw_M)) (x4 : Int32) (s0 : Int32) (s1 : Int32) (M : bw_M) (rr : Int32) (zz : bw_M) (hk31 : ∀ z0, k31 z0 = some (rr, zz) → bw_At p l e rmX5_says s m args below meth c (MQ below (bw_QI bw_shM 19 D kT ρ rr zz) args s 0 0 (bw_A ρ 19)) bw_shM 19 D kT ρ 5 31 [(0, .ref (ρ 0)), (1, .int x1), (2, .int x2), (3, .int z0.1), (4, .int z0.2.1)] [] z0.2.2) (h : fX5_says_58 N x1 x2 k31 x4 s0 s1 M = some (rr, zz)) : bw_At p l e rmX5_says s m args below meth c (MQ below (bw_QI bw_shM 19 D kT ρ rr zz) args s 0 0 (bw_A ρ 19)) bw_shM 19 D kT ρ 5 58 [(0, .ref (ρ 0)), (1, .int x1), (2, .int x2), (4, .int x4)] [.int s1, .int s0] M := by
  unfold fX5_says_58 at h
  refine bw_iadd (pc := 58) C dX5_says_58 ?_
  obtain ⟨v9, ev9, h⟩ := bw_mv_o h
  refine bw_nmI ev9 ?_
  refine bw_istore_n (pc := 59) (L' := [(3, .int v9), (0, .ref (ρ 0)), (1, .int x1), (2, .int x2), (4, .int x4)]) C dX5_says_59 rfl (by decide) rfl ?_
  obtain ⟨v10, ev10, h⟩ := bw_mv_o h
  refine bw_iinc (pc := 60) (x := v10) (L' := [(4, .int v10), (3, .int v9), (0, .ref (ρ 0)), (1, .int x1), (2, .int x2)]) C 4 dX5_says_60 rfl ev10.symm (by decide) rfl ?_
  refine bw_goto (pc := 63) C 31 dX5_says_63 (by decide) ?_
  refine bw_pick [2, 3, 4, 1, 0] rfl ?_
  exact hk31 (v9, v10, M) h
def fX5_says_31 (N : Nat) (x1 : Int32) (x2 : Int32) (k31 : Int32 × Int32 × bw_M → Option (Int32 × bw_M)) (x3 : Int32) (x4 : Int32) (M : bw_M) : Option (Int32 × bw_M) :=
  if x2 ≤ x4 then
  some (x3, M)
  else
  bw_c2 (fX5_goes N 10 17 M) fun v6 M7 =>
  bw_cl (fX5_has v6 x1) fun v8 =>
  if v8 = 0 then
  fX5_says_58 N x1 x2 k31 x4 x3 (0 : Int32) M7
  else
  fX5_says_58 N x1 x2 k31 x4 x3 (1 : Int32) M7
theorem tX5_says_31 {p : Program} {l : Launch} {e : Env} {s : State} {m : MethodId} {args : Array Value} {below : List Frame} {meth : Method} {c : Code} {D : va_G} {kT : Nat → ClassId} {ρ : Nat → Nat} (C : bw_Cx p s m args meth c cX5_says 5 RX5 19 D kT ρ (some .int)) (N : Nat) (x1 : Int32) (x2 : Int32)  (k31 : Int32 × Int32 × bw_M → Option (Int32 × bw_M)) (x3 : Int32) (x4 : Int32) (M : bw_M) (rr : Int32) (zz : bw_M) (hk31 : ∀ z0, k31 z0 = some (rr, zz) → bw_At p l e rmX5_says s m args below meth c (MQ below (bw_QI bw_shM 19 D kT ρ rr zz) args s 0 0 (bw_A ρ 19)) bw_shM 19 D kT ρ 5 31 [(0, .ref (ρ 0)), (1, .int x1), (2, .int x2), (3, .int z0.1), (4, .int z0.2.1)] [] z0.2.2) (h : fX5_says_31 N x1 x2 k31 x3 x4 M = some (rr, zz)) : bw_At p l e rmX5_says s m args below meth c (MQ below (bw_QI bw_shM 19 D kT ρ rr zz) args s 0 0 (bw_A ρ 19)) bw_shM 19 D kT ρ 5 31 [(0, .ref (ρ 0)), (1, .int x1), (2, .int x2), (3, .int x3), (4, .int x4)] [] M := by
  unfold fX5_says_31 at h
  refine bw_iload (pc := 31) C 4 dX5_says_31 rfl ?_
  refine bw_iload_n (pc := 33) C 2 dX5_says_33 rfl rfl ?_
  refine bw_icmp_ge (pc := 34) C 66 dX5_says_34 (by decide) h (fun h => ?_) (fun h => ?_)
  · refine bw_iload_n (pc := 66) C 3 dX5_says_66 rfl rfl ?_
    exact bw_ireti (pc := 67) C dX5_says_67 h
  · refine bw_iload_n (pc := 37) C 3 dX5_says_37 rfl rfl ?_
    refine bw_aload_n (pc := 38) C 0 dX5_says_38 rfl rfl ?_
    refine bw_aload_n (pc := 39) C 0 dX5_says_39 rfl rfl ?_
    refine bw_getR (pc := 40) (q := 0) (k0 := 14) C ltM_0 shM_0 rfl inX5 mw_629 (by decide) rfl dX5_says_40 ?_
    obtain ⟨v6, M7, ev6, h⟩ := bw_c2_o h
    refine bw_cVi (pc := 43) (q := 0) (As := [.ref (ρ 10)]) (rest := [.int x3]) C (tX5_goes l N 10 17 ltM_10 shM_10 M v6 M7 ev6) msX5_goes mw_840 rfl rfl ⟨Nat.le_of_ble_eq_true rfl, Nat.le_of_ble_eq_true rfl⟩ ltM_0 shM_0 rfl rfl rfl rfl (Nat.le_of_ble_eq_true rfl) dX5_says_43 ?_
    refine bw_iload_n (pc := 46) C 1 dX5_says_46 rfl rfl ?_
    obtain ⟨v8, ev8, h⟩ := bw_cl_o h
    refine bw_cSi (pc := 47) (As := [.int v6, .int x1]) (rest := [.int x3]) C (tX5_has l v6 x1 M7 v8 ev8) msX5_has mw_815 rfl rfl ⟨Nat.le_of_ble_eq_true rfl, Nat.le_of_ble_eq_true rfl⟩ rfl rfl rfl (Nat.le_of_ble_eq_true rfl) dX5_says_47 ?_
    refine bw_if_eq (pc := 50) C 57 dX5_says_50 (by decide) h (fun h => ?_) (fun h => ?_)
    · refine bw_iconst (pc := 57) (v := (0 : Int32)) C dX5_says_57 ic_0 ?_
      refine bw_pick [0, 1, 2, 4] rfl ?_
      exact tX5_says_58 C N x1 x2 k31 x4 x3 (0 : Int32) M7 rr zz hk31 h
    · refine bw_iconst (pc := 53) (v := (1 : Int32)) C dX5_says_53 ic_1 ?_
      refine bw_goto (pc := 54) C 58 dX5_says_54 (by decide) ?_
      refine bw_pick [0, 1, 2, 4] rfl ?_
      exact tX5_says_58 C N x1 x2 k31 x4 x3 (1 : Int32) M7 rr zz hk31 h
def flX5_says_31 (N : Nat) (x1 : Int32) (x2 : Int32)    (fu : Nat) (w : Int32 × Int32 × bw_M) : Option (Int32 × bw_M) := bw_lp (fun kk w => fX5_says_31 N x1 x2 kk w.1 w.2.1 w.2.2) fu w
theorem tlX5_says_31 {p : Program} {l : Launch} {e : Env} {s : State} {m : MethodId} {args : Array Value} {below : List Frame} {meth : Method} {c : Code} {D : va_G} {kT : Nat → ClassId} {ρ : Nat → Nat} (C : bw_Cx p s m args meth c cX5_says 5 RX5 19 D kT ρ (some .int)) (N : Nat) (x1 : Int32) (x2 : Int32)     (rr : Int32) (zz : bw_M)  (fu : Nat) (w : Int32 × Int32 × bw_M) (h : flX5_says_31 N x1 x2 fu w = some (rr, zz)) : bw_At p l e rmX5_says s m args below meth c (MQ below (bw_QI bw_shM 19 D kT ρ rr zz) args s 0 0 (bw_A ρ 19)) bw_shM 19 D kT ρ 5 31 [(0, .ref (ρ 0)), (1, .int x1), (2, .int x2), (3, .int w.1), (4, .int w.2.1)] [] w.2.2 :=
  bw_loop (r := (rr, zz)) (fun w => bw_At p l e rmX5_says s m args below meth c (MQ below (bw_QI bw_shM 19 D kT ρ rr zz) args s 0 0 (bw_A ρ 19)) bw_shM 19 D kT ρ 5 31 [(0, .ref (ρ 0)), (1, .int x1), (2, .int x2), (3, .int w.1), (4, .int w.2.1)] [] w.2.2) (fun kk hk w h => tX5_says_31 C N x1 x2 kk w.1 w.2.1 w.2.2 rr zz hk h) fu w h
def fX5_says (N : Nat) (x1 : Int32) (x2 : Int32) (M : bw_M) : Option (Int32 × bw_M) :=
  bw_cl (fX5_isPipe x1 M) fun v1 =>
  if v1 = 0 then
  fX5_says_20 N x1 x2 M
  else
  bw_cl (fX5_in (Int32.toInt64 x2) (0 : Int64) (40 : Int64)) fun v2 =>
  if v2 = 0 then
  fX5_says_20 N x1 x2 M
  else
  bw_cl (fX5_layAside N M) fun M3 =>
  bw_mv (0 : Int32) fun v4 =>
  bw_mv (0 : Int32) fun v5 =>
  flX5_says_31 N x1 x2 N (v4, v5, M3)
theorem tX5_says (l : Launch) (N : Nat) (x1 : Int32) (x2 : Int32)  (M : bw_M) (rr : Int32) (zz : bw_M) (h : fX5_says N x1 x2 M = some (rr, zz)) : bw_CI l bw_shM 19 yX5_says cX5_says 5 (some .int) rmX5_says (fun ρ => [.ref (ρ 0), .int x1, .int x2]) M rr zz := by
  refine bw_inI (Lf := fun ρ => [(0, .ref (ρ 0)), (1, .int x1), (2, .int x2)]) cX5_says 5 (some .int) RX5 pn_X5 rfl (fun ρ => Nat.le_of_ble_eq_true rfl) (fun ρ => rfl) ?_
  intro p e s m args below meth c D kT ρ C
  unfold fX5_says at h
  refine bw_aload_n (pc := 0) C 0 dX5_says_0 rfl rfl ?_
  refine bw_iload_n (pc := 1) C 1 dX5_says_1 rfl rfl ?_
  obtain ⟨v1, ev1, h⟩ := bw_cl_o h
  refine bw_cVi (pc := 2) (q := 0) (As := [.int x1]) (rest := []) C (tX5_isPipe l x1 M v1 ev1) msX5_isPipe mw_799 rfl rfl ⟨Nat.le_of_ble_eq_true rfl, Nat.le_of_ble_eq_true rfl⟩ ltM_0 shM_0 rfl rfl rfl rfl (Nat.le_of_ble_eq_true rfl) dX5_says_2 ?_
  refine bw_if_eq (pc := 5) C 20 dX5_says_5 (by decide) h (fun h => ?_) (fun h => ?_)
  · refine bw_pick [0, 1, 2] rfl ?_
    exact tX5_says_20 C N x1 x2 M rr zz h
  · refine bw_iload_n (pc := 8) C 2 dX5_says_8 rfl rfl ?_
    refine bw_i2l (pc := 9) C dX5_says_9 ?_
    refine bw_lconst (pc := 10) (v := (0 : Int64)) C dX5_says_10 rfl ?_
    refine bw_ldc2_w (pc := 11) C mw_896 dX5_says_11 ?_
    obtain ⟨v2, ev2, h⟩ := bw_cl_o h
    refine bw_cSi (pc := 14) (As := [.long (Int32.toInt64 x2), .long (0 : Int64), .long (40 : Int64)]) (rest := []) C (tX5_in l (Int32.toInt64 x2) (0 : Int64) (40 : Int64) M v2 ev2) msX5_in mw_717 rfl rfl ⟨Nat.le_of_ble_eq_true rfl, Nat.le_of_ble_eq_true rfl⟩ rfl rfl rfl (Nat.le_of_ble_eq_true rfl) dX5_says_14 ?_
    refine bw_if_ne (pc := 17) C 22 dX5_says_17 (by decide) h (fun h => ?_) (fun h => ?_)
    · refine bw_aload_n (pc := 22) C 0 dX5_says_22 rfl rfl ?_
      obtain ⟨M3, eM3, h⟩ := bw_cl_o h
      refine bw_cVv (pc := 23) (q := 0) (As := []) (rest := []) C (tX5_layAside l N M M3 eM3) msX5_layAside mw_897 rfl rfl ⟨Nat.le_of_ble_eq_true rfl, Nat.le_of_ble_eq_true rfl⟩ ltM_0 shM_0 rfl rfl rfl rfl (Nat.le_of_ble_eq_true rfl) dX5_says_23 ?_
      refine bw_iconst (pc := 26) (v := (0 : Int32)) C dX5_says_26 ic_0 ?_
      obtain ⟨v4, ev4, h⟩ := bw_mv_o h
      refine bw_nmI ev4 ?_
      refine bw_istore_n (pc := 27) (L' := [(3, .int v4), (0, .ref (ρ 0)), (1, .int x1), (2, .int x2)]) C dX5_says_27 rfl (by decide) rfl ?_
      refine bw_iconst (pc := 28) (v := (0 : Int32)) C dX5_says_28 ic_0 ?_
      obtain ⟨v5, ev5, h⟩ := bw_mv_o h
      refine bw_nmI ev5 ?_
      refine bw_istore (pc := 29) (L' := [(4, .int v5), (3, .int v4), (0, .ref (ρ 0)), (1, .int x1), (2, .int x2)]) C dX5_says_29 (by decide) rfl ?_
      refine bw_pick [2, 3, 4, 1, 0] rfl ?_
      exact tlX5_says_31 C N x1 x2 rr zz N (v4, v5, M3) h
    · refine bw_pick [0, 1, 2] rfl ?_
      exact tX5_says_20 C N x1 x2 M rr zz h
/-! X5_wantsOf -/
abbrev rmX5_wantsOf : Room := { frames := 2, cells := 0, slots := 0, locals := 44 }
theorem msX5_wantsOf : bw_MV yX5_wantsOf cX5_wantsOf 4 (some .int) RX5 1 := ⟨mw_977, mw_1117, mw_6, mw_978, by decide +kernel⟩
def fX5_wantsOf_34 (N : Nat) (x1 : Int32) (k4 : Int32 × Int32 → Option (Int32)) (x3 : Int32) (s0 : Int32) (s1 : Int32) (M : bw_M) : Option (Int32) :=
  bw_mv (s0 + s1) fun v4 =>
  bw_mv (x3 + 1) fun v5 =>
  k4 (v4, v5)
theorem tX5_wantsOf_34 {p : Program} {l : Launch} {e : Env} {s : State} {m : MethodId} {args : Array Value} {below : List Frame} {meth : Method} {c : Code} {D : va_G} {kT : Nat → ClassId} {ρ : Nat → Nat} (C : bw_Cx p s m args meth c cX5_wantsOf 4 RX5 19 D kT ρ (some .int)) (N : Nat) (x1 : Int32)  (k4 : Int32 × Int32 → Option (Int32)) (x3 : Int32) (s0 : Int32) (s1 : Int32) (M : bw_M) (rr : Int32) (hk4 : ∀ z0, k4 z0 = some rr → bw_At p l e rmX5_wantsOf s m args below meth c (MQ below (bw_QI bw_shM 19 D kT ρ rr M) args s 0 0 (bw_A ρ 19)) bw_shM 19 D kT ρ 4 4 [(0, .ref (ρ 0)), (1, .int x1), (2, .int z0.1), (3, .int z0.2)] [] M) (h : fX5_wantsOf_34 N x1 k4 x3 s0 s1 M = some rr) : bw_At p l e rmX5_wantsOf s m args below meth c (MQ below (bw_QI bw_shM 19 D kT ρ rr M) args s 0 0 (bw_A ρ 19)) bw_shM 19 D kT ρ 4 34 [(0, .ref (ρ 0)), (1, .int x1), (3, .int x3)] [.int s1, .int s0] M := by
  unfold fX5_wantsOf_34 at h
  refine bw_iadd (pc := 34) C dX5_wantsOf_34 ?_
  obtain ⟨v4, ev4, h⟩ := bw_mv_o h
  refine bw_nmI ev4 ?_
  refine bw_istore_n (pc := 35) (L' := [(2, .int v4), (0, .ref (ρ 0)), (1, .int x1), (3, .int x3)]) C dX5_wantsOf_35 rfl (by decide) rfl ?_
  obtain ⟨v5, ev5, h⟩ := bw_mv_o h
  refine bw_iinc (pc := 36) (x := v5) (L' := [(3, .int v5), (2, .int v4), (0, .ref (ρ 0)), (1, .int x1)]) C 3 dX5_wantsOf_36 rfl ev5.symm (by decide) rfl ?_
  refine bw_goto (pc := 39) C 4 dX5_wantsOf_39 (by decide) ?_
  refine bw_pick [2, 3, 1, 0] rfl ?_
  exact hk4 (v4, v5) h
def fX5_wantsOf_4 (N : Nat) (x1 : Int32) (k4 : Int32 × Int32 → Option (Int32)) (x2 : Int32) (x3 : Int32) (M : bw_M) : Option (Int32) :=
  if (M.1 0 9) ≤ x3 then
  some x2
  else
  bw_cl (fX5_has x1 x3) fun v3 =>
  if v3 = 0 then
  fX5_wantsOf_34 N x1 k4 x3 x2 (0 : Int32) M
  else
  bw_cl (fX5_wantsOn 9 17 x3 M) fun v6 =>
  fX5_wantsOf_34 N x1 k4 x3 x2 v6 M
theorem tX5_wantsOf_4 {p : Program} {l : Launch} {e : Env} {s : State} {m : MethodId} {args : Array Value} {below : List Frame} {meth : Method} {c : Code} {D : va_G} {kT : Nat → ClassId} {ρ : Nat → Nat} (C : bw_Cx p s m args meth c cX5_wantsOf 4 RX5 19 D kT ρ (some .int)) (N : Nat) (x1 : Int32)  (k4 : Int32 × Int32 → Option (Int32)) (x2 : Int32) (x3 : Int32) (M : bw_M) (rr : Int32) (hk4 : ∀ z0, k4 z0 = some rr → bw_At p l e rmX5_wantsOf s m args below meth c (MQ below (bw_QI bw_shM 19 D kT ρ rr M) args s 0 0 (bw_A ρ 19)) bw_shM 19 D kT ρ 4 4 [(0, .ref (ρ 0)), (1, .int x1), (2, .int z0.1), (3, .int z0.2)] [] M) (h : fX5_wantsOf_4 N x1 k4 x2 x3 M = some rr) : bw_At p l e rmX5_wantsOf s m args below meth c (MQ below (bw_QI bw_shM 19 D kT ρ rr M) args s 0 0 (bw_A ρ 19)) bw_shM 19 D kT ρ 4 4 [(0, .ref (ρ 0)), (1, .int x1), (2, .int x2), (3, .int x3)] [] M := by
  unfold fX5_wantsOf_4 at h
  refine bw_iload_n (pc := 4) C 3 dX5_wantsOf_4 rfl rfl ?_
  refine bw_aload_n (pc := 5) C 0 dX5_wantsOf_5 rfl rfl ?_
  refine bw_getI (pc := 6) (q := 0) (k0 := 9) C ltM_0 shM_0 rfl inX5 mw_624 (by decide) rfl dX5_wantsOf_6 ?_
  refine bw_icmp_ge (pc := 9) C 42 dX5_wantsOf_9 (by decide) h (fun h => ?_) (fun h => ?_)
  · refine bw_iload_n (pc := 42) C 2 dX5_wantsOf_42 rfl rfl ?_
    exact bw_ireti (pc := 43) C dX5_wantsOf_43 (bw_pr M h)
  · refine bw_iload_n (pc := 12) C 2 dX5_wantsOf_12 rfl rfl ?_
    refine bw_iload_n (pc := 13) C 1 dX5_wantsOf_13 rfl rfl ?_
    refine bw_iload_n (pc := 14) C 3 dX5_wantsOf_14 rfl rfl ?_
    obtain ⟨v3, ev3, h⟩ := bw_cl_o h
    refine bw_cSi (pc := 15) (As := [.int x1, .int x3]) (rest := [.int x2]) C (tX5_has l x1 x3 M v3 ev3) msX5_has mw_815 rfl rfl ⟨Nat.le_of_ble_eq_true rfl, Nat.le_of_ble_eq_true rfl⟩ rfl rfl rfl (Nat.le_of_ble_eq_true rfl) dX5_wantsOf_15 ?_
    refine bw_if_eq (pc := 18) C 33 dX5_wantsOf_18 (by decide) h (fun h => ?_) (fun h => ?_)
    · refine bw_iconst (pc := 33) (v := (0 : Int32)) C dX5_wantsOf_33 ic_0 ?_
      refine bw_pick [0, 1, 3] rfl ?_
      exact tX5_wantsOf_34 C N x1 k4 x3 x2 (0 : Int32) M rr hk4 h
    · refine bw_aload_n (pc := 21) C 0 dX5_wantsOf_21 rfl rfl ?_
      refine bw_aload_n (pc := 22) C 0 dX5_wantsOf_22 rfl rfl ?_
      refine bw_getR (pc := 23) (q := 0) (k0 := 13) C ltM_0 shM_0 rfl inX5 mw_628 (by decide) rfl dX5_wantsOf_23 ?_
      refine bw_iload_n (pc := 26) C 3 dX5_wantsOf_26 rfl rfl ?_
      obtain ⟨v6, ev6, h⟩ := bw_cl_o h
      refine bw_cVi (pc := 27) (q := 0) (As := [.ref (ρ 9), .int x3]) (rest := [.int x2]) C (tX5_wantsOn l 9 17 x3 ltM_9 shM_9 M v6 ev6) msX5_wantsOn mw_804 rfl rfl ⟨Nat.le_of_ble_eq_true rfl, Nat.le_of_ble_eq_true rfl⟩ ltM_0 shM_0 rfl rfl rfl rfl (Nat.le_of_ble_eq_true rfl) dX5_wantsOf_27 ?_
      refine bw_goto (pc := 30) C 34 dX5_wantsOf_30 (by decide) ?_
      refine bw_pick [0, 1, 3] rfl ?_
      exact tX5_wantsOf_34 C N x1 k4 x3 x2 v6 M rr hk4 h
def flX5_wantsOf_4 (N : Nat) (x1 : Int32)   (M : bw_M) (fu : Nat) (w : Int32 × Int32) : Option (Int32) := bw_lp (fun kk w => fX5_wantsOf_4 N x1 kk w.1 w.2 M) fu w
theorem tlX5_wantsOf_4 {p : Program} {l : Launch} {e : Env} {s : State} {m : MethodId} {args : Array Value} {below : List Frame} {meth : Method} {c : Code} {D : va_G} {kT : Nat → ClassId} {ρ : Nat → Nat} (C : bw_Cx p s m args meth c cX5_wantsOf 4 RX5 19 D kT ρ (some .int)) (N : Nat) (x1 : Int32)    (M : bw_M) (rr : Int32)  (fu : Nat) (w : Int32 × Int32) (h : flX5_wantsOf_4 N x1 M fu w = some rr) : bw_At p l e rmX5_wantsOf s m args below meth c (MQ below (bw_QI bw_shM 19 D kT ρ rr M) args s 0 0 (bw_A ρ 19)) bw_shM 19 D kT ρ 4 4 [(0, .ref (ρ 0)), (1, .int x1), (2, .int w.1), (3, .int w.2)] [] M :=
  bw_loop (r := rr) (fun w => bw_At p l e rmX5_wantsOf s m args below meth c (MQ below (bw_QI bw_shM 19 D kT ρ rr M) args s 0 0 (bw_A ρ 19)) bw_shM 19 D kT ρ 4 4 [(0, .ref (ρ 0)), (1, .int x1), (2, .int w.1), (3, .int w.2)] [] M) (fun kk hk w h => tX5_wantsOf_4 C N x1 kk w.1 w.2 M rr hk h) fu w h
def fX5_wantsOf (N : Nat) (x1 : Int32) (M : bw_M) : Option (Int32) :=
  bw_mv (0 : Int32) fun v1 =>
  bw_mv (0 : Int32) fun v2 =>
  flX5_wantsOf_4 N x1 M N (v1, v2)
theorem tX5_wantsOf (l : Launch) (N : Nat) (x1 : Int32)  (M : bw_M) (rr : Int32) (h : fX5_wantsOf N x1 M = some rr) : bw_CI l bw_shM 19 yX5_wantsOf cX5_wantsOf 4 (some .int) rmX5_wantsOf (fun ρ => [.ref (ρ 0), .int x1]) M rr M := by
  refine bw_inI (Lf := fun ρ => [(0, .ref (ρ 0)), (1, .int x1)]) cX5_wantsOf 4 (some .int) RX5 pn_X5 rfl (fun ρ => Nat.le_of_ble_eq_true rfl) (fun ρ => rfl) ?_
  intro p e s m args below meth c D kT ρ C
  unfold fX5_wantsOf at h
  refine bw_iconst (pc := 0) (v := (0 : Int32)) C dX5_wantsOf_0 ic_0 ?_
  obtain ⟨v1, ev1, h⟩ := bw_mv_o h
  refine bw_nmI ev1 ?_
  refine bw_istore_n (pc := 1) (L' := [(2, .int v1), (0, .ref (ρ 0)), (1, .int x1)]) C dX5_wantsOf_1 rfl (by decide) rfl ?_
  refine bw_iconst (pc := 2) (v := (0 : Int32)) C dX5_wantsOf_2 ic_0 ?_
  obtain ⟨v2, ev2, h⟩ := bw_mv_o h
  refine bw_nmI ev2 ?_
  refine bw_istore_n (pc := 3) (L' := [(3, .int v2), (2, .int v1), (0, .ref (ρ 0)), (1, .int x1)]) C dX5_wantsOf_3 rfl (by decide) rfl ?_
  refine bw_pick [2, 3, 1, 0] rfl ?_
  exact tlX5_wantsOf_4 C N x1 M rr N (v1, v2) h
/-! X5_sets -/
abbrev rmX5_sets : Room := { frames := 3, cells := 0, slots := 0, locals := 67 }
theorem msX5_sets : bw_MV yX5_sets cX5_sets 5 (some .int) RX5 1 := ⟨mw_972, mw_973, mw_6, mw_974, by decide +kernel⟩
def fX5_sets_69 (N : Nat) (x1 : Int32) (k32 : Int32 × Int32 × Int32 → Option (Int32 × bw_M)) (x2 : Int32) (x3 : Int32) (x4 : Int32) (M : bw_M) : Option (Int32 × bw_M) :=
  bw_mv (x4 + 1) fun v8 =>
  k32 (x2, x3, v8)
theorem tX5_sets_69 {p : Program} {l : Launch} {e : Env} {s : State} {m : MethodId} {args : Array Value} {below : List Frame} {meth : Method} {c : Code} {D : va_G} {kT : Nat → ClassId} {ρ : Nat → Nat} (C : bw_Cx p s m args meth c cX5_sets 5 RX5 19 D kT ρ (some .int)) (N : Nat) (x1 : Int32)  (k32 : Int32 × Int32 × Int32 → Option (Int32 × bw_M)) (x2 : Int32) (x3 : Int32) (x4 : Int32) (M : bw_M) (rr : Int32) (zz : bw_M) (hk32 : ∀ z0, k32 z0 = some (rr, zz) → bw_At p l e rmX5_sets s m args below meth c (MQ below (bw_QI bw_shM 19 D kT ρ rr zz) args s 0 0 (bw_A ρ 19)) bw_shM 19 D kT ρ 5 32 [(0, .ref (ρ 0)), (1, .int x1), (2, .int z0.1), (3, .int z0.2.1), (4, .int z0.2.2)] [] M) (h : fX5_sets_69 N x1 k32 x2 x3 x4 M = some (rr, zz)) : bw_At p l e rmX5_sets s m args below meth c (MQ below (bw_QI bw_shM 19 D kT ρ rr zz) args s 0 0 (bw_A ρ 19)) bw_shM 19 D kT ρ 5 69 [(0, .ref (ρ 0)), (1, .int x1), (2, .int x2), (3, .int x3), (4, .int x4)] [] M := by
  unfold fX5_sets_69 at h
  obtain ⟨v8, ev8, h⟩ := bw_mv_o h
  refine bw_iinc (pc := 69) (x := v8) (L' := [(4, .int v8), (0, .ref (ρ 0)), (1, .int x1), (2, .int x2), (3, .int x3)]) C 4 dX5_sets_69 rfl ev8.symm (by decide) rfl ?_
  refine bw_goto (pc := 72) C 32 dX5_sets_72 (by decide) ?_
  refine bw_pick [1, 2, 3, 4, 0] rfl ?_
  exact hk32 (x2, x3, v8) h
def fX5_sets_68 (N : Nat) (x1 : Int32) (k32 : Int32 × Int32 × Int32 → Option (Int32 × bw_M)) (x2 : Int32) (x4 : Int32) (s0 : Int32) (M : bw_M) : Option (Int32 × bw_M) :=
  fX5_sets_69 N x1 k32 x2 s0 x4 M
theorem tX5_sets_68 {p : Program} {l : Launch} {e : Env} {s : State} {m : MethodId} {args : Array Value} {below : List Frame} {meth : Method} {c : Code} {D : va_G} {kT : Nat → ClassId} {ρ : Nat → Nat} (C : bw_Cx p s m args meth c cX5_sets 5 RX5 19 D kT ρ (some .int)) (N : Nat) (x1 : Int32)  (k32 : Int32 × Int32 × Int32 → Option (Int32 × bw_M)) (x2 : Int32) (x4 : Int32) (s0 : Int32) (M : bw_M) (rr : Int32) (zz : bw_M) (hk32 : ∀ z0, k32 z0 = some (rr, zz) → bw_At p l e rmX5_sets s m args below meth c (MQ below (bw_QI bw_shM 19 D kT ρ rr zz) args s 0 0 (bw_A ρ 19)) bw_shM 19 D kT ρ 5 32 [(0, .ref (ρ 0)), (1, .int x1), (2, .int z0.1), (3, .int z0.2.1), (4, .int z0.2.2)] [] M) (h : fX5_sets_68 N x1 k32 x2 x4 s0 M = some (rr, zz)) : bw_At p l e rmX5_sets s m args below meth c (MQ below (bw_QI bw_shM 19 D kT ρ rr zz) args s 0 0 (bw_A ρ 19)) bw_shM 19 D kT ρ 5 68 [(0, .ref (ρ 0)), (1, .int x1), (2, .int x2), (4, .int x4)] [.int s0] M := by
  unfold fX5_sets_68 at h
  refine bw_istore_n (pc := 68) (L' := [(3, .int s0), (0, .ref (ρ 0)), (1, .int x1), (2, .int x2), (4, .int x4)]) C dX5_sets_68 rfl (by decide) rfl ?_
  refine bw_pick [1, 2, 3, 0, 4] rfl ?_
  exact tX5_sets_69 C N x1 k32 x2 s0 x4 M rr zz hk32 h
def fX5_sets_32 (N : Nat) (x1 : Int32) (k32 : Int32 × Int32 × Int32 → Option (Int32 × bw_M)) (x2 : Int32) (x3 : Int32) (x4 : Int32) (M : bw_M) : Option (Int32 × bw_M) :=
  if ((1 : Int32) <<< ((M.1 0 9) &&& 31)) ≤ x4 then
  bw_c2 (fX5_counted x2 x3 M) fun v5 M6 =>
  some (v5, M6)
  else
  bw_cl (fX5_wantsOf N x4 M) fun v7 =>
  if v7 = x1 then
  bw_mv (x2 + 1) fun v9 =>
  if x3 = (-9 : Int32) then
  fX5_sets_68 N x1 k32 v9 x4 x4 M
  else
  fX5_sets_68 N x1 k32 v9 x4 x3 M
  else
  fX5_sets_69 N x1 k32 x2 x3 x4 M
theorem tX5_sets_32 {p : Program} {l : Launch} {e : Env} {s : State} {m : MethodId} {args : Array Value} {below : List Frame} {meth : Method} {c : Code} {D : va_G} {kT : Nat → ClassId} {ρ : Nat → Nat} (C : bw_Cx p s m args meth c cX5_sets 5 RX5 19 D kT ρ (some .int)) (N : Nat) (x1 : Int32)  (k32 : Int32 × Int32 × Int32 → Option (Int32 × bw_M)) (x2 : Int32) (x3 : Int32) (x4 : Int32) (M : bw_M) (rr : Int32) (zz : bw_M) (hk32 : ∀ z0, k32 z0 = some (rr, zz) → bw_At p l e rmX5_sets s m args below meth c (MQ below (bw_QI bw_shM 19 D kT ρ rr zz) args s 0 0 (bw_A ρ 19)) bw_shM 19 D kT ρ 5 32 [(0, .ref (ρ 0)), (1, .int x1), (2, .int z0.1), (3, .int z0.2.1), (4, .int z0.2.2)] [] M) (h : fX5_sets_32 N x1 k32 x2 x3 x4 M = some (rr, zz)) : bw_At p l e rmX5_sets s m args below meth c (MQ below (bw_QI bw_shM 19 D kT ρ rr zz) args s 0 0 (bw_A ρ 19)) bw_shM 19 D kT ρ 5 32 [(0, .ref (ρ 0)), (1, .int x1), (2, .int x2), (3, .int x3), (4, .int x4)] [] M := by
  unfold fX5_sets_32 at h
  refine bw_iload (pc := 32) C 4 dX5_sets_32 rfl ?_
  refine bw_iconst (pc := 34) (v := (1 : Int32)) C dX5_sets_34 ic_1 ?_
  refine bw_aload_n (pc := 35) C 0 dX5_sets_35 rfl rfl ?_
  refine bw_getI (pc := 36) (q := 0) (k0 := 9) C ltM_0 shM_0 rfl inX5 mw_624 (by decide) rfl dX5_sets_36 ?_
  refine bw_ishl (pc := 39) C dX5_sets_39 ?_
  refine bw_icmp_ge (pc := 40) C 75 dX5_sets_40 (by decide) h (fun h => ?_) (fun h => ?_)
  · refine bw_aload_n (pc := 75) C 0 dX5_sets_75 rfl rfl ?_
    refine bw_iload_n (pc := 76) C 2 dX5_sets_76 rfl rfl ?_
    refine bw_iload_n (pc := 77) C 3 dX5_sets_77 rfl rfl ?_
    obtain ⟨v5, M6, ev5, h⟩ := bw_c2_o h
    refine bw_cVi (pc := 78) (q := 0) (As := [.int x2, .int x3]) (rest := []) C (tX5_counted l x2 x3 M v5 M6 ev5) msX5_counted mw_954 rfl rfl ⟨Nat.le_of_ble_eq_true rfl, Nat.le_of_ble_eq_true rfl⟩ ltM_0 shM_0 rfl rfl rfl rfl (Nat.le_of_ble_eq_true rfl) dX5_sets_78 ?_
    exact bw_ireti (pc := 81) C dX5_sets_81 h
  · refine bw_aload_n (pc := 43) C 0 dX5_sets_43 rfl rfl ?_
    refine bw_iload (pc := 44) C 4 dX5_sets_44 rfl ?_
    obtain ⟨v7, ev7, h⟩ := bw_cl_o h
    refine bw_cVi (pc := 46) (q := 0) (As := [.int x4]) (rest := []) C (tX5_wantsOf l N x4 M v7 ev7) msX5_wantsOf mw_975 rfl rfl ⟨Nat.le_of_ble_eq_true rfl, Nat.le_of_ble_eq_true rfl⟩ ltM_0 shM_0 rfl rfl rfl rfl (Nat.le_of_ble_eq_true rfl) dX5_sets_46 ?_
    refine bw_iload_n (pc := 49) C 1 dX5_sets_49 rfl rfl ?_
    refine bw_icmp_ne (pc := 50) C 69 dX5_sets_50 (by decide) h (fun h => ?_) (fun h => ?_)
    · refine bw_pick [0, 1, 2, 3, 4] rfl ?_
      exact tX5_sets_69 C N x1 k32 x2 x3 x4 M rr zz hk32 h
    · obtain ⟨v9, ev9, h⟩ := bw_mv_o h
      refine bw_iinc (pc := 53) (x := v9) (L' := [(2, .int v9), (0, .ref (ρ 0)), (1, .int x1), (3, .int x3), (4, .int x4)]) C 2 dX5_sets_53 rfl ev9.symm (by decide) rfl ?_
      refine bw_iload_n (pc := 56) C 3 dX5_sets_56 rfl rfl ?_
      refine bw_bipush (pc := 57) (v := (-9 : Int32)) C dX5_sets_57 bi_m9 ?_
      refine bw_icmp_ne (pc := 59) C 67 dX5_sets_59 (by decide) h (fun h => ?_) (fun h => ?_)
      · refine bw_iload_n (pc := 67) C 3 dX5_sets_67 rfl rfl ?_
        refine bw_pick [1, 2, 0, 4] rfl ?_
        exact tX5_sets_68 C N x1 k32 v9 x4 x3 M rr zz hk32 h
      · refine bw_iload (pc := 62) C 4 dX5_sets_62 rfl ?_
        refine bw_goto (pc := 64) C 68 dX5_sets_64 (by decide) ?_
        refine bw_pick [1, 2, 0, 4] rfl ?_
        exact tX5_sets_68 C N x1 k32 v9 x4 x4 M rr zz hk32 h
def flX5_sets_32 (N : Nat) (x1 : Int32)   (M : bw_M) (fu : Nat) (w : Int32 × Int32 × Int32) : Option (Int32 × bw_M) := bw_lp (fun kk w => fX5_sets_32 N x1 kk w.1 w.2.1 w.2.2 M) fu w
theorem tlX5_sets_32 {p : Program} {l : Launch} {e : Env} {s : State} {m : MethodId} {args : Array Value} {below : List Frame} {meth : Method} {c : Code} {D : va_G} {kT : Nat → ClassId} {ρ : Nat → Nat} (C : bw_Cx p s m args meth c cX5_sets 5 RX5 19 D kT ρ (some .int)) (N : Nat) (x1 : Int32)    (M : bw_M) (rr : Int32) (zz : bw_M)  (fu : Nat) (w : Int32 × Int32 × Int32) (h : flX5_sets_32 N x1 M fu w = some (rr, zz)) : bw_At p l e rmX5_sets s m args below meth c (MQ below (bw_QI bw_shM 19 D kT ρ rr zz) args s 0 0 (bw_A ρ 19)) bw_shM 19 D kT ρ 5 32 [(0, .ref (ρ 0)), (1, .int x1), (2, .int w.1), (3, .int w.2.1), (4, .int w.2.2)] [] M :=
  bw_loop (r := (rr, zz)) (fun w => bw_At p l e rmX5_sets s m args below meth c (MQ below (bw_QI bw_shM 19 D kT ρ rr zz) args s 0 0 (bw_A ρ 19)) bw_shM 19 D kT ρ 5 32 [(0, .ref (ρ 0)), (1, .int x1), (2, .int w.1), (3, .int w.2.1), (4, .int w.2.2)] [] M) (fun kk hk w h => tX5_sets_32 C N x1 kk w.1 w.2.1 w.2.2 M rr zz hk h) fu w h
def fX5_sets (N : Nat) (x1 : Int32) (M : bw_M) : Option (Int32 × bw_M) :=
  bw_cl (fX5_in (Int32.toInt64 x1) (0 : Int64) (99 : Int64)) fun v1 =>
  if v1 = 0 then
  some ((-1 : Int32), M)
  else
  if (M.1 0 9) = 0 then
  some ((-4 : Int32), M)
  else
  bw_mv (0 : Int32) fun v2 =>
  bw_mv (-9 : Int32) fun v3 =>
  bw_mv (0 : Int32) fun v4 =>
  flX5_sets_32 N x1 M N (v2, v3, v4)
theorem tX5_sets (l : Launch) (N : Nat) (x1 : Int32)  (M : bw_M) (rr : Int32) (zz : bw_M) (h : fX5_sets N x1 M = some (rr, zz)) : bw_CI l bw_shM 19 yX5_sets cX5_sets 5 (some .int) rmX5_sets (fun ρ => [.ref (ρ 0), .int x1]) M rr zz := by
  refine bw_inI (Lf := fun ρ => [(0, .ref (ρ 0)), (1, .int x1)]) cX5_sets 5 (some .int) RX5 pn_X5 rfl (fun ρ => Nat.le_of_ble_eq_true rfl) (fun ρ => rfl) ?_
  intro p e s m args below meth c D kT ρ C
  unfold fX5_sets at h
  refine bw_iload_n (pc := 0) C 1 dX5_sets_0 rfl rfl ?_
  refine bw_i2l (pc := 1) C dX5_sets_1 ?_
  refine bw_lconst (pc := 2) (v := (0 : Int64)) C dX5_sets_2 rfl ?_
  refine bw_ldc2_w (pc := 3) C mw_891 dX5_sets_3 ?_
  obtain ⟨v1, ev1, h⟩ := bw_cl_o h
  refine bw_cSi (pc := 6) (As := [.long (Int32.toInt64 x1), .long (0 : Int64), .long (99 : Int64)]) (rest := []) C (tX5_in l (Int32.toInt64 x1) (0 : Int64) (99 : Int64) M v1 ev1) msX5_in mw_717 rfl rfl ⟨Nat.le_of_ble_eq_true rfl, Nat.le_of_ble_eq_true rfl⟩ rfl rfl rfl (Nat.le_of_ble_eq_true rfl) dX5_sets_6 ?_
  refine bw_if_ne (pc := 9) C 14 dX5_sets_9 (by decide) h (fun h => ?_) (fun h => ?_)
  · refine bw_aload_n (pc := 14) C 0 dX5_sets_14 rfl rfl ?_
    refine bw_getI (pc := 15) (q := 0) (k0 := 9) C ltM_0 shM_0 rfl inX5 mw_624 (by decide) rfl dX5_sets_15 ?_
    refine bw_if_ne (pc := 18) C 24 dX5_sets_18 (by decide) h (fun h => ?_) (fun h => ?_)
    · refine bw_iconst (pc := 24) (v := (0 : Int32)) C dX5_sets_24 ic_0 ?_
      obtain ⟨v2, ev2, h⟩ := bw_mv_o h
      refine bw_nmI ev2 ?_
      refine bw_istore_n (pc := 25) (L' := [(2, .int v2), (0, .ref (ρ 0)), (1, .int x1)]) C dX5_sets_25 rfl (by decide) rfl ?_
      refine bw_bipush (pc := 26) (v := (-9 : Int32)) C dX5_sets_26 bi_m9 ?_
      obtain ⟨v3, ev3, h⟩ := bw_mv_o h
      refine bw_nmI ev3 ?_
      refine bw_istore_n (pc := 28) (L' := [(3, .int v3), (2, .int v2), (0, .ref (ρ 0)), (1, .int x1)]) C dX5_sets_28 rfl (by decide) rfl ?_
      refine bw_iconst (pc := 29) (v := (0 : Int32)) C dX5_sets_29 ic_0 ?_
      obtain ⟨v4, ev4, h⟩ := bw_mv_o h
      refine bw_nmI ev4 ?_
      refine bw_istore (pc := 30) (L' := [(4, .int v4), (3, .int v3), (2, .int v2), (0, .ref (ρ 0)), (1, .int x1)]) C dX5_sets_30 (by decide) rfl ?_
      refine bw_pick [3, 4, 2, 1, 0] rfl ?_
      exact tlX5_sets_32 C N x1 M rr zz N (v2, v3, v4) h
    · refine bw_bipush (pc := 21) (v := (-4 : Int32)) C dX5_sets_21 bi_m4 ?_
      exact bw_ireti (pc := 23) C dX5_sets_23 h
  · refine bw_iconst (pc := 12) (v := (-1 : Int32)) C dX5_sets_12 ic_m1 ?_
    exact bw_ireti (pc := 13) C dX5_sets_13 h
/-! X5_stroke -/
abbrev rmX5_stroke : Room := { frames := 2, cells := 0, slots := 0, locals := 45 }
theorem msX5_stroke : bw_MV yX5_stroke cX5_stroke 3 (some .int) RX5 1 := ⟨mw_871, mw_872, mw_6, mw_873, by decide +kernel⟩
def fX5_stroke_31 (N : Nat) (x1 : Int32)   (M : bw_M) : Option (Int32 × bw_M) :=
  some ((-4 : Int32), M)
theorem tX5_stroke_31 {p : Program} {l : Launch} {e : Env} {s : State} {m : MethodId} {args : Array Value} {below : List Frame} {meth : Method} {c : Code} {D : va_G} {kT : Nat → ClassId} {ρ : Nat → Nat} (C : bw_Cx p s m args meth c cX5_stroke 3 RX5 19 D kT ρ (some .int)) (N : Nat) (x1 : Int32)    (M : bw_M) (rr : Int32) (zz : bw_M)  (h : fX5_stroke_31 N x1 M = some (rr, zz)) : bw_At p l e rmX5_stroke s m args below meth c (MQ below (bw_QI bw_shM 19 D kT ρ rr zz) args s 0 0 (bw_A ρ 19)) bw_shM 19 D kT ρ 3 31 [(0, .ref (ρ 0)), (1, .int x1)] [] M := by
  unfold fX5_stroke_31 at h
  refine bw_bipush (pc := 31) (v := (-4 : Int32)) C dX5_stroke_31 bi_m4 ?_
  exact bw_ireti (pc := 33) C dX5_stroke_33 h
def fX5_stroke (N : Nat) (x1 : Int32) (M : bw_M) : Option (Int32 × bw_M) :=
  bw_cl (fX5_in (Int32.toInt64 x1) (0 : Int64) (9 : Int64)) fun v1 =>
  if v1 = 0 then
  some ((-1 : Int32), M)
  else
  if (M.1 0 9) = 0 then
  fX5_stroke_31 N x1 M
  else
  bw_rd M 9 17 (1 : Int32) fun v2 =>
  if v2 = x1 then
  fX5_stroke_31 N x1 M
  else
  if (M.1 0 16) = (40 : Int32) then
  some ((-2 : Int32), M)
  else
  bw_cl (fX5_remember N M) fun M3 =>
  bw_rd M3 9 17 (1 : Int32) fun v4 =>
  bw_wr M3 9 17 (1 : Int32) x1 fun M5 =>
  some (v4, M5)
theorem tX5_stroke (l : Launch) (N : Nat) (x1 : Int32)  (M : bw_M) (rr : Int32) (zz : bw_M) (h : fX5_stroke N x1 M = some (rr, zz)) : bw_CI l bw_shM 19 yX5_stroke cX5_stroke 3 (some .int) rmX5_stroke (fun ρ => [.ref (ρ 0), .int x1]) M rr zz := by
  refine bw_inI (Lf := fun ρ => [(0, .ref (ρ 0)), (1, .int x1)]) cX5_stroke 3 (some .int) RX5 pn_X5 rfl (fun ρ => Nat.le_of_ble_eq_true rfl) (fun ρ => rfl) ?_
  intro p e s m args below meth c D kT ρ C
  unfold fX5_stroke at h
  refine bw_iload_n (pc := 0) C 1 dX5_stroke_0 rfl rfl ?_
  refine bw_i2l (pc := 1) C dX5_stroke_1 ?_
  refine bw_lconst (pc := 2) (v := (0 : Int64)) C dX5_stroke_2 rfl ?_
  refine bw_ldc2_w (pc := 3) C mw_856 dX5_stroke_3 ?_
  obtain ⟨v1, ev1, h⟩ := bw_cl_o h
  refine bw_cSi (pc := 6) (As := [.long (Int32.toInt64 x1), .long (0 : Int64), .long (9 : Int64)]) (rest := []) C (tX5_in l (Int32.toInt64 x1) (0 : Int64) (9 : Int64) M v1 ev1) msX5_in mw_717 rfl rfl ⟨Nat.le_of_ble_eq_true rfl, Nat.le_of_ble_eq_true rfl⟩ rfl rfl rfl (Nat.le_of_ble_eq_true rfl) dX5_stroke_6 ?_
  refine bw_if_ne (pc := 9) C 14 dX5_stroke_9 (by decide) h (fun h => ?_) (fun h => ?_)
  · refine bw_aload_n (pc := 14) C 0 dX5_stroke_14 rfl rfl ?_
    refine bw_getI (pc := 15) (q := 0) (k0 := 9) C ltM_0 shM_0 rfl inX5 mw_624 (by decide) rfl dX5_stroke_15 ?_
    refine bw_if_eq (pc := 18) C 31 dX5_stroke_18 (by decide) h (fun h => ?_) (fun h => ?_)
    · refine bw_pick [0, 1] rfl ?_
      exact tX5_stroke_31 C N x1 M rr zz h
    · refine bw_aload_n (pc := 21) C 0 dX5_stroke_21 rfl rfl ?_
      refine bw_getR (pc := 22) (q := 0) (k0 := 13) C ltM_0 shM_0 rfl inX5 mw_628 (by decide) rfl dX5_stroke_22 ?_
      refine bw_iconst (pc := 25) (v := (1 : Int32)) C dX5_stroke_25 ic_1 ?_
      obtain ⟨qv2, v2, ev2, h⟩ := bw_rd_o h
      refine bw_iald (pc := 26) (q := 9) C ltM_9 shM_9 qv2 ev2 dX5_stroke_26 ?_
      refine bw_iload_n (pc := 27) C 1 dX5_stroke_27 rfl rfl ?_
      refine bw_icmp_ne (pc := 28) C 34 dX5_stroke_28 (by decide) h (fun h => ?_) (fun h => ?_)
      · refine bw_aload_n (pc := 34) C 0 dX5_stroke_34 rfl rfl ?_
        refine bw_getI (pc := 35) (q := 0) (k0 := 16) C ltM_0 shM_0 rfl inX5 mw_631 (by decide) rfl dX5_stroke_35 ?_
        refine bw_bipush (pc := 38) (v := (40 : Int32)) C dX5_stroke_38 bi_40 ?_
        refine bw_icmp_ne (pc := 40) C 46 dX5_stroke_40 (by decide) h (fun h => ?_) (fun h => ?_)
        · refine bw_aload_n (pc := 46) C 0 dX5_stroke_46 rfl rfl ?_
          obtain ⟨M3, eM3, h⟩ := bw_cl_o h
          refine bw_cVv (pc := 47) (q := 0) (As := []) (rest := []) C (tX5_remember l N M M3 eM3) msX5_remember mw_833 rfl rfl ⟨Nat.le_of_ble_eq_true rfl, Nat.le_of_ble_eq_true rfl⟩ ltM_0 shM_0 rfl rfl rfl rfl (Nat.le_of_ble_eq_true rfl) dX5_stroke_47 ?_
          refine bw_aload_n (pc := 50) C 0 dX5_stroke_50 rfl rfl ?_
          refine bw_getR (pc := 51) (q := 0) (k0 := 13) C ltM_0 shM_0 rfl inX5 mw_628 (by decide) rfl dX5_stroke_51 ?_
          refine bw_iconst (pc := 54) (v := (1 : Int32)) C dX5_stroke_54 ic_1 ?_
          obtain ⟨qv4, v4, ev4, h⟩ := bw_rd_o h
          refine bw_iald (pc := 55) (q := 9) C ltM_9 shM_9 qv4 ev4 dX5_stroke_55 ?_
          refine bw_istore_n (pc := 56) (L' := [(2, .int v4), (0, .ref (ρ 0)), (1, .int x1)]) C dX5_stroke_56 rfl (by decide) rfl ?_
          refine bw_aload_n (pc := 57) C 1 dX5_stroke_57 rfl rfl ?_
          refine bw_getR (pc := 58) (q := 0) (k0 := 13) C ltM_0 shM_0 rfl inX5 mw_628 (by decide) rfl dX5_stroke_58 ?_
          refine bw_iconst (pc := 61) (v := (1 : Int32)) C dX5_stroke_61 ic_1 ?_
          refine bw_iload_n (pc := 62) C 2 dX5_stroke_62 rfl rfl ?_
          obtain ⟨qM5, M5, eM5, h⟩ := bw_wr_o h
          refine bw_iast (pc := 63) (q := 9) C ltM_9 shM_9 qM5 eM5 dX5_stroke_63 ?_
          refine bw_iload_n (pc := 64) C 0 dX5_stroke_64 rfl rfl ?_
          exact bw_ireti (pc := 65) C dX5_stroke_65 h
        · refine bw_bipush (pc := 43) (v := (-2 : Int32)) C dX5_stroke_43 bi_m2 ?_
          exact bw_ireti (pc := 45) C dX5_stroke_45 h
      · refine bw_pick [0, 1] rfl ?_
        exact tX5_stroke_31 C N x1 M rr zz h
  · refine bw_iconst (pc := 12) (v := (-1 : Int32)) C dX5_stroke_12 ic_m1 ?_
    exact bw_ireti (pc := 13) C dX5_stroke_13 h
/-! X5_strokes -/
abbrev rmX5_strokes : Room := { frames := 5, cells := 0, slots := 0, locals := 113 }
theorem msX5_strokes : bw_MV yX5_strokes cX5_strokes 5 (some .int) RX5 1 := ⟨mw_964, mw_965, mw_6, mw_966, by decide +kernel⟩
def fX5_strokes_53 (N : Nat) (x1 : Int32) (k17 : Int32 × Int32 × bw_M → Option (Int32 × bw_M)) (x4 : Int32) (s0 : Int32) (s1 : Int32) (M : bw_M) : Option (Int32 × bw_M) :=
  bw_mv (s0 ||| s1) fun v9 =>
  bw_mv (x4 + 1) fun v10 =>
  k17 (v9, v10, M)
theorem tX5_strokes_53 {p : Program} {l : Launch} {e : Env} {s : State} {m : MethodId} {args : Array Value} {below : List Frame} {meth : Method} {c : Code} {D : va_G} {kT : Nat → ClassId} {ρ : Nat → Nat} (C : bw_Cx p s m args meth c cX5_strokes 5 RX5 19 D kT ρ (some .int)) (N : Nat) (x1 : Int32)  (k17 : Int32 × Int32 × bw_M → Option (Int32 × bw_M)) (x4 : Int32) (s0 : Int32) (s1 : Int32) (M : bw_M) (rr : Int32) (zz : bw_M) (hk17 : ∀ z0, k17 z0 = some (rr, zz) → bw_At p l e rmX5_strokes s m args below meth c (MQ below (bw_QI bw_shM 19 D kT ρ rr zz) args s 0 0 (bw_A ρ 19)) bw_shM 19 D kT ρ 5 17 [(0, .ref (ρ 0)), (1, .int x1), (3, .int z0.1), (4, .int z0.2.1)] [] z0.2.2) (h : fX5_strokes_53 N x1 k17 x4 s0 s1 M = some (rr, zz)) : bw_At p l e rmX5_strokes s m args below meth c (MQ below (bw_QI bw_shM 19 D kT ρ rr zz) args s 0 0 (bw_A ρ 19)) bw_shM 19 D kT ρ 5 53 [(0, .ref (ρ 0)), (1, .int x1), (4, .int x4)] [.int s1, .int s0] M := by
  unfold fX5_strokes_53 at h
  refine bw_ior (pc := 53) C dX5_strokes_53 ?_
  obtain ⟨v9, ev9, h⟩ := bw_mv_o h
  refine bw_nmI ev9 ?_
  refine bw_istore_n (pc := 54) (L' := [(3, .int v9), (0, .ref (ρ 0)), (1, .int x1), (4, .int x4)]) C dX5_strokes_54 rfl (by decide) rfl ?_
  obtain ⟨v10, ev10, h⟩ := bw_mv_o h
  refine bw_iinc (pc := 55) (x := v10) (L' := [(4, .int v10), (3, .int v9), (0, .ref (ρ 0)), (1, .int x1)]) C 3 dX5_strokes_55 rfl ev10.symm (by decide) rfl ?_
  refine bw_goto (pc := 58) C 17 dX5_strokes_58 (by decide) ?_
  refine bw_pick [2, 3, 1, 0] rfl ?_
  exact hk17 (v9, v10, M) h
def fX5_strokes_17 (N : Nat) (x1 : Int32) (k17 : Int32 × Int32 × bw_M → Option (Int32 × bw_M)) (x3 : Int32) (x4 : Int32) (M : bw_M) : Option (Int32 × bw_M) :=
  if (10 : Int32) ≤ x4 then
  some (x3, M)
  else
  bw_cl (fX5_layAside N M) fun M5 =>
  bw_wr M5 10 17 (1 : Int32) x4 fun M6 =>
  bw_c2 (fX5_goesAs N x1 M6) fun v7 M8 =>
  if v7 = 0 then
  fX5_strokes_53 N x1 k17 x4 x3 (0 : Int32) M8
  else
  fX5_strokes_53 N x1 k17 x4 x3 ((1 : Int32) <<< (x4 &&& 31)) M8
theorem tX5_strokes_17 {p : Program} {l : Launch} {e : Env} {s : State} {m : MethodId} {args : Array Value} {below : List Frame} {meth : Method} {c : Code} {D : va_G} {kT : Nat → ClassId} {ρ : Nat → Nat} (C : bw_Cx p s m args meth c cX5_strokes 5 RX5 19 D kT ρ (some .int)) (N : Nat) (x1 : Int32)  (k17 : Int32 × Int32 × bw_M → Option (Int32 × bw_M)) (x3 : Int32) (x4 : Int32) (M : bw_M) (rr : Int32) (zz : bw_M) (hk17 : ∀ z0, k17 z0 = some (rr, zz) → bw_At p l e rmX5_strokes s m args below meth c (MQ below (bw_QI bw_shM 19 D kT ρ rr zz) args s 0 0 (bw_A ρ 19)) bw_shM 19 D kT ρ 5 17 [(0, .ref (ρ 0)), (1, .int x1), (3, .int z0.1), (4, .int z0.2.1)] [] z0.2.2) (h : fX5_strokes_17 N x1 k17 x3 x4 M = some (rr, zz)) : bw_At p l e rmX5_strokes s m args below meth c (MQ below (bw_QI bw_shM 19 D kT ρ rr zz) args s 0 0 (bw_A ρ 19)) bw_shM 19 D kT ρ 5 17 [(0, .ref (ρ 0)), (1, .int x1), (3, .int x3), (4, .int x4)] [] M := by
  unfold fX5_strokes_17 at h
  refine bw_iload (pc := 17) C 3 dX5_strokes_17 rfl ?_
  refine bw_bipush (pc := 19) (v := (10 : Int32)) C dX5_strokes_19 bi_10 ?_
  refine bw_icmp_ge (pc := 21) C 61 dX5_strokes_21 (by decide) h (fun h => ?_) (fun h => ?_)
  · refine bw_iload_n (pc := 61) C 2 dX5_strokes_61 rfl rfl ?_
    exact bw_ireti (pc := 62) C dX5_strokes_62 h
  · refine bw_aload_n (pc := 24) C 0 dX5_strokes_24 rfl rfl ?_
    obtain ⟨M5, eM5, h⟩ := bw_cl_o h
    refine bw_cVv (pc := 25) (q := 0) (As := []) (rest := []) C (tX5_layAside l N M M5 eM5) msX5_layAside mw_897 rfl rfl ⟨Nat.le_of_ble_eq_true rfl, Nat.le_of_ble_eq_true rfl⟩ ltM_0 shM_0 rfl rfl rfl rfl (Nat.le_of_ble_eq_true rfl) dX5_strokes_25 ?_
    refine bw_aload_n (pc := 28) C 0 dX5_strokes_28 rfl rfl ?_
    refine bw_getR (pc := 29) (q := 0) (k0 := 14) C ltM_0 shM_0 rfl inX5 mw_629 (by decide) rfl dX5_strokes_29 ?_
    refine bw_iconst (pc := 32) (v := (1 : Int32)) C dX5_strokes_32 ic_1 ?_
    refine bw_iload (pc := 33) C 3 dX5_strokes_33 rfl ?_
    obtain ⟨qM6, M6, eM6, h⟩ := bw_wr_o h
    refine bw_iast (pc := 35) (q := 10) C ltM_10 shM_10 qM6 eM6 dX5_strokes_35 ?_
    refine bw_iload_n (pc := 36) C 2 dX5_strokes_36 rfl rfl ?_
    refine bw_aload_n (pc := 37) C 0 dX5_strokes_37 rfl rfl ?_
    refine bw_iload_n (pc := 38) C 1 dX5_strokes_38 rfl rfl ?_
    obtain ⟨v7, M8, ev7, h⟩ := bw_c2_o h
    refine bw_cVi (pc := 39) (q := 0) (As := [.int x1]) (rest := [.int x3]) C (tX5_goesAs l N x1 M6 v7 M8 ev7) msX5_goesAs mw_950 rfl rfl ⟨Nat.le_of_ble_eq_true rfl, Nat.le_of_ble_eq_true rfl⟩ ltM_0 shM_0 rfl rfl rfl rfl (Nat.le_of_ble_eq_true rfl) dX5_strokes_39 ?_
    refine bw_if_eq (pc := 42) C 52 dX5_strokes_42 (by decide) h (fun h => ?_) (fun h => ?_)
    · refine bw_iconst (pc := 52) (v := (0 : Int32)) C dX5_strokes_52 ic_0 ?_
      refine bw_pick [0, 1, 3] rfl ?_
      exact tX5_strokes_53 C N x1 k17 x4 x3 (0 : Int32) M8 rr zz hk17 h
    · refine bw_iconst (pc := 45) (v := (1 : Int32)) C dX5_strokes_45 ic_1 ?_
      refine bw_iload (pc := 46) C 3 dX5_strokes_46 rfl ?_
      refine bw_ishl (pc := 48) C dX5_strokes_48 ?_
      refine bw_goto (pc := 49) C 53 dX5_strokes_49 (by decide) ?_
      refine bw_pick [0, 1, 3] rfl ?_
      exact tX5_strokes_53 C N x1 k17 x4 x3 ((1 : Int32) <<< (x4 &&& 31)) M8 rr zz hk17 h
def flX5_strokes_17 (N : Nat) (x1 : Int32)    (fu : Nat) (w : Int32 × Int32 × bw_M) : Option (Int32 × bw_M) := bw_lp (fun kk w => fX5_strokes_17 N x1 kk w.1 w.2.1 w.2.2) fu w
theorem tlX5_strokes_17 {p : Program} {l : Launch} {e : Env} {s : State} {m : MethodId} {args : Array Value} {below : List Frame} {meth : Method} {c : Code} {D : va_G} {kT : Nat → ClassId} {ρ : Nat → Nat} (C : bw_Cx p s m args meth c cX5_strokes 5 RX5 19 D kT ρ (some .int)) (N : Nat) (x1 : Int32)     (rr : Int32) (zz : bw_M)  (fu : Nat) (w : Int32 × Int32 × bw_M) (h : flX5_strokes_17 N x1 fu w = some (rr, zz)) : bw_At p l e rmX5_strokes s m args below meth c (MQ below (bw_QI bw_shM 19 D kT ρ rr zz) args s 0 0 (bw_A ρ 19)) bw_shM 19 D kT ρ 5 17 [(0, .ref (ρ 0)), (1, .int x1), (3, .int w.1), (4, .int w.2.1)] [] w.2.2 :=
  bw_loop (r := (rr, zz)) (fun w => bw_At p l e rmX5_strokes s m args below meth c (MQ below (bw_QI bw_shM 19 D kT ρ rr zz) args s 0 0 (bw_A ρ 19)) bw_shM 19 D kT ρ 5 17 [(0, .ref (ρ 0)), (1, .int x1), (3, .int w.1), (4, .int w.2.1)] [] w.2.2) (fun kk hk w h => tX5_strokes_17 C N x1 kk w.1 w.2.1 w.2.2 rr zz hk h) fu w h
def fX5_strokes (N : Nat) (x1 : Int32) (M : bw_M) : Option (Int32 × bw_M) :=
  bw_c2 (fX5_refusesAll N x1 M) fun v1 M2 =>
  if v1 = 0 then
  bw_mv (0 : Int32) fun v3 =>
  bw_mv (0 : Int32) fun v4 =>
  flX5_strokes_17 N x1 N (v3, v4, M2)
  else
  some (v1, M2)
theorem tX5_strokes (l : Launch) (N : Nat) (x1 : Int32)  (M : bw_M) (rr : Int32) (zz : bw_M) (h : fX5_strokes N x1 M = some (rr, zz)) : bw_CI l bw_shM 19 yX5_strokes cX5_strokes 5 (some .int) rmX5_strokes (fun ρ => [.ref (ρ 0), .int x1]) M rr zz := by
  refine bw_inI (Lf := fun ρ => [(0, .ref (ρ 0)), (1, .int x1)]) cX5_strokes 5 (some .int) RX5 pn_X5 rfl (fun ρ => Nat.le_of_ble_eq_true rfl) (fun ρ => rfl) ?_
  intro p e s m args below meth c D kT ρ C
  unfold fX5_strokes at h
  refine bw_aload_n (pc := 0) C 0 dX5_strokes_0 rfl rfl ?_
  refine bw_iload_n (pc := 1) C 1 dX5_strokes_1 rfl rfl ?_
  obtain ⟨v1, M2, ev1, h⟩ := bw_c2_o h
  refine bw_cVi (pc := 2) (q := 0) (As := [.int x1]) (rest := []) C (tX5_refusesAll l N x1 M v1 M2 ev1) msX5_refusesAll mw_937 rfl rfl ⟨Nat.le_of_ble_eq_true rfl, Nat.le_of_ble_eq_true rfl⟩ ltM_0 shM_0 rfl rfl rfl rfl (Nat.le_of_ble_eq_true rfl) dX5_strokes_2 ?_
  refine bw_istore_n (pc := 5) (L' := [(2, .int v1), (0, .ref (ρ 0)), (1, .int x1)]) C dX5_strokes_5 rfl (by decide) rfl ?_
  refine bw_iload_n (pc := 6) C 0 dX5_strokes_6 rfl rfl ?_
  refine bw_if_eq (pc := 7) C 12 dX5_strokes_7 (by decide) h (fun h => ?_) (fun h => ?_)
  · refine bw_iconst (pc := 12) (v := (0 : Int32)) C dX5_strokes_12 ic_0 ?_
    obtain ⟨v3, ev3, h⟩ := bw_mv_o h
    refine bw_nmI ev3 ?_
    refine bw_istore_n (pc := 13) (L' := [(3, .int v3), (2, .int v1), (0, .ref (ρ 0)), (1, .int x1)]) C dX5_strokes_13 rfl (by decide) rfl ?_
    refine bw_iconst (pc := 14) (v := (0 : Int32)) C dX5_strokes_14 ic_0 ?_
    obtain ⟨v4, ev4, h⟩ := bw_mv_o h
    refine bw_nmI ev4 ?_
    refine bw_istore (pc := 15) (L' := [(4, .int v4), (3, .int v3), (2, .int v1), (0, .ref (ρ 0)), (1, .int x1)]) C dX5_strokes_15 (by decide) rfl ?_
    refine bw_pick [3, 4, 1, 0] rfl ?_
    exact tlX5_strokes_17 C N x1 rr zz N (v3, v4, M2) h
  · refine bw_iload_n (pc := 10) C 0 dX5_strokes_10 rfl rfl ?_
    exact bw_ireti (pc := 11) C dX5_strokes_11 h
/-! X5_sure -/
abbrev rmX5_sure : Room := { frames := 3, cells := 0, slots := 0, locals := 67 }
theorem msX5_sure : bw_MV yX5_sure cX5_sure 6 (some .int) RX5 1 := ⟨mw_980, mw_981, mw_6, mw_982, by decide +kernel⟩
def fX5_sure_103 (N : Nat) (x1 : Int32)  (s0 : Int32) (M : bw_M) : Option (Int32 × bw_M) :=
  some (s0, M)
theorem tX5_sure_103 {p : Program} {l : Launch} {e : Env} {s : State} {m : MethodId} {args : Array Value} {below : List Frame} {meth : Method} {c : Code} {D : va_G} {kT : Nat → ClassId} {ρ : Nat → Nat} (C : bw_Cx p s m args meth c cX5_sure 6 RX5 19 D kT ρ (some .int)) (N : Nat) (x1 : Int32)   (s0 : Int32) (M : bw_M) (rr : Int32) (zz : bw_M)  (h : fX5_sure_103 N x1 s0 M = some (rr, zz)) : bw_At p l e rmX5_sure s m args below meth c (MQ below (bw_QI bw_shM 19 D kT ρ rr zz) args s 0 0 (bw_A ρ 19)) bw_shM 19 D kT ρ 6 103 [(0, .ref (ρ 0)), (1, .int x1)] [.int s0] M := by
  unfold fX5_sure_103 at h
  exact bw_ireti (pc := 103) C dX5_sure_103 h
def fX5_sure_78 (N : Nat) (x1 : Int32) (k41 : Int32 × Int32 × Int32 × Int32 → Option (Int32 × bw_M)) (x2 : Int32) (x3 : Int32) (x4 : Int32) (x5 : Int32) (M : bw_M) : Option (Int32 × bw_M) :=
  bw_mv (x5 + 1) fun v10 =>
  k41 (x2, x3, x4, v10)
theorem tX5_sure_78 {p : Program} {l : Launch} {e : Env} {s : State} {m : MethodId} {args : Array Value} {below : List Frame} {meth : Method} {c : Code} {D : va_G} {kT : Nat → ClassId} {ρ : Nat → Nat} (C : bw_Cx p s m args meth c cX5_sure 6 RX5 19 D kT ρ (some .int)) (N : Nat) (x1 : Int32)  (k41 : Int32 × Int32 × Int32 × Int32 → Option (Int32 × bw_M)) (x2 : Int32) (x3 : Int32) (x4 : Int32) (x5 : Int32) (M : bw_M) (rr : Int32) (zz : bw_M) (hk41 : ∀ z0, k41 z0 = some (rr, zz) → bw_At p l e rmX5_sure s m args below meth c (MQ below (bw_QI bw_shM 19 D kT ρ rr zz) args s 0 0 (bw_A ρ 19)) bw_shM 19 D kT ρ 6 41 [(0, .ref (ρ 0)), (1, .int x1), (2, .int z0.1), (3, .int z0.2.1), (4, .int z0.2.2.1), (5, .int z0.2.2.2)] [] M) (h : fX5_sure_78 N x1 k41 x2 x3 x4 x5 M = some (rr, zz)) : bw_At p l e rmX5_sure s m args below meth c (MQ below (bw_QI bw_shM 19 D kT ρ rr zz) args s 0 0 (bw_A ρ 19)) bw_shM 19 D kT ρ 6 78 [(0, .ref (ρ 0)), (1, .int x1), (2, .int x2), (3, .int x3), (4, .int x4), (5, .int x5)] [] M := by
  unfold fX5_sure_78 at h
  obtain ⟨v10, ev10, h⟩ := bw_mv_o h
  refine bw_iinc (pc := 78) (x := v10) (L' := [(5, .int v10), (0, .ref (ρ 0)), (1, .int x1), (2, .int x2), (3, .int x3), (4, .int x4)]) C 5 dX5_sure_78 rfl ev10.symm (by decide) rfl ?_
  refine bw_goto (pc := 81) C 41 dX5_sure_81 (by decide) ?_
  refine bw_pick [1, 2, 3, 4, 5, 0] rfl ?_
  exact hk41 (x2, x3, x4, v10) h
def fX5_sure_41 (N : Nat) (x1 : Int32) (k41 : Int32 × Int32 × Int32 × Int32 → Option (Int32 × bw_M)) (x2 : Int32) (x3 : Int32) (x4 : Int32) (x5 : Int32) (M : bw_M) : Option (Int32 × bw_M) :=
  if ((1 : Int32) <<< ((M.1 0 9) &&& 31)) ≤ x5 then
  if x2 = 0 then
  bw_c2 (fX5_found (4 : Int32) M) fun v5 M6 =>
  fX5_sure_103 N x1 v5 M6
  else
  bw_c2 (fX5_answer x3 x4 M) fun v7 M8 =>
  fX5_sure_103 N x1 v7 M8
  else
  bw_cl (fX5_wantsOf N x5 M) fun v9 =>
  if v9 = x1 then
  bw_mv (1 : Int32) fun v11 =>
  bw_mv (x3 &&& x5) fun v12 =>
  bw_mv (x4 &&& (x5 ^^^ (-1 : Int32))) fun v13 =>
  fX5_sure_78 N x1 k41 v11 v12 v13 x5 M
  else
  fX5_sure_78 N x1 k41 x2 x3 x4 x5 M
theorem tX5_sure_41 {p : Program} {l : Launch} {e : Env} {s : State} {m : MethodId} {args : Array Value} {below : List Frame} {meth : Method} {c : Code} {D : va_G} {kT : Nat → ClassId} {ρ : Nat → Nat} (C : bw_Cx p s m args meth c cX5_sure 6 RX5 19 D kT ρ (some .int)) (N : Nat) (x1 : Int32)  (k41 : Int32 × Int32 × Int32 × Int32 → Option (Int32 × bw_M)) (x2 : Int32) (x3 : Int32) (x4 : Int32) (x5 : Int32) (M : bw_M) (rr : Int32) (zz : bw_M) (hk41 : ∀ z0, k41 z0 = some (rr, zz) → bw_At p l e rmX5_sure s m args below meth c (MQ below (bw_QI bw_shM 19 D kT ρ rr zz) args s 0 0 (bw_A ρ 19)) bw_shM 19 D kT ρ 6 41 [(0, .ref (ρ 0)), (1, .int x1), (2, .int z0.1), (3, .int z0.2.1), (4, .int z0.2.2.1), (5, .int z0.2.2.2)] [] M) (h : fX5_sure_41 N x1 k41 x2 x3 x4 x5 M = some (rr, zz)) : bw_At p l e rmX5_sure s m args below meth c (MQ below (bw_QI bw_shM 19 D kT ρ rr zz) args s 0 0 (bw_A ρ 19)) bw_shM 19 D kT ρ 6 41 [(0, .ref (ρ 0)), (1, .int x1), (2, .int x2), (3, .int x3), (4, .int x4), (5, .int x5)] [] M := by
  unfold fX5_sure_41 at h
  refine bw_iload (pc := 41) C 5 dX5_sure_41 rfl ?_
  refine bw_iconst (pc := 43) (v := (1 : Int32)) C dX5_sure_43 ic_1 ?_
  refine bw_aload_n (pc := 44) C 0 dX5_sure_44 rfl rfl ?_
  refine bw_getI (pc := 45) (q := 0) (k0 := 9) C ltM_0 shM_0 rfl inX5 mw_624 (by decide) rfl dX5_sure_45 ?_
  refine bw_ishl (pc := 48) C dX5_sure_48 ?_
  refine bw_icmp_ge (pc := 49) C 84 dX5_sure_49 (by decide) h (fun h => ?_) (fun h => ?_)
  · refine bw_iload_n (pc := 84) C 2 dX5_sure_84 rfl rfl ?_
    refine bw_if_eq (pc := 85) C 98 dX5_sure_85 (by decide) h (fun h => ?_) (fun h => ?_)
    · refine bw_aload_n (pc := 98) C 0 dX5_sure_98 rfl rfl ?_
      refine bw_iconst (pc := 99) (v := (4 : Int32)) C dX5_sure_99 ic_4 ?_
      obtain ⟨v5, M6, ev5, h⟩ := bw_c2_o h
      refine bw_cVi (pc := 100) (q := 0) (As := [.int (4 : Int32)]) (rest := []) C (tX5_found l (4 : Int32) M v5 M6 ev5) msX5_found mw_720 rfl rfl ⟨Nat.le_of_ble_eq_true rfl, Nat.le_of_ble_eq_true rfl⟩ ltM_0 shM_0 rfl rfl rfl rfl (Nat.le_of_ble_eq_true rfl) dX5_sure_100 ?_
      refine bw_pick [0, 1] rfl ?_
      exact tX5_sure_103 C N x1 v5 M6 rr zz h
    · refine bw_aload_n (pc := 88) C 0 dX5_sure_88 rfl rfl ?_
      refine bw_iload_n (pc := 89) C 3 dX5_sure_89 rfl rfl ?_
      refine bw_iload (pc := 90) C 4 dX5_sure_90 rfl ?_
      obtain ⟨v7, M8, ev7, h⟩ := bw_c2_o h
      refine bw_cVi (pc := 92) (q := 0) (As := [.int x3, .int x4]) (rest := []) C (tX5_answer l x3 x4 M v7 M8 ev7) msX5_answer mw_901 rfl rfl ⟨Nat.le_of_ble_eq_true rfl, Nat.le_of_ble_eq_true rfl⟩ ltM_0 shM_0 rfl rfl rfl rfl (Nat.le_of_ble_eq_true rfl) dX5_sure_92 ?_
      refine bw_goto (pc := 95) C 103 dX5_sure_95 (by decide) ?_
      refine bw_pick [0, 1] rfl ?_
      exact tX5_sure_103 C N x1 v7 M8 rr zz h
  · refine bw_aload_n (pc := 52) C 0 dX5_sure_52 rfl rfl ?_
    refine bw_iload (pc := 53) C 5 dX5_sure_53 rfl ?_
    obtain ⟨v9, ev9, h⟩ := bw_cl_o h
    refine bw_cVi (pc := 55) (q := 0) (As := [.int x5]) (rest := []) C (tX5_wantsOf l N x5 M v9 ev9) msX5_wantsOf mw_975 rfl rfl ⟨Nat.le_of_ble_eq_true rfl, Nat.le_of_ble_eq_true rfl⟩ ltM_0 shM_0 rfl rfl rfl rfl (Nat.le_of_ble_eq_true rfl) dX5_sure_55 ?_
    refine bw_iload_n (pc := 58) C 1 dX5_sure_58 rfl rfl ?_
    refine bw_icmp_ne (pc := 59) C 78 dX5_sure_59 (by decide) h (fun h => ?_) (fun h => ?_)
    · refine bw_pick [0, 1, 2, 3, 4, 5] rfl ?_
      exact tX5_sure_78 C N x1 k41 x2 x3 x4 x5 M rr zz hk41 h
    · refine bw_iconst (pc := 62) (v := (1 : Int32)) C dX5_sure_62 ic_1 ?_
      obtain ⟨v11, ev11, h⟩ := bw_mv_o h
      refine bw_nmI ev11 ?_
      refine bw_istore_n (pc := 63) (L' := [(2, .int v11), (0, .ref (ρ 0)), (1, .int x1), (3, .int x3), (4, .int x4), (5, .int x5)]) C dX5_sure_63 rfl (by decide) rfl ?_
      refine bw_iload_n (pc := 64) C 3 dX5_sure_64 rfl rfl ?_
      refine bw_iload (pc := 65) C 5 dX5_sure_65 rfl ?_
      refine bw_iand (pc := 67) C dX5_sure_67 ?_
      obtain ⟨v12, ev12, h⟩ := bw_mv_o h
      refine bw_nmI ev12 ?_
      refine bw_istore_n (pc := 68) (L' := [(3, .int v12), (2, .int v11), (0, .ref (ρ 0)), (1, .int x1), (4, .int x4), (5, .int x5)]) C dX5_sure_68 rfl (by decide) rfl ?_
      refine bw_iload (pc := 69) C 4 dX5_sure_69 rfl ?_
      refine bw_iload (pc := 71) C 5 dX5_sure_71 rfl ?_
      refine bw_iconst (pc := 73) (v := (-1 : Int32)) C dX5_sure_73 ic_m1 ?_
      refine bw_ixor (pc := 74) C dX5_sure_74 ?_
      refine bw_iand (pc := 75) C dX5_sure_75 ?_
      obtain ⟨v13, ev13, h⟩ := bw_mv_o h
      refine bw_nmI ev13 ?_
      refine bw_istore (pc := 76) (L' := [(4, .int v13), (3, .int v12), (2, .int v11), (0, .ref (ρ 0)), (1, .int x1), (5, .int x5)]) C dX5_sure_76 (by decide) rfl ?_
      refine bw_pick [3, 4, 2, 1, 0, 5] rfl ?_
      exact tX5_sure_78 C N x1 k41 v11 v12 v13 x5 M rr zz hk41 h
def flX5_sure_41 (N : Nat) (x1 : Int32)   (M : bw_M) (fu : Nat) (w : Int32 × Int32 × Int32 × Int32) : Option (Int32 × bw_M) := bw_lp (fun kk w => fX5_sure_41 N x1 kk w.1 w.2.1 w.2.2.1 w.2.2.2 M) fu w
theorem tlX5_sure_41 {p : Program} {l : Launch} {e : Env} {s : State} {m : MethodId} {args : Array Value} {below : List Frame} {meth : Method} {c : Code} {D : va_G} {kT : Nat → ClassId} {ρ : Nat → Nat} (C : bw_Cx p s m args meth c cX5_sure 6 RX5 19 D kT ρ (some .int)) (N : Nat) (x1 : Int32)    (M : bw_M) (rr : Int32) (zz : bw_M)  (fu : Nat) (w : Int32 × Int32 × Int32 × Int32) (h : flX5_sure_41 N x1 M fu w = some (rr, zz)) : bw_At p l e rmX5_sure s m args below meth c (MQ below (bw_QI bw_shM 19 D kT ρ rr zz) args s 0 0 (bw_A ρ 19)) bw_shM 19 D kT ρ 6 41 [(0, .ref (ρ 0)), (1, .int x1), (2, .int w.1), (3, .int w.2.1), (4, .int w.2.2.1), (5, .int w.2.2.2)] [] M :=
  bw_loop (r := (rr, zz)) (fun w => bw_At p l e rmX5_sure s m args below meth c (MQ below (bw_QI bw_shM 19 D kT ρ rr zz) args s 0 0 (bw_A ρ 19)) bw_shM 19 D kT ρ 6 41 [(0, .ref (ρ 0)), (1, .int x1), (2, .int w.1), (3, .int w.2.1), (4, .int w.2.2.1), (5, .int w.2.2.2)] [] M) (fun kk hk w h => tX5_sure_41 C N x1 kk w.1 w.2.1 w.2.2.1 w.2.2.2 M rr zz hk h) fu w h
def fX5_sure (N : Nat) (x1 : Int32) (M : bw_M) : Option (Int32 × bw_M) :=
  bw_cl (fX5_in (Int32.toInt64 x1) (0 : Int64) (99 : Int64)) fun v1 =>
  if v1 = 0 then
  some ((-1 : Int32), M)
  else
  if (M.1 0 9) = 0 then
  some ((-4 : Int32), M)
  else
  bw_mv (0 : Int32) fun v2 =>
  bw_mv (((1 : Int32) <<< ((M.1 0 9) &&& 31)) - (1 : Int32)) fun v3 =>
  bw_mv (0 : Int32) fun v4 =>
  flX5_sure_41 N x1 M N (v2, v3, v3, v4)
theorem tX5_sure (l : Launch) (N : Nat) (x1 : Int32)  (M : bw_M) (rr : Int32) (zz : bw_M) (h : fX5_sure N x1 M = some (rr, zz)) : bw_CI l bw_shM 19 yX5_sure cX5_sure 6 (some .int) rmX5_sure (fun ρ => [.ref (ρ 0), .int x1]) M rr zz := by
  refine bw_inI (Lf := fun ρ => [(0, .ref (ρ 0)), (1, .int x1)]) cX5_sure 6 (some .int) RX5 pn_X5 rfl (fun ρ => Nat.le_of_ble_eq_true rfl) (fun ρ => rfl) ?_
  intro p e s m args below meth c D kT ρ C
  unfold fX5_sure at h
  refine bw_iload_n (pc := 0) C 1 dX5_sure_0 rfl rfl ?_
  refine bw_i2l (pc := 1) C dX5_sure_1 ?_
  refine bw_lconst (pc := 2) (v := (0 : Int64)) C dX5_sure_2 rfl ?_
  refine bw_ldc2_w (pc := 3) C mw_891 dX5_sure_3 ?_
  obtain ⟨v1, ev1, h⟩ := bw_cl_o h
  refine bw_cSi (pc := 6) (As := [.long (Int32.toInt64 x1), .long (0 : Int64), .long (99 : Int64)]) (rest := []) C (tX5_in l (Int32.toInt64 x1) (0 : Int64) (99 : Int64) M v1 ev1) msX5_in mw_717 rfl rfl ⟨Nat.le_of_ble_eq_true rfl, Nat.le_of_ble_eq_true rfl⟩ rfl rfl rfl (Nat.le_of_ble_eq_true rfl) dX5_sure_6 ?_
  refine bw_if_ne (pc := 9) C 14 dX5_sure_9 (by decide) h (fun h => ?_) (fun h => ?_)
  · refine bw_aload_n (pc := 14) C 0 dX5_sure_14 rfl rfl ?_
    refine bw_getI (pc := 15) (q := 0) (k0 := 9) C ltM_0 shM_0 rfl inX5 mw_624 (by decide) rfl dX5_sure_15 ?_
    refine bw_if_ne (pc := 18) C 24 dX5_sure_18 (by decide) h (fun h => ?_) (fun h => ?_)
    · refine bw_iconst (pc := 24) (v := (0 : Int32)) C dX5_sure_24 ic_0 ?_
      obtain ⟨v2, ev2, h⟩ := bw_mv_o h
      refine bw_nmI ev2 ?_
      refine bw_istore_n (pc := 25) (L' := [(2, .int v2), (0, .ref (ρ 0)), (1, .int x1)]) C dX5_sure_25 rfl (by decide) rfl ?_
      refine bw_iconst (pc := 26) (v := (1 : Int32)) C dX5_sure_26 ic_1 ?_
      refine bw_aload_n (pc := 27) C 1 dX5_sure_27 rfl rfl ?_
      refine bw_getI (pc := 28) (q := 0) (k0 := 9) C ltM_0 shM_0 rfl inX5 mw_624 (by decide) rfl dX5_sure_28 ?_
      refine bw_ishl (pc := 31) C dX5_sure_31 ?_
      refine bw_iconst (pc := 32) (v := (1 : Int32)) C dX5_sure_32 ic_1 ?_
      refine bw_isub (pc := 33) C dX5_sure_33 ?_
      obtain ⟨v3, ev3, h⟩ := bw_mv_o h
      refine bw_nmI ev3 ?_
      refine bw_istore_n (pc := 34) (L' := [(3, .int v3), (2, .int v2), (0, .ref (ρ 0)), (1, .int x1)]) C dX5_sure_34 rfl (by decide) rfl ?_
      refine bw_iload_n (pc := 35) C 0 dX5_sure_35 rfl rfl ?_
      refine bw_istore (pc := 36) (L' := [(4, .int v3), (3, .int v3), (2, .int v2), (0, .ref (ρ 0)), (1, .int x1)]) C dX5_sure_36 (by decide) rfl ?_
      refine bw_iconst (pc := 38) (v := (0 : Int32)) C dX5_sure_38 ic_0 ?_
      obtain ⟨v4, ev4, h⟩ := bw_mv_o h
      refine bw_nmI ev4 ?_
      refine bw_istore (pc := 39) (L' := [(5, .int v4), (4, .int v3), (3, .int v3), (2, .int v2), (0, .ref (ρ 0)), (1, .int x1)]) C dX5_sure_39 (by decide) rfl ?_
      refine bw_pick [4, 5, 3, 2, 1, 0] rfl ?_
      exact tlX5_sure_41 C N x1 M rr zz N (v2, v3, v3, v4) h
    · refine bw_bipush (pc := 21) (v := (-4 : Int32)) C dX5_sure_21 bi_m4 ?_
      exact bw_ireti (pc := 23) C dX5_sure_23 h
  · refine bw_iconst (pc := 12) (v := (-1 : Int32)) C dX5_sure_12 ic_m1 ?_
    exact bw_ireti (pc := 13) C dX5_sure_13 h
/-! X5_tear -/
abbrev rmX5_tear : Room := { frames := 2, cells := 0, slots := 0, locals := 45 }
theorem msX5_tear : bw_MV yX5_tear cX5_tear 2 (some .int) RX5 1 := ⟨mw_737, mw_738, mw_6, mw_739, by decide +kernel⟩
def fX5_tear (x1 : Int32) (M : bw_M) : Option (Int32 × bw_M) :=
  bw_cl (fX5_isRow x1) fun v1 =>
  if v1 = 0 then
  some ((-1 : Int32), M)
  else
  bw_rd M 2 6 x1 fun v2 =>
  if 0 ≤ v2 then
  bw_wr M 2 6 x1 (-1 : Int32) fun M3 =>
  some ((1 : Int32), M3)
  else
  bw_c2 (fX5_found (1 : Int32) M) fun v4 M5 =>
  some (v4, M5)
theorem tX5_tear (l : Launch) (x1 : Int32)  (M : bw_M) (rr : Int32) (zz : bw_M) (h : fX5_tear x1 M = some (rr, zz)) : bw_CI l bw_shM 19 yX5_tear cX5_tear 2 (some .int) rmX5_tear (fun ρ => [.ref (ρ 0), .int x1]) M rr zz := by
  refine bw_inI (Lf := fun ρ => [(0, .ref (ρ 0)), (1, .int x1)]) cX5_tear 2 (some .int) RX5 pn_X5 rfl (fun ρ => Nat.le_of_ble_eq_true rfl) (fun ρ => rfl) ?_
  intro p e s m args below meth c D kT ρ C
  unfold fX5_tear at h
  refine bw_iload_n (pc := 0) C 1 dX5_tear_0 rfl rfl ?_
  obtain ⟨v1, ev1, h⟩ := bw_cl_o h
  refine bw_cSi (pc := 1) (As := [.int x1]) (rest := []) C (tX5_isRow l x1 M v1 ev1) msX5_isRow mw_713 rfl rfl ⟨Nat.le_of_ble_eq_true rfl, Nat.le_of_ble_eq_true rfl⟩ rfl rfl rfl (Nat.le_of_ble_eq_true rfl) dX5_tear_1 ?_
  refine bw_if_ne (pc := 4) C 9 dX5_tear_4 (by decide) h (fun h => ?_) (fun h => ?_)
  · refine bw_aload_n (pc := 9) C 0 dX5_tear_9 rfl rfl ?_
    refine bw_getR (pc := 10) (q := 0) (k0 := 1) C ltM_0 shM_0 rfl inX5 mw_616 (by decide) rfl dX5_tear_10 ?_
    refine bw_iload_n (pc := 13) C 1 dX5_tear_13 rfl rfl ?_
    obtain ⟨qv2, v2, ev2, h⟩ := bw_rd_o h
    refine bw_iald (pc := 14) (q := 2) C ltM_2 shM_2 qv2 ev2 dX5_tear_14 ?_
    refine bw_if_ge (pc := 15) C 24 dX5_tear_15 (by decide) h (fun h => ?_) (fun h => ?_)
    · refine bw_aload_n (pc := 24) C 0 dX5_tear_24 rfl rfl ?_
      refine bw_getR (pc := 25) (q := 0) (k0 := 1) C ltM_0 shM_0 rfl inX5 mw_616 (by decide) rfl dX5_tear_25 ?_
      refine bw_iload_n (pc := 28) C 1 dX5_tear_28 rfl rfl ?_
      refine bw_iconst (pc := 29) (v := (-1 : Int32)) C dX5_tear_29 ic_m1 ?_
      obtain ⟨qM3, M3, eM3, h⟩ := bw_wr_o h
      refine bw_iast (pc := 30) (q := 2) C ltM_2 shM_2 qM3 eM3 dX5_tear_30 ?_
      refine bw_iconst (pc := 31) (v := (1 : Int32)) C dX5_tear_31 ic_1 ?_
      exact bw_ireti (pc := 32) C dX5_tear_32 h
    · refine bw_aload_n (pc := 18) C 0 dX5_tear_18 rfl rfl ?_
      refine bw_iconst (pc := 19) (v := (1 : Int32)) C dX5_tear_19 ic_1 ?_
      obtain ⟨v4, M5, ev4, h⟩ := bw_c2_o h
      refine bw_cVi (pc := 20) (q := 0) (As := [.int (1 : Int32)]) (rest := []) C (tX5_found l (1 : Int32) M v4 M5 ev4) msX5_found mw_720 rfl rfl ⟨Nat.le_of_ble_eq_true rfl, Nat.le_of_ble_eq_true rfl⟩ ltM_0 shM_0 rfl rfl rfl rfl (Nat.le_of_ble_eq_true rfl) dX5_tear_20 ?_
      exact bw_ireti (pc := 23) C dX5_tear_23 h
  · refine bw_iconst (pc := 7) (v := (-1 : Int32)) C dX5_tear_7 ic_m1 ?_
    exact bw_ireti (pc := 8) C dX5_tear_8 h
/-! X5_text -/
abbrev rmX5_text : Room := { frames := 2, cells := 0, slots := 0, locals := 45 }
theorem msX5_text : bw_MV yX5_text cX5_text 4 (some .int) RX5 2 := ⟨mw_749, mw_750, mw_6, mw_751, by decide +kernel⟩
def fX5_text_13 (N : Nat) (x1 : Int32) (x2 : Int32)   (M : bw_M) : Option (Int32 × bw_M) :=
  some ((-1 : Int32), M)
theorem tX5_text_13 {p : Program} {l : Launch} {e : Env} {s : State} {m : MethodId} {args : Array Value} {below : List Frame} {meth : Method} {c : Code} {D : va_G} {kT : Nat → ClassId} {ρ : Nat → Nat} (C : bw_Cx p s m args meth c cX5_text 4 RX5 19 D kT ρ (some .int)) (N : Nat) (x1 : Int32) (x2 : Int32)    (M : bw_M) (rr : Int32) (zz : bw_M)  (h : fX5_text_13 N x1 x2 M = some (rr, zz)) : bw_At p l e rmX5_text s m args below meth c (MQ below (bw_QI bw_shM 19 D kT ρ rr zz) args s 0 0 (bw_A ρ 19)) bw_shM 19 D kT ρ 4 13 [(0, .ref (ρ 0)), (1, .int x1), (2, .int x2)] [] M := by
  unfold fX5_text_13 at h
  refine bw_iconst (pc := 13) (v := (-1 : Int32)) C dX5_text_13 ic_m1 ?_
  exact bw_ireti (pc := 14) C dX5_text_14 h
def fX5_text_34 (N : Nat) (x1 : Int32) (x2 : Int32) (k34 : Int32 × bw_M → Option (Int32 × bw_M)) (x3 : Int32) (M : bw_M) : Option (Int32 × bw_M) :=
  if (60 : Int32) ≤ x3 then
  some (x2, M)
  else
  bw_wr M 3 240 (((60 : Int32) * x1) + x3) (32 : Int32) fun M4 =>
  bw_mv (x3 + 1) fun v5 =>
  k34 (v5, M4)
theorem tX5_text_34 {p : Program} {l : Launch} {e : Env} {s : State} {m : MethodId} {args : Array Value} {below : List Frame} {meth : Method} {c : Code} {D : va_G} {kT : Nat → ClassId} {ρ : Nat → Nat} (C : bw_Cx p s m args meth c cX5_text 4 RX5 19 D kT ρ (some .int)) (N : Nat) (x1 : Int32) (x2 : Int32)  (k34 : Int32 × bw_M → Option (Int32 × bw_M)) (x3 : Int32) (M : bw_M) (rr : Int32) (zz : bw_M) (hk34 : ∀ z0, k34 z0 = some (rr, zz) → bw_At p l e rmX5_text s m args below meth c (MQ below (bw_QI bw_shM 19 D kT ρ rr zz) args s 0 0 (bw_A ρ 19)) bw_shM 19 D kT ρ 4 34 [(0, .ref (ρ 0)), (1, .int x1), (2, .int x2), (3, .int z0.1)] [] z0.2) (h : fX5_text_34 N x1 x2 k34 x3 M = some (rr, zz)) : bw_At p l e rmX5_text s m args below meth c (MQ below (bw_QI bw_shM 19 D kT ρ rr zz) args s 0 0 (bw_A ρ 19)) bw_shM 19 D kT ρ 4 34 [(0, .ref (ρ 0)), (1, .int x1), (2, .int x2), (3, .int x3)] [] M := by
  unfold fX5_text_34 at h
  refine bw_iload_n (pc := 34) C 3 dX5_text_34 rfl rfl ?_
  refine bw_bipush (pc := 35) (v := (60 : Int32)) C dX5_text_35 bi_60 ?_
  refine bw_icmp_ge (pc := 37) C 59 dX5_text_37 (by decide) h (fun h => ?_) (fun h => ?_)
  · refine bw_iload_n (pc := 59) C 2 dX5_text_59 rfl rfl ?_
    exact bw_ireti (pc := 60) C dX5_text_60 h
  · refine bw_aload_n (pc := 40) C 0 dX5_text_40 rfl rfl ?_
    refine bw_getR (pc := 41) (q := 0) (k0 := 2) C ltM_0 shM_0 rfl inX5 mw_617 (by decide) rfl dX5_text_41 ?_
    refine bw_bipush (pc := 44) (v := (60 : Int32)) C dX5_text_44 bi_60 ?_
    refine bw_iload_n (pc := 46) C 1 dX5_text_46 rfl rfl ?_
    refine bw_imul (pc := 47) C dX5_text_47 ?_
    refine bw_iload_n (pc := 48) C 3 dX5_text_48 rfl rfl ?_
    refine bw_iadd (pc := 49) C dX5_text_49 ?_
    refine bw_bipush (pc := 50) (v := (32 : Int32)) C dX5_text_50 bi_32 ?_
    obtain ⟨qM4, M4, eM4, h⟩ := bw_wr_o h
    refine bw_iast (pc := 52) (q := 3) C ltM_3 shM_3 qM4 eM4 dX5_text_52 ?_
    obtain ⟨v5, ev5, h⟩ := bw_mv_o h
    refine bw_iinc (pc := 53) (x := v5) (L' := [(3, .int v5), (0, .ref (ρ 0)), (1, .int x1), (2, .int x2)]) C 3 dX5_text_53 rfl ev5.symm (by decide) rfl ?_
    refine bw_goto (pc := 56) C 34 dX5_text_56 (by decide) ?_
    refine bw_pick [1, 2, 3, 0] rfl ?_
    exact hk34 (v5, M4) h
def flX5_text_34 (N : Nat) (x1 : Int32) (x2 : Int32)    (fu : Nat) (w : Int32 × bw_M) : Option (Int32 × bw_M) := bw_lp (fun kk w => fX5_text_34 N x1 x2 kk w.1 w.2) fu w
theorem tlX5_text_34 {p : Program} {l : Launch} {e : Env} {s : State} {m : MethodId} {args : Array Value} {below : List Frame} {meth : Method} {c : Code} {D : va_G} {kT : Nat → ClassId} {ρ : Nat → Nat} (C : bw_Cx p s m args meth c cX5_text 4 RX5 19 D kT ρ (some .int)) (N : Nat) (x1 : Int32) (x2 : Int32)     (rr : Int32) (zz : bw_M)  (fu : Nat) (w : Int32 × bw_M) (h : flX5_text_34 N x1 x2 fu w = some (rr, zz)) : bw_At p l e rmX5_text s m args below meth c (MQ below (bw_QI bw_shM 19 D kT ρ rr zz) args s 0 0 (bw_A ρ 19)) bw_shM 19 D kT ρ 4 34 [(0, .ref (ρ 0)), (1, .int x1), (2, .int x2), (3, .int w.1)] [] w.2 :=
  bw_loop (r := (rr, zz)) (fun w => bw_At p l e rmX5_text s m args below meth c (MQ below (bw_QI bw_shM 19 D kT ρ rr zz) args s 0 0 (bw_A ρ 19)) bw_shM 19 D kT ρ 4 34 [(0, .ref (ρ 0)), (1, .int x1), (2, .int x2), (3, .int w.1)] [] w.2) (fun kk hk w h => tX5_text_34 C N x1 x2 kk w.1 w.2 rr zz hk h) fu w h
def fX5_text (N : Nat) (x1 : Int32) (x2 : Int32) (M : bw_M) : Option (Int32 × bw_M) :=
  bw_cl (fX5_isText x1) fun v1 =>
  if v1 = 0 then
  fX5_text_13 N x1 x2 M
  else
  if x2 ≤ (60 : Int32) then
  if 0 ≤ x2 then
  bw_wr M 4 4 x1 x2 fun M2 =>
  bw_mv (0 : Int32) fun v3 =>
  flX5_text_34 N x1 x2 N (v3, M2)
  else
  bw_c2 (fX5_found (5 : Int32) M) fun v6 M7 =>
  some (v6, M7)
  else
  fX5_text_13 N x1 x2 M
theorem tX5_text (l : Launch) (N : Nat) (x1 : Int32) (x2 : Int32)  (M : bw_M) (rr : Int32) (zz : bw_M) (h : fX5_text N x1 x2 M = some (rr, zz)) : bw_CI l bw_shM 19 yX5_text cX5_text 4 (some .int) rmX5_text (fun ρ => [.ref (ρ 0), .int x1, .int x2]) M rr zz := by
  refine bw_inI (Lf := fun ρ => [(0, .ref (ρ 0)), (1, .int x1), (2, .int x2)]) cX5_text 4 (some .int) RX5 pn_X5 rfl (fun ρ => Nat.le_of_ble_eq_true rfl) (fun ρ => rfl) ?_
  intro p e s m args below meth c D kT ρ C
  unfold fX5_text at h
  refine bw_iload_n (pc := 0) C 1 dX5_text_0 rfl rfl ?_
  obtain ⟨v1, ev1, h⟩ := bw_cl_o h
  refine bw_cSi (pc := 1) (As := [.int x1]) (rest := []) C (tX5_isText l x1 M v1 ev1) msX5_isText mw_752 rfl rfl ⟨Nat.le_of_ble_eq_true rfl, Nat.le_of_ble_eq_true rfl⟩ rfl rfl rfl (Nat.le_of_ble_eq_true rfl) dX5_text_1 ?_
  refine bw_if_eq (pc := 4) C 13 dX5_text_4 (by decide) h (fun h => ?_) (fun h => ?_)
  · refine bw_pick [0, 1, 2] rfl ?_
    exact tX5_text_13 C N x1 x2 M rr zz h
  · refine bw_iload_n (pc := 7) C 2 dX5_text_7 rfl rfl ?_
    refine bw_bipush (pc := 8) (v := (60 : Int32)) C dX5_text_8 bi_60 ?_
    refine bw_icmp_le (pc := 10) C 15 dX5_text_10 (by decide) h (fun h => ?_) (fun h => ?_)
    · refine bw_iload_n (pc := 15) C 2 dX5_text_15 rfl rfl ?_
      refine bw_if_ge (pc := 16) C 25 dX5_text_16 (by decide) h (fun h => ?_) (fun h => ?_)
      · refine bw_aload_n (pc := 25) C 0 dX5_text_25 rfl rfl ?_
        refine bw_getR (pc := 26) (q := 0) (k0 := 3) C ltM_0 shM_0 rfl inX5 mw_618 (by decide) rfl dX5_text_26 ?_
        refine bw_iload_n (pc := 29) C 1 dX5_text_29 rfl rfl ?_
        refine bw_iload_n (pc := 30) C 2 dX5_text_30 rfl rfl ?_
        obtain ⟨qM2, M2, eM2, h⟩ := bw_wr_o h
        refine bw_iast (pc := 31) (q := 4) C ltM_4 shM_4 qM2 eM2 dX5_text_31 ?_
        refine bw_iconst (pc := 32) (v := (0 : Int32)) C dX5_text_32 ic_0 ?_
        obtain ⟨v3, ev3, h⟩ := bw_mv_o h
        refine bw_nmI ev3 ?_
        refine bw_istore_n (pc := 33) (L' := [(3, .int v3), (0, .ref (ρ 0)), (1, .int x1), (2, .int x2)]) C dX5_text_33 rfl (by decide) rfl ?_
        refine bw_pick [1, 2, 3, 0] rfl ?_
        exact tlX5_text_34 C N x1 x2 rr zz N (v3, M2) h
      · refine bw_aload_n (pc := 19) C 0 dX5_text_19 rfl rfl ?_
        refine bw_iconst (pc := 20) (v := (5 : Int32)) C dX5_text_20 ic_5 ?_
        obtain ⟨v6, M7, ev6, h⟩ := bw_c2_o h
        refine bw_cVi (pc := 21) (q := 0) (As := [.int (5 : Int32)]) (rest := []) C (tX5_found l (5 : Int32) M v6 M7 ev6) msX5_found mw_720 rfl rfl ⟨Nat.le_of_ble_eq_true rfl, Nat.le_of_ble_eq_true rfl⟩ ltM_0 shM_0 rfl rfl rfl rfl (Nat.le_of_ble_eq_true rfl) dX5_text_21 ?_
        exact bw_ireti (pc := 24) C dX5_text_24 h
    · refine bw_pick [0, 1, 2] rfl ?_
      exact tX5_text_13 C N x1 x2 M rr zz h
/-! X5_town -/
abbrev rmX5_town : Room := { frames := 4, cells := 0, slots := 0, locals := 90 }
theorem msX5_town : bw_MV yX5_town cX5_town 3 (some .int) RX5 1 := ⟨mw_792, mw_793, mw_6, mw_794, by decide +kernel⟩
def fX5_town_97 (N : Nat) (x1 : Int32) (k97 : Int32 × bw_M → Option (Int32 × bw_M)) (x2 : Int32) (M : bw_M) : Option (Int32 × bw_M) :=
  if (17 : Int32) ≤ x2 then
  bw_wr M 9 17 (0 : Int32) (M.1 0 22) fun M8 =>
  bw_wr M8 9 17 (1 : Int32) (M8.1 0 23) fun M9 =>
  bw_cl (fX5_forgets N M9) fun M10 =>
  some ((M10.1 0 9), M10)
  else
  bw_wr M 9 17 x2 (0 : Int32) fun M11 =>
  bw_mv (x2 + 1) fun v12 =>
  k97 (v12, M11)
theorem tX5_town_97 {p : Program} {l : Launch} {e : Env} {s : State} {m : MethodId} {args : Array Value} {below : List Frame} {meth : Method} {c : Code} {D : va_G} {kT : Nat → ClassId} {ρ : Nat → Nat} (C : bw_Cx p s m args meth c cX5_town 3 RX5 19 D kT ρ (some .int)) (N : Nat) (x1 : Int32)  (k97 : Int32 × bw_M → Option (Int32 × bw_M)) (x2 : Int32) (M : bw_M) (rr : Int32) (zz : bw_M) (hk97 : ∀ z0, k97 z0 = some (rr, zz) → bw_At p l e rmX5_town s m args below meth c (MQ below (bw_QI bw_shM 19 D kT ρ rr zz) args s 0 0 (bw_A ρ 19)) bw_shM 19 D kT ρ 3 97 [(0, .ref (ρ 0)), (1, .int x1), (2, .int z0.1)] [] z0.2) (h : fX5_town_97 N x1 k97 x2 M = some (rr, zz)) : bw_At p l e rmX5_town s m args below meth c (MQ below (bw_QI bw_shM 19 D kT ρ rr zz) args s 0 0 (bw_A ρ 19)) bw_shM 19 D kT ρ 3 97 [(0, .ref (ρ 0)), (1, .int x1), (2, .int x2)] [] M := by
  unfold fX5_town_97 at h
  refine bw_iload_n (pc := 97) C 2 dX5_town_97 rfl rfl ?_
  refine bw_bipush (pc := 98) (v := (17 : Int32)) C dX5_town_98 bi_17 ?_
  refine bw_icmp_ge (pc := 100) C 116 dX5_town_100 (by decide) h (fun h => ?_) (fun h => ?_)
  · refine bw_aload_n (pc := 116) C 0 dX5_town_116 rfl rfl ?_
    refine bw_getR (pc := 117) (q := 0) (k0 := 13) C ltM_0 shM_0 rfl inX5 mw_628 (by decide) rfl dX5_town_117 ?_
    refine bw_iconst (pc := 120) (v := (0 : Int32)) C dX5_town_120 ic_0 ?_
    refine bw_aload_n (pc := 121) C 0 dX5_town_121 rfl rfl ?_
    refine bw_getI (pc := 122) (q := 0) (k0 := 22) C ltM_0 shM_0 rfl inX5 mw_637 (by decide) rfl dX5_town_122 ?_
    obtain ⟨qM8, M8, eM8, h⟩ := bw_wr_o h
    refine bw_iast (pc := 125) (q := 9) C ltM_9 shM_9 qM8 eM8 dX5_town_125 ?_
    refine bw_aload_n (pc := 126) C 0 dX5_town_126 rfl rfl ?_
    refine bw_getR (pc := 127) (q := 0) (k0 := 13) C ltM_0 shM_0 rfl inX5 mw_628 (by decide) rfl dX5_town_127 ?_
    refine bw_iconst (pc := 130) (v := (1 : Int32)) C dX5_town_130 ic_1 ?_
    refine bw_aload_n (pc := 131) C 0 dX5_town_131 rfl rfl ?_
    refine bw_getI (pc := 132) (q := 0) (k0 := 23) C ltM_0 shM_0 rfl inX5 mw_638 (by decide) rfl dX5_town_132 ?_
    obtain ⟨qM9, M9, eM9, h⟩ := bw_wr_o h
    refine bw_iast (pc := 135) (q := 9) C ltM_9 shM_9 qM9 eM9 dX5_town_135 ?_
    refine bw_aload_n (pc := 136) C 0 dX5_town_136 rfl rfl ?_
    obtain ⟨M10, eM10, h⟩ := bw_cl_o h
    refine bw_cVv (pc := 137) (q := 0) (As := []) (rest := []) C (tX5_forgets l N M9 M10 eM10) msX5_forgets mw_611 rfl rfl ⟨Nat.le_of_ble_eq_true rfl, Nat.le_of_ble_eq_true rfl⟩ ltM_0 shM_0 rfl rfl rfl rfl (Nat.le_of_ble_eq_true rfl) dX5_town_137 ?_
    refine bw_aload_n (pc := 140) C 0 dX5_town_140 rfl rfl ?_
    refine bw_getI (pc := 141) (q := 0) (k0 := 9) C ltM_0 shM_0 rfl inX5 mw_624 (by decide) rfl dX5_town_141 ?_
    exact bw_ireti (pc := 144) C dX5_town_144 h
  · refine bw_aload_n (pc := 103) C 0 dX5_town_103 rfl rfl ?_
    refine bw_getR (pc := 104) (q := 0) (k0 := 13) C ltM_0 shM_0 rfl inX5 mw_628 (by decide) rfl dX5_town_104 ?_
    refine bw_iload_n (pc := 107) C 2 dX5_town_107 rfl rfl ?_
    refine bw_iconst (pc := 108) (v := (0 : Int32)) C dX5_town_108 ic_0 ?_
    obtain ⟨qM11, M11, eM11, h⟩ := bw_wr_o h
    refine bw_iast (pc := 109) (q := 9) C ltM_9 shM_9 qM11 eM11 dX5_town_109 ?_
    obtain ⟨v12, ev12, h⟩ := bw_mv_o h
    refine bw_iinc (pc := 110) (x := v12) (L' := [(2, .int v12), (0, .ref (ρ 0)), (1, .int x1)]) C 2 dX5_town_110 rfl ev12.symm (by decide) rfl ?_
    refine bw_goto (pc := 113) C 97 dX5_town_113 (by decide) ?_
    refine bw_pick [1, 2, 0] rfl ?_
    exact hk97 (v12, M11) h
def flX5_town_97 (N : Nat) (x1 : Int32)    (fu : Nat) (w : Int32 × bw_M) : Option (Int32 × bw_M) := bw_lp (fun kk w => fX5_town_97 N x1 kk w.1 w.2) fu w
theorem tlX5_town_97 {p : Program} {l : Launch} {e : Env} {s : State} {m : MethodId} {args : Array Value} {below : List Frame} {meth : Method} {c : Code} {D : va_G} {kT : Nat → ClassId} {ρ : Nat → Nat} (C : bw_Cx p s m args meth c cX5_town 3 RX5 19 D kT ρ (some .int)) (N : Nat) (x1 : Int32)     (rr : Int32) (zz : bw_M)  (fu : Nat) (w : Int32 × bw_M) (h : flX5_town_97 N x1 fu w = some (rr, zz)) : bw_At p l e rmX5_town s m args below meth c (MQ below (bw_QI bw_shM 19 D kT ρ rr zz) args s 0 0 (bw_A ρ 19)) bw_shM 19 D kT ρ 3 97 [(0, .ref (ρ 0)), (1, .int x1), (2, .int w.1)] [] w.2 :=
  bw_loop (r := (rr, zz)) (fun w => bw_At p l e rmX5_town s m args below meth c (MQ below (bw_QI bw_shM 19 D kT ρ rr zz) args s 0 0 (bw_A ρ 19)) bw_shM 19 D kT ρ 3 97 [(0, .ref (ρ 0)), (1, .int x1), (2, .int w.1)] [] w.2) (fun kk hk w h => tX5_town_97 C N x1 kk w.1 w.2 rr zz hk h) fu w h
def fX5_town_47 (N : Nat) (x1 : Int32) (k47 : Int32 × bw_M → Option (Int32 × bw_M)) (x2 : Int32) (M : bw_M) : Option (Int32 × bw_M) :=
  if (6 : Int32) ≤ x2 then
  bw_mv (0 : Int32) fun v7 =>
  flX5_town_97 N x1 N (v7, M)
  else
  bw_rd M 13 6 x2 fun v13 =>
  bw_wr M 6 6 x2 v13 fun M14 =>
  bw_rd M14 14 6 x2 fun v15 =>
  bw_wr M14 7 6 x2 v15 fun M16 =>
  bw_rd M16 15 6 x2 fun v17 =>
  bw_wr M16 8 6 x2 v17 fun M18 =>
  bw_mv (x2 + 1) fun v19 =>
  k47 (v19, M18)
theorem tX5_town_47 {p : Program} {l : Launch} {e : Env} {s : State} {m : MethodId} {args : Array Value} {below : List Frame} {meth : Method} {c : Code} {D : va_G} {kT : Nat → ClassId} {ρ : Nat → Nat} (C : bw_Cx p s m args meth c cX5_town 3 RX5 19 D kT ρ (some .int)) (N : Nat) (x1 : Int32)  (k47 : Int32 × bw_M → Option (Int32 × bw_M)) (x2 : Int32) (M : bw_M) (rr : Int32) (zz : bw_M) (hk47 : ∀ z0, k47 z0 = some (rr, zz) → bw_At p l e rmX5_town s m args below meth c (MQ below (bw_QI bw_shM 19 D kT ρ rr zz) args s 0 0 (bw_A ρ 19)) bw_shM 19 D kT ρ 3 47 [(0, .ref (ρ 0)), (1, .int x1), (2, .int z0.1)] [] z0.2) (h : fX5_town_47 N x1 k47 x2 M = some (rr, zz)) : bw_At p l e rmX5_town s m args below meth c (MQ below (bw_QI bw_shM 19 D kT ρ rr zz) args s 0 0 (bw_A ρ 19)) bw_shM 19 D kT ρ 3 47 [(0, .ref (ρ 0)), (1, .int x1), (2, .int x2)] [] M := by
  unfold fX5_town_47 at h
  refine bw_iload_n (pc := 47) C 2 dX5_town_47 rfl rfl ?_
  refine bw_bipush (pc := 48) (v := (6 : Int32)) C dX5_town_48 bi_6 ?_
  refine bw_icmp_ge (pc := 50) C 95 dX5_town_50 (by decide) h (fun h => ?_) (fun h => ?_)
  · refine bw_iconst (pc := 95) (v := (0 : Int32)) C dX5_town_95 ic_0 ?_
    obtain ⟨v7, ev7, h⟩ := bw_mv_o h
    refine bw_nmI ev7 ?_
    refine bw_istore_n (pc := 96) (L' := [(2, .int v7), (0, .ref (ρ 0)), (1, .int x1)]) C dX5_town_96 rfl (by decide) rfl ?_
    refine bw_pick [1, 2, 0] rfl ?_
    exact tlX5_town_97 C N x1 rr zz N (v7, M) h
  · refine bw_aload_n (pc := 53) C 0 dX5_town_53 rfl rfl ?_
    refine bw_getR (pc := 54) (q := 0) (k0 := 10) C ltM_0 shM_0 rfl inX5 mw_625 (by decide) rfl dX5_town_54 ?_
    refine bw_iload_n (pc := 57) C 2 dX5_town_57 rfl rfl ?_
    refine bw_aload_n (pc := 58) C 0 dX5_town_58 rfl rfl ?_
    refine bw_getR (pc := 59) (q := 0) (k0 := 25) C ltM_0 shM_0 rfl inX5 mw_640 (by decide) rfl dX5_town_59 ?_
    refine bw_iload_n (pc := 62) C 2 dX5_town_62 rfl rfl ?_
    obtain ⟨qv13, v13, ev13, h⟩ := bw_rd_o h
    refine bw_iald (pc := 63) (q := 13) C ltM_13 shM_13 qv13 ev13 dX5_town_63 ?_
    obtain ⟨qM14, M14, eM14, h⟩ := bw_wr_o h
    refine bw_iast (pc := 64) (q := 6) C ltM_6 shM_6 qM14 eM14 dX5_town_64 ?_
    refine bw_aload_n (pc := 65) C 0 dX5_town_65 rfl rfl ?_
    refine bw_getR (pc := 66) (q := 0) (k0 := 11) C ltM_0 shM_0 rfl inX5 mw_626 (by decide) rfl dX5_town_66 ?_
    refine bw_iload_n (pc := 69) C 2 dX5_town_69 rfl rfl ?_
    refine bw_aload_n (pc := 70) C 0 dX5_town_70 rfl rfl ?_
    refine bw_getR (pc := 71) (q := 0) (k0 := 26) C ltM_0 shM_0 rfl inX5 mw_641 (by decide) rfl dX5_town_71 ?_
    refine bw_iload_n (pc := 74) C 2 dX5_town_74 rfl rfl ?_
    obtain ⟨qv15, v15, ev15, h⟩ := bw_rd_o h
    refine bw_iald (pc := 75) (q := 14) C ltM_14 shM_14 qv15 ev15 dX5_town_75 ?_
    obtain ⟨qM16, M16, eM16, h⟩ := bw_wr_o h
    refine bw_iast (pc := 76) (q := 7) C ltM_7 shM_7 qM16 eM16 dX5_town_76 ?_
    refine bw_aload_n (pc := 77) C 0 dX5_town_77 rfl rfl ?_
    refine bw_getR (pc := 78) (q := 0) (k0 := 12) C ltM_0 shM_0 rfl inX5 mw_627 (by decide) rfl dX5_town_78 ?_
    refine bw_iload_n (pc := 81) C 2 dX5_town_81 rfl rfl ?_
    refine bw_aload_n (pc := 82) C 0 dX5_town_82 rfl rfl ?_
    refine bw_getR (pc := 83) (q := 0) (k0 := 27) C ltM_0 shM_0 rfl inX5 mw_642 (by decide) rfl dX5_town_83 ?_
    refine bw_iload_n (pc := 86) C 2 dX5_town_86 rfl rfl ?_
    obtain ⟨qv17, v17, ev17, h⟩ := bw_rd_o h
    refine bw_iald (pc := 87) (q := 15) C ltM_15 shM_15 qv17 ev17 dX5_town_87 ?_
    obtain ⟨qM18, M18, eM18, h⟩ := bw_wr_o h
    refine bw_iast (pc := 88) (q := 8) C ltM_8 shM_8 qM18 eM18 dX5_town_88 ?_
    obtain ⟨v19, ev19, h⟩ := bw_mv_o h
    refine bw_iinc (pc := 89) (x := v19) (L' := [(2, .int v19), (0, .ref (ρ 0)), (1, .int x1)]) C 2 dX5_town_89 rfl ev19.symm (by decide) rfl ?_
    refine bw_goto (pc := 92) C 47 dX5_town_92 (by decide) ?_
    refine bw_pick [1, 2, 0] rfl ?_
    exact hk47 (v19, M18) h
def flX5_town_47 (N : Nat) (x1 : Int32)    (fu : Nat) (w : Int32 × bw_M) : Option (Int32 × bw_M) := bw_lp (fun kk w => fX5_town_47 N x1 kk w.1 w.2) fu w
theorem tlX5_town_47 {p : Program} {l : Launch} {e : Env} {s : State} {m : MethodId} {args : Array Value} {below : List Frame} {meth : Method} {c : Code} {D : va_G} {kT : Nat → ClassId} {ρ : Nat → Nat} (C : bw_Cx p s m args meth c cX5_town 3 RX5 19 D kT ρ (some .int)) (N : Nat) (x1 : Int32)     (rr : Int32) (zz : bw_M)  (fu : Nat) (w : Int32 × bw_M) (h : flX5_town_47 N x1 fu w = some (rr, zz)) : bw_At p l e rmX5_town s m args below meth c (MQ below (bw_QI bw_shM 19 D kT ρ rr zz) args s 0 0 (bw_A ρ 19)) bw_shM 19 D kT ρ 3 47 [(0, .ref (ρ 0)), (1, .int x1), (2, .int w.1)] [] w.2 :=
  bw_loop (r := (rr, zz)) (fun w => bw_At p l e rmX5_town s m args below meth c (MQ below (bw_QI bw_shM 19 D kT ρ rr zz) args s 0 0 (bw_A ρ 19)) bw_shM 19 D kT ρ 3 47 [(0, .ref (ρ 0)), (1, .int x1), (2, .int w.1)] [] w.2) (fun kk hk w h => tX5_town_47 C N x1 kk w.1 w.2 rr zz hk h) fu w h
def fX5_town (N : Nat) (x1 : Int32) (M : bw_M) : Option (Int32 × bw_M) :=
  bw_cl (fX5_isText x1) fun v1 =>
  if v1 = 0 then
  some ((-1 : Int32), M)
  else
  bw_rd M 4 4 x1 fun v2 =>
  if 0 ≤ v2 then
  bw_c2 (fX5_reads N x1 M) fun v3 M4 =>
  if v3 = (-9 : Int32) then
  bw_mv (bw_pI M4 0 9 (M4.1 0 24)) fun M5 =>
  bw_mv (0 : Int32) fun v6 =>
  flX5_town_47 N x1 N (v6, M5)
  else
  some ((-4 : Int32), M4)
  else
  bw_c2 (fX5_found (1 : Int32) M) fun v20 M21 =>
  some (v20, M21)
theorem tX5_town (l : Launch) (N : Nat) (x1 : Int32)  (M : bw_M) (rr : Int32) (zz : bw_M) (h : fX5_town N x1 M = some (rr, zz)) : bw_CI l bw_shM 19 yX5_town cX5_town 3 (some .int) rmX5_town (fun ρ => [.ref (ρ 0), .int x1]) M rr zz := by
  refine bw_inI (Lf := fun ρ => [(0, .ref (ρ 0)), (1, .int x1)]) cX5_town 3 (some .int) RX5 pn_X5 rfl (fun ρ => Nat.le_of_ble_eq_true rfl) (fun ρ => rfl) ?_
  intro p e s m args below meth c D kT ρ C
  unfold fX5_town at h
  refine bw_iload_n (pc := 0) C 1 dX5_town_0 rfl rfl ?_
  obtain ⟨v1, ev1, h⟩ := bw_cl_o h
  refine bw_cSi (pc := 1) (As := [.int x1]) (rest := []) C (tX5_isText l x1 M v1 ev1) msX5_isText mw_752 rfl rfl ⟨Nat.le_of_ble_eq_true rfl, Nat.le_of_ble_eq_true rfl⟩ rfl rfl rfl (Nat.le_of_ble_eq_true rfl) dX5_town_1 ?_
  refine bw_if_ne (pc := 4) C 9 dX5_town_4 (by decide) h (fun h => ?_) (fun h => ?_)
  · refine bw_aload_n (pc := 9) C 0 dX5_town_9 rfl rfl ?_
    refine bw_getR (pc := 10) (q := 0) (k0 := 3) C ltM_0 shM_0 rfl inX5 mw_618 (by decide) rfl dX5_town_10 ?_
    refine bw_iload_n (pc := 13) C 1 dX5_town_13 rfl rfl ?_
    obtain ⟨qv2, v2, ev2, h⟩ := bw_rd_o h
    refine bw_iald (pc := 14) (q := 4) C ltM_4 shM_4 qv2 ev2 dX5_town_14 ?_
    refine bw_if_ge (pc := 15) C 24 dX5_town_15 (by decide) h (fun h => ?_) (fun h => ?_)
    · refine bw_aload_n (pc := 24) C 0 dX5_town_24 rfl rfl ?_
      refine bw_iload_n (pc := 25) C 1 dX5_town_25 rfl rfl ?_
      obtain ⟨v3, M4, ev3, h⟩ := bw_c2_o h
      refine bw_cVi (pc := 26) (q := 0) (As := [.int x1]) (rest := []) C (tX5_reads l N x1 M v3 M4 ev3) msX5_reads mw_764 rfl rfl ⟨Nat.le_of_ble_eq_true rfl, Nat.le_of_ble_eq_true rfl⟩ ltM_0 shM_0 rfl rfl rfl rfl (Nat.le_of_ble_eq_true rfl) dX5_town_26 ?_
      refine bw_bipush (pc := 29) (v := (-9 : Int32)) C dX5_town_29 bi_m9 ?_
      refine bw_icmp_eq (pc := 31) C 37 dX5_town_31 (by decide) h (fun h => ?_) (fun h => ?_)
      · refine bw_aload_n (pc := 37) C 0 dX5_town_37 rfl rfl ?_
        refine bw_aload_n (pc := 38) C 0 dX5_town_38 rfl rfl ?_
        refine bw_getI (pc := 39) (q := 0) (k0 := 24) C ltM_0 shM_0 rfl inX5 mw_639 (by decide) rfl dX5_town_39 ?_
        obtain ⟨M5, eM5, h⟩ := bw_mv_o h
        refine bw_putI (pc := 42) (q := 0) (k0 := 9) C ltM_0 shM_0 rfl inX5 mw_624 (by decide) tyX5 tyX5_ok nmX5 rfl rfl rfl eM5 rfl rfl dX5_town_42 ?_
        refine bw_iconst (pc := 45) (v := (0 : Int32)) C dX5_town_45 ic_0 ?_
        obtain ⟨v6, ev6, h⟩ := bw_mv_o h
        refine bw_nmI ev6 ?_
        refine bw_istore_n (pc := 46) (L' := [(2, .int v6), (0, .ref (ρ 0)), (1, .int x1)]) C dX5_town_46 rfl (by decide) rfl ?_
        refine bw_pick [1, 2, 0] rfl ?_
        exact tlX5_town_47 C N x1 rr zz N (v6, M5) h
      · refine bw_bipush (pc := 34) (v := (-4 : Int32)) C dX5_town_34 bi_m4 ?_
        exact bw_ireti (pc := 36) C dX5_town_36 h
    · refine bw_aload_n (pc := 18) C 0 dX5_town_18 rfl rfl ?_
      refine bw_iconst (pc := 19) (v := (1 : Int32)) C dX5_town_19 ic_1 ?_
      obtain ⟨v20, M21, ev20, h⟩ := bw_c2_o h
      refine bw_cVi (pc := 20) (q := 0) (As := [.int (1 : Int32)]) (rest := []) C (tX5_found l (1 : Int32) M v20 M21 ev20) msX5_found mw_720 rfl rfl ⟨Nat.le_of_ble_eq_true rfl, Nat.le_of_ble_eq_true rfl⟩ ltM_0 shM_0 rfl rfl rfl rfl (Nat.le_of_ble_eq_true rfl) dX5_town_20 ?_
      exact bw_ireti (pc := 23) C dX5_town_23 h
  · refine bw_iconst (pc := 7) (v := (-1 : Int32)) C dX5_town_7 ic_m1 ?_
    exact bw_ireti (pc := 8) C dX5_town_8 h
/-! X5_undo -/
abbrev rmX5_undo : Room := { frames := 1, cells := 0, slots := 0, locals := 25 }
theorem msX5_undo : bw_MV yX5_undo cX5_undo 3 (some .int) RX5 1 := ⟨mw_875, mw_876, mw_6, mw_877, by decide +kernel⟩
def fX5_undo_45 (N : Nat) (x1 : Int32)  (x2 : Int32) (M : bw_M) : Option (Int32 × bw_M) :=
  bw_mv (bw_pI M 0 16 x1) fun M3 =>
  some (x2, M3)
theorem tX5_undo_45 {p : Program} {l : Launch} {e : Env} {s : State} {m : MethodId} {args : Array Value} {below : List Frame} {meth : Method} {c : Code} {D : va_G} {kT : Nat → ClassId} {ρ : Nat → Nat} (C : bw_Cx p s m args meth c cX5_undo 3 RX5 19 D kT ρ (some .int)) (N : Nat) (x1 : Int32)   (x2 : Int32) (M : bw_M) (rr : Int32) (zz : bw_M)  (h : fX5_undo_45 N x1 x2 M = some (rr, zz)) : bw_At p l e rmX5_undo s m args below meth c (MQ below (bw_QI bw_shM 19 D kT ρ rr zz) args s 0 0 (bw_A ρ 19)) bw_shM 19 D kT ρ 3 45 [(0, .ref (ρ 0)), (1, .int x1), (2, .int x2)] [] M := by
  unfold fX5_undo_45 at h
  refine bw_aload_n (pc := 45) C 0 dX5_undo_45 rfl rfl ?_
  refine bw_iload_n (pc := 46) C 1 dX5_undo_46 rfl rfl ?_
  obtain ⟨M3, eM3, h⟩ := bw_mv_o h
  refine bw_putI (pc := 47) (q := 0) (k0 := 16) C ltM_0 shM_0 rfl inX5 mw_631 (by decide) tyX5 tyX5_ok nmX5 rfl rfl rfl eM3 rfl rfl dX5_undo_47 ?_
  refine bw_iload_n (pc := 50) C 2 dX5_undo_50 rfl rfl ?_
  exact bw_ireti (pc := 51) C dX5_undo_51 h
def fX5_undo (N : Nat) (x1 : Int32) (M : bw_M) : Option (Int32 × bw_M) :=
  bw_cl (fX5_in (Int32.toInt64 x1) (0 : Int64) (Int32.toInt64 (M.1 0 16))) fun v1 =>
  if v1 = 0 then
  some ((-1 : Int32), M)
  else
  bw_mv ((M.1 0 16) - x1) fun v2 =>
  if v2 ≤ 0 then
  fX5_undo_45 N x1 v2 M
  else
  bw_cl (fX5_copies N 11 680 ((17 : Int32) * x1) 9 17 (0 : Int32) (17 : Int32) M) fun M4 =>
  fX5_undo_45 N x1 v2 M4
theorem tX5_undo (l : Launch) (N : Nat) (x1 : Int32)  (M : bw_M) (rr : Int32) (zz : bw_M) (h : fX5_undo N x1 M = some (rr, zz)) : bw_CI l bw_shM 19 yX5_undo cX5_undo 3 (some .int) rmX5_undo (fun ρ => [.ref (ρ 0), .int x1]) M rr zz := by
  refine bw_inI (Lf := fun ρ => [(0, .ref (ρ 0)), (1, .int x1)]) cX5_undo 3 (some .int) RX5 pn_X5 rfl (fun ρ => Nat.le_of_ble_eq_true rfl) (fun ρ => rfl) ?_
  intro p e s m args below meth c D kT ρ C
  unfold fX5_undo at h
  refine bw_iload_n (pc := 0) C 1 dX5_undo_0 rfl rfl ?_
  refine bw_i2l (pc := 1) C dX5_undo_1 ?_
  refine bw_lconst (pc := 2) (v := (0 : Int64)) C dX5_undo_2 rfl ?_
  refine bw_aload_n (pc := 3) C 0 dX5_undo_3 rfl rfl ?_
  refine bw_getI (pc := 4) (q := 0) (k0 := 16) C ltM_0 shM_0 rfl inX5 mw_631 (by decide) rfl dX5_undo_4 ?_
  refine bw_i2l (pc := 7) C dX5_undo_7 ?_
  obtain ⟨v1, ev1, h⟩ := bw_cl_o h
  refine bw_cSi (pc := 8) (As := [.long (Int32.toInt64 x1), .long (0 : Int64), .long (Int32.toInt64 (M.1 0 16))]) (rest := []) C (tX5_in l (Int32.toInt64 x1) (0 : Int64) (Int32.toInt64 (M.1 0 16)) M v1 ev1) msX5_in mw_717 rfl rfl ⟨Nat.le_of_ble_eq_true rfl, Nat.le_of_ble_eq_true rfl⟩ rfl rfl rfl (Nat.le_of_ble_eq_true rfl) dX5_undo_8 ?_
  refine bw_if_ne (pc := 11) C 16 dX5_undo_11 (by decide) h (fun h => ?_) (fun h => ?_)
  · refine bw_aload_n (pc := 16) C 0 dX5_undo_16 rfl rfl ?_
    refine bw_getI (pc := 17) (q := 0) (k0 := 16) C ltM_0 shM_0 rfl inX5 mw_631 (by decide) rfl dX5_undo_17 ?_
    refine bw_iload_n (pc := 20) C 1 dX5_undo_20 rfl rfl ?_
    refine bw_isub (pc := 21) C dX5_undo_21 ?_
    obtain ⟨v2, ev2, h⟩ := bw_mv_o h
    refine bw_nmI ev2 ?_
    refine bw_istore_n (pc := 22) (L' := [(2, .int v2), (0, .ref (ρ 0)), (1, .int x1)]) C dX5_undo_22 rfl (by decide) rfl ?_
    refine bw_iload_n (pc := 23) C 0 dX5_undo_23 rfl rfl ?_
    refine bw_if_le (pc := 24) C 45 dX5_undo_24 (by decide) h (fun h => ?_) (fun h => ?_)
    · refine bw_pick [1, 2, 0] rfl ?_
      exact tX5_undo_45 C N x1 v2 M rr zz h
    · refine bw_aload_n (pc := 27) C 1 dX5_undo_27 rfl rfl ?_
      refine bw_getR (pc := 28) (q := 0) (k0 := 15) C ltM_0 shM_0 rfl inX5 mw_630 (by decide) rfl dX5_undo_28 ?_
      refine bw_bipush (pc := 31) (v := (17 : Int32)) C dX5_undo_31 bi_17 ?_
      refine bw_iload_n (pc := 33) C 2 dX5_undo_33 rfl rfl ?_
      refine bw_imul (pc := 34) C dX5_undo_34 ?_
      refine bw_aload_n (pc := 35) C 1 dX5_undo_35 rfl rfl ?_
      refine bw_getR (pc := 36) (q := 0) (k0 := 13) C ltM_0 shM_0 rfl inX5 mw_628 (by decide) rfl dX5_undo_36 ?_
      refine bw_iconst (pc := 39) (v := (0 : Int32)) C dX5_undo_39 ic_0 ?_
      refine bw_bipush (pc := 40) (v := (17 : Int32)) C dX5_undo_40 bi_17 ?_
      obtain ⟨M4, eM4, h⟩ := bw_cl_o h
      refine bw_cSv (pc := 42) (As := [.ref (ρ 11), .int ((17 : Int32) * x1), .ref (ρ 9), .int (0 : Int32), .int (17 : Int32)]) (rest := []) C (tX5_copies l N 11 680 ((17 : Int32) * x1) 9 17 (0 : Int32) (17 : Int32) ltM_11 shM_11 ltM_9 shM_9 M M4 eM4) msX5_copies mw_837 rfl rfl ⟨Nat.le_of_ble_eq_true rfl, Nat.le_of_ble_eq_true rfl⟩ rfl rfl rfl (Nat.le_of_ble_eq_true rfl) dX5_undo_42 ?_
      refine bw_pick [1, 2, 0] rfl ?_
      exact tX5_undo_45 C N x1 v2 M4 rr zz h
  · refine bw_iconst (pc := 14) (v := (-1 : Int32)) C dX5_undo_14 ic_m1 ?_
    exact bw_ireti (pc := 15) C dX5_undo_15 h
/-! X5_upper -/
abbrev rmX5_upper : Room := { frames := 0, cells := 0, slots := 0, locals := 0 }
theorem msX5_upper : bw_MV yX5_upper cX5_upper 1 (some .long) RX5 0 := ⟨mw_1028, mw_1029, mw_6, mw_1030, by decide +kernel⟩
def fX5_upper  (M : bw_M) : Option (Int64) :=
  some (M.2.1 5)
theorem tX5_upper (l : Launch)   (M : bw_M) (rr : Int64) (h : fX5_upper M = some rr) : bw_CL l bw_shM 19 yX5_upper cX5_upper 1 (some .long) rmX5_upper (fun ρ => [.ref (ρ 0)]) M rr M := by
  refine bw_inL (Lf := fun ρ => [(0, .ref (ρ 0))]) cX5_upper 1 (some .long) RX5 pn_X5 rfl (fun ρ => Nat.le_of_ble_eq_true rfl) (fun ρ => rfl) ?_
  intro p e s m args below meth c D kT ρ C
  unfold fX5_upper at h
  refine bw_aload_n (pc := 0) C 0 dX5_upper_0 rfl rfl ?_
  refine bw_getL (pc := 1) (q := 0) (k0 := 5) C ltM_0 shM_0 rfl inX5 mw_620 (by decide) rfl dX5_upper_1 ?_
  exact bw_lreti (pc := 4) C dX5_upper_4 (bw_pr M h)
/-! X5_wants -/
abbrev rmX5_wants : Room := { frames := 2, cells := 0, slots := 0, locals := 46 }
theorem msX5_wants : bw_MV yX5_wants cX5_wants 4 (some .int) RX5 3 := ⟨mw_888, mw_889, mw_6, mw_890, by decide +kernel⟩
def fX5_wants_47 (x1 : Int32) (x2 : Int32) (x3 : Int32)  (s0 : Int32) (M : bw_M) : Option (Int32) :=
  some s0
theorem tX5_wants_47 {p : Program} {l : Launch} {e : Env} {s : State} {m : MethodId} {args : Array Value} {below : List Frame} {meth : Method} {c : Code} {D : va_G} {kT : Nat → ClassId} {ρ : Nat → Nat} (C : bw_Cx p s m args meth c cX5_wants 4 RX5 19 D kT ρ (some .int)) (x1 : Int32) (x2 : Int32) (x3 : Int32)   (s0 : Int32) (M : bw_M) (rr : Int32)  (h : fX5_wants_47 x1 x2 x3 s0 M = some rr) : bw_At p l e rmX5_wants s m args below meth c (MQ below (bw_QI bw_shM 19 D kT ρ rr M) args s 0 0 (bw_A ρ 19)) bw_shM 19 D kT ρ 4 47 [(0, .ref (ρ 0)), (1, .int x1), (2, .int x2), (3, .int x3)] [.int s0] M := by
  unfold fX5_wants_47 at h
  exact bw_ireti (pc := 47) C dX5_wants_47 (bw_pr M h)
def fX5_wants_46 (x1 : Int32) (x2 : Int32) (x3 : Int32)   (M : bw_M) : Option (Int32) :=
  fX5_wants_47 x1 x2 x3 (-1 : Int32) M
theorem tX5_wants_46 {p : Program} {l : Launch} {e : Env} {s : State} {m : MethodId} {args : Array Value} {below : List Frame} {meth : Method} {c : Code} {D : va_G} {kT : Nat → ClassId} {ρ : Nat → Nat} (C : bw_Cx p s m args meth c cX5_wants 4 RX5 19 D kT ρ (some .int)) (x1 : Int32) (x2 : Int32) (x3 : Int32)    (M : bw_M) (rr : Int32)  (h : fX5_wants_46 x1 x2 x3 M = some rr) : bw_At p l e rmX5_wants s m args below meth c (MQ below (bw_QI bw_shM 19 D kT ρ rr M) args s 0 0 (bw_A ρ 19)) bw_shM 19 D kT ρ 4 46 [(0, .ref (ρ 0)), (1, .int x1), (2, .int x2), (3, .int x3)] [] M := by
  unfold fX5_wants_46 at h
  refine bw_iconst (pc := 46) (v := (-1 : Int32)) C dX5_wants_46 ic_m1 ?_
  refine bw_pick [0, 1, 2, 3] rfl ?_
  exact tX5_wants_47 C x1 x2 x3 (-1 : Int32) M rr h
def fX5_wants (x1 : Int32) (x2 : Int32) (x3 : Int32) (M : bw_M) : Option (Int32) :=
  bw_cl (fX5_isPipe x1 M) fun v1 =>
  if v1 = 0 then
  fX5_wants_46 x1 x2 x3 M
  else
  bw_cl (fX5_in (Int32.toInt64 x2) (1 : Int64) (9 : Int64)) fun v2 =>
  if v2 = 0 then
  fX5_wants_46 x1 x2 x3 M
  else
  bw_cl (fX5_in (Int32.toInt64 x3) (0 : Int64) (99 : Int64)) fun v3 =>
  if v3 = 0 then
  fX5_wants_46 x1 x2 x3 M
  else
  bw_rd M 6 6 x1 fun v4 =>
  bw_cl (fX5_wantsBy v4 x2 x3) fun v5 =>
  fX5_wants_47 x1 x2 x3 v5 M
theorem tX5_wants (l : Launch) (x1 : Int32) (x2 : Int32) (x3 : Int32)  (M : bw_M) (rr : Int32) (h : fX5_wants x1 x2 x3 M = some rr) : bw_CI l bw_shM 19 yX5_wants cX5_wants 4 (some .int) rmX5_wants (fun ρ => [.ref (ρ 0), .int x1, .int x2, .int x3]) M rr M := by
  refine bw_inI (Lf := fun ρ => [(0, .ref (ρ 0)), (1, .int x1), (2, .int x2), (3, .int x3)]) cX5_wants 4 (some .int) RX5 pn_X5 rfl (fun ρ => Nat.le_of_ble_eq_true rfl) (fun ρ => rfl) ?_
  intro p e s m args below meth c D kT ρ C
  unfold fX5_wants at h
  refine bw_aload_n (pc := 0) C 0 dX5_wants_0 rfl rfl ?_
  refine bw_iload_n (pc := 1) C 1 dX5_wants_1 rfl rfl ?_
  obtain ⟨v1, ev1, h⟩ := bw_cl_o h
  refine bw_cVi (pc := 2) (q := 0) (As := [.int x1]) (rest := []) C (tX5_isPipe l x1 M v1 ev1) msX5_isPipe mw_799 rfl rfl ⟨Nat.le_of_ble_eq_true rfl, Nat.le_of_ble_eq_true rfl⟩ ltM_0 shM_0 rfl rfl rfl rfl (Nat.le_of_ble_eq_true rfl) dX5_wants_2 ?_
  refine bw_if_eq (pc := 5) C 46 dX5_wants_5 (by decide) h (fun h => ?_) (fun h => ?_)
  · refine bw_pick [0, 1, 2, 3] rfl ?_
    exact tX5_wants_46 C x1 x2 x3 M rr h
  · refine bw_iload_n (pc := 8) C 2 dX5_wants_8 rfl rfl ?_
    refine bw_i2l (pc := 9) C dX5_wants_9 ?_
    refine bw_lconst (pc := 10) (v := (1 : Int64)) C dX5_wants_10 rfl ?_
    refine bw_ldc2_w (pc := 11) C mw_856 dX5_wants_11 ?_
    obtain ⟨v2, ev2, h⟩ := bw_cl_o h
    refine bw_cSi (pc := 14) (As := [.long (Int32.toInt64 x2), .long (1 : Int64), .long (9 : Int64)]) (rest := []) C (tX5_in l (Int32.toInt64 x2) (1 : Int64) (9 : Int64) M v2 ev2) msX5_in mw_717 rfl rfl ⟨Nat.le_of_ble_eq_true rfl, Nat.le_of_ble_eq_true rfl⟩ rfl rfl rfl (Nat.le_of_ble_eq_true rfl) dX5_wants_14 ?_
    refine bw_if_eq (pc := 17) C 46 dX5_wants_17 (by decide) h (fun h => ?_) (fun h => ?_)
    · refine bw_pick [0, 1, 2, 3] rfl ?_
      exact tX5_wants_46 C x1 x2 x3 M rr h
    · refine bw_iload_n (pc := 20) C 3 dX5_wants_20 rfl rfl ?_
      refine bw_i2l (pc := 21) C dX5_wants_21 ?_
      refine bw_lconst (pc := 22) (v := (0 : Int64)) C dX5_wants_22 rfl ?_
      refine bw_ldc2_w (pc := 23) C mw_891 dX5_wants_23 ?_
      obtain ⟨v3, ev3, h⟩ := bw_cl_o h
      refine bw_cSi (pc := 26) (As := [.long (Int32.toInt64 x3), .long (0 : Int64), .long (99 : Int64)]) (rest := []) C (tX5_in l (Int32.toInt64 x3) (0 : Int64) (99 : Int64) M v3 ev3) msX5_in mw_717 rfl rfl ⟨Nat.le_of_ble_eq_true rfl, Nat.le_of_ble_eq_true rfl⟩ rfl rfl rfl (Nat.le_of_ble_eq_true rfl) dX5_wants_26 ?_
      refine bw_if_eq (pc := 29) C 46 dX5_wants_29 (by decide) h (fun h => ?_) (fun h => ?_)
      · refine bw_pick [0, 1, 2, 3] rfl ?_
        exact tX5_wants_46 C x1 x2 x3 M rr h
      · refine bw_aload_n (pc := 32) C 0 dX5_wants_32 rfl rfl ?_
        refine bw_getR (pc := 33) (q := 0) (k0 := 10) C ltM_0 shM_0 rfl inX5 mw_625 (by decide) rfl dX5_wants_33 ?_
        refine bw_iload_n (pc := 36) C 1 dX5_wants_36 rfl rfl ?_
        obtain ⟨qv4, v4, ev4, h⟩ := bw_rd_o h
        refine bw_iald (pc := 37) (q := 6) C ltM_6 shM_6 qv4 ev4 dX5_wants_37 ?_
        refine bw_iload_n (pc := 38) C 2 dX5_wants_38 rfl rfl ?_
        refine bw_iload_n (pc := 39) C 3 dX5_wants_39 rfl rfl ?_
        obtain ⟨v5, ev5, h⟩ := bw_cl_o h
        refine bw_cSi (pc := 40) (As := [.int v4, .int x2, .int x3]) (rest := []) C (tX5_wantsBy l v4 x2 x3 M v5 ev5) msX5_wantsBy mw_808 rfl rfl ⟨Nat.le_of_ble_eq_true rfl, Nat.le_of_ble_eq_true rfl⟩ rfl rfl rfl (Nat.le_of_ble_eq_true rfl) dX5_wants_40 ?_
        refine bw_goto (pc := 43) C 47 dX5_wants_43 (by decide) ?_
        refine bw_pick [0, 1, 2, 3] rfl ?_
        exact tX5_wants_47 C x1 x2 x3 v5 M rr h
