/-! X5_there -/
abbrev rmX5_there : Room := { frames := 0, cells := 0, slots := 0, locals := 0 }
theorem msX5_there : bw_MS yX5_there cX5_there 5 (some .int) 3 := ⟨mw_1048, mw_6, mw_1049, by decide +kernel⟩
def fX5_there_26 (N : Nat) (x0 : Nat) (n0 : Nat) (x1 : Int32) (x2 : Int32) (k5 : Int32 × Int32 → Option (Int32)) (x4 : Int32) (s0 : Int32) (s1 : Int32) (M : bw_M) : Option (Int32) :=
  bw_mv (s0 + s1) fun v4 =>
  bw_mv (x4 + 1) fun v5 =>
  k5 (v4, v5)
theorem tX5_there_26 {p : Program} {l : Launch} {e : Env} {s : State} {m : MethodId} {args : Array Value} {below : List Frame} {meth : Method} {c : Code} {D : va_G} {kT : Nat → ClassId} {ρ : Nat → Nat} (C : bw_Cx p s m args meth c cX5_there 5 RX5 19 D kT ρ (some .int)) (N : Nat) (x0 : Nat) (n0 : Nat) (x1 : Int32) (x2 : Int32) (g0 : x0 < 19) (i0 : bw_shM x0 = .inr (.inl (0, n0))) (k5 : Int32 × Int32 → Option (Int32)) (x4 : Int32) (s0 : Int32) (s1 : Int32) (M : bw_M) (rr : Int32) (hk5 : ∀ z0, k5 z0 = some rr → bw_At p l e rmX5_there s m args below meth c (MQ below (bw_QI bw_shM 19 D kT ρ rr M) args s 0 0 (bw_A ρ 19)) bw_shM 19 D kT ρ 5 5 [(0, .ref (ρ x0)), (1, .int x1), (2, .int x2), (3, .int z0.1), (4, .int z0.2)] [] M) (h : fX5_there_26 N x0 n0 x1 x2 k5 x4 s0 s1 M = some rr) : bw_At p l e rmX5_there s m args below meth c (MQ below (bw_QI bw_shM 19 D kT ρ rr M) args s 0 0 (bw_A ρ 19)) bw_shM 19 D kT ρ 5 26 [(0, .ref (ρ x0)), (1, .int x1), (2, .int x2), (4, .int x4)] [.int s1, .int s0] M := by
  unfold fX5_there_26 at h
  refine bw_iadd (pc := 26) C dX5_there_26 ?_
  obtain ⟨v4, ev4, h⟩ := bw_mv_o h
  refine bw_nmI ev4 ?_
  refine bw_istore_n (pc := 27) (L' := [(3, .int v4), (0, .ref (ρ x0)), (1, .int x1), (2, .int x2), (4, .int x4)]) C dX5_there_27 rfl (by decide) rfl ?_
  obtain ⟨v5, ev5, h⟩ := bw_mv_o h
  refine bw_iinc (pc := 28) (x := v5) (L' := [(4, .int v5), (3, .int v4), (0, .ref (ρ x0)), (1, .int x1), (2, .int x2)]) C 4 dX5_there_28 rfl ev5.symm (by decide) rfl ?_
  refine bw_goto (pc := 31) C 5 dX5_there_31 (by decide) ?_
  refine bw_pick [2, 3, 4, 1, 0] rfl ?_
  exact hk5 (v4, v5) h
def fX5_there_5 (N : Nat) (x0 : Nat) (n0 : Nat) (x1 : Int32) (x2 : Int32) (k5 : Int32 × Int32 → Option (Int32)) (x3 : Int32) (x4 : Int32) (M : bw_M) : Option (Int32) :=
  if x1 ≤ x4 then
  some x3
  else
  bw_rd M x0 n0 (x2 * x4) fun v3 =>
  if 0 ≤ v3 then
  fX5_there_26 N x0 n0 x1 x2 k5 x4 x3 (1 : Int32) M
  else
  fX5_there_26 N x0 n0 x1 x2 k5 x4 x3 (0 : Int32) M
theorem tX5_there_5 {p : Program} {l : Launch} {e : Env} {s : State} {m : MethodId} {args : Array Value} {below : List Frame} {meth : Method} {c : Code} {D : va_G} {kT : Nat → ClassId} {ρ : Nat → Nat} (C : bw_Cx p s m args meth c cX5_there 5 RX5 19 D kT ρ (some .int)) (N : Nat) (x0 : Nat) (n0 : Nat) (x1 : Int32) (x2 : Int32) (g0 : x0 < 19) (i0 : bw_shM x0 = .inr (.inl (0, n0))) (k5 : Int32 × Int32 → Option (Int32)) (x3 : Int32) (x4 : Int32) (M : bw_M) (rr : Int32) (hk5 : ∀ z0, k5 z0 = some rr → bw_At p l e rmX5_there s m args below meth c (MQ below (bw_QI bw_shM 19 D kT ρ rr M) args s 0 0 (bw_A ρ 19)) bw_shM 19 D kT ρ 5 5 [(0, .ref (ρ x0)), (1, .int x1), (2, .int x2), (3, .int z0.1), (4, .int z0.2)] [] M) (h : fX5_there_5 N x0 n0 x1 x2 k5 x3 x4 M = some rr) : bw_At p l e rmX5_there s m args below meth c (MQ below (bw_QI bw_shM 19 D kT ρ rr M) args s 0 0 (bw_A ρ 19)) bw_shM 19 D kT ρ 5 5 [(0, .ref (ρ x0)), (1, .int x1), (2, .int x2), (3, .int x3), (4, .int x4)] [] M := by
  unfold fX5_there_5 at h
  refine bw_iload (pc := 5) C 4 dX5_there_5 rfl ?_
  refine bw_iload_n (pc := 7) C 1 dX5_there_7 rfl rfl ?_
  refine bw_icmp_ge (pc := 8) C 34 dX5_there_8 (by decide) h (fun h => ?_) (fun h => ?_)
  · refine bw_iload_n (pc := 34) C 3 dX5_there_34 rfl rfl ?_
    exact bw_ireti (pc := 35) C dX5_there_35 (bw_pr M h)
  · refine bw_iload_n (pc := 11) C 3 dX5_there_11 rfl rfl ?_
    refine bw_aload_n (pc := 12) C 0 dX5_there_12 rfl rfl ?_
    refine bw_iload_n (pc := 13) C 2 dX5_there_13 rfl rfl ?_
    refine bw_iload (pc := 14) C 4 dX5_there_14 rfl ?_
    refine bw_imul (pc := 16) C dX5_there_16 ?_
    obtain ⟨qv3, v3, ev3, h⟩ := bw_rd_o h
    refine bw_iald (pc := 17) (q := x0) C g0 i0 qv3 ev3 dX5_there_17 ?_
    refine bw_if_ge (pc := 18) C 25 dX5_there_18 (by decide) h (fun h => ?_) (fun h => ?_)
    · refine bw_iconst (pc := 25) (v := (1 : Int32)) C dX5_there_25 ic_1 ?_
      refine bw_pick [0, 1, 2, 4] rfl ?_
      exact tX5_there_26 C N x0 n0 x1 x2 g0 i0 k5 x4 x3 (1 : Int32) M rr hk5 h
    · refine bw_iconst (pc := 21) (v := (0 : Int32)) C dX5_there_21 ic_0 ?_
      refine bw_goto (pc := 22) C 26 dX5_there_22 (by decide) ?_
      refine bw_pick [0, 1, 2, 4] rfl ?_
      exact tX5_there_26 C N x0 n0 x1 x2 g0 i0 k5 x4 x3 (0 : Int32) M rr hk5 h
def flX5_there_5 (N : Nat) (x0 : Nat) (n0 : Nat) (x1 : Int32) (x2 : Int32)   (M : bw_M) (fu : Nat) (w : Int32 × Int32) : Option (Int32) := bw_lp (fun kk w => fX5_there_5 N x0 n0 x1 x2 kk w.1 w.2 M) fu w
theorem tlX5_there_5 {p : Program} {l : Launch} {e : Env} {s : State} {m : MethodId} {args : Array Value} {below : List Frame} {meth : Method} {c : Code} {D : va_G} {kT : Nat → ClassId} {ρ : Nat → Nat} (C : bw_Cx p s m args meth c cX5_there 5 RX5 19 D kT ρ (some .int)) (N : Nat) (x0 : Nat) (n0 : Nat) (x1 : Int32) (x2 : Int32) (g0 : x0 < 19) (i0 : bw_shM x0 = .inr (.inl (0, n0)))   (M : bw_M) (rr : Int32)  (fu : Nat) (w : Int32 × Int32) (h : flX5_there_5 N x0 n0 x1 x2 M fu w = some rr) : bw_At p l e rmX5_there s m args below meth c (MQ below (bw_QI bw_shM 19 D kT ρ rr M) args s 0 0 (bw_A ρ 19)) bw_shM 19 D kT ρ 5 5 [(0, .ref (ρ x0)), (1, .int x1), (2, .int x2), (3, .int w.1), (4, .int w.2)] [] M :=
  bw_loop (r := rr) (fun w => bw_At p l e rmX5_there s m args below meth c (MQ below (bw_QI bw_shM 19 D kT ρ rr M) args s 0 0 (bw_A ρ 19)) bw_shM 19 D kT ρ 5 5 [(0, .ref (ρ x0)), (1, .int x1), (2, .int x2), (3, .int w.1), (4, .int w.2)] [] M) (fun kk hk w h => tX5_there_5 C N x0 n0 x1 x2 g0 i0 kk w.1 w.2 M rr hk h) fu w h
def fX5_there (N : Nat) (x0 : Nat) (n0 : Nat) (x1 : Int32) (x2 : Int32) (M : bw_M) : Option (Int32) :=
  bw_mv (0 : Int32) fun v1 =>
  bw_mv (0 : Int32) fun v2 =>
  flX5_there_5 N x0 n0 x1 x2 M N (v1, v2)
theorem tX5_there (l : Launch) (N : Nat) (x0 : Nat) (n0 : Nat) (x1 : Int32) (x2 : Int32) (g0 : x0 < 19) (i0 : bw_shM x0 = .inr (.inl (0, n0))) (M : bw_M) (rr : Int32) (h : fX5_there N x0 n0 x1 x2 M = some rr) : bw_CI l bw_shM 19 yX5_there cX5_there 5 (some .int) rmX5_there (fun ρ => [.ref (ρ x0), .int x1, .int x2]) M rr M := by
  refine bw_inI (Lf := fun ρ => [(0, .ref (ρ x0)), (1, .int x1), (2, .int x2)]) cX5_there 5 (some .int) RX5 pn_X5 rfl (fun ρ => Nat.le_of_ble_eq_true rfl) (fun ρ => rfl) ?_
  intro p e s m args below meth c D kT ρ C
  unfold fX5_there at h
  refine bw_iconst (pc := 0) (v := (0 : Int32)) C dX5_there_0 ic_0 ?_
  obtain ⟨v1, ev1, h⟩ := bw_mv_o h
  refine bw_nmI ev1 ?_
  refine bw_istore_n (pc := 1) (L' := [(3, .int v1), (0, .ref (ρ x0)), (1, .int x1), (2, .int x2)]) C dX5_there_1 rfl (by decide) rfl ?_
  refine bw_iconst (pc := 2) (v := (0 : Int32)) C dX5_there_2 ic_0 ?_
  obtain ⟨v2, ev2, h⟩ := bw_mv_o h
  refine bw_nmI ev2 ?_
  refine bw_istore (pc := 3) (L' := [(4, .int v2), (3, .int v1), (0, .ref (ρ x0)), (1, .int x1), (2, .int x2)]) C dX5_there_3 (by decide) rfl ?_
  refine bw_pick [2, 3, 4, 1, 0] rfl ?_
  exact tlX5_there_5 C N x0 n0 x1 x2 g0 i0 M rr N (v1, v2) h
/-! X5_count -/
abbrev rmX5_count : Room := { frames := 2, cells := 0, slots := 0, locals := 44 }
theorem msX5_count : bw_MV yX5_count cX5_count 2 (some .int) RX5 1 := ⟨mw_1036, mw_1037, mw_6, mw_1038, by decide +kernel⟩
def fX5_count (N : Nat) (x1 : Int32) (M : bw_M) : Option (Int32) :=
  if x1 = (0 : Int32) then
  some (M.1 0 9)
  else if x1 = (1 : Int32) then
  bw_rd M 9 17 (0 : Int32) fun v3 =>
  some v3
  else if x1 = (2 : Int32) then
  bw_rd M 9 17 (1 : Int32) fun v5 =>
  some v5
  else if x1 = (3 : Int32) then
  bw_rd M 9 17 (2 : Int32) fun v7 =>
  some v7
  else if x1 = (4 : Int32) then
  some (M.1 0 16)
  else if x1 = (5 : Int32) then
  bw_rd M 9 17 (3 : Int32) fun v10 =>
  some v10
  else if x1 = (6 : Int32) then
  bw_rd M 9 17 (4 : Int32) fun v12 =>
  some v12
  else if x1 = (7 : Int32) then
  bw_cl (fX5_together N (5 : Int32) M) fun v14 =>
  some v14
  else if x1 = (8 : Int32) then
  bw_cl (fX5_together N (11 : Int32) M) fun v16 =>
  some v16
  else if x1 = (9 : Int32) then
  bw_cl (fX5_those N (1 : Int32) M) fun v18 =>
  some v18
  else if x1 = (10 : Int32) then
  bw_cl (fX5_those N (3 : Int32) M) fun v20 =>
  some v20
  else if x1 = (11 : Int32) then
  bw_cl (fX5_there N 2 6 (6 : Int32) (1 : Int32) M) fun v22 =>
  some v22
  else if x1 = (12 : Int32) then
  bw_cl (fX5_there N 4 4 (4 : Int32) (1 : Int32) M) fun v24 =>
  some v24
  else if x1 = (13 : Int32) then
  bw_cl (fX5_there N 12 2094 (3 : Int32) (698 : Int32) M) fun v26 =>
  some v26
  else 
  some (-1 : Int32)
theorem tX5_count (l : Launch) (N : Nat) (x1 : Int32)  (M : bw_M) (rr : Int32) (h : fX5_count N x1 M = some rr) : bw_CI l bw_shM 19 yX5_count cX5_count 2 (some .int) rmX5_count (fun ρ => [.ref (ρ 0), .int x1]) M rr M := by
  refine bw_inI (Lf := fun ρ => [(0, .ref (ρ 0)), (1, .int x1)]) cX5_count 2 (some .int) RX5 pn_X5 rfl (fun ρ => Nat.le_of_ble_eq_true rfl) (fun ρ => rfl) ?_
  intro p e s m args below meth c D kT ρ C
  unfold fX5_count at h
  refine bw_iload_n (pc := 0) C 1 dX5_count_0 rfl rfl ?_
  refine bw_swc (pc := 1) C (0 : Int32) h (fun h => ?_) (fun q1 h => ?_)
  · refine bw_swi (pc := 1) C 72 dX5_count_1 (by decide) (by decide) rfl (by decide) ?_
    refine bw_aload_n (pc := 72) C 0 dX5_count_72 rfl rfl ?_
    refine bw_getI (pc := 73) (q := 0) (k0 := 9) C ltM_0 shM_0 rfl inX5 mw_624 (by decide) rfl dX5_count_73 ?_
    exact bw_ireti (pc := 76) C dX5_count_76 (bw_pr M h)
  refine bw_swc (pc := 1) C (1 : Int32) h (fun h => ?_) (fun q2 h => ?_)
  · refine bw_swi (pc := 1) C 77 dX5_count_1 (by decide) (by decide) rfl (by decide) ?_
    refine bw_aload_n (pc := 77) C 0 dX5_count_77 rfl rfl ?_
    refine bw_getR (pc := 78) (q := 0) (k0 := 13) C ltM_0 shM_0 rfl inX5 mw_628 (by decide) rfl dX5_count_78 ?_
    refine bw_iconst (pc := 81) (v := (0 : Int32)) C dX5_count_81 ic_0 ?_
    obtain ⟨qv3, v3, ev3, h⟩ := bw_rd_o h
    refine bw_iald (pc := 82) (q := 9) C ltM_9 shM_9 qv3 ev3 dX5_count_82 ?_
    exact bw_ireti (pc := 83) C dX5_count_83 (bw_pr M h)
  refine bw_swc (pc := 1) C (2 : Int32) h (fun h => ?_) (fun q4 h => ?_)
  · refine bw_swi (pc := 1) C 84 dX5_count_1 (by decide) (by decide) rfl (by decide) ?_
    refine bw_aload_n (pc := 84) C 0 dX5_count_84 rfl rfl ?_
    refine bw_getR (pc := 85) (q := 0) (k0 := 13) C ltM_0 shM_0 rfl inX5 mw_628 (by decide) rfl dX5_count_85 ?_
    refine bw_iconst (pc := 88) (v := (1 : Int32)) C dX5_count_88 ic_1 ?_
    obtain ⟨qv5, v5, ev5, h⟩ := bw_rd_o h
    refine bw_iald (pc := 89) (q := 9) C ltM_9 shM_9 qv5 ev5 dX5_count_89 ?_
    exact bw_ireti (pc := 90) C dX5_count_90 (bw_pr M h)
  refine bw_swc (pc := 1) C (3 : Int32) h (fun h => ?_) (fun q6 h => ?_)
  · refine bw_swi (pc := 1) C 91 dX5_count_1 (by decide) (by decide) rfl (by decide) ?_
    refine bw_aload_n (pc := 91) C 0 dX5_count_91 rfl rfl ?_
    refine bw_getR (pc := 92) (q := 0) (k0 := 13) C ltM_0 shM_0 rfl inX5 mw_628 (by decide) rfl dX5_count_92 ?_
    refine bw_iconst (pc := 95) (v := (2 : Int32)) C dX5_count_95 ic_2 ?_
    obtain ⟨qv7, v7, ev7, h⟩ := bw_rd_o h
    refine bw_iald (pc := 96) (q := 9) C ltM_9 shM_9 qv7 ev7 dX5_count_96 ?_
    exact bw_ireti (pc := 97) C dX5_count_97 (bw_pr M h)
  refine bw_swc (pc := 1) C (4 : Int32) h (fun h => ?_) (fun q8 h => ?_)
  · refine bw_swi (pc := 1) C 98 dX5_count_1 (by decide) (by decide) rfl (by decide) ?_
    refine bw_aload_n (pc := 98) C 0 dX5_count_98 rfl rfl ?_
    refine bw_getI (pc := 99) (q := 0) (k0 := 16) C ltM_0 shM_0 rfl inX5 mw_631 (by decide) rfl dX5_count_99 ?_
    exact bw_ireti (pc := 102) C dX5_count_102 (bw_pr M h)
  refine bw_swc (pc := 1) C (5 : Int32) h (fun h => ?_) (fun q9 h => ?_)
  · refine bw_swi (pc := 1) C 103 dX5_count_1 (by decide) (by decide) rfl (by decide) ?_
    refine bw_aload_n (pc := 103) C 0 dX5_count_103 rfl rfl ?_
    refine bw_getR (pc := 104) (q := 0) (k0 := 13) C ltM_0 shM_0 rfl inX5 mw_628 (by decide) rfl dX5_count_104 ?_
    refine bw_iconst (pc := 107) (v := (3 : Int32)) C dX5_count_107 ic_3 ?_
    obtain ⟨qv10, v10, ev10, h⟩ := bw_rd_o h
    refine bw_iald (pc := 108) (q := 9) C ltM_9 shM_9 qv10 ev10 dX5_count_108 ?_
    exact bw_ireti (pc := 109) C dX5_count_109 (bw_pr M h)
  refine bw_swc (pc := 1) C (6 : Int32) h (fun h => ?_) (fun q11 h => ?_)
  · refine bw_swi (pc := 1) C 110 dX5_count_1 (by decide) (by decide) rfl (by decide) ?_
    refine bw_aload_n (pc := 110) C 0 dX5_count_110 rfl rfl ?_
    refine bw_getR (pc := 111) (q := 0) (k0 := 13) C ltM_0 shM_0 rfl inX5 mw_628 (by decide) rfl dX5_count_111 ?_
    refine bw_iconst (pc := 114) (v := (4 : Int32)) C dX5_count_114 ic_4 ?_
    obtain ⟨qv12, v12, ev12, h⟩ := bw_rd_o h
    refine bw_iald (pc := 115) (q := 9) C ltM_9 shM_9 qv12 ev12 dX5_count_115 ?_
    exact bw_ireti (pc := 116) C dX5_count_116 (bw_pr M h)
  refine bw_swc (pc := 1) C (7 : Int32) h (fun h => ?_) (fun q13 h => ?_)
  · refine bw_swi (pc := 1) C 117 dX5_count_1 (by decide) (by decide) rfl (by decide) ?_
    refine bw_aload_n (pc := 117) C 0 dX5_count_117 rfl rfl ?_
    refine bw_iconst (pc := 118) (v := (5 : Int32)) C dX5_count_118 ic_5 ?_
    obtain ⟨v14, ev14, h⟩ := bw_cl_o h
    refine bw_cVi (pc := 119) (q := 0) (As := [.int (5 : Int32)]) (rest := []) C (tX5_together l N (5 : Int32) M v14 ev14) msX5_together mw_1039 rfl rfl ⟨Nat.le_of_ble_eq_true rfl, Nat.le_of_ble_eq_true rfl⟩ ltM_0 shM_0 rfl rfl rfl rfl (Nat.le_of_ble_eq_true rfl) dX5_count_119 ?_
    exact bw_ireti (pc := 122) C dX5_count_122 (bw_pr M h)
  refine bw_swc (pc := 1) C (8 : Int32) h (fun h => ?_) (fun q15 h => ?_)
  · refine bw_swi (pc := 1) C 123 dX5_count_1 (by decide) (by decide) rfl (by decide) ?_
    refine bw_aload_n (pc := 123) C 0 dX5_count_123 rfl rfl ?_
    refine bw_bipush (pc := 124) (v := (11 : Int32)) C dX5_count_124 bi_11 ?_
    obtain ⟨v16, ev16, h⟩ := bw_cl_o h
    refine bw_cVi (pc := 126) (q := 0) (As := [.int (11 : Int32)]) (rest := []) C (tX5_together l N (11 : Int32) M v16 ev16) msX5_together mw_1039 rfl rfl ⟨Nat.le_of_ble_eq_true rfl, Nat.le_of_ble_eq_true rfl⟩ ltM_0 shM_0 rfl rfl rfl rfl (Nat.le_of_ble_eq_true rfl) dX5_count_126 ?_
    exact bw_ireti (pc := 129) C dX5_count_129 (bw_pr M h)
  refine bw_swc (pc := 1) C (9 : Int32) h (fun h => ?_) (fun q17 h => ?_)
  · refine bw_swi (pc := 1) C 130 dX5_count_1 (by decide) (by decide) rfl (by decide) ?_
    refine bw_aload_n (pc := 130) C 0 dX5_count_130 rfl rfl ?_
    refine bw_iconst (pc := 131) (v := (1 : Int32)) C dX5_count_131 ic_1 ?_
    obtain ⟨v18, ev18, h⟩ := bw_cl_o h
    refine bw_cVi (pc := 132) (q := 0) (As := [.int (1 : Int32)]) (rest := []) C (tX5_those l N (1 : Int32) M v18 ev18) msX5_those mw_1043 rfl rfl ⟨Nat.le_of_ble_eq_true rfl, Nat.le_of_ble_eq_true rfl⟩ ltM_0 shM_0 rfl rfl rfl rfl (Nat.le_of_ble_eq_true rfl) dX5_count_132 ?_
    exact bw_ireti (pc := 135) C dX5_count_135 (bw_pr M h)
  refine bw_swc (pc := 1) C (10 : Int32) h (fun h => ?_) (fun q19 h => ?_)
  · refine bw_swi (pc := 1) C 136 dX5_count_1 (by decide) (by decide) rfl (by decide) ?_
    refine bw_aload_n (pc := 136) C 0 dX5_count_136 rfl rfl ?_
    refine bw_iconst (pc := 137) (v := (3 : Int32)) C dX5_count_137 ic_3 ?_
    obtain ⟨v20, ev20, h⟩ := bw_cl_o h
    refine bw_cVi (pc := 138) (q := 0) (As := [.int (3 : Int32)]) (rest := []) C (tX5_those l N (3 : Int32) M v20 ev20) msX5_those mw_1043 rfl rfl ⟨Nat.le_of_ble_eq_true rfl, Nat.le_of_ble_eq_true rfl⟩ ltM_0 shM_0 rfl rfl rfl rfl (Nat.le_of_ble_eq_true rfl) dX5_count_138 ?_
    exact bw_ireti (pc := 141) C dX5_count_141 (bw_pr M h)
  refine bw_swc (pc := 1) C (11 : Int32) h (fun h => ?_) (fun q21 h => ?_)
  · refine bw_swi (pc := 1) C 142 dX5_count_1 (by decide) (by decide) rfl (by decide) ?_
    refine bw_aload_n (pc := 142) C 0 dX5_count_142 rfl rfl ?_
    refine bw_getR (pc := 143) (q := 0) (k0 := 1) C ltM_0 shM_0 rfl inX5 mw_616 (by decide) rfl dX5_count_143 ?_
    refine bw_bipush (pc := 146) (v := (6 : Int32)) C dX5_count_146 bi_6 ?_
    refine bw_iconst (pc := 148) (v := (1 : Int32)) C dX5_count_148 ic_1 ?_
    obtain ⟨v22, ev22, h⟩ := bw_cl_o h
    refine bw_cSi (pc := 149) (As := [.ref (ρ 2), .int (6 : Int32), .int (1 : Int32)]) (rest := []) C (tX5_there l N 2 6 (6 : Int32) (1 : Int32) ltM_2 shM_2 M v22 ev22) msX5_there mw_1047 rfl rfl ⟨Nat.le_of_ble_eq_true rfl, Nat.le_of_ble_eq_true rfl⟩ rfl rfl rfl (Nat.le_of_ble_eq_true rfl) dX5_count_149 ?_
    exact bw_ireti (pc := 152) C dX5_count_152 (bw_pr M h)
  refine bw_swc (pc := 1) C (12 : Int32) h (fun h => ?_) (fun q23 h => ?_)
  · refine bw_swi (pc := 1) C 153 dX5_count_1 (by decide) (by decide) rfl (by decide) ?_
    refine bw_aload_n (pc := 153) C 0 dX5_count_153 rfl rfl ?_
    refine bw_getR (pc := 154) (q := 0) (k0 := 3) C ltM_0 shM_0 rfl inX5 mw_618 (by decide) rfl dX5_count_154 ?_
    refine bw_iconst (pc := 157) (v := (4 : Int32)) C dX5_count_157 ic_4 ?_
    refine bw_iconst (pc := 158) (v := (1 : Int32)) C dX5_count_158 ic_1 ?_
    obtain ⟨v24, ev24, h⟩ := bw_cl_o h
    refine bw_cSi (pc := 159) (As := [.ref (ρ 4), .int (4 : Int32), .int (1 : Int32)]) (rest := []) C (tX5_there l N 4 4 (4 : Int32) (1 : Int32) ltM_4 shM_4 M v24 ev24) msX5_there mw_1047 rfl rfl ⟨Nat.le_of_ble_eq_true rfl, Nat.le_of_ble_eq_true rfl⟩ rfl rfl rfl (Nat.le_of_ble_eq_true rfl) dX5_count_159 ?_
    exact bw_ireti (pc := 162) C dX5_count_162 (bw_pr M h)
  refine bw_swc (pc := 1) C (13 : Int32) h (fun h => ?_) (fun q25 h => ?_)
  · refine bw_swi (pc := 1) C 163 dX5_count_1 (by decide) (by decide) rfl (by decide) ?_
    refine bw_aload_n (pc := 163) C 0 dX5_count_163 rfl rfl ?_
    refine bw_getR (pc := 164) (q := 0) (k0 := 17) C ltM_0 shM_0 rfl inX5 mw_632 (by decide) rfl dX5_count_164 ?_
    refine bw_iconst (pc := 167) (v := (3 : Int32)) C dX5_count_167 ic_3 ?_
    refine bw_sipush (pc := 168) (v := (698 : Int32)) C dX5_count_168 si_698 ?_
    obtain ⟨v26, ev26, h⟩ := bw_cl_o h
    refine bw_cSi (pc := 171) (As := [.ref (ρ 12), .int (3 : Int32), .int (698 : Int32)]) (rest := []) C (tX5_there l N 12 2094 (3 : Int32) (698 : Int32) ltM_12 shM_12 M v26 ev26) msX5_there mw_1047 rfl rfl ⟨Nat.le_of_ble_eq_true rfl, Nat.le_of_ble_eq_true rfl⟩ rfl rfl rfl (Nat.le_of_ble_eq_true rfl) dX5_count_171 ?_
    exact bw_ireti (pc := 174) C dX5_count_174 (bw_pr M h)
  have ho : (x1).toInt < 0 ∨ 13 < (x1).toInt := bw_sw_out 14 (by decide) (by decide) (by decide) (fun j hj => by
    match j, hj with
    | 0, _ => exact q1
    | 1, _ => exact q2
    | 2, _ => exact q4
    | 3, _ => exact q6
    | 4, _ => exact q8
    | 5, _ => exact q9
    | 6, _ => exact q11
    | 7, _ => exact q13
    | 8, _ => exact q15
    | 9, _ => exact q17
    | 10, _ => exact q19
    | 11, _ => exact q21
    | 12, _ => exact q23
    | 13, _ => exact q25
    | j + 14, hj => exact absurd hj (by omega))
  refine bw_swo (pc := 1) C 175 dX5_count_1 ho (by decide) ?_
  refine bw_iconst (pc := 175) (v := (-1 : Int32)) C dX5_count_175 ic_m1 ?_
  exact bw_ireti (pc := 176) C dX5_count_176 (bw_pr M h)
/-! X5_counted -/
abbrev rmX5_counted : Room := { frames := 1, cells := 0, slots := 0, locals := 22 }
theorem msX5_counted : bw_MV yX5_counted cX5_counted 3 (some .int) RX5 2 := ⟨mw_956, mw_1116, mw_6, mw_957, by decide +kernel⟩
def fX5_counted (x1 : Int32) (x2 : Int32) (M : bw_M) : Option (Int32 × bw_M) :=
  bw_mv (bw_pL M 5 (Int32.toInt64 x1)) fun M1 =>
  bw_mv (bw_pL M1 6 (1 : Int64)) fun M2 =>
  bw_c2 (fX5_answer (1 : Int32) x2 M2) fun v3 M4 =>
  some (v3, M4)
theorem tX5_counted (l : Launch) (x1 : Int32) (x2 : Int32)  (M : bw_M) (rr : Int32) (zz : bw_M) (h : fX5_counted x1 x2 M = some (rr, zz)) : bw_CI l bw_shM 19 yX5_counted cX5_counted 3 (some .int) rmX5_counted (fun ρ => [.ref (ρ 0), .int x1, .int x2]) M rr zz := by
  refine bw_inI (Lf := fun ρ => [(0, .ref (ρ 0)), (1, .int x1), (2, .int x2)]) cX5_counted 3 (some .int) RX5 pn_X5 rfl (fun ρ => Nat.le_of_ble_eq_true rfl) (fun ρ => rfl) ?_
  intro p e s m args below meth c D kT ρ C
  unfold fX5_counted at h
  refine bw_aload_n (pc := 0) C 0 dX5_counted_0 rfl rfl ?_
  refine bw_iload_n (pc := 1) C 1 dX5_counted_1 rfl rfl ?_
  refine bw_i2l (pc := 2) C dX5_counted_2 ?_
  obtain ⟨M1, eM1, h⟩ := bw_mv_o h
  refine bw_putL (pc := 3) (q := 0) (k0 := 5) C ltM_0 shM_0 rfl inX5 mw_620 (by decide) tyX5 tyX5_ok nmX5 rfl rfl one_M1 rfl eM1 rfl rfl dX5_counted_3 ?_
  refine bw_aload_n (pc := 6) C 0 dX5_counted_6 rfl rfl ?_
  refine bw_lconst (pc := 7) (v := (1 : Int64)) C dX5_counted_7 rfl ?_
  obtain ⟨M2, eM2, h⟩ := bw_mv_o h
  refine bw_putL (pc := 8) (q := 0) (k0 := 6) C ltM_0 shM_0 rfl inX5 mw_621 (by decide) tyX5 tyX5_ok nmX5 rfl rfl one_M1 rfl eM2 rfl rfl dX5_counted_8 ?_
  refine bw_aload_n (pc := 11) C 0 dX5_counted_11 rfl rfl ?_
  refine bw_iconst (pc := 12) (v := (1 : Int32)) C dX5_counted_12 ic_1 ?_
  refine bw_iload_n (pc := 13) C 2 dX5_counted_13 rfl rfl ?_
  obtain ⟨v3, M4, ev3, h⟩ := bw_c2_o h
  refine bw_cVi (pc := 14) (q := 0) (As := [.int (1 : Int32), .int x2]) (rest := []) C (tX5_answer l (1 : Int32) x2 M2 v3 M4 ev3) msX5_answer mw_901 rfl rfl ⟨Nat.le_of_ble_eq_true rfl, Nat.le_of_ble_eq_true rfl⟩ ltM_0 shM_0 rfl rfl rfl rfl (Nat.le_of_ble_eq_true rfl) dX5_counted_14 ?_
  exact bw_ireti (pc := 17) C dX5_counted_17 h
/-! X5_isPipe -/
abbrev rmX5_isPipe : Room := { frames := 1, cells := 0, slots := 0, locals := 25 }
theorem msX5_isPipe : bw_MV yX5_isPipe cX5_isPipe 2 (some .boolean) RX5 1 := ⟨mw_801, mw_1101, mw_6, mw_802, by decide +kernel⟩
def fX5_isPipe (x1 : Int32) (M : bw_M) : Option (Int32) :=
  bw_cl (fX5_in (Int32.toInt64 x1) (0 : Int64) (Int32.toInt64 ((M.1 0 9) - (1 : Int32)))) fun v1 =>
  bw_ck (bw_isb v1) (some v1)
theorem tX5_isPipe (l : Launch) (x1 : Int32)  (M : bw_M) (rr : Int32) (h : fX5_isPipe x1 M = some rr) : bw_CI l bw_shM 19 yX5_isPipe cX5_isPipe 2 (some .boolean) rmX5_isPipe (fun ρ => [.ref (ρ 0), .int x1]) M rr M := by
  refine bw_inI (Lf := fun ρ => [(0, .ref (ρ 0)), (1, .int x1)]) cX5_isPipe 2 (some .boolean) RX5 pn_X5 rfl (fun ρ => Nat.le_of_ble_eq_true rfl) (fun ρ => rfl) ?_
  intro p e s m args below meth c D kT ρ C
  unfold fX5_isPipe at h
  refine bw_iload_n (pc := 0) C 1 dX5_isPipe_0 rfl rfl ?_
  refine bw_i2l (pc := 1) C dX5_isPipe_1 ?_
  refine bw_lconst (pc := 2) (v := (0 : Int64)) C dX5_isPipe_2 rfl ?_
  refine bw_aload_n (pc := 3) C 0 dX5_isPipe_3 rfl rfl ?_
  refine bw_getI (pc := 4) (q := 0) (k0 := 9) C ltM_0 shM_0 rfl inX5 mw_624 (by decide) rfl dX5_isPipe_4 ?_
  refine bw_iconst (pc := 7) (v := (1 : Int32)) C dX5_isPipe_7 ic_1 ?_
  refine bw_isub (pc := 8) C dX5_isPipe_8 ?_
  refine bw_i2l (pc := 9) C dX5_isPipe_9 ?_
  obtain ⟨v1, ev1, h⟩ := bw_cl_o h
  refine bw_cSi (pc := 10) (As := [.long (Int32.toInt64 x1), .long (0 : Int64), .long (Int32.toInt64 ((M.1 0 9) - (1 : Int32)))]) (rest := []) C (tX5_in l (Int32.toInt64 x1) (0 : Int64) (Int32.toInt64 ((M.1 0 9) - (1 : Int32))) M v1 ev1) msX5_in mw_717 rfl rfl ⟨Nat.le_of_ble_eq_true rfl, Nat.le_of_ble_eq_true rfl⟩ rfl rfl rfl (Nat.le_of_ble_eq_true rfl) dX5_isPipe_10 ?_
  obtain ⟨q2, h⟩ := bw_ck_o h
  exact bw_iretz (pc := 13) C (nz_b q2) dX5_isPipe_13 (bw_pr M h)
/-! X5_remember -/
abbrev rmX5_remember : Room := { frames := 1, cells := 0, slots := 0, locals := 25 }
theorem msX5_remember : bw_MV yX5_remember cX5_remember 1 none RX5 0 := ⟨mw_835, mw_1105, mw_6, mw_836, by decide +kernel⟩
def fX5_remember (N : Nat)  (M : bw_M) : Option (bw_M) :=
  bw_cl (fX5_copies N 9 17 (0 : Int32) 11 680 ((17 : Int32) * (M.1 0 16)) (17 : Int32) M) fun M1 =>
  bw_mv (bw_pI M1 0 16 ((M1.1 0 16) + (1 : Int32))) fun M2 =>
  some M2
theorem tX5_remember (l : Launch) (N : Nat)   (M : bw_M) (zz : bw_M) (h : fX5_remember N M = some zz) : bw_CV l bw_shM 19 yX5_remember cX5_remember 1 none rmX5_remember (fun ρ => [.ref (ρ 0)]) M zz := by
  refine bw_inV (Lf := fun ρ => [(0, .ref (ρ 0))]) cX5_remember 1 none RX5 pn_X5 rfl (fun ρ => Nat.le_of_ble_eq_true rfl) (fun ρ => rfl) ?_
  intro p e s m args below meth c D kT ρ C
  unfold fX5_remember at h
  refine bw_aload_n (pc := 0) C 0 dX5_remember_0 rfl rfl ?_
  refine bw_getR (pc := 1) (q := 0) (k0 := 13) C ltM_0 shM_0 rfl inX5 mw_628 (by decide) rfl dX5_remember_1 ?_
  refine bw_iconst (pc := 4) (v := (0 : Int32)) C dX5_remember_4 ic_0 ?_
  refine bw_aload_n (pc := 5) C 0 dX5_remember_5 rfl rfl ?_
  refine bw_getR (pc := 6) (q := 0) (k0 := 15) C ltM_0 shM_0 rfl inX5 mw_630 (by decide) rfl dX5_remember_6 ?_
  refine bw_bipush (pc := 9) (v := (17 : Int32)) C dX5_remember_9 bi_17 ?_
  refine bw_aload_n (pc := 11) C 0 dX5_remember_11 rfl rfl ?_
  refine bw_getI (pc := 12) (q := 0) (k0 := 16) C ltM_0 shM_0 rfl inX5 mw_631 (by decide) rfl dX5_remember_12 ?_
  refine bw_imul (pc := 15) C dX5_remember_15 ?_
  refine bw_bipush (pc := 16) (v := (17 : Int32)) C dX5_remember_16 bi_17 ?_
  obtain ⟨M1, eM1, h⟩ := bw_cl_o h
  refine bw_cSv (pc := 18) (As := [.ref (ρ 9), .int (0 : Int32), .ref (ρ 11), .int ((17 : Int32) * (M.1 0 16)), .int (17 : Int32)]) (rest := []) C (tX5_copies l N 9 17 (0 : Int32) 11 680 ((17 : Int32) * (M.1 0 16)) (17 : Int32) ltM_9 shM_9 ltM_11 shM_11 M M1 eM1) msX5_copies mw_837 rfl rfl ⟨Nat.le_of_ble_eq_true rfl, Nat.le_of_ble_eq_true rfl⟩ rfl rfl rfl (Nat.le_of_ble_eq_true rfl) dX5_remember_18 ?_
  refine bw_aload_n (pc := 21) C 0 dX5_remember_21 rfl rfl ?_
  refine bw_dup (pc := 22) C dX5_remember_22 rfl ?_
  refine bw_getI (pc := 23) (q := 0) (k0 := 16) C ltM_0 shM_0 rfl inX5 mw_631 (by decide) rfl dX5_remember_23 ?_
  refine bw_iconst (pc := 26) (v := (1 : Int32)) C dX5_remember_26 ic_1 ?_
  refine bw_iadd (pc := 27) C dX5_remember_27 ?_
  obtain ⟨M2, eM2, h⟩ := bw_mv_o h
  refine bw_putI (pc := 28) (q := 0) (k0 := 16) C ltM_0 shM_0 rfl inX5 mw_631 (by decide) tyX5 tyX5_ok nmX5 rfl rfl rfl eM2 rfl rfl dX5_remember_28 ?_
  exact bw_vreti (pc := 31) C dX5_remember_31 h
/-! X5_turns -/
abbrev rmX5_turns : Room := { frames := 2, cells := 0, slots := 0, locals := 46 }
theorem msX5_turns : bw_MV yX5_turns cX5_turns 3 (some .int) RX5 2 := ⟨mw_864, mw_1108, mw_6, mw_865, by decide +kernel⟩
def fX5_turns (N : Nat) (x1 : Int32) (x2 : Int32) (M : bw_M) : Option (Int32 × bw_M) :=
  bw_cl (fX5_isPipe x2 M) fun v1 =>
  if v1 = 0 then
  some ((-1 : Int32), M)
  else
  if (M.1 0 16) = (40 : Int32) then
  some ((-2 : Int32), M)
  else
  bw_cl (fX5_remember N M) fun M2 =>
  bw_rd M2 9 17 x1 fun v3 =>
  bw_wr M2 9 17 x1 (v3 ^^^ ((1 : Int32) <<< (x2 &&& 31))) fun M4 =>
  bw_rd M4 9 17 x1 fun v5 =>
  some (((v5 >>> (x2 &&& 31)) &&& (1 : Int32)), M4)
theorem tX5_turns (l : Launch) (N : Nat) (x1 : Int32) (x2 : Int32)  (M : bw_M) (rr : Int32) (zz : bw_M) (h : fX5_turns N x1 x2 M = some (rr, zz)) : bw_CI l bw_shM 19 yX5_turns cX5_turns 3 (some .int) rmX5_turns (fun ρ => [.ref (ρ 0), .int x1, .int x2]) M rr zz := by
  refine bw_inI (Lf := fun ρ => [(0, .ref (ρ 0)), (1, .int x1), (2, .int x2)]) cX5_turns 3 (some .int) RX5 pn_X5 rfl (fun ρ => Nat.le_of_ble_eq_true rfl) (fun ρ => rfl) ?_
  intro p e s m args below meth c D kT ρ C
  unfold fX5_turns at h
  refine bw_aload_n (pc := 0) C 0 dX5_turns_0 rfl rfl ?_
  refine bw_iload_n (pc := 1) C 2 dX5_turns_1 rfl rfl ?_
  obtain ⟨v1, ev1, h⟩ := bw_cl_o h
  refine bw_cVi (pc := 2) (q := 0) (As := [.int x2]) (rest := []) C (tX5_isPipe l x2 M v1 ev1) msX5_isPipe mw_799 rfl rfl ⟨Nat.le_of_ble_eq_true rfl, Nat.le_of_ble_eq_true rfl⟩ ltM_0 shM_0 rfl rfl rfl rfl (Nat.le_of_ble_eq_true rfl) dX5_turns_2 ?_
  refine bw_if_ne (pc := 5) C 10 dX5_turns_5 (by decide) h (fun h => ?_) (fun h => ?_)
  · refine bw_aload_n (pc := 10) C 0 dX5_turns_10 rfl rfl ?_
    refine bw_getI (pc := 11) (q := 0) (k0 := 16) C ltM_0 shM_0 rfl inX5 mw_631 (by decide) rfl dX5_turns_11 ?_
    refine bw_bipush (pc := 14) (v := (40 : Int32)) C dX5_turns_14 bi_40 ?_
    refine bw_icmp_ne (pc := 16) C 22 dX5_turns_16 (by decide) h (fun h => ?_) (fun h => ?_)
    · refine bw_aload_n (pc := 22) C 0 dX5_turns_22 rfl rfl ?_
      obtain ⟨M2, eM2, h⟩ := bw_cl_o h
      refine bw_cVv (pc := 23) (q := 0) (As := []) (rest := []) C (tX5_remember l N M M2 eM2) msX5_remember mw_833 rfl rfl ⟨Nat.le_of_ble_eq_true rfl, Nat.le_of_ble_eq_true rfl⟩ ltM_0 shM_0 rfl rfl rfl rfl (Nat.le_of_ble_eq_true rfl) dX5_turns_23 ?_
      refine bw_aload_n (pc := 26) C 0 dX5_turns_26 rfl rfl ?_
      refine bw_getR (pc := 27) (q := 0) (k0 := 13) C ltM_0 shM_0 rfl inX5 mw_628 (by decide) rfl dX5_turns_27 ?_
      refine bw_iload_n (pc := 30) C 1 dX5_turns_30 rfl rfl ?_
      refine bw_dup2 (pc := 31) C dX5_turns_31 rfl rfl ?_
      obtain ⟨qv3, v3, ev3, h⟩ := bw_rd_o h
      refine bw_iald (pc := 32) (q := 9) C ltM_9 shM_9 qv3 ev3 dX5_turns_32 ?_
      refine bw_iconst (pc := 33) (v := (1 : Int32)) C dX5_turns_33 ic_1 ?_
      refine bw_iload_n (pc := 34) C 2 dX5_turns_34 rfl rfl ?_
      refine bw_ishl (pc := 35) C dX5_turns_35 ?_
      refine bw_ixor (pc := 36) C dX5_turns_36 ?_
      obtain ⟨qM4, M4, eM4, h⟩ := bw_wr_o h
      refine bw_iast (pc := 37) (q := 9) C ltM_9 shM_9 qM4 eM4 dX5_turns_37 ?_
      refine bw_aload_n (pc := 38) C 0 dX5_turns_38 rfl rfl ?_
      refine bw_getR (pc := 39) (q := 0) (k0 := 13) C ltM_0 shM_0 rfl inX5 mw_628 (by decide) rfl dX5_turns_39 ?_
      refine bw_iload_n (pc := 42) C 1 dX5_turns_42 rfl rfl ?_
      obtain ⟨qv5, v5, ev5, h⟩ := bw_rd_o h
      refine bw_iald (pc := 43) (q := 9) C ltM_9 shM_9 qv5 ev5 dX5_turns_43 ?_
      refine bw_iload_n (pc := 44) C 2 dX5_turns_44 rfl rfl ?_
      refine bw_ishr (pc := 45) C dX5_turns_45 ?_
      refine bw_iconst (pc := 46) (v := (1 : Int32)) C dX5_turns_46 ic_1 ?_
      refine bw_iand (pc := 47) C dX5_turns_47 ?_
      exact bw_ireti (pc := 48) C dX5_turns_48 h
    · refine bw_bipush (pc := 19) (v := (-2 : Int32)) C dX5_turns_19 bi_m2 ?_
      exact bw_ireti (pc := 21) C dX5_turns_21 h
  · refine bw_iconst (pc := 8) (v := (-1 : Int32)) C dX5_turns_8 ic_m1 ?_
    exact bw_ireti (pc := 9) C dX5_turns_9 h
/-! X5_cut -/
abbrev rmX5_cut : Room := { frames := 3, cells := 0, slots := 0, locals := 68 }
theorem msX5_cut : bw_MV yX5_cut cX5_cut 2 (some .int) RX5 1 := ⟨mw_859, mw_860, mw_6, mw_861, by decide +kernel⟩
def fX5_cut (N : Nat) (x1 : Int32) (M : bw_M) : Option (Int32 × bw_M) :=
  bw_c2 (fX5_turns N (3 : Int32) x1 M) fun v1 M2 =>
  some (v1, M2)
theorem tX5_cut (l : Launch) (N : Nat) (x1 : Int32)  (M : bw_M) (rr : Int32) (zz : bw_M) (h : fX5_cut N x1 M = some (rr, zz)) : bw_CI l bw_shM 19 yX5_cut cX5_cut 2 (some .int) rmX5_cut (fun ρ => [.ref (ρ 0), .int x1]) M rr zz := by
  refine bw_inI (Lf := fun ρ => [(0, .ref (ρ 0)), (1, .int x1)]) cX5_cut 2 (some .int) RX5 pn_X5 rfl (fun ρ => Nat.le_of_ble_eq_true rfl) (fun ρ => rfl) ?_
  intro p e s m args below meth c D kT ρ C
  unfold fX5_cut at h
  refine bw_aload_n (pc := 0) C 0 dX5_cut_0 rfl rfl ?_
  refine bw_iconst (pc := 1) (v := (3 : Int32)) C dX5_cut_1 ic_3 ?_
  refine bw_iload_n (pc := 2) C 1 dX5_cut_2 rfl rfl ?_
  obtain ⟨v1, M2, ev1, h⟩ := bw_c2_o h
  refine bw_cVi (pc := 3) (q := 0) (As := [.int (3 : Int32), .int x1]) (rest := []) C (tX5_turns l N (3 : Int32) x1 M v1 M2 ev1) msX5_turns mw_862 rfl rfl ⟨Nat.le_of_ble_eq_true rfl, Nat.le_of_ble_eq_true rfl⟩ ltM_0 shM_0 rfl rfl rfl rfl (Nat.le_of_ble_eq_true rfl) dX5_cut_3 ?_
  exact bw_ireti (pc := 6) C dX5_cut_6 h
/-! X5_digest -/
abbrev rmX5_digest : Room := { frames := 3, cells := 0, slots := 0, locals := 65 }
theorem msX5_digest : bw_MV yX5_digest cX5_digest 5 (some .long) RX5 0 := ⟨mw_1059, mw_1060, mw_6, mw_1061, by decide +kernel⟩
def fX5_digest_293 (N : Nat)  (k271 : Int64 × Int32 → Option (Int64)) (k293 : Int64 × Int32 → Option (Int64)) (x1 : Int64) (x3 : Int32) (x4 : Int32) (M : bw_M) : Option (Int64) :=
  bw_rd M 4 4 x3 fun v10 =>
  if v10 ≤ x4 then
  bw_mv (x3 + 1) fun v11 =>
  k271 (x1, v11)
  else
  bw_rd M 3 240 (((60 : Int32) * x3) + x4) fun v12 =>
  bw_mv (((31 : Int64) * x1) + (Int32.toInt64 v12)) fun v13 =>
  bw_mv (x4 + 1) fun v14 =>
  k293 (v13, v14)
theorem tX5_digest_293 {p : Program} {l : Launch} {e : Env} {s : State} {m : MethodId} {args : Array Value} {below : List Frame} {meth : Method} {c : Code} {D : va_G} {kT : Nat → ClassId} {ρ : Nat → Nat} (C : bw_Cx p s m args meth c cX5_digest 5 RX5 19 D kT ρ (some .long)) (N : Nat)   (k271 : Int64 × Int32 → Option (Int64)) (k293 : Int64 × Int32 → Option (Int64)) (x1 : Int64) (x3 : Int32) (x4 : Int32) (M : bw_M) (rr : Int64) (hk271 : ∀ z0, k271 z0 = some rr → bw_At p l e rmX5_digest s m args below meth c (MQ below (bw_QL bw_shM 19 D kT ρ rr M) args s 0 0 (bw_A ρ 19)) bw_shM 19 D kT ρ 5 271 [(0, .ref (ρ 0)), (1, .long z0.1), (3, .int z0.2)] [] M) (hk293 : ∀ z0, k293 z0 = some rr → bw_At p l e rmX5_digest s m args below meth c (MQ below (bw_QL bw_shM 19 D kT ρ rr M) args s 0 0 (bw_A ρ 19)) bw_shM 19 D kT ρ 5 293 [(0, .ref (ρ 0)), (1, .long z0.1), (3, .int x3), (4, .int z0.2)] [] M) (h : fX5_digest_293 N k271 k293 x1 x3 x4 M = some rr) : bw_At p l e rmX5_digest s m args below meth c (MQ below (bw_QL bw_shM 19 D kT ρ rr M) args s 0 0 (bw_A ρ 19)) bw_shM 19 D kT ρ 5 293 [(0, .ref (ρ 0)), (1, .long x1), (3, .int x3), (4, .int x4)] [] M := by
  unfold fX5_digest_293 at h
  refine bw_iload (pc := 293) C 3 dX5_digest_293 rfl ?_
  refine bw_aload_n (pc := 295) C 0 dX5_digest_295 rfl rfl ?_
  refine bw_getR (pc := 296) (q := 0) (k0 := 3) C ltM_0 shM_0 rfl inX5 mw_618 (by decide) rfl dX5_digest_296 ?_
  refine bw_iload_n (pc := 299) C 2 dX5_digest_299 rfl rfl ?_
  obtain ⟨qv10, v10, ev10, h⟩ := bw_rd_o h
  refine bw_iald (pc := 300) (q := 4) C ltM_4 shM_4 qv10 ev10 dX5_digest_300 ?_
  refine bw_icmp_ge (pc := 301) C 330 dX5_digest_301 (by decide) h (fun h => ?_) (fun h => ?_)
  · obtain ⟨v11, ev11, h⟩ := bw_mv_o h
    refine bw_iinc (pc := 330) (x := v11) (L' := [(3, .int v11), (0, .ref (ρ 0)), (1, .long x1), (4, .int x4)]) C 2 dX5_digest_330 rfl ev11.symm (by decide) rfl ?_
    refine bw_goto (pc := 333) C 271 dX5_digest_333 (by decide) ?_
    refine bw_pick [1, 2, 0] rfl ?_
    exact hk271 (x1, v11) h
  · refine bw_ldc2_w (pc := 304) C mw_1063 dX5_digest_304 ?_
    refine bw_lload_n (pc := 307) C 1 dX5_digest_307 rfl rfl ?_
    refine bw_lmul (pc := 308) C dX5_digest_308 ?_
    refine bw_aload_n (pc := 309) C 0 dX5_digest_309 rfl rfl ?_
    refine bw_getR (pc := 310) (q := 0) (k0 := 2) C ltM_0 shM_0 rfl inX5 mw_617 (by decide) rfl dX5_digest_310 ?_
    refine bw_bipush (pc := 313) (v := (60 : Int32)) C dX5_digest_313 bi_60 ?_
    refine bw_iload_n (pc := 315) C 2 dX5_digest_315 rfl rfl ?_
    refine bw_imul (pc := 316) C dX5_digest_316 ?_
    refine bw_iload (pc := 317) C 3 dX5_digest_317 rfl ?_
    refine bw_iadd (pc := 319) C dX5_digest_319 ?_
    obtain ⟨qv12, v12, ev12, h⟩ := bw_rd_o h
    refine bw_iald (pc := 320) (q := 3) C ltM_3 shM_3 qv12 ev12 dX5_digest_320 ?_
    refine bw_i2l (pc := 321) C dX5_digest_321 ?_
    refine bw_ladd (pc := 322) C dX5_digest_322 ?_
    obtain ⟨v13, ev13, h⟩ := bw_mv_o h
    refine bw_nmL ev13 ?_
    refine bw_lstore_n (pc := 323) (L' := [(1, .long v13), (0, .ref (ρ 0)), (3, .int x3), (4, .int x4)]) C dX5_digest_323 rfl (by decide) rfl ?_
    obtain ⟨v14, ev14, h⟩ := bw_mv_o h
    refine bw_iinc (pc := 324) (x := v14) (L' := [(4, .int v14), (1, .long v13), (0, .ref (ρ 0)), (3, .int x3)]) C 3 dX5_digest_324 rfl ev14.symm (by decide) rfl ?_
    refine bw_goto (pc := 327) C 293 dX5_digest_327 (by decide) ?_
    refine bw_pick [2, 1, 3, 0] rfl ?_
    exact hk293 (v13, v14) h
def flX5_digest_293 (N : Nat)  (k271 : Int64 × Int32 → Option (Int64)) (x3 : Int32) (M : bw_M) (fu : Nat) (w : Int64 × Int32) : Option (Int64) := bw_lp (fun kk w => fX5_digest_293 N k271 kk w.1 x3 w.2 M) fu w
theorem tlX5_digest_293 {p : Program} {l : Launch} {e : Env} {s : State} {m : MethodId} {args : Array Value} {below : List Frame} {meth : Method} {c : Code} {D : va_G} {kT : Nat → ClassId} {ρ : Nat → Nat} (C : bw_Cx p s m args meth c cX5_digest 5 RX5 19 D kT ρ (some .long)) (N : Nat)   (k271 : Int64 × Int32 → Option (Int64)) (x3 : Int32) (M : bw_M) (rr : Int64) (hk271 : ∀ z0, k271 z0 = some rr → bw_At p l e rmX5_digest s m args below meth c (MQ below (bw_QL bw_shM 19 D kT ρ rr M) args s 0 0 (bw_A ρ 19)) bw_shM 19 D kT ρ 5 271 [(0, .ref (ρ 0)), (1, .long z0.1), (3, .int z0.2)] [] M) (fu : Nat) (w : Int64 × Int32) (h : flX5_digest_293 N k271 x3 M fu w = some rr) : bw_At p l e rmX5_digest s m args below meth c (MQ below (bw_QL bw_shM 19 D kT ρ rr M) args s 0 0 (bw_A ρ 19)) bw_shM 19 D kT ρ 5 293 [(0, .ref (ρ 0)), (1, .long w.1), (3, .int x3), (4, .int w.2)] [] M :=
  bw_loop (r := rr) (fun w => bw_At p l e rmX5_digest s m args below meth c (MQ below (bw_QL bw_shM 19 D kT ρ rr M) args s 0 0 (bw_A ρ 19)) bw_shM 19 D kT ρ 5 293 [(0, .ref (ρ 0)), (1, .long w.1), (3, .int x3), (4, .int w.2)] [] M) (fun kk hk w h => tX5_digest_293 C N k271 kk w.1 x3 w.2 M rr hk271 hk h) fu w h
def fX5_digest_271 (N : Nat)  (k271 : Int64 × Int32 → Option (Int64)) (x1 : Int64) (x3 : Int32) (M : bw_M) : Option (Int64) :=
  if (4 : Int32) ≤ x3 then
  some x1
  else
  bw_rd M 4 4 x3 fun v7 =>
  bw_mv (((31 : Int64) * x1) + (Int32.toInt64 v7)) fun v8 =>
  bw_mv (0 : Int32) fun v9 =>
  flX5_digest_293 N k271 x3 M N (v8, v9)
theorem tX5_digest_271 {p : Program} {l : Launch} {e : Env} {s : State} {m : MethodId} {args : Array Value} {below : List Frame} {meth : Method} {c : Code} {D : va_G} {kT : Nat → ClassId} {ρ : Nat → Nat} (C : bw_Cx p s m args meth c cX5_digest 5 RX5 19 D kT ρ (some .long)) (N : Nat)   (k271 : Int64 × Int32 → Option (Int64)) (x1 : Int64) (x3 : Int32) (M : bw_M) (rr : Int64) (hk271 : ∀ z0, k271 z0 = some rr → bw_At p l e rmX5_digest s m args below meth c (MQ below (bw_QL bw_shM 19 D kT ρ rr M) args s 0 0 (bw_A ρ 19)) bw_shM 19 D kT ρ 5 271 [(0, .ref (ρ 0)), (1, .long z0.1), (3, .int z0.2)] [] M) (h : fX5_digest_271 N k271 x1 x3 M = some rr) : bw_At p l e rmX5_digest s m args below meth c (MQ below (bw_QL bw_shM 19 D kT ρ rr M) args s 0 0 (bw_A ρ 19)) bw_shM 19 D kT ρ 5 271 [(0, .ref (ρ 0)), (1, .long x1), (3, .int x3)] [] M := by
  unfold fX5_digest_271 at h
  refine bw_iload_n (pc := 271) C 2 dX5_digest_271 rfl rfl ?_
  refine bw_iconst (pc := 272) (v := (4 : Int32)) C dX5_digest_272 ic_4 ?_
  refine bw_icmp_ge (pc := 273) C 336 dX5_digest_273 (by decide) h (fun h => ?_) (fun h => ?_)
  · refine bw_lload_n (pc := 336) C 1 dX5_digest_336 rfl rfl ?_
    exact bw_lreti (pc := 337) C dX5_digest_337 (bw_pr M h)
  · refine bw_ldc2_w (pc := 276) C mw_1063 dX5_digest_276 ?_
    refine bw_lload_n (pc := 279) C 1 dX5_digest_279 rfl rfl ?_
    refine bw_lmul (pc := 280) C dX5_digest_280 ?_
    refine bw_aload_n (pc := 281) C 0 dX5_digest_281 rfl rfl ?_
    refine bw_getR (pc := 282) (q := 0) (k0 := 3) C ltM_0 shM_0 rfl inX5 mw_618 (by decide) rfl dX5_digest_282 ?_
    refine bw_iload_n (pc := 285) C 2 dX5_digest_285 rfl rfl ?_
    obtain ⟨qv7, v7, ev7, h⟩ := bw_rd_o h
    refine bw_iald (pc := 286) (q := 4) C ltM_4 shM_4 qv7 ev7 dX5_digest_286 ?_
    refine bw_i2l (pc := 287) C dX5_digest_287 ?_
    refine bw_ladd (pc := 288) C dX5_digest_288 ?_
    obtain ⟨v8, ev8, h⟩ := bw_mv_o h
    refine bw_nmL ev8 ?_
    refine bw_lstore_n (pc := 289) (L' := [(1, .long v8), (0, .ref (ρ 0)), (3, .int x3)]) C dX5_digest_289 rfl (by decide) rfl ?_
    refine bw_iconst (pc := 290) (v := (0 : Int32)) C dX5_digest_290 ic_0 ?_
    obtain ⟨v9, ev9, h⟩ := bw_mv_o h
    refine bw_nmI ev9 ?_
    refine bw_istore (pc := 291) (L' := [(4, .int v9), (1, .long v8), (0, .ref (ρ 0)), (3, .int x3)]) C dX5_digest_291 (by decide) rfl ?_
    refine bw_pick [2, 1, 3, 0] rfl ?_
    exact tlX5_digest_293 C N k271 x3 M rr hk271 N (v8, v9) h
def flX5_digest_271 (N : Nat)    (M : bw_M) (fu : Nat) (w : Int64 × Int32) : Option (Int64) := bw_lp (fun kk w => fX5_digest_271 N kk w.1 w.2 M) fu w
theorem tlX5_digest_271 {p : Program} {l : Launch} {e : Env} {s : State} {m : MethodId} {args : Array Value} {below : List Frame} {meth : Method} {c : Code} {D : va_G} {kT : Nat → ClassId} {ρ : Nat → Nat} (C : bw_Cx p s m args meth c cX5_digest 5 RX5 19 D kT ρ (some .long)) (N : Nat)     (M : bw_M) (rr : Int64)  (fu : Nat) (w : Int64 × Int32) (h : flX5_digest_271 N M fu w = some rr) : bw_At p l e rmX5_digest s m args below meth c (MQ below (bw_QL bw_shM 19 D kT ρ rr M) args s 0 0 (bw_A ρ 19)) bw_shM 19 D kT ρ 5 271 [(0, .ref (ρ 0)), (1, .long w.1), (3, .int w.2)] [] M :=
  bw_loop (r := rr) (fun w => bw_At p l e rmX5_digest s m args below meth c (MQ below (bw_QL bw_shM 19 D kT ρ rr M) args s 0 0 (bw_A ρ 19)) bw_shM 19 D kT ρ 5 271 [(0, .ref (ρ 0)), (1, .long w.1), (3, .int w.2)] [] M) (fun kk hk w h => tX5_digest_271 C N kk w.1 w.2 M rr hk h) fu w h
def fX5_digest_226 (N : Nat)  (k203 : Int64 × Int32 → Option (Int64)) (k226 : Int64 × Int32 → Option (Int64)) (x1 : Int64) (x3 : Int32) (x4 : Int32) (M : bw_M) : Option (Int64) :=
  bw_rd M 2 6 x3 fun v18 =>
  if v18 ≤ x4 then
  bw_mv (x3 + 1) fun v19 =>
  k203 (x1, v19)
  else
  bw_rd M 1 240 (((40 : Int32) * x3) + x4) fun v20 =>
  bw_mv (((31 : Int64) * x1) + (Int32.toInt64 v20)) fun v21 =>
  bw_mv (x4 + 1) fun v22 =>
  k226 (v21, v22)
theorem tX5_digest_226 {p : Program} {l : Launch} {e : Env} {s : State} {m : MethodId} {args : Array Value} {below : List Frame} {meth : Method} {c : Code} {D : va_G} {kT : Nat → ClassId} {ρ : Nat → Nat} (C : bw_Cx p s m args meth c cX5_digest 5 RX5 19 D kT ρ (some .long)) (N : Nat)   (k203 : Int64 × Int32 → Option (Int64)) (k226 : Int64 × Int32 → Option (Int64)) (x1 : Int64) (x3 : Int32) (x4 : Int32) (M : bw_M) (rr : Int64) (hk203 : ∀ z0, k203 z0 = some rr → bw_At p l e rmX5_digest s m args below meth c (MQ below (bw_QL bw_shM 19 D kT ρ rr M) args s 0 0 (bw_A ρ 19)) bw_shM 19 D kT ρ 5 203 [(0, .ref (ρ 0)), (1, .long z0.1), (3, .int z0.2)] [] M) (hk226 : ∀ z0, k226 z0 = some rr → bw_At p l e rmX5_digest s m args below meth c (MQ below (bw_QL bw_shM 19 D kT ρ rr M) args s 0 0 (bw_A ρ 19)) bw_shM 19 D kT ρ 5 226 [(0, .ref (ρ 0)), (1, .long z0.1), (3, .int x3), (4, .int z0.2)] [] M) (h : fX5_digest_226 N k203 k226 x1 x3 x4 M = some rr) : bw_At p l e rmX5_digest s m args below meth c (MQ below (bw_QL bw_shM 19 D kT ρ rr M) args s 0 0 (bw_A ρ 19)) bw_shM 19 D kT ρ 5 226 [(0, .ref (ρ 0)), (1, .long x1), (3, .int x3), (4, .int x4)] [] M := by
  unfold fX5_digest_226 at h
  refine bw_iload (pc := 226) C 3 dX5_digest_226 rfl ?_
  refine bw_aload_n (pc := 228) C 0 dX5_digest_228 rfl rfl ?_
  refine bw_getR (pc := 229) (q := 0) (k0 := 1) C ltM_0 shM_0 rfl inX5 mw_616 (by decide) rfl dX5_digest_229 ?_
  refine bw_iload_n (pc := 232) C 2 dX5_digest_232 rfl rfl ?_
  obtain ⟨qv18, v18, ev18, h⟩ := bw_rd_o h
  refine bw_iald (pc := 233) (q := 2) C ltM_2 shM_2 qv18 ev18 dX5_digest_233 ?_
  refine bw_icmp_ge (pc := 234) C 263 dX5_digest_234 (by decide) h (fun h => ?_) (fun h => ?_)
  · obtain ⟨v19, ev19, h⟩ := bw_mv_o h
    refine bw_iinc (pc := 263) (x := v19) (L' := [(3, .int v19), (0, .ref (ρ 0)), (1, .long x1), (4, .int x4)]) C 2 dX5_digest_263 rfl ev19.symm (by decide) rfl ?_
    refine bw_goto (pc := 266) C 203 dX5_digest_266 (by decide) ?_
    refine bw_pick [1, 2, 0] rfl ?_
    exact hk203 (x1, v19) h
  · refine bw_ldc2_w (pc := 237) C mw_1063 dX5_digest_237 ?_
    refine bw_lload_n (pc := 240) C 1 dX5_digest_240 rfl rfl ?_
    refine bw_lmul (pc := 241) C dX5_digest_241 ?_
    refine bw_aload_n (pc := 242) C 0 dX5_digest_242 rfl rfl ?_
    refine bw_getR (pc := 243) (q := 0) (k0 := 0) C ltM_0 shM_0 rfl inX5 mw_615 (by decide) rfl dX5_digest_243 ?_
    refine bw_bipush (pc := 246) (v := (40 : Int32)) C dX5_digest_246 bi_40 ?_
    refine bw_iload_n (pc := 248) C 2 dX5_digest_248 rfl rfl ?_
    refine bw_imul (pc := 249) C dX5_digest_249 ?_
    refine bw_iload (pc := 250) C 3 dX5_digest_250 rfl ?_
    refine bw_iadd (pc := 252) C dX5_digest_252 ?_
    obtain ⟨qv20, v20, ev20, h⟩ := bw_rd_o h
    refine bw_iald (pc := 253) (q := 1) C ltM_1 shM_1 qv20 ev20 dX5_digest_253 ?_
    refine bw_i2l (pc := 254) C dX5_digest_254 ?_
    refine bw_ladd (pc := 255) C dX5_digest_255 ?_
    obtain ⟨v21, ev21, h⟩ := bw_mv_o h
    refine bw_nmL ev21 ?_
    refine bw_lstore_n (pc := 256) (L' := [(1, .long v21), (0, .ref (ρ 0)), (3, .int x3), (4, .int x4)]) C dX5_digest_256 rfl (by decide) rfl ?_
    obtain ⟨v22, ev22, h⟩ := bw_mv_o h
    refine bw_iinc (pc := 257) (x := v22) (L' := [(4, .int v22), (1, .long v21), (0, .ref (ρ 0)), (3, .int x3)]) C 3 dX5_digest_257 rfl ev22.symm (by decide) rfl ?_
    refine bw_goto (pc := 260) C 226 dX5_digest_260 (by decide) ?_
    refine bw_pick [2, 1, 3, 0] rfl ?_
    exact hk226 (v21, v22) h
def flX5_digest_226 (N : Nat)  (k203 : Int64 × Int32 → Option (Int64)) (x3 : Int32) (M : bw_M) (fu : Nat) (w : Int64 × Int32) : Option (Int64) := bw_lp (fun kk w => fX5_digest_226 N k203 kk w.1 x3 w.2 M) fu w
theorem tlX5_digest_226 {p : Program} {l : Launch} {e : Env} {s : State} {m : MethodId} {args : Array Value} {below : List Frame} {meth : Method} {c : Code} {D : va_G} {kT : Nat → ClassId} {ρ : Nat → Nat} (C : bw_Cx p s m args meth c cX5_digest 5 RX5 19 D kT ρ (some .long)) (N : Nat)   (k203 : Int64 × Int32 → Option (Int64)) (x3 : Int32) (M : bw_M) (rr : Int64) (hk203 : ∀ z0, k203 z0 = some rr → bw_At p l e rmX5_digest s m args below meth c (MQ below (bw_QL bw_shM 19 D kT ρ rr M) args s 0 0 (bw_A ρ 19)) bw_shM 19 D kT ρ 5 203 [(0, .ref (ρ 0)), (1, .long z0.1), (3, .int z0.2)] [] M) (fu : Nat) (w : Int64 × Int32) (h : flX5_digest_226 N k203 x3 M fu w = some rr) : bw_At p l e rmX5_digest s m args below meth c (MQ below (bw_QL bw_shM 19 D kT ρ rr M) args s 0 0 (bw_A ρ 19)) bw_shM 19 D kT ρ 5 226 [(0, .ref (ρ 0)), (1, .long w.1), (3, .int x3), (4, .int w.2)] [] M :=
  bw_loop (r := rr) (fun w => bw_At p l e rmX5_digest s m args below meth c (MQ below (bw_QL bw_shM 19 D kT ρ rr M) args s 0 0 (bw_A ρ 19)) bw_shM 19 D kT ρ 5 226 [(0, .ref (ρ 0)), (1, .long w.1), (3, .int x3), (4, .int w.2)] [] M) (fun kk hk w h => tX5_digest_226 C N k203 kk w.1 x3 w.2 M rr hk203 hk h) fu w h
def fX5_digest_203 (N : Nat)  (k203 : Int64 × Int32 → Option (Int64)) (x1 : Int64) (x3 : Int32) (M : bw_M) : Option (Int64) :=
  if (6 : Int32) ≤ x3 then
  bw_mv (0 : Int32) fun v6 =>
  flX5_digest_271 N M N (x1, v6)
  else
  bw_rd M 2 6 x3 fun v15 =>
  bw_mv (((31 : Int64) * x1) + (Int32.toInt64 v15)) fun v16 =>
  bw_mv (0 : Int32) fun v17 =>
  flX5_digest_226 N k203 x3 M N (v16, v17)
theorem tX5_digest_203 {p : Program} {l : Launch} {e : Env} {s : State} {m : MethodId} {args : Array Value} {below : List Frame} {meth : Method} {c : Code} {D : va_G} {kT : Nat → ClassId} {ρ : Nat → Nat} (C : bw_Cx p s m args meth c cX5_digest 5 RX5 19 D kT ρ (some .long)) (N : Nat)   (k203 : Int64 × Int32 → Option (Int64)) (x1 : Int64) (x3 : Int32) (M : bw_M) (rr : Int64) (hk203 : ∀ z0, k203 z0 = some rr → bw_At p l e rmX5_digest s m args below meth c (MQ below (bw_QL bw_shM 19 D kT ρ rr M) args s 0 0 (bw_A ρ 19)) bw_shM 19 D kT ρ 5 203 [(0, .ref (ρ 0)), (1, .long z0.1), (3, .int z0.2)] [] M) (h : fX5_digest_203 N k203 x1 x3 M = some rr) : bw_At p l e rmX5_digest s m args below meth c (MQ below (bw_QL bw_shM 19 D kT ρ rr M) args s 0 0 (bw_A ρ 19)) bw_shM 19 D kT ρ 5 203 [(0, .ref (ρ 0)), (1, .long x1), (3, .int x3)] [] M := by
  unfold fX5_digest_203 at h
  refine bw_iload_n (pc := 203) C 2 dX5_digest_203 rfl rfl ?_
  refine bw_bipush (pc := 204) (v := (6 : Int32)) C dX5_digest_204 bi_6 ?_
  refine bw_icmp_ge (pc := 206) C 269 dX5_digest_206 (by decide) h (fun h => ?_) (fun h => ?_)
  · refine bw_iconst (pc := 269) (v := (0 : Int32)) C dX5_digest_269 ic_0 ?_
    obtain ⟨v6, ev6, h⟩ := bw_mv_o h
    refine bw_nmI ev6 ?_
    refine bw_istore_n (pc := 270) (L' := [(3, .int v6), (0, .ref (ρ 0)), (1, .long x1)]) C dX5_digest_270 rfl (by decide) rfl ?_
    refine bw_pick [1, 2, 0] rfl ?_
    exact tlX5_digest_271 C N M rr N (x1, v6) h
  · refine bw_ldc2_w (pc := 209) C mw_1063 dX5_digest_209 ?_
    refine bw_lload_n (pc := 212) C 1 dX5_digest_212 rfl rfl ?_
    refine bw_lmul (pc := 213) C dX5_digest_213 ?_
    refine bw_aload_n (pc := 214) C 0 dX5_digest_214 rfl rfl ?_
    refine bw_getR (pc := 215) (q := 0) (k0 := 1) C ltM_0 shM_0 rfl inX5 mw_616 (by decide) rfl dX5_digest_215 ?_
    refine bw_iload_n (pc := 218) C 2 dX5_digest_218 rfl rfl ?_
    obtain ⟨qv15, v15, ev15, h⟩ := bw_rd_o h
    refine bw_iald (pc := 219) (q := 2) C ltM_2 shM_2 qv15 ev15 dX5_digest_219 ?_
    refine bw_i2l (pc := 220) C dX5_digest_220 ?_
    refine bw_ladd (pc := 221) C dX5_digest_221 ?_
    obtain ⟨v16, ev16, h⟩ := bw_mv_o h
    refine bw_nmL ev16 ?_
    refine bw_lstore_n (pc := 222) (L' := [(1, .long v16), (0, .ref (ρ 0)), (3, .int x3)]) C dX5_digest_222 rfl (by decide) rfl ?_
    refine bw_iconst (pc := 223) (v := (0 : Int32)) C dX5_digest_223 ic_0 ?_
    obtain ⟨v17, ev17, h⟩ := bw_mv_o h
    refine bw_nmI ev17 ?_
    refine bw_istore (pc := 224) (L' := [(4, .int v17), (1, .long v16), (0, .ref (ρ 0)), (3, .int x3)]) C dX5_digest_224 (by decide) rfl ?_
    refine bw_pick [2, 1, 3, 0] rfl ?_
    exact tlX5_digest_226 C N k203 x3 M rr hk203 N (v16, v17) h
def flX5_digest_203 (N : Nat)    (M : bw_M) (fu : Nat) (w : Int64 × Int32) : Option (Int64) := bw_lp (fun kk w => fX5_digest_203 N kk w.1 w.2 M) fu w
theorem tlX5_digest_203 {p : Program} {l : Launch} {e : Env} {s : State} {m : MethodId} {args : Array Value} {below : List Frame} {meth : Method} {c : Code} {D : va_G} {kT : Nat → ClassId} {ρ : Nat → Nat} (C : bw_Cx p s m args meth c cX5_digest 5 RX5 19 D kT ρ (some .long)) (N : Nat)     (M : bw_M) (rr : Int64)  (fu : Nat) (w : Int64 × Int32) (h : flX5_digest_203 N M fu w = some rr) : bw_At p l e rmX5_digest s m args below meth c (MQ below (bw_QL bw_shM 19 D kT ρ rr M) args s 0 0 (bw_A ρ 19)) bw_shM 19 D kT ρ 5 203 [(0, .ref (ρ 0)), (1, .long w.1), (3, .int w.2)] [] M :=
  bw_loop (r := rr) (fun w => bw_At p l e rmX5_digest s m args below meth c (MQ below (bw_QL bw_shM 19 D kT ρ rr M) args s 0 0 (bw_A ρ 19)) bw_shM 19 D kT ρ 5 203 [(0, .ref (ρ 0)), (1, .long w.1), (3, .int w.2)] [] M) (fun kk hk w h => tX5_digest_203 C N kk w.1 w.2 M rr hk h) fu w h
def fX5_digest_172 (N : Nat)  (k172 : Int64 × Int32 → Option (Int64)) (x1 : Int64) (x3 : Int32) (M : bw_M) : Option (Int64) :=
  if (3 : Int32) ≤ x3 then
  bw_mv (0 : Int32) fun v5 =>
  flX5_digest_203 N M N (x1, v5)
  else
  bw_rd M 12 2094 ((698 : Int32) * x3) fun v23 =>
  bw_mv (((31 : Int64) * x1) + (Int32.toInt64 v23)) fun v24 =>
  bw_mv (x3 + 1) fun v25 =>
  k172 (v24, v25)
theorem tX5_digest_172 {p : Program} {l : Launch} {e : Env} {s : State} {m : MethodId} {args : Array Value} {below : List Frame} {meth : Method} {c : Code} {D : va_G} {kT : Nat → ClassId} {ρ : Nat → Nat} (C : bw_Cx p s m args meth c cX5_digest 5 RX5 19 D kT ρ (some .long)) (N : Nat)   (k172 : Int64 × Int32 → Option (Int64)) (x1 : Int64) (x3 : Int32) (M : bw_M) (rr : Int64) (hk172 : ∀ z0, k172 z0 = some rr → bw_At p l e rmX5_digest s m args below meth c (MQ below (bw_QL bw_shM 19 D kT ρ rr M) args s 0 0 (bw_A ρ 19)) bw_shM 19 D kT ρ 5 172 [(0, .ref (ρ 0)), (1, .long z0.1), (3, .int z0.2)] [] M) (h : fX5_digest_172 N k172 x1 x3 M = some rr) : bw_At p l e rmX5_digest s m args below meth c (MQ below (bw_QL bw_shM 19 D kT ρ rr M) args s 0 0 (bw_A ρ 19)) bw_shM 19 D kT ρ 5 172 [(0, .ref (ρ 0)), (1, .long x1), (3, .int x3)] [] M := by
  unfold fX5_digest_172 at h
  refine bw_iload_n (pc := 172) C 2 dX5_digest_172 rfl rfl ?_
  refine bw_iconst (pc := 173) (v := (3 : Int32)) C dX5_digest_173 ic_3 ?_
  refine bw_icmp_ge (pc := 174) C 201 dX5_digest_174 (by decide) h (fun h => ?_) (fun h => ?_)
  · refine bw_iconst (pc := 201) (v := (0 : Int32)) C dX5_digest_201 ic_0 ?_
    obtain ⟨v5, ev5, h⟩ := bw_mv_o h
    refine bw_nmI ev5 ?_
    refine bw_istore_n (pc := 202) (L' := [(3, .int v5), (0, .ref (ρ 0)), (1, .long x1)]) C dX5_digest_202 rfl (by decide) rfl ?_
    refine bw_pick [1, 2, 0] rfl ?_
    exact tlX5_digest_203 C N M rr N (x1, v5) h
  · refine bw_ldc2_w (pc := 177) C mw_1063 dX5_digest_177 ?_
    refine bw_lload_n (pc := 180) C 1 dX5_digest_180 rfl rfl ?_
    refine bw_lmul (pc := 181) C dX5_digest_181 ?_
    refine bw_aload_n (pc := 182) C 0 dX5_digest_182 rfl rfl ?_
    refine bw_getR (pc := 183) (q := 0) (k0 := 17) C ltM_0 shM_0 rfl inX5 mw_632 (by decide) rfl dX5_digest_183 ?_
    refine bw_sipush (pc := 186) (v := (698 : Int32)) C dX5_digest_186 si_698 ?_
    refine bw_iload_n (pc := 189) C 2 dX5_digest_189 rfl rfl ?_
    refine bw_imul (pc := 190) C dX5_digest_190 ?_
    obtain ⟨qv23, v23, ev23, h⟩ := bw_rd_o h
    refine bw_iald (pc := 191) (q := 12) C ltM_12 shM_12 qv23 ev23 dX5_digest_191 ?_
    refine bw_i2l (pc := 192) C dX5_digest_192 ?_
    refine bw_ladd (pc := 193) C dX5_digest_193 ?_
    obtain ⟨v24, ev24, h⟩ := bw_mv_o h
    refine bw_nmL ev24 ?_
    refine bw_lstore_n (pc := 194) (L' := [(1, .long v24), (0, .ref (ρ 0)), (3, .int x3)]) C dX5_digest_194 rfl (by decide) rfl ?_
    obtain ⟨v25, ev25, h⟩ := bw_mv_o h
    refine bw_iinc (pc := 195) (x := v25) (L' := [(3, .int v25), (1, .long v24), (0, .ref (ρ 0))]) C 2 dX5_digest_195 rfl ev25.symm (by decide) rfl ?_
    refine bw_goto (pc := 198) C 172 dX5_digest_198 (by decide) ?_
    refine bw_pick [2, 1, 0] rfl ?_
    exact hk172 (v24, v25) h
def flX5_digest_172 (N : Nat)    (M : bw_M) (fu : Nat) (w : Int64 × Int32) : Option (Int64) := bw_lp (fun kk w => fX5_digest_172 N kk w.1 w.2 M) fu w
theorem tlX5_digest_172 {p : Program} {l : Launch} {e : Env} {s : State} {m : MethodId} {args : Array Value} {below : List Frame} {meth : Method} {c : Code} {D : va_G} {kT : Nat → ClassId} {ρ : Nat → Nat} (C : bw_Cx p s m args meth c cX5_digest 5 RX5 19 D kT ρ (some .long)) (N : Nat)     (M : bw_M) (rr : Int64)  (fu : Nat) (w : Int64 × Int32) (h : flX5_digest_172 N M fu w = some rr) : bw_At p l e rmX5_digest s m args below meth c (MQ below (bw_QL bw_shM 19 D kT ρ rr M) args s 0 0 (bw_A ρ 19)) bw_shM 19 D kT ρ 5 172 [(0, .ref (ρ 0)), (1, .long w.1), (3, .int w.2)] [] M :=
  bw_loop (r := rr) (fun w => bw_At p l e rmX5_digest s m args below meth c (MQ below (bw_QL bw_shM 19 D kT ρ rr M) args s 0 0 (bw_A ρ 19)) bw_shM 19 D kT ρ 5 172 [(0, .ref (ρ 0)), (1, .long w.1), (3, .int w.2)] [] M) (fun kk hk w h => tX5_digest_172 C N kk w.1 w.2 M rr hk h) fu w h
def fX5_digest_148 (N : Nat)  (k33 : Int64 × Int32 → Option (Int64)) (x3 : Int32) (s0 : Int64) (s1 : Int64) (s2 : Int32) (M : bw_M) : Option (Int64) :=
  bw_rd M 9 17 (4 : Int32) fun v34 =>
  bw_mv ((s0 * (s1 + (Int32.toInt64 s2))) + (Int32.toInt64 ((v34 >>> (x3 &&& 31)) &&& (1 : Int32)))) fun v35 =>
  bw_mv (x3 + 1) fun v36 =>
  k33 (v35, v36)
theorem tX5_digest_148 {p : Program} {l : Launch} {e : Env} {s : State} {m : MethodId} {args : Array Value} {below : List Frame} {meth : Method} {c : Code} {D : va_G} {kT : Nat → ClassId} {ρ : Nat → Nat} (C : bw_Cx p s m args meth c cX5_digest 5 RX5 19 D kT ρ (some .long)) (N : Nat)   (k33 : Int64 × Int32 → Option (Int64)) (x3 : Int32) (s0 : Int64) (s1 : Int64) (s2 : Int32) (M : bw_M) (rr : Int64) (hk33 : ∀ z0, k33 z0 = some rr → bw_At p l e rmX5_digest s m args below meth c (MQ below (bw_QL bw_shM 19 D kT ρ rr M) args s 0 0 (bw_A ρ 19)) bw_shM 19 D kT ρ 5 33 [(0, .ref (ρ 0)), (1, .long z0.1), (3, .int z0.2)] [] M) (h : fX5_digest_148 N k33 x3 s0 s1 s2 M = some rr) : bw_At p l e rmX5_digest s m args below meth c (MQ below (bw_QL bw_shM 19 D kT ρ rr M) args s 0 0 (bw_A ρ 19)) bw_shM 19 D kT ρ 5 148 [(0, .ref (ρ 0)), (3, .int x3)] [.int s2, .long s1, .long s0] M := by
  unfold fX5_digest_148 at h
  refine bw_i2l (pc := 148) C dX5_digest_148 ?_
  refine bw_ladd (pc := 149) C dX5_digest_149 ?_
  refine bw_lmul (pc := 150) C dX5_digest_150 ?_
  refine bw_aload_n (pc := 151) C 0 dX5_digest_151 rfl rfl ?_
  refine bw_getR (pc := 152) (q := 0) (k0 := 13) C ltM_0 shM_0 rfl inX5 mw_628 (by decide) rfl dX5_digest_152 ?_
  refine bw_iconst (pc := 155) (v := (4 : Int32)) C dX5_digest_155 ic_4 ?_
  obtain ⟨qv34, v34, ev34, h⟩ := bw_rd_o h
  refine bw_iald (pc := 156) (q := 9) C ltM_9 shM_9 qv34 ev34 dX5_digest_156 ?_
  refine bw_iload_n (pc := 157) C 1 dX5_digest_157 rfl rfl ?_
  refine bw_ishr (pc := 158) C dX5_digest_158 ?_
  refine bw_iconst (pc := 159) (v := (1 : Int32)) C dX5_digest_159 ic_1 ?_
  refine bw_iand (pc := 160) C dX5_digest_160 ?_
  refine bw_i2l (pc := 161) C dX5_digest_161 ?_
  refine bw_ladd (pc := 162) C dX5_digest_162 ?_
  obtain ⟨v35, ev35, h⟩ := bw_mv_o h
  refine bw_nmL ev35 ?_
  refine bw_lstore_n (pc := 163) (L' := [(1, .long v35), (0, .ref (ρ 0)), (3, .int x3)]) C dX5_digest_163 rfl (by decide) rfl ?_
  obtain ⟨v36, ev36, h⟩ := bw_mv_o h
  refine bw_iinc (pc := 164) (x := v36) (L' := [(3, .int v36), (1, .long v35), (0, .ref (ρ 0))]) C 2 dX5_digest_164 rfl ev36.symm (by decide) rfl ?_
  refine bw_goto (pc := 167) C 33 dX5_digest_167 (by decide) ?_
  refine bw_pick [2, 1, 0] rfl ?_
  exact hk33 (v35, v36) h
def fX5_digest_33 (N : Nat)  (k33 : Int64 × Int32 → Option (Int64)) (x1 : Int64) (x3 : Int32) (M : bw_M) : Option (Int64) :=
  if (M.1 0 9) ≤ x3 then
  bw_mv (0 : Int32) fun v4 =>
  flX5_digest_172 N M N (x1, v4)
  else
  bw_rd M 6 6 x3 fun v26 =>
  bw_rd M 7 6 x3 fun v27 =>
  bw_rd M 8 6 x3 fun v28 =>
  bw_cl (fX5_wantsOn 9 17 x3 M) fun v29 =>
  bw_mv (((31 : Int64) * (((31 : Int64) * (((31 : Int64) * (((31 : Int64) * x1) + (Int32.toInt64 v26))) + (Int32.toInt64 v27))) + (Int32.toInt64 v28))) + (Int32.toInt64 v29)) fun v30 =>
  bw_rd M 9 17 ((5 : Int32) + x3) fun v31 =>
  bw_rd M 9 17 ((11 : Int32) + x3) fun v32 =>
  bw_cl (fX5_isCutOff N 9 17 x3 M) fun v33 =>
  if v33 = 0 then
  fX5_digest_148 N k33 x3 (31 : Int64) ((31 : Int64) * (((31 : Int64) * (((31 : Int64) * v30) + (Int32.toInt64 v31))) + (Int32.toInt64 v32))) (0 : Int32) M
  else
  fX5_digest_148 N k33 x3 (31 : Int64) ((31 : Int64) * (((31 : Int64) * (((31 : Int64) * v30) + (Int32.toInt64 v31))) + (Int32.toInt64 v32))) (1 : Int32) M
theorem tX5_digest_33 {p : Program} {l : Launch} {e : Env} {s : State} {m : MethodId} {args : Array Value} {below : List Frame} {meth : Method} {c : Code} {D : va_G} {kT : Nat → ClassId} {ρ : Nat → Nat} (C : bw_Cx p s m args meth c cX5_digest 5 RX5 19 D kT ρ (some .long)) (N : Nat)   (k33 : Int64 × Int32 → Option (Int64)) (x1 : Int64) (x3 : Int32) (M : bw_M) (rr : Int64) (hk33 : ∀ z0, k33 z0 = some rr → bw_At p l e rmX5_digest s m args below meth c (MQ below (bw_QL bw_shM 19 D kT ρ rr M) args s 0 0 (bw_A ρ 19)) bw_shM 19 D kT ρ 5 33 [(0, .ref (ρ 0)), (1, .long z0.1), (3, .int z0.2)] [] M) (h : fX5_digest_33 N k33 x1 x3 M = some rr) : bw_At p l e rmX5_digest s m args below meth c (MQ below (bw_QL bw_shM 19 D kT ρ rr M) args s 0 0 (bw_A ρ 19)) bw_shM 19 D kT ρ 5 33 [(0, .ref (ρ 0)), (1, .long x1), (3, .int x3)] [] M := by
  unfold fX5_digest_33 at h
  refine bw_iload_n (pc := 33) C 2 dX5_digest_33 rfl rfl ?_
  refine bw_aload_n (pc := 34) C 0 dX5_digest_34 rfl rfl ?_
  refine bw_getI (pc := 35) (q := 0) (k0 := 9) C ltM_0 shM_0 rfl inX5 mw_624 (by decide) rfl dX5_digest_35 ?_
  refine bw_icmp_ge (pc := 38) C 170 dX5_digest_38 (by decide) h (fun h => ?_) (fun h => ?_)
  · refine bw_iconst (pc := 170) (v := (0 : Int32)) C dX5_digest_170 ic_0 ?_
    obtain ⟨v4, ev4, h⟩ := bw_mv_o h
    refine bw_nmI ev4 ?_
    refine bw_istore_n (pc := 171) (L' := [(3, .int v4), (0, .ref (ρ 0)), (1, .long x1)]) C dX5_digest_171 rfl (by decide) rfl ?_
    refine bw_pick [1, 2, 0] rfl ?_
    exact tlX5_digest_172 C N M rr N (x1, v4) h
  · refine bw_ldc2_w (pc := 41) C mw_1063 dX5_digest_41 ?_
    refine bw_ldc2_w (pc := 44) C mw_1063 dX5_digest_44 ?_
    refine bw_ldc2_w (pc := 47) C mw_1063 dX5_digest_47 ?_
    refine bw_ldc2_w (pc := 50) C mw_1063 dX5_digest_50 ?_
    refine bw_lload_n (pc := 53) C 1 dX5_digest_53 rfl rfl ?_
    refine bw_lmul (pc := 54) C dX5_digest_54 ?_
    refine bw_aload_n (pc := 55) C 0 dX5_digest_55 rfl rfl ?_
    refine bw_getR (pc := 56) (q := 0) (k0 := 10) C ltM_0 shM_0 rfl inX5 mw_625 (by decide) rfl dX5_digest_56 ?_
    refine bw_iload_n (pc := 59) C 2 dX5_digest_59 rfl rfl ?_
    obtain ⟨qv26, v26, ev26, h⟩ := bw_rd_o h
    refine bw_iald (pc := 60) (q := 6) C ltM_6 shM_6 qv26 ev26 dX5_digest_60 ?_
    refine bw_i2l (pc := 61) C dX5_digest_61 ?_
    refine bw_ladd (pc := 62) C dX5_digest_62 ?_
    refine bw_lmul (pc := 63) C dX5_digest_63 ?_
    refine bw_aload_n (pc := 64) C 0 dX5_digest_64 rfl rfl ?_
    refine bw_getR (pc := 65) (q := 0) (k0 := 11) C ltM_0 shM_0 rfl inX5 mw_626 (by decide) rfl dX5_digest_65 ?_
    refine bw_iload_n (pc := 68) C 2 dX5_digest_68 rfl rfl ?_
    obtain ⟨qv27, v27, ev27, h⟩ := bw_rd_o h
    refine bw_iald (pc := 69) (q := 7) C ltM_7 shM_7 qv27 ev27 dX5_digest_69 ?_
    refine bw_i2l (pc := 70) C dX5_digest_70 ?_
    refine bw_ladd (pc := 71) C dX5_digest_71 ?_
    refine bw_lmul (pc := 72) C dX5_digest_72 ?_
    refine bw_aload_n (pc := 73) C 0 dX5_digest_73 rfl rfl ?_
    refine bw_getR (pc := 74) (q := 0) (k0 := 12) C ltM_0 shM_0 rfl inX5 mw_627 (by decide) rfl dX5_digest_74 ?_
    refine bw_iload_n (pc := 77) C 2 dX5_digest_77 rfl rfl ?_
    obtain ⟨qv28, v28, ev28, h⟩ := bw_rd_o h
    refine bw_iald (pc := 78) (q := 8) C ltM_8 shM_8 qv28 ev28 dX5_digest_78 ?_
    refine bw_i2l (pc := 79) C dX5_digest_79 ?_
    refine bw_ladd (pc := 80) C dX5_digest_80 ?_
    refine bw_lmul (pc := 81) C dX5_digest_81 ?_
    refine bw_aload_n (pc := 82) C 0 dX5_digest_82 rfl rfl ?_
    refine bw_aload_n (pc := 83) C 0 dX5_digest_83 rfl rfl ?_
    refine bw_getR (pc := 84) (q := 0) (k0 := 13) C ltM_0 shM_0 rfl inX5 mw_628 (by decide) rfl dX5_digest_84 ?_
    refine bw_iload_n (pc := 87) C 2 dX5_digest_87 rfl rfl ?_
    obtain ⟨v29, ev29, h⟩ := bw_cl_o h
    refine bw_cVi (pc := 88) (q := 0) (As := [.ref (ρ 9), .int x3]) (rest := [.long ((31 : Int64) * (((31 : Int64) * (((31 : Int64) * (((31 : Int64) * x1) + (Int32.toInt64 v26))) + (Int32.toInt64 v27))) + (Int32.toInt64 v28)))]) C (tX5_wantsOn l 9 17 x3 ltM_9 shM_9 M v29 ev29) msX5_wantsOn mw_804 rfl rfl ⟨Nat.le_of_ble_eq_true rfl, Nat.le_of_ble_eq_true rfl⟩ ltM_0 shM_0 rfl rfl rfl rfl (Nat.le_of_ble_eq_true rfl) dX5_digest_88 ?_
    refine bw_i2l (pc := 91) C dX5_digest_91 ?_
    refine bw_ladd (pc := 92) C dX5_digest_92 ?_
    obtain ⟨v30, ev30, h⟩ := bw_mv_o h
    refine bw_nmL ev30 ?_
    refine bw_lstore_n (pc := 93) (L' := [(1, .long v30), (0, .ref (ρ 0)), (3, .int x3)]) C dX5_digest_93 rfl (by decide) rfl ?_
    refine bw_ldc2_w (pc := 94) C mw_1063 dX5_digest_94 ?_
    refine bw_ldc2_w (pc := 97) C mw_1063 dX5_digest_97 ?_
    refine bw_ldc2_w (pc := 100) C mw_1063 dX5_digest_100 ?_
    refine bw_ldc2_w (pc := 103) C mw_1063 dX5_digest_103 ?_
    refine bw_lload_n (pc := 106) C 0 dX5_digest_106 rfl rfl ?_
    refine bw_lmul (pc := 107) C dX5_digest_107 ?_
    refine bw_aload_n (pc := 108) C 1 dX5_digest_108 rfl rfl ?_
    refine bw_getR (pc := 109) (q := 0) (k0 := 13) C ltM_0 shM_0 rfl inX5 mw_628 (by decide) rfl dX5_digest_109 ?_
    refine bw_iconst (pc := 112) (v := (5 : Int32)) C dX5_digest_112 ic_5 ?_
    refine bw_iload_n (pc := 113) C 2 dX5_digest_113 rfl rfl ?_
    refine bw_iadd (pc := 114) C dX5_digest_114 ?_
    obtain ⟨qv31, v31, ev31, h⟩ := bw_rd_o h
    refine bw_iald (pc := 115) (q := 9) C ltM_9 shM_9 qv31 ev31 dX5_digest_115 ?_
    refine bw_i2l (pc := 116) C dX5_digest_116 ?_
    refine bw_ladd (pc := 117) C dX5_digest_117 ?_
    refine bw_lmul (pc := 118) C dX5_digest_118 ?_
    refine bw_aload_n (pc := 119) C 1 dX5_digest_119 rfl rfl ?_
    refine bw_getR (pc := 120) (q := 0) (k0 := 13) C ltM_0 shM_0 rfl inX5 mw_628 (by decide) rfl dX5_digest_120 ?_
    refine bw_bipush (pc := 123) (v := (11 : Int32)) C dX5_digest_123 bi_11 ?_
    refine bw_iload_n (pc := 125) C 2 dX5_digest_125 rfl rfl ?_
    refine bw_iadd (pc := 126) C dX5_digest_126 ?_
    obtain ⟨qv32, v32, ev32, h⟩ := bw_rd_o h
    refine bw_iald (pc := 127) (q := 9) C ltM_9 shM_9 qv32 ev32 dX5_digest_127 ?_
    refine bw_i2l (pc := 128) C dX5_digest_128 ?_
    refine bw_ladd (pc := 129) C dX5_digest_129 ?_
    refine bw_lmul (pc := 130) C dX5_digest_130 ?_
    refine bw_aload_n (pc := 131) C 1 dX5_digest_131 rfl rfl ?_
    refine bw_aload_n (pc := 132) C 1 dX5_digest_132 rfl rfl ?_
    refine bw_getR (pc := 133) (q := 0) (k0 := 13) C ltM_0 shM_0 rfl inX5 mw_628 (by decide) rfl dX5_digest_133 ?_
    refine bw_iload_n (pc := 136) C 2 dX5_digest_136 rfl rfl ?_
    obtain ⟨v33, ev33, h⟩ := bw_cl_o h
    refine bw_cVi (pc := 137) (q := 0) (As := [.ref (ρ 9), .int x3]) (rest := [.long ((31 : Int64) * (((31 : Int64) * (((31 : Int64) * v30) + (Int32.toInt64 v31))) + (Int32.toInt64 v32))), .long (31 : Int64)]) C (tX5_isCutOff l N 9 17 x3 ltM_9 shM_9 M v33 ev33) msX5_isCutOff mw_811 rfl rfl ⟨Nat.le_of_ble_eq_true rfl, Nat.le_of_ble_eq_true rfl⟩ ltM_0 shM_0 rfl rfl rfl rfl (Nat.le_of_ble_eq_true rfl) dX5_digest_137 ?_
    refine bw_if_eq (pc := 140) C 147 dX5_digest_140 (by decide) h (fun h => ?_) (fun h => ?_)
    · refine bw_iconst (pc := 147) (v := (0 : Int32)) C dX5_digest_147 ic_0 ?_
      refine bw_pick [1, 2] rfl ?_
      exact tX5_digest_148 C N k33 x3 (31 : Int64) ((31 : Int64) * (((31 : Int64) * (((31 : Int64) * v30) + (Int32.toInt64 v31))) + (Int32.toInt64 v32))) (0 : Int32) M rr hk33 h
    · refine bw_iconst (pc := 143) (v := (1 : Int32)) C dX5_digest_143 ic_1 ?_
      refine bw_goto (pc := 144) C 148 dX5_digest_144 (by decide) ?_
      refine bw_pick [1, 2] rfl ?_
      exact tX5_digest_148 C N k33 x3 (31 : Int64) ((31 : Int64) * (((31 : Int64) * (((31 : Int64) * v30) + (Int32.toInt64 v31))) + (Int32.toInt64 v32))) (1 : Int32) M rr hk33 h
def flX5_digest_33 (N : Nat)    (M : bw_M) (fu : Nat) (w : Int64 × Int32) : Option (Int64) := bw_lp (fun kk w => fX5_digest_33 N kk w.1 w.2 M) fu w
theorem tlX5_digest_33 {p : Program} {l : Launch} {e : Env} {s : State} {m : MethodId} {args : Array Value} {below : List Frame} {meth : Method} {c : Code} {D : va_G} {kT : Nat → ClassId} {ρ : Nat → Nat} (C : bw_Cx p s m args meth c cX5_digest 5 RX5 19 D kT ρ (some .long)) (N : Nat)     (M : bw_M) (rr : Int64)  (fu : Nat) (w : Int64 × Int32) (h : flX5_digest_33 N M fu w = some rr) : bw_At p l e rmX5_digest s m args below meth c (MQ below (bw_QL bw_shM 19 D kT ρ rr M) args s 0 0 (bw_A ρ 19)) bw_shM 19 D kT ρ 5 33 [(0, .ref (ρ 0)), (1, .long w.1), (3, .int w.2)] [] M :=
  bw_loop (r := rr) (fun w => bw_At p l e rmX5_digest s m args below meth c (MQ below (bw_QL bw_shM 19 D kT ρ rr M) args s 0 0 (bw_A ρ 19)) bw_shM 19 D kT ρ 5 33 [(0, .ref (ρ 0)), (1, .long w.1), (3, .int w.2)] [] M) (fun kk hk w h => tX5_digest_33 C N kk w.1 w.2 M rr hk h) fu w h
def fX5_digest_6 (N : Nat)  (k6 : Int64 × Int32 → Option (Int64)) (x1 : Int64) (x3 : Int32) (M : bw_M) : Option (Int64) :=
  if (14 : Int32) ≤ x3 then
  bw_mv (0 : Int32) fun v3 =>
  flX5_digest_33 N M N (x1, v3)
  else
  bw_cl (fX5_count N x3 M) fun v37 =>
  bw_mv (((31 : Int64) * x1) + (Int32.toInt64 v37)) fun v38 =>
  bw_mv (x3 + 1) fun v39 =>
  k6 (v38, v39)
theorem tX5_digest_6 {p : Program} {l : Launch} {e : Env} {s : State} {m : MethodId} {args : Array Value} {below : List Frame} {meth : Method} {c : Code} {D : va_G} {kT : Nat → ClassId} {ρ : Nat → Nat} (C : bw_Cx p s m args meth c cX5_digest 5 RX5 19 D kT ρ (some .long)) (N : Nat)   (k6 : Int64 × Int32 → Option (Int64)) (x1 : Int64) (x3 : Int32) (M : bw_M) (rr : Int64) (hk6 : ∀ z0, k6 z0 = some rr → bw_At p l e rmX5_digest s m args below meth c (MQ below (bw_QL bw_shM 19 D kT ρ rr M) args s 0 0 (bw_A ρ 19)) bw_shM 19 D kT ρ 5 6 [(0, .ref (ρ 0)), (1, .long z0.1), (3, .int z0.2)] [] M) (h : fX5_digest_6 N k6 x1 x3 M = some rr) : bw_At p l e rmX5_digest s m args below meth c (MQ below (bw_QL bw_shM 19 D kT ρ rr M) args s 0 0 (bw_A ρ 19)) bw_shM 19 D kT ρ 5 6 [(0, .ref (ρ 0)), (1, .long x1), (3, .int x3)] [] M := by
  unfold fX5_digest_6 at h
  refine bw_iload_n (pc := 6) C 2 dX5_digest_6 rfl rfl ?_
  refine bw_bipush (pc := 7) (v := (14 : Int32)) C dX5_digest_7 bi_14 ?_
  refine bw_icmp_ge (pc := 9) C 31 dX5_digest_9 (by decide) h (fun h => ?_) (fun h => ?_)
  · refine bw_iconst (pc := 31) (v := (0 : Int32)) C dX5_digest_31 ic_0 ?_
    obtain ⟨v3, ev3, h⟩ := bw_mv_o h
    refine bw_nmI ev3 ?_
    refine bw_istore_n (pc := 32) (L' := [(3, .int v3), (0, .ref (ρ 0)), (1, .long x1)]) C dX5_digest_32 rfl (by decide) rfl ?_
    refine bw_pick [1, 2, 0] rfl ?_
    exact tlX5_digest_33 C N M rr N (x1, v3) h
  · refine bw_ldc2_w (pc := 12) C mw_1063 dX5_digest_12 ?_
    refine bw_lload_n (pc := 15) C 1 dX5_digest_15 rfl rfl ?_
    refine bw_lmul (pc := 16) C dX5_digest_16 ?_
    refine bw_aload_n (pc := 17) C 0 dX5_digest_17 rfl rfl ?_
    refine bw_iload_n (pc := 18) C 2 dX5_digest_18 rfl rfl ?_
    obtain ⟨v37, ev37, h⟩ := bw_cl_o h
    refine bw_cVi (pc := 19) (q := 0) (As := [.int x3]) (rest := [.long ((31 : Int64) * x1)]) C (tX5_count l N x3 M v37 ev37) msX5_count mw_1064 rfl rfl ⟨Nat.le_of_ble_eq_true rfl, Nat.le_of_ble_eq_true rfl⟩ ltM_0 shM_0 rfl rfl rfl rfl (Nat.le_of_ble_eq_true rfl) dX5_digest_19 ?_
    refine bw_i2l (pc := 22) C dX5_digest_22 ?_
    refine bw_ladd (pc := 23) C dX5_digest_23 ?_
    obtain ⟨v38, ev38, h⟩ := bw_mv_o h
    refine bw_nmL ev38 ?_
    refine bw_lstore_n (pc := 24) (L' := [(1, .long v38), (0, .ref (ρ 0)), (3, .int x3)]) C dX5_digest_24 rfl (by decide) rfl ?_
    obtain ⟨v39, ev39, h⟩ := bw_mv_o h
    refine bw_iinc (pc := 25) (x := v39) (L' := [(3, .int v39), (1, .long v38), (0, .ref (ρ 0))]) C 2 dX5_digest_25 rfl ev39.symm (by decide) rfl ?_
    refine bw_goto (pc := 28) C 6 dX5_digest_28 (by decide) ?_
    refine bw_pick [2, 1, 0] rfl ?_
    exact hk6 (v38, v39) h
def flX5_digest_6 (N : Nat)    (M : bw_M) (fu : Nat) (w : Int64 × Int32) : Option (Int64) := bw_lp (fun kk w => fX5_digest_6 N kk w.1 w.2 M) fu w
theorem tlX5_digest_6 {p : Program} {l : Launch} {e : Env} {s : State} {m : MethodId} {args : Array Value} {below : List Frame} {meth : Method} {c : Code} {D : va_G} {kT : Nat → ClassId} {ρ : Nat → Nat} (C : bw_Cx p s m args meth c cX5_digest 5 RX5 19 D kT ρ (some .long)) (N : Nat)     (M : bw_M) (rr : Int64)  (fu : Nat) (w : Int64 × Int32) (h : flX5_digest_6 N M fu w = some rr) : bw_At p l e rmX5_digest s m args below meth c (MQ below (bw_QL bw_shM 19 D kT ρ rr M) args s 0 0 (bw_A ρ 19)) bw_shM 19 D kT ρ 5 6 [(0, .ref (ρ 0)), (1, .long w.1), (3, .int w.2)] [] M :=
  bw_loop (r := rr) (fun w => bw_At p l e rmX5_digest s m args below meth c (MQ below (bw_QL bw_shM 19 D kT ρ rr M) args s 0 0 (bw_A ρ 19)) bw_shM 19 D kT ρ 5 6 [(0, .ref (ρ 0)), (1, .long w.1), (3, .int w.2)] [] M) (fun kk hk w h => tX5_digest_6 C N kk w.1 w.2 M rr hk h) fu w h
def fX5_digest (N : Nat)  (M : bw_M) : Option (Int64) :=
  bw_mv (17 : Int64) fun v1 =>
  bw_mv (0 : Int32) fun v2 =>
  flX5_digest_6 N M N (v1, v2)
theorem tX5_digest (l : Launch) (N : Nat)   (M : bw_M) (rr : Int64) (h : fX5_digest N M = some rr) : bw_CL l bw_shM 19 yX5_digest cX5_digest 5 (some .long) rmX5_digest (fun ρ => [.ref (ρ 0)]) M rr M := by
  refine bw_inL (Lf := fun ρ => [(0, .ref (ρ 0))]) cX5_digest 5 (some .long) RX5 pn_X5 rfl (fun ρ => Nat.le_of_ble_eq_true rfl) (fun ρ => rfl) ?_
  intro p e s m args below meth c D kT ρ C
  unfold fX5_digest at h
  refine bw_ldc2_w (pc := 0) C mw_1062 dX5_digest_0 ?_
  obtain ⟨v1, ev1, h⟩ := bw_mv_o h
  refine bw_nmL ev1 ?_
  refine bw_lstore_n (pc := 3) (L' := [(1, .long v1), (0, .ref (ρ 0))]) C dX5_digest_3 rfl (by decide) rfl ?_
  refine bw_iconst (pc := 4) (v := (0 : Int32)) C dX5_digest_4 ic_0 ?_
  obtain ⟨v2, ev2, h⟩ := bw_mv_o h
  refine bw_nmI ev2 ?_
  refine bw_istore_n (pc := 5) (L' := [(3, .int v2), (1, .long v1), (0, .ref (ρ 0))]) C dX5_digest_5 rfl (by decide) rfl ?_
  refine bw_pick [2, 1, 0] rfl ?_
  exact tlX5_digest_6 C N M rr N (v1, v2) h
/-! X5_weighs -/
abbrev rmX5_weighs : Room := { frames := 0, cells := 0, slots := 0, locals := 0 }
theorem msX5_weighs : bw_MV yX5_weighs cX5_weighs 6 (some .int) RX5 2 := ⟨mw_989, mw_1118, mw_6, mw_990, by decide +kernel⟩
def fX5_weighs_53 (N : Nat) (x1 : Int32) (x2 : Int32) (k10 : Int32 × Int32 → Option (Int32)) (x4 : Int32) (s0 : Int32) (M : bw_M) : Option (Int32) :=
  bw_mv (x4 + 1) fun v4 =>
  k10 (s0, v4)
theorem tX5_weighs_53 {p : Program} {l : Launch} {e : Env} {s : State} {m : MethodId} {args : Array Value} {below : List Frame} {meth : Method} {c : Code} {D : va_G} {kT : Nat → ClassId} {ρ : Nat → Nat} (C : bw_Cx p s m args meth c cX5_weighs 6 RX5 19 D kT ρ (some .int)) (N : Nat) (x1 : Int32) (x2 : Int32)  (k10 : Int32 × Int32 → Option (Int32)) (x4 : Int32) (s0 : Int32) (M : bw_M) (rr : Int32) (hk10 : ∀ z0, k10 z0 = some rr → bw_At p l e rmX5_weighs s m args below meth c (MQ below (bw_QI bw_shM 19 D kT ρ rr M) args s 0 0 (bw_A ρ 19)) bw_shM 19 D kT ρ 6 10 [(0, .ref (ρ 0)), (1, .int x1), (2, .int x2), (3, .int z0.1), (4, .int z0.2)] [] M) (h : fX5_weighs_53 N x1 x2 k10 x4 s0 M = some rr) : bw_At p l e rmX5_weighs s m args below meth c (MQ below (bw_QI bw_shM 19 D kT ρ rr M) args s 0 0 (bw_A ρ 19)) bw_shM 19 D kT ρ 6 53 [(0, .ref (ρ 0)), (1, .int x1), (2, .int x2), (4, .int x4)] [.int s0] M := by
  unfold fX5_weighs_53 at h
  refine bw_istore_n (pc := 53) (L' := [(3, .int s0), (0, .ref (ρ 0)), (1, .int x1), (2, .int x2), (4, .int x4)]) C dX5_weighs_53 rfl (by decide) rfl ?_
  obtain ⟨v4, ev4, h⟩ := bw_mv_o h
  refine bw_iinc (pc := 54) (x := v4) (L' := [(4, .int v4), (3, .int s0), (0, .ref (ρ 0)), (1, .int x1), (2, .int x2)]) C 4 dX5_weighs_54 rfl ev4.symm (by decide) rfl ?_
  refine bw_goto (pc := 57) C 10 dX5_weighs_57 (by decide) ?_
  refine bw_pick [2, 3, 4, 1, 0] rfl ?_
  exact hk10 (s0, v4) h
def fX5_weighs_44 (N : Nat) (x1 : Int32) (x2 : Int32) (k10 : Int32 × Int32 → Option (Int32)) (x3 : Int32) (x4 : Int32) (x5 : Int32) (s0 : Int32) (s1 : Int32) (M : bw_M) : Option (Int32) :=
  if s0 = s1 then
  fX5_weighs_53 N x1 x2 k10 x4 x5 M
  else
  fX5_weighs_53 N x1 x2 k10 x4 x3 M
theorem tX5_weighs_44 {p : Program} {l : Launch} {e : Env} {s : State} {m : MethodId} {args : Array Value} {below : List Frame} {meth : Method} {c : Code} {D : va_G} {kT : Nat → ClassId} {ρ : Nat → Nat} (C : bw_Cx p s m args meth c cX5_weighs 6 RX5 19 D kT ρ (some .int)) (N : Nat) (x1 : Int32) (x2 : Int32)  (k10 : Int32 × Int32 → Option (Int32)) (x3 : Int32) (x4 : Int32) (x5 : Int32) (s0 : Int32) (s1 : Int32) (M : bw_M) (rr : Int32) (hk10 : ∀ z0, k10 z0 = some rr → bw_At p l e rmX5_weighs s m args below meth c (MQ below (bw_QI bw_shM 19 D kT ρ rr M) args s 0 0 (bw_A ρ 19)) bw_shM 19 D kT ρ 6 10 [(0, .ref (ρ 0)), (1, .int x1), (2, .int x2), (3, .int z0.1), (4, .int z0.2)] [] M) (h : fX5_weighs_44 N x1 x2 k10 x3 x4 x5 s0 s1 M = some rr) : bw_At p l e rmX5_weighs s m args below meth c (MQ below (bw_QI bw_shM 19 D kT ρ rr M) args s 0 0 (bw_A ρ 19)) bw_shM 19 D kT ρ 6 44 [(0, .ref (ρ 0)), (1, .int x1), (2, .int x2), (3, .int x3), (4, .int x4), (5, .int x5)] [.int s1, .int s0] M := by
  unfold fX5_weighs_44 at h
  refine bw_icmp_ne (pc := 44) C 52 dX5_weighs_44 (by decide) h (fun h => ?_) (fun h => ?_)
  · refine bw_iload_n (pc := 52) C 3 dX5_weighs_52 rfl rfl ?_
    refine bw_pick [0, 1, 2, 4] rfl ?_
    exact tX5_weighs_53 C N x1 x2 k10 x4 x3 M rr hk10 h
  · refine bw_iload (pc := 47) C 5 dX5_weighs_47 rfl ?_
    refine bw_goto (pc := 49) C 53 dX5_weighs_49 (by decide) ?_
    refine bw_pick [0, 1, 2, 4] rfl ?_
    exact tX5_weighs_53 C N x1 x2 k10 x4 x5 M rr hk10 h
def fX5_weighs_10 (N : Nat) (x1 : Int32) (x2 : Int32) (k10 : Int32 × Int32 → Option (Int32)) (x3 : Int32) (x4 : Int32) (M : bw_M) : Option (Int32) :=
  if (M.1 0 9) ≤ x4 then
  some x3
  else
  bw_rd M 17 64 (x1 ^^^ ((1 : Int32) <<< (x4 &&& 31))) fun v3 =>
  if v3 ≤ x3 then
  fX5_weighs_44 N x1 x2 k10 x3 x4 v3 x2 (0 : Int32) M
  else
  fX5_weighs_44 N x1 x2 k10 x3 x4 v3 x2 (1 : Int32) M
theorem tX5_weighs_10 {p : Program} {l : Launch} {e : Env} {s : State} {m : MethodId} {args : Array Value} {below : List Frame} {meth : Method} {c : Code} {D : va_G} {kT : Nat → ClassId} {ρ : Nat → Nat} (C : bw_Cx p s m args meth c cX5_weighs 6 RX5 19 D kT ρ (some .int)) (N : Nat) (x1 : Int32) (x2 : Int32)  (k10 : Int32 × Int32 → Option (Int32)) (x3 : Int32) (x4 : Int32) (M : bw_M) (rr : Int32) (hk10 : ∀ z0, k10 z0 = some rr → bw_At p l e rmX5_weighs s m args below meth c (MQ below (bw_QI bw_shM 19 D kT ρ rr M) args s 0 0 (bw_A ρ 19)) bw_shM 19 D kT ρ 6 10 [(0, .ref (ρ 0)), (1, .int x1), (2, .int x2), (3, .int z0.1), (4, .int z0.2)] [] M) (h : fX5_weighs_10 N x1 x2 k10 x3 x4 M = some rr) : bw_At p l e rmX5_weighs s m args below meth c (MQ below (bw_QI bw_shM 19 D kT ρ rr M) args s 0 0 (bw_A ρ 19)) bw_shM 19 D kT ρ 6 10 [(0, .ref (ρ 0)), (1, .int x1), (2, .int x2), (3, .int x3), (4, .int x4)] [] M := by
  unfold fX5_weighs_10 at h
  refine bw_iload (pc := 10) C 4 dX5_weighs_10 rfl ?_
  refine bw_aload_n (pc := 12) C 0 dX5_weighs_12 rfl rfl ?_
  refine bw_getI (pc := 13) (q := 0) (k0 := 9) C ltM_0 shM_0 rfl inX5 mw_624 (by decide) rfl dX5_weighs_13 ?_
  refine bw_icmp_ge (pc := 16) C 60 dX5_weighs_16 (by decide) h (fun h => ?_) (fun h => ?_)
  · refine bw_iload_n (pc := 60) C 3 dX5_weighs_60 rfl rfl ?_
    exact bw_ireti (pc := 61) C dX5_weighs_61 (bw_pr M h)
  · refine bw_aload_n (pc := 19) C 0 dX5_weighs_19 rfl rfl ?_
    refine bw_getR (pc := 20) (q := 0) (k0 := 29) C ltM_0 shM_0 rfl inX5 mw_644 (by decide) rfl dX5_weighs_20 ?_
    refine bw_iload_n (pc := 23) C 1 dX5_weighs_23 rfl rfl ?_
    refine bw_iconst (pc := 24) (v := (1 : Int32)) C dX5_weighs_24 ic_1 ?_
    refine bw_iload (pc := 25) C 4 dX5_weighs_25 rfl ?_
    refine bw_ishl (pc := 27) C dX5_weighs_27 ?_
    refine bw_ixor (pc := 28) C dX5_weighs_28 ?_
    obtain ⟨qv3, v3, ev3, h⟩ := bw_rd_o h
    refine bw_iald (pc := 29) (q := 17) C ltM_17 shM_17 qv3 ev3 dX5_weighs_29 ?_
    refine bw_istore (pc := 30) (L' := [(5, .int v3), (0, .ref (ρ 0)), (1, .int x1), (2, .int x2), (3, .int x3), (4, .int x4)]) C dX5_weighs_30 (by decide) rfl ?_
    refine bw_iload_n (pc := 32) C 3 dX5_weighs_32 rfl rfl ?_
    refine bw_iload (pc := 33) C 0 dX5_weighs_33 rfl ?_
    refine bw_iload_n (pc := 35) C 4 dX5_weighs_35 rfl rfl ?_
    refine bw_icmp_le (pc := 36) C 43 dX5_weighs_36 (by decide) h (fun h => ?_) (fun h => ?_)
    · refine bw_iconst (pc := 43) (v := (0 : Int32)) C dX5_weighs_43 ic_0 ?_
      refine bw_pick [1, 2, 3, 4, 5, 0] rfl ?_
      exact tX5_weighs_44 C N x1 x2 k10 x3 x4 v3 x2 (0 : Int32) M rr hk10 h
    · refine bw_iconst (pc := 39) (v := (1 : Int32)) C dX5_weighs_39 ic_1 ?_
      refine bw_goto (pc := 40) C 44 dX5_weighs_40 (by decide) ?_
      refine bw_pick [1, 2, 3, 4, 5, 0] rfl ?_
      exact tX5_weighs_44 C N x1 x2 k10 x3 x4 v3 x2 (1 : Int32) M rr hk10 h
def flX5_weighs_10 (N : Nat) (x1 : Int32) (x2 : Int32)   (M : bw_M) (fu : Nat) (w : Int32 × Int32) : Option (Int32) := bw_lp (fun kk w => fX5_weighs_10 N x1 x2 kk w.1 w.2 M) fu w
theorem tlX5_weighs_10 {p : Program} {l : Launch} {e : Env} {s : State} {m : MethodId} {args : Array Value} {below : List Frame} {meth : Method} {c : Code} {D : va_G} {kT : Nat → ClassId} {ρ : Nat → Nat} (C : bw_Cx p s m args meth c cX5_weighs 6 RX5 19 D kT ρ (some .int)) (N : Nat) (x1 : Int32) (x2 : Int32)    (M : bw_M) (rr : Int32)  (fu : Nat) (w : Int32 × Int32) (h : flX5_weighs_10 N x1 x2 M fu w = some rr) : bw_At p l e rmX5_weighs s m args below meth c (MQ below (bw_QI bw_shM 19 D kT ρ rr M) args s 0 0 (bw_A ρ 19)) bw_shM 19 D kT ρ 6 10 [(0, .ref (ρ 0)), (1, .int x1), (2, .int x2), (3, .int w.1), (4, .int w.2)] [] M :=
  bw_loop (r := rr) (fun w => bw_At p l e rmX5_weighs s m args below meth c (MQ below (bw_QI bw_shM 19 D kT ρ rr M) args s 0 0 (bw_A ρ 19)) bw_shM 19 D kT ρ 6 10 [(0, .ref (ρ 0)), (1, .int x1), (2, .int x2), (3, .int w.1), (4, .int w.2)] [] M) (fun kk hk w h => tX5_weighs_10 C N x1 x2 kk w.1 w.2 M rr hk h) fu w h
def fX5_weighs (N : Nat) (x1 : Int32) (x2 : Int32) (M : bw_M) : Option (Int32) :=
  bw_rd M 17 64 x1 fun v1 =>
  bw_mv (0 : Int32) fun v2 =>
  flX5_weighs_10 N x1 x2 M N (v1, v2)
theorem tX5_weighs (l : Launch) (N : Nat) (x1 : Int32) (x2 : Int32)  (M : bw_M) (rr : Int32) (h : fX5_weighs N x1 x2 M = some rr) : bw_CI l bw_shM 19 yX5_weighs cX5_weighs 6 (some .int) rmX5_weighs (fun ρ => [.ref (ρ 0), .int x1, .int x2]) M rr M := by
  refine bw_inI (Lf := fun ρ => [(0, .ref (ρ 0)), (1, .int x1), (2, .int x2)]) cX5_weighs 6 (some .int) RX5 pn_X5 rfl (fun ρ => Nat.le_of_ble_eq_true rfl) (fun ρ => rfl) ?_
  intro p e s m args below meth c D kT ρ C
  unfold fX5_weighs at h
  refine bw_aload_n (pc := 0) C 0 dX5_weighs_0 rfl rfl ?_
  refine bw_getR (pc := 1) (q := 0) (k0 := 29) C ltM_0 shM_0 rfl inX5 mw_644 (by decide) rfl dX5_weighs_1 ?_
  refine bw_iload_n (pc := 4) C 1 dX5_weighs_4 rfl rfl ?_
  obtain ⟨qv1, v1, ev1, h⟩ := bw_rd_o h
  refine bw_iald (pc := 5) (q := 17) C ltM_17 shM_17 qv1 ev1 dX5_weighs_5 ?_
  refine bw_istore_n (pc := 6) (L' := [(3, .int v1), (0, .ref (ρ 0)), (1, .int x1), (2, .int x2)]) C dX5_weighs_6 rfl (by decide) rfl ?_
  refine bw_iconst (pc := 7) (v := (0 : Int32)) C dX5_weighs_7 ic_0 ?_
  obtain ⟨v2, ev2, h⟩ := bw_mv_o h
  refine bw_nmI ev2 ?_
  refine bw_istore (pc := 8) (L' := [(4, .int v2), (3, .int v1), (0, .ref (ρ 0)), (1, .int x1), (2, .int x2)]) C dX5_weighs_8 (by decide) rfl ?_
  refine bw_pick [2, 3, 4, 1, 0] rfl ?_
  exact tlX5_weighs_10 C N x1 x2 M rr N (v1, v2) h
/-! X5_duel -/
abbrev rmX5_duel : Room := { frames := 4, cells := 0, slots := 0, locals := 90 }
theorem msX5_duel : bw_MV yX5_duel cX5_duel 5 (some .int) RX5 1 := ⟨mw_984, mw_985, mw_6, mw_986, by decide +kernel⟩
def fX5_duel_126 (N : Nat) (x1 : Int32) (k92 : Int32 × bw_M → Option (Int32 × bw_M)) (k99 : Int32 × bw_M → Option (Int32 × bw_M)) (x2 : Int32) (x3 : Int32) (x4 : Int32) (s1 : Int32) (s3 : Int32) (s4 : Int32) (M : bw_M) : Option (Int32 × bw_M) :=
  bw_cl (fX5_weighs N s3 s4 M) fun v12 =>
  bw_wr M 18 64 s1 v12 fun M13 =>
  bw_mv (x4 + 1) fun v14 =>
  k99 (v14, M13)
theorem tX5_duel_126 {p : Program} {l : Launch} {e : Env} {s : State} {m : MethodId} {args : Array Value} {below : List Frame} {meth : Method} {c : Code} {D : va_G} {kT : Nat → ClassId} {ρ : Nat → Nat} (C : bw_Cx p s m args meth c cX5_duel 5 RX5 19 D kT ρ (some .int)) (N : Nat) (x1 : Int32)  (k92 : Int32 × bw_M → Option (Int32 × bw_M)) (k99 : Int32 × bw_M → Option (Int32 × bw_M)) (x2 : Int32) (x3 : Int32) (x4 : Int32) (s1 : Int32) (s3 : Int32) (s4 : Int32) (M : bw_M) (rr : Int32) (zz : bw_M) (hk92 : ∀ z0, k92 z0 = some (rr, zz) → bw_At p l e rmX5_duel s m args below meth c (MQ below (bw_QI bw_shM 19 D kT ρ rr zz) args s 0 0 (bw_A ρ 19)) bw_shM 19 D kT ρ 5 92 [(0, .ref (ρ 0)), (1, .int x1), (2, .int x2), (3, .int z0.1)] [] z0.2) (hk99 : ∀ z0, k99 z0 = some (rr, zz) → bw_At p l e rmX5_duel s m args below meth c (MQ below (bw_QI bw_shM 19 D kT ρ rr zz) args s 0 0 (bw_A ρ 19)) bw_shM 19 D kT ρ 5 99 [(0, .ref (ρ 0)), (1, .int x1), (2, .int x2), (3, .int x3), (4, .int z0.1)] [] z0.2) (h : fX5_duel_126 N x1 k92 k99 x2 x3 x4 s1 s3 s4 M = some (rr, zz)) : bw_At p l e rmX5_duel s m args below meth c (MQ below (bw_QI bw_shM 19 D kT ρ rr zz) args s 0 0 (bw_A ρ 19)) bw_shM 19 D kT ρ 5 126 [(0, .ref (ρ 0)), (1, .int x1), (2, .int x2), (3, .int x3), (4, .int x4)] [.int s4, .int s3, .ref (ρ 0), .int s1, .ref (ρ 18)] M := by
  unfold fX5_duel_126 at h
  obtain ⟨v12, ev12, h⟩ := bw_cl_o h
  refine bw_cVi (pc := 126) (q := 0) (As := [.int s3, .int s4]) (rest := [.int s1, .ref (ρ 18)]) C (tX5_weighs l N s3 s4 M v12 ev12) msX5_weighs mw_987 rfl rfl ⟨Nat.le_of_ble_eq_true rfl, Nat.le_of_ble_eq_true rfl⟩ ltM_0 shM_0 rfl rfl rfl rfl (Nat.le_of_ble_eq_true rfl) dX5_duel_126 ?_
  obtain ⟨qM13, M13, eM13, h⟩ := bw_wr_o h
  refine bw_iast (pc := 129) (q := 18) C ltM_18 shM_18 qM13 eM13 dX5_duel_129 ?_
  obtain ⟨v14, ev14, h⟩ := bw_mv_o h
  refine bw_iinc (pc := 130) (x := v14) (L' := [(4, .int v14), (0, .ref (ρ 0)), (1, .int x1), (2, .int x2), (3, .int x3)]) C 4 dX5_duel_130 rfl ev14.symm (by decide) rfl ?_
  refine bw_goto (pc := 133) C 99 dX5_duel_133 (by decide) ?_
  refine bw_pick [1, 2, 3, 4, 0] rfl ?_
  exact hk99 (v14, M13) h
def fX5_duel_99 (N : Nat) (x1 : Int32) (k92 : Int32 × bw_M → Option (Int32 × bw_M)) (k99 : Int32 × bw_M → Option (Int32 × bw_M)) (x2 : Int32) (x3 : Int32) (x4 : Int32) (M : bw_M) : Option (Int32 × bw_M) :=
  if x2 ≤ x4 then
  bw_cl (fX5_copies N 18 64 (0 : Int32) 17 64 (0 : Int32) x2 M) fun M10 =>
  bw_mv (x3 + Int32.ofInt (-1)) fun v11 =>
  k92 (v11, M10)
  else
  if (x3 - x3 / (2 : Int32) * (2 : Int32)) = (1 : Int32) then
  fX5_duel_126 N x1 k92 k99 x2 x3 x4 x4 x4 (1 : Int32) M
  else
  fX5_duel_126 N x1 k92 k99 x2 x3 x4 x4 x4 (0 : Int32) M
theorem tX5_duel_99 {p : Program} {l : Launch} {e : Env} {s : State} {m : MethodId} {args : Array Value} {below : List Frame} {meth : Method} {c : Code} {D : va_G} {kT : Nat → ClassId} {ρ : Nat → Nat} (C : bw_Cx p s m args meth c cX5_duel 5 RX5 19 D kT ρ (some .int)) (N : Nat) (x1 : Int32)  (k92 : Int32 × bw_M → Option (Int32 × bw_M)) (k99 : Int32 × bw_M → Option (Int32 × bw_M)) (x2 : Int32) (x3 : Int32) (x4 : Int32) (M : bw_M) (rr : Int32) (zz : bw_M) (hk92 : ∀ z0, k92 z0 = some (rr, zz) → bw_At p l e rmX5_duel s m args below meth c (MQ below (bw_QI bw_shM 19 D kT ρ rr zz) args s 0 0 (bw_A ρ 19)) bw_shM 19 D kT ρ 5 92 [(0, .ref (ρ 0)), (1, .int x1), (2, .int x2), (3, .int z0.1)] [] z0.2) (hk99 : ∀ z0, k99 z0 = some (rr, zz) → bw_At p l e rmX5_duel s m args below meth c (MQ below (bw_QI bw_shM 19 D kT ρ rr zz) args s 0 0 (bw_A ρ 19)) bw_shM 19 D kT ρ 5 99 [(0, .ref (ρ 0)), (1, .int x1), (2, .int x2), (3, .int x3), (4, .int z0.1)] [] z0.2) (h : fX5_duel_99 N x1 k92 k99 x2 x3 x4 M = some (rr, zz)) : bw_At p l e rmX5_duel s m args below meth c (MQ below (bw_QI bw_shM 19 D kT ρ rr zz) args s 0 0 (bw_A ρ 19)) bw_shM 19 D kT ρ 5 99 [(0, .ref (ρ 0)), (1, .int x1), (2, .int x2), (3, .int x3), (4, .int x4)] [] M := by
  unfold fX5_duel_99 at h
  refine bw_iload (pc := 99) C 4 dX5_duel_99 rfl ?_
  refine bw_iload_n (pc := 101) C 2 dX5_duel_101 rfl rfl ?_
  refine bw_icmp_ge (pc := 102) C 136 dX5_duel_102 (by decide) h (fun h => ?_) (fun h => ?_)
  · refine bw_aload_n (pc := 136) C 0 dX5_duel_136 rfl rfl ?_
    refine bw_getR (pc := 137) (q := 0) (k0 := 30) C ltM_0 shM_0 rfl inX5 mw_645 (by decide) rfl dX5_duel_137 ?_
    refine bw_iconst (pc := 140) (v := (0 : Int32)) C dX5_duel_140 ic_0 ?_
    refine bw_aload_n (pc := 141) C 0 dX5_duel_141 rfl rfl ?_
    refine bw_getR (pc := 142) (q := 0) (k0 := 29) C ltM_0 shM_0 rfl inX5 mw_644 (by decide) rfl dX5_duel_142 ?_
    refine bw_iconst (pc := 145) (v := (0 : Int32)) C dX5_duel_145 ic_0 ?_
    refine bw_iload_n (pc := 146) C 2 dX5_duel_146 rfl rfl ?_
    obtain ⟨M10, eM10, h⟩ := bw_cl_o h
    refine bw_cSv (pc := 147) (As := [.ref (ρ 18), .int (0 : Int32), .ref (ρ 17), .int (0 : Int32), .int x2]) (rest := []) C (tX5_copies l N 18 64 (0 : Int32) 17 64 (0 : Int32) x2 ltM_18 shM_18 ltM_17 shM_17 M M10 eM10) msX5_copies mw_837 rfl rfl ⟨Nat.le_of_ble_eq_true rfl, Nat.le_of_ble_eq_true rfl⟩ rfl rfl rfl (Nat.le_of_ble_eq_true rfl) dX5_duel_147 ?_
    obtain ⟨v11, ev11, h⟩ := bw_mv_o h
    refine bw_iinc (pc := 150) (x := v11) (L' := [(3, .int v11), (0, .ref (ρ 0)), (1, .int x1), (2, .int x2), (4, .int x4)]) C 3 dX5_duel_150 rfl ev11.symm (by decide) rfl ?_
    refine bw_goto (pc := 153) C 92 dX5_duel_153 (by decide) ?_
    refine bw_pick [1, 2, 3, 0] rfl ?_
    exact hk92 (v11, M10) h
  · refine bw_aload_n (pc := 105) C 0 dX5_duel_105 rfl rfl ?_
    refine bw_getR (pc := 106) (q := 0) (k0 := 30) C ltM_0 shM_0 rfl inX5 mw_645 (by decide) rfl dX5_duel_106 ?_
    refine bw_iload (pc := 109) C 4 dX5_duel_109 rfl ?_
    refine bw_aload_n (pc := 111) C 0 dX5_duel_111 rfl rfl ?_
    refine bw_iload (pc := 112) C 4 dX5_duel_112 rfl ?_
    refine bw_iload_n (pc := 114) C 3 dX5_duel_114 rfl rfl ?_
    refine bw_iconst (pc := 115) (v := (2 : Int32)) C dX5_duel_115 ic_2 ?_
    refine bw_irem (pc := 116) C dX5_duel_116 (by decide) ?_
    refine bw_iconst (pc := 117) (v := (1 : Int32)) C dX5_duel_117 ic_1 ?_
    refine bw_icmp_ne (pc := 118) C 125 dX5_duel_118 (by decide) h (fun h => ?_) (fun h => ?_)
    · refine bw_iconst (pc := 125) (v := (0 : Int32)) C dX5_duel_125 ic_0 ?_
      refine bw_pick [0, 1, 2, 3, 4] rfl ?_
      exact tX5_duel_126 C N x1 k92 k99 x2 x3 x4 x4 x4 (0 : Int32) M rr zz hk92 hk99 h
    · refine bw_iconst (pc := 121) (v := (1 : Int32)) C dX5_duel_121 ic_1 ?_
      refine bw_goto (pc := 122) C 126 dX5_duel_122 (by decide) ?_
      refine bw_pick [0, 1, 2, 3, 4] rfl ?_
      exact tX5_duel_126 C N x1 k92 k99 x2 x3 x4 x4 x4 (1 : Int32) M rr zz hk92 hk99 h
def flX5_duel_99 (N : Nat) (x1 : Int32) (k92 : Int32 × bw_M → Option (Int32 × bw_M)) (x2 : Int32) (x3 : Int32)  (fu : Nat) (w : Int32 × bw_M) : Option (Int32 × bw_M) := bw_lp (fun kk w => fX5_duel_99 N x1 k92 kk x2 x3 w.1 w.2) fu w
theorem tlX5_duel_99 {p : Program} {l : Launch} {e : Env} {s : State} {m : MethodId} {args : Array Value} {below : List Frame} {meth : Method} {c : Code} {D : va_G} {kT : Nat → ClassId} {ρ : Nat → Nat} (C : bw_Cx p s m args meth c cX5_duel 5 RX5 19 D kT ρ (some .int)) (N : Nat) (x1 : Int32)  (k92 : Int32 × bw_M → Option (Int32 × bw_M)) (x2 : Int32) (x3 : Int32)  (rr : Int32) (zz : bw_M) (hk92 : ∀ z0, k92 z0 = some (rr, zz) → bw_At p l e rmX5_duel s m args below meth c (MQ below (bw_QI bw_shM 19 D kT ρ rr zz) args s 0 0 (bw_A ρ 19)) bw_shM 19 D kT ρ 5 92 [(0, .ref (ρ 0)), (1, .int x1), (2, .int x2), (3, .int z0.1)] [] z0.2) (fu : Nat) (w : Int32 × bw_M) (h : flX5_duel_99 N x1 k92 x2 x3 fu w = some (rr, zz)) : bw_At p l e rmX5_duel s m args below meth c (MQ below (bw_QI bw_shM 19 D kT ρ rr zz) args s 0 0 (bw_A ρ 19)) bw_shM 19 D kT ρ 5 99 [(0, .ref (ρ 0)), (1, .int x1), (2, .int x2), (3, .int x3), (4, .int w.1)] [] w.2 :=
  bw_loop (r := (rr, zz)) (fun w => bw_At p l e rmX5_duel s m args below meth c (MQ below (bw_QI bw_shM 19 D kT ρ rr zz) args s 0 0 (bw_A ρ 19)) bw_shM 19 D kT ρ 5 99 [(0, .ref (ρ 0)), (1, .int x1), (2, .int x2), (3, .int x3), (4, .int w.1)] [] w.2) (fun kk hk w h => tX5_duel_99 C N x1 k92 kk x2 x3 w.1 w.2 rr zz hk92 hk h) fu w h
def fX5_duel_92 (N : Nat) (x1 : Int32) (k92 : Int32 × bw_M → Option (Int32 × bw_M)) (x2 : Int32) (x3 : Int32) (M : bw_M) : Option (Int32 × bw_M) :=
  if x3 ≤ 0 then
  bw_rd M 9 17 (3 : Int32) fun v5 =>
  bw_rd M 17 64 v5 fun v6 =>
  bw_c2 (fX5_tell v6 M) fun v7 M8 =>
  some (v7, M8)
  else
  bw_mv (0 : Int32) fun v9 =>
  flX5_duel_99 N x1 k92 x2 x3 N (v9, M)
theorem tX5_duel_92 {p : Program} {l : Launch} {e : Env} {s : State} {m : MethodId} {args : Array Value} {below : List Frame} {meth : Method} {c : Code} {D : va_G} {kT : Nat → ClassId} {ρ : Nat → Nat} (C : bw_Cx p s m args meth c cX5_duel 5 RX5 19 D kT ρ (some .int)) (N : Nat) (x1 : Int32)  (k92 : Int32 × bw_M → Option (Int32 × bw_M)) (x2 : Int32) (x3 : Int32) (M : bw_M) (rr : Int32) (zz : bw_M) (hk92 : ∀ z0, k92 z0 = some (rr, zz) → bw_At p l e rmX5_duel s m args below meth c (MQ below (bw_QI bw_shM 19 D kT ρ rr zz) args s 0 0 (bw_A ρ 19)) bw_shM 19 D kT ρ 5 92 [(0, .ref (ρ 0)), (1, .int x1), (2, .int x2), (3, .int z0.1)] [] z0.2) (h : fX5_duel_92 N x1 k92 x2 x3 M = some (rr, zz)) : bw_At p l e rmX5_duel s m args below meth c (MQ below (bw_QI bw_shM 19 D kT ρ rr zz) args s 0 0 (bw_A ρ 19)) bw_shM 19 D kT ρ 5 92 [(0, .ref (ρ 0)), (1, .int x1), (2, .int x2), (3, .int x3)] [] M := by
  unfold fX5_duel_92 at h
  refine bw_iload_n (pc := 92) C 3 dX5_duel_92 rfl rfl ?_
  refine bw_if_le (pc := 93) C 156 dX5_duel_93 (by decide) h (fun h => ?_) (fun h => ?_)
  · refine bw_aload_n (pc := 156) C 0 dX5_duel_156 rfl rfl ?_
    refine bw_aload_n (pc := 157) C 0 dX5_duel_157 rfl rfl ?_
    refine bw_getR (pc := 158) (q := 0) (k0 := 29) C ltM_0 shM_0 rfl inX5 mw_644 (by decide) rfl dX5_duel_158 ?_
    refine bw_aload_n (pc := 161) C 0 dX5_duel_161 rfl rfl ?_
    refine bw_getR (pc := 162) (q := 0) (k0 := 13) C ltM_0 shM_0 rfl inX5 mw_628 (by decide) rfl dX5_duel_162 ?_
    refine bw_iconst (pc := 165) (v := (3 : Int32)) C dX5_duel_165 ic_3 ?_
    obtain ⟨qv5, v5, ev5, h⟩ := bw_rd_o h
    refine bw_iald (pc := 166) (q := 9) C ltM_9 shM_9 qv5 ev5 dX5_duel_166 ?_
    obtain ⟨qv6, v6, ev6, h⟩ := bw_rd_o h
    refine bw_iald (pc := 167) (q := 17) C ltM_17 shM_17 qv6 ev6 dX5_duel_167 ?_
    obtain ⟨v7, M8, ev7, h⟩ := bw_c2_o h
    refine bw_cVi (pc := 168) (q := 0) (As := [.int v6]) (rest := []) C (tX5_tell l v6 M v7 M8 ev7) msX5_tell mw_728 rfl rfl ⟨Nat.le_of_ble_eq_true rfl, Nat.le_of_ble_eq_true rfl⟩ ltM_0 shM_0 rfl rfl rfl rfl (Nat.le_of_ble_eq_true rfl) dX5_duel_168 ?_
    exact bw_ireti (pc := 171) C dX5_duel_171 h
  · refine bw_iconst (pc := 96) (v := (0 : Int32)) C dX5_duel_96 ic_0 ?_
    obtain ⟨v9, ev9, h⟩ := bw_mv_o h
    refine bw_nmI ev9 ?_
    refine bw_istore (pc := 97) (L' := [(4, .int v9), (0, .ref (ρ 0)), (1, .int x1), (2, .int x2), (3, .int x3)]) C dX5_duel_97 (by decide) rfl ?_
    refine bw_pick [1, 2, 3, 4, 0] rfl ?_
    exact tlX5_duel_99 C N x1 k92 x2 x3 rr zz hk92 N (v9, M) h
def flX5_duel_92 (N : Nat) (x1 : Int32)  (x2 : Int32)  (fu : Nat) (w : Int32 × bw_M) : Option (Int32 × bw_M) := bw_lp (fun kk w => fX5_duel_92 N x1 kk x2 w.1 w.2) fu w
theorem tlX5_duel_92 {p : Program} {l : Launch} {e : Env} {s : State} {m : MethodId} {args : Array Value} {below : List Frame} {meth : Method} {c : Code} {D : va_G} {kT : Nat → ClassId} {ρ : Nat → Nat} (C : bw_Cx p s m args meth c cX5_duel 5 RX5 19 D kT ρ (some .int)) (N : Nat) (x1 : Int32)   (x2 : Int32)  (rr : Int32) (zz : bw_M)  (fu : Nat) (w : Int32 × bw_M) (h : flX5_duel_92 N x1 x2 fu w = some (rr, zz)) : bw_At p l e rmX5_duel s m args below meth c (MQ below (bw_QI bw_shM 19 D kT ρ rr zz) args s 0 0 (bw_A ρ 19)) bw_shM 19 D kT ρ 5 92 [(0, .ref (ρ 0)), (1, .int x1), (2, .int x2), (3, .int w.1)] [] w.2 :=
  bw_loop (r := (rr, zz)) (fun w => bw_At p l e rmX5_duel s m args below meth c (MQ below (bw_QI bw_shM 19 D kT ρ rr zz) args s 0 0 (bw_A ρ 19)) bw_shM 19 D kT ρ 5 92 [(0, .ref (ρ 0)), (1, .int x1), (2, .int x2), (3, .int w.1)] [] w.2) (fun kk hk w h => tX5_duel_92 C N x1 kk x2 w.1 w.2 rr zz hk h) fu w h
def fX5_duel_33 (N : Nat) (x1 : Int32) (k33 : Int32 × bw_M → Option (Int32 × bw_M)) (x2 : Int32) (x3 : Int32) (M : bw_M) : Option (Int32 × bw_M) :=
  if x2 ≤ x3 then
  bw_mv ((2 : Int32) * x1) fun v4 =>
  flX5_duel_92 N x1 x2 N (v4, M)
  else
  bw_cl (fX5_layAside N M) fun M15 =>
  bw_wr M15 10 17 (3 : Int32) x3 fun M16 =>
  bw_c2 (fX5_goes N 10 17 M16) fun v17 M18 =>
  bw_cl (fX5_bits N (v17 &&& (21 : Int32))) fun v19 =>
  bw_cl (fX5_bits N (v17 &&& (42 : Int32))) fun v20 =>
  bw_wr M18 17 64 x3 (v19 - v20) fun M21 =>
  bw_mv (x3 + 1) fun v22 =>
  k33 (v22, M21)
theorem tX5_duel_33 {p : Program} {l : Launch} {e : Env} {s : State} {m : MethodId} {args : Array Value} {below : List Frame} {meth : Method} {c : Code} {D : va_G} {kT : Nat → ClassId} {ρ : Nat → Nat} (C : bw_Cx p s m args meth c cX5_duel 5 RX5 19 D kT ρ (some .int)) (N : Nat) (x1 : Int32)  (k33 : Int32 × bw_M → Option (Int32 × bw_M)) (x2 : Int32) (x3 : Int32) (M : bw_M) (rr : Int32) (zz : bw_M) (hk33 : ∀ z0, k33 z0 = some (rr, zz) → bw_At p l e rmX5_duel s m args below meth c (MQ below (bw_QI bw_shM 19 D kT ρ rr zz) args s 0 0 (bw_A ρ 19)) bw_shM 19 D kT ρ 5 33 [(0, .ref (ρ 0)), (1, .int x1), (2, .int x2), (3, .int z0.1)] [] z0.2) (h : fX5_duel_33 N x1 k33 x2 x3 M = some (rr, zz)) : bw_At p l e rmX5_duel s m args below meth c (MQ below (bw_QI bw_shM 19 D kT ρ rr zz) args s 0 0 (bw_A ρ 19)) bw_shM 19 D kT ρ 5 33 [(0, .ref (ρ 0)), (1, .int x1), (2, .int x2), (3, .int x3)] [] M := by
  unfold fX5_duel_33 at h
  refine bw_iload_n (pc := 33) C 3 dX5_duel_33 rfl rfl ?_
  refine bw_iload_n (pc := 34) C 2 dX5_duel_34 rfl rfl ?_
  refine bw_icmp_ge (pc := 35) C 88 dX5_duel_35 (by decide) h (fun h => ?_) (fun h => ?_)
  · refine bw_iconst (pc := 88) (v := (2 : Int32)) C dX5_duel_88 ic_2 ?_
    refine bw_iload_n (pc := 89) C 1 dX5_duel_89 rfl rfl ?_
    refine bw_imul (pc := 90) C dX5_duel_90 ?_
    obtain ⟨v4, ev4, h⟩ := bw_mv_o h
    refine bw_nmI ev4 ?_
    refine bw_istore_n (pc := 91) (L' := [(3, .int v4), (0, .ref (ρ 0)), (1, .int x1), (2, .int x2)]) C dX5_duel_91 rfl (by decide) rfl ?_
    refine bw_pick [1, 2, 3, 0] rfl ?_
    exact tlX5_duel_92 C N x1 x2 rr zz N (v4, M) h
  · refine bw_aload_n (pc := 38) C 0 dX5_duel_38 rfl rfl ?_
    obtain ⟨M15, eM15, h⟩ := bw_cl_o h
    refine bw_cVv (pc := 39) (q := 0) (As := []) (rest := []) C (tX5_layAside l N M M15 eM15) msX5_layAside mw_897 rfl rfl ⟨Nat.le_of_ble_eq_true rfl, Nat.le_of_ble_eq_true rfl⟩ ltM_0 shM_0 rfl rfl rfl rfl (Nat.le_of_ble_eq_true rfl) dX5_duel_39 ?_
    refine bw_aload_n (pc := 42) C 0 dX5_duel_42 rfl rfl ?_
    refine bw_getR (pc := 43) (q := 0) (k0 := 14) C ltM_0 shM_0 rfl inX5 mw_629 (by decide) rfl dX5_duel_43 ?_
    refine bw_iconst (pc := 46) (v := (3 : Int32)) C dX5_duel_46 ic_3 ?_
    refine bw_iload_n (pc := 47) C 3 dX5_duel_47 rfl rfl ?_
    obtain ⟨qM16, M16, eM16, h⟩ := bw_wr_o h
    refine bw_iast (pc := 48) (q := 10) C ltM_10 shM_10 qM16 eM16 dX5_duel_48 ?_
    refine bw_aload_n (pc := 49) C 0 dX5_duel_49 rfl rfl ?_
    refine bw_aload_n (pc := 50) C 0 dX5_duel_50 rfl rfl ?_
    refine bw_getR (pc := 51) (q := 0) (k0 := 14) C ltM_0 shM_0 rfl inX5 mw_629 (by decide) rfl dX5_duel_51 ?_
    obtain ⟨v17, M18, ev17, h⟩ := bw_c2_o h
    refine bw_cVi (pc := 54) (q := 0) (As := [.ref (ρ 10)]) (rest := []) C (tX5_goes l N 10 17 ltM_10 shM_10 M16 v17 M18 ev17) msX5_goes mw_840 rfl rfl ⟨Nat.le_of_ble_eq_true rfl, Nat.le_of_ble_eq_true rfl⟩ ltM_0 shM_0 rfl rfl rfl rfl (Nat.le_of_ble_eq_true rfl) dX5_duel_54 ?_
    refine bw_istore (pc := 57) (L' := [(4, .int v17), (0, .ref (ρ 0)), (1, .int x1), (2, .int x2), (3, .int x3)]) C dX5_duel_57 (by decide) rfl ?_
    refine bw_aload_n (pc := 59) C 1 dX5_duel_59 rfl rfl ?_
    refine bw_getR (pc := 60) (q := 0) (k0 := 29) C ltM_0 shM_0 rfl inX5 mw_644 (by decide) rfl dX5_duel_60 ?_
    refine bw_iload_n (pc := 63) C 4 dX5_duel_63 rfl rfl ?_
    refine bw_iload (pc := 64) C 0 dX5_duel_64 rfl ?_
    refine bw_bipush (pc := 66) (v := (21 : Int32)) C dX5_duel_66 bi_21 ?_
    refine bw_iand (pc := 68) C dX5_duel_68 ?_
    obtain ⟨v19, ev19, h⟩ := bw_cl_o h
    refine bw_cSi (pc := 69) (As := [.int (v17 &&& (21 : Int32))]) (rest := [.int x3, .ref (ρ 17)]) C (tX5_bits l N (v17 &&& (21 : Int32)) M18 v19 ev19) msX5_bits mw_917 rfl rfl ⟨Nat.le_of_ble_eq_true rfl, Nat.le_of_ble_eq_true rfl⟩ rfl rfl rfl (Nat.le_of_ble_eq_true rfl) dX5_duel_69 ?_
    refine bw_iload (pc := 72) C 0 dX5_duel_72 rfl ?_
    refine bw_bipush (pc := 74) (v := (42 : Int32)) C dX5_duel_74 bi_42 ?_
    refine bw_iand (pc := 76) C dX5_duel_76 ?_
    obtain ⟨v20, ev20, h⟩ := bw_cl_o h
    refine bw_cSi (pc := 77) (As := [.int (v17 &&& (42 : Int32))]) (rest := [.int v19, .int x3, .ref (ρ 17)]) C (tX5_bits l N (v17 &&& (42 : Int32)) M18 v20 ev20) msX5_bits mw_917 rfl rfl ⟨Nat.le_of_ble_eq_true rfl, Nat.le_of_ble_eq_true rfl⟩ rfl rfl rfl (Nat.le_of_ble_eq_true rfl) dX5_duel_77 ?_
    refine bw_isub (pc := 80) C dX5_duel_80 ?_
    obtain ⟨qM21, M21, eM21, h⟩ := bw_wr_o h
    refine bw_iast (pc := 81) (q := 17) C ltM_17 shM_17 qM21 eM21 dX5_duel_81 ?_
    obtain ⟨v22, ev22, h⟩ := bw_mv_o h
    refine bw_iinc (pc := 82) (x := v22) (L' := [(3, .int v22), (4, .int v17), (0, .ref (ρ 0)), (1, .int x1), (2, .int x2)]) C 4 dX5_duel_82 rfl ev22.symm (by decide) rfl ?_
    refine bw_goto (pc := 85) C 33 dX5_duel_85 (by decide) ?_
    refine bw_pick [2, 3, 4, 0] rfl ?_
    exact hk33 (v22, M21) h
def flX5_duel_33 (N : Nat) (x1 : Int32)  (x2 : Int32)  (fu : Nat) (w : Int32 × bw_M) : Option (Int32 × bw_M) := bw_lp (fun kk w => fX5_duel_33 N x1 kk x2 w.1 w.2) fu w
theorem tlX5_duel_33 {p : Program} {l : Launch} {e : Env} {s : State} {m : MethodId} {args : Array Value} {below : List Frame} {meth : Method} {c : Code} {D : va_G} {kT : Nat → ClassId} {ρ : Nat → Nat} (C : bw_Cx p s m args meth c cX5_duel 5 RX5 19 D kT ρ (some .int)) (N : Nat) (x1 : Int32)   (x2 : Int32)  (rr : Int32) (zz : bw_M)  (fu : Nat) (w : Int32 × bw_M) (h : flX5_duel_33 N x1 x2 fu w = some (rr, zz)) : bw_At p l e rmX5_duel s m args below meth c (MQ below (bw_QI bw_shM 19 D kT ρ rr zz) args s 0 0 (bw_A ρ 19)) bw_shM 19 D kT ρ 5 33 [(0, .ref (ρ 0)), (1, .int x1), (2, .int x2), (3, .int w.1)] [] w.2 :=
  bw_loop (r := (rr, zz)) (fun w => bw_At p l e rmX5_duel s m args below meth c (MQ below (bw_QI bw_shM 19 D kT ρ rr zz) args s 0 0 (bw_A ρ 19)) bw_shM 19 D kT ρ 5 33 [(0, .ref (ρ 0)), (1, .int x1), (2, .int x2), (3, .int w.1)] [] w.2) (fun kk hk w h => tX5_duel_33 C N x1 kk x2 w.1 w.2 rr zz hk h) fu w h
def fX5_duel (N : Nat) (x1 : Int32) (M : bw_M) : Option (Int32 × bw_M) :=
  bw_cl (fX5_in (Int32.toInt64 x1) (0 : Int64) (2 : Int64)) fun v1 =>
  if v1 = 0 then
  some ((-1 : Int32), M)
  else
  if (M.1 0 9) = 0 then
  some ((-4 : Int32), M)
  else
  bw_mv ((1 : Int32) <<< ((M.1 0 9) &&& 31)) fun v2 =>
  bw_mv (0 : Int32) fun v3 =>
  flX5_duel_33 N x1 v2 N (v3, M)
theorem tX5_duel (l : Launch) (N : Nat) (x1 : Int32)  (M : bw_M) (rr : Int32) (zz : bw_M) (h : fX5_duel N x1 M = some (rr, zz)) : bw_CI l bw_shM 19 yX5_duel cX5_duel 5 (some .int) rmX5_duel (fun ρ => [.ref (ρ 0), .int x1]) M rr zz := by
  refine bw_inI (Lf := fun ρ => [(0, .ref (ρ 0)), (1, .int x1)]) cX5_duel 5 (some .int) RX5 pn_X5 rfl (fun ρ => Nat.le_of_ble_eq_true rfl) (fun ρ => rfl) ?_
  intro p e s m args below meth c D kT ρ C
  unfold fX5_duel at h
  refine bw_iload_n (pc := 0) C 1 dX5_duel_0 rfl rfl ?_
  refine bw_i2l (pc := 1) C dX5_duel_1 ?_
  refine bw_lconst (pc := 2) (v := (0 : Int64)) C dX5_duel_2 rfl ?_
  refine bw_ldc2_w (pc := 3) C mw_882 dX5_duel_3 ?_
  obtain ⟨v1, ev1, h⟩ := bw_cl_o h
  refine bw_cSi (pc := 6) (As := [.long (Int32.toInt64 x1), .long (0 : Int64), .long (2 : Int64)]) (rest := []) C (tX5_in l (Int32.toInt64 x1) (0 : Int64) (2 : Int64) M v1 ev1) msX5_in mw_717 rfl rfl ⟨Nat.le_of_ble_eq_true rfl, Nat.le_of_ble_eq_true rfl⟩ rfl rfl rfl (Nat.le_of_ble_eq_true rfl) dX5_duel_6 ?_
  refine bw_if_ne (pc := 9) C 14 dX5_duel_9 (by decide) h (fun h => ?_) (fun h => ?_)
  · refine bw_aload_n (pc := 14) C 0 dX5_duel_14 rfl rfl ?_
    refine bw_getI (pc := 15) (q := 0) (k0 := 9) C ltM_0 shM_0 rfl inX5 mw_624 (by decide) rfl dX5_duel_15 ?_
    refine bw_if_ne (pc := 18) C 24 dX5_duel_18 (by decide) h (fun h => ?_) (fun h => ?_)
    · refine bw_iconst (pc := 24) (v := (1 : Int32)) C dX5_duel_24 ic_1 ?_
      refine bw_aload_n (pc := 25) C 0 dX5_duel_25 rfl rfl ?_
      refine bw_getI (pc := 26) (q := 0) (k0 := 9) C ltM_0 shM_0 rfl inX5 mw_624 (by decide) rfl dX5_duel_26 ?_
      refine bw_ishl (pc := 29) C dX5_duel_29 ?_
      obtain ⟨v2, ev2, h⟩ := bw_mv_o h
      refine bw_nmI ev2 ?_
      refine bw_istore_n (pc := 30) (L' := [(2, .int v2), (0, .ref (ρ 0)), (1, .int x1)]) C dX5_duel_30 rfl (by decide) rfl ?_
      refine bw_iconst (pc := 31) (v := (0 : Int32)) C dX5_duel_31 ic_0 ?_
      obtain ⟨v3, ev3, h⟩ := bw_mv_o h
      refine bw_nmI ev3 ?_
      refine bw_istore_n (pc := 32) (L' := [(3, .int v3), (2, .int v2), (0, .ref (ρ 0)), (1, .int x1)]) C dX5_duel_32 rfl (by decide) rfl ?_
      refine bw_pick [2, 3, 1, 0] rfl ?_
      exact tlX5_duel_33 C N x1 v2 rr zz N (v3, M) h
    · refine bw_bipush (pc := 21) (v := (-4 : Int32)) C dX5_duel_21 bi_m4 ?_
      exact bw_ireti (pc := 23) C dX5_duel_23 h
  · refine bw_iconst (pc := 12) (v := (-1 : Int32)) C dX5_duel_12 ic_m1 ?_
    exact bw_ireti (pc := 13) C dX5_duel_13 h
/-! X5_isText -/
abbrev rmX5_isText : Room := { frames := 1, cells := 0, slots := 0, locals := 25 }
theorem msX5_isText : bw_MS yX5_isText cX5_isText 1 (some .boolean) 1 := ⟨mw_753, mw_6, mw_754, by decide +kernel⟩
def fX5_isText (x0 : Int32)  : Option (Int32) :=
  bw_cl (fX5_in (Int32.toInt64 x0) (0 : Int64) (3 : Int64)) fun v1 =>
  bw_ck (bw_isb v1) (some v1)
theorem tX5_isText (l : Launch) (x0 : Int32)  (M : bw_M) (rr : Int32) (h : fX5_isText x0 = some rr) : bw_CI l bw_shM 19 yX5_isText cX5_isText 1 (some .boolean) rmX5_isText (fun ρ => [.int x0]) M rr M := by
  refine bw_inI (Lf := fun ρ => [(0, .int x0)]) cX5_isText 1 (some .boolean) RX5 pn_X5 rfl (fun ρ => Nat.le_of_ble_eq_true rfl) (fun ρ => rfl) ?_
  intro p e s m args below meth c D kT ρ C
  unfold fX5_isText at h
  refine bw_iload_n (pc := 0) C 0 dX5_isText_0 rfl rfl ?_
  refine bw_i2l (pc := 1) C dX5_isText_1 ?_
  refine bw_lconst (pc := 2) (v := (0 : Int64)) C dX5_isText_2 rfl ?_
  refine bw_ldc2_w (pc := 3) C mw_755 dX5_isText_3 ?_
  obtain ⟨v1, ev1, h⟩ := bw_cl_o h
  refine bw_cSi (pc := 6) (As := [.long (Int32.toInt64 x0), .long (0 : Int64), .long (3 : Int64)]) (rest := []) C (tX5_in l (Int32.toInt64 x0) (0 : Int64) (3 : Int64) M v1 ev1) msX5_in mw_717 rfl rfl ⟨Nat.le_of_ble_eq_true rfl, Nat.le_of_ble_eq_true rfl⟩ rfl rfl rfl (Nat.le_of_ble_eq_true rfl) dX5_isText_6 ?_
  obtain ⟨q2, h⟩ := bw_ck_o h
  exact bw_iretz (pc := 9) C (nz_b q2) dX5_isText_9 (bw_pr M h)
/-! X5_here -/
abbrev rmX5_here : Room := { frames := 0, cells := 0, slots := 0, locals := 0 }
theorem msX5_here : bw_MV yX5_here cX5_here 1 (some .int) RX5 0 := ⟨mw_778, mw_1098, mw_6, mw_779, by decide +kernel⟩
def fX5_here_32   (s0 : Int32) (M : bw_M) : Option (Int32) :=
  some s0
theorem tX5_here_32 {p : Program} {l : Launch} {e : Env} {s : State} {m : MethodId} {args : Array Value} {below : List Frame} {meth : Method} {c : Code} {D : va_G} {kT : Nat → ClassId} {ρ : Nat → Nat} (C : bw_Cx p s m args meth c cX5_here 1 RX5 19 D kT ρ (some .int))    (s0 : Int32) (M : bw_M) (rr : Int32)  (h : fX5_here_32 s0 M = some rr) : bw_At p l e rmX5_here s m args below meth c (MQ below (bw_QI bw_shM 19 D kT ρ rr M) args s 0 0 (bw_A ρ 19)) bw_shM 19 D kT ρ 1 32 [(0, .ref (ρ 0))] [.int s0] M := by
  unfold fX5_here_32 at h
  exact bw_ireti (pc := 32) C dX5_here_32 (bw_pr M h)
def fX5_here  (M : bw_M) : Option (Int32) :=
  if (M.1 0 19) ≤ (M.1 0 18) then
  fX5_here_32 (-1 : Int32) M
  else
  bw_rd M 3 240 (((60 : Int32) * (M.1 0 20)) + (M.1 0 18)) fun v1 =>
  fX5_here_32 v1 M
theorem tX5_here (l : Launch)   (M : bw_M) (rr : Int32) (h : fX5_here M = some rr) : bw_CI l bw_shM 19 yX5_here cX5_here 1 (some .int) rmX5_here (fun ρ => [.ref (ρ 0)]) M rr M := by
  refine bw_inI (Lf := fun ρ => [(0, .ref (ρ 0))]) cX5_here 1 (some .int) RX5 pn_X5 rfl (fun ρ => Nat.le_of_ble_eq_true rfl) (fun ρ => rfl) ?_
  intro p e s m args below meth c D kT ρ C
  unfold fX5_here at h
  refine bw_aload_n (pc := 0) C 0 dX5_here_0 rfl rfl ?_
  refine bw_getI (pc := 1) (q := 0) (k0 := 18) C ltM_0 shM_0 rfl inX5 mw_633 (by decide) rfl dX5_here_1 ?_
  refine bw_aload_n (pc := 4) C 0 dX5_here_4 rfl rfl ?_
  refine bw_getI (pc := 5) (q := 0) (k0 := 19) C ltM_0 shM_0 rfl inX5 mw_634 (by decide) rfl dX5_here_5 ?_
  refine bw_icmp_ge (pc := 8) C 31 dX5_here_8 (by decide) h (fun h => ?_) (fun h => ?_)
  · refine bw_iconst (pc := 31) (v := (-1 : Int32)) C dX5_here_31 ic_m1 ?_
    refine bw_pick [0] rfl ?_
    exact tX5_here_32 C (-1 : Int32) M rr h
  · refine bw_aload_n (pc := 11) C 0 dX5_here_11 rfl rfl ?_
    refine bw_getR (pc := 12) (q := 0) (k0 := 2) C ltM_0 shM_0 rfl inX5 mw_617 (by decide) rfl dX5_here_12 ?_
    refine bw_bipush (pc := 15) (v := (60 : Int32)) C dX5_here_15 bi_60 ?_
    refine bw_aload_n (pc := 17) C 0 dX5_here_17 rfl rfl ?_
    refine bw_getI (pc := 18) (q := 0) (k0 := 20) C ltM_0 shM_0 rfl inX5 mw_635 (by decide) rfl dX5_here_18 ?_
    refine bw_imul (pc := 21) C dX5_here_21 ?_
    refine bw_aload_n (pc := 22) C 0 dX5_here_22 rfl rfl ?_
    refine bw_getI (pc := 23) (q := 0) (k0 := 18) C ltM_0 shM_0 rfl inX5 mw_633 (by decide) rfl dX5_here_23 ?_
    refine bw_iadd (pc := 26) C dX5_here_26 ?_
    obtain ⟨qv1, v1, ev1, h⟩ := bw_rd_o h
    refine bw_iald (pc := 27) (q := 3) C ltM_3 shM_3 qv1 ev1 dX5_here_27 ?_
    refine bw_goto (pc := 28) C 32 dX5_here_28 (by decide) ?_
    refine bw_pick [0] rfl ?_
    exact tX5_here_32 C v1 M rr h
/-! X5_skips -/
abbrev rmX5_skips : Room := { frames := 1, cells := 0, slots := 0, locals := 20 }
theorem msX5_skips : bw_MV yX5_skips cX5_skips 1 none RX5 0 := ⟨mw_774, mw_1097, mw_6, mw_775, by decide +kernel⟩
def fX5_skips_0 (N : Nat)  (k0 : bw_M → Option (bw_M))  (M : bw_M) : Option (bw_M) :=
  bw_cl (fX5_here M) fun v1 =>
  if v1 = (32 : Int32) then
  bw_mv (bw_pI M 0 18 ((M.1 0 18) + (1 : Int32))) fun M2 =>
  k0 M2
  else
  some M
theorem tX5_skips_0 {p : Program} {l : Launch} {e : Env} {s : State} {m : MethodId} {args : Array Value} {below : List Frame} {meth : Method} {c : Code} {D : va_G} {kT : Nat → ClassId} {ρ : Nat → Nat} (C : bw_Cx p s m args meth c cX5_skips 1 RX5 19 D kT ρ none) (N : Nat)   (k0 : bw_M → Option (bw_M))  (M : bw_M) (zz : bw_M) (hk0 : ∀ z0, k0 z0 = some zz → bw_At p l e rmX5_skips s m args below meth c (MQ below (bw_QV bw_shM 19 D kT ρ zz) args s 0 0 (bw_A ρ 19)) bw_shM 19 D kT ρ 1 0 [(0, .ref (ρ 0))] [] z0) (h : fX5_skips_0 N k0 M = some zz) : bw_At p l e rmX5_skips s m args below meth c (MQ below (bw_QV bw_shM 19 D kT ρ zz) args s 0 0 (bw_A ρ 19)) bw_shM 19 D kT ρ 1 0 [(0, .ref (ρ 0))] [] M := by
  unfold fX5_skips_0 at h
  refine bw_aload_n (pc := 0) C 0 dX5_skips_0 rfl rfl ?_
  obtain ⟨v1, ev1, h⟩ := bw_cl_o h
  refine bw_cVi (pc := 1) (q := 0) (As := []) (rest := []) C (tX5_here l M v1 ev1) msX5_here mw_776 rfl rfl ⟨Nat.le_of_ble_eq_true rfl, Nat.le_of_ble_eq_true rfl⟩ ltM_0 shM_0 rfl rfl rfl rfl (Nat.le_of_ble_eq_true rfl) dX5_skips_1 ?_
  refine bw_bipush (pc := 4) (v := (32 : Int32)) C dX5_skips_4 bi_32 ?_
  refine bw_icmp_ne (pc := 6) C 22 dX5_skips_6 (by decide) h (fun h => ?_) (fun h => ?_)
  · exact bw_vreti (pc := 22) C dX5_skips_22 h
  · refine bw_aload_n (pc := 9) C 0 dX5_skips_9 rfl rfl ?_
    refine bw_dup (pc := 10) C dX5_skips_10 rfl ?_
    refine bw_getI (pc := 11) (q := 0) (k0 := 18) C ltM_0 shM_0 rfl inX5 mw_633 (by decide) rfl dX5_skips_11 ?_
    refine bw_iconst (pc := 14) (v := (1 : Int32)) C dX5_skips_14 ic_1 ?_
    refine bw_iadd (pc := 15) C dX5_skips_15 ?_
    obtain ⟨M2, eM2, h⟩ := bw_mv_o h
    refine bw_putI (pc := 16) (q := 0) (k0 := 18) C ltM_0 shM_0 rfl inX5 mw_633 (by decide) tyX5 tyX5_ok nmX5 rfl rfl rfl eM2 rfl rfl dX5_skips_16 ?_
    refine bw_goto (pc := 19) C 0 dX5_skips_19 (by decide) ?_
    refine bw_pick [0] rfl ?_
    exact hk0 M2 h
def flX5_skips_0 (N : Nat)     (fu : Nat) (w : bw_M) : Option (bw_M) := bw_lp (fun kk w => fX5_skips_0 N kk w) fu w
theorem tlX5_skips_0 {p : Program} {l : Launch} {e : Env} {s : State} {m : MethodId} {args : Array Value} {below : List Frame} {meth : Method} {c : Code} {D : va_G} {kT : Nat → ClassId} {ρ : Nat → Nat} (C : bw_Cx p s m args meth c cX5_skips 1 RX5 19 D kT ρ none) (N : Nat)      (zz : bw_M)  (fu : Nat) (w : bw_M) (h : flX5_skips_0 N fu w = some zz) : bw_At p l e rmX5_skips s m args below meth c (MQ below (bw_QV bw_shM 19 D kT ρ zz) args s 0 0 (bw_A ρ 19)) bw_shM 19 D kT ρ 1 0 [(0, .ref (ρ 0))] [] w :=
  bw_loop (r := zz) (fun w => bw_At p l e rmX5_skips s m args below meth c (MQ below (bw_QV bw_shM 19 D kT ρ zz) args s 0 0 (bw_A ρ 19)) bw_shM 19 D kT ρ 1 0 [(0, .ref (ρ 0))] [] w) (fun kk hk w h => tX5_skips_0 C N kk w zz hk h) fu w h
def fX5_skips (N : Nat)  (M : bw_M) : Option (bw_M) :=
  flX5_skips_0 N N M
theorem tX5_skips (l : Launch) (N : Nat)   (M : bw_M) (zz : bw_M) (h : fX5_skips N M = some zz) : bw_CV l bw_shM 19 yX5_skips cX5_skips 1 none rmX5_skips (fun ρ => [.ref (ρ 0)]) M zz := by
  refine bw_inV (Lf := fun ρ => [(0, .ref (ρ 0))]) cX5_skips 1 none RX5 pn_X5 rfl (fun ρ => Nat.le_of_ble_eq_true rfl) (fun ρ => rfl) ?_
  intro p e s m args below meth c D kT ρ C
  unfold fX5_skips at h
  refine bw_pick [0] rfl ?_
  exact tlX5_skips_0 C N zz N M h
/-! X5_isFigure -/
abbrev rmX5_isFigure : Room := { frames := 1, cells := 0, slots := 0, locals := 25 }
theorem msX5_isFigure : bw_MV yX5_isFigure cX5_isFigure 3 (some .boolean) RX5 2 := ⟨mw_782, mw_1099, mw_6, mw_783, by decide +kernel⟩
def fX5_isFigure (x1 : Int32) (x2 : Int32) (M : bw_M) : Option (Int32 × bw_M) :=
  bw_cl (fX5_here M) fun v1 =>
  bw_cl (fX5_in (Int32.toInt64 v1) (Int32.toInt64 ((48 : Int32) + x1)) (Int32.toInt64 ((48 : Int32) + x2))) fun v2 =>
  if v2 = 0 then
  some ((0 : Int32), M)
  else
  bw_cl (fX5_here M) fun v3 =>
  bw_mv (bw_pI M 0 21 (v3 - (48 : Int32))) fun M4 =>
  bw_mv (bw_pI M4 0 18 ((M4.1 0 18) + (1 : Int32))) fun M5 =>
  some ((1 : Int32), M5)
theorem tX5_isFigure (l : Launch) (x1 : Int32) (x2 : Int32)  (M : bw_M) (rr : Int32) (zz : bw_M) (h : fX5_isFigure x1 x2 M = some (rr, zz)) : bw_CI l bw_shM 19 yX5_isFigure cX5_isFigure 3 (some .boolean) rmX5_isFigure (fun ρ => [.ref (ρ 0), .int x1, .int x2]) M rr zz := by
  refine bw_inI (Lf := fun ρ => [(0, .ref (ρ 0)), (1, .int x1), (2, .int x2)]) cX5_isFigure 3 (some .boolean) RX5 pn_X5 rfl (fun ρ => Nat.le_of_ble_eq_true rfl) (fun ρ => rfl) ?_
  intro p e s m args below meth c D kT ρ C
  unfold fX5_isFigure at h
  refine bw_aload_n (pc := 0) C 0 dX5_isFigure_0 rfl rfl ?_
  obtain ⟨v1, ev1, h⟩ := bw_cl_o h
  refine bw_cVi (pc := 1) (q := 0) (As := []) (rest := []) C (tX5_here l M v1 ev1) msX5_here mw_776 rfl rfl ⟨Nat.le_of_ble_eq_true rfl, Nat.le_of_ble_eq_true rfl⟩ ltM_0 shM_0 rfl rfl rfl rfl (Nat.le_of_ble_eq_true rfl) dX5_isFigure_1 ?_
  refine bw_i2l (pc := 4) C dX5_isFigure_4 ?_
  refine bw_bipush (pc := 5) (v := (48 : Int32)) C dX5_isFigure_5 bi_48 ?_
  refine bw_iload_n (pc := 7) C 1 dX5_isFigure_7 rfl rfl ?_
  refine bw_iadd (pc := 8) C dX5_isFigure_8 ?_
  refine bw_i2l (pc := 9) C dX5_isFigure_9 ?_
  refine bw_bipush (pc := 10) (v := (48 : Int32)) C dX5_isFigure_10 bi_48 ?_
  refine bw_iload_n (pc := 12) C 2 dX5_isFigure_12 rfl rfl ?_
  refine bw_iadd (pc := 13) C dX5_isFigure_13 ?_
  refine bw_i2l (pc := 14) C dX5_isFigure_14 ?_
  obtain ⟨v2, ev2, h⟩ := bw_cl_o h
  refine bw_cSi (pc := 15) (As := [.long (Int32.toInt64 v1), .long (Int32.toInt64 ((48 : Int32) + x1)), .long (Int32.toInt64 ((48 : Int32) + x2))]) (rest := []) C (tX5_in l (Int32.toInt64 v1) (Int32.toInt64 ((48 : Int32) + x1)) (Int32.toInt64 ((48 : Int32) + x2)) M v2 ev2) msX5_in mw_717 rfl rfl ⟨Nat.le_of_ble_eq_true rfl, Nat.le_of_ble_eq_true rfl⟩ rfl rfl rfl (Nat.le_of_ble_eq_true rfl) dX5_isFigure_15 ?_
  refine bw_if_ne (pc := 18) C 23 dX5_isFigure_18 (by decide) h (fun h => ?_) (fun h => ?_)
  · refine bw_aload_n (pc := 23) C 0 dX5_isFigure_23 rfl rfl ?_
    refine bw_aload_n (pc := 24) C 0 dX5_isFigure_24 rfl rfl ?_
    obtain ⟨v3, ev3, h⟩ := bw_cl_o h
    refine bw_cVi (pc := 25) (q := 0) (As := []) (rest := [.ref (ρ 0)]) C (tX5_here l M v3 ev3) msX5_here mw_776 rfl rfl ⟨Nat.le_of_ble_eq_true rfl, Nat.le_of_ble_eq_true rfl⟩ ltM_0 shM_0 rfl rfl rfl rfl (Nat.le_of_ble_eq_true rfl) dX5_isFigure_25 ?_
    refine bw_bipush (pc := 28) (v := (48 : Int32)) C dX5_isFigure_28 bi_48 ?_
    refine bw_isub (pc := 30) C dX5_isFigure_30 ?_
    obtain ⟨M4, eM4, h⟩ := bw_mv_o h
    refine bw_putI (pc := 31) (q := 0) (k0 := 21) C ltM_0 shM_0 rfl inX5 mw_636 (by decide) tyX5 tyX5_ok nmX5 rfl rfl rfl eM4 rfl rfl dX5_isFigure_31 ?_
    refine bw_aload_n (pc := 34) C 0 dX5_isFigure_34 rfl rfl ?_
    refine bw_dup (pc := 35) C dX5_isFigure_35 rfl ?_
    refine bw_getI (pc := 36) (q := 0) (k0 := 18) C ltM_0 shM_0 rfl inX5 mw_633 (by decide) rfl dX5_isFigure_36 ?_
    refine bw_iconst (pc := 39) (v := (1 : Int32)) C dX5_isFigure_39 ic_1 ?_
    refine bw_iadd (pc := 40) C dX5_isFigure_40 ?_
    obtain ⟨M5, eM5, h⟩ := bw_mv_o h
    refine bw_putI (pc := 41) (q := 0) (k0 := 18) C ltM_0 shM_0 rfl inX5 mw_633 (by decide) tyX5 tyX5_ok nmX5 rfl rfl rfl eM5 rfl rfl dX5_isFigure_41 ?_
    refine bw_iconst (pc := 44) (v := (1 : Int32)) C dX5_isFigure_44 ic_1 ?_
    exact bw_iretz (pc := 45) C nz_1 dX5_isFigure_45 h
  · refine bw_iconst (pc := 21) (v := (0 : Int32)) C dX5_isFigure_21 ic_0 ?_
    exact bw_iretz (pc := 22) C nz_0 dX5_isFigure_22 h
/-! X5_readsHead -/
abbrev rmX5_readsHead : Room := { frames := 2, cells := 0, slots := 0, locals := 47 }
theorem msX5_readsHead : bw_MV yX5_readsHead cX5_readsHead 2 (some .boolean) RX5 0 := ⟨mw_770, mw_1096, mw_6, mw_771, by decide +kernel⟩
def fX5_readsHead (N : Nat)  (M : bw_M) : Option (Int32 × bw_M) :=
  bw_cl (fX5_skips N M) fun M1 =>
  bw_cl (fX5_here M1) fun v2 =>
  if v2 = (97 : Int32) then
  bw_mv (bw_pI M1 0 18 ((M1.1 0 18) + (1 : Int32))) fun M3 =>
  bw_mv (M3.1 0 18) fun v4 =>
  bw_c2 (fX5_isFigure (0 : Int32) (9 : Int32) M3) fun v5 M6 =>
  if v5 = 0 then
  some ((0 : Int32), M6)
  else
  bw_mv (bw_pI M6 0 22 ((10 : Int32) * (M6.1 0 21))) fun M7 =>
  bw_c2 (fX5_isFigure (0 : Int32) (9 : Int32) M7) fun v8 M9 =>
  if v8 = 0 then
  some ((0 : Int32), M9)
  else
  bw_mv (bw_pI M9 0 22 ((M9.1 0 22) + (M9.1 0 21))) fun M10 =>
  if (M10.1 0 22) ≤ (60 : Int32) then
  bw_c2 (fX5_isFigure (0 : Int32) (9 : Int32) M10) fun v11 M12 =>
  if v11 = 0 then
  some ((0 : Int32), M12)
  else
  bw_mv (bw_pI M12 0 23 (M12.1 0 21)) fun M13 =>
  some ((1 : Int32), M13)
  else
  bw_mv (bw_pI M10 0 18 v4) fun M14 =>
  some ((0 : Int32), M14)
  else
  some ((0 : Int32), M1)
theorem tX5_readsHead (l : Launch) (N : Nat)   (M : bw_M) (rr : Int32) (zz : bw_M) (h : fX5_readsHead N M = some (rr, zz)) : bw_CI l bw_shM 19 yX5_readsHead cX5_readsHead 2 (some .boolean) rmX5_readsHead (fun ρ => [.ref (ρ 0)]) M rr zz := by
  refine bw_inI (Lf := fun ρ => [(0, .ref (ρ 0))]) cX5_readsHead 2 (some .boolean) RX5 pn_X5 rfl (fun ρ => Nat.le_of_ble_eq_true rfl) (fun ρ => rfl) ?_
  intro p e s m args below meth c D kT ρ C
  unfold fX5_readsHead at h
  refine bw_aload_n (pc := 0) C 0 dX5_readsHead_0 rfl rfl ?_
  obtain ⟨M1, eM1, h⟩ := bw_cl_o h
  refine bw_cVv (pc := 1) (q := 0) (As := []) (rest := []) C (tX5_skips l N M M1 eM1) msX5_skips mw_772 rfl rfl ⟨Nat.le_of_ble_eq_true rfl, Nat.le_of_ble_eq_true rfl⟩ ltM_0 shM_0 rfl rfl rfl rfl (Nat.le_of_ble_eq_true rfl) dX5_readsHead_1 ?_
  refine bw_aload_n (pc := 4) C 0 dX5_readsHead_4 rfl rfl ?_
  obtain ⟨v2, ev2, h⟩ := bw_cl_o h
  refine bw_cVi (pc := 5) (q := 0) (As := []) (rest := []) C (tX5_here l M1 v2 ev2) msX5_here mw_776 rfl rfl ⟨Nat.le_of_ble_eq_true rfl, Nat.le_of_ble_eq_true rfl⟩ ltM_0 shM_0 rfl rfl rfl rfl (Nat.le_of_ble_eq_true rfl) dX5_readsHead_5 ?_
  refine bw_bipush (pc := 8) (v := (97 : Int32)) C dX5_readsHead_8 bi_97 ?_
  refine bw_icmp_eq (pc := 10) C 15 dX5_readsHead_10 (by decide) h (fun h => ?_) (fun h => ?_)
  · refine bw_aload_n (pc := 15) C 0 dX5_readsHead_15 rfl rfl ?_
    refine bw_dup (pc := 16) C dX5_readsHead_16 rfl ?_
    refine bw_getI (pc := 17) (q := 0) (k0 := 18) C ltM_0 shM_0 rfl inX5 mw_633 (by decide) rfl dX5_readsHead_17 ?_
    refine bw_iconst (pc := 20) (v := (1 : Int32)) C dX5_readsHead_20 ic_1 ?_
    refine bw_iadd (pc := 21) C dX5_readsHead_21 ?_
    obtain ⟨M3, eM3, h⟩ := bw_mv_o h
    refine bw_putI (pc := 22) (q := 0) (k0 := 18) C ltM_0 shM_0 rfl inX5 mw_633 (by decide) tyX5 tyX5_ok nmX5 rfl rfl rfl eM3 rfl rfl dX5_readsHead_22 ?_
    refine bw_aload_n (pc := 25) C 0 dX5_readsHead_25 rfl rfl ?_
    refine bw_getI (pc := 26) (q := 0) (k0 := 18) C ltM_0 shM_0 rfl inX5 mw_633 (by decide) rfl dX5_readsHead_26 ?_
    obtain ⟨v4, ev4, h⟩ := bw_mv_o h
    refine bw_nmI ev4 ?_
    refine bw_istore_n (pc := 29) (L' := [(1, .int v4), (0, .ref (ρ 0))]) C dX5_readsHead_29 rfl (by decide) rfl ?_
    refine bw_aload_n (pc := 30) C 1 dX5_readsHead_30 rfl rfl ?_
    refine bw_iconst (pc := 31) (v := (0 : Int32)) C dX5_readsHead_31 ic_0 ?_
    refine bw_bipush (pc := 32) (v := (9 : Int32)) C dX5_readsHead_32 bi_9 ?_
    obtain ⟨v5, M6, ev5, h⟩ := bw_c2_o h
    refine bw_cVi (pc := 34) (q := 0) (As := [.int (0 : Int32), .int (9 : Int32)]) (rest := []) C (tX5_isFigure l (0 : Int32) (9 : Int32) M3 v5 M6 ev5) msX5_isFigure mw_780 rfl rfl ⟨Nat.le_of_ble_eq_true rfl, Nat.le_of_ble_eq_true rfl⟩ ltM_0 shM_0 rfl rfl rfl rfl (Nat.le_of_ble_eq_true rfl) dX5_readsHead_34 ?_
    refine bw_if_ne (pc := 37) C 42 dX5_readsHead_37 (by decide) h (fun h => ?_) (fun h => ?_)
    · refine bw_aload_n (pc := 42) C 1 dX5_readsHead_42 rfl rfl ?_
      refine bw_bipush (pc := 43) (v := (10 : Int32)) C dX5_readsHead_43 bi_10 ?_
      refine bw_aload_n (pc := 45) C 1 dX5_readsHead_45 rfl rfl ?_
      refine bw_getI (pc := 46) (q := 0) (k0 := 21) C ltM_0 shM_0 rfl inX5 mw_636 (by decide) rfl dX5_readsHead_46 ?_
      refine bw_imul (pc := 49) C dX5_readsHead_49 ?_
      obtain ⟨M7, eM7, h⟩ := bw_mv_o h
      refine bw_putI (pc := 50) (q := 0) (k0 := 22) C ltM_0 shM_0 rfl inX5 mw_637 (by decide) tyX5 tyX5_ok nmX5 rfl rfl rfl eM7 rfl rfl dX5_readsHead_50 ?_
      refine bw_aload_n (pc := 53) C 1 dX5_readsHead_53 rfl rfl ?_
      refine bw_iconst (pc := 54) (v := (0 : Int32)) C dX5_readsHead_54 ic_0 ?_
      refine bw_bipush (pc := 55) (v := (9 : Int32)) C dX5_readsHead_55 bi_9 ?_
      obtain ⟨v8, M9, ev8, h⟩ := bw_c2_o h
      refine bw_cVi (pc := 57) (q := 0) (As := [.int (0 : Int32), .int (9 : Int32)]) (rest := []) C (tX5_isFigure l (0 : Int32) (9 : Int32) M7 v8 M9 ev8) msX5_isFigure mw_780 rfl rfl ⟨Nat.le_of_ble_eq_true rfl, Nat.le_of_ble_eq_true rfl⟩ ltM_0 shM_0 rfl rfl rfl rfl (Nat.le_of_ble_eq_true rfl) dX5_readsHead_57 ?_
      refine bw_if_ne (pc := 60) C 65 dX5_readsHead_60 (by decide) h (fun h => ?_) (fun h => ?_)
      · refine bw_aload_n (pc := 65) C 1 dX5_readsHead_65 rfl rfl ?_
        refine bw_dup (pc := 66) C dX5_readsHead_66 rfl ?_
        refine bw_getI (pc := 67) (q := 0) (k0 := 22) C ltM_0 shM_0 rfl inX5 mw_637 (by decide) rfl dX5_readsHead_67 ?_
        refine bw_aload_n (pc := 70) C 1 dX5_readsHead_70 rfl rfl ?_
        refine bw_getI (pc := 71) (q := 0) (k0 := 21) C ltM_0 shM_0 rfl inX5 mw_636 (by decide) rfl dX5_readsHead_71 ?_
        refine bw_iadd (pc := 74) C dX5_readsHead_74 ?_
        obtain ⟨M10, eM10, h⟩ := bw_mv_o h
        refine bw_putI (pc := 75) (q := 0) (k0 := 22) C ltM_0 shM_0 rfl inX5 mw_637 (by decide) tyX5 tyX5_ok nmX5 rfl rfl rfl eM10 rfl rfl dX5_readsHead_75 ?_
        refine bw_aload_n (pc := 78) C 1 dX5_readsHead_78 rfl rfl ?_
        refine bw_getI (pc := 79) (q := 0) (k0 := 22) C ltM_0 shM_0 rfl inX5 mw_637 (by decide) rfl dX5_readsHead_79 ?_
        refine bw_bipush (pc := 82) (v := (60 : Int32)) C dX5_readsHead_82 bi_60 ?_
        refine bw_icmp_le (pc := 84) C 94 dX5_readsHead_84 (by decide) h (fun h => ?_) (fun h => ?_)
        · refine bw_aload_n (pc := 94) C 1 dX5_readsHead_94 rfl rfl ?_
          refine bw_iconst (pc := 95) (v := (0 : Int32)) C dX5_readsHead_95 ic_0 ?_
          refine bw_bipush (pc := 96) (v := (9 : Int32)) C dX5_readsHead_96 bi_9 ?_
          obtain ⟨v11, M12, ev11, h⟩ := bw_c2_o h
          refine bw_cVi (pc := 98) (q := 0) (As := [.int (0 : Int32), .int (9 : Int32)]) (rest := []) C (tX5_isFigure l (0 : Int32) (9 : Int32) M10 v11 M12 ev11) msX5_isFigure mw_780 rfl rfl ⟨Nat.le_of_ble_eq_true rfl, Nat.le_of_ble_eq_true rfl⟩ ltM_0 shM_0 rfl rfl rfl rfl (Nat.le_of_ble_eq_true rfl) dX5_readsHead_98 ?_
          refine bw_if_ne (pc := 101) C 106 dX5_readsHead_101 (by decide) h (fun h => ?_) (fun h => ?_)
          · refine bw_aload_n (pc := 106) C 1 dX5_readsHead_106 rfl rfl ?_
            refine bw_aload_n (pc := 107) C 1 dX5_readsHead_107 rfl rfl ?_
            refine bw_getI (pc := 108) (q := 0) (k0 := 21) C ltM_0 shM_0 rfl inX5 mw_636 (by decide) rfl dX5_readsHead_108 ?_
            obtain ⟨M13, eM13, h⟩ := bw_mv_o h
            refine bw_putI (pc := 111) (q := 0) (k0 := 23) C ltM_0 shM_0 rfl inX5 mw_638 (by decide) tyX5 tyX5_ok nmX5 rfl rfl rfl eM13 rfl rfl dX5_readsHead_111 ?_
            refine bw_iconst (pc := 114) (v := (1 : Int32)) C dX5_readsHead_114 ic_1 ?_
            exact bw_iretz (pc := 115) C nz_1 dX5_readsHead_115 h
          · refine bw_iconst (pc := 104) (v := (0 : Int32)) C dX5_readsHead_104 ic_0 ?_
            exact bw_iretz (pc := 105) C nz_0 dX5_readsHead_105 h
        · refine bw_aload_n (pc := 87) C 1 dX5_readsHead_87 rfl rfl ?_
          refine bw_iload_n (pc := 88) C 0 dX5_readsHead_88 rfl rfl ?_
          obtain ⟨M14, eM14, h⟩ := bw_mv_o h
          refine bw_putI (pc := 89) (q := 0) (k0 := 18) C ltM_0 shM_0 rfl inX5 mw_633 (by decide) tyX5 tyX5_ok nmX5 rfl rfl rfl eM14 rfl rfl dX5_readsHead_89 ?_
          refine bw_iconst (pc := 92) (v := (0 : Int32)) C dX5_readsHead_92 ic_0 ?_
          exact bw_iretz (pc := 93) C nz_0 dX5_readsHead_93 h
      · refine bw_iconst (pc := 63) (v := (0 : Int32)) C dX5_readsHead_63 ic_0 ?_
        exact bw_iretz (pc := 64) C nz_0 dX5_readsHead_64 h
    · refine bw_iconst (pc := 40) (v := (0 : Int32)) C dX5_readsHead_40 ic_0 ?_
      exact bw_iretz (pc := 41) C nz_0 dX5_readsHead_41 h
  · refine bw_iconst (pc := 13) (v := (0 : Int32)) C dX5_readsHead_13 ic_0 ?_
    exact bw_iretz (pc := 14) C nz_0 dX5_readsHead_14 h
/-! X5_kindOf -/
abbrev rmX5_kindOf : Room := { frames := 0, cells := 0, slots := 0, locals := 0 }
theorem msX5_kindOf : bw_MS yX5_kindOf cX5_kindOf 1 (some .int) 1 := ⟨mw_789, mw_6, mw_790, by decide +kernel⟩
def fX5_kindOf (x0 : Int32)  : Option (Int32) :=
  if x0 = (98 : Int32) then
  some (2 : Int32)
  else if x0 = (108 : Int32) then
  some (5 : Int32)
  else if x0 = (111 : Int32) then
  some (4 : Int32)
  else if x0 = (112 : Int32) then
  some (0 : Int32)
  else if x0 = (115 : Int32) then
  some (1 : Int32)
  else if x0 = (116 : Int32) then
  some (3 : Int32)
  else if x0 = (99 : Int32) then
  some (-9 : Int32)
  else if x0 = (100 : Int32) then
  some (-9 : Int32)
  else if x0 = (101 : Int32) then
  some (-9 : Int32)
  else if x0 = (102 : Int32) then
  some (-9 : Int32)
  else if x0 = (103 : Int32) then
  some (-9 : Int32)
  else if x0 = (104 : Int32) then
  some (-9 : Int32)
  else if x0 = (105 : Int32) then
  some (-9 : Int32)
  else if x0 = (106 : Int32) then
  some (-9 : Int32)
  else if x0 = (107 : Int32) then
  some (-9 : Int32)
  else if x0 = (109 : Int32) then
  some (-9 : Int32)
  else if x0 = (110 : Int32) then
  some (-9 : Int32)
  else if x0 = (113 : Int32) then
  some (-9 : Int32)
  else if x0 = (114 : Int32) then
  some (-9 : Int32)
  else 
  some (-9 : Int32)
theorem tX5_kindOf (l : Launch) (x0 : Int32)  (M : bw_M) (rr : Int32) (h : fX5_kindOf x0 = some rr) : bw_CI l bw_shM 19 yX5_kindOf cX5_kindOf 1 (some .int) rmX5_kindOf (fun ρ => [.int x0]) M rr M := by
  refine bw_inI (Lf := fun ρ => [(0, .int x0)]) cX5_kindOf 1 (some .int) RX5 pn_X5 rfl (fun ρ => Nat.le_of_ble_eq_true rfl) (fun ρ => rfl) ?_
  intro p e s m args below meth c D kT ρ C
  unfold fX5_kindOf at h
  refine bw_iload_n (pc := 0) C 0 dX5_kindOf_0 rfl rfl ?_
  refine bw_swc (pc := 1) C (98 : Int32) h (fun h => ?_) (fun q1 h => ?_)
  · refine bw_swi (pc := 1) C 96 dX5_kindOf_1 (by decide) (by decide) rfl (by decide) ?_
    refine bw_iconst (pc := 96) (v := (2 : Int32)) C dX5_kindOf_96 ic_2 ?_
    exact bw_ireti (pc := 97) C dX5_kindOf_97 (bw_pr M h)
  refine bw_swc (pc := 1) C (108 : Int32) h (fun h => ?_) (fun q2 h => ?_)
  · refine bw_swi (pc := 1) C 102 dX5_kindOf_1 (by decide) (by decide) rfl (by decide) ?_
    refine bw_iconst (pc := 102) (v := (5 : Int32)) C dX5_kindOf_102 ic_5 ?_
    exact bw_ireti (pc := 103) C dX5_kindOf_103 (bw_pr M h)
  refine bw_swc (pc := 1) C (111 : Int32) h (fun h => ?_) (fun q3 h => ?_)
  · refine bw_swi (pc := 1) C 100 dX5_kindOf_1 (by decide) (by decide) rfl (by decide) ?_
    refine bw_iconst (pc := 100) (v := (4 : Int32)) C dX5_kindOf_100 ic_4 ?_
    exact bw_ireti (pc := 101) C dX5_kindOf_101 (bw_pr M h)
  refine bw_swc (pc := 1) C (112 : Int32) h (fun h => ?_) (fun q4 h => ?_)
  · refine bw_swi (pc := 1) C 92 dX5_kindOf_1 (by decide) (by decide) rfl (by decide) ?_
    refine bw_iconst (pc := 92) (v := (0 : Int32)) C dX5_kindOf_92 ic_0 ?_
    exact bw_ireti (pc := 93) C dX5_kindOf_93 (bw_pr M h)
  refine bw_swc (pc := 1) C (115 : Int32) h (fun h => ?_) (fun q5 h => ?_)
  · refine bw_swi (pc := 1) C 94 dX5_kindOf_1 (by decide) (by decide) rfl (by decide) ?_
    refine bw_iconst (pc := 94) (v := (1 : Int32)) C dX5_kindOf_94 ic_1 ?_
    exact bw_ireti (pc := 95) C dX5_kindOf_95 (bw_pr M h)
  refine bw_swc (pc := 1) C (116 : Int32) h (fun h => ?_) (fun q6 h => ?_)
  · refine bw_swi (pc := 1) C 98 dX5_kindOf_1 (by decide) (by decide) rfl (by decide) ?_
    refine bw_iconst (pc := 98) (v := (3 : Int32)) C dX5_kindOf_98 ic_3 ?_
    exact bw_ireti (pc := 99) C dX5_kindOf_99 (bw_pr M h)
  refine bw_swc (pc := 1) C (99 : Int32) h (fun h => ?_) (fun q7 h => ?_)
  · refine bw_swi (pc := 1) C 104 dX5_kindOf_1 (by decide) (by decide) rfl (by decide) ?_
    refine bw_bipush (pc := 104) (v := (-9 : Int32)) C dX5_kindOf_104 bi_m9 ?_
    exact bw_ireti (pc := 106) C dX5_kindOf_106 (bw_pr M h)
  refine bw_swc (pc := 1) C (100 : Int32) h (fun h => ?_) (fun q8 h => ?_)
  · refine bw_swi (pc := 1) C 104 dX5_kindOf_1 (by decide) (by decide) rfl (by decide) ?_
    refine bw_bipush (pc := 104) (v := (-9 : Int32)) C dX5_kindOf_104 bi_m9 ?_
    exact bw_ireti (pc := 106) C dX5_kindOf_106 (bw_pr M h)
  refine bw_swc (pc := 1) C (101 : Int32) h (fun h => ?_) (fun q9 h => ?_)
  · refine bw_swi (pc := 1) C 104 dX5_kindOf_1 (by decide) (by decide) rfl (by decide) ?_
    refine bw_bipush (pc := 104) (v := (-9 : Int32)) C dX5_kindOf_104 bi_m9 ?_
    exact bw_ireti (pc := 106) C dX5_kindOf_106 (bw_pr M h)
  refine bw_swc (pc := 1) C (102 : Int32) h (fun h => ?_) (fun q10 h => ?_)
  · refine bw_swi (pc := 1) C 104 dX5_kindOf_1 (by decide) (by decide) rfl (by decide) ?_
    refine bw_bipush (pc := 104) (v := (-9 : Int32)) C dX5_kindOf_104 bi_m9 ?_
    exact bw_ireti (pc := 106) C dX5_kindOf_106 (bw_pr M h)
  refine bw_swc (pc := 1) C (103 : Int32) h (fun h => ?_) (fun q11 h => ?_)
  · refine bw_swi (pc := 1) C 104 dX5_kindOf_1 (by decide) (by decide) rfl (by decide) ?_
    refine bw_bipush (pc := 104) (v := (-9 : Int32)) C dX5_kindOf_104 bi_m9 ?_
    exact bw_ireti (pc := 106) C dX5_kindOf_106 (bw_pr M h)
  refine bw_swc (pc := 1) C (104 : Int32) h (fun h => ?_) (fun q12 h => ?_)
  · refine bw_swi (pc := 1) C 104 dX5_kindOf_1 (by decide) (by decide) rfl (by decide) ?_
    refine bw_bipush (pc := 104) (v := (-9 : Int32)) C dX5_kindOf_104 bi_m9 ?_
    exact bw_ireti (pc := 106) C dX5_kindOf_106 (bw_pr M h)
  refine bw_swc (pc := 1) C (105 : Int32) h (fun h => ?_) (fun q13 h => ?_)
  · refine bw_swi (pc := 1) C 104 dX5_kindOf_1 (by decide) (by decide) rfl (by decide) ?_
    refine bw_bipush (pc := 104) (v := (-9 : Int32)) C dX5_kindOf_104 bi_m9 ?_
    exact bw_ireti (pc := 106) C dX5_kindOf_106 (bw_pr M h)
  refine bw_swc (pc := 1) C (106 : Int32) h (fun h => ?_) (fun q14 h => ?_)
  · refine bw_swi (pc := 1) C 104 dX5_kindOf_1 (by decide) (by decide) rfl (by decide) ?_
    refine bw_bipush (pc := 104) (v := (-9 : Int32)) C dX5_kindOf_104 bi_m9 ?_
    exact bw_ireti (pc := 106) C dX5_kindOf_106 (bw_pr M h)
  refine bw_swc (pc := 1) C (107 : Int32) h (fun h => ?_) (fun q15 h => ?_)
  · refine bw_swi (pc := 1) C 104 dX5_kindOf_1 (by decide) (by decide) rfl (by decide) ?_
    refine bw_bipush (pc := 104) (v := (-9 : Int32)) C dX5_kindOf_104 bi_m9 ?_
    exact bw_ireti (pc := 106) C dX5_kindOf_106 (bw_pr M h)
  refine bw_swc (pc := 1) C (109 : Int32) h (fun h => ?_) (fun q16 h => ?_)
  · refine bw_swi (pc := 1) C 104 dX5_kindOf_1 (by decide) (by decide) rfl (by decide) ?_
    refine bw_bipush (pc := 104) (v := (-9 : Int32)) C dX5_kindOf_104 bi_m9 ?_
    exact bw_ireti (pc := 106) C dX5_kindOf_106 (bw_pr M h)
  refine bw_swc (pc := 1) C (110 : Int32) h (fun h => ?_) (fun q17 h => ?_)
  · refine bw_swi (pc := 1) C 104 dX5_kindOf_1 (by decide) (by decide) rfl (by decide) ?_
    refine bw_bipush (pc := 104) (v := (-9 : Int32)) C dX5_kindOf_104 bi_m9 ?_
    exact bw_ireti (pc := 106) C dX5_kindOf_106 (bw_pr M h)
  refine bw_swc (pc := 1) C (113 : Int32) h (fun h => ?_) (fun q18 h => ?_)
  · refine bw_swi (pc := 1) C 104 dX5_kindOf_1 (by decide) (by decide) rfl (by decide) ?_
    refine bw_bipush (pc := 104) (v := (-9 : Int32)) C dX5_kindOf_104 bi_m9 ?_
    exact bw_ireti (pc := 106) C dX5_kindOf_106 (bw_pr M h)
  refine bw_swc (pc := 1) C (114 : Int32) h (fun h => ?_) (fun q19 h => ?_)
  · refine bw_swi (pc := 1) C 104 dX5_kindOf_1 (by decide) (by decide) rfl (by decide) ?_
    refine bw_bipush (pc := 104) (v := (-9 : Int32)) C dX5_kindOf_104 bi_m9 ?_
    exact bw_ireti (pc := 106) C dX5_kindOf_106 (bw_pr M h)
  have ho : (x0).toInt < 98 ∨ 116 < (x0).toInt := bw_sw_out 19 (by decide) (by decide) (by decide) (fun j hj => by
    match j, hj with
    | 0, _ => exact q1
    | 1, _ => exact q7
    | 2, _ => exact q8
    | 3, _ => exact q9
    | 4, _ => exact q10
    | 5, _ => exact q11
    | 6, _ => exact q12
    | 7, _ => exact q13
    | 8, _ => exact q14
    | 9, _ => exact q15
    | 10, _ => exact q2
    | 11, _ => exact q16
    | 12, _ => exact q17
    | 13, _ => exact q3
    | 14, _ => exact q4
    | 15, _ => exact q18
    | 16, _ => exact q19
    | 17, _ => exact q5
    | 18, _ => exact q6
    | j + 19, hj => exact absurd hj (by omega))
  refine bw_swo (pc := 1) C 104 dX5_kindOf_1 ho (by decide) ?_
  refine bw_bipush (pc := 104) (v := (-9 : Int32)) C dX5_kindOf_104 bi_m9 ?_
  exact bw_ireti (pc := 106) C dX5_kindOf_106 (bw_pr M h)
/-! X5_readsPipe -/
abbrev rmX5_readsPipe : Room := { frames := 2, cells := 0, slots := 0, locals := 47 }
theorem msX5_readsPipe : bw_MV yX5_readsPipe cX5_readsPipe 2 (some .boolean) RX5 0 := ⟨mw_786, mw_1100, mw_6, mw_787, by decide +kernel⟩
def fX5_readsPipe_23    (M : bw_M) : Option (Int32 × bw_M) :=
  some ((0 : Int32), M)
theorem tX5_readsPipe_23 {p : Program} {l : Launch} {e : Env} {s : State} {m : MethodId} {args : Array Value} {below : List Frame} {meth : Method} {c : Code} {D : va_G} {kT : Nat → ClassId} {ρ : Nat → Nat} (C : bw_Cx p s m args meth c cX5_readsPipe 2 RX5 19 D kT ρ (some .boolean))     (M : bw_M) (rr : Int32) (zz : bw_M)  (h : fX5_readsPipe_23 M = some (rr, zz)) : bw_At p l e rmX5_readsPipe s m args below meth c (MQ below (bw_QI bw_shM 19 D kT ρ rr zz) args s 0 0 (bw_A ρ 19)) bw_shM 19 D kT ρ 2 23 [(0, .ref (ρ 0))] [] M := by
  unfold fX5_readsPipe_23 at h
  refine bw_iconst (pc := 23) (v := (0 : Int32)) C dX5_readsPipe_23 ic_0 ?_
  exact bw_iretz (pc := 24) C nz_0 dX5_readsPipe_24 h
def fX5_readsPipe_85   (s1 : Int32) (s2 : Int32) (M : bw_M) : Option (Int32 × bw_M) :=
  bw_wr M 14 6 s1 s2 fun M7 =>
  bw_c2 (fX5_isFigure (1 : Int32) (9 : Int32) M7) fun v8 M9 =>
  if v8 = 0 then
  some ((0 : Int32), M9)
  else
  bw_wr M9 15 6 (M9.1 0 24) (M9.1 0 21) fun M10 =>
  bw_mv (bw_pI M10 0 24 ((M10.1 0 24) + (1 : Int32))) fun M11 =>
  some ((1 : Int32), M11)
theorem tX5_readsPipe_85 {p : Program} {l : Launch} {e : Env} {s : State} {m : MethodId} {args : Array Value} {below : List Frame} {meth : Method} {c : Code} {D : va_G} {kT : Nat → ClassId} {ρ : Nat → Nat} (C : bw_Cx p s m args meth c cX5_readsPipe 2 RX5 19 D kT ρ (some .boolean))    (s1 : Int32) (s2 : Int32) (M : bw_M) (rr : Int32) (zz : bw_M)  (h : fX5_readsPipe_85 s1 s2 M = some (rr, zz)) : bw_At p l e rmX5_readsPipe s m args below meth c (MQ below (bw_QI bw_shM 19 D kT ρ rr zz) args s 0 0 (bw_A ρ 19)) bw_shM 19 D kT ρ 2 85 [(0, .ref (ρ 0))] [.int s2, .int s1, .ref (ρ 14)] M := by
  unfold fX5_readsPipe_85 at h
  obtain ⟨qM7, M7, eM7, h⟩ := bw_wr_o h
  refine bw_iast (pc := 85) (q := 14) C ltM_14 shM_14 qM7 eM7 dX5_readsPipe_85 ?_
  refine bw_aload_n (pc := 86) C 0 dX5_readsPipe_86 rfl rfl ?_
  refine bw_iconst (pc := 87) (v := (1 : Int32)) C dX5_readsPipe_87 ic_1 ?_
  refine bw_bipush (pc := 88) (v := (9 : Int32)) C dX5_readsPipe_88 bi_9 ?_
  obtain ⟨v8, M9, ev8, h⟩ := bw_c2_o h
  refine bw_cVi (pc := 90) (q := 0) (As := [.int (1 : Int32), .int (9 : Int32)]) (rest := []) C (tX5_isFigure l (1 : Int32) (9 : Int32) M7 v8 M9 ev8) msX5_isFigure mw_780 rfl rfl ⟨Nat.le_of_ble_eq_true rfl, Nat.le_of_ble_eq_true rfl⟩ ltM_0 shM_0 rfl rfl rfl rfl (Nat.le_of_ble_eq_true rfl) dX5_readsPipe_90 ?_
  refine bw_if_ne (pc := 93) C 98 dX5_readsPipe_93 (by decide) h (fun h => ?_) (fun h => ?_)
  · refine bw_aload_n (pc := 98) C 0 dX5_readsPipe_98 rfl rfl ?_
    refine bw_getR (pc := 99) (q := 0) (k0 := 27) C ltM_0 shM_0 rfl inX5 mw_642 (by decide) rfl dX5_readsPipe_99 ?_
    refine bw_aload_n (pc := 102) C 0 dX5_readsPipe_102 rfl rfl ?_
    refine bw_getI (pc := 103) (q := 0) (k0 := 24) C ltM_0 shM_0 rfl inX5 mw_639 (by decide) rfl dX5_readsPipe_103 ?_
    refine bw_aload_n (pc := 106) C 0 dX5_readsPipe_106 rfl rfl ?_
    refine bw_getI (pc := 107) (q := 0) (k0 := 21) C ltM_0 shM_0 rfl inX5 mw_636 (by decide) rfl dX5_readsPipe_107 ?_
    obtain ⟨qM10, M10, eM10, h⟩ := bw_wr_o h
    refine bw_iast (pc := 110) (q := 15) C ltM_15 shM_15 qM10 eM10 dX5_readsPipe_110 ?_
    refine bw_aload_n (pc := 111) C 0 dX5_readsPipe_111 rfl rfl ?_
    refine bw_dup (pc := 112) C dX5_readsPipe_112 rfl ?_
    refine bw_getI (pc := 113) (q := 0) (k0 := 24) C ltM_0 shM_0 rfl inX5 mw_639 (by decide) rfl dX5_readsPipe_113 ?_
    refine bw_iconst (pc := 116) (v := (1 : Int32)) C dX5_readsPipe_116 ic_1 ?_
    refine bw_iadd (pc := 117) C dX5_readsPipe_117 ?_
    obtain ⟨M11, eM11, h⟩ := bw_mv_o h
    refine bw_putI (pc := 118) (q := 0) (k0 := 24) C ltM_0 shM_0 rfl inX5 mw_639 (by decide) tyX5 tyX5_ok nmX5 rfl rfl rfl eM11 rfl rfl dX5_readsPipe_118 ?_
    refine bw_iconst (pc := 121) (v := (1 : Int32)) C dX5_readsPipe_121 ic_1 ?_
    exact bw_iretz (pc := 122) C nz_1 dX5_readsPipe_122 h
  · refine bw_iconst (pc := 96) (v := (0 : Int32)) C dX5_readsPipe_96 ic_0 ?_
    exact bw_iretz (pc := 97) C nz_0 dX5_readsPipe_97 h
def fX5_readsPipe  (M : bw_M) : Option (Int32 × bw_M) :=
  bw_cl (fX5_here M) fun v1 =>
  bw_cl (fX5_kindOf v1) fun v2 =>
  if v2 = (-9 : Int32) then
  fX5_readsPipe_23 M
  else
  if (M.1 0 24) = (6 : Int32) then
  fX5_readsPipe_23 M
  else
  bw_mv (bw_pI M 0 18 ((M.1 0 18) + (1 : Int32))) fun M3 =>
  bw_c2 (fX5_isFigure (0 : Int32) (M3.1 0 24) M3) fun v4 M5 =>
  if v4 = 0 then
  some ((0 : Int32), M5)
  else
  bw_wr M5 13 6 (M5.1 0 24) v2 fun M6 =>
  if (M6.1 0 21) = 0 then
  fX5_readsPipe_85 (M6.1 0 24) (-9 : Int32) M6
  else
  fX5_readsPipe_85 (M6.1 0 24) ((M6.1 0 21) - (1 : Int32)) M6
theorem tX5_readsPipe (l : Launch)   (M : bw_M) (rr : Int32) (zz : bw_M) (h : fX5_readsPipe M = some (rr, zz)) : bw_CI l bw_shM 19 yX5_readsPipe cX5_readsPipe 2 (some .boolean) rmX5_readsPipe (fun ρ => [.ref (ρ 0)]) M rr zz := by
  refine bw_inI (Lf := fun ρ => [(0, .ref (ρ 0))]) cX5_readsPipe 2 (some .boolean) RX5 pn_X5 rfl (fun ρ => Nat.le_of_ble_eq_true rfl) (fun ρ => rfl) ?_
  intro p e s m args below meth c D kT ρ C
  unfold fX5_readsPipe at h
  refine bw_aload_n (pc := 0) C 0 dX5_readsPipe_0 rfl rfl ?_
  obtain ⟨v1, ev1, h⟩ := bw_cl_o h
  refine bw_cVi (pc := 1) (q := 0) (As := []) (rest := []) C (tX5_here l M v1 ev1) msX5_here mw_776 rfl rfl ⟨Nat.le_of_ble_eq_true rfl, Nat.le_of_ble_eq_true rfl⟩ ltM_0 shM_0 rfl rfl rfl rfl (Nat.le_of_ble_eq_true rfl) dX5_readsPipe_1 ?_
  obtain ⟨v2, ev2, h⟩ := bw_cl_o h
  refine bw_cSi (pc := 4) (As := [.int v1]) (rest := []) C (tX5_kindOf l v1 M v2 ev2) msX5_kindOf mw_788 rfl rfl ⟨Nat.le_of_ble_eq_true rfl, Nat.le_of_ble_eq_true rfl⟩ rfl rfl rfl (Nat.le_of_ble_eq_true rfl) dX5_readsPipe_4 ?_
  refine bw_istore_n (pc := 7) (L' := [(1, .int v2), (0, .ref (ρ 0))]) C dX5_readsPipe_7 rfl (by decide) rfl ?_
  refine bw_iload_n (pc := 8) C 0 dX5_readsPipe_8 rfl rfl ?_
  refine bw_bipush (pc := 9) (v := (-9 : Int32)) C dX5_readsPipe_9 bi_m9 ?_
  refine bw_icmp_eq (pc := 11) C 23 dX5_readsPipe_11 (by decide) h (fun h => ?_) (fun h => ?_)
  · refine bw_pick [1] rfl ?_
    exact tX5_readsPipe_23 C M rr zz h
  · refine bw_aload_n (pc := 14) C 1 dX5_readsPipe_14 rfl rfl ?_
    refine bw_getI (pc := 15) (q := 0) (k0 := 24) C ltM_0 shM_0 rfl inX5 mw_639 (by decide) rfl dX5_readsPipe_15 ?_
    refine bw_bipush (pc := 18) (v := (6 : Int32)) C dX5_readsPipe_18 bi_6 ?_
    refine bw_icmp_ne (pc := 20) C 25 dX5_readsPipe_20 (by decide) h (fun h => ?_) (fun h => ?_)
    · refine bw_aload_n (pc := 25) C 1 dX5_readsPipe_25 rfl rfl ?_
      refine bw_dup (pc := 26) C dX5_readsPipe_26 rfl ?_
      refine bw_getI (pc := 27) (q := 0) (k0 := 18) C ltM_0 shM_0 rfl inX5 mw_633 (by decide) rfl dX5_readsPipe_27 ?_
      refine bw_iconst (pc := 30) (v := (1 : Int32)) C dX5_readsPipe_30 ic_1 ?_
      refine bw_iadd (pc := 31) C dX5_readsPipe_31 ?_
      obtain ⟨M3, eM3, h⟩ := bw_mv_o h
      refine bw_putI (pc := 32) (q := 0) (k0 := 18) C ltM_0 shM_0 rfl inX5 mw_633 (by decide) tyX5 tyX5_ok nmX5 rfl rfl rfl eM3 rfl rfl dX5_readsPipe_32 ?_
      refine bw_aload_n (pc := 35) C 1 dX5_readsPipe_35 rfl rfl ?_
      refine bw_iconst (pc := 36) (v := (0 : Int32)) C dX5_readsPipe_36 ic_0 ?_
      refine bw_aload_n (pc := 37) C 1 dX5_readsPipe_37 rfl rfl ?_
      refine bw_getI (pc := 38) (q := 0) (k0 := 24) C ltM_0 shM_0 rfl inX5 mw_639 (by decide) rfl dX5_readsPipe_38 ?_
      obtain ⟨v4, M5, ev4, h⟩ := bw_c2_o h
      refine bw_cVi (pc := 41) (q := 0) (As := [.int (0 : Int32), .int (M3.1 0 24)]) (rest := []) C (tX5_isFigure l (0 : Int32) (M3.1 0 24) M3 v4 M5 ev4) msX5_isFigure mw_780 rfl rfl ⟨Nat.le_of_ble_eq_true rfl, Nat.le_of_ble_eq_true rfl⟩ ltM_0 shM_0 rfl rfl rfl rfl (Nat.le_of_ble_eq_true rfl) dX5_readsPipe_41 ?_
      refine bw_if_ne (pc := 44) C 49 dX5_readsPipe_44 (by decide) h (fun h => ?_) (fun h => ?_)
      · refine bw_aload_n (pc := 49) C 1 dX5_readsPipe_49 rfl rfl ?_
        refine bw_getR (pc := 50) (q := 0) (k0 := 25) C ltM_0 shM_0 rfl inX5 mw_640 (by decide) rfl dX5_readsPipe_50 ?_
        refine bw_aload_n (pc := 53) C 1 dX5_readsPipe_53 rfl rfl ?_
        refine bw_getI (pc := 54) (q := 0) (k0 := 24) C ltM_0 shM_0 rfl inX5 mw_639 (by decide) rfl dX5_readsPipe_54 ?_
        refine bw_iload_n (pc := 57) C 0 dX5_readsPipe_57 rfl rfl ?_
        obtain ⟨qM6, M6, eM6, h⟩ := bw_wr_o h
        refine bw_iast (pc := 58) (q := 13) C ltM_13 shM_13 qM6 eM6 dX5_readsPipe_58 ?_
        refine bw_aload_n (pc := 59) C 1 dX5_readsPipe_59 rfl rfl ?_
        refine bw_getR (pc := 60) (q := 0) (k0 := 26) C ltM_0 shM_0 rfl inX5 mw_641 (by decide) rfl dX5_readsPipe_60 ?_
        refine bw_aload_n (pc := 63) C 1 dX5_readsPipe_63 rfl rfl ?_
        refine bw_getI (pc := 64) (q := 0) (k0 := 24) C ltM_0 shM_0 rfl inX5 mw_639 (by decide) rfl dX5_readsPipe_64 ?_
        refine bw_aload_n (pc := 67) C 1 dX5_readsPipe_67 rfl rfl ?_
        refine bw_getI (pc := 68) (q := 0) (k0 := 21) C ltM_0 shM_0 rfl inX5 mw_636 (by decide) rfl dX5_readsPipe_68 ?_
        refine bw_if_ne (pc := 71) C 79 dX5_readsPipe_71 (by decide) h (fun h => ?_) (fun h => ?_)
        · refine bw_aload_n (pc := 79) C 1 dX5_readsPipe_79 rfl rfl ?_
          refine bw_getI (pc := 80) (q := 0) (k0 := 21) C ltM_0 shM_0 rfl inX5 mw_636 (by decide) rfl dX5_readsPipe_80 ?_
          refine bw_iconst (pc := 83) (v := (1 : Int32)) C dX5_readsPipe_83 ic_1 ?_
          refine bw_isub (pc := 84) C dX5_readsPipe_84 ?_
          refine bw_pick [1] rfl ?_
          exact tX5_readsPipe_85 C (M6.1 0 24) ((M6.1 0 21) - (1 : Int32)) M6 rr zz h
        · refine bw_bipush (pc := 74) (v := (-9 : Int32)) C dX5_readsPipe_74 bi_m9 ?_
          refine bw_goto (pc := 76) C 85 dX5_readsPipe_76 (by decide) ?_
          refine bw_pick [1] rfl ?_
          exact tX5_readsPipe_85 C (M6.1 0 24) (-9 : Int32) M6 rr zz h
      · refine bw_iconst (pc := 47) (v := (0 : Int32)) C dX5_readsPipe_47 ic_0 ?_
        exact bw_iretz (pc := 48) C nz_0 dX5_readsPipe_48 h
    · refine bw_pick [1] rfl ?_
      exact tX5_readsPipe_23 C M rr zz h
/-! X5_reads -/
abbrev rmX5_reads : Room := { frames := 3, cells := 0, slots := 0, locals := 68 }
theorem msX5_reads : bw_MV yX5_reads cX5_reads 3 (some .int) RX5 1 := ⟨mw_766, mw_1095, mw_6, mw_767, by decide +kernel⟩
def fX5_reads_89 (N : Nat) (x1 : Int32)  (s0 : Int32) (M : bw_M) : Option (Int32 × bw_M) :=
  some (s0, M)
theorem tX5_reads_89 {p : Program} {l : Launch} {e : Env} {s : State} {m : MethodId} {args : Array Value} {below : List Frame} {meth : Method} {c : Code} {D : va_G} {kT : Nat → ClassId} {ρ : Nat → Nat} (C : bw_Cx p s m args meth c cX5_reads 3 RX5 19 D kT ρ (some .int)) (N : Nat) (x1 : Int32)   (s0 : Int32) (M : bw_M) (rr : Int32) (zz : bw_M)  (h : fX5_reads_89 N x1 s0 M = some (rr, zz)) : bw_At p l e rmX5_reads s m args below meth c (MQ below (bw_QI bw_shM 19 D kT ρ rr zz) args s 0 0 (bw_A ρ 19)) bw_shM 19 D kT ρ 3 89 [(0, .ref (ρ 0)), (1, .int x1)] [.int s0] M := by
  unfold fX5_reads_89 at h
  exact bw_ireti (pc := 89) C dX5_reads_89 h
def fX5_reads_85 (N : Nat) (x1 : Int32)   (M : bw_M) : Option (Int32 × bw_M) :=
  fX5_reads_89 N x1 (M.1 0 18) M
theorem tX5_reads_85 {p : Program} {l : Launch} {e : Env} {s : State} {m : MethodId} {args : Array Value} {below : List Frame} {meth : Method} {c : Code} {D : va_G} {kT : Nat → ClassId} {ρ : Nat → Nat} (C : bw_Cx p s m args meth c cX5_reads 3 RX5 19 D kT ρ (some .int)) (N : Nat) (x1 : Int32)    (M : bw_M) (rr : Int32) (zz : bw_M)  (h : fX5_reads_85 N x1 M = some (rr, zz)) : bw_At p l e rmX5_reads s m args below meth c (MQ below (bw_QI bw_shM 19 D kT ρ rr zz) args s 0 0 (bw_A ρ 19)) bw_shM 19 D kT ρ 3 85 [(0, .ref (ρ 0)), (1, .int x1)] [] M := by
  unfold fX5_reads_85 at h
  refine bw_aload_n (pc := 85) C 0 dX5_reads_85 rfl rfl ?_
  refine bw_getI (pc := 86) (q := 0) (k0 := 18) C ltM_0 shM_0 rfl inX5 mw_633 (by decide) rfl dX5_reads_86 ?_
  refine bw_pick [0, 1] rfl ?_
  exact tX5_reads_89 C N x1 (M.1 0 18) M rr zz h
def fX5_reads_69 (N : Nat) (x1 : Int32)  (x2 : Int32) (M : bw_M) : Option (Int32 × bw_M) :=
  if x2 = 0 then
  fX5_reads_85 N x1 M
  else
  if (M.1 0 24) ≤ 0 then
  fX5_reads_85 N x1 M
  else
  fX5_reads_89 N x1 (-9 : Int32) M
theorem tX5_reads_69 {p : Program} {l : Launch} {e : Env} {s : State} {m : MethodId} {args : Array Value} {below : List Frame} {meth : Method} {c : Code} {D : va_G} {kT : Nat → ClassId} {ρ : Nat → Nat} (C : bw_Cx p s m args meth c cX5_reads 3 RX5 19 D kT ρ (some .int)) (N : Nat) (x1 : Int32)   (x2 : Int32) (M : bw_M) (rr : Int32) (zz : bw_M)  (h : fX5_reads_69 N x1 x2 M = some (rr, zz)) : bw_At p l e rmX5_reads s m args below meth c (MQ below (bw_QI bw_shM 19 D kT ρ rr zz) args s 0 0 (bw_A ρ 19)) bw_shM 19 D kT ρ 3 69 [(0, .ref (ρ 0)), (1, .int x1), (2, .int x2)] [] M := by
  unfold fX5_reads_69 at h
  refine bw_iload_n (pc := 69) C 2 dX5_reads_69 rfl rfl ?_
  refine bw_if_eq (pc := 70) C 85 dX5_reads_70 (by decide) h (fun h => ?_) (fun h => ?_)
  · refine bw_pick [0, 1] rfl ?_
    exact tX5_reads_85 C N x1 M rr zz h
  · refine bw_aload_n (pc := 73) C 0 dX5_reads_73 rfl rfl ?_
    refine bw_getI (pc := 74) (q := 0) (k0 := 24) C ltM_0 shM_0 rfl inX5 mw_639 (by decide) rfl dX5_reads_74 ?_
    refine bw_if_le (pc := 77) C 85 dX5_reads_77 (by decide) h (fun h => ?_) (fun h => ?_)
    · refine bw_pick [0, 1] rfl ?_
      exact tX5_reads_85 C N x1 M rr zz h
    · refine bw_bipush (pc := 80) (v := (-9 : Int32)) C dX5_reads_80 bi_m9 ?_
      refine bw_goto (pc := 82) C 89 dX5_reads_82 (by decide) ?_
      refine bw_pick [0, 1] rfl ?_
      exact tX5_reads_89 C N x1 (-9 : Int32) M rr zz h
def fX5_reads_38 (N : Nat) (x1 : Int32) (k38 : Int32 × bw_M → Option (Int32 × bw_M)) (x2 : Int32) (M : bw_M) : Option (Int32 × bw_M) :=
  if (M.1 0 19) ≤ (M.1 0 18) then
  fX5_reads_69 N x1 x2 M
  else
  if x2 = 0 then
  fX5_reads_69 N x1 x2 M
  else
  bw_c2 (fX5_readsPipe M) fun v8 M9 =>
  if v8 = 0 then
  k38 (v8, M9)
  else
  bw_cl (fX5_skips N M9) fun M10 =>
  k38 (v8, M10)
theorem tX5_reads_38 {p : Program} {l : Launch} {e : Env} {s : State} {m : MethodId} {args : Array Value} {below : List Frame} {meth : Method} {c : Code} {D : va_G} {kT : Nat → ClassId} {ρ : Nat → Nat} (C : bw_Cx p s m args meth c cX5_reads 3 RX5 19 D kT ρ (some .int)) (N : Nat) (x1 : Int32)  (k38 : Int32 × bw_M → Option (Int32 × bw_M)) (x2 : Int32) (M : bw_M) (rr : Int32) (zz : bw_M) (hk38 : ∀ z0, k38 z0 = some (rr, zz) → bw_At p l e rmX5_reads s m args below meth c (MQ below (bw_QI bw_shM 19 D kT ρ rr zz) args s 0 0 (bw_A ρ 19)) bw_shM 19 D kT ρ 3 38 [(0, .ref (ρ 0)), (1, .int x1), (2, .int z0.1)] [] z0.2) (h : fX5_reads_38 N x1 k38 x2 M = some (rr, zz)) : bw_At p l e rmX5_reads s m args below meth c (MQ below (bw_QI bw_shM 19 D kT ρ rr zz) args s 0 0 (bw_A ρ 19)) bw_shM 19 D kT ρ 3 38 [(0, .ref (ρ 0)), (1, .int x1), (2, .int x2)] [] M := by
  unfold fX5_reads_38 at h
  refine bw_aload_n (pc := 38) C 0 dX5_reads_38 rfl rfl ?_
  refine bw_getI (pc := 39) (q := 0) (k0 := 18) C ltM_0 shM_0 rfl inX5 mw_633 (by decide) rfl dX5_reads_39 ?_
  refine bw_aload_n (pc := 42) C 0 dX5_reads_42 rfl rfl ?_
  refine bw_getI (pc := 43) (q := 0) (k0 := 19) C ltM_0 shM_0 rfl inX5 mw_634 (by decide) rfl dX5_reads_43 ?_
  refine bw_icmp_ge (pc := 46) C 69 dX5_reads_46 (by decide) h (fun h => ?_) (fun h => ?_)
  · refine bw_pick [0, 1, 2] rfl ?_
    exact tX5_reads_69 C N x1 x2 M rr zz h
  · refine bw_iload_n (pc := 49) C 2 dX5_reads_49 rfl rfl ?_
    refine bw_if_eq (pc := 50) C 69 dX5_reads_50 (by decide) h (fun h => ?_) (fun h => ?_)
    · refine bw_pick [0, 1, 2] rfl ?_
      exact tX5_reads_69 C N x1 x2 M rr zz h
    · refine bw_aload_n (pc := 53) C 0 dX5_reads_53 rfl rfl ?_
      obtain ⟨v8, M9, ev8, h⟩ := bw_c2_o h
      refine bw_cVi (pc := 54) (q := 0) (As := []) (rest := []) C (tX5_readsPipe l M v8 M9 ev8) msX5_readsPipe mw_784 rfl rfl ⟨Nat.le_of_ble_eq_true rfl, Nat.le_of_ble_eq_true rfl⟩ ltM_0 shM_0 rfl rfl rfl rfl (Nat.le_of_ble_eq_true rfl) dX5_reads_54 ?_
      refine bw_istore_n (pc := 57) (L' := [(2, .int v8), (0, .ref (ρ 0)), (1, .int x1)]) C dX5_reads_57 rfl (by decide) rfl ?_
      refine bw_iload_n (pc := 58) C 0 dX5_reads_58 rfl rfl ?_
      refine bw_if_eq (pc := 59) C 38 dX5_reads_59 (by decide) h (fun h => ?_) (fun h => ?_)
      · refine bw_pick [1, 2, 0] rfl ?_
        exact hk38 (v8, M9) h
      · refine bw_aload_n (pc := 62) C 1 dX5_reads_62 rfl rfl ?_
        obtain ⟨M10, eM10, h⟩ := bw_cl_o h
        refine bw_cVv (pc := 63) (q := 0) (As := []) (rest := []) C (tX5_skips l N M9 M10 eM10) msX5_skips mw_772 rfl rfl ⟨Nat.le_of_ble_eq_true rfl, Nat.le_of_ble_eq_true rfl⟩ ltM_0 shM_0 rfl rfl rfl rfl (Nat.le_of_ble_eq_true rfl) dX5_reads_63 ?_
        refine bw_goto (pc := 66) C 38 dX5_reads_66 (by decide) ?_
        refine bw_pick [1, 2, 0] rfl ?_
        exact hk38 (v8, M10) h
def flX5_reads_38 (N : Nat) (x1 : Int32)    (fu : Nat) (w : Int32 × bw_M) : Option (Int32 × bw_M) := bw_lp (fun kk w => fX5_reads_38 N x1 kk w.1 w.2) fu w
theorem tlX5_reads_38 {p : Program} {l : Launch} {e : Env} {s : State} {m : MethodId} {args : Array Value} {below : List Frame} {meth : Method} {c : Code} {D : va_G} {kT : Nat → ClassId} {ρ : Nat → Nat} (C : bw_Cx p s m args meth c cX5_reads 3 RX5 19 D kT ρ (some .int)) (N : Nat) (x1 : Int32)     (rr : Int32) (zz : bw_M)  (fu : Nat) (w : Int32 × bw_M) (h : flX5_reads_38 N x1 fu w = some (rr, zz)) : bw_At p l e rmX5_reads s m args below meth c (MQ below (bw_QI bw_shM 19 D kT ρ rr zz) args s 0 0 (bw_A ρ 19)) bw_shM 19 D kT ρ 3 38 [(0, .ref (ρ 0)), (1, .int x1), (2, .int w.1)] [] w.2 :=
  bw_loop (r := (rr, zz)) (fun w => bw_At p l e rmX5_reads s m args below meth c (MQ below (bw_QI bw_shM 19 D kT ρ rr zz) args s 0 0 (bw_A ρ 19)) bw_shM 19 D kT ρ 3 38 [(0, .ref (ρ 0)), (1, .int x1), (2, .int w.1)] [] w.2) (fun kk hk w h => tX5_reads_38 C N x1 kk w.1 w.2 rr zz hk h) fu w h
def fX5_reads (N : Nat) (x1 : Int32) (M : bw_M) : Option (Int32 × bw_M) :=
  bw_mv (bw_pI M 0 20 x1) fun M1 =>
  bw_rd M1 4 4 x1 fun v2 =>
  bw_mv (bw_pI M1 0 19 v2) fun M3 =>
  bw_mv (bw_pI M3 0 18 (0 : Int32)) fun M4 =>
  bw_mv (bw_pI M4 0 24 (0 : Int32)) fun M5 =>
  bw_c2 (fX5_readsHead N M5) fun v6 M7 =>
  if v6 = 0 then
  flX5_reads_38 N x1 N (v6, M7)
  else
  bw_cl (fX5_skips N M7) fun M11 =>
  flX5_reads_38 N x1 N (v6, M11)
theorem tX5_reads (l : Launch) (N : Nat) (x1 : Int32)  (M : bw_M) (rr : Int32) (zz : bw_M) (h : fX5_reads N x1 M = some (rr, zz)) : bw_CI l bw_shM 19 yX5_reads cX5_reads 3 (some .int) rmX5_reads (fun ρ => [.ref (ρ 0), .int x1]) M rr zz := by
  refine bw_inI (Lf := fun ρ => [(0, .ref (ρ 0)), (1, .int x1)]) cX5_reads 3 (some .int) RX5 pn_X5 rfl (fun ρ => Nat.le_of_ble_eq_true rfl) (fun ρ => rfl) ?_
  intro p e s m args below meth c D kT ρ C
  unfold fX5_reads at h
  refine bw_aload_n (pc := 0) C 0 dX5_reads_0 rfl rfl ?_
  refine bw_iload_n (pc := 1) C 1 dX5_reads_1 rfl rfl ?_
  obtain ⟨M1, eM1, h⟩ := bw_mv_o h
  refine bw_putI (pc := 2) (q := 0) (k0 := 20) C ltM_0 shM_0 rfl inX5 mw_635 (by decide) tyX5 tyX5_ok nmX5 rfl rfl rfl eM1 rfl rfl dX5_reads_2 ?_
  refine bw_aload_n (pc := 5) C 0 dX5_reads_5 rfl rfl ?_
  refine bw_aload_n (pc := 6) C 0 dX5_reads_6 rfl rfl ?_
  refine bw_getR (pc := 7) (q := 0) (k0 := 3) C ltM_0 shM_0 rfl inX5 mw_618 (by decide) rfl dX5_reads_7 ?_
  refine bw_iload_n (pc := 10) C 1 dX5_reads_10 rfl rfl ?_
  obtain ⟨qv2, v2, ev2, h⟩ := bw_rd_o h
  refine bw_iald (pc := 11) (q := 4) C ltM_4 shM_4 qv2 ev2 dX5_reads_11 ?_
  obtain ⟨M3, eM3, h⟩ := bw_mv_o h
  refine bw_putI (pc := 12) (q := 0) (k0 := 19) C ltM_0 shM_0 rfl inX5 mw_634 (by decide) tyX5 tyX5_ok nmX5 rfl rfl rfl eM3 rfl rfl dX5_reads_12 ?_
  refine bw_aload_n (pc := 15) C 0 dX5_reads_15 rfl rfl ?_
  refine bw_iconst (pc := 16) (v := (0 : Int32)) C dX5_reads_16 ic_0 ?_
  obtain ⟨M4, eM4, h⟩ := bw_mv_o h
  refine bw_putI (pc := 17) (q := 0) (k0 := 18) C ltM_0 shM_0 rfl inX5 mw_633 (by decide) tyX5 tyX5_ok nmX5 rfl rfl rfl eM4 rfl rfl dX5_reads_17 ?_
  refine bw_aload_n (pc := 20) C 0 dX5_reads_20 rfl rfl ?_
  refine bw_iconst (pc := 21) (v := (0 : Int32)) C dX5_reads_21 ic_0 ?_
  obtain ⟨M5, eM5, h⟩ := bw_mv_o h
  refine bw_putI (pc := 22) (q := 0) (k0 := 24) C ltM_0 shM_0 rfl inX5 mw_639 (by decide) tyX5 tyX5_ok nmX5 rfl rfl rfl eM5 rfl rfl dX5_reads_22 ?_
  refine bw_aload_n (pc := 25) C 0 dX5_reads_25 rfl rfl ?_
  obtain ⟨v6, M7, ev6, h⟩ := bw_c2_o h
  refine bw_cVi (pc := 26) (q := 0) (As := []) (rest := []) C (tX5_readsHead l N M5 v6 M7 ev6) msX5_readsHead mw_768 rfl rfl ⟨Nat.le_of_ble_eq_true rfl, Nat.le_of_ble_eq_true rfl⟩ ltM_0 shM_0 rfl rfl rfl rfl (Nat.le_of_ble_eq_true rfl) dX5_reads_26 ?_
  refine bw_istore_n (pc := 29) (L' := [(2, .int v6), (0, .ref (ρ 0)), (1, .int x1)]) C dX5_reads_29 rfl (by decide) rfl ?_
  refine bw_iload_n (pc := 30) C 0 dX5_reads_30 rfl rfl ?_
  refine bw_if_eq (pc := 31) C 38 dX5_reads_31 (by decide) h (fun h => ?_) (fun h => ?_)
  · refine bw_pick [1, 2, 0] rfl ?_
    exact tlX5_reads_38 C N x1 rr zz N (v6, M7) h
  · refine bw_aload_n (pc := 34) C 1 dX5_reads_34 rfl rfl ?_
    obtain ⟨M11, eM11, h⟩ := bw_cl_o h
    refine bw_cVv (pc := 35) (q := 0) (As := []) (rest := []) C (tX5_skips l N M7 M11 eM11) msX5_skips mw_772 rfl rfl ⟨Nat.le_of_ble_eq_true rfl, Nat.le_of_ble_eq_true rfl⟩ ltM_0 shM_0 rfl rfl rfl rfl (Nat.le_of_ble_eq_true rfl) dX5_reads_35 ?_
    refine bw_pick [1, 2, 0] rfl ?_
    exact tlX5_reads_38 C N x1 rr zz N (v6, M11) h
/-! X5_fault -/
abbrev rmX5_fault : Room := { frames := 4, cells := 0, slots := 0, locals := 90 }
theorem msX5_fault : bw_MV yX5_fault cX5_fault 2 (some .int) RX5 1 := ⟨mw_761, mw_762, mw_6, mw_763, by decide +kernel⟩
def fX5_fault_31 (N : Nat) (x1 : Int32)  (s0 : Int32) (M : bw_M) : Option (Int32 × bw_M) :=
  some (s0, M)
theorem tX5_fault_31 {p : Program} {l : Launch} {e : Env} {s : State} {m : MethodId} {args : Array Value} {below : List Frame} {meth : Method} {c : Code} {D : va_G} {kT : Nat → ClassId} {ρ : Nat → Nat} (C : bw_Cx p s m args meth c cX5_fault 2 RX5 19 D kT ρ (some .int)) (N : Nat) (x1 : Int32)   (s0 : Int32) (M : bw_M) (rr : Int32) (zz : bw_M)  (h : fX5_fault_31 N x1 s0 M = some (rr, zz)) : bw_At p l e rmX5_fault s m args below meth c (MQ below (bw_QI bw_shM 19 D kT ρ rr zz) args s 0 0 (bw_A ρ 19)) bw_shM 19 D kT ρ 2 31 [(0, .ref (ρ 0)), (1, .int x1)] [.int s0] M := by
  unfold fX5_fault_31 at h
  exact bw_ireti (pc := 31) C dX5_fault_31 h
def fX5_fault (N : Nat) (x1 : Int32) (M : bw_M) : Option (Int32 × bw_M) :=
  bw_cl (fX5_isText x1) fun v1 =>
  if v1 = 0 then
  some ((-1 : Int32), M)
  else
  bw_rd M 4 4 x1 fun v2 =>
  if 0 ≤ v2 then
  bw_c2 (fX5_reads N x1 M) fun v3 M4 =>
  fX5_fault_31 N x1 v3 M4
  else
  bw_c2 (fX5_found (1 : Int32) M) fun v5 M6 =>
  fX5_fault_31 N x1 v5 M6
theorem tX5_fault (l : Launch) (N : Nat) (x1 : Int32)  (M : bw_M) (rr : Int32) (zz : bw_M) (h : fX5_fault N x1 M = some (rr, zz)) : bw_CI l bw_shM 19 yX5_fault cX5_fault 2 (some .int) rmX5_fault (fun ρ => [.ref (ρ 0), .int x1]) M rr zz := by
  refine bw_inI (Lf := fun ρ => [(0, .ref (ρ 0)), (1, .int x1)]) cX5_fault 2 (some .int) RX5 pn_X5 rfl (fun ρ => Nat.le_of_ble_eq_true rfl) (fun ρ => rfl) ?_
  intro p e s m args below meth c D kT ρ C
  unfold fX5_fault at h
  refine bw_iload_n (pc := 0) C 1 dX5_fault_0 rfl rfl ?_
  obtain ⟨v1, ev1, h⟩ := bw_cl_o h
  refine bw_cSi (pc := 1) (As := [.int x1]) (rest := []) C (tX5_isText l x1 M v1 ev1) msX5_isText mw_752 rfl rfl ⟨Nat.le_of_ble_eq_true rfl, Nat.le_of_ble_eq_true rfl⟩ rfl rfl rfl (Nat.le_of_ble_eq_true rfl) dX5_fault_1 ?_
  refine bw_if_ne (pc := 4) C 9 dX5_fault_4 (by decide) h (fun h => ?_) (fun h => ?_)
  · refine bw_aload_n (pc := 9) C 0 dX5_fault_9 rfl rfl ?_
    refine bw_getR (pc := 10) (q := 0) (k0 := 3) C ltM_0 shM_0 rfl inX5 mw_618 (by decide) rfl dX5_fault_10 ?_
    refine bw_iload_n (pc := 13) C 1 dX5_fault_13 rfl rfl ?_
    obtain ⟨qv2, v2, ev2, h⟩ := bw_rd_o h
    refine bw_iald (pc := 14) (q := 4) C ltM_4 shM_4 qv2 ev2 dX5_fault_14 ?_
    refine bw_if_ge (pc := 15) C 26 dX5_fault_15 (by decide) h (fun h => ?_) (fun h => ?_)
    · refine bw_aload_n (pc := 26) C 0 dX5_fault_26 rfl rfl ?_
      refine bw_iload_n (pc := 27) C 1 dX5_fault_27 rfl rfl ?_
      obtain ⟨v3, M4, ev3, h⟩ := bw_c2_o h
      refine bw_cVi (pc := 28) (q := 0) (As := [.int x1]) (rest := []) C (tX5_reads l N x1 M v3 M4 ev3) msX5_reads mw_764 rfl rfl ⟨Nat.le_of_ble_eq_true rfl, Nat.le_of_ble_eq_true rfl⟩ ltM_0 shM_0 rfl rfl rfl rfl (Nat.le_of_ble_eq_true rfl) dX5_fault_28 ?_
      refine bw_pick [0, 1] rfl ?_
      exact tX5_fault_31 C N x1 v3 M4 rr zz h
    · refine bw_aload_n (pc := 18) C 0 dX5_fault_18 rfl rfl ?_
      refine bw_iconst (pc := 19) (v := (1 : Int32)) C dX5_fault_19 ic_1 ?_
      obtain ⟨v5, M6, ev5, h⟩ := bw_c2_o h
      refine bw_cVi (pc := 20) (q := 0) (As := [.int (1 : Int32)]) (rest := []) C (tX5_found l (1 : Int32) M v5 M6 ev5) msX5_found mw_720 rfl rfl ⟨Nat.le_of_ble_eq_true rfl, Nat.le_of_ble_eq_true rfl⟩ ltM_0 shM_0 rfl rfl rfl rfl (Nat.le_of_ble_eq_true rfl) dX5_fault_20 ?_
      refine bw_goto (pc := 23) C 31 dX5_fault_23 (by decide) ?_
      refine bw_pick [0, 1] rfl ?_
      exact tX5_fault_31 C N x1 v5 M6 rr zz h
  · refine bw_iconst (pc := 7) (v := (-1 : Int32)) C dX5_fault_7 ic_m1 ?_
    exact bw_ireti (pc := 8) C dX5_fault_8 h
/-! X5_finding -/
abbrev rmX5_finding : Room := { frames := 0, cells := 0, slots := 0, locals := 0 }
theorem msX5_finding : bw_MV yX5_finding cX5_finding 1 (some .int) RX5 0 := ⟨mw_1051, mw_1052, mw_6, mw_1053, by decide +kernel⟩
def fX5_finding  (M : bw_M) : Option (Int32) :=
  some (M.1 0 7)
theorem tX5_finding (l : Launch)   (M : bw_M) (rr : Int32) (h : fX5_finding M = some rr) : bw_CI l bw_shM 19 yX5_finding cX5_finding 1 (some .int) rmX5_finding (fun ρ => [.ref (ρ 0)]) M rr M := by
  refine bw_inI (Lf := fun ρ => [(0, .ref (ρ 0))]) cX5_finding 1 (some .int) RX5 pn_X5 rfl (fun ρ => Nat.le_of_ble_eq_true rfl) (fun ρ => rfl) ?_
  intro p e s m args below meth c D kT ρ C
  unfold fX5_finding at h
  refine bw_aload_n (pc := 0) C 0 dX5_finding_0 rfl rfl ?_
  refine bw_getI (pc := 1) (q := 0) (k0 := 7) C ltM_0 shM_0 rfl inX5 mw_622 (by decide) rfl dX5_finding_1 ?_
  exact bw_ireti (pc := 4) C dX5_finding_4 (bw_pr M h)
/-! X5_findings -/
abbrev rmX5_findings : Room := { frames := 1, cells := 0, slots := 0, locals := 25 }
theorem msX5_findings : bw_MV yX5_findings cX5_findings 2 (some .int) RX5 1 := ⟨mw_1055, mw_1056, mw_6, mw_1057, by decide +kernel⟩
def fX5_findings_22 (x1 : Int32)  (s0 : Int32) (M : bw_M) : Option (Int32) :=
  some s0
theorem tX5_findings_22 {p : Program} {l : Launch} {e : Env} {s : State} {m : MethodId} {args : Array Value} {below : List Frame} {meth : Method} {c : Code} {D : va_G} {kT : Nat → ClassId} {ρ : Nat → Nat} (C : bw_Cx p s m args meth c cX5_findings 2 RX5 19 D kT ρ (some .int)) (x1 : Int32)   (s0 : Int32) (M : bw_M) (rr : Int32)  (h : fX5_findings_22 x1 s0 M = some rr) : bw_At p l e rmX5_findings s m args below meth c (MQ below (bw_QI bw_shM 19 D kT ρ rr M) args s 0 0 (bw_A ρ 19)) bw_shM 19 D kT ρ 2 22 [(0, .ref (ρ 0)), (1, .int x1)] [.int s0] M := by
  unfold fX5_findings_22 at h
  exact bw_ireti (pc := 22) C dX5_findings_22 (bw_pr M h)
def fX5_findings (x1 : Int32) (M : bw_M) : Option (Int32) :=
  bw_cl (fX5_in (Int32.toInt64 x1) (1 : Int64) (5 : Int64)) fun v1 =>
  if v1 = 0 then
  fX5_findings_22 x1 (-1 : Int32) M
  else
  bw_rd M 5 6 x1 fun v2 =>
  fX5_findings_22 x1 v2 M
theorem tX5_findings (l : Launch) (x1 : Int32)  (M : bw_M) (rr : Int32) (h : fX5_findings x1 M = some rr) : bw_CI l bw_shM 19 yX5_findings cX5_findings 2 (some .int) rmX5_findings (fun ρ => [.ref (ρ 0), .int x1]) M rr M := by
  refine bw_inI (Lf := fun ρ => [(0, .ref (ρ 0)), (1, .int x1)]) cX5_findings 2 (some .int) RX5 pn_X5 rfl (fun ρ => Nat.le_of_ble_eq_true rfl) (fun ρ => rfl) ?_
  intro p e s m args below meth c D kT ρ C
  unfold fX5_findings at h
  refine bw_iload_n (pc := 0) C 1 dX5_findings_0 rfl rfl ?_
  refine bw_i2l (pc := 1) C dX5_findings_1 ?_
  refine bw_lconst (pc := 2) (v := (1 : Int64)) C dX5_findings_2 rfl ?_
  refine bw_ldc2_w (pc := 3) C mw_716 dX5_findings_3 ?_
  obtain ⟨v1, ev1, h⟩ := bw_cl_o h
  refine bw_cSi (pc := 6) (As := [.long (Int32.toInt64 x1), .long (1 : Int64), .long (5 : Int64)]) (rest := []) C (tX5_in l (Int32.toInt64 x1) (1 : Int64) (5 : Int64) M v1 ev1) msX5_in mw_717 rfl rfl ⟨Nat.le_of_ble_eq_true rfl, Nat.le_of_ble_eq_true rfl⟩ rfl rfl rfl (Nat.le_of_ble_eq_true rfl) dX5_findings_6 ?_
  refine bw_if_eq (pc := 9) C 21 dX5_findings_9 (by decide) h (fun h => ?_) (fun h => ?_)
  · refine bw_iconst (pc := 21) (v := (-1 : Int32)) C dX5_findings_21 ic_m1 ?_
    refine bw_pick [0, 1] rfl ?_
    exact tX5_findings_22 C x1 (-1 : Int32) M rr h
  · refine bw_aload_n (pc := 12) C 0 dX5_findings_12 rfl rfl ?_
    refine bw_getR (pc := 13) (q := 0) (k0 := 8) C ltM_0 shM_0 rfl inX5 mw_623 (by decide) rfl dX5_findings_13 ?_
    refine bw_iload_n (pc := 16) C 1 dX5_findings_16 rfl rfl ?_
    obtain ⟨qv2, v2, ev2, h⟩ := bw_rd_o h
    refine bw_iald (pc := 17) (q := 5) C ltM_5 shM_5 qv2 ev2 dX5_findings_17 ?_
    refine bw_goto (pc := 18) C 22 dX5_findings_18 (by decide) ?_
    refine bw_pick [0, 1] rfl ?_
    exact tX5_findings_22 C x1 v2 M rr h
/-! X5_first -/
abbrev rmX5_first : Room := { frames := 4, cells := 0, slots := 0, locals := 90 }
theorem msX5_first : bw_MV yX5_first cX5_first 3 (some .int) RX5 1 := ⟨mw_910, mw_911, mw_6, mw_912, by decide +kernel⟩
def fX5_first_16 (N : Nat) (x1 : Int32) (k16 : Int32 × bw_M → Option (Int32 × bw_M)) (x2 : Int32) (M : bw_M) : Option (Int32 × bw_M) :=
  if (41 : Int32) ≤ x2 then
  some ((-9 : Int32), M)
  else
  bw_c2 (fX5_goes N 10 17 M) fun v4 M5 =>
  bw_cl (fX5_has v4 x1) fun v6 =>
  if v6 = 0 then
  bw_mv (x2 + 1) fun v7 =>
  k16 (v7, M5)
  else
  some (x2, M5)
theorem tX5_first_16 {p : Program} {l : Launch} {e : Env} {s : State} {m : MethodId} {args : Array Value} {below : List Frame} {meth : Method} {c : Code} {D : va_G} {kT : Nat → ClassId} {ρ : Nat → Nat} (C : bw_Cx p s m args meth c cX5_first 3 RX5 19 D kT ρ (some .int)) (N : Nat) (x1 : Int32)  (k16 : Int32 × bw_M → Option (Int32 × bw_M)) (x2 : Int32) (M : bw_M) (rr : Int32) (zz : bw_M) (hk16 : ∀ z0, k16 z0 = some (rr, zz) → bw_At p l e rmX5_first s m args below meth c (MQ below (bw_QI bw_shM 19 D kT ρ rr zz) args s 0 0 (bw_A ρ 19)) bw_shM 19 D kT ρ 3 16 [(0, .ref (ρ 0)), (1, .int x1), (2, .int z0.1)] [] z0.2) (h : fX5_first_16 N x1 k16 x2 M = some (rr, zz)) : bw_At p l e rmX5_first s m args below meth c (MQ below (bw_QI bw_shM 19 D kT ρ rr zz) args s 0 0 (bw_A ρ 19)) bw_shM 19 D kT ρ 3 16 [(0, .ref (ρ 0)), (1, .int x1), (2, .int x2)] [] M := by
  unfold fX5_first_16 at h
  refine bw_iload_n (pc := 16) C 2 dX5_first_16 rfl rfl ?_
  refine bw_bipush (pc := 17) (v := (41 : Int32)) C dX5_first_17 bi_41 ?_
  refine bw_icmp_ge (pc := 19) C 45 dX5_first_19 (by decide) h (fun h => ?_) (fun h => ?_)
  · refine bw_bipush (pc := 45) (v := (-9 : Int32)) C dX5_first_45 bi_m9 ?_
    exact bw_ireti (pc := 47) C dX5_first_47 h
  · refine bw_aload_n (pc := 22) C 0 dX5_first_22 rfl rfl ?_
    refine bw_aload_n (pc := 23) C 0 dX5_first_23 rfl rfl ?_
    refine bw_getR (pc := 24) (q := 0) (k0 := 14) C ltM_0 shM_0 rfl inX5 mw_629 (by decide) rfl dX5_first_24 ?_
    obtain ⟨v4, M5, ev4, h⟩ := bw_c2_o h
    refine bw_cVi (pc := 27) (q := 0) (As := [.ref (ρ 10)]) (rest := []) C (tX5_goes l N 10 17 ltM_10 shM_10 M v4 M5 ev4) msX5_goes mw_840 rfl rfl ⟨Nat.le_of_ble_eq_true rfl, Nat.le_of_ble_eq_true rfl⟩ ltM_0 shM_0 rfl rfl rfl rfl (Nat.le_of_ble_eq_true rfl) dX5_first_27 ?_
    refine bw_iload_n (pc := 30) C 1 dX5_first_30 rfl rfl ?_
    obtain ⟨v6, ev6, h⟩ := bw_cl_o h
    refine bw_cSi (pc := 31) (As := [.int v4, .int x1]) (rest := []) C (tX5_has l v4 x1 M5 v6 ev6) msX5_has mw_815 rfl rfl ⟨Nat.le_of_ble_eq_true rfl, Nat.le_of_ble_eq_true rfl⟩ rfl rfl rfl (Nat.le_of_ble_eq_true rfl) dX5_first_31 ?_
    refine bw_if_eq (pc := 34) C 39 dX5_first_34 (by decide) h (fun h => ?_) (fun h => ?_)
    · obtain ⟨v7, ev7, h⟩ := bw_mv_o h
      refine bw_iinc (pc := 39) (x := v7) (L' := [(2, .int v7), (0, .ref (ρ 0)), (1, .int x1)]) C 2 dX5_first_39 rfl ev7.symm (by decide) rfl ?_
      refine bw_goto (pc := 42) C 16 dX5_first_42 (by decide) ?_
      refine bw_pick [1, 2, 0] rfl ?_
      exact hk16 (v7, M5) h
    · refine bw_iload_n (pc := 37) C 2 dX5_first_37 rfl rfl ?_
      exact bw_ireti (pc := 38) C dX5_first_38 h
def flX5_first_16 (N : Nat) (x1 : Int32)    (fu : Nat) (w : Int32 × bw_M) : Option (Int32 × bw_M) := bw_lp (fun kk w => fX5_first_16 N x1 kk w.1 w.2) fu w
theorem tlX5_first_16 {p : Program} {l : Launch} {e : Env} {s : State} {m : MethodId} {args : Array Value} {below : List Frame} {meth : Method} {c : Code} {D : va_G} {kT : Nat → ClassId} {ρ : Nat → Nat} (C : bw_Cx p s m args meth c cX5_first 3 RX5 19 D kT ρ (some .int)) (N : Nat) (x1 : Int32)     (rr : Int32) (zz : bw_M)  (fu : Nat) (w : Int32 × bw_M) (h : flX5_first_16 N x1 fu w = some (rr, zz)) : bw_At p l e rmX5_first s m args below meth c (MQ below (bw_QI bw_shM 19 D kT ρ rr zz) args s 0 0 (bw_A ρ 19)) bw_shM 19 D kT ρ 3 16 [(0, .ref (ρ 0)), (1, .int x1), (2, .int w.1)] [] w.2 :=
  bw_loop (r := (rr, zz)) (fun w => bw_At p l e rmX5_first s m args below meth c (MQ below (bw_QI bw_shM 19 D kT ρ rr zz) args s 0 0 (bw_A ρ 19)) bw_shM 19 D kT ρ 3 16 [(0, .ref (ρ 0)), (1, .int x1), (2, .int w.1)] [] w.2) (fun kk hk w h => tX5_first_16 C N x1 kk w.1 w.2 rr zz hk h) fu w h
def fX5_first (N : Nat) (x1 : Int32) (M : bw_M) : Option (Int32 × bw_M) :=
  bw_cl (fX5_isPipe x1 M) fun v1 =>
  if v1 = 0 then
  some ((-1 : Int32), M)
  else
  bw_cl (fX5_layAside N M) fun M2 =>
  bw_mv (1 : Int32) fun v3 =>
  flX5_first_16 N x1 N (v3, M2)
theorem tX5_first (l : Launch) (N : Nat) (x1 : Int32)  (M : bw_M) (rr : Int32) (zz : bw_M) (h : fX5_first N x1 M = some (rr, zz)) : bw_CI l bw_shM 19 yX5_first cX5_first 3 (some .int) rmX5_first (fun ρ => [.ref (ρ 0), .int x1]) M rr zz := by
  refine bw_inI (Lf := fun ρ => [(0, .ref (ρ 0)), (1, .int x1)]) cX5_first 3 (some .int) RX5 pn_X5 rfl (fun ρ => Nat.le_of_ble_eq_true rfl) (fun ρ => rfl) ?_
  intro p e s m args below meth c D kT ρ C
  unfold fX5_first at h
  refine bw_aload_n (pc := 0) C 0 dX5_first_0 rfl rfl ?_
  refine bw_iload_n (pc := 1) C 1 dX5_first_1 rfl rfl ?_
  obtain ⟨v1, ev1, h⟩ := bw_cl_o h
  refine bw_cVi (pc := 2) (q := 0) (As := [.int x1]) (rest := []) C (tX5_isPipe l x1 M v1 ev1) msX5_isPipe mw_799 rfl rfl ⟨Nat.le_of_ble_eq_true rfl, Nat.le_of_ble_eq_true rfl⟩ ltM_0 shM_0 rfl rfl rfl rfl (Nat.le_of_ble_eq_true rfl) dX5_first_2 ?_
  refine bw_if_ne (pc := 5) C 10 dX5_first_5 (by decide) h (fun h => ?_) (fun h => ?_)
  · refine bw_aload_n (pc := 10) C 0 dX5_first_10 rfl rfl ?_
    obtain ⟨M2, eM2, h⟩ := bw_cl_o h
    refine bw_cVv (pc := 11) (q := 0) (As := []) (rest := []) C (tX5_layAside l N M M2 eM2) msX5_layAside mw_897 rfl rfl ⟨Nat.le_of_ble_eq_true rfl, Nat.le_of_ble_eq_true rfl⟩ ltM_0 shM_0 rfl rfl rfl rfl (Nat.le_of_ble_eq_true rfl) dX5_first_11 ?_
    refine bw_iconst (pc := 14) (v := (1 : Int32)) C dX5_first_14 ic_1 ?_
    obtain ⟨v3, ev3, h⟩ := bw_mv_o h
    refine bw_nmI ev3 ?_
    refine bw_istore_n (pc := 15) (L' := [(2, .int v3), (0, .ref (ρ 0)), (1, .int x1)]) C dX5_first_15 rfl (by decide) rfl ?_
    refine bw_pick [1, 2, 0] rfl ?_
    exact tlX5_first_16 C N x1 rr zz N (v3, M2) h
  · refine bw_iconst (pc := 8) (v := (-1 : Int32)) C dX5_first_8 ic_m1 ?_
    exact bw_ireti (pc := 9) C dX5_first_9 h
/-! X5_forgets -/
abbrev rmX5_forgets : Room := { frames := 0, cells := 0, slots := 0, locals := 0 }
theorem msX5_forgets : bw_MV yX5_forgets cX5_forgets 2 none RX5 0 := ⟨mw_613, mw_1092, mw_6, mw_614, by decide +kernel⟩
def fX5_forgets_7 (N : Nat)  (k7 : Int32 × bw_M → Option (bw_M)) (x1 : Int32) (M : bw_M) : Option (bw_M) :=
  if (3 : Int32) ≤ x1 then
  some M
  else
  bw_wr M 12 2094 ((698 : Int32) * x1) (-1 : Int32) fun M3 =>
  bw_mv (x1 + 1) fun v4 =>
  k7 (v4, M3)
theorem tX5_forgets_7 {p : Program} {l : Launch} {e : Env} {s : State} {m : MethodId} {args : Array Value} {below : List Frame} {meth : Method} {c : Code} {D : va_G} {kT : Nat → ClassId} {ρ : Nat → Nat} (C : bw_Cx p s m args meth c cX5_forgets 2 RX5 19 D kT ρ none) (N : Nat)   (k7 : Int32 × bw_M → Option (bw_M)) (x1 : Int32) (M : bw_M) (zz : bw_M) (hk7 : ∀ z0, k7 z0 = some zz → bw_At p l e rmX5_forgets s m args below meth c (MQ below (bw_QV bw_shM 19 D kT ρ zz) args s 0 0 (bw_A ρ 19)) bw_shM 19 D kT ρ 2 7 [(0, .ref (ρ 0)), (1, .int z0.1)] [] z0.2) (h : fX5_forgets_7 N k7 x1 M = some zz) : bw_At p l e rmX5_forgets s m args below meth c (MQ below (bw_QV bw_shM 19 D kT ρ zz) args s 0 0 (bw_A ρ 19)) bw_shM 19 D kT ρ 2 7 [(0, .ref (ρ 0)), (1, .int x1)] [] M := by
  unfold fX5_forgets_7 at h
  refine bw_iload_n (pc := 7) C 1 dX5_forgets_7 rfl rfl ?_
  refine bw_iconst (pc := 8) (v := (3 : Int32)) C dX5_forgets_8 ic_3 ?_
  refine bw_icmp_ge (pc := 9) C 29 dX5_forgets_9 (by decide) h (fun h => ?_) (fun h => ?_)
  · exact bw_vreti (pc := 29) C dX5_forgets_29 h
  · refine bw_aload_n (pc := 12) C 0 dX5_forgets_12 rfl rfl ?_
    refine bw_getR (pc := 13) (q := 0) (k0 := 17) C ltM_0 shM_0 rfl inX5 mw_632 (by decide) rfl dX5_forgets_13 ?_
    refine bw_sipush (pc := 16) (v := (698 : Int32)) C dX5_forgets_16 si_698 ?_
    refine bw_iload_n (pc := 19) C 1 dX5_forgets_19 rfl rfl ?_
    refine bw_imul (pc := 20) C dX5_forgets_20 ?_
    refine bw_iconst (pc := 21) (v := (-1 : Int32)) C dX5_forgets_21 ic_m1 ?_
    obtain ⟨qM3, M3, eM3, h⟩ := bw_wr_o h
    refine bw_iast (pc := 22) (q := 12) C ltM_12 shM_12 qM3 eM3 dX5_forgets_22 ?_
    obtain ⟨v4, ev4, h⟩ := bw_mv_o h
    refine bw_iinc (pc := 23) (x := v4) (L' := [(1, .int v4), (0, .ref (ρ 0))]) C 1 dX5_forgets_23 rfl ev4.symm (by decide) rfl ?_
    refine bw_goto (pc := 26) C 7 dX5_forgets_26 (by decide) ?_
    refine bw_pick [1, 0] rfl ?_
    exact hk7 (v4, M3) h
def flX5_forgets_7 (N : Nat)     (fu : Nat) (w : Int32 × bw_M) : Option (bw_M) := bw_lp (fun kk w => fX5_forgets_7 N kk w.1 w.2) fu w
theorem tlX5_forgets_7 {p : Program} {l : Launch} {e : Env} {s : State} {m : MethodId} {args : Array Value} {below : List Frame} {meth : Method} {c : Code} {D : va_G} {kT : Nat → ClassId} {ρ : Nat → Nat} (C : bw_Cx p s m args meth c cX5_forgets 2 RX5 19 D kT ρ none) (N : Nat)      (zz : bw_M)  (fu : Nat) (w : Int32 × bw_M) (h : flX5_forgets_7 N fu w = some zz) : bw_At p l e rmX5_forgets s m args below meth c (MQ below (bw_QV bw_shM 19 D kT ρ zz) args s 0 0 (bw_A ρ 19)) bw_shM 19 D kT ρ 2 7 [(0, .ref (ρ 0)), (1, .int w.1)] [] w.2 :=
  bw_loop (r := zz) (fun w => bw_At p l e rmX5_forgets s m args below meth c (MQ below (bw_QV bw_shM 19 D kT ρ zz) args s 0 0 (bw_A ρ 19)) bw_shM 19 D kT ρ 2 7 [(0, .ref (ρ 0)), (1, .int w.1)] [] w.2) (fun kk hk w h => tX5_forgets_7 C N kk w.1 w.2 zz hk h) fu w h
def fX5_forgets (N : Nat)  (M : bw_M) : Option (bw_M) :=
  bw_mv (bw_pI M 0 16 (0 : Int32)) fun M1 =>
  bw_mv (0 : Int32) fun v2 =>
  flX5_forgets_7 N N (v2, M1)
theorem tX5_forgets (l : Launch) (N : Nat)   (M : bw_M) (zz : bw_M) (h : fX5_forgets N M = some zz) : bw_CV l bw_shM 19 yX5_forgets cX5_forgets 2 none rmX5_forgets (fun ρ => [.ref (ρ 0)]) M zz := by
  refine bw_inV (Lf := fun ρ => [(0, .ref (ρ 0))]) cX5_forgets 2 none RX5 pn_X5 rfl (fun ρ => Nat.le_of_ble_eq_true rfl) (fun ρ => rfl) ?_
  intro p e s m args below meth c D kT ρ C
  unfold fX5_forgets at h
  refine bw_aload_n (pc := 0) C 0 dX5_forgets_0 rfl rfl ?_
  refine bw_iconst (pc := 1) (v := (0 : Int32)) C dX5_forgets_1 ic_0 ?_
  obtain ⟨M1, eM1, h⟩ := bw_mv_o h
  refine bw_putI (pc := 2) (q := 0) (k0 := 16) C ltM_0 shM_0 rfl inX5 mw_631 (by decide) tyX5 tyX5_ok nmX5 rfl rfl rfl eM1 rfl rfl dX5_forgets_2 ?_
  refine bw_iconst (pc := 5) (v := (0 : Int32)) C dX5_forgets_5 ic_0 ?_
  obtain ⟨v2, ev2, h⟩ := bw_mv_o h
  refine bw_nmI ev2 ?_
  refine bw_istore_n (pc := 6) (L' := [(1, .int v2), (0, .ref (ρ 0))]) C dX5_forgets_6 rfl (by decide) rfl ?_
  refine bw_pick [1, 0] rfl ?_
  exact tlX5_forgets_7 C N zz N (v2, M1) h
/-! X5_fraction -/
abbrev rmX5_fraction : Room := { frames := 0, cells := 0, slots := 0, locals := 0 }
theorem msX5_fraction : bw_MV yX5_fraction cX5_fraction 11 (some .int) RX5 2 := ⟨mw_1006, mw_1121, mw_6, mw_1007, by decide +kernel⟩
def fX5_fraction_6 (N : Nat) (x1 : Int64) (x3 : Int64) (k6 : Int64 × Int64 → Option (Int32 × bw_M)) (x5 : Int64) (x7 : Int64) (M : bw_M) : Option (Int32 × bw_M) :=
  if (lg_cmp x7 (0 : Int64)) = 0 then
  bw_ck (decide (¬ x5 = 0)) (
  bw_mv (bw_pL M 5 (x1 / x5)) fun M2 =>
  bw_ck (decide (¬ x5 = 0)) (
  bw_mv (bw_pL M2 6 (x3 / x5)) fun M4 =>
  some ((1 : Int32), M4)))
  else
  bw_ck (decide (¬ x7 = 0)) (
  bw_mv (x5 - x5 / x7 * x7) fun v6 =>
  k6 (x7, v6))
theorem tX5_fraction_6 {p : Program} {l : Launch} {e : Env} {s : State} {m : MethodId} {args : Array Value} {below : List Frame} {meth : Method} {c : Code} {D : va_G} {kT : Nat → ClassId} {ρ : Nat → Nat} (C : bw_Cx p s m args meth c cX5_fraction 11 RX5 19 D kT ρ (some .int)) (N : Nat) (x1 : Int64) (x3 : Int64)  (k6 : Int64 × Int64 → Option (Int32 × bw_M)) (x5 : Int64) (x7 : Int64) (M : bw_M) (rr : Int32) (zz : bw_M) (hk6 : ∀ z0, k6 z0 = some (rr, zz) → bw_At p l e rmX5_fraction s m args below meth c (MQ below (bw_QI bw_shM 19 D kT ρ rr zz) args s 0 0 (bw_A ρ 19)) bw_shM 19 D kT ρ 11 6 [(0, .ref (ρ 0)), (1, .long x1), (3, .long x3), (5, .long z0.1), (7, .long z0.2)] [] M) (h : fX5_fraction_6 N x1 x3 k6 x5 x7 M = some (rr, zz)) : bw_At p l e rmX5_fraction s m args below meth c (MQ below (bw_QI bw_shM 19 D kT ρ rr zz) args s 0 0 (bw_A ρ 19)) bw_shM 19 D kT ρ 11 6 [(0, .ref (ρ 0)), (1, .long x1), (3, .long x3), (5, .long x5), (7, .long x7)] [] M := by
  unfold fX5_fraction_6 at h
  refine bw_lload (pc := 6) C 4 dX5_fraction_6 rfl ?_
  refine bw_lconst (pc := 8) (v := (0 : Int64)) C dX5_fraction_8 rfl ?_
  refine bw_lcmp (pc := 9) C dX5_fraction_9 ?_
  refine bw_if_eq (pc := 10) C 31 dX5_fraction_10 (by decide) h (fun h => ?_) (fun h => ?_)
  · refine bw_aload_n (pc := 31) C 0 dX5_fraction_31 rfl rfl ?_
    refine bw_lload_n (pc := 32) C 1 dX5_fraction_32 rfl rfl ?_
    refine bw_lload (pc := 33) C 3 dX5_fraction_33 rfl ?_
    obtain ⟨q1, h⟩ := bw_ck_o h
    refine bw_ldiv (pc := 35) C dX5_fraction_35 (of_decide_eq_true q1) ?_
    obtain ⟨M2, eM2, h⟩ := bw_mv_o h
    refine bw_putL (pc := 36) (q := 0) (k0 := 5) C ltM_0 shM_0 rfl inX5 mw_620 (by decide) tyX5 tyX5_ok nmX5 rfl rfl one_M1 rfl eM2 rfl rfl dX5_fraction_36 ?_
    refine bw_aload_n (pc := 39) C 0 dX5_fraction_39 rfl rfl ?_
    refine bw_lload_n (pc := 40) C 2 dX5_fraction_40 rfl rfl ?_
    refine bw_lload (pc := 41) C 3 dX5_fraction_41 rfl ?_
    obtain ⟨q3, h⟩ := bw_ck_o h
    refine bw_ldiv (pc := 43) C dX5_fraction_43 (of_decide_eq_true q3) ?_
    obtain ⟨M4, eM4, h⟩ := bw_mv_o h
    refine bw_putL (pc := 44) (q := 0) (k0 := 6) C ltM_0 shM_0 rfl inX5 mw_621 (by decide) tyX5 tyX5_ok nmX5 rfl rfl one_M1 rfl eM4 rfl rfl dX5_fraction_44 ?_
    refine bw_iconst (pc := 47) (v := (1 : Int32)) C dX5_fraction_47 ic_1 ?_
    exact bw_ireti (pc := 48) C dX5_fraction_48 h
  · refine bw_lload (pc := 13) C 3 dX5_fraction_13 rfl ?_
    refine bw_lload (pc := 15) C 4 dX5_fraction_15 rfl ?_
    obtain ⟨q5, h⟩ := bw_ck_o h
    refine bw_lrem (pc := 17) C dX5_fraction_17 (of_decide_eq_true q5) ?_
    obtain ⟨v6, ev6, h⟩ := bw_mv_o h
    refine bw_nmL ev6 ?_
    refine bw_lstore (pc := 18) (L' := [(9, .long v6), (0, .ref (ρ 0)), (1, .long x1), (3, .long x3), (5, .long x5), (7, .long x7)]) C dX5_fraction_18 (by decide) rfl ?_
    refine bw_lload (pc := 20) C 5 dX5_fraction_20 rfl ?_
    refine bw_lstore (pc := 22) (L' := [(5, .long x7), (9, .long v6), (0, .ref (ρ 0)), (1, .long x1), (3, .long x3), (7, .long x7)]) C dX5_fraction_22 (by decide) rfl ?_
    refine bw_lload (pc := 24) C 1 dX5_fraction_24 rfl ?_
    refine bw_lstore (pc := 26) (L' := [(7, .long v6), (5, .long x7), (9, .long v6), (0, .ref (ρ 0)), (1, .long x1), (3, .long x3)]) C dX5_fraction_26 (by decide) rfl ?_
    refine bw_goto (pc := 28) C 6 dX5_fraction_28 (by decide) ?_
    refine bw_pick [3, 4, 5, 1, 0] rfl ?_
    exact hk6 (x7, v6) h
def flX5_fraction_6 (N : Nat) (x1 : Int64) (x3 : Int64)   (M : bw_M) (fu : Nat) (w : Int64 × Int64) : Option (Int32 × bw_M) := bw_lp (fun kk w => fX5_fraction_6 N x1 x3 kk w.1 w.2 M) fu w
theorem tlX5_fraction_6 {p : Program} {l : Launch} {e : Env} {s : State} {m : MethodId} {args : Array Value} {below : List Frame} {meth : Method} {c : Code} {D : va_G} {kT : Nat → ClassId} {ρ : Nat → Nat} (C : bw_Cx p s m args meth c cX5_fraction 11 RX5 19 D kT ρ (some .int)) (N : Nat) (x1 : Int64) (x3 : Int64)    (M : bw_M) (rr : Int32) (zz : bw_M)  (fu : Nat) (w : Int64 × Int64) (h : flX5_fraction_6 N x1 x3 M fu w = some (rr, zz)) : bw_At p l e rmX5_fraction s m args below meth c (MQ below (bw_QI bw_shM 19 D kT ρ rr zz) args s 0 0 (bw_A ρ 19)) bw_shM 19 D kT ρ 11 6 [(0, .ref (ρ 0)), (1, .long x1), (3, .long x3), (5, .long w.1), (7, .long w.2)] [] M :=
  bw_loop (r := (rr, zz)) (fun w => bw_At p l e rmX5_fraction s m args below meth c (MQ below (bw_QI bw_shM 19 D kT ρ rr zz) args s 0 0 (bw_A ρ 19)) bw_shM 19 D kT ρ 11 6 [(0, .ref (ρ 0)), (1, .long x1), (3, .long x3), (5, .long w.1), (7, .long w.2)] [] M) (fun kk hk w h => tX5_fraction_6 C N x1 x3 kk w.1 w.2 M rr zz hk h) fu w h
def fX5_fraction (N : Nat) (x1 : Int64) (x3 : Int64) (M : bw_M) : Option (Int32 × bw_M) :=
  flX5_fraction_6 N x1 x3 M N (x1, x3)
theorem tX5_fraction (l : Launch) (N : Nat) (x1 : Int64) (x3 : Int64)  (M : bw_M) (rr : Int32) (zz : bw_M) (h : fX5_fraction N x1 x3 M = some (rr, zz)) : bw_CI l bw_shM 19 yX5_fraction cX5_fraction 11 (some .int) rmX5_fraction (fun ρ => [.ref (ρ 0), .long x1, .long x3]) M rr zz := by
  refine bw_inI (Lf := fun ρ => [(0, .ref (ρ 0)), (1, .long x1), (3, .long x3)]) cX5_fraction 11 (some .int) RX5 pn_X5 rfl (fun ρ => Nat.le_of_ble_eq_true rfl) (fun ρ => rfl) ?_
  intro p e s m args below meth c D kT ρ C
  unfold fX5_fraction at h
  refine bw_lload_n (pc := 0) C 1 dX5_fraction_0 rfl rfl ?_
  refine bw_lstore (pc := 1) (L' := [(5, .long x1), (0, .ref (ρ 0)), (1, .long x1), (3, .long x3)]) C dX5_fraction_1 (by decide) rfl ?_
  refine bw_lload_n (pc := 3) C 3 dX5_fraction_3 rfl rfl ?_
  refine bw_lstore (pc := 4) (L' := [(7, .long x3), (5, .long x1), (0, .ref (ρ 0)), (1, .long x1), (3, .long x3)]) C dX5_fraction_4 (by decide) rfl ?_
  refine bw_pick [2, 3, 4, 1, 0] rfl ?_
  exact tlX5_fraction_6 C N x1 x3 M rr zz N (x1, x3) h
