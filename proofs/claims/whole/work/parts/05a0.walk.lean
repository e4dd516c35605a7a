/-! J6_bitCount_0f7a4 -/
abbrev rmJ6_bitCount_0f7a4 : Room := { frames := 0, cells := 0, slots := 0, locals := 0 }
theorem msJ6_bitCount_0f7a4 : bw_MS yJ6_bitCount_0f7a4 cJ6_bitCount_0f7a4 1 (some .int) 1 := ⟨mw_435, mw_10, mw_436, by decide +kernel⟩
def fJ6_bitCount_0f7a4 (x0 : Int32)  : Option (Int32) :=
  bw_mv (x0 - ((((x0).toUInt32 >>> (((1 : Int32)).toUInt32 &&& Int32.toUInt32 31)).toInt32) &&& (1431655765 : Int32))) fun v1 =>
  bw_mv ((v1 &&& (858993459 : Int32)) + ((((v1).toUInt32 >>> (((2 : Int32)).toUInt32 &&& Int32.toUInt32 31)).toInt32) &&& (858993459 : Int32))) fun v2 =>
  bw_mv ((v2 + (((v2).toUInt32 >>> (((4 : Int32)).toUInt32 &&& Int32.toUInt32 31)).toInt32)) &&& (252645135 : Int32)) fun v3 =>
  bw_mv (v3 + (((v3).toUInt32 >>> (((8 : Int32)).toUInt32 &&& Int32.toUInt32 31)).toInt32)) fun v4 =>
  bw_mv (v4 + (((v4).toUInt32 >>> (((16 : Int32)).toUInt32 &&& Int32.toUInt32 31)).toInt32)) fun v5 =>
  some (v5 &&& (63 : Int32))
theorem tJ6_bitCount_0f7a4 (l : Launch) (x0 : Int32)  (M : bw_M) (rr : Int32) (h : fJ6_bitCount_0f7a4 x0 = some rr) : bw_CI l bw_shC 45 yJ6_bitCount_0f7a4 cJ6_bitCount_0f7a4 1 (some .int) rmJ6_bitCount_0f7a4 (fun ρ => [.int x0]) M rr M := by
  refine bw_inI (Lf := fun ρ => [(0, .int x0)]) cJ6_bitCount_0f7a4 1 (some .int) RJ6 pn_J6 rfl (fun ρ => Nat.le_of_ble_eq_true rfl) (fun ρ => rfl) ?_
  intro p e s m args below meth c D kT ρ C
  unfold fJ6_bitCount_0f7a4 at h
  refine bw_iload_n (pc := 0) C 0 dJ6_bitCount_0f7a4_0 rfl rfl ?_
  refine bw_iload_n (pc := 1) C 0 dJ6_bitCount_0f7a4_1 rfl rfl ?_
  refine bw_iconst (pc := 2) (v := (1 : Int32)) C dJ6_bitCount_0f7a4_2 ic_1 ?_
  refine bw_iushr (pc := 3) (v := ((x0).toUInt32 >>> (((1 : Int32)).toUInt32 &&& Int32.toUInt32 31)).toInt32) C dJ6_bitCount_0f7a4_3 rfl ?_
  refine bw_ldc_w (pc := 4) C mw_437 dJ6_bitCount_0f7a4_4 ?_
  refine bw_iand (pc := 7) C dJ6_bitCount_0f7a4_7 ?_
  refine bw_isub (pc := 8) C dJ6_bitCount_0f7a4_8 ?_
  obtain ⟨v1, ev1, h⟩ := bw_mv_o h
  refine bw_nmI ev1 ?_
  refine bw_istore_n (pc := 9) (L' := [(0, .int v1)]) C dJ6_bitCount_0f7a4_9 rfl (by decide) rfl ?_
  refine bw_iload_n (pc := 10) C 0 dJ6_bitCount_0f7a4_10 rfl rfl ?_
  refine bw_ldc_w (pc := 11) C mw_438 dJ6_bitCount_0f7a4_11 ?_
  refine bw_iand (pc := 14) C dJ6_bitCount_0f7a4_14 ?_
  refine bw_iload_n (pc := 15) C 0 dJ6_bitCount_0f7a4_15 rfl rfl ?_
  refine bw_iconst (pc := 16) (v := (2 : Int32)) C dJ6_bitCount_0f7a4_16 ic_2 ?_
  refine bw_iushr (pc := 17) (v := ((v1).toUInt32 >>> (((2 : Int32)).toUInt32 &&& Int32.toUInt32 31)).toInt32) C dJ6_bitCount_0f7a4_17 rfl ?_
  refine bw_ldc_w (pc := 18) C mw_438 dJ6_bitCount_0f7a4_18 ?_
  refine bw_iand (pc := 21) C dJ6_bitCount_0f7a4_21 ?_
  refine bw_iadd (pc := 22) C dJ6_bitCount_0f7a4_22 ?_
  obtain ⟨v2, ev2, h⟩ := bw_mv_o h
  refine bw_nmI ev2 ?_
  refine bw_istore_n (pc := 23) (L' := [(0, .int v2)]) C dJ6_bitCount_0f7a4_23 rfl (by decide) rfl ?_
  refine bw_iload_n (pc := 24) C 0 dJ6_bitCount_0f7a4_24 rfl rfl ?_
  refine bw_iload_n (pc := 25) C 0 dJ6_bitCount_0f7a4_25 rfl rfl ?_
  refine bw_iconst (pc := 26) (v := (4 : Int32)) C dJ6_bitCount_0f7a4_26 ic_4 ?_
  refine bw_iushr (pc := 27) (v := ((v2).toUInt32 >>> (((4 : Int32)).toUInt32 &&& Int32.toUInt32 31)).toInt32) C dJ6_bitCount_0f7a4_27 rfl ?_
  refine bw_iadd (pc := 28) C dJ6_bitCount_0f7a4_28 ?_
  refine bw_ldc_w (pc := 29) C mw_439 dJ6_bitCount_0f7a4_29 ?_
  refine bw_iand (pc := 32) C dJ6_bitCount_0f7a4_32 ?_
  obtain ⟨v3, ev3, h⟩ := bw_mv_o h
  refine bw_nmI ev3 ?_
  refine bw_istore_n (pc := 33) (L' := [(0, .int v3)]) C dJ6_bitCount_0f7a4_33 rfl (by decide) rfl ?_
  refine bw_iload_n (pc := 34) C 0 dJ6_bitCount_0f7a4_34 rfl rfl ?_
  refine bw_iload_n (pc := 35) C 0 dJ6_bitCount_0f7a4_35 rfl rfl ?_
  refine bw_bipush (pc := 36) (v := (8 : Int32)) C dJ6_bitCount_0f7a4_36 bi_8 ?_
  refine bw_iushr (pc := 38) (v := ((v3).toUInt32 >>> (((8 : Int32)).toUInt32 &&& Int32.toUInt32 31)).toInt32) C dJ6_bitCount_0f7a4_38 rfl ?_
  refine bw_iadd (pc := 39) C dJ6_bitCount_0f7a4_39 ?_
  obtain ⟨v4, ev4, h⟩ := bw_mv_o h
  refine bw_nmI ev4 ?_
  refine bw_istore_n (pc := 40) (L' := [(0, .int v4)]) C dJ6_bitCount_0f7a4_40 rfl (by decide) rfl ?_
  refine bw_iload_n (pc := 41) C 0 dJ6_bitCount_0f7a4_41 rfl rfl ?_
  refine bw_iload_n (pc := 42) C 0 dJ6_bitCount_0f7a4_42 rfl rfl ?_
  refine bw_bipush (pc := 43) (v := (16 : Int32)) C dJ6_bitCount_0f7a4_43 bi_16 ?_
  refine bw_iushr (pc := 45) (v := ((v4).toUInt32 >>> (((16 : Int32)).toUInt32 &&& Int32.toUInt32 31)).toInt32) C dJ6_bitCount_0f7a4_45 rfl ?_
  refine bw_iadd (pc := 46) C dJ6_bitCount_0f7a4_46 ?_
  obtain ⟨v5, ev5, h⟩ := bw_mv_o h
  refine bw_nmI ev5 ?_
  refine bw_istore_n (pc := 47) (L' := [(0, .int v5)]) C dJ6_bitCount_0f7a4_47 rfl (by decide) rfl ?_
  refine bw_iload_n (pc := 48) C 0 dJ6_bitCount_0f7a4_48 rfl rfl ?_
  refine bw_bipush (pc := 49) (v := (63 : Int32)) C dJ6_bitCount_0f7a4_49 bi_63 ?_
  refine bw_iand (pc := 51) C dJ6_bitCount_0f7a4_51 ?_
  exact bw_ireti (pc := 52) C dJ6_bitCount_0f7a4_52 (bw_pr M h)
/-! J7_fill_031fb -/
abbrev rmJ7_fill_031fb : Room := { frames := 0, cells := 0, slots := 0, locals := 0 }
theorem msJ7_fill_031fb : bw_MS yJ7_fill_031fb cJ7_fill_031fb 4 none 2 := ⟨mw_228, mw_5, mw_229, by decide +kernel⟩
def fJ7_fill_031fb_5 (N : Nat) (x0 : Nat) (n0 : Nat) (x1 : Int32) (k5 : Int32 × bw_M → Option (bw_M)) (x2 : Int32) (x3 : Int32) (M : bw_M) : Option (bw_M) :=
  if x3 ≤ x2 then
  some M
  else
  bw_wr M x0 n0 x2 (Int8.toInt32 (Int32.toInt8 x1)) fun M3 =>
  bw_mv (x2 + 1) fun v4 =>
  k5 (v4, M3)
theorem tJ7_fill_031fb_5 {p : Program} {l : Launch} {e : Env} {s : State} {m : MethodId} {args : Array Value} {below : List Frame} {meth : Method} {c : Code} {D : va_G} {kT : Nat → ClassId} {ρ : Nat → Nat} (C : bw_Cx p s m args meth c cJ7_fill_031fb 4 RJ7 45 D kT ρ none) (N : Nat) (x0 : Nat) (n0 : Nat) (x1 : Int32) (g0 : x0 < 45) (i0 : bw_shC x0 = .inr (.inl (1, n0))) (k5 : Int32 × bw_M → Option (bw_M)) (x2 : Int32) (x3 : Int32) (M : bw_M) (zz : bw_M) (hk5 : ∀ z0, k5 z0 = some zz → bw_At p l e rmJ7_fill_031fb s m args below meth c (MQ below (bw_QV bw_shC 45 D kT ρ zz) args s 0 0 (bw_A ρ 45)) bw_shC 45 D kT ρ 4 5 [(0, .ref (ρ x0)), (1, .int x1), (2, .int z0.1), (3, .int x3)] [] z0.2) (h : fJ7_fill_031fb_5 N x0 n0 x1 k5 x2 x3 M = some zz) : bw_At p l e rmJ7_fill_031fb s m args below meth c (MQ below (bw_QV bw_shC 45 D kT ρ zz) args s 0 0 (bw_A ρ 45)) bw_shC 45 D kT ρ 4 5 [(0, .ref (ρ x0)), (1, .int x1), (2, .int x2), (3, .int x3)] [] M := by
  unfold fJ7_fill_031fb_5 at h
  refine bw_iload_n (pc := 5) C 2 dJ7_fill_031fb_5 rfl rfl ?_
  refine bw_iload_n (pc := 6) C 3 dJ7_fill_031fb_6 rfl rfl ?_
  refine bw_icmp_ge (pc := 7) C 20 dJ7_fill_031fb_7 (by decide) h (fun h => ?_) (fun h => ?_)
  · exact bw_vreti (pc := 20) C dJ7_fill_031fb_20 h
  · refine bw_aload_n (pc := 10) C 0 dJ7_fill_031fb_10 rfl rfl ?_
    refine bw_iload_n (pc := 11) C 2 dJ7_fill_031fb_11 rfl rfl ?_
    refine bw_iload_n (pc := 12) C 1 dJ7_fill_031fb_12 rfl rfl ?_
    obtain ⟨qM3, M3, eM3, h⟩ := bw_wr_o h
    refine bw_bast (pc := 13) (q := x0) C g0 i0 qM3 eM3 dJ7_fill_031fb_13 ?_
    obtain ⟨v4, ev4, h⟩ := bw_mv_o h
    refine bw_iinc (pc := 14) (x := v4) (L' := [(2, .int v4), (0, .ref (ρ x0)), (1, .int x1), (3, .int x3)]) C 2 dJ7_fill_031fb_14 rfl ev4.symm (by decide) rfl ?_
    refine bw_goto (pc := 17) C 5 dJ7_fill_031fb_17 (by decide) ?_
    refine bw_pick [1, 2, 0, 3] rfl ?_
    exact hk5 (v4, M3) h
def flJ7_fill_031fb_5 (N : Nat) (x0 : Nat) (n0 : Nat) (x1 : Int32)  (x3 : Int32)  (fu : Nat) (w : Int32 × bw_M) : Option (bw_M) := bw_lp (fun kk w => fJ7_fill_031fb_5 N x0 n0 x1 kk w.1 x3 w.2) fu w
theorem tlJ7_fill_031fb_5 {p : Program} {l : Launch} {e : Env} {s : State} {m : MethodId} {args : Array Value} {below : List Frame} {meth : Method} {c : Code} {D : va_G} {kT : Nat → ClassId} {ρ : Nat → Nat} (C : bw_Cx p s m args meth c cJ7_fill_031fb 4 RJ7 45 D kT ρ none) (N : Nat) (x0 : Nat) (n0 : Nat) (x1 : Int32) (g0 : x0 < 45) (i0 : bw_shC x0 = .inr (.inl (1, n0)))  (x3 : Int32)  (zz : bw_M)  (fu : Nat) (w : Int32 × bw_M) (h : flJ7_fill_031fb_5 N x0 n0 x1 x3 fu w = some zz) : bw_At p l e rmJ7_fill_031fb s m args below meth c (MQ below (bw_QV bw_shC 45 D kT ρ zz) args s 0 0 (bw_A ρ 45)) bw_shC 45 D kT ρ 4 5 [(0, .ref (ρ x0)), (1, .int x1), (2, .int w.1), (3, .int x3)] [] w.2 :=
  bw_loop (r := zz) (fun w => bw_At p l e rmJ7_fill_031fb s m args below meth c (MQ below (bw_QV bw_shC 45 D kT ρ zz) args s 0 0 (bw_A ρ 45)) bw_shC 45 D kT ρ 4 5 [(0, .ref (ρ x0)), (1, .int x1), (2, .int w.1), (3, .int x3)] [] w.2) (fun kk hk w h => tJ7_fill_031fb_5 C N x0 n0 x1 g0 i0 kk w.1 x3 w.2 zz hk h) fu w h
def fJ7_fill_031fb (N : Nat) (x0 : Nat) (n0 : Nat) (x1 : Int32) (M : bw_M) : Option (bw_M) :=
  bw_mv (0 : Int32) fun v1 =>
  bw_mv (Int32.ofNat n0) fun v2 =>
  flJ7_fill_031fb_5 N x0 n0 x1 v2 N (v1, M)
theorem tJ7_fill_031fb (l : Launch) (N : Nat) (x0 : Nat) (n0 : Nat) (x1 : Int32) (g0 : x0 < 45) (i0 : bw_shC x0 = .inr (.inl (1, n0))) (M : bw_M) (zz : bw_M) (h : fJ7_fill_031fb N x0 n0 x1 M = some zz) : bw_CV l bw_shC 45 yJ7_fill_031fb cJ7_fill_031fb 4 none rmJ7_fill_031fb (fun ρ => [.ref (ρ x0), .int x1]) M zz := by
  refine bw_inV (Lf := fun ρ => [(0, .ref (ρ x0)), (1, .int x1)]) cJ7_fill_031fb 4 none RJ7 pn_J7 rfl (fun ρ => Nat.le_of_ble_eq_true rfl) (fun ρ => rfl) ?_
  intro p e s m args below meth c D kT ρ C
  unfold fJ7_fill_031fb at h
  refine bw_iconst (pc := 0) (v := (0 : Int32)) C dJ7_fill_031fb_0 ic_0 ?_
  obtain ⟨v1, ev1, h⟩ := bw_mv_o h
  refine bw_nmI ev1 ?_
  refine bw_istore_n (pc := 1) (L' := [(2, .int v1), (0, .ref (ρ x0)), (1, .int x1)]) C dJ7_fill_031fb_1 rfl (by decide) rfl ?_
  refine bw_aload_n (pc := 2) C 1 dJ7_fill_031fb_2 rfl rfl ?_
  refine bw_alen (pc := 3) (q := x0) (v := (Int32.ofNat n0)) C g0 i0 (by decide) rfl dJ7_fill_031fb_3 ?_
  obtain ⟨v2, ev2, h⟩ := bw_mv_o h
  refine bw_nmI ev2 ?_
  refine bw_istore_n (pc := 4) (L' := [(3, .int v2), (2, .int v1), (0, .ref (ρ x0)), (1, .int x1)]) C dJ7_fill_031fb_4 rfl (by decide) rfl ?_
  refine bw_pick [2, 3, 1, 0] rfl ?_
  exact tlJ7_fill_031fb_5 C N x0 n0 x1 g0 i0 v2 zz N (v1, M) h
/-! J7_fill_53178 -/
abbrev rmJ7_fill_53178 : Room := { frames := 0, cells := 0, slots := 0, locals := 0 }
theorem msJ7_fill_53178 : bw_MS yJ7_fill_53178 cJ7_fill_53178 4 none 2 := ⟨mw_121, mw_5, mw_122, by decide +kernel⟩
def fJ7_fill_53178_5 (N : Nat) (x0 : Nat) (n0 : Nat) (x1 : Int32) (k5 : Int32 × bw_M → Option (bw_M)) (x2 : Int32) (x3 : Int32) (M : bw_M) : Option (bw_M) :=
  if x3 ≤ x2 then
  some M
  else
  bw_wr M x0 n0 x2 x1 fun M3 =>
  bw_mv (x2 + 1) fun v4 =>
  k5 (v4, M3)
theorem tJ7_fill_53178_5 {p : Program} {l : Launch} {e : Env} {s : State} {m : MethodId} {args : Array Value} {below : List Frame} {meth : Method} {c : Code} {D : va_G} {kT : Nat → ClassId} {ρ : Nat → Nat} (C : bw_Cx p s m args meth c cJ7_fill_53178 4 RJ7 45 D kT ρ none) (N : Nat) (x0 : Nat) (n0 : Nat) (x1 : Int32) (g0 : x0 < 45) (i0 : bw_shC x0 = .inr (.inl (0, n0))) (k5 : Int32 × bw_M → Option (bw_M)) (x2 : Int32) (x3 : Int32) (M : bw_M) (zz : bw_M) (hk5 : ∀ z0, k5 z0 = some zz → bw_At p l e rmJ7_fill_53178 s m args below meth c (MQ below (bw_QV bw_shC 45 D kT ρ zz) args s 0 0 (bw_A ρ 45)) bw_shC 45 D kT ρ 4 5 [(0, .ref (ρ x0)), (1, .int x1), (2, .int z0.1), (3, .int x3)] [] z0.2) (h : fJ7_fill_53178_5 N x0 n0 x1 k5 x2 x3 M = some zz) : bw_At p l e rmJ7_fill_53178 s m args below meth c (MQ below (bw_QV bw_shC 45 D kT ρ zz) args s 0 0 (bw_A ρ 45)) bw_shC 45 D kT ρ 4 5 [(0, .ref (ρ x0)), (1, .int x1), (2, .int x2), (3, .int x3)] [] M := by
  unfold fJ7_fill_53178_5 at h
  refine bw_iload_n (pc := 5) C 2 dJ7_fill_53178_5 rfl rfl ?_
  refine bw_iload_n (pc := 6) C 3 dJ7_fill_53178_6 rfl rfl ?_
  refine bw_icmp_ge (pc := 7) C 20 dJ7_fill_53178_7 (by decide) h (fun h => ?_) (fun h => ?_)
  · exact bw_vreti (pc := 20) C dJ7_fill_53178_20 h
  · refine bw_aload_n (pc := 10) C 0 dJ7_fill_53178_10 rfl rfl ?_
    refine bw_iload_n (pc := 11) C 2 dJ7_fill_53178_11 rfl rfl ?_
    refine bw_iload_n (pc := 12) C 1 dJ7_fill_53178_12 rfl rfl ?_
    obtain ⟨qM3, M3, eM3, h⟩ := bw_wr_o h
    refine bw_iast (pc := 13) (q := x0) C g0 i0 qM3 eM3 dJ7_fill_53178_13 ?_
    obtain ⟨v4, ev4, h⟩ := bw_mv_o h
    refine bw_iinc (pc := 14) (x := v4) (L' := [(2, .int v4), (0, .ref (ρ x0)), (1, .int x1), (3, .int x3)]) C 2 dJ7_fill_53178_14 rfl ev4.symm (by decide) rfl ?_
    refine bw_goto (pc := 17) C 5 dJ7_fill_53178_17 (by decide) ?_
    refine bw_pick [1, 2, 0, 3] rfl ?_
    exact hk5 (v4, M3) h
def flJ7_fill_53178_5 (N : Nat) (x0 : Nat) (n0 : Nat) (x1 : Int32)  (x3 : Int32)  (fu : Nat) (w : Int32 × bw_M) : Option (bw_M) := bw_lp (fun kk w => fJ7_fill_53178_5 N x0 n0 x1 kk w.1 x3 w.2) fu w
theorem tlJ7_fill_53178_5 {p : Program} {l : Launch} {e : Env} {s : State} {m : MethodId} {args : Array Value} {below : List Frame} {meth : Method} {c : Code} {D : va_G} {kT : Nat → ClassId} {ρ : Nat → Nat} (C : bw_Cx p s m args meth c cJ7_fill_53178 4 RJ7 45 D kT ρ none) (N : Nat) (x0 : Nat) (n0 : Nat) (x1 : Int32) (g0 : x0 < 45) (i0 : bw_shC x0 = .inr (.inl (0, n0)))  (x3 : Int32)  (zz : bw_M)  (fu : Nat) (w : Int32 × bw_M) (h : flJ7_fill_53178_5 N x0 n0 x1 x3 fu w = some zz) : bw_At p l e rmJ7_fill_53178 s m args below meth c (MQ below (bw_QV bw_shC 45 D kT ρ zz) args s 0 0 (bw_A ρ 45)) bw_shC 45 D kT ρ 4 5 [(0, .ref (ρ x0)), (1, .int x1), (2, .int w.1), (3, .int x3)] [] w.2 :=
  bw_loop (r := zz) (fun w => bw_At p l e rmJ7_fill_53178 s m args below meth c (MQ below (bw_QV bw_shC 45 D kT ρ zz) args s 0 0 (bw_A ρ 45)) bw_shC 45 D kT ρ 4 5 [(0, .ref (ρ x0)), (1, .int x1), (2, .int w.1), (3, .int x3)] [] w.2) (fun kk hk w h => tJ7_fill_53178_5 C N x0 n0 x1 g0 i0 kk w.1 x3 w.2 zz hk h) fu w h
def fJ7_fill_53178 (N : Nat) (x0 : Nat) (n0 : Nat) (x1 : Int32) (M : bw_M) : Option (bw_M) :=
  bw_mv (0 : Int32) fun v1 =>
  bw_mv (Int32.ofNat n0) fun v2 =>
  flJ7_fill_53178_5 N x0 n0 x1 v2 N (v1, M)
theorem tJ7_fill_53178 (l : Launch) (N : Nat) (x0 : Nat) (n0 : Nat) (x1 : Int32) (g0 : x0 < 45) (i0 : bw_shC x0 = .inr (.inl (0, n0))) (M : bw_M) (zz : bw_M) (h : fJ7_fill_53178 N x0 n0 x1 M = some zz) : bw_CV l bw_shC 45 yJ7_fill_53178 cJ7_fill_53178 4 none rmJ7_fill_53178 (fun ρ => [.ref (ρ x0), .int x1]) M zz := by
  refine bw_inV (Lf := fun ρ => [(0, .ref (ρ x0)), (1, .int x1)]) cJ7_fill_53178 4 none RJ7 pn_J7 rfl (fun ρ => Nat.le_of_ble_eq_true rfl) (fun ρ => rfl) ?_
  intro p e s m args below meth c D kT ρ C
  unfold fJ7_fill_53178 at h
  refine bw_iconst (pc := 0) (v := (0 : Int32)) C dJ7_fill_53178_0 ic_0 ?_
  obtain ⟨v1, ev1, h⟩ := bw_mv_o h
  refine bw_nmI ev1 ?_
  refine bw_istore_n (pc := 1) (L' := [(2, .int v1), (0, .ref (ρ x0)), (1, .int x1)]) C dJ7_fill_53178_1 rfl (by decide) rfl ?_
  refine bw_aload_n (pc := 2) C 1 dJ7_fill_53178_2 rfl rfl ?_
  refine bw_alen (pc := 3) (q := x0) (v := (Int32.ofNat n0)) C g0 i0 (by decide) rfl dJ7_fill_53178_3 ?_
  obtain ⟨v2, ev2, h⟩ := bw_mv_o h
  refine bw_nmI ev2 ?_
  refine bw_istore_n (pc := 4) (L' := [(3, .int v2), (2, .int v1), (0, .ref (ρ x0)), (1, .int x1)]) C dJ7_fill_53178_4 rfl (by decide) rfl ?_
  refine bw_pick [2, 3, 1, 0] rfl ?_
  exact tlJ7_fill_53178_5 C N x0 n0 x1 g0 i0 v2 zz N (v1, M) h
/-! X0_add -/
abbrev rmX0_add : Room := { frames := 0, cells := 0, slots := 0, locals := 0 }
theorem msX0_add : bw_MV yX0_add cX0_add 3 (some .boolean) RX0 2 := ⟨mw_339, mw_340, mw_4, mw_341, by decide +kernel⟩
def fX0_add_16 (x0 : Nat) (x1 : Int32) (x2 : Int32)   (M : bw_M) : Option (Int32 × bw_M) :=
  some ((0 : Int32), M)
theorem tX0_add_16 {p : Program} {l : Launch} {e : Env} {s : State} {m : MethodId} {args : Array Value} {below : List Frame} {meth : Method} {c : Code} {D : va_G} {kT : Nat → ClassId} {ρ : Nat → Nat} (C : bw_Cx p s m args meth c cX0_add 3 RX0 45 D kT ρ (some .boolean)) (x0 : Nat) (x1 : Int32) (x2 : Int32) (g0 : bw_isD x0)   (M : bw_M) (rr : Int32) (zz : bw_M)  (h : fX0_add_16 x0 x1 x2 M = some (rr, zz)) : bw_At p l e rmX0_add s m args below meth c (MQ below (bw_QI bw_shC 45 D kT ρ rr zz) args s 0 0 (bw_A ρ 45)) bw_shC 45 D kT ρ 3 16 [(0, .ref (ρ x0)), (1, .int x1), (2, .int x2)] [] M := by
  unfold fX0_add_16 at h
  refine bw_iconst (pc := 16) (v := (0 : Int32)) C dX0_add_16 ic_0 ?_
  exact bw_iretz (pc := 17) C nz_0 dX0_add_17 h
def fX0_add (x0 : Nat) (x1 : Int32) (x2 : Int32) (M : bw_M) : Option (Int32 × bw_M) :=
  if (M.1 x0 2) < 0 then
  fX0_add_16 x0 x1 x2 M
  else
  if (M.1 x0 2) < (40 : Int32) then
  bw_wr M (x0 + 1) 40 (M.1 x0 2) x1 fun M1 =>
  bw_wr M1 (x0 + 2) 40 (M1.1 x0 2) x2 fun M2 =>
  bw_mv (bw_pI M2 x0 2 ((M2.1 x0 2) + (1 : Int32))) fun M3 =>
  some ((1 : Int32), M3)
  else
  fX0_add_16 x0 x1 x2 M
theorem tX0_add (l : Launch) (x0 : Nat) (x1 : Int32) (x2 : Int32) (g0 : bw_isD x0) (M : bw_M) (rr : Int32) (zz : bw_M) (h : fX0_add x0 x1 x2 M = some (rr, zz)) : bw_CI l bw_shC 45 yX0_add cX0_add 3 (some .boolean) rmX0_add (fun ρ => [.ref (ρ x0), .int x1, .int x2]) M rr zz := by
  refine bw_inI (Lf := fun ρ => [(0, .ref (ρ x0)), (1, .int x1), (2, .int x2)]) cX0_add 3 (some .boolean) RX0 pn_X0 rfl (fun ρ => Nat.le_of_ble_eq_true rfl) (fun ρ => rfl) ?_
  intro p e s m args below meth c D kT ρ C
  unfold fX0_add at h
  refine bw_aload_n (pc := 0) C 0 dX0_add_0 rfl rfl ?_
  refine bw_getI (pc := 1) (q := x0) (k0 := 2) C (ltC_D g0) (shC_D g0) rfl inX0 mw_109 (by decide) rfl dX0_add_1 ?_
  refine bw_if_lt (pc := 4) C 16 dX0_add_4 (by decide) h (fun h => ?_) (fun h => ?_)
  · refine bw_pick [0, 1, 2] rfl ?_
    exact tX0_add_16 C x0 x1 x2 g0 M rr zz h
  · refine bw_aload_n (pc := 7) C 0 dX0_add_7 rfl rfl ?_
    refine bw_getI (pc := 8) (q := x0) (k0 := 2) C (ltC_D g0) (shC_D g0) rfl inX0 mw_109 (by decide) rfl dX0_add_8 ?_
    refine bw_bipush (pc := 11) (v := (40 : Int32)) C dX0_add_11 bi_40 ?_
    refine bw_icmp_lt (pc := 13) C 18 dX0_add_13 (by decide) h (fun h => ?_) (fun h => ?_)
    · refine bw_aload_n (pc := 18) C 0 dX0_add_18 rfl rfl ?_
      refine bw_getR (pc := 19) (q := x0) (k0 := 0) C (ltC_D g0) (shC_D g0) rfl inX0 mw_105 (by decide) rfl dX0_add_19 ?_
      refine bw_aload_n (pc := 22) C 0 dX0_add_22 rfl rfl ?_
      refine bw_getI (pc := 23) (q := x0) (k0 := 2) C (ltC_D g0) (shC_D g0) rfl inX0 mw_109 (by decide) rfl dX0_add_23 ?_
      refine bw_iload_n (pc := 26) C 1 dX0_add_26 rfl rfl ?_
      obtain ⟨qM1, M1, eM1, h⟩ := bw_wr_o h
      refine bw_iast (pc := 27) (q := (x0 + 1)) C (ltC_D1 g0) (shC_D1 g0) qM1 eM1 dX0_add_27 ?_
      refine bw_aload_n (pc := 28) C 0 dX0_add_28 rfl rfl ?_
      refine bw_getR (pc := 29) (q := x0) (k0 := 1) C (ltC_D g0) (shC_D g0) rfl inX0 mw_107 (by decide) rfl dX0_add_29 ?_
      refine bw_aload_n (pc := 32) C 0 dX0_add_32 rfl rfl ?_
      refine bw_getI (pc := 33) (q := x0) (k0 := 2) C (ltC_D g0) (shC_D g0) rfl inX0 mw_109 (by decide) rfl dX0_add_33 ?_
      refine bw_iload_n (pc := 36) C 2 dX0_add_36 rfl rfl ?_
      obtain ⟨qM2, M2, eM2, h⟩ := bw_wr_o h
      refine bw_iast (pc := 37) (q := (x0 + 2)) C (ltC_D2 g0) (shC_D2 g0) qM2 eM2 dX0_add_37 ?_
      refine bw_aload_n (pc := 38) C 0 dX0_add_38 rfl rfl ?_
      refine bw_dup (pc := 39) C dX0_add_39 rfl ?_
      refine bw_getI (pc := 40) (q := x0) (k0 := 2) C (ltC_D g0) (shC_D g0) rfl inX0 mw_109 (by decide) rfl dX0_add_40 ?_
      refine bw_iconst (pc := 43) (v := (1 : Int32)) C dX0_add_43 ic_1 ?_
      refine bw_iadd (pc := 44) C dX0_add_44 ?_
      obtain ⟨M3, eM3, h⟩ := bw_mv_o h
      refine bw_putI (pc := 45) (q := x0) (k0 := 2) C (ltC_D g0) (shC_D g0) rfl inX0 mw_109 (by decide) tyX0 tyX0_ok nmX0 rfl rfl rfl eM3 rfl rfl dX0_add_45 ?_
      refine bw_iconst (pc := 48) (v := (1 : Int32)) C dX0_add_48 ic_1 ?_
      exact bw_iretz (pc := 49) C nz_1 dX0_add_49 h
    · refine bw_pick [0, 1, 2] rfl ?_
      exact tX0_add_16 C x0 x1 x2 g0 M rr zz h
/-! X0_become -/
abbrev rmX0_become : Room := { frames := 1, cells := 0, slots := 0, locals := 26 }
theorem msX0_become : bw_MV yX0_become cX0_become 2 none RX0 1 := ⟨mw_400, mw_401, mw_4, mw_402, by decide +kernel⟩
def fX0_become (x0 : Nat) (x1 : Nat) (M : bw_M) : Option (bw_M) :=
  bw_mv (bw_pI M x0 2 (M.1 x1 2)) fun M1 =>
  bw_cp M1 (x1 + 1) 40 (0 : Int32) (x0 + 1) 40 (0 : Int32) (40 : Int32) fun M2 =>
  bw_cp M2 (x1 + 2) 40 (0 : Int32) (x0 + 2) 40 (0 : Int32) (40 : Int32) fun M3 =>
  some M3
theorem tX0_become (l : Launch) (x0 : Nat) (x1 : Nat) (g0 : bw_isD x0) (g1 : bw_isD x1) (M : bw_M) (zz : bw_M) (h : fX0_become x0 x1 M = some zz) : bw_CV l bw_shC 45 yX0_become cX0_become 2 none rmX0_become (fun ρ => [.ref (ρ x0), .ref (ρ x1)]) M zz := by
  refine bw_inV (Lf := fun ρ => [(0, .ref (ρ x0)), (1, .ref (ρ x1))]) cX0_become 2 none RX0 pn_X0 rfl (fun ρ => Nat.le_of_ble_eq_true rfl) (fun ρ => rfl) ?_
  intro p e s m args below meth c D kT ρ C
  unfold fX0_become at h
  refine bw_aload_n (pc := 0) C 0 dX0_become_0 rfl rfl ?_
  refine bw_aload_n (pc := 1) C 1 dX0_become_1 rfl rfl ?_
  refine bw_getI (pc := 2) (q := x1) (k0 := 2) C (ltC_D g1) (shC_D g1) rfl inX0 mw_109 (by decide) rfl dX0_become_2 ?_
  obtain ⟨M1, eM1, h⟩ := bw_mv_o h
  refine bw_putI (pc := 5) (q := x0) (k0 := 2) C (ltC_D g0) (shC_D g0) rfl inX0 mw_109 (by decide) tyX0 tyX0_ok nmX0 rfl rfl rfl eM1 rfl rfl dX0_become_5 ?_
  refine bw_aload_n (pc := 8) C 1 dX0_become_8 rfl rfl ?_
  refine bw_getR (pc := 9) (q := x1) (k0 := 0) C (ltC_D g1) (shC_D g1) rfl inX0 mw_105 (by decide) rfl dX0_become_9 ?_
  refine bw_iconst (pc := 12) (v := (0 : Int32)) C dX0_become_12 ic_0 ?_
  refine bw_aload_n (pc := 13) C 0 dX0_become_13 rfl rfl ?_
  refine bw_getR (pc := 14) (q := x0) (k0 := 0) C (ltC_D g0) (shC_D g0) rfl inX0 mw_105 (by decide) rfl dX0_become_14 ?_
  refine bw_iconst (pc := 17) (v := (0 : Int32)) C dX0_become_17 ic_0 ?_
  refine bw_bipush (pc := 18) (v := (40 : Int32)) C dX0_become_18 bi_40 ?_
  obtain ⟨qM2, M2, eM2, h⟩ := bw_cp_o h
  refine bw_acopy (pc := 20) (qs := (x1 + 1)) (qd := (x0 + 1)) C (ltC_D1 g1) (ltC_D1 g0) (shC_D1 g1) (shC_D1 g0) qM2 eM2 mw_403 mw_215 mw_214 mw_7 (Nat.le_of_ble_eq_true rfl) (Nat.le_of_ble_eq_true rfl) dX0_become_20 ?_
  refine bw_aload_n (pc := 23) C 1 dX0_become_23 rfl rfl ?_
  refine bw_getR (pc := 24) (q := x1) (k0 := 1) C (ltC_D g1) (shC_D g1) rfl inX0 mw_107 (by decide) rfl dX0_become_24 ?_
  refine bw_iconst (pc := 27) (v := (0 : Int32)) C dX0_become_27 ic_0 ?_
  refine bw_aload_n (pc := 28) C 0 dX0_become_28 rfl rfl ?_
  refine bw_getR (pc := 29) (q := x0) (k0 := 1) C (ltC_D g0) (shC_D g0) rfl inX0 mw_107 (by decide) rfl dX0_become_29 ?_
  refine bw_iconst (pc := 32) (v := (0 : Int32)) C dX0_become_32 ic_0 ?_
  refine bw_bipush (pc := 33) (v := (40 : Int32)) C dX0_become_33 bi_40 ?_
  obtain ⟨qM3, M3, eM3, h⟩ := bw_cp_o h
  refine bw_acopy (pc := 35) (qs := (x1 + 2)) (qd := (x0 + 2)) C (ltC_D2 g1) (ltC_D2 g0) (shC_D2 g1) (shC_D2 g0) qM3 eM3 mw_403 mw_215 mw_214 mw_7 (Nat.le_of_ble_eq_true rfl) (Nat.le_of_ble_eq_true rfl) dX0_become_35 ?_
  exact bw_vreti (pc := 38) C dX0_become_38 h
/-! X1_hoursToRest -/
abbrev rmX1_hoursToRest : Room := { frames := 0, cells := 0, slots := 0, locals := 0 }
theorem msX1_hoursToRest : bw_MS yX1_hoursToRest cX1_hoursToRest 1 (some .int) 1 := ⟨mw_324, mw_8, mw_325, by decide +kernel⟩
def fX1_hoursToRest (x0 : Int32)  : Option (Int32) :=
  some ((2 : Int32) - (x0 - x0 / (3 : Int32) * (3 : Int32)))
theorem tX1_hoursToRest (l : Launch) (x0 : Int32)  (M : bw_M) (rr : Int32) (h : fX1_hoursToRest x0 = some rr) : bw_CI l bw_shC 45 yX1_hoursToRest cX1_hoursToRest 1 (some .int) rmX1_hoursToRest (fun ρ => [.int x0]) M rr M := by
  refine bw_inI (Lf := fun ρ => [(0, .int x0)]) cX1_hoursToRest 1 (some .int) RX1 pn_X1 rfl (fun ρ => Nat.le_of_ble_eq_true rfl) (fun ρ => rfl) ?_
  intro p e s m args below meth c D kT ρ C
  unfold fX1_hoursToRest at h
  refine bw_iconst (pc := 0) (v := (2 : Int32)) C dX1_hoursToRest_0 ic_2 ?_
  refine bw_iload_n (pc := 1) C 0 dX1_hoursToRest_1 rfl rfl ?_
  refine bw_iconst (pc := 2) (v := (3 : Int32)) C dX1_hoursToRest_2 ic_3 ?_
  refine bw_irem (pc := 3) C dX1_hoursToRest_3 (by decide) ?_
  refine bw_isub (pc := 4) C dX1_hoursToRest_4 ?_
  exact bw_ireti (pc := 5) C dX1_hoursToRest_5 (bw_pr M h)
/-! X1_isOf -/
abbrev rmX1_isOf : Room := { frames := 0, cells := 0, slots := 0, locals := 0 }
theorem msX1_isOf : bw_MS yX1_isOf cX1_isOf 2 (some .boolean) 2 := ⟨mw_318, mw_8, mw_319, by decide +kernel⟩
def fX1_isOf_49 (x0 : Int32) (x1 : Int32)  (s0 : Int32)  : Option (Int32) :=
  bw_ck (bw_isb s0) (some s0)
theorem tX1_isOf_49 {p : Program} {l : Launch} {e : Env} {s : State} {m : MethodId} {args : Array Value} {below : List Frame} {meth : Method} {c : Code} {D : va_G} {kT : Nat → ClassId} {ρ : Nat → Nat} (C : bw_Cx p s m args meth c cX1_isOf 2 RX1 45 D kT ρ (some .boolean)) (x0 : Int32) (x1 : Int32)   (s0 : Int32) (M : bw_M) (rr : Int32)  (h : fX1_isOf_49 x0 x1 s0 = some rr) : bw_At p l e rmX1_isOf s m args below meth c (MQ below (bw_QI bw_shC 45 D kT ρ rr M) args s 0 0 (bw_A ρ 45)) bw_shC 45 D kT ρ 2 49 [(0, .int x0), (1, .int x1)] [.int s0] M := by
  unfold fX1_isOf_49 at h
  obtain ⟨q3, h⟩ := bw_ck_o h
  exact bw_iretz (pc := 49) C (nz_b q3) dX1_isOf_49 (bw_pr M h)
def fX1_isOf_44 (x0 : Int32) (x1 : Int32)    : Option (Int32) :=
  fX1_isOf_49 x0 x1 (1 : Int32)
theorem tX1_isOf_44 {p : Program} {l : Launch} {e : Env} {s : State} {m : MethodId} {args : Array Value} {below : List Frame} {meth : Method} {c : Code} {D : va_G} {kT : Nat → ClassId} {ρ : Nat → Nat} (C : bw_Cx p s m args meth c cX1_isOf 2 RX1 45 D kT ρ (some .boolean)) (x0 : Int32) (x1 : Int32)    (M : bw_M) (rr : Int32)  (h : fX1_isOf_44 x0 x1 = some rr) : bw_At p l e rmX1_isOf s m args below meth c (MQ below (bw_QI bw_shC 45 D kT ρ rr M) args s 0 0 (bw_A ρ 45)) bw_shC 45 D kT ρ 2 44 [(0, .int x0), (1, .int x1)] [] M := by
  unfold fX1_isOf_44 at h
  refine bw_iconst (pc := 44) (v := (1 : Int32)) C dX1_isOf_44 ic_1 ?_
  refine bw_goto (pc := 45) C 49 dX1_isOf_45 (by decide) ?_
  refine bw_pick [0, 1] rfl ?_
  exact tX1_isOf_49 C x0 x1 (1 : Int32) M rr h
def fX1_isOf_65 (x0 : Int32) (x1 : Int32)  (s0 : Int32)  : Option (Int32) :=
  bw_ck (bw_isb s0) (some s0)
theorem tX1_isOf_65 {p : Program} {l : Launch} {e : Env} {s : State} {m : MethodId} {args : Array Value} {below : List Frame} {meth : Method} {c : Code} {D : va_G} {kT : Nat → ClassId} {ρ : Nat → Nat} (C : bw_Cx p s m args meth c cX1_isOf 2 RX1 45 D kT ρ (some .boolean)) (x0 : Int32) (x1 : Int32)   (s0 : Int32) (M : bw_M) (rr : Int32)  (h : fX1_isOf_65 x0 x1 s0 = some rr) : bw_At p l e rmX1_isOf s m args below meth c (MQ below (bw_QI bw_shC 45 D kT ρ rr M) args s 0 0 (bw_A ρ 45)) bw_shC 45 D kT ρ 2 65 [(0, .int x0), (1, .int x1)] [.int s0] M := by
  unfold fX1_isOf_65 at h
  obtain ⟨q5, h⟩ := bw_ck_o h
  exact bw_iretz (pc := 65) C (nz_b q5) dX1_isOf_65 (bw_pr M h)
def fX1_isOf_60 (x0 : Int32) (x1 : Int32)    : Option (Int32) :=
  fX1_isOf_65 x0 x1 (1 : Int32)
theorem tX1_isOf_60 {p : Program} {l : Launch} {e : Env} {s : State} {m : MethodId} {args : Array Value} {below : List Frame} {meth : Method} {c : Code} {D : va_G} {kT : Nat → ClassId} {ρ : Nat → Nat} (C : bw_Cx p s m args meth c cX1_isOf 2 RX1 45 D kT ρ (some .boolean)) (x0 : Int32) (x1 : Int32)    (M : bw_M) (rr : Int32)  (h : fX1_isOf_60 x0 x1 = some rr) : bw_At p l e rmX1_isOf s m args below meth c (MQ below (bw_QI bw_shC 45 D kT ρ rr M) args s 0 0 (bw_A ρ 45)) bw_shC 45 D kT ρ 2 60 [(0, .int x0), (1, .int x1)] [] M := by
  unfold fX1_isOf_60 at h
  refine bw_iconst (pc := 60) (v := (1 : Int32)) C dX1_isOf_60 ic_1 ?_
  refine bw_goto (pc := 61) C 65 dX1_isOf_61 (by decide) ?_
  refine bw_pick [0, 1] rfl ?_
  exact tX1_isOf_65 C x0 x1 (1 : Int32) M rr h
def fX1_isOf_76 (x0 : Int32) (x1 : Int32)  (s0 : Int32)  : Option (Int32) :=
  bw_ck (bw_isb s0) (some s0)
theorem tX1_isOf_76 {p : Program} {l : Launch} {e : Env} {s : State} {m : MethodId} {args : Array Value} {below : List Frame} {meth : Method} {c : Code} {D : va_G} {kT : Nat → ClassId} {ρ : Nat → Nat} (C : bw_Cx p s m args meth c cX1_isOf 2 RX1 45 D kT ρ (some .boolean)) (x0 : Int32) (x1 : Int32)   (s0 : Int32) (M : bw_M) (rr : Int32)  (h : fX1_isOf_76 x0 x1 s0 = some rr) : bw_At p l e rmX1_isOf s m args below meth c (MQ below (bw_QI bw_shC 45 D kT ρ rr M) args s 0 0 (bw_A ρ 45)) bw_shC 45 D kT ρ 2 76 [(0, .int x0), (1, .int x1)] [.int s0] M := by
  unfold fX1_isOf_76 at h
  obtain ⟨q7, h⟩ := bw_ck_o h
  exact bw_iretz (pc := 76) C (nz_b q7) dX1_isOf_76 (bw_pr M h)
def fX1_isOf (x0 : Int32) (x1 : Int32)  : Option (Int32) :=
  if x1 = (0 : Int32) then
  some (1 : Int32)
  else if x1 = (1 : Int32) then
  if x0 = (1 : Int32) then
  fX1_isOf_44 x0 x1
  else
  if x0 = (4 : Int32) then
  fX1_isOf_44 x0 x1
  else
  fX1_isOf_49 x0 x1 (0 : Int32)
  else if x1 = (3 : Int32) then
  if x0 = (3 : Int32) then
  fX1_isOf_60 x0 x1
  else
  if x0 = (5 : Int32) then
  fX1_isOf_60 x0 x1
  else
  fX1_isOf_65 x0 x1 (0 : Int32)
  else if x1 = (2 : Int32) then
  if x0 = x1 then
  fX1_isOf_76 x0 x1 (1 : Int32)
  else
  fX1_isOf_76 x0 x1 (0 : Int32)
  else 
  if x0 = x1 then
  fX1_isOf_76 x0 x1 (1 : Int32)
  else
  fX1_isOf_76 x0 x1 (0 : Int32)
theorem tX1_isOf (l : Launch) (x0 : Int32) (x1 : Int32)  (M : bw_M) (rr : Int32) (h : fX1_isOf x0 x1 = some rr) : bw_CI l bw_shC 45 yX1_isOf cX1_isOf 2 (some .boolean) rmX1_isOf (fun ρ => [.int x0, .int x1]) M rr M := by
  refine bw_inI (Lf := fun ρ => [(0, .int x0), (1, .int x1)]) cX1_isOf 2 (some .boolean) RX1 pn_X1 rfl (fun ρ => Nat.le_of_ble_eq_true rfl) (fun ρ => rfl) ?_
  intro p e s m args below meth c D kT ρ C
  unfold fX1_isOf at h
  refine bw_iload_n (pc := 0) C 1 dX1_isOf_0 rfl rfl ?_
  refine bw_swc (pc := 1) C (0 : Int32) h (fun h => ?_) (fun q1 h => ?_)
  · refine bw_swi (pc := 1) C 32 dX1_isOf_1 (by decide) (by decide) rfl (by decide) ?_
    refine bw_iconst (pc := 32) (v := (1 : Int32)) C dX1_isOf_32 ic_1 ?_
    exact bw_iretz (pc := 33) C nz_1 dX1_isOf_33 (bw_pr M h)
  refine bw_swc (pc := 1) C (1 : Int32) h (fun h => ?_) (fun q2 h => ?_)
  · refine bw_swi (pc := 1) C 34 dX1_isOf_1 (by decide) (by decide) rfl (by decide) ?_
    refine bw_iload_n (pc := 34) C 0 dX1_isOf_34 rfl rfl ?_
    refine bw_iconst (pc := 35) (v := (1 : Int32)) C dX1_isOf_35 ic_1 ?_
    refine bw_icmp_eq (pc := 36) C 44 dX1_isOf_36 (by decide) h (fun h => ?_) (fun h => ?_)
    · refine bw_pick [0, 1] rfl ?_
      exact tX1_isOf_44 C x0 x1 M rr h
    · refine bw_iload_n (pc := 39) C 0 dX1_isOf_39 rfl rfl ?_
      refine bw_iconst (pc := 40) (v := (4 : Int32)) C dX1_isOf_40 ic_4 ?_
      refine bw_icmp_ne (pc := 41) C 48 dX1_isOf_41 (by decide) h (fun h => ?_) (fun h => ?_)
      · refine bw_iconst (pc := 48) (v := (0 : Int32)) C dX1_isOf_48 ic_0 ?_
        refine bw_pick [0, 1] rfl ?_
        exact tX1_isOf_49 C x0 x1 (0 : Int32) M rr h
      · refine bw_pick [0, 1] rfl ?_
        exact tX1_isOf_44 C x0 x1 M rr h
  refine bw_swc (pc := 1) C (3 : Int32) h (fun h => ?_) (fun q4 h => ?_)
  · refine bw_swi (pc := 1) C 50 dX1_isOf_1 (by decide) (by decide) rfl (by decide) ?_
    refine bw_iload_n (pc := 50) C 0 dX1_isOf_50 rfl rfl ?_
    refine bw_iconst (pc := 51) (v := (3 : Int32)) C dX1_isOf_51 ic_3 ?_
    refine bw_icmp_eq (pc := 52) C 60 dX1_isOf_52 (by decide) h (fun h => ?_) (fun h => ?_)
    · refine bw_pick [0, 1] rfl ?_
      exact tX1_isOf_60 C x0 x1 M rr h
    · refine bw_iload_n (pc := 55) C 0 dX1_isOf_55 rfl rfl ?_
      refine bw_iconst (pc := 56) (v := (5 : Int32)) C dX1_isOf_56 ic_5 ?_
      refine bw_icmp_ne (pc := 57) C 64 dX1_isOf_57 (by decide) h (fun h => ?_) (fun h => ?_)
      · refine bw_iconst (pc := 64) (v := (0 : Int32)) C dX1_isOf_64 ic_0 ?_
        refine bw_pick [0, 1] rfl ?_
        exact tX1_isOf_65 C x0 x1 (0 : Int32) M rr h
      · refine bw_pick [0, 1] rfl ?_
        exact tX1_isOf_60 C x0 x1 M rr h
  refine bw_swc (pc := 1) C (2 : Int32) h (fun h => ?_) (fun q6 h => ?_)
  · refine bw_swi (pc := 1) C 66 dX1_isOf_1 (by decide) (by decide) rfl (by decide) ?_
    refine bw_iload_n (pc := 66) C 0 dX1_isOf_66 rfl rfl ?_
    refine bw_iload_n (pc := 67) C 1 dX1_isOf_67 rfl rfl ?_
    refine bw_icmp_ne (pc := 68) C 75 dX1_isOf_68 (by decide) h (fun h => ?_) (fun h => ?_)
    · refine bw_iconst (pc := 75) (v := (0 : Int32)) C dX1_isOf_75 ic_0 ?_
      refine bw_pick [0, 1] rfl ?_
      exact tX1_isOf_76 C x0 x1 (0 : Int32) M rr h
    · refine bw_iconst (pc := 71) (v := (1 : Int32)) C dX1_isOf_71 ic_1 ?_
      refine bw_goto (pc := 72) C 76 dX1_isOf_72 (by decide) ?_
      refine bw_pick [0, 1] rfl ?_
      exact tX1_isOf_76 C x0 x1 (1 : Int32) M rr h
  have ho : (x1).toInt < 0 ∨ 3 < (x1).toInt := bw_sw_out 4 (by decide) (by decide) (by decide) (fun j hj => by
    match j, hj with
    | 0, _ => exact q1
    | 1, _ => exact q2
    | 2, _ => exact q6
    | 3, _ => exact q4
    | j + 4, hj => exact absurd hj (by omega))
  refine bw_swo (pc := 1) C 66 dX1_isOf_1 ho (by decide) ?_
  refine bw_iload_n (pc := 66) C 0 dX1_isOf_66 rfl rfl ?_
  refine bw_iload_n (pc := 67) C 1 dX1_isOf_67 rfl rfl ?_
  refine bw_icmp_ne (pc := 68) C 75 dX1_isOf_68 (by decide) h (fun h => ?_) (fun h => ?_)
  · refine bw_iconst (pc := 75) (v := (0 : Int32)) C dX1_isOf_75 ic_0 ?_
    refine bw_pick [0, 1] rfl ?_
    exact tX1_isOf_76 C x0 x1 (0 : Int32) M rr h
  · refine bw_iconst (pc := 71) (v := (1 : Int32)) C dX1_isOf_71 ic_1 ?_
    refine bw_goto (pc := 72) C 76 dX1_isOf_72 (by decide) ?_
    refine bw_pick [0, 1] rfl ?_
    exact tX1_isOf_76 C x0 x1 (1 : Int32) M rr h
/-! X1_keeps -/
abbrev rmX1_keeps : Room := { frames := 1, cells := 0, slots := 0, locals := 21 }
theorem msX1_keeps : bw_MS yX1_keeps cX1_keeps 1 (some .int) 1 := ⟨mw_360, mw_8, mw_361, by decide +kernel⟩
def fX1_keeps_13 (x0 : Int32)  (s0 : Int32)  : Option (Int32) :=
  some s0
theorem tX1_keeps_13 {p : Program} {l : Launch} {e : Env} {s : State} {m : MethodId} {args : Array Value} {below : List Frame} {meth : Method} {c : Code} {D : va_G} {kT : Nat → ClassId} {ρ : Nat → Nat} (C : bw_Cx p s m args meth c cX1_keeps 1 RX1 45 D kT ρ (some .int)) (x0 : Int32)   (s0 : Int32) (M : bw_M) (rr : Int32)  (h : fX1_keeps_13 x0 s0 = some rr) : bw_At p l e rmX1_keeps s m args below meth c (MQ below (bw_QI bw_shC 45 D kT ρ rr M) args s 0 0 (bw_A ρ 45)) bw_shC 45 D kT ρ 1 13 [(0, .int x0)] [.int s0] M := by
  unfold fX1_keeps_13 at h
  exact bw_ireti (pc := 13) C dX1_keeps_13 (bw_pr M h)
def fX1_keeps (x0 : Int32)  : Option (Int32) :=
  bw_cl (fX1_isOf x0 (1 : Int32)) fun v1 =>
  if v1 = 0 then
  fX1_keeps_13 x0 (0 : Int32)
  else
  fX1_keeps_13 x0 (1 : Int32)
theorem tX1_keeps (l : Launch) (x0 : Int32)  (M : bw_M) (rr : Int32) (h : fX1_keeps x0 = some rr) : bw_CI l bw_shC 45 yX1_keeps cX1_keeps 1 (some .int) rmX1_keeps (fun ρ => [.int x0]) M rr M := by
  refine bw_inI (Lf := fun ρ => [(0, .int x0)]) cX1_keeps 1 (some .int) RX1 pn_X1 rfl (fun ρ => Nat.le_of_ble_eq_true rfl) (fun ρ => rfl) ?_
  intro p e s m args below meth c D kT ρ C
  unfold fX1_keeps at h
  refine bw_iload_n (pc := 0) C 0 dX1_keeps_0 rfl rfl ?_
  refine bw_iconst (pc := 1) (v := (1 : Int32)) C dX1_keeps_1 ic_1 ?_
  obtain ⟨v1, ev1, h⟩ := bw_cl_o h
  refine bw_cSi (pc := 2) (As := [.int x0, .int (1 : Int32)]) (rest := []) C (tX1_isOf l x0 (1 : Int32) M v1 ev1) msX1_isOf mw_362 rfl rfl ⟨Nat.le_of_ble_eq_true rfl, Nat.le_of_ble_eq_true rfl⟩ rfl rfl rfl (Nat.le_of_ble_eq_true rfl) dX1_keeps_2 ?_
  refine bw_if_eq (pc := 5) C 12 dX1_keeps_5 (by decide) h (fun h => ?_) (fun h => ?_)
  · refine bw_iconst (pc := 12) (v := (0 : Int32)) C dX1_keeps_12 ic_0 ?_
    refine bw_pick [0] rfl ?_
    exact tX1_keeps_13 C x0 (0 : Int32) M rr h
  · refine bw_iconst (pc := 8) (v := (1 : Int32)) C dX1_keeps_8 ic_1 ?_
    refine bw_goto (pc := 9) C 13 dX1_keeps_9 (by decide) ?_
    refine bw_pick [0] rfl ?_
    exact tX1_keeps_13 C x0 (1 : Int32) M rr h
/-! X1_ofLetter -/
abbrev rmX1_ofLetter : Room := { frames := 0, cells := 0, slots := 0, locals := 0 }
theorem msX1_ofLetter : bw_MS yX1_ofLetter cX1_ofLetter 1 (some .int) 1 := ⟨mw_272, mw_8, mw_273, by decide +kernel⟩
def fX1_ofLetter (x0 : Int32)  : Option (Int32) :=
  if x0 = (98 : Int32) then
  some (2 : Int32)
  else if x0 = (108 : Int32) then
  some (5 : Int32)
  else if x0 = (111 : Int32) then
  some (4 : Int32)
  else if x0 = (112 : Int32) then
  some (0 : Int32)
  else if x0 = (115 : Int32) then
  some (1 : Int32)
  else if x0 = (116 : Int32) then
  some (3 : Int32)
  else if x0 = (99 : Int32) then
  some (-9 : Int32)
  else if x0 = (100 : Int32) then
  some (-9 : Int32)
  else if x0 = (101 : Int32) then
  some (-9 : Int32)
  else if x0 = (102 : Int32) then
  some (-9 : Int32)
  else if x0 = (103 : Int32) then
  some (-9 : Int32)
  else if x0 = (104 : Int32) then
  some (-9 : Int32)
  else if x0 = (105 : Int32) then
  some (-9 : Int32)
  else if x0 = (106 : Int32) then
  some (-9 : Int32)
  else if x0 = (107 : Int32) then
  some (-9 : Int32)
  else if x0 = (109 : Int32) then
  some (-9 : Int32)
  else if x0 = (110 : Int32) then
  some (-9 : Int32)
  else if x0 = (113 : Int32) then
  some (-9 : Int32)
  else if x0 = (114 : Int32) then
  some (-9 : Int32)
  else 
  some (-9 : Int32)
theorem tX1_ofLetter (l : Launch) (x0 : Int32)  (M : bw_M) (rr : Int32) (h : fX1_ofLetter x0 = some rr) : bw_CI l bw_shC 45 yX1_ofLetter cX1_ofLetter 1 (some .int) rmX1_ofLetter (fun ρ => [.int x0]) M rr M := by
  refine bw_inI (Lf := fun ρ => [(0, .int x0)]) cX1_ofLetter 1 (some .int) RX1 pn_X1 rfl (fun ρ => Nat.le_of_ble_eq_true rfl) (fun ρ => rfl) ?_
  intro p e s m args below meth c D kT ρ C
  unfold fX1_ofLetter at h
  refine bw_iload_n (pc := 0) C 0 dX1_ofLetter_0 rfl rfl ?_
  refine bw_swc (pc := 1) C (98 : Int32) h (fun h => ?_) (fun q1 h => ?_)
  · refine bw_swi (pc := 1) C 96 dX1_ofLetter_1 (by decide) (by decide) rfl (by decide) ?_
    refine bw_iconst (pc := 96) (v := (2 : Int32)) C dX1_ofLetter_96 ic_2 ?_
    exact bw_ireti (pc := 97) C dX1_ofLetter_97 (bw_pr M h)
  refine bw_swc (pc := 1) C (108 : Int32) h (fun h => ?_) (fun q2 h => ?_)
  · refine bw_swi (pc := 1) C 102 dX1_ofLetter_1 (by decide) (by decide) rfl (by decide) ?_
    refine bw_iconst (pc := 102) (v := (5 : Int32)) C dX1_ofLetter_102 ic_5 ?_
    exact bw_ireti (pc := 103) C dX1_ofLetter_103 (bw_pr M h)
  refine bw_swc (pc := 1) C (111 : Int32) h (fun h => ?_) (fun q3 h => ?_)
  · refine bw_swi (pc := 1) C 100 dX1_ofLetter_1 (by decide) (by decide) rfl (by decide) ?_
    refine bw_iconst (pc := 100) (v := (4 : Int32)) C dX1_ofLetter_100 ic_4 ?_
    exact bw_ireti (pc := 101) C dX1_ofLetter_101 (bw_pr M h)
  refine bw_swc (pc := 1) C (112 : Int32) h (fun h => ?_) (fun q4 h => ?_)
  · refine bw_swi (pc := 1) C 92 dX1_ofLetter_1 (by decide) (by decide) rfl (by decide) ?_
    refine bw_iconst (pc := 92) (v := (0 : Int32)) C dX1_ofLetter_92 ic_0 ?_
    exact bw_ireti (pc := 93) C dX1_ofLetter_93 (bw_pr M h)
  refine bw_swc (pc := 1) C (115 : Int32) h (fun h => ?_) (fun q5 h => ?_)
  · refine bw_swi (pc := 1) C 94 dX1_ofLetter_1 (by decide) (by decide) rfl (by decide) ?_
    refine bw_iconst (pc := 94) (v := (1 : Int32)) C dX1_ofLetter_94 ic_1 ?_
    exact bw_ireti (pc := 95) C dX1_ofLetter_95 (bw_pr M h)
  refine bw_swc (pc := 1) C (116 : Int32) h (fun h => ?_) (fun q6 h => ?_)
  · refine bw_swi (pc := 1) C 98 dX1_ofLetter_1 (by decide) (by decide) rfl (by decide) ?_
    refine bw_iconst (pc := 98) (v := (3 : Int32)) C dX1_ofLetter_98 ic_3 ?_
    exact bw_ireti (pc := 99) C dX1_ofLetter_99 (bw_pr M h)
  refine bw_swc (pc := 1) C (99 : Int32) h (fun h => ?_) (fun q7 h => ?_)
  · refine bw_swi (pc := 1) C 104 dX1_ofLetter_1 (by decide) (by decide) rfl (by decide) ?_
    refine bw_bipush (pc := 104) (v := (-9 : Int32)) C dX1_ofLetter_104 bi_m9 ?_
    exact bw_ireti (pc := 106) C dX1_ofLetter_106 (bw_pr M h)
  refine bw_swc (pc := 1) C (100 : Int32) h (fun h => ?_) (fun q8 h => ?_)
  · refine bw_swi (pc := 1) C 104 dX1_ofLetter_1 (by decide) (by decide) rfl (by decide) ?_
    refine bw_bipush (pc := 104) (v := (-9 : Int32)) C dX1_ofLetter_104 bi_m9 ?_
    exact bw_ireti (pc := 106) C dX1_ofLetter_106 (bw_pr M h)
  refine bw_swc (pc := 1) C (101 : Int32) h (fun h => ?_) (fun q9 h => ?_)
  · refine bw_swi (pc := 1) C 104 dX1_ofLetter_1 (by decide) (by decide) rfl (by decide) ?_
    refine bw_bipush (pc := 104) (v := (-9 : Int32)) C dX1_ofLetter_104 bi_m9 ?_
    exact bw_ireti (pc := 106) C dX1_ofLetter_106 (bw_pr M h)
  refine bw_swc (pc := 1) C (102 : Int32) h (fun h => ?_) (fun q10 h => ?_)
  · refine bw_swi (pc := 1) C 104 dX1_ofLetter_1 (by decide) (by decide) rfl (by decide) ?_
    refine bw_bipush (pc := 104) (v := (-9 : Int32)) C dX1_ofLetter_104 bi_m9 ?_
    exact bw_ireti (pc := 106) C dX1_ofLetter_106 (bw_pr M h)
  refine bw_swc (pc := 1) C (103 : Int32) h (fun h => ?_) (fun q11 h => ?_)
  · refine bw_swi (pc := 1) C 104 dX1_ofLetter_1 (by decide) (by decide) rfl (by decide) ?_
    refine bw_bipush (pc := 104) (v := (-9 : Int32)) C dX1_ofLetter_104 bi_m9 ?_
    exact bw_ireti (pc := 106) C dX1_ofLetter_106 (bw_pr M h)
  refine bw_swc (pc := 1) C (104 : Int32) h (fun h => ?_) (fun q12 h => ?_)
  · refine bw_swi (pc := 1) C 104 dX1_ofLetter_1 (by decide) (by decide) rfl (by decide) ?_
    refine bw_bipush (pc := 104) (v := (-9 : Int32)) C dX1_ofLetter_104 bi_m9 ?_
    exact bw_ireti (pc := 106) C dX1_ofLetter_106 (bw_pr M h)
  refine bw_swc (pc := 1) C (105 : Int32) h (fun h => ?_) (fun q13 h => ?_)
  · refine bw_swi (pc := 1) C 104 dX1_ofLetter_1 (by decide) (by decide) rfl (by decide) ?_
    refine bw_bipush (pc := 104) (v := (-9 : Int32)) C dX1_ofLetter_104 bi_m9 ?_
    exact bw_ireti (pc := 106) C dX1_ofLetter_106 (bw_pr M h)
  refine bw_swc (pc := 1) C (106 : Int32) h (fun h => ?_) (fun q14 h => ?_)
  · refine bw_swi (pc := 1) C 104 dX1_ofLetter_1 (by decide) (by decide) rfl (by decide) ?_
    refine bw_bipush (pc := 104) (v := (-9 : Int32)) C dX1_ofLetter_104 bi_m9 ?_
    exact bw_ireti (pc := 106) C dX1_ofLetter_106 (bw_pr M h)
  refine bw_swc (pc := 1) C (107 : Int32) h (fun h => ?_) (fun q15 h => ?_)
  · refine bw_swi (pc := 1) C 104 dX1_ofLetter_1 (by decide) (by decide) rfl (by decide) ?_
    refine bw_bipush (pc := 104) (v := (-9 : Int32)) C dX1_ofLetter_104 bi_m9 ?_
    exact bw_ireti (pc := 106) C dX1_ofLetter_106 (bw_pr M h)
  refine bw_swc (pc := 1) C (109 : Int32) h (fun h => ?_) (fun q16 h => ?_)
  · refine bw_swi (pc := 1) C 104 dX1_ofLetter_1 (by decide) (by decide) rfl (by decide) ?_
    refine bw_bipush (pc := 104) (v := (-9 : Int32)) C dX1_ofLetter_104 bi_m9 ?_
    exact bw_ireti (pc := 106) C dX1_ofLetter_106 (bw_pr M h)
  refine bw_swc (pc := 1) C (110 : Int32) h (fun h => ?_) (fun q17 h => ?_)
  · refine bw_swi (pc := 1) C 104 dX1_ofLetter_1 (by decide) (by decide) rfl (by decide) ?_
    refine bw_bipush (pc := 104) (v := (-9 : Int32)) C dX1_ofLetter_104 bi_m9 ?_
    exact bw_ireti (pc := 106) C dX1_ofLetter_106 (bw_pr M h)
  refine bw_swc (pc := 1) C (113 : Int32) h (fun h => ?_) (fun q18 h => ?_)
  · refine bw_swi (pc := 1) C 104 dX1_ofLetter_1 (by decide) (by decide) rfl (by decide) ?_
    refine bw_bipush (pc := 104) (v := (-9 : Int32)) C dX1_ofLetter_104 bi_m9 ?_
    exact bw_ireti (pc := 106) C dX1_ofLetter_106 (bw_pr M h)
  refine bw_swc (pc := 1) C (114 : Int32) h (fun h => ?_) (fun q19 h => ?_)
  · refine bw_swi (pc := 1) C 104 dX1_ofLetter_1 (by decide) (by decide) rfl (by decide) ?_
    refine bw_bipush (pc := 104) (v := (-9 : Int32)) C dX1_ofLetter_104 bi_m9 ?_
    exact bw_ireti (pc := 106) C dX1_ofLetter_106 (bw_pr M h)
  have ho : (x0).toInt < 98 ∨ 116 < (x0).toInt := bw_sw_out 19 (by decide) (by decide) (by decide) (fun j hj => by
    match j, hj with
    | 0, _ => exact q1
    | 1, _ => exact q7
    | 2, _ => exact q8
    | 3, _ => exact q9
    | 4, _ => exact q10
    | 5, _ => exact q11
    | 6, _ => exact q12
    | 7, _ => exact q13
    | 8, _ => exact q14
    | 9, _ => exact q15
    | 10, _ => exact q2
    | 11, _ => exact q16
    | 12, _ => exact q17
    | 13, _ => exact q3
    | 14, _ => exact q4
    | 15, _ => exact q18
    | 16, _ => exact q19
    | 17, _ => exact q5
    | 18, _ => exact q6
    | j + 19, hj => exact absurd hj (by omega))
  refine bw_swo (pc := 1) C 104 dX1_ofLetter_1 ho (by decide) ?_
  refine bw_bipush (pc := 104) (v := (-9 : Int32)) C dX1_ofLetter_104 bi_m9 ?_
  exact bw_ireti (pc := 106) C dX1_ofLetter_106 (bw_pr M h)
/-! X1_want -/
abbrev rmX1_want : Room := { frames := 0, cells := 0, slots := 0, locals := 0 }
theorem msX1_want : bw_MS yX1_want cX1_want 3 (some .int) 3 := ⟨mw_303, mw_8, mw_304, by decide +kernel⟩
def fX1_want_50 (x0 : Int32) (x1 : Int32) (x2 : Int32)  (s0 : Int32)  : Option (Int32) :=
  some s0
theorem tX1_want_50 {p : Program} {l : Launch} {e : Env} {s : State} {m : MethodId} {args : Array Value} {below : List Frame} {meth : Method} {c : Code} {D : va_G} {kT : Nat → ClassId} {ρ : Nat → Nat} (C : bw_Cx p s m args meth c cX1_want 3 RX1 45 D kT ρ (some .int)) (x0 : Int32) (x1 : Int32) (x2 : Int32)   (s0 : Int32) (M : bw_M) (rr : Int32)  (h : fX1_want_50 x0 x1 x2 s0 = some rr) : bw_At p l e rmX1_want s m args below meth c (MQ below (bw_QI bw_shC 45 D kT ρ rr M) args s 0 0 (bw_A ρ 45)) bw_shC 45 D kT ρ 3 50 [(0, .int x0), (1, .int x1), (2, .int x2)] [.int s0] M := by
  unfold fX1_want_50 at h
  exact bw_ireti (pc := 50) C dX1_want_50 (bw_pr M h)
def fX1_want (x0 : Int32) (x1 : Int32) (x2 : Int32)  : Option (Int32) :=
  if x0 = (3 : Int32) then
  some (x1 + (1 : Int32))
  else if x0 = (4 : Int32) then
  if (x2 - x2 / (3 : Int32) * (3 : Int32)) = (2 : Int32) then
  fX1_want_50 x0 x1 x2 (0 : Int32)
  else
  fX1_want_50 x0 x1 x2 x1
  else if x0 = (5 : Int32) then
  some ((2 : Int32) * (x1 + (1 : Int32)))
  else 
  some x1
theorem tX1_want (l : Launch) (x0 : Int32) (x1 : Int32) (x2 : Int32)  (M : bw_M) (rr : Int32) (h : fX1_want x0 x1 x2 = some rr) : bw_CI l bw_shC 45 yX1_want cX1_want 3 (some .int) rmX1_want (fun ρ => [.int x0, .int x1, .int x2]) M rr M := by
  refine bw_inI (Lf := fun ρ => [(0, .int x0), (1, .int x1), (2, .int x2)]) cX1_want 3 (some .int) RX1 pn_X1 rfl (fun ρ => Nat.le_of_ble_eq_true rfl) (fun ρ => rfl) ?_
  intro p e s m args below meth c D kT ρ C
  unfold fX1_want at h
  refine bw_iload_n (pc := 0) C 0 dX1_want_0 rfl rfl ?_
  refine bw_swc (pc := 1) C (3 : Int32) h (fun h => ?_) (fun q1 h => ?_)
  · refine bw_swi (pc := 1) C 28 dX1_want_1 (by decide) (by decide) rfl (by decide) ?_
    refine bw_iload_n (pc := 28) C 1 dX1_want_28 rfl rfl ?_
    refine bw_iconst (pc := 29) (v := (1 : Int32)) C dX1_want_29 ic_1 ?_
    refine bw_iadd (pc := 30) C dX1_want_30 ?_
    exact bw_ireti (pc := 31) C dX1_want_31 (bw_pr M h)
  refine bw_swc (pc := 1) C (4 : Int32) h (fun h => ?_) (fun q2 h => ?_)
  · refine bw_swi (pc := 1) C 38 dX1_want_1 (by decide) (by decide) rfl (by decide) ?_
    refine bw_iload_n (pc := 38) C 2 dX1_want_38 rfl rfl ?_
    refine bw_iconst (pc := 39) (v := (3 : Int32)) C dX1_want_39 ic_3 ?_
    refine bw_irem (pc := 40) C dX1_want_40 (by decide) ?_
    refine bw_iconst (pc := 41) (v := (2 : Int32)) C dX1_want_41 ic_2 ?_
    refine bw_icmp_ne (pc := 42) C 49 dX1_want_42 (by decide) h (fun h => ?_) (fun h => ?_)
    · refine bw_iload_n (pc := 49) C 1 dX1_want_49 rfl rfl ?_
      refine bw_pick [0, 1, 2] rfl ?_
      exact tX1_want_50 C x0 x1 x2 x1 M rr h
    · refine bw_iconst (pc := 45) (v := (0 : Int32)) C dX1_want_45 ic_0 ?_
      refine bw_goto (pc := 46) C 50 dX1_want_46 (by decide) ?_
      refine bw_pick [0, 1, 2] rfl ?_
      exact tX1_want_50 C x0 x1 x2 (0 : Int32) M rr h
  refine bw_swc (pc := 1) C (5 : Int32) h (fun h => ?_) (fun q3 h => ?_)
  · refine bw_swi (pc := 1) C 32 dX1_want_1 (by decide) (by decide) rfl (by decide) ?_
    refine bw_iconst (pc := 32) (v := (2 : Int32)) C dX1_want_32 ic_2 ?_
    refine bw_iload_n (pc := 33) C 1 dX1_want_33 rfl rfl ?_
    refine bw_iconst (pc := 34) (v := (1 : Int32)) C dX1_want_34 ic_1 ?_
    refine bw_iadd (pc := 35) C dX1_want_35 ?_
    refine bw_imul (pc := 36) C dX1_want_36 ?_
    exact bw_ireti (pc := 37) C dX1_want_37 (bw_pr M h)
  have ho : (x0).toInt < 3 ∨ 5 < (x0).toInt := bw_sw_out 3 (by decide) (by decide) (by decide) (fun j hj => by
    match j, hj with
    | 0, _ => exact q1
    | 1, _ => exact q2
    | 2, _ => exact q3
    | j + 3, hj => exact absurd hj (by omega))
  refine bw_swo (pc := 1) C 51 dX1_want_1 ho (by decide) ?_
  refine bw_iload_n (pc := 51) C 1 dX1_want_51 rfl rfl ?_
  exact bw_ireti (pc := 52) C dX1_want_52 (bw_pr M h)
