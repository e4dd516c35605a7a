/-! Arrays.fill over one row; the constructors (written by wip/gen/cons.py) -/
def bw_sh1 (n : Nat) (_ : Nat) : bw_Sh := .inr (.inl (0, n))
theorem toJ7_fill_53178_5 {p : Program} {l : Launch} {e : Env} {s : State} {m : MethodId} {args : Array Value} {below : List Frame} {meth : Method} {c : Code} {D : va_G} {kT : Nat → ClassId} {ρ : Nat → Nat} (C : bw_Cx p s m args meth c cJ7_fill_53178 4 RJ7 1 D kT ρ none) (N : Nat) (x0 : Nat) (n0 : Nat) (x1 : Int32) (g0 : x0 < 1) (i0 : bw_sh1 n0 x0 = .inr (.inl (0, n0))) (k5 : Int32 × bw_M → Option (bw_M)) (x2 : Int32) (x3 : Int32) (M : bw_M) (zz : bw_M) (hk5 : ∀ z0, k5 z0 = some zz → bw_At p l e rmJ7_fill_53178 s m args below meth c (MQ below (bw_QV (bw_sh1 n0) 1 D kT ρ zz) args s 0 0 (bw_A ρ 1)) (bw_sh1 n0) 1 D kT ρ 4 5 [(0, .ref (ρ x0)), (1, .int x1), (2, .int z0.1), (3, .int x3)] [] z0.2) (h : fJ7_fill_53178_5 N x0 n0 x1 k5 x2 x3 M = some zz) : bw_At p l e rmJ7_fill_53178 s m args below meth c (MQ below (bw_QV (bw_sh1 n0) 1 D kT ρ zz) args s 0 0 (bw_A ρ 1)) (bw_sh1 n0) 1 D kT ρ 4 5 [(0, .ref (ρ x0)), (1, .int x1), (2, .int x2), (3, .int x3)] [] M := by
  unfold fJ7_fill_53178_5 at h
  refine bw_iload_n (pc := 5) C 2 dJ7_fill_53178_5 rfl rfl ?_
  refine bw_iload_n (pc := 6) C 3 dJ7_fill_53178_6 rfl rfl ?_
  refine bw_icmp_ge (pc := 7) C 20 dJ7_fill_53178_7 (by decide) h (fun h => ?_) (fun h => ?_)
  · exact bw_vreti (pc := 20) C dJ7_fill_53178_20 h
  · refine bw_aload_n (pc := 10) C 0 dJ7_fill_53178_10 rfl rfl ?_
    refine bw_iload_n (pc := 11) C 2 dJ7_fill_53178_11 rfl rfl ?_
    refine bw_iload_n (pc := 12) C 1 dJ7_fill_53178_12 rfl rfl ?_
    obtain ⟨qM3, M3, eM3, h⟩ := bw_wr_o h
    refine bw_iast (pc := 13) (q := x0) C g0 i0 qM3 eM3 dJ7_fill_53178_13 ?_
    obtain ⟨v4, ev4, h⟩ := bw_mv_o h
    refine bw_iinc (pc := 14) (x := v4) (L' := [(2, .int v4), (0, .ref (ρ x0)), (1, .int x1), (3, .int x3)]) C 2 dJ7_fill_53178_14 rfl ev4.symm (by decide) rfl ?_
    refine bw_goto (pc := 17) C 5 dJ7_fill_53178_17 (by decide) ?_
    refine bw_pick [1, 2, 0, 3] rfl ?_
    exact hk5 (v4, M3) h
theorem tolJ7_fill_53178_5 {p : Program} {l : Launch} {e : Env} {s : State} {m : MethodId} {args : Array Value} {below : List Frame} {meth : Method} {c : Code} {D : va_G} {kT : Nat → ClassId} {ρ : Nat → Nat} (C : bw_Cx p s m args meth c cJ7_fill_53178 4 RJ7 1 D kT ρ none) (N : Nat) (x0 : Nat) (n0 : Nat) (x1 : Int32) (g0 : x0 < 1) (i0 : bw_sh1 n0 x0 = .inr (.inl (0, n0)))  (x3 : Int32)  (zz : bw_M)  (fu : Nat) (w : Int32 × bw_M) (h : flJ7_fill_53178_5 N x0 n0 x1 x3 fu w = some zz) : bw_At p l e rmJ7_fill_53178 s m args below meth c (MQ below (bw_QV (bw_sh1 n0) 1 D kT ρ zz) args s 0 0 (bw_A ρ 1)) (bw_sh1 n0) 1 D kT ρ 4 5 [(0, .ref (ρ x0)), (1, .int x1), (2, .int w.1), (3, .int x3)] [] w.2 :=
  bw_loop (r := zz) (fun w => bw_At p l e rmJ7_fill_53178 s m args below meth c (MQ below (bw_QV (bw_sh1 n0) 1 D kT ρ zz) args s 0 0 (bw_A ρ 1)) (bw_sh1 n0) 1 D kT ρ 4 5 [(0, .ref (ρ x0)), (1, .int x1), (2, .int w.1), (3, .int x3)] [] w.2) (fun kk hk w h => toJ7_fill_53178_5 C N x0 n0 x1 g0 i0 kk w.1 x3 w.2 zz hk h) fu w h
theorem toJ7_fill_53178 (l : Launch) (N : Nat) (x0 : Nat) (n0 : Nat) (x1 : Int32) (g0 : x0 < 1) (i0 : bw_sh1 n0 x0 = .inr (.inl (0, n0))) (M : bw_M) (zz : bw_M) (h : fJ7_fill_53178 N x0 n0 x1 M = some zz) : bw_CV l (bw_sh1 n0) 1 yJ7_fill_53178 cJ7_fill_53178 4 none rmJ7_fill_53178 (fun ρ => [.ref (ρ x0), .int x1]) M zz := by
  refine bw_inV (Lf := fun ρ => [(0, .ref (ρ x0)), (1, .int x1)]) cJ7_fill_53178 4 none RJ7 pn_J7 rfl (fun ρ => Nat.le_of_ble_eq_true rfl) (fun ρ => rfl) ?_
  intro p e s m args below meth c D kT ρ C
  unfold fJ7_fill_53178 at h
  refine bw_iconst (pc := 0) (v := (0 : Int32)) C dJ7_fill_53178_0 ic_0 ?_
  obtain ⟨v1, ev1, h⟩ := bw_mv_o h
  refine bw_nmI ev1 ?_
  refine bw_istore_n (pc := 1) (L' := [(2, .int v1), (0, .ref (ρ x0)), (1, .int x1)]) C dJ7_fill_53178_1 rfl (by decide) rfl ?_
  refine bw_aload_n (pc := 2) C 1 dJ7_fill_53178_2 rfl rfl ?_
  refine bw_alen (pc := 3) (q := x0) (v := (Int32.ofNat n0)) C g0 i0 (by decide) rfl dJ7_fill_53178_3 ?_
  obtain ⟨v2, ev2, h⟩ := bw_mv_o h
  refine bw_nmI ev2 ?_
  refine bw_istore_n (pc := 4) (L' := [(3, .int v2), (2, .int v1), (0, .ref (ρ x0)), (1, .int x1)]) C dJ7_fill_53178_4 rfl (by decide) rfl ?_
  refine bw_pick [2, 3, 1, 0] rfl ?_
  exact tolJ7_fill_53178_5 C N x0 n0 x1 g0 i0 v2 zz N (v1, M) h
theorem gw_fill {p : Program} {l : Launch} {e : Env} {R : Room} {s : State} {m : MethodId} {args : Array Value} {below : List Frame} {meth : Method} {c : Code} {Q : State → Prop} {D : va_G} {kT : Nat → ClassId} {A : Nat → Prop} {cc : ByteArray} {nL : Nat} {own : String} {rt : Option FieldType} {pc : Nat} {L : List (Nat × Value)} {rest : List Value} {ws : va_W} {kc ks : Nat} (C : gw_Cx p s m args meth c cc nL own D kT A rt) (q0 : Nat) {a n ix : Nat} {f : Nat → Int32} {x : Int32} (he : ws[q0]? = some (a, .inl (kT 0, n, .inl f))) (hn : n < 2000) (hlk : Cond.methodLink own ix yJ7_fill_53178 ∈ bw_tbl) (hrm : 1 ≤ R.frames ∧ 23 ≤ R.locals) {ws' : va_W} (hw : ws.set q0 (a, .inl (kT 0, n, .inl (flF f 0 n x))) = ws') (hkc : kc ≤ R.cells) (hks : ks ≤ R.slots) (hro : (rest.map fun v => v.category).sum ≤ 8) (d : decode cc pc = .ok (.invokestatic ix, 3)) (k : gw_At p l e R s m args below meth c Q D A nL (pc + 3) L rest ws' kc ks) : gw_At p l e R s m args below meth c Q D A nL pc L (.int x :: .ref a :: rest) ws kc ks := by
  subst hw
  intro H locs ls hP hD hS hl
  have hfill : fJ7_fill_53178 2000 0 n x ((fun _ => f), (fun _ => 0), none) = some (bw_pA ((fun _ => f), (fun _ => 0), none) 0 (flF f 0 n x)) := fillI_eq (q := 0) (M := ((fun _ => f), (fun _ => 0), none)) (by omega) (by omega)
  have hM := toJ7_fill_53178 l 2000 0 n x (by decide) rfl ((fun _ => f), (fun _ => 0), none) _ hfill D kT (fun _ => a)
  have hI : bw_inj (fun _ => a) 1 := fun i j hi hj _ => by omega
  have hP0 : va_P D vwCl (bw_wo (bw_sh1 n) 1 kT (fun _ => a) ((fun _ => f), (fun _ => 0), none)) H := fun k9 x9 hx => by
    have h0 : k9 < 1 := (List.getElem?_eq_some_iff.mp hx).1
    rw [show k9 = 0 by omega] at hx
    cases hx
    exact hP q0 _ he
  have hFa : ∀ q, bw_A (fun _ => a) 1 q → A q := fun q h => by
    obtain ⟨-, -, rfl⟩ := h
    exact hD.2 q0 _ he
  refine va_callv (va_runS (As := [.ref a, .int x]) (rest := rest) ⟨C.1, C.2.1, C.2.2.1, C.2.2.2.1, C.2.2.2.2.1⟩ hM (va_cwS 2 C.2.2.2.2.1 (bw_gS msJ7_fill_53178 hlk) rfl rfl rfl msJ7_fill_53178.2.2.2 ⟨hrm.1, by show 8 + (4 + 11) + 0 ≤ _; exact hrm.2⟩) ⟨bw_blind, fun U hU hW => ⟨rfl, by rw [hU]; exact hP0, va_K.moved hW.alike C.2.2.2.2.2.1, hI⟩⟩ rfl rfl hl.1 rfl (lv_room hro) d ⟨hkc, hks⟩) hS (fun q _ h => hFa q h) hFa (fun u t H1 locs1 ht hvm hw hB hz hk hS1 => ?_)
  have hB : va_P D vwCl (bw_wo (bw_sh1 n) 1 kT (fun _ => a) (bw_pA ((fun _ => f), (fun _ => 0), none) 0 (flF f 0 n x))) t.heap := hB
  rw [ht] at hB
  refine k H1 locs1 ls ?_ (hD.set he) hS1 hl
  intro k9 x9 hx
  by_cases e9 : k9 = q0
  · subst e9
    rw [List.getElem?_set_self (List.getElem?_eq_some_iff.mp he).1] at hx
    cases hx
    exact hB 0 _ rfl
  · rw [List.getElem?_set_ne (Ne.symm e9)] at hx
    refine (hP k9 x9 hx).kept (hk _ ((hP k9 x9 hx).lt) (fun z => ?_))
    obtain ⟨_, _, ez⟩ := z
    exact e9 (hD.1 k9 q0 x9 _ hx he ez)

def gD_0 (h0 : Nat) : va_W := [(h0, .inr (0, [.null, .null, .int 0]))]
def gD_1 (h0 : Nat) (kT : Nat → ClassId) (u : Nat × Nat) : va_W := [(h0, .inr (0, [.ref (u.1), .ref (u.2), .int (0 : Int32)])), ((u.1), .inl (kT 0, 40, .inl (fun _ => 0))), ((u.2), .inl (kT 0, 40, .inl (fun _ => 0)))]
abbrev gD_rm : Room := { frames := 1, cells := 2, slots := 80, locals := 16 }
set_option maxRecDepth 20000 in
theorem gD_c (l : Launch) (h0 : Nat) : gw_C l yX0_init cX0_init 1 gD_rm h0 (gD_0 h0) (fun _ => True) (gD_1 h0) (fun _ => True) 2 80 := by
  refine gw_in cX0_init 1 RX0 pn_X0 rfl rfl (by decide) ?_
  intro p e s m args below meth c D kT A C hin _
  unfold gD_0
  refine gw_aload_n (pc := 0) C 0 dX0_init_0 rfl rfl ?_
  refine gw_obj (pc := 1) C mw_104 mw_17 mw_18 (Nat.le_of_ble_eq_true rfl) (Nat.le_of_ble_eq_true rfl) dX0_init_1 ?_
  refine gw_aload_n (pc := 4) C 0 dX0_init_4 rfl rfl ?_
  refine gw_bipush (pc := 5) (v := (40 : Int32)) C dX0_init_5 (by decide) ?_
  refine gw_newa (pc := 7) (N := 40) C (by decide) (by decide) (by decide) (Nat.le_of_ble_eq_true rfl) (Nat.le_of_ble_eq_true rfl) dX0_init_7 (fun q1 => ?_)
  change gw_At _ _ _ _ _ _ _ _ _ _ _ _ _ _ _ _ _ [(h0, .inr (0, [.null, .null, .int 0])), (q1, .inl (kT 0, 40, .inl (fun _ => 0)))] _ _
  refine gw_putF (pc := 9) (ci := 0) (ty := .array .int) (ws' := [(h0, .inr (0, [.ref q1, .null, .int 0])), (q1, .inl (kT 0, 40, .inl (fun _ => 0)))]) C hin tyX0 tyX0_ok nmX0 inX0 rfl 0 rfl 0 (by decide) mw_105 rfl rfl (by decide +kernel) rfl rfl (Nat.le_of_ble_eq_true rfl) rfl dX0_init_9 ?_
  refine gw_aload_n (pc := 12) C 0 dX0_init_12 rfl rfl ?_
  refine gw_bipush (pc := 13) (v := (40 : Int32)) C dX0_init_13 (by decide) ?_
  refine gw_newa (pc := 15) (N := 40) C (by decide) (by decide) (by decide) (Nat.le_of_ble_eq_true rfl) (Nat.le_of_ble_eq_true rfl) dX0_init_15 (fun q2 => ?_)
  change gw_At _ _ _ _ _ _ _ _ _ _ _ _ _ _ _ _ _ [(h0, .inr (0, [.ref q1, .null, .int 0])), (q1, .inl (kT 0, 40, .inl (fun _ => 0))), (q2, .inl (kT 0, 40, .inl (fun _ => 0)))] _ _
  refine gw_putF (pc := 17) (ci := 0) (ty := .array .int) (ws' := [(h0, .inr (0, [.ref q1, .ref q2, .int 0])), (q1, .inl (kT 0, 40, .inl (fun _ => 0))), (q2, .inl (kT 0, 40, .inl (fun _ => 0)))]) C hin tyX0 tyX0_ok nmX0 inX0 rfl 0 rfl 1 (by decide) mw_107 rfl rfl (by decide +kernel) rfl rfl (Nat.le_of_ble_eq_true rfl) rfl dX0_init_17 ?_
  refine gw_aload_n (pc := 20) C 0 dX0_init_20 rfl rfl ?_
  refine gw_iconst (pc := 21) (v := (0 : Int32)) C dX0_init_21 (by decide) ?_
  refine gw_put (pc := 22) (ci := 0) (ty := .int) (ws' := [(h0, .inr (0, [.ref q1, .ref q2, .int (0 : Int32)])), (q1, .inl (kT 0, 40, .inl (fun _ => 0))), (q2, .inl (kT 0, 40, .inl (fun _ => 0)))]) C tyX0 tyX0_ok nmX0 inX0 rfl 0 rfl 2 (by decide) mw_109 rfl (by decide +kernel) rfl rfl (Nat.le_of_ble_eq_true rfl) rfl dX0_init_22 ?_
  exact gw_ret (pc := 25) (res := gD_1 h0 kT) C (q1, q2) trivial rfl dX0_init_25
def gR_0 (h0 : Nat) : va_W := [(h0, .inr (1, [.null, .int 0, .int 0]))]
def gR_1 (h0 : Nat) (kT : Nat → ClassId) (u : Unit) : va_W := [(h0, .inr (1, [.null, .int (0 : Int32), .int (0 : Int32)]))]
abbrev gR_rm : Room := { frames := 1, cells := 0, slots := 0, locals := 16 }
set_option maxRecDepth 20000 in
theorem gR_c (l : Launch) (h0 : Nat) : gw_C l yX2_init cX2_init 1 gR_rm h0 (gR_0 h0) (fun _ => True) (gR_1 h0) (fun _ => True) 0 0 := by
  refine gw_in cX2_init 1 RX2 pn_X2 rfl rfl (by decide) ?_
  intro p e s m args below meth c D kT A C hin _
  unfold gR_0
  refine gw_aload_n (pc := 0) C 0 dX2_init_0 rfl rfl ?_
  refine gw_obj (pc := 1) C mw_28 mw_17 mw_18 (Nat.le_of_ble_eq_true rfl) (Nat.le_of_ble_eq_true rfl) dX2_init_1 ?_
  refine gw_aload_n (pc := 4) C 0 dX2_init_4 rfl rfl ?_
  refine gw_null (pc := 5) C dX2_init_5 ?_
  refine gw_put (pc := 6) (ci := 1) (ty := .array .byte) (ws' := [(h0, .inr (1, [.null, .int 0, .int 0]))]) C tyX2 tyX2_ok nmX2 inX2 rfl 0 rfl 0 (by decide) mw_29 rfl (by decide +kernel) rfl rfl (Nat.le_of_ble_eq_true rfl) rfl dX2_init_6 ?_
  refine gw_aload_n (pc := 9) C 0 dX2_init_9 rfl rfl ?_
  refine gw_iconst (pc := 10) (v := (0 : Int32)) C dX2_init_10 (by decide) ?_
  refine gw_put (pc := 11) (ci := 1) (ty := .int) (ws' := [(h0, .inr (1, [.null, .int (0 : Int32), .int 0]))]) C tyX2 tyX2_ok nmX2 inX2 rfl 0 rfl 1 (by decide) mw_30 rfl (by decide +kernel) rfl rfl (Nat.le_of_ble_eq_true rfl) rfl dX2_init_11 ?_
  refine gw_aload_n (pc := 14) C 0 dX2_init_14 rfl rfl ?_
  refine gw_iconst (pc := 15) (v := (0 : Int32)) C dX2_init_15 (by decide) ?_
  refine gw_put (pc := 16) (ci := 1) (ty := .int) (ws' := [(h0, .inr (1, [.null, .int (0 : Int32), .int (0 : Int32)]))]) C tyX2 tyX2_ok nmX2 inX2 rfl 0 rfl 2 (by decide) mw_31 rfl (by decide +kernel) rfl rfl (Nat.le_of_ble_eq_true rfl) rfl dX2_init_16 ?_
  exact gw_ret (pc := 19) (res := gR_1 h0 kT) C () trivial rfl dX2_init_19
def gT_0 (h0 : Nat) : va_W := [(h0, .inr (2, [.int 0, .int 0, .int 0, .int 0, .int 0, .int 0, .int 0, .int 0, .null, .null, .null, .null, .null]))]
def gT_1 (h0 : Nat) (kT : Nat → ClassId) (u : Nat × Nat × Nat × Nat × Nat) : va_W := [(h0, .inr (2, [.int (0 : Int32), .int (0 : Int32), .int (0 : Int32), .int (0 : Int32), .int (0 : Int32), .int (0 : Int32), .int (0 : Int32), .int (0 : Int32), .ref (u.1), .ref (u.2.1), .ref (u.2.2.1), .ref (u.2.2.2.1), .ref (u.2.2.2.2)])), ((u.1), .inl (kT 0, 6, .inl (fun _ => 0))), ((u.2.1), .inl (kT 0, 6, .inl (fun _ => 0))), ((u.2.2.1), .inl (kT 0, 6, .inl (fun _ => 0))), ((u.2.2.2.1), .inl (kT 0, 6, .inl (fun _ => 0))), ((u.2.2.2.2), .inl (kT 0, 6, .inl (fun _ => 0)))]
abbrev gT_rm : Room := { frames := 1, cells := 5, slots := 30, locals := 16 }
set_option maxRecDepth 20000 in
theorem gT_c (l : Launch) (h0 : Nat) : gw_C l yX3_init cX3_init 1 gT_rm h0 (gT_0 h0) (fun _ => True) (gT_1 h0) (fun _ => True) 5 30 := by
  refine gw_in cX3_init 1 RX3 pn_X3 rfl rfl (by decide) ?_
  intro p e s m args below meth c D kT A C hin _
  unfold gT_0
  refine gw_aload_n (pc := 0) C 0 dX3_init_0 rfl rfl ?_
  refine gw_obj (pc := 1) C mw_46 mw_17 mw_18 (Nat.le_of_ble_eq_true rfl) (Nat.le_of_ble_eq_true rfl) dX3_init_1 ?_
  refine gw_aload_n (pc := 4) C 0 dX3_init_4 rfl rfl ?_
  refine gw_iconst (pc := 5) (v := (0 : Int32)) C dX3_init_5 (by decide) ?_
  refine gw_put (pc := 6) (ci := 2) (ty := .int) (ws' := [(h0, .inr (2, [.int (0 : Int32), .int 0, .int 0, .int 0, .int 0, .int 0, .int 0, .int 0, .null, .null, .null, .null, .null]))]) C tyX3 tyX3_ok nmX3 inX3 rfl 0 rfl 0 (by decide) mw_47 rfl (by decide +kernel) rfl rfl (Nat.le_of_ble_eq_true rfl) rfl dX3_init_6 ?_
  refine gw_aload_n (pc := 9) C 0 dX3_init_9 rfl rfl ?_
  refine gw_iconst (pc := 10) (v := (0 : Int32)) C dX3_init_10 (by decide) ?_
  refine gw_put (pc := 11) (ci := 2) (ty := .int) (ws' := [(h0, .inr (2, [.int (0 : Int32), .int (0 : Int32), .int 0, .int 0, .int 0, .int 0, .int 0, .int 0, .null, .null, .null, .null, .null]))]) C tyX3 tyX3_ok nmX3 inX3 rfl 0 rfl 1 (by decide) mw_50 rfl (by decide +kernel) rfl rfl (Nat.le_of_ble_eq_true rfl) rfl dX3_init_11 ?_
  refine gw_aload_n (pc := 14) C 0 dX3_init_14 rfl rfl ?_
  refine gw_iconst (pc := 15) (v := (0 : Int32)) C dX3_init_15 (by decide) ?_
  refine gw_put (pc := 16) (ci := 2) (ty := .int) (ws' := [(h0, .inr (2, [.int (0 : Int32), .int (0 : Int32), .int (0 : Int32), .int 0, .int 0, .int 0, .int 0, .int 0, .null, .null, .null, .null, .null]))]) C tyX3 tyX3_ok nmX3 inX3 rfl 0 rfl 2 (by decide) mw_51 rfl (by decide +kernel) rfl rfl (Nat.le_of_ble_eq_true rfl) rfl dX3_init_16 ?_
  refine gw_aload_n (pc := 19) C 0 dX3_init_19 rfl rfl ?_
  refine gw_iconst (pc := 20) (v := (0 : Int32)) C dX3_init_20 (by decide) ?_
  refine gw_put (pc := 21) (ci := 2) (ty := .int) (ws' := [(h0, .inr (2, [.int (0 : Int32), .int (0 : Int32), .int (0 : Int32), .int (0 : Int32), .int 0, .int 0, .int 0, .int 0, .null, .null, .null, .null, .null]))]) C tyX3 tyX3_ok nmX3 inX3 rfl 0 rfl 3 (by decide) mw_52 rfl (by decide +kernel) rfl rfl (Nat.le_of_ble_eq_true rfl) rfl dX3_init_21 ?_
  refine gw_aload_n (pc := 24) C 0 dX3_init_24 rfl rfl ?_
  refine gw_iconst (pc := 25) (v := (0 : Int32)) C dX3_init_25 (by decide) ?_
  refine gw_put (pc := 26) (ci := 2) (ty := .int) (ws' := [(h0, .inr (2, [.int (0 : Int32), .int (0 : Int32), .int (0 : Int32), .int (0 : Int32), .int (0 : Int32), .int 0, .int 0, .int 0, .null, .null, .null, .null, .null]))]) C tyX3 tyX3_ok nmX3 inX3 rfl 0 rfl 4 (by decide) mw_54 rfl (by decide +kernel) rfl rfl (Nat.le_of_ble_eq_true rfl) rfl dX3_init_26 ?_
  refine gw_aload_n (pc := 29) C 0 dX3_init_29 rfl rfl ?_
  refine gw_iconst (pc := 30) (v := (0 : Int32)) C dX3_init_30 (by decide) ?_
  refine gw_put (pc := 31) (ci := 2) (ty := .int) (ws' := [(h0, .inr (2, [.int (0 : Int32), .int (0 : Int32), .int (0 : Int32), .int (0 : Int32), .int (0 : Int32), .int (0 : Int32), .int 0, .int 0, .null, .null, .null, .null, .null]))]) C tyX3 tyX3_ok nmX3 inX3 rfl 0 rfl 5 (by decide) mw_56 rfl (by decide +kernel) rfl rfl (Nat.le_of_ble_eq_true rfl) rfl dX3_init_31 ?_
  refine gw_aload_n (pc := 34) C 0 dX3_init_34 rfl rfl ?_
  refine gw_iconst (pc := 35) (v := (0 : Int32)) C dX3_init_35 (by decide) ?_
  refine gw_put (pc := 36) (ci := 2) (ty := .int) (ws' := [(h0, .inr (2, [.int (0 : Int32), .int (0 : Int32), .int (0 : Int32), .int (0 : Int32), .int (0 : Int32), .int (0 : Int32), .int (0 : Int32), .int 0, .null, .null, .null, .null, .null]))]) C tyX3 tyX3_ok nmX3 inX3 rfl 0 rfl 6 (by decide) mw_58 rfl (by decide +kernel) rfl rfl (Nat.le_of_ble_eq_true rfl) rfl dX3_init_36 ?_
  refine gw_aload_n (pc := 39) C 0 dX3_init_39 rfl rfl ?_
  refine gw_iconst (pc := 40) (v := (0 : Int32)) C dX3_init_40 (by decide) ?_
  refine gw_put (pc := 41) (ci := 2) (ty := .int) (ws' := [(h0, .inr (2, [.int (0 : Int32), .int (0 : Int32), .int (0 : Int32), .int (0 : Int32), .int (0 : Int32), .int (0 : Int32), .int (0 : Int32), .int (0 : Int32), .null, .null, .null, .null, .null]))]) C tyX3 tyX3_ok nmX3 inX3 rfl 0 rfl 7 (by decide) mw_60 rfl (by decide +kernel) rfl rfl (Nat.le_of_ble_eq_true rfl) rfl dX3_init_41 ?_
  refine gw_aload_n (pc := 44) C 0 dX3_init_44 rfl rfl ?_
  refine gw_bipush (pc := 45) (v := (6 : Int32)) C dX3_init_45 (by decide) ?_
  refine gw_newa (pc := 47) (N := 6) C (by decide) (by decide) (by decide) (Nat.le_of_ble_eq_true rfl) (Nat.le_of_ble_eq_true rfl) dX3_init_47 (fun q1 => ?_)
  change gw_At _ _ _ _ _ _ _ _ _ _ _ _ _ _ _ _ _ [(h0, .inr (2, [.int (0 : Int32), .int (0 : Int32), .int (0 : Int32), .int (0 : Int32), .int (0 : Int32), .int (0 : Int32), .int (0 : Int32), .int (0 : Int32), .null, .null, .null, .null, .null])), (q1, .inl (kT 0, 6, .inl (fun _ => 0)))] _ _
  refine gw_putF (pc := 49) (ci := 2) (ty := .array .int) (ws' := [(h0, .inr (2, [.int (0 : Int32), .int (0 : Int32), .int (0 : Int32), .int (0 : Int32), .int (0 : Int32), .int (0 : Int32), .int (0 : Int32), .int (0 : Int32), .ref q1, .null, .null, .null, .null])), (q1, .inl (kT 0, 6, .inl (fun _ => 0)))]) C hin tyX3 tyX3_ok nmX3 inX3 rfl 0 rfl 8 (by decide) mw_62 rfl rfl (by decide +kernel) rfl rfl (Nat.le_of_ble_eq_true rfl) rfl dX3_init_49 ?_
  refine gw_aload_n (pc := 52) C 0 dX3_init_52 rfl rfl ?_
  refine gw_bipush (pc := 53) (v := (6 : Int32)) C dX3_init_53 (by decide) ?_
  refine gw_newa (pc := 55) (N := 6) C (by decide) (by decide) (by decide) (Nat.le_of_ble_eq_true rfl) (Nat.le_of_ble_eq_true rfl) dX3_init_55 (fun q2 => ?_)
  change gw_At _ _ _ _ _ _ _ _ _ _ _ _ _ _ _ _ _ [(h0, .inr (2, [.int (0 : Int32), .int (0 : Int32), .int (0 : Int32), .int (0 : Int32), .int (0 : Int32), .int (0 : Int32), .int (0 : Int32), .int (0 : Int32), .ref q1, .null, .null, .null, .null])), (q1, .inl (kT 0, 6, .inl (fun _ => 0))), (q2, .inl (kT 0, 6, .inl (fun _ => 0)))] _ _
  refine gw_putF (pc := 57) (ci := 2) (ty := .array .int) (ws' := [(h0, .inr (2, [.int (0 : Int32), .int (0 : Int32), .int (0 : Int32), .int (0 : Int32), .int (0 : Int32), .int (0 : Int32), .int (0 : Int32), .int (0 : Int32), .ref q1, .ref q2, .null, .null, .null])), (q1, .inl (kT 0, 6, .inl (fun _ => 0))), (q2, .inl (kT 0, 6, .inl (fun _ => 0)))]) C hin tyX3 tyX3_ok nmX3 inX3 rfl 0 rfl 9 (by decide) mw_64 rfl rfl (by decide +kernel) rfl rfl (Nat.le_of_ble_eq_true rfl) rfl dX3_init_57 ?_
  refine gw_aload_n (pc := 60) C 0 dX3_init_60 rfl rfl ?_
  refine gw_bipush (pc := 61) (v := (6 : Int32)) C dX3_init_61 (by decide) ?_
  refine gw_newa (pc := 63) (N := 6) C (by decide) (by decide) (by decide) (Nat.le_of_ble_eq_true rfl) (Nat.le_of_ble_eq_true rfl) dX3_init_63 (fun q3 => ?_)
  change gw_At _ _ _ _ _ _ _ _ _ _ _ _ _ _ _ _ _ [(h0, .inr (2, [.int (0 : Int32), .int (0 : Int32), .int (0 : Int32), .int (0 : Int32), .int (0 : Int32), .int (0 : Int32), .int (0 : Int32), .int (0 : Int32), .ref q1, .ref q2, .null, .null, .null])), (q1, .inl (kT 0, 6, .inl (fun _ => 0))), (q2, .inl (kT 0, 6, .inl (fun _ => 0))), (q3, .inl (kT 0, 6, .inl (fun _ => 0)))] _ _
  refine gw_putF (pc := 65) (ci := 2) (ty := .array .int) (ws' := [(h0, .inr (2, [.int (0 : Int32), .int (0 : Int32), .int (0 : Int32), .int (0 : Int32), .int (0 : Int32), .int (0 : Int32), .int (0 : Int32), .int (0 : Int32), .ref q1, .ref q2, .ref q3, .null, .null])), (q1, .inl (kT 0, 6, .inl (fun _ => 0))), (q2, .inl (kT 0, 6, .inl (fun _ => 0))), (q3, .inl (kT 0, 6, .inl (fun _ => 0)))]) C hin tyX3 tyX3_ok nmX3 inX3 rfl 0 rfl 10 (by decide) mw_66 rfl rfl (by decide +kernel) rfl rfl (Nat.le_of_ble_eq_true rfl) rfl dX3_init_65 ?_
  refine gw_aload_n (pc := 68) C 0 dX3_init_68 rfl rfl ?_
  refine gw_bipush (pc := 69) (v := (6 : Int32)) C dX3_init_69 (by decide) ?_
  refine gw_newa (pc := 71) (N := 6) C (by decide) (by decide) (by decide) (Nat.le_of_ble_eq_true rfl) (Nat.le_of_ble_eq_true rfl) dX3_init_71 (fun q4 => ?_)
  change gw_At _ _ _ _ _ _ _ _ _ _ _ _ _ _ _ _ _ [(h0, .inr (2, [.int (0 : Int32), .int (0 : Int32), .int (0 : Int32), .int (0 : Int32), .int (0 : Int32), .int (0 : Int32), .int (0 : Int32), .int (0 : Int32), .ref q1, .ref q2, .ref q3, .null, .null])), (q1, .inl (kT 0, 6, .inl (fun _ => 0))), (q2, .inl (kT 0, 6, .inl (fun _ => 0))), (q3, .inl (kT 0, 6, .inl (fun _ => 0))), (q4, .inl (kT 0, 6, .inl (fun _ => 0)))] _ _
  refine gw_putF (pc := 73) (ci := 2) (ty := .array .int) (ws' := [(h0, .inr (2, [.int (0 : Int32), .int (0 : Int32), .int (0 : Int32), .int (0 : Int32), .int (0 : Int32), .int (0 : Int32), .int (0 : Int32), .int (0 : Int32), .ref q1, .ref q2, .ref q3, .ref q4, .null])), (q1, .inl (kT 0, 6, .inl (fun _ => 0))), (q2, .inl (kT 0, 6, .inl (fun _ => 0))), (q3, .inl (kT 0, 6, .inl (fun _ => 0))), (q4, .inl (kT 0, 6, .inl (fun _ => 0)))]) C hin tyX3 tyX3_ok nmX3 inX3 rfl 0 rfl 11 (by decide) mw_68 rfl rfl (by decide +kernel) rfl rfl (Nat.le_of_ble_eq_true rfl) rfl dX3_init_73 ?_
  refine gw_aload_n (pc := 76) C 0 dX3_init_76 rfl rfl ?_
  refine gw_bipush (pc := 77) (v := (6 : Int32)) C dX3_init_77 (by decide) ?_
  refine gw_newa (pc := 79) (N := 6) C (by decide) (by decide) (by decide) (Nat.le_of_ble_eq_true rfl) (Nat.le_of_ble_eq_true rfl) dX3_init_79 (fun q5 => ?_)
  change gw_At _ _ _ _ _ _ _ _ _ _ _ _ _ _ _ _ _ [(h0, .inr (2, [.int (0 : Int32), .int (0 : Int32), .int (0 : Int32), .int (0 : Int32), .int (0 : Int32), .int (0 : Int32), .int (0 : Int32), .int (0 : Int32), .ref q1, .ref q2, .ref q3, .ref q4, .null])), (q1, .inl (kT 0, 6, .inl (fun _ => 0))), (q2, .inl (kT 0, 6, .inl (fun _ => 0))), (q3, .inl (kT 0, 6, .inl (fun _ => 0))), (q4, .inl (kT 0, 6, .inl (fun _ => 0))), (q5, .inl (kT 0, 6, .inl (fun _ => 0)))] _ _
  refine gw_putF (pc := 81) (ci := 2) (ty := .array .int) (ws' := [(h0, .inr (2, [.int (0 : Int32), .int (0 : Int32), .int (0 : Int32), .int (0 : Int32), .int (0 : Int32), .int (0 : Int32), .int (0 : Int32), .int (0 : Int32), .ref q1, .ref q2, .ref q3, .ref q4, .ref q5])), (q1, .inl (kT 0, 6, .inl (fun _ => 0))), (q2, .inl (kT 0, 6, .inl (fun _ => 0))), (q3, .inl (kT 0, 6, .inl (fun _ => 0))), (q4, .inl (kT 0, 6, .inl (fun _ => 0))), (q5, .inl (kT 0, 6, .inl (fun _ => 0)))]) C hin tyX3 tyX3_ok nmX3 inX3 rfl 0 rfl 12 (by decide) mw_70 rfl rfl (by decide +kernel) rfl rfl (Nat.le_of_ble_eq_true rfl) rfl dX3_init_81 ?_
  exact gw_ret (pc := 84) (res := gT_1 h0 kT) C (q1, q2, q3, q4, q5) trivial rfl dX3_init_84
