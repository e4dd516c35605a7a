/-! whole_start -/
theorem gB_F_same {U : State} {g : JFrame} {mk : MethodId} {a : Array Value} (h : gB_F U) : gB_F (U.calling g mk a) := by
  obtain ⟨h1, h2, h3, h4, h5, h6⟩ := h
  exact ⟨va_Nw.same (u := U) (U := U.calling g mk a) rfl rfl h1, va_Nw.same (u := U) (U := U.calling g mk a) rfl rfl h2, va_Nw.same (u := U) (U := U.calling g mk a) rfl rfl h3, va_AO.moved (u := U) (U := U.calling g mk a) (Vm.Alike.refl U.vm) h4, va_AOA.moved (u := U) (U := U.calling g mk a) (Vm.Alike.refl U.vm) h5, va_AOA.moved (u := U) (U := U.calling g mk a) (Vm.Alike.refl U.vm) h6⟩
theorem gB_F_of {b : Nat} {s : State} (hts : ∀ w ∈ lw_tbl, w.before #[Value.ref b] s = true) {U : State} (hW : s.WarmedH U.vm) : gB_F U :=
  ⟨va_Nw.warmM hW (va_Nw.of rfl (hts _ mw_25)), va_Nw.warmM hW (va_Nw.of rfl (hts _ mw_43)), va_Nw.warmM hW (va_Nw.of rfl (hts _ mw_101)), va_AO.moved hW.alike (va_AO.of (hts _ mw_119)), va_AOA.moved hW.alike (va_AOA.of (hts _ mw_20)), va_AOA.moved hW.alike (va_AOA.of (hts _ mw_22))⟩
theorem known {b : Nat} {s : State} (hts : ∀ w ∈ lw_tbl, w.before #[Value.ref b] s = true) (hts2 : ∀ w ∈ bw_tbl, w.before #[Value.ref b] s = true) : ∃ (D : va_G) (kT : Nat → ClassId), va_K D vwCl (bw_ty kT) s := by
  obtain ⟨c0, i0, k0⟩ := u_known hts2 inX0 (hts2 _ mw_100)
  obtain ⟨c1, i1, k1⟩ := u_known hts2 inX2 (hts2 _ mw_24)
  obtain ⟨c2, i2, k2⟩ := u_known hts2 inX3 (hts2 _ mw_42)
  obtain ⟨c3, i3, k3⟩ := u_known hts2 inX4 (hts2 _ mw_12)
  obtain ⟨c4, i4, k4⟩ := u_known hts2 inX5 (hts2 _ mw_606)
  obtain ⟨a0, b0, d0, e0, f0, g0⟩ := Cond.arrayClass_spec (hts2 _ mw_39)
  obtain ⟨a1, b1, d1, e1, f1, g1⟩ := Cond.arrayClass_spec (hts2 _ mw_40)
  obtain ⟨d2, a2, b2, -, -, f2, g2, e2⟩ := arrOverA (va_AOA.of (hts _ mw_20))
  obtain ⟨d3, a3, b3, -, -, f3, g3, e3⟩ := arrOverA (va_AOA.of (hts _ mw_22))
  obtain ⟨d4, a4, b4, h4, -, f4, g4, e4⟩ := Cond.arrayOver_spec (hts _ mw_119)
  refine ⟨((fun c => match c with | 0 => c0 | 1 => c1 | 2 => c2 | 3 => c3 | _ => c4), (fun c => match c with | 0 => i0 | 1 => i1 | 2 => i2 | 3 => i3 | _ => i4)), (fun t => match t with | 0 => a0 | 1 => a1 | 2 => a2 | 3 => a3 | _ => a4), fun c q hq => ?_, fun k q hq => ?_⟩
  · match c, hq with
    | 0, hq => cases hq; exact k0
    | 1, hq => cases hq; exact k1
    | 2, hq => cases hq; exact k2
    | 3, hq => cases hq; exact k3
    | 4, hq => cases hq; exact k4
    | c + 5, hq => cases hq
  · match k, hq with
    | 0, hq => cases hq; exact ⟨fun n z => ⟨fun k h => (by cases h), b0, f0, d0, g0⟩, e0⟩
    | 1, hq => cases hq; exact ⟨fun n z => ⟨fun k h => (by cases h), b1, f1, d1, g1⟩, e1⟩
    | 2, hq => cases hq; exact ⟨fun n z => ⟨fun k h => (by cases h), b2, f2, d2, g2⟩, e2⟩
    | 3, hq => cases hq; exact ⟨fun n z => ⟨fun k h => (by cases h), b3, f3, d3, g3⟩, e3⟩
    | 4, hq => cases hq; exact ⟨fun n z => ⟨fun k h => (by cases h), b4, f4, d4, g4⟩, b4, d4, f4, g4, h4, e4⟩
    | k + 5, hq => cases hq
set_option maxRecDepth 100000 in
set_option maxHeartbeats 4000000 in
/-- from the entry, for every script of at most 384 ints, the law comes to its end with true -/
theorem whole_start {p : Program} {e : Env} {s : State} {m : MethodId} {below : List Frame} {meth : Method} {c : Code} (l : Launch) {b L : Nat} {xs : Nat → Int32} (hL : L ≤ 384) (C0 : lw_At p s m meth c b L xs) : W p l e room_1 s m #[Value.ref b] below meth c s.heap [] 0 0 (lw_Z below #[Value.ref b] s) (entryFrame m ([Value.ref b] : List Value).toArray 4) := by
  obtain ⟨hx, hb, hret, hml, hown, hts, hX, hbl, hlk, hgv⟩ := C0
  have hts2 : ∀ w ∈ bw_tbl, w.before #[Value.ref b] s = true := fun w h => hts w (List.mem_filter.mp h).1
  have hown2 : s.vm.findClass RL = some m.cls := hown
  obtain ⟨D, kT, hK⟩ := known hts hts2
  obtain ⟨B0, hB0, hR0⟩ := rel0
  have C : gw_Cx p s m #[Value.ref b] meth c cL_law 4 RL D kT (la_Af s) ret := ⟨hx, hb, hml, hown2, hts2, hK, hret, hlk, fun q h => h⟩
  have key : gw_At p l e room_1 s m #[Value.ref b] below meth c (lw_Z below #[Value.ref b] s) D (la_Af s) 4 0 [(0, .ref b)] [] [] 0 0 := by
    refine gw_new (pc := 0) (ci := 3) (fs := [.null, .null, .null, .null, .null, .null, .null, .null, .null, .null, .null, .null, .null, .int 0, .int 0, .long 0, .long 0]) C tyX4 tyX4_ok inX4 mw_11 mw_12 mw_1 rfl (by decide +kernel) (Nat.le_of_ble_eq_true rfl) (Nat.le_of_ble_eq_true rfl) dL_law_0 (fun q => ?_)
    refine gw_dup (pc := 3) C dL_law_3 rfl ?_
    refine gw_cI (pc := 4) (wr := []) (rest := [.ref q]) C (gB_c l q) mw_15 mw_14 mw_1 mw_13 rfl (by decide +kernel) rfl rfl ⟨Nat.le_of_ble_eq_true rfl, Nat.le_of_ble_eq_true rfl⟩ (fun U g mk a h => gB_F_same h) (fun U hW => gB_F_of hts hW) rfl (Nat.le_of_ble_eq_true rfl) (Nat.le_of_ble_eq_true rfl) (Nat.le_of_ble_eq_true rfl) dL_law_4 (fun ρ hρ => ?_)
    subst hρ
    refine gw_astore_n (pc := 7) (L' := [(1, .ref (ρ 0)), (0, .ref b)]) C dL_law_7 rfl (by decide) rfl ?_
    refine gw_new (pc := 8) (ci := 4) (fs := [.null, .null, .null, .null, .int 0, .long 0, .long 0, .int 0, .null, .int 0, .null, .null, .null, .null, .null, .null, .int 0, .null, .int 0, .int 0, .int 0, .int 0, .int 0, .int 0, .int 0, .null, .null, .null, .null, .null, .null]) C tyX5 tyX5_ok inX5 mw_605 mw_606 mw_6 rfl (by decide +kernel) (Nat.le_of_ble_eq_true rfl) (Nat.le_of_ble_eq_true rfl) dL_law_8 (fun q2 => ?_)
    refine gw_dup (pc := 11) C dL_law_11 rfl ?_
    refine gw_cI (pc := 12) (wr := [] ++ bw_wo bw_shC 45 kT ρ gB_M) (rest := [.ref q2]) C (gM_c l q2 hB0) mw_609 mw_608 mw_6 mw_607 rfl (by decide +kernel) rfl rfl ⟨Nat.le_of_ble_eq_true rfl, Nat.le_of_ble_eq_true rfl⟩ (fun _ _ _ _ _ => trivial) (fun _ _ => trivial) rfl (Nat.le_of_ble_eq_true rfl) (Nat.le_of_ble_eq_true rfl) (Nat.le_of_ble_eq_true rfl) dL_law_12 (fun ρ2 hρ2 => ?_)
    subst hρ2
    refine gw_astore_n (pc := 15) (L' := [(2, .ref (ρ2 0)), (1, .ref (ρ 0)), (0, .ref b)]) C dL_law_15 rfl (by decide) rfl ?_
    refine gw_iconst (pc := 16) (v := 0) C dL_law_16 (by decide) ?_
    refine gw_istore_n (pc := 17) (L' := [(3, .int 0), (2, .ref (ρ2 0)), (1, .ref (ρ 0)), (0, .ref b)]) C dL_law_17 rfl (by decide) rfl ?_
    intro H locs ls hP hD hS hl
    rw [List.nil_append] at hP hD
    have hlen : (bw_wo bw_shC 45 kT ρ gB_M).length = 45 := by simp [bw_wo]
    have g1 : ∀ i, i < 45 → (bw_wo bw_shC 45 kT ρ gB_M ++ bw_wo bw_shM 19 kT ρ2 B0)[i]? = some (ρ i, bw_ce bw_shC kT ρ gB_M i) := fun i hi => by
      rw [List.getElem?_append_left (by omega)]; exact bw_wo_get hi
    have g2 : ∀ i, i < 19 → (bw_wo bw_shC 45 kT ρ gB_M ++ bw_wo bw_shM 19 kT ρ2 B0)[45 + i]? = some (ρ2 i, bw_ce bw_shM kT ρ2 B0 i) := fun i hi => by
      rw [List.getElem?_append_right (by omega), hlen, show 45 + i - 45 = i by omega]; exact bw_wo_get hi
    have lc : la_Cx p s m meth c D kT ρ ρ2 b L xs (0 + 1 + 44 + 1 + 18) (0 + 17 + gB_rm.slots + 31 + gM_rm.slots) := ⟨hx, hb, hml, hown2, hts2, hK, ⟨fun i j hi hj h => hD.1 i j _ _ (g1 i hi) (g1 j hj) h, fun i j hi hj h => by have := hD.1 (45 + i) (45 + j) _ _ (g2 i hi) (g2 j hj) h; omega, fun i j hi hj h => by have := hD.1 i (45 + j) _ _ (g1 i hi) (g2 j hj) h; omega⟩, ⟨fun i hi => hD.2 i _ (g1 i hi), fun i hi => hD.2 (45 + i) _ (g2 i hi)⟩, ⟨hret, hlk⟩, ⟨hX, hbl, hL⟩, ⟨Nat.le_of_ble_eq_true rfl, Nat.le_of_ble_eq_true rfl⟩⟩
    have hP1 : va_P D vwCl (bw_wo bw_shC 45 kT ρ gB_M) H := fun k x hx => hP k x (by
      rw [List.getElem?_append_left (List.getElem?_eq_some_iff.mp hx).1]; exact hx)
    have hP2 : va_P D vwCl (bw_wo bw_shM 19 kT ρ2 B0) H := fun k x hx => hP (45 + k) x (by
      rw [List.getElem?_append_right (by omega), hlen, show 45 + k - 45 = k by omega]; exact hx)
    exact la_head lc L 0 gB_M B0 (by omega) (by omega) hR0 H locs ls hP1 hP2 hS (lv_sub hl [3, 2, 1, 0] rfl)
  have hl := lv_entry ([.ref b]) (n := 4) (Nat.le_of_ble_eq_true rfl)
  rw [lg_entry_eq]
  generalize (lg_sl ([.ref b]) ++ List.replicate (4 - (lg_sl ([.ref b])).length) Slot.unset).toArray = ls at hl ⊢
  exact key s.heap [] ls (fun k q h => (by cases h)) ⟨(fun i j x y h => (by cases h)), (fun k q h => (by cases h))⟩ va_S.rf hl
