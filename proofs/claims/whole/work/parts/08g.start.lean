/-! The start: both new, and alike -/
theorem rel0 : ∃ B, fX5_forgets 2000 gM_M = some B ∧ Rel gB_M B := by
  obtain ⟨B, e, f2, f3, f4, f5, f6⟩ := m_forget (N := 2000) (by decide) gM_M
  refine ⟨B, e, fun r hr => ⟨?_, Or.inl ?_, fun i hi => ?_⟩, fun t ht => ⟨?_, Or.inl ?_, fun i hi => ?_⟩, ⟨?_, ?_, ?_, ?_, fun f hf => ?_⟩, (0, (fun _ => 0), (fun _ => 0), (fun _ => 0), 0, 0), [], (fun _ => none), ⟨show 0 ≤ 6 by decide, show 0 ≤ 60 by decide, show 0 ≤ 9 by decide, fun i hi => absurd hi (Nat.not_lt_zero i)⟩, ⟨⟨rfl, rfl, rfl, fun i hi => absurd hi (Nat.not_lt_zero i)⟩, ⟨rfl, rfl, rfl, rfl, rfl, fun i hi => ⟨rfl, rfl⟩⟩, ⟨rfl, by decide, fun k d hk => by cases hk⟩⟩, fun d hd => (by cases hd), ⟨⟨?_, fun i hi => absurd hi (Nat.not_lt_zero i)⟩, ⟨?_, ?_, ?_, ?_, ?_, fun i hi => ⟨?_, ?_⟩⟩, by rw [f3]; rfl, fun k hk => absurd hk (Nat.not_lt_zero k)⟩, fun j hj => ⟨?_, f2 j hj⟩⟩
  · rw [f5 2 (by decide) (by decide)]
    match r, hr with
    | 0, _ => rfl
    | 1, _ => rfl
    | 2, _ => rfl
    | 3, _ => rfl
    | 4, _ => rfl
    | 5, _ => rfl
    | r + 6, hr => omega
  · show flF (fun _ => 0) 0 6 (-1) r = -1
    exact flF_in (by omega)
  · rw [f5 1 (by decide) (by decide)]
    match r, hr with
    | 0, _ => rfl
    | 1, _ => rfl
    | 2, _ => rfl
    | 3, _ => rfl
    | 4, _ => rfl
    | 5, _ => rfl
    | r + 6, hr => omega
  · rw [f5 4 (by decide) (by decide)]
    match t, ht with
    | 0, _ => rfl
    | 1, _ => rfl
    | 2, _ => rfl
    | 3, _ => rfl
    | t + 4, ht => omega
  · show flF (fun _ => 0) 0 4 (-1) t = -1
    exact flF_in (by omega)
  · rw [f5 3 (by decide) (by decide)]
    match t, ht with
    | 0, _ => rfl
    | 1, _ => rfl
    | 2, _ => rfl
    | 3, _ => rfl
    | t + 4, ht => omega
  · rw [f4 4 (by decide)]; rfl
  · rw [f6]; rfl
  · rw [f6]; rfl
  · rw [f4 7 (by decide)]; rfl
  · rw [f5 5 (by decide) (by decide)]; rfl
  · rw [f4 9 (by decide)]; rfl
  · rw [f5 9 (by decide) (by decide)]; rfl
  · rw [f5 9 (by decide) (by decide)]; rfl
  · rw [f5 9 (by decide) (by decide)]; rfl
  · rw [f5 9 (by decide) (by decide)]; rfl
  · rw [f5 9 (by decide) (by decide)]; rfl
  · rw [f5 9 (by decide) (by decide)]; rfl
  · rw [f5 9 (by decide) (by decide)]; rfl
  · match j, hj with
    | 0, _ => rfl
    | 1, _ => rfl
    | 2, _ => rfl
    | j + 3, hj => omega
theorem arrOverA {t : FieldType} {U : State} (h : va_AOA t U) : ∃ comp c k, U.vm.findClass (FieldType.array t).toString = some comp ∧ (U.vm.classes.findIdx? fun (x : Class) => match x.kind with | .array component _ => component == comp | _ => false) = some c ∧ U.vm.classes[c]? = some k ∧ k.kind = .array comp (.array t) ∧ U.vm.findClass ("[" ++ (FieldType.array t).toString) = some c := by
  unfold va_AOA Cond.before at h
  simp only [Cond.holds, Cond.value, beq_iff_eq] at h
  cases hc : U.vm.findClass (FieldType.array t).toString with
  | none => simp [hc] at h
  | some comp =>
    simp only [hc, Option.bind_some, Option.bind_eq_some_iff, Option.map_eq_some_iff] at h
    obtain ⟨c, hi, k, hk, hb⟩ := h
    obtain ⟨hlt, hp, -⟩ := Array.findIdx?_eq_some_iff_getElem.mp hi
    have hkk : U.vm.classes[c] = k := (Array.getElem?_eq_some_iff.mp hk).2
    rw [hkk] at hp
    cases hkind : k.kind with
    | array component ty =>
      rw [hkind] at hb hp
      simp at hb hp
      exact ⟨comp, c, k, rfl, hi, hk, by rw [hkind, hp, hb.1], hb.2⟩
    | _ => rw [hkind] at hb; simp at hb
theorem va_AOA.moved {t : FieldType} {u U : State} (hvm : u.vm.Alike U.vm) (h : va_AOA t u) : va_AOA t U := by
  obtain ⟨comp, c, k, h1, h2, h3, h4, h5⟩ := arrOverA h
  obtain ⟨k', hk', he⟩ := hvm.2.2 _ _ h3
  have hi : (U.vm.classes.findIdx? fun (x : Class) => match x.kind with | .array component _ => component == comp | _ => false) = some c := by
    have hb : U.vm.bare = u.vm.bare := by first | exact hvm.bare_eq | exact hvm.bare_eq.symm
    have z1 := va_idx_bare U.vm comp
    have z2 := va_idx_bare u.vm comp
    rw [hb] at z1
    exact z1.symm.trans (z2.trans h2)
  have hkind : k'.kind = .array comp (.array t) := by rw [he]; exact h4
  have f1 : U.vm.findClass (FieldType.array t).toString = some comp := by rw [hvm.findClass]; exact h1
  have f2 : U.vm.findClass ("[" ++ (FieldType.array t).toString) = some c := by rw [hvm.findClass]; exact h5
  unfold va_AOA Cond.before Cond.holds
  simp only [Cond.value]
  rw [f1, Option.bind_some]
  refine (congrArg (fun o : Option Nat => (o.bind (fun c => (U.vm.classes[c]?).map fun (k : Class) => match k.kind with | .array _ ty => decide (ty = FieldType.array t) && decide (U.vm.findClass ("[" ++ (FieldType.array t).toString) = some c) | _ => false) == some true)) hi).trans ?_
  simp [hk', hkind, f2]
section LH
variable {p : Program} {l : Launch} {e : Env} {s : State} {m : MethodId} {below : List Frame} {meth : Method} {c : Code} {D : va_G} {kT : Nat → ClassId} {ρ ρ2 : Nat → Nat} {b Ln : Nat} {xs : Nat → Int32} {A B : bw_M} {kc ks : Nat} {j : Nat}
theorem la_cmp {j n : Nat} (hj : j ≤ 1000) (hn : n ≤ 384) : (Int32.ofNat n - 6 < nI j) ↔ ¬ j + 6 ≤ n := by
  have e : (Int32.ofNat n - 6).toInt = (n : Int) - 6 := pk_sub_toInt (a := n) (b := 6) (by omega) (by decide)
  rw [i32lt, e, nI_toInt (by omega)]
  omega
theorem la_exit (C : la_Cx p s m meth c D kT ρ ρ2 b Ln xs kc ks) (hj : j ≤ 1000) (hn : ¬ j + 6 ≤ Ln) : la_At p l e s m below meth c D kT ρ ρ2 b kc ks 18 (la_L b ρ ρ2 j) [] A B := fun H locs ls hP hQ hS hl => by
  obtain ⟨hX, hbl, h384⟩ := C.2.2.2.2.2.2.2.2.2.1
  refine lv_iload_n C.1 C.2.1 dL_law_18 rfl (lv_at hl 3 rfl) ?_
  refine lv_aload_n C.1 C.2.1 dL_law_19 rfl (lv_at hl 0 rfl) ?_
  refine va_slen C.1 C.2.1 hX hbl (la_nb C) hS dL_law_20 ?_
  refine lv_bipush (v := 6) C.1 C.2.1 dL_law_21 (by decide) ?_
  refine lv_isub C.1 C.2.1 dL_law_23 ?_
  refine lv_icmp_gt (tgt := 1385) C.1 C.2.1 dL_law_24 (by decide) (fun _ => ?_) (fun q => absurd ((la_cmp hj h384).mpr hn) q)
  refine lv_iconst (v := 1) C.1 C.2.1 dL_law_1385 (by decide) ?_
  refine va_forget (fun q hq => hS.2.2 q hq) ?_
  refine W.widen (k := 600000) (n := 7302250) C.2.2.2.2.2.2.2.2.2.2.1 C.2.2.2.2.2.2.2.2.2.2.2 ?_
  exact lw_ret C.1 C.2.1 C.2.2.2.2.2.2.2.2.1.1 C.2.2.2.2.2.2.2.2.1.2 dL_law_1386
theorem la_body (C : la_Cx p s m meth c D kT ρ ρ2 b Ln xs kc ks) (hR : Rel A B) (hj : j ≤ 1000) (hn : j + 6 ≤ Ln) (k : ∀ A' B', Rel A' B' → la_At p l e s m below meth c D kT ρ ρ2 b kc ks 18 (la_L b ρ ρ2 (j + 6)) [] A' B') : la_At p l e s m below meth c D kT ρ ρ2 b kc ks 18 (la_L b ρ ρ2 j) [] A B := fun H locs ls hP hQ hS hl => by
  obtain ⟨hX, hbl, h384⟩ := C.2.2.2.2.2.2.2.2.2.1
  refine lv_iload_n C.1 C.2.1 dL_law_18 rfl (lv_at hl 3 rfl) ?_
  refine lv_aload_n C.1 C.2.1 dL_law_19 rfl (lv_at hl 0 rfl) ?_
  refine va_slen C.1 C.2.1 hX hbl (la_nb C) hS dL_law_20 ?_
  refine lv_bipush (v := 6) C.1 C.2.1 dL_law_21 (by decide) ?_
  refine lv_isub C.1 C.2.1 dL_law_23 ?_
  refine lv_icmp_gt (tgt := 1385) C.1 C.2.1 dL_law_24 (by decide) (fun q => absurd hn ((la_cmp hj h384).mp q)) (fun _ => ?_)
  refine lv_aload_n C.1 C.2.1 dL_law_27 rfl (lv_at hl 0 rfl) ?_
  refine lv_iload_n C.1 C.2.1 dL_law_28 rfl (lv_at hl 3 rfl) ?_
  refine va_sld C.1 C.2.1 hX hbl (la_nb C) hS (la_vin (by omega) (by omega)) dL_law_29 ?_
  refine lv_bipush (v := 63) C.1 C.2.1 dL_law_30 (by decide) ?_
  refine lv_iand C.1 C.2.1 dL_law_32 ?_
  refine la_sw C hR hn (fun A' B' hR' => ?_) _ (pk_andE _ (m := 63) 6 (by decide)) H locs ls hP hQ hS hl
  intro H1 locs1 ls1 hP1 hQ1 hS1 hl1
  refine lv_iinc (v := nI (j + 6)) (lv' := [(3, .int (nI (j + 6))), (0, .ref b), (1, .ref (ρ 0)), (2, .ref (ρ2 0))]) C.1 C.2.1 dL_law_1379 hl1 (k := 3) rfl (nI_add j 6) (by decide) rfl (fun ls' hl' => ?_)
  refine lv_goto (tgt := 18) C.1 C.2.1 dL_law_1382 (by decide) ?_
  exact k A' B' hR' H1 locs1 ls' hP1 hQ1 hS1 (lv_sub hl' [1, 2, 3, 0] rfl)
theorem la_head (C : la_Cx p s m meth c D kT ρ ρ2 b Ln xs kc ks) : ∀ (n j : Nat) (A B : bw_M), Ln ≤ j + n → j ≤ Ln + 6 → Rel A B → la_At p l e s m below meth c D kT ρ ρ2 b kc ks 18 (la_L b ρ ρ2 j) [] A B := by
  have h384 := C.2.2.2.2.2.2.2.2.2.1.2.2
  intro n
  induction n with
  | zero =>
    intro j A B h1 h2 hR
    exact la_exit C (by omega) (by omega)
  | succ n ih =>
    intro j A B h1 h2 hR
    by_cases hn : j + 6 ≤ Ln
    · exact la_body C hR (by omega) hn (fun A' B' hR' => ih (j + 6) A' B' (by omega) (by omega) hR')
    · exact la_exit C (by omega) hn
end LH
