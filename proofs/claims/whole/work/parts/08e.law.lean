/-! The law: its rows -/
def la_Af (s : State) : Nat → Prop := fun q => s.heap.size ≤ q
def la_L (b : Nat) (ρ ρ2 : Nat → Nat) (j : Nat) : List (Nat × Value) := [(0, .ref b), (1, .ref (ρ 0)), (2, .ref (ρ2 0)), (3, .int (nI j))]
def la_Cx (p : Program) (s : State) (m : MethodId) (meth : Method) (c : Code) (D : va_G) (kT : Nat → ClassId) (ρ ρ2 : Nat → Nat) (b Ln : Nat) (xs : Nat → Int32) (kc ks : Nat) : Prop :=
  p.tables.exec = Jvm.exec ∧ c.code = cL_law ∧ c.maxLocals = 4 ∧ s.vm.findClass RL = some m.cls ∧ (∀ w ∈ bw_tbl, w.before #[Value.ref b] s = true) ∧ va_K D vwCl (bw_ty kT) s ∧ (bw_inj ρ 45 ∧ bw_inj ρ2 19 ∧ ∀ i j, i < 45 → j < 19 → ρ i ≠ ρ2 j) ∧ ((∀ i, i < 45 → s.heap.size ≤ ρ i) ∧ ∀ i, i < 19 → s.heap.size ≤ ρ2 i) ∧ (meth.sig.returnType = ret ∧ meth.locks = false) ∧ (va_X b Ln xs s s.heap ∧ b < s.heap.size ∧ Ln ≤ 384) ∧ (kc ≤ room_1.cells ∧ ks ≤ room_1.slots)
def la_At (p : Program) (l : Launch) (e : Env) (s : State) (m : MethodId) (below : List Frame) (meth : Method) (c : Code) (D : va_G) (kT : Nat → ClassId) (ρ ρ2 : Nat → Nat) (b kc ks : Nat) (pc : Nat) (L : List (Nat × Value)) (st : List Value) (A B : bw_M) : Prop :=
  ∀ (H : Heap) (locs : List Loc) (ls : Array Slot), va_P D vwCl (bw_wo bw_shC 45 kT ρ A) H → va_P D vwCl (bw_wo bw_shM 19 kT ρ2 B) H → va_S (la_Af s) s.heap H locs → lv_has ls 4 L → W p l e room_1 s m #[Value.ref b] below meth c H locs kc ks (lw_Z below #[Value.ref b] s) (F0 m pc ls st)
section LA
variable {p : Program} {l : Launch} {e : Env} {s : State} {m : MethodId} {below : List Frame} {meth : Method} {c : Code} {D : va_G} {kT : Nat → ClassId} {ρ ρ2 : Nat → Nat} {b Ln : Nat} {xs : Nat → Int32} {A B : bw_M} {kc ks : Nat} {j pc : Nat} {st rest : List Value}
theorem la_nb (C : la_Cx p s m meth c D kT ρ ρ2 b Ln xs kc ks) : ¬ la_Af s b := fun h => by
  have h1 : s.heap.size ≤ b := h
  have h2 := C.2.2.2.2.2.2.2.2.2.1.2.1
  omega
theorem la_al1 (C : la_Cx p s m meth c D kT ρ ρ2 b Ln xs kc ks) (d : decode cL_law pc = .ok (.aload_n 1, 1)) (k : la_At p l e s m below meth c D kT ρ ρ2 b kc ks (pc + 1) (la_L b ρ ρ2 j) (.ref (ρ 0) :: st) A B) : la_At p l e s m below meth c D kT ρ ρ2 b kc ks pc (la_L b ρ ρ2 j) st A B := fun H locs ls hP hQ hS hl => lv_aload_n C.1 C.2.1 d rfl (lv_at hl 1 rfl) (k H locs ls hP hQ hS hl)
theorem la_al2 (C : la_Cx p s m meth c D kT ρ ρ2 b Ln xs kc ks) (d : decode cL_law pc = .ok (.aload_n 2, 1)) (k : la_At p l e s m below meth c D kT ρ ρ2 b kc ks (pc + 1) (la_L b ρ ρ2 j) (.ref (ρ2 0) :: st) A B) : la_At p l e s m below meth c D kT ρ ρ2 b kc ks pc (la_L b ρ ρ2 j) st A B := fun H locs ls hP hQ hS hl => lv_aload_n C.1 C.2.1 d rfl (lv_at hl 2 rfl) (k H locs ls hP hQ hS hl)
theorem la_vin {i n : Nat} (h : i < n) (hn : n < 2 ^ 31) : vp_in (nI i) n := nI_in h hn
theorem la_arg (C : la_Cx p s m meth c D kT ρ ρ2 b Ln xs kc ks) {kk : Nat} {i : Int} (hj : j + kk < Ln) (d0 : decode cL_law pc = .ok (.aload_n 0, 1)) (d1 : decode cL_law (pc + 1) = .ok (.iload_n 3, 1)) (d2 : decode cL_law (pc + 2) = .ok (.iconst i, 1)) (hi : Int32.ofInt i = nI kk) (d3 : decode cL_law (pc + 3) = .ok (.iadd, 1)) (d4 : decode cL_law (pc + 4) = .ok (.iaload, 1)) (k : la_At p l e s m below meth c D kT ρ ρ2 b kc ks (pc + 5) (la_L b ρ ρ2 j) (.int (xs (j + kk)) :: st) A B) : la_At p l e s m below meth c D kT ρ ρ2 b kc ks pc (la_L b ρ ρ2 j) st A B := fun H locs ls hP hQ hS hl => by
  obtain ⟨hX, hbl, h384⟩ := C.2.2.2.2.2.2.2.2.2.1
  refine lv_aload_n C.1 C.2.1 d0 rfl (lv_at hl 0 rfl) ?_
  refine lv_iload_n C.1 C.2.1 d1 rfl (lv_at hl 3 rfl) ?_
  refine lv_iconst C.1 C.2.1 d2 hi ?_
  refine lv_iadd C.1 C.2.1 d3 ?_
  rw [nI_add]
  refine va_sld C.1 C.2.1 hX hbl (la_nb C) hS (la_vin hj (by omega)) d4 ?_
  rw [nI_clamp (by omega)]
  exact k H locs ls hP hQ hS hl
theorem la_keptM (C : la_Cx p s m meth c D kT ρ ρ2 b Ln xs kc ks) {H H1 : Heap} (hQ : va_P D vwCl (bw_wo bw_shM 19 kT ρ2 B) H) (hk : ∀ q : Nat, q < H.size → ¬ bw_A ρ 45 q → H1[q]? = H[q]?) : va_P D vwCl (bw_wo bw_shM 19 kT ρ2 B) H1 := hQ.kept (fun k x hx => by
  have hl : k < 19 := by
    by_cases h : k < 19
    · exact h
    · simp [bw_wo, h] at hx
  have hlt := (hQ k x hx).lt
  refine hk _ hlt (fun z => ?_)
  obtain ⟨i, hi, e⟩ := z
  rw [bw_wo_get hl] at hx
  cases hx
  exact C.2.2.2.2.2.2.1.2.2 i k hi hl e.symm)
theorem la_keptC (C : la_Cx p s m meth c D kT ρ ρ2 b Ln xs kc ks) {H H1 : Heap} (hP : va_P D vwCl (bw_wo bw_shC 45 kT ρ A) H) (hk : ∀ q : Nat, q < H.size → ¬ bw_A ρ2 19 q → H1[q]? = H[q]?) : va_P D vwCl (bw_wo bw_shC 45 kT ρ A) H1 := hP.kept (fun k x hx => by
  have hl : k < 45 := by
    by_cases h : k < 45
    · exact h
    · simp [bw_wo, h] at hx
  have hlt := (hP k x hx).lt
  refine hk _ hlt (fun z => ?_)
  obtain ⟨i, hi, e⟩ := z
  rw [bw_wo_get hl] at hx
  cases hx
  exact C.2.2.2.2.2.2.1.2.2 k i hl hi e)
theorem la_cCi (C : la_Cx p s m meth c D kT ρ ρ2 b Ln xs kc ks) {y : MethodName} {rm : Room} {av : (Nat → Nat) → List Value} {r : Int32} {A' : bw_M} {ix na maxL : Nat} {bytes : ByteArray} {rt : Option FieldType} {As : List Value} {L : List (Nat × Value)} (hc : bw_CI l bw_shC 45 y bytes maxL rt rm av A r A') (hm : bw_MV y bytes maxL rt RX4 na) (hlk : Cond.methodLink RL ix y ∈ bw_tbl) (hrc : rm.cells = 0) (hrs : rm.slots = 0) (hrm : rm.frames + 1 ≤ room_1.frames ∧ 8 + (maxL + 11) + rm.locals ≤ room_1.locals) (hav : av ρ = .ref (ρ 0) :: As) (hn : As.length = na) (hst : st = As.reverse ++ .ref (ρ 0) :: rest) (hro : (rest.map fun v => v.category).sum ≤ 8) (d : decode cL_law pc = .ok (.invokevirtual ix, 3)) (k : la_At p l e s m below meth c D kT ρ ρ2 b kc ks (pc + 3) L (.int r :: rest) A' B) : la_At p l e s m below meth c D kT ρ ρ2 b kc ks pc L st A B := by
  intro H locs ls hP hQ hS hl
  have he : (bw_wo bw_shC 45 kT ρ A)[0]? = some (ρ 0, .inr (3, bw_fvs ρ A 0 0 [4, 11, 12, 17, 18, 19, 25, 31, 34, 44, 45, 46, 47, 0, 0, 1, 1])) := (bw_wo_get (by decide)).trans (by simp only [bw_ce, shC_0])
  have hM := hc D kT ρ
  rw [hav] at hM
  have hFa : ∀ q, bw_A ρ 45 q → la_Af s q := fun q h => by
    obtain ⟨i, hi, rfl⟩ := h
    exact C.2.2.2.2.2.2.2.1.1 i hi
  refine va_calli (va_runV (As := As) (rest := rest) ⟨C.1, C.2.1, C.2.2.1, C.2.2.2.1, C.2.2.2.2.1⟩ hM (cwV na C.2.2.2.2.1 (bw_gV hm hlk) rfl hrc hrs hm.2.2.2.2 hrm) ⟨bw_blind, va_recv (q := (RX4, TX4, 17)) C.2.2.2.2.2.1 hP rfl he, fun U hU hW => ⟨rfl, by rw [hU]; exact hP, va_K.moved hW.alike C.2.2.2.2.2.1, C.2.2.2.2.2.2.1.1⟩⟩ rfl hn hl.1 hst (lv_room hro) d ⟨C.2.2.2.2.2.2.2.2.2.2.1, C.2.2.2.2.2.2.2.2.2.2.2⟩) hS (fun q _ h => hFa q h) hFa (fun r' u t H1 locs1 ht hvm hw hB hz hk hS1 => ?_)
  subst hw
  exact k H1 locs1 ls (by rw [← ht]; exact hB) (la_keptM C hQ hk) hS1 hl
theorem la_cCl (C : la_Cx p s m meth c D kT ρ ρ2 b Ln xs kc ks) {y : MethodName} {rm : Room} {av : (Nat → Nat) → List Value} {r : Int64} {A' : bw_M} {ix na maxL : Nat} {bytes : ByteArray} {rt : Option FieldType} {As : List Value} {L : List (Nat × Value)} (hc : bw_CL l bw_shC 45 y bytes maxL rt rm av A r A') (hm : bw_MV y bytes maxL rt RX4 na) (hlk : Cond.methodLink RL ix y ∈ bw_tbl) (hrc : rm.cells = 0) (hrs : rm.slots = 0) (hrm : rm.frames + 1 ≤ room_1.frames ∧ 8 + (maxL + 11) + rm.locals ≤ room_1.locals) (hav : av ρ = .ref (ρ 0) :: As) (hn : As.length = na) (hst : st = As.reverse ++ .ref (ρ 0) :: rest) (hro : (rest.map fun v => v.category).sum ≤ 8) (d : decode cL_law pc = .ok (.invokevirtual ix, 3)) (k : la_At p l e s m below meth c D kT ρ ρ2 b kc ks (pc + 3) L (.long r :: rest) A' B) : la_At p l e s m below meth c D kT ρ ρ2 b kc ks pc L st A B := by
  intro H locs ls hP hQ hS hl
  have he : (bw_wo bw_shC 45 kT ρ A)[0]? = some (ρ 0, .inr (3, bw_fvs ρ A 0 0 [4, 11, 12, 17, 18, 19, 25, 31, 34, 44, 45, 46, 47, 0, 0, 1, 1])) := (bw_wo_get (by decide)).trans (by simp only [bw_ce, shC_0])
  have hM := hc D kT ρ
  rw [hav] at hM
  have hFa : ∀ q, bw_A ρ 45 q → la_Af s q := fun q h => by
    obtain ⟨i, hi, rfl⟩ := h
    exact C.2.2.2.2.2.2.2.1.1 i hi
  refine va_calll (va_runV (As := As) (rest := rest) ⟨C.1, C.2.1, C.2.2.1, C.2.2.2.1, C.2.2.2.2.1⟩ hM (cwV na C.2.2.2.2.1 (bw_gV hm hlk) rfl hrc hrs hm.2.2.2.2 hrm) ⟨bw_blind, va_recv (q := (RX4, TX4, 17)) C.2.2.2.2.2.1 hP rfl he, fun U hU hW => ⟨rfl, by rw [hU]; exact hP, va_K.moved hW.alike C.2.2.2.2.2.1, C.2.2.2.2.2.2.1.1⟩⟩ rfl hn hl.1 hst (lv_room hro) d ⟨C.2.2.2.2.2.2.2.2.2.2.1, C.2.2.2.2.2.2.2.2.2.2.2⟩) hS (fun q _ h => hFa q h) hFa (fun r' u t H1 locs1 ht hvm hw hB hz hk hS1 => ?_)
  subst hw
  exact k H1 locs1 ls (by rw [← ht]; exact hB) (la_keptM C hQ hk) hS1 hl
theorem la_cMi (C : la_Cx p s m meth c D kT ρ ρ2 b Ln xs kc ks) {y : MethodName} {rm : Room} {av : (Nat → Nat) → List Value} {r : Int32} {B' : bw_M} {ix na maxL : Nat} {bytes : ByteArray} {rt : Option FieldType} {As : List Value} {L : List (Nat × Value)} (hc : bw_CI l bw_shM 19 y bytes maxL rt rm av B r B') (hm : bw_MV y bytes maxL rt RX5 na) (hlk : Cond.methodLink RL ix y ∈ bw_tbl) (hrc : rm.cells = 0) (hrs : rm.slots = 0) (hrm : rm.frames + 1 ≤ room_1.frames ∧ 8 + (maxL + 11) + rm.locals ≤ room_1.locals) (hav : av ρ2 = .ref (ρ2 0) :: As) (hn : As.length = na) (hst : st = As.reverse ++ .ref (ρ2 0) :: rest) (hro : (rest.map fun v => v.category).sum ≤ 8) (d : decode cL_law pc = .ok (.invokevirtual ix, 3)) (k : la_At p l e s m below meth c D kT ρ ρ2 b kc ks (pc + 3) L (.int r :: rest) A B') : la_At p l e s m below meth c D kT ρ ρ2 b kc ks pc L st A B := by
  intro H locs ls hP hQ hS hl
  have he : (bw_wo bw_shM 19 kT ρ2 B)[0]? = some (ρ2 0, .inr (4, bw_fvs ρ2 B 0 0 [4, 5, 6, 7, 0, 1, 1, 0, 8, 0, 9, 10, 11, 12, 13, 14, 0, 15, 0, 0, 0, 0, 0, 0, 0, 16, 17, 18, 19, 20, 21])) := (bw_wo_get (by decide)).trans (by simp only [bw_ce, shM_0])
  have hM := hc D kT ρ2
  rw [hav] at hM
  have hFa : ∀ q, bw_A ρ2 19 q → la_Af s q := fun q h => by
    obtain ⟨i, hi, rfl⟩ := h
    exact C.2.2.2.2.2.2.2.1.2 i hi
  refine va_calli (va_runV (As := As) (rest := rest) ⟨C.1, C.2.1, C.2.2.1, C.2.2.2.1, C.2.2.2.2.1⟩ hM (cwV na C.2.2.2.2.1 (bw_gV hm hlk) rfl hrc hrs hm.2.2.2.2 hrm) ⟨bw_blind, va_recv (q := (RX5, TX5, 31)) C.2.2.2.2.2.1 hQ rfl he, fun U hU hW => ⟨rfl, by rw [hU]; exact hQ, va_K.moved hW.alike C.2.2.2.2.2.1, C.2.2.2.2.2.2.1.2.1⟩⟩ rfl hn hl.1 hst (lv_room hro) d ⟨C.2.2.2.2.2.2.2.2.2.2.1, C.2.2.2.2.2.2.2.2.2.2.2⟩) hS (fun q _ h => hFa q h) hFa (fun r' u t H1 locs1 ht hvm hw hB hz hk hS1 => ?_)
  subst hw
  exact k H1 locs1 ls (la_keptC C hP hk) (by rw [← ht]; exact hB) hS1 hl
theorem la_cMl (C : la_Cx p s m meth c D kT ρ ρ2 b Ln xs kc ks) {y : MethodName} {rm : Room} {av : (Nat → Nat) → List Value} {r : Int64} {B' : bw_M} {ix na maxL : Nat} {bytes : ByteArray} {rt : Option FieldType} {As : List Value} {L : List (Nat × Value)} (hc : bw_CL l bw_shM 19 y bytes maxL rt rm av B r B') (hm : bw_MV y bytes maxL rt RX5 na) (hlk : Cond.methodLink RL ix y ∈ bw_tbl) (hrc : rm.cells = 0) (hrs : rm.slots = 0) (hrm : rm.frames + 1 ≤ room_1.frames ∧ 8 + (maxL + 11) + rm.locals ≤ room_1.locals) (hav : av ρ2 = .ref (ρ2 0) :: As) (hn : As.length = na) (hst : st = As.reverse ++ .ref (ρ2 0) :: rest) (hro : (rest.map fun v => v.category).sum ≤ 8) (d : decode cL_law pc = .ok (.invokevirtual ix, 3)) (k : la_At p l e s m below meth c D kT ρ ρ2 b kc ks (pc + 3) L (.long r :: rest) A B') : la_At p l e s m below meth c D kT ρ ρ2 b kc ks pc L st A B := by
  intro H locs ls hP hQ hS hl
  have he : (bw_wo bw_shM 19 kT ρ2 B)[0]? = some (ρ2 0, .inr (4, bw_fvs ρ2 B 0 0 [4, 5, 6, 7, 0, 1, 1, 0, 8, 0, 9, 10, 11, 12, 13, 14, 0, 15, 0, 0, 0, 0, 0, 0, 0, 16, 17, 18, 19, 20, 21])) := (bw_wo_get (by decide)).trans (by simp only [bw_ce, shM_0])
  have hM := hc D kT ρ2
  rw [hav] at hM
  have hFa : ∀ q, bw_A ρ2 19 q → la_Af s q := fun q h => by
    obtain ⟨i, hi, rfl⟩ := h
    exact C.2.2.2.2.2.2.2.1.2 i hi
  refine va_calll (va_runV (As := As) (rest := rest) ⟨C.1, C.2.1, C.2.2.1, C.2.2.2.1, C.2.2.2.2.1⟩ hM (cwV na C.2.2.2.2.1 (bw_gV hm hlk) rfl hrc hrs hm.2.2.2.2 hrm) ⟨bw_blind, va_recv (q := (RX5, TX5, 31)) C.2.2.2.2.2.1 hQ rfl he, fun U hU hW => ⟨rfl, by rw [hU]; exact hQ, va_K.moved hW.alike C.2.2.2.2.2.1, C.2.2.2.2.2.2.1.2.1⟩⟩ rfl hn hl.1 hst (lv_room hro) d ⟨C.2.2.2.2.2.2.2.2.2.2.1, C.2.2.2.2.2.2.2.2.2.2.2⟩) hS (fun q _ h => hFa q h) hFa (fun r' u t H1 locs1 ht hvm hw hB hz hk hS1 => ?_)
  subst hw
  exact k H1 locs1 ls (la_keptC C hP hk) (by rw [← ht]; exact hB) hS1 hl
theorem la_eqi (C : la_Cx p s m meth c D kT ρ ρ2 b Ln xs kc ks) {r : Int32} {off : Int} {L : List (Nat × Value)} (tgt : Nat) (d : decode cL_law pc = .ok (.if_icmp .eq off, 3)) (ht : (pc : Int) + off = (tgt : Int)) (k : la_At p l e s m below meth c D kT ρ ρ2 b kc ks tgt L st A B) : la_At p l e s m below meth c D kT ρ ρ2 b kc ks pc L (.int r :: .int r :: st) A B := fun H locs ls hP hQ hS hl => lv_icmp_eq C.1 C.2.1 d ht (fun _ => k H locs ls hP hQ hS hl) (fun q => absurd rfl q)
theorem la_eql (C : la_Cx p s m meth c D kT ρ ρ2 b Ln xs kc ks) {r : Int64} {off : Int} {L : List (Nat × Value)} (tgt : Nat) (d : decode cL_law pc = .ok (.lcmp, 1)) (d2 : decode cL_law (pc + 1) = .ok (.ifCond .eq off, 3)) (ht : ((pc + 1 : Nat) : Int) + off = (tgt : Int)) (k : la_At p l e s m below meth c D kT ρ ρ2 b kc ks tgt L st A B) : la_At p l e s m below meth c D kT ρ ρ2 b kc ks pc L (.long r :: .long r :: st) A B := fun H locs ls hP hQ hS hl => by
  refine W.lcmp C.1 C.2.1 d ?_
  have e : lg_cmp r r = 0 := by
    unfold lg_cmp
    rw [if_neg (fun h => by
      have := Int64.lt_iff_toInt_lt.mp h
      omega), if_pos rfl]
  refine lv_if_eq C.1 C.2.1 d2 ht (fun _ => k H locs ls hP hQ hS hl) (fun q => absurd e q)
end LA
