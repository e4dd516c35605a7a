/-! A world that grows: constructors -/
theorem raU {s : State} {cA cB : ClassId} {ty : FieldType} (h1 : va_RA s cA ty) (h2 : va_RA s cB ty) : cA = cB := by
  cases ty with
  | object C =>
    obtain ⟨kA, comp, -, -, -, e1⟩ := h1
    obtain ⟨kB, comp', -, -, -, e2⟩ := h2
    exact Option.some.inj (e1.symm.trans e2)
  | _ => exact Option.some.inj ((show s.vm.findClass _ = some cA from h1).symm.trans h2)
theorem kU {D : va_G} {cl : List vw_C} {tys : List (ClassId × FieldType)} {s : State} {cA cB : ClassId} {ty : FieldType} {k : Nat} (hK : va_K D cl tys s) (hk : tys[k]? = some (cB, ty)) (h2 : va_K D cl (tys ++ [(cA, ty)]) s) : cA = cB :=
  raU ((h2.2 tys.length (cA, ty) (by simp)).2) ((hK.2 k _ hk).2)
/-- the callee's cells stand last: what came back beside the rest -/
theorem gw_join {A0 : Nat → Prop} {D : va_G} {cl : List vw_C} {wr wc w1 : va_W} {H H1 : Heap} (hP : va_P D cl (wr ++ wc) H) (hD : va_D A0 (wr ++ wc)) (hk : ∀ q : Nat, q < H.size → ¬ va_A wc H.size q → H1[q]? = H[q]?) (hf : ∀ q, va_A wc H.size q → A0 q) (hP1 : va_P D cl w1 H1) (hD1 : va_D (va_A wc H.size) w1) : va_P D cl (wr ++ w1) H1 ∧ va_D A0 (wr ++ w1) := by
  have hw : ∀ (k : Nat) (x : Nat × va_E), wr[k]? = some x → (wr ++ wc)[k]? = some x := fun k x hx => by
    rw [List.getElem?_append_left (List.getElem?_eq_some_iff.mp hx).1]; exact hx
  have hno : ∀ (k : Nat) (x : Nat × va_E), wr[k]? = some x → x.1 < H.size ∧ ¬ va_A wc H.size x.1 := fun k x hx => by
    have hlt := (hP k x (hw k x hx)).lt
    refine ⟨hlt, fun q => ?_⟩
    rcases q with ⟨j, e, hj⟩ | q
    · have hk9 := (List.getElem?_eq_some_iff.mp hx).1
      have := hD.1 k (wr.length + j) x (x.1, e) (hw k x hx) (by rw [List.getElem?_append_right (by omega), show wr.length + j - wr.length = j by omega]; exact hj) rfl
      omega
    · omega
  refine ⟨va_P.app (fun k x hx => (hP k x (hw k x hx)).kept (hk _ (hno k x hx).1 (hno k x hx).2)) hP1, ?_, ?_⟩
  · intro i j x y hi hj hxy
    by_cases h1 : i < wr.length <;> by_cases h2 : j < wr.length
    · rw [List.getElem?_append_left h1] at hi
      rw [List.getElem?_append_left h2] at hj
      exact hD.1 i j x y (hw i x hi) (hw j y hj) hxy
    · rw [List.getElem?_append_left h1] at hi
      rw [List.getElem?_append_right (by omega)] at hj
      exact absurd (by rw [hxy]; exact hD1.2 _ y hj) (hno i x hi).2
    · rw [List.getElem?_append_right (by omega)] at hi
      rw [List.getElem?_append_left h2] at hj
      exact absurd (by rw [← hxy]; exact hD1.2 _ x hi) (hno j y hj).2
    · rw [List.getElem?_append_right (by omega)] at hi hj
      have := hD1.1 _ _ x y hi hj hxy
      omega
  · intro k x hx
    by_cases h1 : k < wr.length
    · rw [List.getElem?_append_left h1] at hx
      exact hD.2 k x (hw k x hx)
    · rw [List.getElem?_append_right (by omega)] at hx
      exact hf _ (hD1.2 _ x hx)
theorem gw_free {A0 : Nat → Prop} {wr wc : va_W} {H0 H : Heap} {locs : List Loc} (hD : va_D A0 (wr ++ wc)) (hS : va_S A0 H0 H locs) (hA : ∀ q, H0.size ≤ q → A0 q) : ∀ q, va_A wc H.size q → A0 q := fun q h => by
  rcases h with ⟨j, e, hj⟩ | h
  · exact hD.2 (wr.length + j) (q, e) (by rw [List.getElem?_append_right (by omega), show wr.length + j - wr.length = j by omega]; exact hj)
  · exact hA q (Nat.le_trans hS.1 h)
def va_AOA (ty : FieldType) (U : State) : Prop := (Cond.arrayOver (.array ty)).before #[] U = true
theorem va_AOA.of {ty : FieldType} {A : Array Value} {U : State} (h : (Cond.arrayOver (.array ty)).before A U = true) : va_AOA ty U := h
theorem va_AOA.use {ty : FieldType} {A : Array Value} {U : State} (h : va_AOA ty U) : (Cond.arrayOver (.array ty)).before A U = true := h
def gw_Pr (D : va_G) (kT : Nat → ClassId) (ws : va_W) (sz : Nat) (F : State → Prop) : State → Prop := fun U => U.heap.size = sz ∧ va_P D vwCl ws U.heap ∧ va_K D vwCl (bw_ty kT) U ∧ va_D (fun _ => True) ws ∧ F U
def gw_B (D : va_G) {S : Type} (res : S → va_W) (A : Nat → Prop) : S → State → Prop := fun u t => va_P D vwCl (res u) t.heap ∧ va_D A (res u)
/-- a constructor's contract: object h0 with the cells ws0, facts F; behind it the cells res u -/
def gw_C (l : Launch) (y : MethodName) (cc : ByteArray) (nL : Nat) (rm : Room) (h0 : Nat) (ws0 : va_W) (F : State → Prop) {S : Type} (res : (Nat → ClassId) → S → va_W) (post : S → Prop) (mc ms : Nat) : Prop := ∀ (D : va_G) (kT : Nat → ClassId) (sz : Nat), Met l y (bw_ws y cc nL none) rm (va_Pc [.ref h0] (gw_Pr D kT ws0 sz F)) (va_Qv post (gw_B D (res kT) (va_A ws0 sz)) (va_A ws0 sz)) mc ms (va_A ws0 sz)
theorem gw_outer (c : ClassId) (N h0 : Nat) : ∀ i : Nat, Jvm.Free.Multi.outerC c N h0 i = arrV c N (fun j => va_rf (if j < i then some (h0 + 1 + j) else none))
  | 0 => by
    show ({ cls := c, slots := Array.replicate N .null, vm := .none } : Cell) = _
    rw [arrV_new]
    refine congrArg (arrV c N) (funext fun j => ?_)
    simp [va_rf]
  | i + 1 => by
    show (Jvm.Free.Multi.outerC c N h0 i).setSlot i (.ref (h0 + 1 + i)) = _
    rw [gw_outer c N h0 i, arrV_store]
    refine congrArg (arrV c N) (funext fun j => ?_)
    by_cases e : j = i
    · subst e
      simp [updV, va_rf]
    · by_cases h : j < i
      · simp [updV, e, h, Nat.lt_succ_of_lt h]
      · simp [updV, e, h, show ¬ j < i + 1 by omega]
section GR
variable {p : Program} {l : Launch} {e : Env} {R : Room} {s : State} {m : MethodId} {args : Array Value} {below : List Frame} {meth : Method} {c : Code} {Q : State → Prop}
variable {D : va_G} {kT : Nat → ClassId} {A : Nat → Prop} {cc : ByteArray} {nL : Nat} {own : String} {rt : Option FieldType}
variable {pc : Nat} {L : List (Nat × Value)} {st rest : List Value} {ws : va_W} {kc ks : Nat}
def gw_At (p : Program) (l : Launch) (e : Env) (R : Room) (s : State) (m : MethodId) (args : Array Value) (below : List Frame) (meth : Method) (c : Code) (Q : State → Prop) (D : va_G) (A : Nat → Prop) (nL : Nat) (pc : Nat) (L : List (Nat × Value)) (st : List Value) (ws : va_W) (kc ks : Nat) : Prop :=
  ∀ (H : Heap) (locs : List Loc) (ls : Array Slot), va_P D vwCl ws H → va_D A ws → va_S A s.heap H locs → lv_has ls nL L → W p l e R s m args below meth c H locs kc ks Q (F0 m pc ls st)
def gw_Cx (p : Program) (s : State) (m : MethodId) (args : Array Value) (meth : Method) (c : Code) (cc : ByteArray) (nL : Nat) (own : String) (D : va_G) (kT : Nat → ClassId) (A : Nat → Prop) (rt : Option FieldType) : Prop :=
  p.tables.exec = Jvm.exec ∧ c.code = cc ∧ c.maxLocals = nL ∧ s.vm.findClass own = some m.cls ∧ (∀ w ∈ bw_tbl, w.before args s = true) ∧ va_K D vwCl (bw_ty kT) s ∧ meth.sig.returnType = rt ∧ meth.locks = false ∧ ∀ q, s.heap.size ≤ q → A q
theorem gw_iconst (C : gw_Cx p s m args meth c cc nL own D kT A rt) {i : Int} {v : Int32} (d : decode cc pc = .ok (.iconst i, 1)) (hv : Int32.ofInt i = v) (k : gw_At p l e R s m args below meth c Q D A nL (pc + 1) L (.int v :: st) ws kc ks) : gw_At p l e R s m args below meth c Q D A nL pc L st ws kc ks := fun H locs ls hP hD hS hl => lv_iconst C.1 C.2.1 d hv (k H locs ls hP hD hS hl)
theorem gw_bipush (C : gw_Cx p s m args meth c cc nL own D kT A rt) {i : Int} {v : Int32} (d : decode cc pc = .ok (.bipush i, 2)) (hv : (Int8.ofInt i).toInt32 = v) (k : gw_At p l e R s m args below meth c Q D A nL (pc + 2) L (.int v :: st) ws kc ks) : gw_At p l e R s m args below meth c Q D A nL pc L st ws kc ks := fun H locs ls hP hD hS hl => lv_bipush C.1 C.2.1 d hv (k H locs ls hP hD hS hl)
theorem gw_sipush (C : gw_Cx p s m args meth c cc nL own D kT A rt) {i : Int} {v : Int32} (d : decode cc pc = .ok (.sipush i, 3)) (hv : (Int16.ofInt i).toInt32 = v) (k : gw_At p l e R s m args below meth c Q D A nL (pc + 3) L (.int v :: st) ws kc ks) : gw_At p l e R s m args below meth c Q D A nL pc L st ws kc ks := fun H locs ls hP hD hS hl => lv_sipush C.1 C.2.1 d hv (k H locs ls hP hD hS hl)
theorem gw_lconst (C : gw_Cx p s m args meth c cc nL own D kT A rt) {i : Fin 2} {v : Int64} (d : decode cc pc = .ok (.lconst i, 1)) (hv : Int64.ofNat (i : Nat) = v) (k : gw_At p l e R s m args below meth c Q D A nL (pc + 1) L (.long v :: st) ws kc ks) : gw_At p l e R s m args below meth c Q D A nL pc L st ws kc ks := fun H locs ls hP hD hS hl => lv_lconst C.1 C.2.1 d hv (k H locs ls hP hD hS hl)
theorem gw_null (C : gw_Cx p s m args meth c cc nL own D kT A rt) (d : decode cc pc = .ok (.aconst_null, 1)) (k : gw_At p l e R s m args below meth c Q D A nL (pc + 1) L (.null :: st) ws kc ks) : gw_At p l e R s m args below meth c Q D A nL pc L st ws kc ks := fun H locs ls hP hD hS hl => lv_null C.1 C.2.1 d (k H locs ls hP hD hS hl)
theorem gw_aload_n (C : gw_Cx p s m args meth c cc nL own D kT A rt) {i : Fin 4} {j : Nat} {x : Nat} (k0 : Nat) (d : decode cc pc = .ok (.aload_n i, 1)) (hi : (i : Nat) = j) (hL : L[k0]? = some (j, .ref x)) (k : gw_At p l e R s m args below meth c Q D A nL (pc + 1) L (.ref x :: st) ws kc ks) : gw_At p l e R s m args below meth c Q D A nL pc L st ws kc ks := fun H locs ls hP hD hS hl => lv_aload_n C.1 C.2.1 d hi (lv_at hl k0 hL) (k H locs ls hP hD hS hl)
theorem gw_iload_n (C : gw_Cx p s m args meth c cc nL own D kT A rt) {i : Fin 4} {j : Nat} {x : Int32} (k0 : Nat) (d : decode cc pc = .ok (.iload_n i, 1)) (hi : (i : Nat) = j) (hL : L[k0]? = some (j, .int x)) (k : gw_At p l e R s m args below meth c Q D A nL (pc + 1) L (.int x :: st) ws kc ks) : gw_At p l e R s m args below meth c Q D A nL pc L st ws kc ks := fun H locs ls hP hD hS hl => lv_iload_n C.1 C.2.1 d hi (lv_at hl k0 hL) (k H locs ls hP hD hS hl)
theorem gw_istore_n (C : gw_Cx p s m args meth c cc nL own D kT A rt) {i : Fin 4} {j : Nat} {x : Int32} {L' : List (Nat × Value)} (d : decode cc pc = .ok (.istore_n i, 1)) (hi : (i : Nat) = j) (hn : j < nL) (hL : (j, Value.int x) :: L.filter (fun q => !(q.1 == j) && !(q.1 + 1 == j && q.2.category == 2)) = L') (k : gw_At p l e R s m args below meth c Q D A nL (pc + 1) L' st ws kc ks) : gw_At p l e R s m args below meth c Q D A nL pc L (.int x :: st) ws kc ks := fun H locs ls hP hD hS hl => lv_istore_n C.1 C.2.1 d hi hl hn hL (fun ls' hl' => k H locs ls' hP hD hS hl')
theorem gw_astore_n (C : gw_Cx p s m args meth c cc nL own D kT A rt) {i : Fin 4} {j : Nat} {x : Nat} {L' : List (Nat × Value)} (d : decode cc pc = .ok (.astore_n i, 1)) (hi : (i : Nat) = j) (hn : j < nL) (hL : (j, Value.ref x) :: L.filter (fun q => !(q.1 == j) && !(q.1 + 1 == j && q.2.category == 2)) = L') (k : gw_At p l e R s m args below meth c Q D A nL (pc + 1) L' st ws kc ks) : gw_At p l e R s m args below meth c Q D A nL pc L (.ref x :: st) ws kc ks := fun H locs ls hP hD hS hl => lv_astore_n C.1 C.2.1 d hi hl hn hL (fun ls' hl' => k H locs ls' hP hD hS hl')
theorem gw_iinc (C : gw_Cx p s m args meth c cc nL own D kT A rt) {j : Nat} {i : Int} {x0 x : Int32} {L' : List (Nat × Value)} (k0 : Nat) (d : decode cc pc = .ok (.iinc j i, 3)) (h0 : L[k0]? = some (j, .int x0)) (hv : x0 + Int32.ofInt i = x) (hn : j < nL) (hL : (j, Value.int x) :: L.filter (fun q => !(q.1 == j) && !(q.1 + 1 == j && q.2.category == 2)) = L') (k : gw_At p l e R s m args below meth c Q D A nL (pc + 3) L' st ws kc ks) : gw_At p l e R s m args below meth c Q D A nL pc L st ws kc ks := fun H locs ls hP hD hS hl => lv_iinc C.1 C.2.1 d hl h0 hv hn hL (fun ls' hl' => k H locs ls' hP hD hS hl')
theorem gw_dup (C : gw_Cx p s m args meth c cc nL own D kT A rt) {va : Value} (d : decode cc pc = .ok (.dup, 1)) (h1 : va.category = 1) (k : gw_At p l e R s m args below meth c Q D A nL (pc + 1) L (va :: va :: st) ws kc ks) : gw_At p l e R s m args below meth c Q D A nL pc L (va :: st) ws kc ks := fun H locs ls hP hD hS hl => lv_dup C.1 C.2.1 d h1 (k H locs ls hP hD hS hl)
theorem gw_goto (C : gw_Cx p s m args meth c cc nL own D kT A rt) {off : Int} (tgt : Nat) (d : decode cc pc = .ok (.goto off, 3)) (ht : (pc : Int) + off = (tgt : Int)) (k : gw_At p l e R s m args below meth c Q D A nL tgt L st ws kc ks) : gw_At p l e R s m args below meth c Q D A nL pc L st ws kc ks := fun H locs ls hP hD hS hl => lv_goto C.1 C.2.1 d ht (k H locs ls hP hD hS hl)
theorem gw_geT (C : gw_Cx p s m args meth c cc nL own D kT A rt) {x y : Int32} {off : Int} (tgt : Nat) (d : decode cc pc = .ok (.if_icmp .ge off, 3)) (ht : (pc : Int) + off = (tgt : Int)) (h : y ≤ x) (k : gw_At p l e R s m args below meth c Q D A nL tgt L st ws kc ks) : gw_At p l e R s m args below meth c Q D A nL pc L (.int y :: .int x :: st) ws kc ks := fun H locs ls hP hD hS hl => lv_icmp_ge C.1 C.2.1 d ht (fun _ => k H locs ls hP hD hS hl) (fun q => absurd h q)
theorem gw_geF (C : gw_Cx p s m args meth c cc nL own D kT A rt) {x y : Int32} {off : Int} (tgt : Nat) (d : decode cc pc = .ok (.if_icmp .ge off, 3)) (ht : (pc : Int) + off = (tgt : Int)) (h : ¬ y ≤ x) (k : gw_At p l e R s m args below meth c Q D A nL (pc + 3) L st ws kc ks) : gw_At p l e R s m args below meth c Q D A nL pc L (.int y :: .int x :: st) ws kc ks := fun H locs ls hP hD hS hl => lv_icmp_ge C.1 C.2.1 d ht (fun q => absurd q h) (fun _ => k H locs ls hP hD hS hl)
theorem gw_obj (C : gw_Cx p s m args meth c cc nL own D kT A rt) {ix x : Nat} (h1 : Cond.methodLink own ix Lib.objectInit ∈ bw_tbl) (h2 : Cond.instanceMethod Lib.objectInit ∈ bw_tbl) (h3 : Cond.code Lib.objectInit ⟨#[0xb1]⟩ 1 none ∈ bw_tbl) (hfr : 1 ≤ R.frames) (hlo : (st.map fun v => v.category).sum + 12 ≤ R.locals) (d : decode cc pc = .ok (.invokespecial ix, 3)) (k : gw_At p l e R s m args below meth c Q D A nL (pc + 3) L st ws kc ks) : gw_At p l e R s m args below meth c Q D A nL pc L (.ref x :: st) ws kc ks := fun H locs ls hP hD hS hl => W.objInit C.1 C.2.1 C.2.2.2.1 (C.2.2.2.2.1 _ h1) (C.2.2.2.2.1 _ h2) (C.2.2.2.2.1 _ h3) rfl (by rw [C.2.2.1]; exact hl.1) rfl d hfr (by show 2 * 0 + _ + 12 ≤ _; omega) (W.eq (g2 := F0 m (pc + 3) ls st) rfl (k H locs ls hP hD hS hl))
theorem gw_newa (C : gw_Cx p s m args meth c cc nL own D kT A rt) {n : Int32} {N : Nat} (hn : ¬ n < 0) (hN : n.toNatClampNeg = N) (hb : N * 4 ≤ 536870912) (h1 : kc + 1 ≤ R.cells) (h2 : ks + N ≤ R.slots) (d : decode cc pc = .ok (.newarray .int, 2)) (k : ∀ q : Nat, gw_At p l e R s m args below meth c Q D A nL (pc + 2) L (.ref q :: st) (ws ++ [(q, .inl (kT 0, N, .inl (fun _ => 0)))]) (kc + 1) (ks + N)) : gw_At p l e R s m args below meth c Q D A nL pc L (.int n :: st) ws kc ks := by
  intro H locs ls hP hD hS hl
  refine va_newa (atype := .int) (ty := .int) (a0 := (N, .inl (fun _ => 0))) C.1 C.2.1 (C.2.2.2.2.1 _ mw_39) rfl C.2.2.2.2.2.1 hP hD hS C.2.2.2.2.2.2.2.2 (fun cA => rfl) hn hN hb h1 h2 d (fun q cA H1 hK hP1 hD1 hS1 => ?_)
  have e : cA = kT 0 := kU C.2.2.2.2.2.1 (k := 0) rfl hK
  subst e
  exact k q H1 locs ls hP1 hD1 hS1 hl
theorem gw_newq (C : gw_Cx p s m args meth c cc nL own D kT A rt) {n : Int32} {N ix : Nat} (hlk : Cond.classLink own ix "BlowerBreath$Deeds" ∈ bw_tbl) (ho : va_AO "BlowerBreath$Deeds" s) (hn : ¬ n < 0) (hN : n.toNatClampNeg = N) (hb : N * 4 ≤ 536870912) (h1 : kc + 1 ≤ R.cells) (h2 : ks + N ≤ R.slots) (d : decode cc pc = .ok (.anewarray ix, 3)) (k : ∀ q : Nat, gw_At p l e R s m args below meth c Q D A nL (pc + 3) L (.ref q :: st) (ws ++ [(q, .inl (kT 4, N, .inr (.inr (.inr (.inr (fun _ => none))))))]) (kc + 1) (ks + N)) : gw_At p l e R s m args below meth c Q D A nL pc L (.int n :: st) ws kc ks := by
  intro H locs ls hP hD hS hl
  refine va_newq (C := "BlowerBreath$Deeds") C.1 C.2.1 C.2.2.2.1 (C.2.2.2.2.1 _ hlk) ho C.2.2.2.2.2.1 hP hD hS C.2.2.2.2.2.2.2.2 hn hN hb h1 h2 d (fun q cA H1 hK hP1 hD1 hS1 => ?_)
  have e : cA = kT 4 := kU C.2.2.2.2.2.1 (k := 4) rfl hK
  subst e
  exact k q H1 locs ls hP1 hD1 hS1 hl
theorem gw_new (C : gw_Cx p s m args meth c cc nL own D kT A rt) {C0 : String} {T : u_T} {N ci ix : Nat} (ty : Nat → FieldType) (hty : ∀ k, k < N → parseFieldDescriptor (T k).2.2.1 = some (ty k)) (hin : ∀ w ∈ u_ws C0 T N, w ∈ bw_tbl) (hlk : Cond.classLink own ix C0 ∈ bw_tbl) (hi : Cond.instantiable C0 N ∈ bw_tbl) (hz : Cond.initialized C0 ∈ bw_tbl) (hc : vwCl[ci]? = some (C0, T, N)) {fs : List Value} (hfs : ∀ j, j < N → defaultValue (ty j) = vp_V fs j) (h1 : kc + 1 ≤ R.cells) (h2 : ks + N ≤ R.slots) (d : decode cc pc = .ok (.new ix, 3)) (k : ∀ q : Nat, gw_At p l e R s m args below meth c Q D A nL (pc + 3) L (.ref q :: st) (ws ++ [(q, .inr (ci, fs))]) (kc + 1) (ks + N)) : gw_At p l e R s m args below meth c Q D A nL pc L st ws kc ks := fun H locs ls hP hD hS hl => va_new C.1 C.2.1 C.2.2.2.2.1 hin ty hty C.2.2.2.1 (C.2.2.2.2.1 _ hlk) (C.2.2.2.2.1 _ hi) (C.2.2.2.2.1 _ hz) C.2.2.2.2.2.1 hP hD hS C.2.2.2.2.2.2.2.2 hc hfs h1 h2 d (fun q H1 hP1 hD1 hS1 => k q H1 locs ls hP1 hD1 hS1 hl)
theorem gw_put (C : gw_Cx p s m args meth c cc nL own D kT A rt) {C0 : String} {T : u_T} {N ci ix a : Nat} (ty0 : Nat → FieldType) (hty : ∀ k, k < N → parseFieldDescriptor (T k).2.2.1 = some (ty0 k)) (hnm : ∀ a, a < N → ∀ b, b < N → a ≠ b → (T a).2.1 ≠ (T b).2.1) (hin : ∀ w ∈ u_ws C0 T N, w ∈ bw_tbl) (hc : vwCl[ci]? = some (C0, T, N)) (q0 : Nat) {fs : List Value} (he : ws[q0]? = some (a, .inr (ci, fs))) (k0 : Nat) (hk : k0 < N) (hlk : Cond.fieldLink own ix (T k0).1 (T k0).2.1 (T k0).2.2.1 ∈ bw_tbl) (hfin : (T k0).2.2.2 = false) {ty : FieldType} {v : Value} (hd : parseFieldDescriptor (T k0).2.2.1 = some ty) (hn : narrow ty v = v) (hfit : fits ty v = true) (hl0 : k0 < fs.length) {ws' : va_W} (hw : ws.set q0 (a, .inr (ci, fs.set k0 v)) = ws') (d : decode cc pc = .ok (.putfield ix, 3)) (k : gw_At p l e R s m args below meth c Q D A nL (pc + 3) L st ws' kc ks) : gw_At p l e R s m args below meth c Q D A nL pc L (v :: .ref a :: st) ws kc ks := by
  subst hw
  exact fun H locs ls hP hD hS hl => va_put C.1 C.2.1 C.2.2.2.2.1 hin ty0 hty hnm C.2.2.2.1 C.2.2.2.2.2.1 hP hD hS q0 he hc k0 hk (C.2.2.2.2.1 _ hlk) (fun _ h9 => h9) hfin hd hn hfit hl0 d (fun H1 locs1 hP1 hD1 hS1 => k H1 locs1 ls hP1 hD1 hS1 hl)
theorem gw_putF (C : gw_Cx p s m args meth c cc nL own D kT A rt) (hin2 : meth.name = "<init>") {C0 : String} {T : u_T} {N ci ix a : Nat} (ty0 : Nat → FieldType) (hty : ∀ k, k < N → parseFieldDescriptor (T k).2.2.1 = some (ty0 k)) (hnm : ∀ a, a < N → ∀ b, b < N → a ≠ b → (T a).2.1 ≠ (T b).2.1) (hin : ∀ w ∈ u_ws C0 T N, w ∈ bw_tbl) (hc : vwCl[ci]? = some (C0, T, N)) (q0 : Nat) {fs : List Value} (he : ws[q0]? = some (a, .inr (ci, fs))) (k0 : Nat) (hk : k0 < N) (hlk : Cond.fieldLink own ix (T k0).1 (T k0).2.1 (T k0).2.2.1 ∈ bw_tbl) (hfin : (T k0).2.2.2 = true) (hdecl : (T k0).1 = own) {ty : FieldType} {v : Value} (hd : parseFieldDescriptor (T k0).2.2.1 = some ty) (hn : narrow ty v = v) (hfit : fits ty v = true) (hl0 : k0 < fs.length) {ws' : va_W} (hw : ws.set q0 (a, .inr (ci, fs.set k0 v)) = ws') (d : decode cc pc = .ok (.putfield ix, 3)) (k : gw_At p l e R s m args below meth c Q D A nL (pc + 3) L st ws' kc ks) : gw_At p l e R s m args below meth c Q D A nL pc L (v :: .ref a :: st) ws kc ks := by
  subst hw
  exact fun H locs ls hP hD hS hl => va_putF C.1 C.2.1 C.2.2.2.2.1 hin ty0 hty hnm C.2.2.2.1 C.2.2.2.2.2.1 hP hD hS q0 he hc k0 hk (C.2.2.2.2.1 _ hlk) (fun _ h9 => h9) hfin hin2 hdecl hd hn hfit hl0 d (fun H1 locs1 hP1 hD1 hS1 => k H1 locs1 ls hP1 hD1 hS1 hl)
theorem gw_get (C : gw_Cx p s m args meth c cc nL own D kT A rt) {C0 : String} {T : u_T} {N ci ix a : Nat} (hin : ∀ w ∈ u_ws C0 T N, w ∈ bw_tbl) (hc : vwCl[ci]? = some (C0, T, N)) (q0 : Nat) {fs : List Value} (he : ws[q0]? = some (a, .inr (ci, fs))) (k0 : Nat) (hk : k0 < N) (hlk : Cond.fieldLink own ix (T k0).1 (T k0).2.1 (T k0).2.2.1 ∈ bw_tbl) {v : Value} (hv : fs[k0]? = some v) (d : decode cc pc = .ok (.getfield ix, 3)) (k : gw_At p l e R s m args below meth c Q D A nL (pc + 3) L (v :: st) ws kc ks) : gw_At p l e R s m args below meth c Q D A nL pc L (.ref a :: st) ws kc ks := fun H locs ls hP hD hS hl => va_get C.1 C.2.1 C.2.2.2.2.1 hin C.2.2.2.1 C.2.2.2.2.2.1 hP q0 he hc k0 hk (C.2.2.2.2.1 _ hlk) (fun _ h9 => h9) hv d (k H locs ls hP hD hS hl)
theorem gw_iast (C : gw_Cx p s m args meth c cc nL own D kT A rt) (q0 : Nat) {a n i0 : Nat} {f : Nat → Int32} (he : ws[q0]? = some (a, .inl (kT 0, n, .inl f))) {i x : Int32} (hin : vp_in i n) (hi : i.toNatClampNeg = i0) {ws' : va_W} (hw : ws.set q0 (a, .inl (kT 0, n, .inl (upd f i0 x))) = ws') (d : decode cc pc = .ok (.iastore, 1)) (k : gw_At p l e R s m args below meth c Q D A nL (pc + 1) L st ws' kc ks) : gw_At p l e R s m args below meth c Q D A nL pc L (.int x :: .int i :: .ref a :: st) ws kc ks := by
  subst hi
  subst hw
  exact fun H locs ls hP hD hS hl => va_iast C.1 C.2.1 C.2.2.2.2.2.1 hP hD hS q0 0 he rfl hin d (fun H1 locs1 hP1 hD1 hS1 => k H1 locs1 ls hP1 hD1 hS1 hl)
theorem gw_aast (C : gw_Cx p s m args meth c cc nL own D kT A rt) (q0 qk : Nat) {a n i0 v : Nat} {vs : List Value} {f : Nat → Option Nat} (he : ws[q0]? = some (a, .inl (kT 4, n, .inr (.inr (.inr (.inr f)))))) (hv : ws[qk]? = some (v, .inr (0, vs))) {i : Int32} (hin : vp_in i n) (hi : i.toNatClampNeg = i0) {ws' : va_W} (hw : ws.set q0 (a, .inl (kT 4, n, .inr (.inr (.inr (.inr (va_up f i0 (some v))))))) = ws') (d : decode cc pc = .ok (.aastore, 1)) (k : gw_At p l e R s m args below meth c Q D A nL (pc + 1) L st ws' kc ks) : gw_At p l e R s m args below meth c Q D A nL pc L (.ref v :: .int i :: .ref a :: st) ws kc ks := by
  subst hi
  subst hw
  exact fun H locs ls hP hD hS hl => va_astq (r := (RX0, TX0, 3)) C.1 C.2.1 C.2.2.2.2.2.1 hP hD hS q0 4 qk 0 he rfl hv rfl hin d (fun H1 locs1 hP1 hD1 hS1 => k H1 locs1 ls hP1 hD1 hS1 hl)
theorem gw_aald (C : gw_Cx p s m args meth c cc nL own D kT A rt) (q0 : Nat) {a n v : Nat} {f : Nat → Option Nat} (he : ws[q0]? = some (a, .inl (kT 4, n, .inr (.inr (.inr (.inr f)))))) {i : Int32} (hin : vp_in i n) (hv : f i.toNatClampNeg = some v) (d : decode cc pc = .ok (.aaload, 1)) (k : gw_At p l e R s m args below meth c Q D A nL (pc + 1) L (.ref v :: st) ws kc ks) : gw_At p l e R s m args below meth c Q D A nL pc L (.int i :: .ref a :: st) ws kc ks := fun H locs ls hP hD hS hl => va_aldq (C := "BlowerBreath$Deeds") C.1 C.2.1 C.2.2.2.2.2.1 hP q0 4 he rfl hin d (by rw [hv]; exact k H locs ls hP hD hS hl)
theorem gw_blind {av : List Value} {ws0 : va_W} {sz : Nat} {F : State → Prop} (hF : ∀ (U : State) (g : JFrame) (mk : MethodId) (a : Array Value), F U → F (U.calling g mk a)) : FrameBlind (va_Pc av (gw_Pr D kT ws0 sz F)) := fun a U g mk q => by
  obtain ⟨q0, q1, qP, qK, qD, qF⟩ := q
  exact ⟨q0, q1, qP, va_K.moved (u := U) (U := U.calling g mk a) (Vm.Alike.refl U.vm) qK, qD, hF U g mk a qF⟩
theorem gw_cIN (C : gw_Cx p s m args meth c cc nL own D kT A rt) {y : MethodName} {bytes : ByteArray} {maxL ix mc ms h0 : Nat} {rm : Room} {host : String} {ws0 wr : va_W} {F : State → Prop} {S : Type} {res : (Nat → ClassId) → S → va_W} {post : S → Prop} (hc : gw_C l y bytes maxL rm h0 ws0 F res post mc ms) (hcode : Cond.code y bytes maxL none ∈ bw_tbl) (hin : Cond.instanceMethod y ∈ bw_tbl) (hini : Cond.initialized y.cls ∈ bw_tbl) (hl0 : va_Nw (.methodLinkNest own ix y host) s) (hnm : y.name = "<init>") (hd : y.cls ≠ "java/lang/invoke/MethodHandle" ∧ y.cls ≠ "java/lang/invoke/VarHandle" ∧ (parseMethodDescriptor y.desc).map (fun d => d.parameters.length) = some 0) (hrc : rm.cells = mc) (hrs : rm.slots = ms) (hrm : rm.frames + 1 ≤ R.frames ∧ 8 + (maxL + 11) + rm.locals ≤ R.locals) (hF : ∀ (U : State) (g : JFrame) (mk : MethodId) (a : Array Value), F U → F (U.calling g mk a)) (hFU : ∀ U : State, s.WarmedH U.vm → F U) (hws : ws = wr ++ ws0) (h1 : kc + mc ≤ R.cells) (h2 : ks + ms ≤ R.slots) (hro : (rest.map fun v => v.category).sum ≤ 8) (d : decode cc pc = .ok (.invokespecial ix, 3)) (k : ∀ u : S, post u → gw_At p l e R s m args below meth c Q D A nL (pc + 3) L rest (wr ++ res kT u) (kc + mc) (ks + ms)) : gw_At p l e R s m args below meth c Q D A nL pc L (.ref h0 :: rest) ws kc ks := by
  subst hws
  intro H locs ls hP hD hS hl
  have hFc := gw_free (wc := ws0) hD hS C.2.2.2.2.2.2.2.2
  have hP0 : va_P D vwCl ws0 H := fun k x hx => hP (wr.length + k) x (by rw [List.getElem?_append_right (by omega), show wr.length + k - wr.length = k by omega]; exact hx)
  have hD0 : va_D (fun _ => True) ws0 := ⟨fun i j x y hi hj hxy => by
    have := hD.1 (wr.length + i) (wr.length + j) x y (by rw [List.getElem?_append_right (by omega), show wr.length + i - wr.length = i by omega]; exact hi) (by rw [List.getElem?_append_right (by omega), show wr.length + j - wr.length = j by omega]; exact hj) hxy
    omega, fun _ _ _ => trivial⟩
  refine va_callv (va_runIN (As := []) (rest := rest) ⟨C.1, C.2.1, C.2.2.1, C.2.2.2.1, C.2.2.2.2.1⟩ (hc D kT H.size) ⟨va_cnB 0 C.2.2.2.2.1 (bw_gw hcode) rfl hrc hrs hl0 (C.2.2.2.2.1 _ hini) hd hrm, hnm, C.2.2.2.2.1 _ hin⟩ ⟨gw_blind hF, fun U hU hW => ⟨rfl, by rw [hU], by rw [hU]; exact hP0, va_K.moved hW.alike C.2.2.2.2.2.1, hD0, hFU U hW⟩⟩ rfl rfl hl.1 rfl (lv_room hro) d ⟨h1, h2⟩) hS (fun q _ h => hFc q h) hFc (fun u t H1 locs1 ht hvm hw hB hz hk hS1 => ?_)
  obtain ⟨hP1, hD1⟩ := hB
  rw [ht] at hP1
  obtain ⟨hP2, hD2⟩ := gw_join hP hD hk hFc hP1 hD1
  exact k u hw H1 locs1 ls hP2 hD2 hS1 hl
theorem gw_cI (C : gw_Cx p s m args meth c cc nL own D kT A rt) {y : MethodName} {bytes : ByteArray} {maxL ix mc ms h0 : Nat} {rm : Room} {ws0 wr : va_W} {F : State → Prop} {S : Type} {res : (Nat → ClassId) → S → va_W} {post : S → Prop} (hc : gw_C l y bytes maxL rm h0 ws0 F res post mc ms) (hcode : Cond.code y bytes maxL none ∈ bw_tbl) (hin : Cond.instanceMethod y ∈ bw_tbl) (hini : Cond.initialized y.cls ∈ bw_tbl) (hl0 : Cond.methodLink own ix y ∈ bw_tbl) (hnm : y.name = "<init>") (hd : y.cls ≠ "java/lang/invoke/MethodHandle" ∧ y.cls ≠ "java/lang/invoke/VarHandle" ∧ (parseMethodDescriptor y.desc).map (fun d => d.parameters.length) = some 0) (hrc : rm.cells = mc) (hrs : rm.slots = ms) (hrm : rm.frames + 1 ≤ R.frames ∧ 8 + (maxL + 11) + rm.locals ≤ R.locals) (hF : ∀ (U : State) (g : JFrame) (mk : MethodId) (a : Array Value), F U → F (U.calling g mk a)) (hFU : ∀ U : State, s.WarmedH U.vm → F U) (hws : ws = wr ++ ws0) (h1 : kc + mc ≤ R.cells) (h2 : ks + ms ≤ R.slots) (hro : (rest.map fun v => v.category).sum ≤ 8) (d : decode cc pc = .ok (.invokespecial ix, 3)) (k : ∀ u : S, post u → gw_At p l e R s m args below meth c Q D A nL (pc + 3) L rest (wr ++ res kT u) (kc + mc) (ks + ms)) : gw_At p l e R s m args below meth c Q D A nL pc L (.ref h0 :: rest) ws kc ks := by
  subst hws
  intro H locs ls hP hD hS hl
  have hFc := gw_free (wc := ws0) hD hS C.2.2.2.2.2.2.2.2
  have hP0 : va_P D vwCl ws0 H := fun k x hx => hP (wr.length + k) x (by rw [List.getElem?_append_right (by omega), show wr.length + k - wr.length = k by omega]; exact hx)
  have hD0 : va_D (fun _ => True) ws0 := ⟨fun i j x y hi hj hxy => by
    have := hD.1 (wr.length + i) (wr.length + j) x y (by rw [List.getElem?_append_right (by omega), show wr.length + i - wr.length = i by omega]; exact hi) (by rw [List.getElem?_append_right (by omega), show wr.length + j - wr.length = j by omega]; exact hj) hxy
    omega, fun _ _ _ => trivial⟩
  refine va_callv (va_runI (As := []) (rest := rest) ⟨C.1, C.2.1, C.2.2.1, C.2.2.2.1, C.2.2.2.2.1⟩ (hc D kT H.size) (cwI 0 C.2.2.2.2.1 (bw_gw hcode) rfl hrc hrs (C.2.2.2.2.1 _ hini) (C.2.2.2.2.1 _ hl0) (C.2.2.2.2.1 _ hin) hnm hd hrm) ⟨gw_blind hF, fun U hU hW => ⟨rfl, by rw [hU], by rw [hU]; exact hP0, va_K.moved hW.alike C.2.2.2.2.2.1, hD0, hFU U hW⟩⟩ rfl rfl hl.1 rfl (lv_room hro) d ⟨h1, h2⟩) hS (fun q _ h => hFc q h) hFc (fun u t H1 locs1 ht hvm hw hB hz hk hS1 => ?_)
  obtain ⟨hP1, hD1⟩ := hB
  rw [ht] at hP1
  obtain ⟨hP2, hD2⟩ := gw_join hP hD hk hFc hP1 hD1
  exact k u hw H1 locs1 ls hP2 hD2 hS1 hl
theorem gw_ret {S : Type} {post : S → Prop} {res : S → va_W} (C : gw_Cx p s m args meth c cc nL own D kT A none) (u : S) (hp : post u) (hr : res u = ws) (d : decode cc pc = .ok (.return_, 1)) : gw_At p l e R s m args below meth c (MQ below (va_Qv post (gw_B D res A) A) args s kc ks A) D A nL pc L [] ws kc ks := fun H locs ls hP hD hS hl => by
  subst hr
  have hlocks := C.2.2.2.2.2.2.2.1
  exact W.vret C.1 C.2.1 C.2.2.2.2.2.2.1 (fun t ht hW => ⟨⟨u, rfl, hp, by rw [ht]; exact hP, hD⟩, hS.F ht⟩) hS.2.2 d
theorem gw_mna (C : gw_Cx p s m args meth c cc nL own D kT A rt) {ix tO tI : Nat} {ty : FieldType} (hO : (bw_ty kT)[tO]? = some (kT tO, .array ty)) (hcy : s.vm.findClass (FieldType.array ty).toString = some (kT tI)) (hlk : Cond.classLink own ix ("[" ++ (FieldType.array ty).toString) ∈ bw_tbl) (hover : va_AOA ty s) (harr : Cond.arrayClass ty ∈ bw_tbl) {n k : Int32} {N' K' : Nat} {z : vp_A} (hn : ¬ n < 0) (hk : ¬ k < 0) (hN : n.toNatClampNeg = N') (hM : k.toNatClampNeg = K')
    (hb1 : N' * 4 ≤ 536870912) (hb2 : K' * componentBytes ty ≤ 536870912) (hb3 : K' ≤ 536870912) (hdf : fits ty (defaultValue ty) = true) (hdd : (defaultValue ty).isDefault = true) (hcells : kc + (1 + N') ≤ R.cells) (hslots : ks + (N' + N' * K') ≤ R.slots) (hz : ∀ c : ClassId, Jvm.Free.Multi.innerC c K' (defaultValue ty) = vp_cell c z) (hdg : decode cc pc = .ok (.multianewarray ix 2, 4))
    (kk : ∀ (q : Nat) (r : Nat → Nat), gw_At p l e R s m args below meth c Q D A nL (pc + 4) L (.ref q :: st) ((ws ++ [(q, .inl (kT tO, N', .inr (.inr (.inr (.inr (fun i => if i < N' then some (r i) else none))))))]) ++ (List.range N').map (fun i => (r i, .inl (kT tI, z)))) (kc + 1 + N') (ks + N' + N' * K')) : gw_At p l e R s m args below meth c Q D A nL pc L (.int k :: .int n :: st) ws kc ks := by
  subst hN
  subst hM
  intro H locs ls hP hD hS hl T hT Xs
  obtain ⟨vm₁, cA, comp, -, fA, fC, hOO, -, X', step⟩ := Xs.multianewarray2F C.1 C.2.2.2.1 (C.2.2.2.2.1 _ hlk) (va_AOA.use hover) (C.2.2.2.2.1 _ harr) (g := F0 m pc ls (.int k :: .int n :: st)) rfl (by rw [C.2.1]; exact hdg) rfl hn hk hb1 hb2 hb3 hdf hdd hcells hslots
  have ec : some (kT tI) = some comp := hcy.symm.trans fC
  cases ec
  have eA : cA = kT tO := raU (ty := .array ty) fA (C.2.2.2.2.2.1.2 tO _ hO).2
  subst eA
  generalize hF : Jvm.Free.Multi.fill (T.setVm vm₁) (kT tO) (kT tI) n.toNatClampNeg k.toNatClampNeg (defaultValue ty) n.toNatClampNeg = F at X' step
  have hTh : (T.setVm vm₁).heap = H := hT
  obtain ⟨f1, f2, -, -⟩ := Jvm.Free.Multi.fill_facts (T.setVm vm₁) (kT tO) (kT tI) n.toNatClampNeg k.toNatClampNeg (defaultValue ty) n.toNatClampNeg
  rw [hF, hTh] at f1 f2
  have hold : ∀ x : Nat, x < H.size → F.heap[x]? = H[x]? := fun x hx => by
    have := Jvm.Free.Multi.fill_old (T.setVm vm₁) (kT tO) (kT tI) n.toNatClampNeg k.toNatClampNeg (defaultValue ty) (a := x) (by rw [hTh]; exact hx) n.toNatClampNeg
    rw [hF, hTh] at this
    exact this
  have hrow : ∀ j : Nat, j < n.toNatClampNeg → F.heap[H.size + 1 + j]? = some (vp_cell (kT tI) z) := fun j hj => by
    have := Jvm.Free.Multi.fill_inner (T.setVm vm₁) (kT tO) (kT tI) n.toNatClampNeg k.toNatClampNeg (defaultValue ty) n.toNatClampNeg j hj
    rw [hF, hTh, hz] at this
    exact this
  have hout : Jvm.Free.Multi.outerC (kT tO) n.toNatClampNeg H.size n.toNatClampNeg = vp_cell (kT tO) (n.toNatClampNeg, .inr (.inr (.inr (.inr (fun i => if i < n.toNatClampNeg then some (H.size + 1 + i) else none))))) := by
    rw [vp_cell_q]
    exact gw_outer (kT tO) n.toNatClampNeg H.size n.toNatClampNeg
  rw [hout] at f2
  have hP1 : va_P D vwCl (ws ++ [(H.size, .inl (kT tO, n.toNatClampNeg, .inr (.inr (.inr (.inr (fun i => if i < n.toNatClampNeg then some (H.size + 1 + i) else none))))))]) F.heap := (hP.kept (fun k9 x hx => hold x.1 ((hP k9 x hx).lt))).app (fun k9 x hx => by
    have h0 : k9 < 1 := (List.getElem?_eq_some_iff.mp hx).1
    rw [show k9 = 0 by omega] at hx
    cases hx
    exact f2)
  have hP2 : va_P D vwCl ((ws ++ [(H.size, .inl (kT tO, n.toNatClampNeg, .inr (.inr (.inr (.inr (fun i => if i < n.toNatClampNeg then some (H.size + 1 + i) else none))))))]) ++ (List.range n.toNatClampNeg).map (fun i => (H.size + 1 + i, .inl (kT tI, z)))) F.heap := hP1.app (fun k9 x hx => by
    obtain ⟨i, hi, rfl⟩ := List.mem_map.mp (List.mem_of_getElem? hx)
    exact hrow i (List.mem_range.mp hi))
  have hD2 : va_D A ((ws ++ [(H.size, .inl (kT tO, n.toNatClampNeg, .inr (.inr (.inr (.inr (fun i => if i < n.toNatClampNeg then some (H.size + 1 + i) else none))))))]) ++ (List.range n.toNatClampNeg).map (fun i => (H.size + 1 + i, .inl (kT tI, z)))) := by
    have hD1 := hD.push (e := .inl (kT tO, n.toNatClampNeg, .inr (.inr (.inr (.inr (fun i => if i < n.toNatClampNeg then some (H.size + 1 + i) else none)))))) hP rfl (C.2.2.2.2.2.2.2.2 _ hS.1)
    generalize hW1 : ws ++ [(H.size, .inl (kT tO, n.toNatClampNeg, .inr (.inr (.inr (.inr (fun i => if i < n.toNatClampNeg then some (H.size + 1 + i) else none))))))] = W1 at hD1 hP1 ⊢
    have hle : ∀ (k9 : Nat) (x : Nat × va_E), W1[k9]? = some x → x.1 ≤ H.size := fun k9 x hx => by
      rw [← hW1] at hx
      by_cases hl : k9 < ws.length
      · rw [List.getElem?_append_left hl] at hx
        exact Nat.le_of_lt ((hP k9 x hx).lt)
      · rw [List.getElem?_append_right (by omega)] at hx
        have h0 : k9 - ws.length < 1 := (List.getElem?_eq_some_iff.mp hx).1
        rw [show k9 - ws.length = 0 by omega] at hx
        cases hx
        exact Nat.le_refl _
    have hr : ∀ (k9 : Nat) (x : Nat × va_E), ((List.range n.toNatClampNeg).map (fun i => ((H.size + 1 + i, .inl (kT tI, z)) : Nat × va_E)))[k9]? = some x → x.1 = H.size + 1 + k9 := fun k9 x hx => by
      rw [List.getElem?_map] at hx
      by_cases h9 : k9 < n.toNatClampNeg
      · rw [List.getElem?_range h9] at hx
        cases hx
        rfl
      · have hn0 : (List.range n.toNatClampNeg)[k9]? = none := List.getElem?_eq_none (by rw [List.length_range]; omega)
        rw [hn0] at hx
        cases hx
    refine ⟨fun i j x y hi hj hxy => ?_, fun k9 x hx => ?_⟩
    · by_cases h1 : i < W1.length <;> by_cases h2 : j < W1.length
      · rw [List.getElem?_append_left h1] at hi
        rw [List.getElem?_append_left h2] at hj
        exact hD1.1 i j x y hi hj hxy
      · rw [List.getElem?_append_left h1] at hi
        rw [List.getElem?_append_right (by omega)] at hj
        have := hle _ _ hi
        have := hr _ _ hj
        omega
      · rw [List.getElem?_append_right (by omega)] at hi
        rw [List.getElem?_append_left h2] at hj
        have := hle _ _ hj
        have := hr _ _ hi
        omega
      · rw [List.getElem?_append_right (by omega)] at hi hj
        have := hr _ _ hi
        have := hr _ _ hj
        omega
    · by_cases h1 : k9 < W1.length
      · rw [List.getElem?_append_left h1] at hx
        exact hD1.2 k9 x hx
      · rw [List.getElem?_append_right (by omega)] at hx
        have := hr _ _ hx
        exact C.2.2.2.2.2.2.2.2 _ (by have := hS.1; omega)
  obtain ⟨t, a1, b1⟩ := kk H.size (fun i => H.size + 1 + i) F.heap locs ls hP2 hD2 ⟨by rw [f1]; have := hS.1; omega, fun x h1 h2 => (hold x (Nat.lt_of_lt_of_le h1 hS.1)).trans (hS.2.1 x h1 h2), hS.2.2⟩ hl F rfl X'
  refine ⟨t, step t ?_, b1⟩
  have e : T.heap.size = H.size := by rw [hT]
  rw [e]
  exact a1
end GR
theorem gw_in {l : Launch} {y : MethodName} {rm : Room} {h0 mc ms : Nat} {ws0 : va_W} {F : State → Prop} {S : Type} {res : (Nat → ClassId) → S → va_W} {post : S → Prop} (cc : ByteArray) (nL : Nat) (own : String) (hy : plainName y.cls = true) (hown : y.cls = own) (hnm : y.name = "<init>") (hnL : 1 ≤ nL)
    (body : ∀ (p : Program) (e : Env) (s : State) (m : MethodId) (args : Array Value) (below : List Frame) (meth : Method) (c : Code) (D : va_G) (kT : Nat → ClassId) (A : Nat → Prop), gw_Cx p s m args meth c cc nL own D kT A none → meth.name = "<init>" → F s → gw_At p l e rm s m args below meth c (MQ below (va_Qv post (gw_B D (res kT) A) A) args s mc ms A) D A nL 0 [(0, .ref h0)] [] ws0 0 0) : gw_C l y cc nL rm h0 ws0 F res post mc ms := by
  intro D kT sz
  refine Met.ofW (cc := cc) (maxL := nL) (ret := none) hy rfl ?_
  intro p e s m args below meth c s₁ B hml hv
  obtain ⟨rfl, hsz, hP, hK, hD0, hF⟩ := hv
  have hts := fun w (h : w ∈ bw_tbl) => atoms_spec (ws := bw_ws y cc nL none) B.pre w (List.mem_cons_of_mem _ h)
  have hown2 : s.vm.findClass own = some m.cls := hown ▸ findClass_of_methodNamed B.named
  have hin : meth.name = "<init>" := (name_of_methodNamed B.named B.method).1.trans hnm
  have hl := lv_entry ([.ref h0]) (n := nL) (by show 1 ≤ nL; exact hnL)
  rw [lg_entry_eq]
  generalize (lg_sl ([.ref h0]) ++ List.replicate (nL - (lg_sl ([.ref h0])).length) Slot.unset).toArray = ls at hl ⊢
  subst hsz
  have hD := hD0.self (sz := s.heap.size)
  generalize hAe : va_A ws0 s.heap.size = A at hD ⊢
  have hA : ∀ q : Nat, s.heap.size ≤ q → A q := fun q h => by rw [← hAe]; exact Or.inr h
  exact body p e s m _ below meth c D kT A ⟨B.exec, B.bytes, hml, hown2, hts, hK, B.returns, B.notSynchronized, hA⟩ hin hF s.heap [] ls hP hD va_S.rf hl
