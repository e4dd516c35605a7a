/-! A world whose cells are fixed: memory, shapes, the judgement bw_At, a row an instruction -/
abbrev bw_M : Type := (Nat → Nat → Int32) × (Nat → Int64) × Option Nat
/-- a cell's whole row of numbers -/
def bw_pA (M : bw_M) (q : Nat) (f : Nat → Int32) : bw_M := (fun a => if a = q then f else M.1 a, M.2)
def bw_pI (M : bw_M) (q i : Nat) (v : Int32) : bw_M := bw_pA M q (upd (M.1 q) i v)
def bw_pL (M : bw_M) (i : Nat) (v : Int64) : bw_M := (M.1, vp_updL M.2.1 i v, M.2.2)
def bw_pR (M : bw_M) (o : Option Nat) : bw_M := (M.1, M.2.1, o)
/-- an object (its class' number, its fields' kinds: 0 int, 1 long, 2 the moving reference, k + 3 the cell k), a row of numbers (its type's number, its length), a row of references -/
abbrev bw_Sh : Type := (Nat × List Nat) ⊕ (Nat × Nat) ⊕ (Nat × List Nat)
def bw_fv (ρ : Nat → Nat) (M : bw_M) (q i : Nat) : Nat → Value
  | 0 => .int (M.1 q i)
  | 1 => .long (M.2.1 i)
  | 2 => va_rf (M.2.2.map ρ)
  | k + 3 => .ref (ρ k)
def bw_fvs (ρ : Nat → Nat) (M : bw_M) (q : Nat) : Nat → List Nat → List Value
  | _, [] => []
  | i, f :: fl => bw_fv ρ M q i f :: bw_fvs ρ M q (i + 1) fl
theorem bw_fvs_get (ρ : Nat → Nat) (M : bw_M) (q : Nat) : ∀ (fl : List Nat) (i k : Nat), (bw_fvs ρ M q i fl)[k]? = (fl[k]?).map (bw_fv ρ M q (i + k))
  | [], i, k => by simp [bw_fvs]
  | f :: fl, i, 0 => by simp [bw_fvs]
  | f :: fl, i, k + 1 => by
    have h := bw_fvs_get ρ M q fl (i + 1) k
    simp only [bw_fvs, List.getElem?_cons_succ]
    rw [h, show i + 1 + k = i + (k + 1) by omega]
theorem bw_fvs_len (ρ : Nat → Nat) (M : bw_M) (q : Nat) : ∀ (fl : List Nat) (i : Nat), (bw_fvs ρ M q i fl).length = fl.length
  | [], i => rfl
  | f :: fl, i => by simp [bw_fvs, bw_fvs_len ρ M q fl (i + 1)]
def bw_ce (sh : Nat → bw_Sh) (kT : Nat → ClassId) (ρ : Nat → Nat) (M : bw_M) (q : Nat) : va_E := match sh q with
  | .inl (ci, fl) => .inr (ci, bw_fvs ρ M q 0 fl)
  | .inr (.inl (t, k)) => .inl (kT t, k, .inl (M.1 q))
  | .inr (.inr (t, ids)) => .inl (kT t, ids.length, .inr (.inr (.inr (.inr (fun i => ids[i]?.map ρ)))))
def bw_wo (sh : Nat → bw_Sh) (n : Nat) (kT : Nat → ClassId) (ρ : Nat → Nat) (M : bw_M) : va_W := (List.range n).map (fun q => (ρ q, bw_ce sh kT ρ M q))
def bw_ty (kT : Nat → ClassId) : List (ClassId × FieldType) := [(kT 0, .int), (kT 1, .byte), (kT 2, .array .int), (kT 3, .array .byte), (kT 4, .object "BlowerBreath$Deeds")]
def bw_A (ρ : Nat → Nat) (n : Nat) : Nat → Prop := fun a => ∃ q, q < n ∧ a = ρ q
def bw_inj (ρ : Nat → Nat) (n : Nat) : Prop := ∀ i j, i < n → j < n → ρ i = ρ j → i = j
theorem bw_wo_get {sh : Nat → bw_Sh} {n : Nat} {kT : Nat → ClassId} {ρ : Nat → Nat} {M : bw_M} {q : Nat} (h : q < n) : (bw_wo sh n kT ρ M)[q]? = some (ρ q, bw_ce sh kT ρ M q) := by
  simp [bw_wo, h]
theorem bw_wo_set {sh : Nat → bw_Sh} {n : Nat} {kT : Nat → ClassId} {ρ : Nat → Nat} {M M' : bw_M} {q : Nat} {e : va_E} (he : e = bw_ce sh kT ρ M' q) (ho : ∀ j, j ≠ q → bw_ce sh kT ρ M' j = bw_ce sh kT ρ M j) : (bw_wo sh n kT ρ M).set q (ρ q, e) = bw_wo sh n kT ρ M' := by
  subst he
  apply List.ext_getElem?
  intro k
  by_cases hk : k = q
  · subst hk
    by_cases hl : k < n
    · rw [List.getElem?_set_self (by simp [bw_wo, hl]), bw_wo_get hl]
    · simp [bw_wo, hl]
  · rw [List.getElem?_set_ne (Ne.symm hk)]
    by_cases hl : k < n
    · rw [bw_wo_get hl, bw_wo_get hl, ho k hk]
    · simp [bw_wo, hl]
theorem bw_wo_D {sh : Nat → bw_Sh} {n : Nat} {kT : Nat → ClassId} {ρ : Nat → Nat} (h : bw_inj ρ n) (M : bw_M) : va_D (bw_A ρ n) (bw_wo sh n kT ρ M) := by
  have key : ∀ (k : Nat) (q : Nat × va_E), (bw_wo sh n kT ρ M)[k]? = some q → k < n ∧ q.1 = ρ k := by
    intro k q hk
    by_cases hl : k < n
    · rw [bw_wo_get hl] at hk
      cases hk
      exact ⟨hl, rfl⟩
    · simp [bw_wo, hl] at hk
  refine ⟨fun i j x y hi hj hxy => ?_, fun k q hk => ?_⟩
  · obtain ⟨h1, h2⟩ := key i x hi
    obtain ⟨h3, h4⟩ := key j y hj
    exact h i j h1 h3 (by rw [← h2, ← h4]; exact hxy)
  · obtain ⟨h1, h2⟩ := key k q hk
    exact ⟨k, h1, h2⟩
theorem bw_pA_self (M : bw_M) (q : Nat) (f : Nat → Int32) : (bw_pA M q f).1 q = f := by simp [bw_pA]
theorem bw_pA_ne (M : bw_M) {q a : Nat} (f : Nat → Int32) (h : a ≠ q) : (bw_pA M q f).1 a = M.1 a := by simp [bw_pA, h]
theorem bw_fv_pA {ρ : Nat → Nat} {M : bw_M} {q a : Nat} (f : Nat → Int32) (h : a ≠ q) (i k : Nat) : bw_fv ρ (bw_pA M q f) a i k = bw_fv ρ M a i k := by
  match k with
  | 0 => simp [bw_fv, bw_pA_ne M f h]
  | 1 => rfl
  | 2 => rfl
  | k + 3 => rfl
theorem bw_fvs_ext {ρ : Nat → Nat} {M M' : bw_M} {q : Nat} {fl : List Nat} (h : ∀ i k, fl[i]? = some k → bw_fv ρ M' q i k = bw_fv ρ M q i k) : bw_fvs ρ M' q 0 fl = bw_fvs ρ M q 0 fl := by
  apply List.ext_getElem?
  intro k
  rw [bw_fvs_get, bw_fvs_get]
  cases hk : fl[k]? with
  | none => rfl
  | some z => simp only [Option.map_some, Nat.zero_add]; rw [h k z hk]
theorem bw_ce_pA {sh : Nat → bw_Sh} {kT : Nat → ClassId} {ρ : Nat → Nat} {M : bw_M} {q : Nat} (f : Nat → Int32) (j : Nat) (h : j ≠ q) : bw_ce sh kT ρ (bw_pA M q f) j = bw_ce sh kT ρ M j := by
  unfold bw_ce
  split
  · rw [bw_fvs_ext (fun i k _ => bw_fv_pA f h i k)]
  · rw [bw_pA_ne M f h]
  · rfl
theorem bw_fvs_set {ρ : Nat → Nat} {M M' : bw_M} {q k : Nat} {fl : List Nat} {v : Value} (h0 : ∀ z, fl[k]? = some z → bw_fv ρ M' q k z = v) (h : ∀ i z, i ≠ k → fl[i]? = some z → bw_fv ρ M' q i z = bw_fv ρ M q i z) : (bw_fvs ρ M q 0 fl).set k v = bw_fvs ρ M' q 0 fl := by
  apply List.ext_getElem?
  intro i
  by_cases hi : i = k
  · subst hi
    by_cases hl : i < fl.length
    · rw [List.getElem?_set_self (by rw [bw_fvs_len]; exact hl), bw_fvs_get]
      obtain ⟨z, hz⟩ : ∃ z, fl[i]? = some z := ⟨_, List.getElem?_eq_getElem hl⟩
      rw [hz, Option.map_some, Nat.zero_add, h0 z hz]
    · have e1 : ((bw_fvs ρ M q 0 fl).set i v)[i]? = none := by
        rw [List.getElem?_eq_none_iff, List.length_set, bw_fvs_len]; omega
      have e2 : (bw_fvs ρ M' q 0 fl)[i]? = none := by
        rw [List.getElem?_eq_none_iff, bw_fvs_len]; omega
      rw [e1, e2]
  · rw [List.getElem?_set_ne (Ne.symm hi), bw_fvs_get, bw_fvs_get]
    cases hk : fl[i]? with
    | none => rfl
    | some z => simp only [Option.map_some, Nat.zero_add]; rw [h i z hi hk]
/-- loops: the body is given what comes next -/
def bw_lp {σ τ : Type} (body : (σ → Option τ) → σ → Option τ) : Nat → σ → Option τ
  | 0, _ => none
  | k + 1, z => body (bw_lp body k) z
theorem bw_lp_s {σ τ : Type} (body : (σ → Option τ) → σ → Option τ) (k : Nat) (z : σ) : bw_lp body (k + 1) z = body (bw_lp body k) z := rfl
theorem bw_loop {σ τ : Type} {body : (σ → Option τ) → σ → Option τ} {r : τ} (hd : σ → Prop) (hb : ∀ k : σ → Option τ, (∀ z, k z = some r → hd z) → ∀ z, body k z = some r → hd z) : ∀ (k : Nat) (z : σ), bw_lp body k z = some r → hd z
  | 0, z, h => by cases h
  | k + 1, z, h => hb (bw_lp body k) (bw_loop hd hb k) z h
/-- a value that gets a name -/
def bw_mv {α τ : Type} (x : α) (k : α → Option τ) : Option τ := k x
theorem bw_mv_o {α τ : Type} {x : α} {k : α → Option τ} {r : τ} (h : bw_mv x k = some r) : ∃ y, y = x ∧ k y = some r := ⟨x, rfl, h⟩
def bw_ib (i : Int32) (n : Nat) : Bool := decide (0 ≤ i.toInt ∧ i.toInt < n)
theorem bw_ib_in {i : Int32} {n : Nat} (h : bw_ib i n = true) : vp_in i n := vp_in_iff.mpr (by simpa [bw_ib] using h)
/-- an element of a row, if there is one -/
def bw_rd {τ : Type} (M : bw_M) (q n : Nat) (i : Int32) (k : Int32 → Option τ) : Option τ := if bw_ib i n = true then k (M.1 q i.toNatClampNeg) else none
theorem bw_rd_o {τ : Type} {M : bw_M} {q n : Nat} {i : Int32} {k : Int32 → Option τ} {r : τ} (h : bw_rd M q n i k = some r) : bw_ib i n = true ∧ ∃ v, v = M.1 q i.toNatClampNeg ∧ k v = some r := by
  unfold bw_rd at h
  split at h
  · exact ⟨by assumption, _, rfl, h⟩
  · cases h
def bw_wr {τ : Type} (M : bw_M) (q n : Nat) (i v : Int32) (k : bw_M → Option τ) : Option τ := if bw_ib i n = true then k (bw_pI M q i.toNatClampNeg v) else none
theorem bw_wr_o {τ : Type} {M : bw_M} {q n : Nat} {i v : Int32} {k : bw_M → Option τ} {r : τ} (h : bw_wr M q n i v k = some r) : bw_ib i n = true ∧ ∃ M', M' = bw_pI M q i.toNatClampNeg v ∧ k M' = some r := by
  unfold bw_wr at h
  split at h
  · exact ⟨by assumption, _, rfl, h⟩
  · cases h
/-- an element of a row of references: its place, if there is one -/
def bw_ra {τ : Type} (n : Nat) (i : Int32) (k : Nat → Option τ) : Option τ := if bw_ib i n = true then k i.toNatClampNeg else none
theorem bw_ra_o {τ : Type} {n : Nat} {i : Int32} {k : Nat → Option τ} {r : τ} (h : bw_ra n i k = some r) : bw_ib i n = true ∧ ∃ j, j = i.toNatClampNeg ∧ j < n ∧ k j = some r := by
  unfold bw_ra at h
  split at h
  · rename_i hi
    refine ⟨hi, _, rfl, ?_, h⟩
    have := bw_ib_in hi
    exact Nat.not_le.mp fun q => this (Or.inr q)
  · cases h
/-- a test that must hold -/
def bw_ck {τ : Type} (b : Bool) (x : Option τ) : Option τ := if b = true then x else none
theorem bw_ck_o {τ : Type} {b : Bool} {x : Option τ} {r : τ} (h : bw_ck b x = some r) : b = true ∧ x = some r := by
  unfold bw_ck at h
  split at h
  · exact ⟨by assumption, h⟩
  · cases h
/-- rows copied -/
def bw_cp {τ : Type} (M : bw_M) (qs ns : Nat) (sp : Int32) (qd nd : Nat) (dp k : Int32) (z : bw_M → Option τ) : Option τ :=
  if 0 ≤ sp ∧ 0 ≤ dp ∧ 0 ≤ k ∧ sp.toNatClampNeg + k.toNatClampNeg ≤ ns ∧ dp.toNatClampNeg + k.toNatClampNeg ≤ nd then z (bw_pA M qd (va_cpy (M.1 qs) (M.1 qd) sp.toNatClampNeg dp.toNatClampNeg k.toNatClampNeg)) else none
theorem bw_cp_o {τ : Type} {M : bw_M} {qs ns : Nat} {sp : Int32} {qd nd : Nat} {dp k : Int32} {z : bw_M → Option τ} {r : τ} (h : bw_cp M qs ns sp qd nd dp k z = some r) : (0 ≤ sp ∧ 0 ≤ dp ∧ 0 ≤ k ∧ sp.toNatClampNeg + k.toNatClampNeg ≤ ns ∧ dp.toNatClampNeg + k.toNatClampNeg ≤ nd) ∧ ∃ M', M' = bw_pA M qd (va_cpy (M.1 qs) (M.1 qd) sp.toNatClampNeg dp.toNatClampNeg k.toNatClampNeg) ∧ z M' = some r := by
  unfold bw_cp at h
  split at h
  · exact ⟨by assumption, _, rfl, h⟩
  · cases h
def bw_cl {α τ : Type} (x : Option α) (k : α → Option τ) : Option τ := match x with
  | none => none
  | some a => k a
theorem bw_cl_o {α τ : Type} {x : Option α} {k : α → Option τ} {r : τ} (h : bw_cl x k = some r) : ∃ a, x = some a ∧ k a = some r := by
  cases x with
  | none => cases h
  | some a => exact ⟨a, rfl, h⟩
def bw_ws (y : MethodName) (cc : ByteArray) (nL : Nat) (rt : Option FieldType) : List Cond := Cond.code y cc nL rt :: bw_tbl
/-- what the tables say of a method, and its name's form -/
def bw_MV (y : MethodName) (cc : ByteArray) (nL : Nat) (rt : Option FieldType) (C0 : String) (na : Nat) : Prop := Cond.instanceMethod y ∈ bw_tbl ∧ Cond.selects C0 y y ∈ bw_tbl ∧ Cond.initialized C0 ∈ bw_tbl ∧ Cond.code y cc nL rt ∈ bw_tbl ∧ (y.cls = C0 ∧ y.cls ≠ "java/lang/invoke/MethodHandle" ∧ y.cls ≠ "java/lang/invoke/VarHandle" ∧ (parseMethodDescriptor y.desc).map (fun d => d.parameters.length) = some na)
def bw_MS (y : MethodName) (cc : ByteArray) (nL : Nat) (rt : Option FieldType) (na : Nat) : Prop := Cond.static y ∈ bw_tbl ∧ Cond.initialized y.cls ∈ bw_tbl ∧ Cond.code y cc nL rt ∈ bw_tbl ∧ (y.cls ≠ "java/lang/invoke/MethodHandle" ∧ y.cls ≠ "java/lang/invoke/VarHandle" ∧ (parseMethodDescriptor y.desc).map (fun d => d.parameters.length) = some na)
theorem bw_gw {y : MethodName} {cc : ByteArray} {nL : Nat} {rt : Option FieldType} (h : Cond.code y cc nL rt ∈ bw_tbl) : GoodIn bw_tbl (bw_ws y cc nL rt) := fun w hw => by
  rcases List.mem_cons.mp hw with rfl | hw
  · exact ⟨h, good_of_word (bw_good _ h)⟩
  · exact ⟨hw, good_of_word (bw_good _ hw)⟩
theorem bw_g1 {w : Cond} (h : w ∈ bw_tbl) : w ∈ bw_tbl ∧ ((w.onTables && w.keeps) = true ∨ ∃ ty, w = .arrayClass ty) := ⟨h, good_of_word (bw_good _ h)⟩
theorem bw_gV {own : String} {ix : Nat} {y : MethodName} {cc : ByteArray} {nL : Nat} {rt : Option FieldType} {C0 : String} {na : Nat} (hm : bw_MV y cc nL rt C0 na) (hl : Cond.methodLink own ix y ∈ bw_tbl) : GoodIn bw_tbl (wsV own ix C0 y (bw_ws y cc nL rt)) := by
  intro w hw
  rcases List.mem_append.mp hw with hw | hw
  · simp only [List.mem_cons, List.not_mem_nil, or_false] at hw
    rcases hw with rfl | rfl | rfl | rfl
    · exact bw_g1 hl
    · exact bw_g1 hm.1
    · exact bw_g1 hm.2.1
    · exact bw_g1 hm.2.2.1
  · exact bw_gw hm.2.2.2.1 w hw
theorem bw_gS {own : String} {ix : Nat} {y : MethodName} {cc : ByteArray} {nL : Nat} {rt : Option FieldType} {na : Nat} (hm : bw_MS y cc nL rt na) (hl : Cond.methodLink own ix y ∈ bw_tbl) : GoodIn bw_tbl (va_wsS own ix y (bw_ws y cc nL rt)) := by
  intro w hw
  rcases List.mem_append.mp hw with hw | hw
  · simp only [List.mem_cons, List.not_mem_nil, or_false] at hw
    rcases hw with rfl | rfl | rfl
    · exact bw_g1 hl
    · exact bw_g1 hm.1
    · exact bw_g1 hm.2.1
  · exact bw_gw hm.2.2.1 w hw
section BW
variable {p : Program} {l : Launch} {e : Env} {R : Room} {s : State} {m : MethodId} {args : Array Value} {below : List Frame} {meth : Method} {c : Code} {Q : State → Prop}
variable {sh : Nat → bw_Sh} {n : Nat} {D : va_G} {kT : Nat → ClassId} {ρ : Nat → Nat} {cc : ByteArray} {nL : Nat} {own : String} {rt : Option FieldType}
variable {pc : Nat} {L : List (Nat × Value)} {st rest : List Value} {M : bw_M}
def bw_At (p : Program) (l : Launch) (e : Env) (R : Room) (s : State) (m : MethodId) (args : Array Value) (below : List Frame) (meth : Method) (c : Code) (Q : State → Prop) (sh : Nat → bw_Sh) (n : Nat) (D : va_G) (kT : Nat → ClassId) (ρ : Nat → Nat) (nL : Nat) (pc : Nat) (L : List (Nat × Value)) (st : List Value) (M : bw_M) : Prop :=
  ∀ (H : Heap) (locs : List Loc) (ls : Array Slot), va_P D vwCl (bw_wo sh n kT ρ M) H → va_S (bw_A ρ n) s.heap H locs → lv_has ls nL L → W p l e R s m args below meth c H locs 0 0 Q (F0 m pc ls st)
def bw_Cx (p : Program) (s : State) (m : MethodId) (args : Array Value) (meth : Method) (c : Code) (cc : ByteArray) (nL : Nat) (own : String) (n : Nat) (D : va_G) (kT : Nat → ClassId) (ρ : Nat → Nat) (rt : Option FieldType) : Prop :=
  p.tables.exec = Jvm.exec ∧ c.code = cc ∧ c.maxLocals = nL ∧ s.vm.findClass own = some m.cls ∧ (∀ w ∈ bw_tbl, w.before args s = true) ∧ va_K D vwCl (bw_ty kT) s ∧ bw_inj ρ n ∧ meth.sig.returnType = rt ∧ meth.locks = false
theorem bw_iconst (C : bw_Cx p s m args meth c cc nL own n D kT ρ rt) {i : Int} {v : Int32} (d : decode cc pc = .ok (.iconst i, 1)) (hv : Int32.ofInt i = v) (k : bw_At p l e R s m args below meth c Q sh n D kT ρ nL (pc + 1) L (.int v :: st) M) : bw_At p l e R s m args below meth c Q sh n D kT ρ nL pc L (st) M := fun H locs ls hP hS hl => lv_iconst C.1 C.2.1 d hv (k H locs ls hP hS hl)
theorem bw_bipush (C : bw_Cx p s m args meth c cc nL own n D kT ρ rt) {i : Int} {v : Int32} (d : decode cc pc = .ok (.bipush i, 2)) (hv : (Int8.ofInt i).toInt32 = v) (k : bw_At p l e R s m args below meth c Q sh n D kT ρ nL (pc + 2) L (.int v :: st) M) : bw_At p l e R s m args below meth c Q sh n D kT ρ nL pc L (st) M := fun H locs ls hP hS hl => lv_bipush C.1 C.2.1 d hv (k H locs ls hP hS hl)
theorem bw_sipush (C : bw_Cx p s m args meth c cc nL own n D kT ρ rt) {i : Int} {v : Int32} (d : decode cc pc = .ok (.sipush i, 3)) (hv : (Int16.ofInt i).toInt32 = v) (k : bw_At p l e R s m args below meth c Q sh n D kT ρ nL (pc + 3) L (.int v :: st) M) : bw_At p l e R s m args below meth c Q sh n D kT ρ nL pc L (st) M := fun H locs ls hP hS hl => lv_sipush C.1 C.2.1 d hv (k H locs ls hP hS hl)
theorem bw_lconst (C : bw_Cx p s m args meth c cc nL own n D kT ρ rt) {i : Fin 2} {v : Int64} (d : decode cc pc = .ok (.lconst i, 1)) (hv : Int64.ofNat (i : Nat) = v) (k : bw_At p l e R s m args below meth c Q sh n D kT ρ nL (pc + 1) L (.long v :: st) M) : bw_At p l e R s m args below meth c Q sh n D kT ρ nL pc L (st) M := fun H locs ls hP hS hl => lv_lconst C.1 C.2.1 d hv (k H locs ls hP hS hl)
theorem bw_iload_n (C : bw_Cx p s m args meth c cc nL own n D kT ρ rt) {i : Fin 4} {j : Nat} {x : Int32} (k0 : Nat) (d : decode cc pc = .ok (.iload_n i, 1)) (hi : (i : Nat) = j) (hL : L[k0]? = some (j, .int x)) (k : bw_At p l e R s m args below meth c Q sh n D kT ρ nL (pc + 1) L (.int x :: st) M) : bw_At p l e R s m args below meth c Q sh n D kT ρ nL pc L (st) M := fun H locs ls hP hS hl => lv_iload_n C.1 C.2.1 d hi (lv_at hl k0 hL) (k H locs ls hP hS hl)
theorem bw_iload (C : bw_Cx p s m args meth c cc nL own n D kT ρ rt) {j : Nat} {x : Int32} (k0 : Nat) (d : decode cc pc = .ok (.iload j, 2)) (hL : L[k0]? = some (j, .int x)) (k : bw_At p l e R s m args below meth c Q sh n D kT ρ nL (pc + 2) L (.int x :: st) M) : bw_At p l e R s m args below meth c Q sh n D kT ρ nL pc L (st) M := fun H locs ls hP hS hl => lv_iload C.1 C.2.1 d (lv_at hl k0 hL) (k H locs ls hP hS hl)
theorem bw_lload_n (C : bw_Cx p s m args meth c cc nL own n D kT ρ rt) {i : Fin 4} {j : Nat} {x : Int64} (k0 : Nat) (d : decode cc pc = .ok (.lload_n i, 1)) (hi : (i : Nat) = j) (hL : L[k0]? = some (j, .long x)) (k : bw_At p l e R s m args below meth c Q sh n D kT ρ nL (pc + 1) L (.long x :: st) M) : bw_At p l e R s m args below meth c Q sh n D kT ρ nL pc L (st) M := fun H locs ls hP hS hl => lv_lload_n C.1 C.2.1 d hi (lv_at hl k0 hL) (k H locs ls hP hS hl)
theorem bw_lload (C : bw_Cx p s m args meth c cc nL own n D kT ρ rt) {j : Nat} {x : Int64} (k0 : Nat) (d : decode cc pc = .ok (.lload j, 2)) (hL : L[k0]? = some (j, .long x)) (k : bw_At p l e R s m args below meth c Q sh n D kT ρ nL (pc + 2) L (.long x :: st) M) : bw_At p l e R s m args below meth c Q sh n D kT ρ nL pc L (st) M := fun H locs ls hP hS hl => lv_lload C.1 C.2.1 d (lv_at hl k0 hL) (k H locs ls hP hS hl)
theorem bw_aload_n (C : bw_Cx p s m args meth c cc nL own n D kT ρ rt) {i : Fin 4} {j : Nat} {x : Nat} (k0 : Nat) (d : decode cc pc = .ok (.aload_n i, 1)) (hi : (i : Nat) = j) (hL : L[k0]? = some (j, .ref x)) (k : bw_At p l e R s m args below meth c Q sh n D kT ρ nL (pc + 1) L (.ref x :: st) M) : bw_At p l e R s m args below meth c Q sh n D kT ρ nL pc L (st) M := fun H locs ls hP hS hl => lv_aload_n C.1 C.2.1 d hi (lv_at hl k0 hL) (k H locs ls hP hS hl)
theorem bw_aload (C : bw_Cx p s m args meth c cc nL own n D kT ρ rt) {j : Nat} {x : Nat} (k0 : Nat) (d : decode cc pc = .ok (.aload j, 2)) (hL : L[k0]? = some (j, .ref x)) (k : bw_At p l e R s m args below meth c Q sh n D kT ρ nL (pc + 2) L (.ref x :: st) M) : bw_At p l e R s m args below meth c Q sh n D kT ρ nL pc L (st) M := fun H locs ls hP hS hl => lv_aload C.1 C.2.1 d (lv_at hl k0 hL) (k H locs ls hP hS hl)
theorem bw_istore_n (C : bw_Cx p s m args meth c cc nL own n D kT ρ rt) {i : Fin 4} {j : Nat} {x : Int32} {L' : List (Nat × Value)} (d : decode cc pc = .ok (.istore_n i, 1)) (hi : (i : Nat) = j) (hn : j < nL) (hL : (j, Value.int x) :: L.filter (fun q => !(q.1 == j) && !(q.1 + 1 == j && q.2.category == 2)) = L') (k : bw_At p l e R s m args below meth c Q sh n D kT ρ nL (pc + 1) L' st M) : bw_At p l e R s m args below meth c Q sh n D kT ρ nL pc L (.int x :: st) M := fun H locs ls hP hS hl => lv_istore_n C.1 C.2.1 d hi hl hn hL (fun ls' hl' => k H locs ls' hP hS hl')
theorem bw_istore (C : bw_Cx p s m args meth c cc nL own n D kT ρ rt) {j : Nat} {x : Int32} {L' : List (Nat × Value)} (d : decode cc pc = .ok (.istore j, 2)) (hn : j < nL) (hL : (j, Value.int x) :: L.filter (fun q => !(q.1 == j) && !(q.1 + 1 == j && q.2.category == 2)) = L') (k : bw_At p l e R s m args below meth c Q sh n D kT ρ nL (pc + 2) L' st M) : bw_At p l e R s m args below meth c Q sh n D kT ρ nL pc L (.int x :: st) M := fun H locs ls hP hS hl => lv_istore C.1 C.2.1 d hl hn hL (fun ls' hl' => k H locs ls' hP hS hl')
theorem bw_lstore_n (C : bw_Cx p s m args meth c cc nL own n D kT ρ rt) {i : Fin 4} {j : Nat} {x : Int64} {L' : List (Nat × Value)} (d : decode cc pc = .ok (.lstore_n i, 1)) (hi : (i : Nat) = j) (hn : j + 1 < nL) (hL : (j, Value.long x) :: L.filter (fun q => !(q.1 == j) && (!(q.1 == j + 1) && !(q.1 + 1 == j && q.2.category == 2))) = L') (k : bw_At p l e R s m args below meth c Q sh n D kT ρ nL (pc + 1) L' st M) : bw_At p l e R s m args below meth c Q sh n D kT ρ nL pc L (.long x :: st) M := fun H locs ls hP hS hl => lv_lstore_n C.1 C.2.1 d hi hl hn hL (fun ls' hl' => k H locs ls' hP hS hl')
theorem bw_lstore (C : bw_Cx p s m args meth c cc nL own n D kT ρ rt) {j : Nat} {x : Int64} {L' : List (Nat × Value)} (d : decode cc pc = .ok (.lstore j, 2)) (hn : j + 1 < nL) (hL : (j, Value.long x) :: L.filter (fun q => !(q.1 == j) && (!(q.1 == j + 1) && !(q.1 + 1 == j && q.2.category == 2))) = L') (k : bw_At p l e R s m args below meth c Q sh n D kT ρ nL (pc + 2) L' st M) : bw_At p l e R s m args below meth c Q sh n D kT ρ nL pc L (.long x :: st) M := fun H locs ls hP hS hl => lv_lstore C.1 C.2.1 d hl hn hL (fun ls' hl' => k H locs ls' hP hS hl')
theorem bw_astore_n (C : bw_Cx p s m args meth c cc nL own n D kT ρ rt) {i : Fin 4} {j : Nat} {x : Nat} {L' : List (Nat × Value)} (d : decode cc pc = .ok (.astore_n i, 1)) (hi : (i : Nat) = j) (hn : j < nL) (hL : (j, Value.ref x) :: L.filter (fun q => !(q.1 == j) && !(q.1 + 1 == j && q.2.category == 2)) = L') (k : bw_At p l e R s m args below meth c Q sh n D kT ρ nL (pc + 1) L' st M) : bw_At p l e R s m args below meth c Q sh n D kT ρ nL pc L (.ref x :: st) M := fun H locs ls hP hS hl => lv_astore_n C.1 C.2.1 d hi hl hn hL (fun ls' hl' => k H locs ls' hP hS hl')
theorem bw_iinc (C : bw_Cx p s m args meth c cc nL own n D kT ρ rt) {j : Nat} {i : Int} {x0 x : Int32} {L' : List (Nat × Value)} (k0 : Nat) (d : decode cc pc = .ok (.iinc j i, 3)) (h0 : L[k0]? = some (j, .int x0)) (hv : x0 + Int32.ofInt i = x) (hn : j < nL) (hL : (j, Value.int x) :: L.filter (fun q => !(q.1 == j) && !(q.1 + 1 == j && q.2.category == 2)) = L') (k : bw_At p l e R s m args below meth c Q sh n D kT ρ nL (pc + 3) L' st M) : bw_At p l e R s m args below meth c Q sh n D kT ρ nL pc L st M := fun H locs ls hP hS hl => lv_iinc C.1 C.2.1 d hl h0 hv hn hL (fun ls' hl' => k H locs ls' hP hS hl')
theorem bw_pick (ks : List Nat) {L' : List (Nat × Value)} (hL : lv_pick L ks = L') (k : bw_At p l e R s m args below meth c Q sh n D kT ρ nL pc L' st M) : bw_At p l e R s m args below meth c Q sh n D kT ρ nL pc L st M := fun H locs ls hP hS hl => k H locs ls hP hS (lv_sub hl ks hL)
theorem bw_iadd (C : bw_Cx p s m args meth c cc nL own n D kT ρ rt) {x y : Int32} (d : decode cc pc = .ok (.iadd, 1)) (k : bw_At p l e R s m args below meth c Q sh n D kT ρ nL (pc + 1) L (.int (x + y) :: st) M) : bw_At p l e R s m args below meth c Q sh n D kT ρ nL pc L (.int y :: .int x :: st) M := fun H locs ls hP hS hl => lv_iadd C.1 C.2.1 d (k H locs ls hP hS hl)
theorem bw_isub (C : bw_Cx p s m args meth c cc nL own n D kT ρ rt) {x y : Int32} (d : decode cc pc = .ok (.isub, 1)) (k : bw_At p l e R s m args below meth c Q sh n D kT ρ nL (pc + 1) L (.int (x - y) :: st) M) : bw_At p l e R s m args below meth c Q sh n D kT ρ nL pc L (.int y :: .int x :: st) M := fun H locs ls hP hS hl => lv_isub C.1 C.2.1 d (k H locs ls hP hS hl)
theorem bw_imul (C : bw_Cx p s m args meth c cc nL own n D kT ρ rt) {x y : Int32} (d : decode cc pc = .ok (.imul, 1)) (k : bw_At p l e R s m args below meth c Q sh n D kT ρ nL (pc + 1) L (.int (x * y) :: st) M) : bw_At p l e R s m args below meth c Q sh n D kT ρ nL pc L (.int y :: .int x :: st) M := fun H locs ls hP hS hl => lv_imul C.1 C.2.1 d (k H locs ls hP hS hl)
theorem bw_iand (C : bw_Cx p s m args meth c cc nL own n D kT ρ rt) {x y : Int32} (d : decode cc pc = .ok (.iand, 1)) (k : bw_At p l e R s m args below meth c Q sh n D kT ρ nL (pc + 1) L (.int (x &&& y) :: st) M) : bw_At p l e R s m args below meth c Q sh n D kT ρ nL pc L (.int y :: .int x :: st) M := fun H locs ls hP hS hl => lv_iand C.1 C.2.1 d (k H locs ls hP hS hl)
theorem bw_ior (C : bw_Cx p s m args meth c cc nL own n D kT ρ rt) {x y : Int32} (d : decode cc pc = .ok (.ior, 1)) (k : bw_At p l e R s m args below meth c Q sh n D kT ρ nL (pc + 1) L (.int (x ||| y) :: st) M) : bw_At p l e R s m args below meth c Q sh n D kT ρ nL pc L (.int y :: .int x :: st) M := fun H locs ls hP hS hl => lv_ior C.1 C.2.1 d (k H locs ls hP hS hl)
theorem bw_ixor (C : bw_Cx p s m args meth c cc nL own n D kT ρ rt) {x y : Int32} (d : decode cc pc = .ok (.ixor, 1)) (k : bw_At p l e R s m args below meth c Q sh n D kT ρ nL (pc + 1) L (.int (x ^^^ y) :: st) M) : bw_At p l e R s m args below meth c Q sh n D kT ρ nL pc L (.int y :: .int x :: st) M := fun H locs ls hP hS hl => lv_ixor C.1 C.2.1 d (k H locs ls hP hS hl)
theorem bw_ishl (C : bw_Cx p s m args meth c cc nL own n D kT ρ rt) {x y : Int32} (d : decode cc pc = .ok (.ishl, 1)) (k : bw_At p l e R s m args below meth c Q sh n D kT ρ nL (pc + 1) L (.int (x <<< (y &&& 31)) :: st) M) : bw_At p l e R s m args below meth c Q sh n D kT ρ nL pc L (.int y :: .int x :: st) M := fun H locs ls hP hS hl => lv_ishl C.1 C.2.1 d (k H locs ls hP hS hl)
theorem bw_ishr (C : bw_Cx p s m args meth c cc nL own n D kT ρ rt) {x y : Int32} (d : decode cc pc = .ok (.ishr, 1)) (k : bw_At p l e R s m args below meth c Q sh n D kT ρ nL (pc + 1) L (.int (x >>> (y &&& 31)) :: st) M) : bw_At p l e R s m args below meth c Q sh n D kT ρ nL pc L (.int y :: .int x :: st) M := fun H locs ls hP hS hl => lv_ishr C.1 C.2.1 d (k H locs ls hP hS hl)
theorem bw_iushr (C : bw_Cx p s m args meth c cc nL own n D kT ρ rt) {x y v : Int32} (d : decode cc pc = .ok (.iushr, 1)) (hv : (x.toUInt32 >>> (y.toUInt32 &&& Int32.toUInt32 31)).toInt32 = v) (k : bw_At p l e R s m args below meth c Q sh n D kT ρ nL (pc + 1) L (.int v :: st) M) : bw_At p l e R s m args below meth c Q sh n D kT ρ nL pc L (.int y :: .int x :: st) M := fun H locs ls hP hS hl => lv_iushr C.1 C.2.1 d hv (k H locs ls hP hS hl)
theorem bw_idiv (C : bw_Cx p s m args meth c cc nL own n D kT ρ rt) {x y : Int32} (d : decode cc pc = .ok (.idiv, 1)) (h0 : ¬ y = 0) (k : bw_At p l e R s m args below meth c Q sh n D kT ρ nL (pc + 1) L (.int (x / y) :: st) M) : bw_At p l e R s m args below meth c Q sh n D kT ρ nL pc L (.int y :: .int x :: st) M := fun H locs ls hP hS hl => lv_idiv C.1 C.2.1 d h0 (k H locs ls hP hS hl)
theorem bw_irem (C : bw_Cx p s m args meth c cc nL own n D kT ρ rt) {x y : Int32} (d : decode cc pc = .ok (.irem, 1)) (h0 : ¬ y = 0) (k : bw_At p l e R s m args below meth c Q sh n D kT ρ nL (pc + 1) L (.int (x - x / y * y) :: st) M) : bw_At p l e R s m args below meth c Q sh n D kT ρ nL pc L (.int y :: .int x :: st) M := fun H locs ls hP hS hl => lv_irem C.1 C.2.1 d h0 (k H locs ls hP hS hl)
theorem bw_ladd (C : bw_Cx p s m args meth c cc nL own n D kT ρ rt) {x y : Int64} (d : decode cc pc = .ok (.ladd, 1)) (k : bw_At p l e R s m args below meth c Q sh n D kT ρ nL (pc + 1) L (.long (x + y) :: st) M) : bw_At p l e R s m args below meth c Q sh n D kT ρ nL pc L (.long y :: .long x :: st) M := fun H locs ls hP hS hl => lv_ladd C.1 C.2.1 d (k H locs ls hP hS hl)
theorem bw_lsub (C : bw_Cx p s m args meth c cc nL own n D kT ρ rt) {x y : Int64} (d : decode cc pc = .ok (.lsub, 1)) (k : bw_At p l e R s m args below meth c Q sh n D kT ρ nL (pc + 1) L (.long (x - y) :: st) M) : bw_At p l e R s m args below meth c Q sh n D kT ρ nL pc L (.long y :: .long x :: st) M := fun H locs ls hP hS hl => lv_lsub C.1 C.2.1 d (k H locs ls hP hS hl)
theorem bw_lmul (C : bw_Cx p s m args meth c cc nL own n D kT ρ rt) {x y : Int64} (d : decode cc pc = .ok (.lmul, 1)) (k : bw_At p l e R s m args below meth c Q sh n D kT ρ nL (pc + 1) L (.long (x * y) :: st) M) : bw_At p l e R s m args below meth c Q sh n D kT ρ nL pc L (.long y :: .long x :: st) M := fun H locs ls hP hS hl => lv_lmul C.1 C.2.1 d (k H locs ls hP hS hl)
theorem bw_ldiv (C : bw_Cx p s m args meth c cc nL own n D kT ρ rt) {x y : Int64} (d : decode cc pc = .ok (.ldiv, 1)) (h0 : ¬ y = 0) (k : bw_At p l e R s m args below meth c Q sh n D kT ρ nL (pc + 1) L (.long (x / y) :: st) M) : bw_At p l e R s m args below meth c Q sh n D kT ρ nL pc L (.long y :: .long x :: st) M := fun H locs ls hP hS hl => lv_ldiv C.1 C.2.1 d h0 (k H locs ls hP hS hl)
theorem bw_lrem (C : bw_Cx p s m args meth c cc nL own n D kT ρ rt) {x y : Int64} (d : decode cc pc = .ok (.lrem, 1)) (h0 : ¬ y = 0) (k : bw_At p l e R s m args below meth c Q sh n D kT ρ nL (pc + 1) L (.long (x - x / y * y) :: st) M) : bw_At p l e R s m args below meth c Q sh n D kT ρ nL pc L (.long y :: .long x :: st) M := fun H locs ls hP hS hl => lv_lrem C.1 C.2.1 d h0 (k H locs ls hP hS hl)
theorem bw_lcmp (C : bw_Cx p s m args meth c cc nL own n D kT ρ rt) {x y : Int64} (d : decode cc pc = .ok (.lcmp, 1)) (k : bw_At p l e R s m args below meth c Q sh n D kT ρ nL (pc + 1) L (.int (lg_cmp x y) :: st) M) : bw_At p l e R s m args below meth c Q sh n D kT ρ nL pc L (.long y :: .long x :: st) M := fun H locs ls hP hS hl => W.lcmp C.1 C.2.1 d (k H locs ls hP hS hl)
theorem bw_i2l (C : bw_Cx p s m args meth c cc nL own n D kT ρ rt) {x : Int32} (d : decode cc pc = .ok (.i2l, 1)) (k : bw_At p l e R s m args below meth c Q sh n D kT ρ nL (pc + 1) L (.long x.toInt64 :: st) M) : bw_At p l e R s m args below meth c Q sh n D kT ρ nL pc L (.int x :: st) M := fun H locs ls hP hS hl => lv_i2l C.1 C.2.1 d rfl (k H locs ls hP hS hl)
theorem bw_l2i (C : bw_Cx p s m args meth c cc nL own n D kT ρ rt) {x : Int64} (d : decode cc pc = .ok (.l2i, 1)) (k : bw_At p l e R s m args below meth c Q sh n D kT ρ nL (pc + 1) L (.int x.toInt32 :: st) M) : bw_At p l e R s m args below meth c Q sh n D kT ρ nL pc L (.long x :: st) M := fun H locs ls hP hS hl => lv_l2i C.1 C.2.1 d rfl (k H locs ls hP hS hl)
theorem bw_i2b (C : bw_Cx p s m args meth c cc nL own n D kT ρ rt) {x : Int32} (d : decode cc pc = .ok (.i2b, 1)) (k : bw_At p l e R s m args below meth c Q sh n D kT ρ nL (pc + 1) L (.int x.toInt8.toInt32 :: st) M) : bw_At p l e R s m args below meth c Q sh n D kT ρ nL pc L (.int x :: st) M := fun H locs ls hP hS hl => lv_i2b C.1 C.2.1 d rfl (k H locs ls hP hS hl)
theorem bw_dup (C : bw_Cx p s m args meth c cc nL own n D kT ρ rt) {va : Value} (d : decode cc pc = .ok (.dup, 1)) (h1 : va.category = 1) (k : bw_At p l e R s m args below meth c Q sh n D kT ρ nL (pc + 1) L (va :: va :: st) M) : bw_At p l e R s m args below meth c Q sh n D kT ρ nL pc L (va :: st) M := fun H locs ls hP hS hl => lv_dup C.1 C.2.1 d h1 (k H locs ls hP hS hl)
theorem bw_pop (C : bw_Cx p s m args meth c cc nL own n D kT ρ rt) {va : Value} (d : decode cc pc = .ok (.pop, 1)) (h1 : va.category = 1) (k : bw_At p l e R s m args below meth c Q sh n D kT ρ nL (pc + 1) L (st) M) : bw_At p l e R s m args below meth c Q sh n D kT ρ nL pc L (va :: st) M := fun H locs ls hP hS hl => lv_pop C.1 C.2.1 d h1 (k H locs ls hP hS hl)
theorem bw_dup2 (C : bw_Cx p s m args meth c cc nL own n D kT ρ rt) {va vb : Value} (d : decode cc pc = .ok (.dup2, 1)) (h1 : va.category = 1) (h2 : vb.category = 1) (k : bw_At p l e R s m args below meth c Q sh n D kT ρ nL (pc + 1) L (va :: vb :: va :: vb :: st) M) : bw_At p l e R s m args below meth c Q sh n D kT ρ nL pc L (va :: vb :: st) M := fun H locs ls hP hS hl => lv_dup2_11 C.1 C.2.1 d h1 h2 (k H locs ls hP hS hl)
theorem bw_ldc (C : bw_Cx p s m args meth c cc nL own n D kT ρ rt) {ix : Nat} {v : Int32} (hw : Cond.constant own ix v ∈ bw_tbl) (d : decode cc pc = .ok (.ldc ix, 2)) (k : bw_At p l e R s m args below meth c Q sh n D kT ρ nL (pc + 2) L (.int v :: st) M) : bw_At p l e R s m args below meth c Q sh n D kT ρ nL pc L st M := fun H locs ls hP hS hl => lv_ldc C.1 C.2.1 C.2.2.2.1 (C.2.2.2.2.1 _ hw) d (k H locs ls hP hS hl)
theorem bw_ldc_w (C : bw_Cx p s m args meth c cc nL own n D kT ρ rt) {ix : Nat} {v : Int32} (hw : Cond.constant own ix v ∈ bw_tbl) (d : decode cc pc = .ok (.ldc_w ix, 3)) (k : bw_At p l e R s m args below meth c Q sh n D kT ρ nL (pc + 3) L (.int v :: st) M) : bw_At p l e R s m args below meth c Q sh n D kT ρ nL pc L st M := fun H locs ls hP hS hl => lv_ldcw C.1 C.2.1 C.2.2.2.1 (C.2.2.2.2.1 _ hw) d (k H locs ls hP hS hl)
theorem bw_ldc2_w (C : bw_Cx p s m args meth c cc nL own n D kT ρ rt) {ix : Nat} {v : Int64} (hw : Cond.constantLong own ix v ∈ bw_tbl) (d : decode cc pc = .ok (.ldc2_w ix, 3)) (k : bw_At p l e R s m args below meth c Q sh n D kT ρ nL (pc + 3) L (.long v :: st) M) : bw_At p l e R s m args below meth c Q sh n D kT ρ nL pc L st M := fun H locs ls hP hS hl => lv_ldc2 C.1 C.2.1 C.2.2.2.1 (C.2.2.2.2.1 _ hw) d (k H locs ls hP hS hl)
theorem bw_if_eq {τ : Type} (C : bw_Cx p s m args meth c cc nL own n D kT ρ rt) {x : Int32} {off : Int} {A B : Option τ} {z : τ} (tgt : Nat) (d : decode cc pc = .ok (.ifCond .eq off, 3)) (ht : (pc : Int) + off = (tgt : Int)) (h : (if x = 0 then A else B) = some z) (kt : A = some z → bw_At p l e R s m args below meth c Q sh n D kT ρ nL tgt L st M) (kf : B = some z → bw_At p l e R s m args below meth c Q sh n D kT ρ nL (pc + 3) L st M) : bw_At p l e R s m args below meth c Q sh n D kT ρ nL pc L (.int x :: st) M := fun H locs ls hP hS hl => lv_if_eq C.1 C.2.1 d ht (fun q => kt (by rw [if_pos q] at h; exact h) H locs ls hP hS hl) (fun q => kf (by rw [if_neg q] at h; exact h) H locs ls hP hS hl)
theorem bw_if_ne {τ : Type} (C : bw_Cx p s m args meth c cc nL own n D kT ρ rt) {x : Int32} {off : Int} {A B : Option τ} {z : τ} (tgt : Nat) (d : decode cc pc = .ok (.ifCond .ne off, 3)) (ht : (pc : Int) + off = (tgt : Int)) (h : (if x = 0 then A else B) = some z) (kt : B = some z → bw_At p l e R s m args below meth c Q sh n D kT ρ nL tgt L st M) (kf : A = some z → bw_At p l e R s m args below meth c Q sh n D kT ρ nL (pc + 3) L st M) : bw_At p l e R s m args below meth c Q sh n D kT ρ nL pc L (.int x :: st) M := fun H locs ls hP hS hl => lv_if_ne C.1 C.2.1 d ht (fun q => kt (by rw [if_neg q] at h; exact h) H locs ls hP hS hl) (fun q => kf (by rw [if_pos q] at h; exact h) H locs ls hP hS hl)
theorem bw_if_lt {τ : Type} (C : bw_Cx p s m args meth c cc nL own n D kT ρ rt) {x : Int32} {off : Int} {A B : Option τ} {z : τ} (tgt : Nat) (d : decode cc pc = .ok (.ifCond .lt off, 3)) (ht : (pc : Int) + off = (tgt : Int)) (h : (if x < 0 then A else B) = some z) (kt : A = some z → bw_At p l e R s m args below meth c Q sh n D kT ρ nL tgt L st M) (kf : B = some z → bw_At p l e R s m args below meth c Q sh n D kT ρ nL (pc + 3) L st M) : bw_At p l e R s m args below meth c Q sh n D kT ρ nL pc L (.int x :: st) M := fun H locs ls hP hS hl => lv_if_lt C.1 C.2.1 d ht (fun q => kt (by rw [if_pos q] at h; exact h) H locs ls hP hS hl) (fun q => kf (by rw [if_neg q] at h; exact h) H locs ls hP hS hl)
theorem bw_if_ge {τ : Type} (C : bw_Cx p s m args meth c cc nL own n D kT ρ rt) {x : Int32} {off : Int} {A B : Option τ} {z : τ} (tgt : Nat) (d : decode cc pc = .ok (.ifCond .ge off, 3)) (ht : (pc : Int) + off = (tgt : Int)) (h : (if 0 ≤ x then A else B) = some z) (kt : A = some z → bw_At p l e R s m args below meth c Q sh n D kT ρ nL tgt L st M) (kf : B = some z → bw_At p l e R s m args below meth c Q sh n D kT ρ nL (pc + 3) L st M) : bw_At p l e R s m args below meth c Q sh n D kT ρ nL pc L (.int x :: st) M := fun H locs ls hP hS hl => lv_if_ge C.1 C.2.1 d ht (fun q => kt (by rw [if_pos q] at h; exact h) H locs ls hP hS hl) (fun q => kf (by rw [if_neg q] at h; exact h) H locs ls hP hS hl)
theorem bw_if_gt {τ : Type} (C : bw_Cx p s m args meth c cc nL own n D kT ρ rt) {x : Int32} {off : Int} {A B : Option τ} {z : τ} (tgt : Nat) (d : decode cc pc = .ok (.ifCond .gt off, 3)) (ht : (pc : Int) + off = (tgt : Int)) (h : (if 0 < x then A else B) = some z) (kt : A = some z → bw_At p l e R s m args below meth c Q sh n D kT ρ nL tgt L st M) (kf : B = some z → bw_At p l e R s m args below meth c Q sh n D kT ρ nL (pc + 3) L st M) : bw_At p l e R s m args below meth c Q sh n D kT ρ nL pc L (.int x :: st) M := fun H locs ls hP hS hl => lv_if_gt C.1 C.2.1 d ht (fun q => kt (by rw [if_pos q] at h; exact h) H locs ls hP hS hl) (fun q => kf (by rw [if_neg q] at h; exact h) H locs ls hP hS hl)
theorem bw_if_le {τ : Type} (C : bw_Cx p s m args meth c cc nL own n D kT ρ rt) {x : Int32} {off : Int} {A B : Option τ} {z : τ} (tgt : Nat) (d : decode cc pc = .ok (.ifCond .le off, 3)) (ht : (pc : Int) + off = (tgt : Int)) (h : (if x ≤ 0 then A else B) = some z) (kt : A = some z → bw_At p l e R s m args below meth c Q sh n D kT ρ nL tgt L st M) (kf : B = some z → bw_At p l e R s m args below meth c Q sh n D kT ρ nL (pc + 3) L st M) : bw_At p l e R s m args below meth c Q sh n D kT ρ nL pc L (.int x :: st) M := fun H locs ls hP hS hl => lv_if_le C.1 C.2.1 d ht (fun q => kt (by rw [if_pos q] at h; exact h) H locs ls hP hS hl) (fun q => kf (by rw [if_neg q] at h; exact h) H locs ls hP hS hl)
theorem bw_icmp_eq {τ : Type} (C : bw_Cx p s m args meth c cc nL own n D kT ρ rt) {x y : Int32} {off : Int} {A B : Option τ} {z : τ} (tgt : Nat) (d : decode cc pc = .ok (.if_icmp .eq off, 3)) (ht : (pc : Int) + off = (tgt : Int)) (h : (if x = y then A else B) = some z) (kt : A = some z → bw_At p l e R s m args below meth c Q sh n D kT ρ nL tgt L st M) (kf : B = some z → bw_At p l e R s m args below meth c Q sh n D kT ρ nL (pc + 3) L st M) : bw_At p l e R s m args below meth c Q sh n D kT ρ nL pc L (.int y :: .int x :: st) M := fun H locs ls hP hS hl => lv_icmp_eq C.1 C.2.1 d ht (fun q => kt (by rw [if_pos q] at h; exact h) H locs ls hP hS hl) (fun q => kf (by rw [if_neg q] at h; exact h) H locs ls hP hS hl)
theorem bw_icmp_ne {τ : Type} (C : bw_Cx p s m args meth c cc nL own n D kT ρ rt) {x y : Int32} {off : Int} {A B : Option τ} {z : τ} (tgt : Nat) (d : decode cc pc = .ok (.if_icmp .ne off, 3)) (ht : (pc : Int) + off = (tgt : Int)) (h : (if x = y then A else B) = some z) (kt : B = some z → bw_At p l e R s m args below meth c Q sh n D kT ρ nL tgt L st M) (kf : A = some z → bw_At p l e R s m args below meth c Q sh n D kT ρ nL (pc + 3) L st M) : bw_At p l e R s m args below meth c Q sh n D kT ρ nL pc L (.int y :: .int x :: st) M := fun H locs ls hP hS hl => lv_icmp_ne C.1 C.2.1 d ht (fun q => kt (by rw [if_neg q] at h; exact h) H locs ls hP hS hl) (fun q => kf (by rw [if_pos q] at h; exact h) H locs ls hP hS hl)
theorem bw_icmp_lt {τ : Type} (C : bw_Cx p s m args meth c cc nL own n D kT ρ rt) {x y : Int32} {off : Int} {A B : Option τ} {z : τ} (tgt : Nat) (d : decode cc pc = .ok (.if_icmp .lt off, 3)) (ht : (pc : Int) + off = (tgt : Int)) (h : (if x < y then A else B) = some z) (kt : A = some z → bw_At p l e R s m args below meth c Q sh n D kT ρ nL tgt L st M) (kf : B = some z → bw_At p l e R s m args below meth c Q sh n D kT ρ nL (pc + 3) L st M) : bw_At p l e R s m args below meth c Q sh n D kT ρ nL pc L (.int y :: .int x :: st) M := fun H locs ls hP hS hl => lv_icmp_lt C.1 C.2.1 d ht (fun q => kt (by rw [if_pos q] at h; exact h) H locs ls hP hS hl) (fun q => kf (by rw [if_neg q] at h; exact h) H locs ls hP hS hl)
theorem bw_icmp_ge {τ : Type} (C : bw_Cx p s m args meth c cc nL own n D kT ρ rt) {x y : Int32} {off : Int} {A B : Option τ} {z : τ} (tgt : Nat) (d : decode cc pc = .ok (.if_icmp .ge off, 3)) (ht : (pc : Int) + off = (tgt : Int)) (h : (if y ≤ x then A else B) = some z) (kt : A = some z → bw_At p l e R s m args below meth c Q sh n D kT ρ nL tgt L st M) (kf : B = some z → bw_At p l e R s m args below meth c Q sh n D kT ρ nL (pc + 3) L st M) : bw_At p l e R s m args below meth c Q sh n D kT ρ nL pc L (.int y :: .int x :: st) M := fun H locs ls hP hS hl => lv_icmp_ge C.1 C.2.1 d ht (fun q => kt (by rw [if_pos q] at h; exact h) H locs ls hP hS hl) (fun q => kf (by rw [if_neg q] at h; exact h) H locs ls hP hS hl)
theorem bw_icmp_gt {τ : Type} (C : bw_Cx p s m args meth c cc nL own n D kT ρ rt) {x y : Int32} {off : Int} {A B : Option τ} {z : τ} (tgt : Nat) (d : decode cc pc = .ok (.if_icmp .gt off, 3)) (ht : (pc : Int) + off = (tgt : Int)) (h : (if y < x then A else B) = some z) (kt : A = some z → bw_At p l e R s m args below meth c Q sh n D kT ρ nL tgt L st M) (kf : B = some z → bw_At p l e R s m args below meth c Q sh n D kT ρ nL (pc + 3) L st M) : bw_At p l e R s m args below meth c Q sh n D kT ρ nL pc L (.int y :: .int x :: st) M := fun H locs ls hP hS hl => lv_icmp_gt C.1 C.2.1 d ht (fun q => kt (by rw [if_pos q] at h; exact h) H locs ls hP hS hl) (fun q => kf (by rw [if_neg q] at h; exact h) H locs ls hP hS hl)
theorem bw_icmp_le {τ : Type} (C : bw_Cx p s m args meth c cc nL own n D kT ρ rt) {x y : Int32} {off : Int} {A B : Option τ} {z : τ} (tgt : Nat) (d : decode cc pc = .ok (.if_icmp .le off, 3)) (ht : (pc : Int) + off = (tgt : Int)) (h : (if x ≤ y then A else B) = some z) (kt : A = some z → bw_At p l e R s m args below meth c Q sh n D kT ρ nL tgt L st M) (kf : B = some z → bw_At p l e R s m args below meth c Q sh n D kT ρ nL (pc + 3) L st M) : bw_At p l e R s m args below meth c Q sh n D kT ρ nL pc L (.int y :: .int x :: st) M := fun H locs ls hP hS hl => lv_icmp_le C.1 C.2.1 d ht (fun q => kt (by rw [if_pos q] at h; exact h) H locs ls hP hS hl) (fun q => kf (by rw [if_neg q] at h; exact h) H locs ls hP hS hl)
theorem bw_goto (C : bw_Cx p s m args meth c cc nL own n D kT ρ rt) {off : Int} (tgt : Nat) (d : decode cc pc = .ok (.goto off, 3)) (ht : (pc : Int) + off = (tgt : Int)) (k : bw_At p l e R s m args below meth c Q sh n D kT ρ nL tgt L st M) : bw_At p l e R s m args below meth c Q sh n D kT ρ nL pc L st M := fun H locs ls hP hS hl => lv_goto C.1 C.2.1 d ht (k H locs ls hP hS hl)
theorem bw_ifnullS (C : bw_Cx p s m args meth c cc nL own n D kT ρ rt) {off : Int} {a : Nat} (d : decode cc pc = .ok (.ifnull off, 3)) (k : bw_At p l e R s m args below meth c Q sh n D kT ρ nL (pc + 3) L st M) : bw_At p l e R s m args below meth c Q sh n D kT ρ nL pc L (.ref a :: st) M := fun H locs ls hP hS hl => lv_ifnull C.1 C.2.1 d (k H locs ls hP hS hl)
theorem bw_ifnullN (C : bw_Cx p s m args meth c cc nL own n D kT ρ rt) {off : Int} (tgt : Nat) (d : decode cc pc = .ok (.ifnull off, 3)) (ht : (pc : Int) + off = (tgt : Int)) (k : bw_At p l e R s m args below meth c Q sh n D kT ρ nL tgt L st M) : bw_At p l e R s m args below meth c Q sh n D kT ρ nL pc L (.null :: st) M := fun H locs ls hP hS hl => lv_ifnullN C.1 C.2.1 d ht (k H locs ls hP hS hl)
theorem bw_swc {τ : Type} (C : bw_Cx p s m args meth c cc nL own n D kT ρ rt) {x : Int32} {A B : Option τ} {z : τ} (v : Int32) (h : (if x = v then A else B) = some z) (kt : A = some z → bw_At p l e R s m args below meth c Q sh n D kT ρ nL pc L (.int v :: st) M) (kf : ¬ x = v → B = some z → bw_At p l e R s m args below meth c Q sh n D kT ρ nL pc L (.int x :: st) M) : bw_At p l e R s m args below meth c Q sh n D kT ρ nL pc L (.int x :: st) M := by
  by_cases q : x = v
  · rw [if_pos q] at h
    subst q
    exact kt h
  · rw [if_neg q] at h
    exact kf q h
theorem bw_swi (C : bw_Cx p s m args meth c cc nL own n D kT ρ rt) {x : Int32} {dflt lo hi off : Int} {offs : Array Int} {len : Nat} (tgt : Nat) (d : decode cc pc = .ok (.tableswitch dflt lo hi offs, len)) (h1 : ¬ x.toInt < lo) (h2 : ¬ hi < x.toInt) (ho : offs[(x.toInt - lo).toNat]? = some off) (ht : (pc : Int) + off = (tgt : Int)) (k : bw_At p l e R s m args below meth c Q sh n D kT ρ nL tgt L st M) : bw_At p l e R s m args below meth c Q sh n D kT ρ nL pc L (.int x :: st) M := fun H locs ls hP hS hl => lv_tableIn C.1 C.2.1 d h1 h2 ho ht (k H locs ls hP hS hl)
theorem bw_swo (C : bw_Cx p s m args meth c cc nL own n D kT ρ rt) {x : Int32} {dflt lo hi : Int} {offs : Array Int} {len : Nat} (tgt : Nat) (d : decode cc pc = .ok (.tableswitch dflt lo hi offs, len)) (h : x.toInt < lo ∨ hi < x.toInt) (ht : (pc : Int) + dflt = (tgt : Int)) (k : bw_At p l e R s m args below meth c Q sh n D kT ρ nL tgt L st M) : bw_At p l e R s m args below meth c Q sh n D kT ρ nL pc L (.int x :: st) M := fun H locs ls hP hS hl => lv_tableOut C.1 C.2.1 d h ht (k H locs ls hP hS hl)
theorem bw_sw_out {x : Int32} {lo hi : Int} (k : Nat) (hk : hi < lo + k) (hlo : -2147483648 ≤ lo) (hhi : hi < 2147483648) (h : ∀ j : Nat, j < k → ¬ x = Int32.ofInt (lo + j)) : x.toInt < lo ∨ hi < x.toInt := by
  by_cases h1 : x.toInt < lo
  · exact Or.inl h1
  by_cases h2 : hi < x.toInt
  · exact Or.inr h2
  exfalso
  refine h (x.toInt - lo).toNat (by omega) ?_
  rw [show lo + ((x.toInt - lo).toNat : Int) = x.toInt by omega]
  exact (Int32.ofInt_toInt x).symm
theorem bw_getI (C : bw_Cx p s m args meth c cc nL own n D kT ρ rt) {C0 : String} {T : u_T} {N ci ix q k0 : Nat} {fl : List Nat} (hq : q < n) (hs : sh q = .inl (ci, fl)) (hc : vwCl[ci]? = some (C0, T, N)) (hin : ∀ w ∈ u_ws C0 T N, w ∈ bw_tbl) (hw : Cond.fieldLink own ix (T k0).1 (T k0).2.1 (T k0).2.2.1 ∈ bw_tbl) (hk : k0 < N) (hf : fl[k0]? = some (0)) (d : decode cc pc = .ok (.getfield ix, 3)) (k : bw_At p l e R s m args below meth c Q sh n D kT ρ nL (pc + 3) L (.int (M.1 q k0) :: st) M) : bw_At p l e R s m args below meth c Q sh n D kT ρ nL pc L (.ref (ρ q) :: st) M := by
  intro H locs ls hP hS hl
  have he : (bw_wo sh n kT ρ M)[q]? = some (ρ q, .inr (ci, bw_fvs ρ M q 0 fl)) := (bw_wo_get hq).trans (by simp only [bw_ce, hs])
  have hv : (bw_fvs ρ M q 0 fl)[k0]? = some (.int (M.1 q k0)) := by
    rw [bw_fvs_get, hf, Option.map_some, Nat.zero_add]
    rfl
  exact va_get C.1 C.2.1 C.2.2.2.2.1 hin C.2.2.2.1 C.2.2.2.2.2.1 hP q he hc k0 hk (C.2.2.2.2.1 _ hw) (fun _ h9 => h9) hv d (k H locs ls hP hS hl)
theorem bw_getL (C : bw_Cx p s m args meth c cc nL own n D kT ρ rt) {C0 : String} {T : u_T} {N ci ix q k0 : Nat} {fl : List Nat} (hq : q < n) (hs : sh q = .inl (ci, fl)) (hc : vwCl[ci]? = some (C0, T, N)) (hin : ∀ w ∈ u_ws C0 T N, w ∈ bw_tbl) (hw : Cond.fieldLink own ix (T k0).1 (T k0).2.1 (T k0).2.2.1 ∈ bw_tbl) (hk : k0 < N) (hf : fl[k0]? = some (1)) (d : decode cc pc = .ok (.getfield ix, 3)) (k : bw_At p l e R s m args below meth c Q sh n D kT ρ nL (pc + 3) L (.long (M.2.1 k0) :: st) M) : bw_At p l e R s m args below meth c Q sh n D kT ρ nL pc L (.ref (ρ q) :: st) M := by
  intro H locs ls hP hS hl
  have he : (bw_wo sh n kT ρ M)[q]? = some (ρ q, .inr (ci, bw_fvs ρ M q 0 fl)) := (bw_wo_get hq).trans (by simp only [bw_ce, hs])
  have hv : (bw_fvs ρ M q 0 fl)[k0]? = some (.long (M.2.1 k0)) := by
    rw [bw_fvs_get, hf, Option.map_some, Nat.zero_add]
    rfl
  exact va_get C.1 C.2.1 C.2.2.2.2.1 hin C.2.2.2.1 C.2.2.2.2.2.1 hP q he hc k0 hk (C.2.2.2.2.1 _ hw) (fun _ h9 => h9) hv d (k H locs ls hP hS hl)
theorem bw_getM (C : bw_Cx p s m args meth c cc nL own n D kT ρ rt) {C0 : String} {T : u_T} {N ci ix q k0 : Nat} {fl : List Nat} (hq : q < n) (hs : sh q = .inl (ci, fl)) (hc : vwCl[ci]? = some (C0, T, N)) (hin : ∀ w ∈ u_ws C0 T N, w ∈ bw_tbl) (hw : Cond.fieldLink own ix (T k0).1 (T k0).2.1 (T k0).2.2.1 ∈ bw_tbl) (hk : k0 < N) (hf : fl[k0]? = some (2)) (d : decode cc pc = .ok (.getfield ix, 3)) (k : bw_At p l e R s m args below meth c Q sh n D kT ρ nL (pc + 3) L (va_rf (M.2.2.map ρ) :: st) M) : bw_At p l e R s m args below meth c Q sh n D kT ρ nL pc L (.ref (ρ q) :: st) M := by
  intro H locs ls hP hS hl
  have he : (bw_wo sh n kT ρ M)[q]? = some (ρ q, .inr (ci, bw_fvs ρ M q 0 fl)) := (bw_wo_get hq).trans (by simp only [bw_ce, hs])
  have hv : (bw_fvs ρ M q 0 fl)[k0]? = some (va_rf (M.2.2.map ρ)) := by
    rw [bw_fvs_get, hf, Option.map_some, Nat.zero_add]
    rfl
  exact va_get C.1 C.2.1 C.2.2.2.2.1 hin C.2.2.2.1 C.2.2.2.2.2.1 hP q he hc k0 hk (C.2.2.2.2.1 _ hw) (fun _ h9 => h9) hv d (k H locs ls hP hS hl)
theorem bw_getR (C : bw_Cx p s m args meth c cc nL own n D kT ρ rt) {C0 : String} {T : u_T} {N ci ix q k0 : Nat} {fl : List Nat} (hq : q < n) (hs : sh q = .inl (ci, fl)) (hc : vwCl[ci]? = some (C0, T, N)) (hin : ∀ w ∈ u_ws C0 T N, w ∈ bw_tbl) (hw : Cond.fieldLink own ix (T k0).1 (T k0).2.1 (T k0).2.2.1 ∈ bw_tbl) (hk : k0 < N) {j : Nat} (hf : fl[k0]? = some (j + 3)) (d : decode cc pc = .ok (.getfield ix, 3)) (k : bw_At p l e R s m args below meth c Q sh n D kT ρ nL (pc + 3) L (.ref (ρ j) :: st) M) : bw_At p l e R s m args below meth c Q sh n D kT ρ nL pc L (.ref (ρ q) :: st) M := by
  intro H locs ls hP hS hl
  have he : (bw_wo sh n kT ρ M)[q]? = some (ρ q, .inr (ci, bw_fvs ρ M q 0 fl)) := (bw_wo_get hq).trans (by simp only [bw_ce, hs])
  have hv : (bw_fvs ρ M q 0 fl)[k0]? = some (.ref (ρ j)) := by
    rw [bw_fvs_get, hf, Option.map_some, Nat.zero_add]
    rfl
  exact va_get C.1 C.2.1 C.2.2.2.2.1 hin C.2.2.2.1 C.2.2.2.2.2.1 hP q he hc k0 hk (C.2.2.2.2.1 _ hw) (fun _ h9 => h9) hv d (k H locs ls hP hS hl)
theorem bw_putI (C : bw_Cx p s m args meth c cc nL own n D kT ρ rt) {ty : FieldType} {C0 : String} {T : u_T} {N ci ix q k0 : Nat} {fl : List Nat} (hq : q < n) (hs : sh q = .inl (ci, fl)) (hc : vwCl[ci]? = some (C0, T, N)) (hin : ∀ w ∈ u_ws C0 T N, w ∈ bw_tbl) (hw : Cond.fieldLink own ix (T k0).1 (T k0).2.1 (T k0).2.2.1 ∈ bw_tbl) (hk : k0 < N) (ty0 : Nat → FieldType) (hty : ∀ k, k < N → parseFieldDescriptor (T k).2.2.1 = some (ty0 k)) (hnm : ∀ a, a < N → ∀ b, b < N → a ≠ b → (T a).2.1 ≠ (T b).2.1) (hfin : (T k0).2.2.2 = false) (hd : parseFieldDescriptor (T k0).2.2.1 = some ty) (hf : fl[k0]? = some 0) {x : Int32} {M' : bw_M} (hM : M' = bw_pI M q k0 x) (hn : narrow ty (.int x) = .int x) (hfit : fits ty (.int x) = true) (d : decode cc pc = .ok (.putfield ix, 3)) (k : bw_At p l e R s m args below meth c Q sh n D kT ρ nL (pc + 3) L st M') : bw_At p l e R s m args below meth c Q sh n D kT ρ nL pc L (.int x :: .ref (ρ q) :: st) M := by
  intro H locs ls hP hS hl
  have he : (bw_wo sh n kT ρ M)[q]? = some (ρ q, .inr (ci, bw_fvs ρ M q 0 fl)) := (bw_wo_get hq).trans (by simp only [bw_ce, hs])
  have hk0 : k0 < fl.length := (List.getElem?_eq_some_iff.mp hf).1
  refine va_put (v := .int x) (ty := ty) C.1 C.2.1 C.2.2.2.2.1 hin ty0 hty hnm C.2.2.2.1 C.2.2.2.2.2.1 hP (bw_wo_D C.2.2.2.2.2.2.1 M) hS q he hc k0 hk (C.2.2.2.2.1 _ hw) (fun _ h9 => h9) hfin hd hn hfit (by rw [bw_fvs_len]; exact hk0) d (fun H1 locs1 hP1 _ hS1 => ?_)
  refine k H1 locs1 ls ?_ hS1 hl
  have hset : (bw_wo sh n kT ρ M).set q (ρ q, .inr (ci, (bw_fvs ρ M q 0 fl).set k0 (.int x))) = bw_wo sh n kT ρ M' := by
    subst hM
    refine bw_wo_set ?_ ?_
    · simp only [bw_ce, hs]
      rw [bw_fvs_set (M' := bw_pI M q k0 x)]
      · intro z hz
        rw [hf] at hz
        cases hz
        simp [bw_fv, bw_pI, bw_pA_self, upd]
      · intro i z hi hz
        match z, hz with
        | 0, _ => simp [bw_fv, bw_pI, bw_pA_self, upd, hi]
        | 1, _ => rfl
        | 2, _ => rfl
        | z + 3, _ => rfl
    · intro j hj
      exact bw_ce_pA _ j hj
  rw [← hset]
  exact hP1
/-- the longs and the moving reference lie in one cell -/
def bw_one (sh : Nat → bw_Sh) (k q : Nat) : Prop := ∀ (j ci : Nat) (fl : List Nat), sh j = .inl (ci, fl) → k ∈ fl → j = q
theorem bw_fv_pL {ρ : Nat → Nat} {M : bw_M} {q i k0 : Nat} (x : Int64) (z : Nat) (h : z = 1 → i ≠ k0) : bw_fv ρ (bw_pL M k0 x) q i z = bw_fv ρ M q i z := by
  match z, h with
  | 0, _ => rfl
  | 1, h => simp [bw_fv, bw_pL, vp_updL, h rfl]
  | 2, _ => rfl
  | z + 3, _ => rfl
theorem bw_fv_pR {ρ : Nat → Nat} {M : bw_M} {q i : Nat} (o : Option Nat) (z : Nat) (h : z ≠ 2) : bw_fv ρ (bw_pR M o) q i z = bw_fv ρ M q i z := by
  match z, h with
  | 0, _ => rfl
  | 1, _ => rfl
  | 2, h => exact absurd rfl h
  | z + 3, _ => rfl
theorem bw_ce_pL {kT : Nat → ClassId} {k0 q : Nat} (x : Int64) (h1 : bw_one sh 1 q) (j : Nat) (hj : j ≠ q) : bw_ce sh kT ρ (bw_pL M k0 x) j = bw_ce sh kT ρ M j := by
  unfold bw_ce
  split
  · rename_i ci fl hs
    rw [bw_fvs_ext (M := M) (fun i z hz => bw_fv_pL x z (fun e => absurd (h1 j ci fl hs (e ▸ List.mem_of_getElem? hz)) hj))]
  · rfl
  · rfl
theorem bw_ce_pR {kT : Nat → ClassId} {q : Nat} (o : Option Nat) (h1 : bw_one sh 2 q) (j : Nat) (hj : j ≠ q) : bw_ce sh kT ρ (bw_pR M o) j = bw_ce sh kT ρ M j := by
  unfold bw_ce
  split
  · rename_i ci fl hs
    rw [bw_fvs_ext (M := M) (fun i z hz => bw_fv_pR o z (fun e => absurd (h1 j ci fl hs (e ▸ List.mem_of_getElem? hz)) hj))]
  · rfl
  · rfl
theorem bw_putL (C : bw_Cx p s m args meth c cc nL own n D kT ρ rt) {ty : FieldType} {C0 : String} {T : u_T} {N ci ix q k0 : Nat} {fl : List Nat} (hq : q < n) (hs : sh q = .inl (ci, fl)) (hc : vwCl[ci]? = some (C0, T, N)) (hin : ∀ w ∈ u_ws C0 T N, w ∈ bw_tbl) (hw : Cond.fieldLink own ix (T k0).1 (T k0).2.1 (T k0).2.2.1 ∈ bw_tbl) (hk : k0 < N) (ty0 : Nat → FieldType) (hty : ∀ k, k < N → parseFieldDescriptor (T k).2.2.1 = some (ty0 k)) (hnm : ∀ a, a < N → ∀ b, b < N → a ≠ b → (T a).2.1 ≠ (T b).2.1) (hfin : (T k0).2.2.2 = false) (hd : parseFieldDescriptor (T k0).2.2.1 = some ty) (h1 : bw_one sh 1 q) (hf : fl[k0]? = some 1) {x : Int64} {M' : bw_M} (hM : M' = bw_pL M k0 x) (hn : narrow ty (.long x) = .long x) (hfit : fits ty (.long x) = true) (d : decode cc pc = .ok (.putfield ix, 3)) (k : bw_At p l e R s m args below meth c Q sh n D kT ρ nL (pc + 3) L st M') : bw_At p l e R s m args below meth c Q sh n D kT ρ nL pc L (.long x :: .ref (ρ q) :: st) M := by
  intro H locs ls hP hS hl
  have he : (bw_wo sh n kT ρ M)[q]? = some (ρ q, .inr (ci, bw_fvs ρ M q 0 fl)) := (bw_wo_get hq).trans (by simp only [bw_ce, hs])
  have hk0 : k0 < fl.length := (List.getElem?_eq_some_iff.mp hf).1
  refine va_put (v := .long x) (ty := ty) C.1 C.2.1 C.2.2.2.2.1 hin ty0 hty hnm C.2.2.2.1 C.2.2.2.2.2.1 hP (bw_wo_D C.2.2.2.2.2.2.1 M) hS q he hc k0 hk (C.2.2.2.2.1 _ hw) (fun _ h9 => h9) hfin hd hn hfit (by rw [bw_fvs_len]; exact hk0) d (fun H1 locs1 hP1 _ hS1 => ?_)
  refine k H1 locs1 ls ?_ hS1 hl
  have hset : (bw_wo sh n kT ρ M).set q (ρ q, .inr (ci, (bw_fvs ρ M q 0 fl).set k0 (.long x))) = bw_wo sh n kT ρ M' := by
    subst hM
    refine bw_wo_set ?_ ?_
    · simp only [bw_ce, hs]
      rw [bw_fvs_set (M' := bw_pL M k0 x)]
      · intro z hz
        rw [hf] at hz
        cases hz
        simp [bw_fv, bw_pL, vp_updL]
      · intro i z hi hz
        exact bw_fv_pL x z (fun _ => hi)
    · intro j hj
      exact bw_ce_pL x h1 j hj
  rw [← hset]
  exact hP1
theorem bw_putM (C : bw_Cx p s m args meth c cc nL own n D kT ρ rt) {ty : FieldType} {C0 : String} {T : u_T} {N ci ix q k0 : Nat} {fl : List Nat} (hq : q < n) (hs : sh q = .inl (ci, fl)) (hc : vwCl[ci]? = some (C0, T, N)) (hin : ∀ w ∈ u_ws C0 T N, w ∈ bw_tbl) (hw : Cond.fieldLink own ix (T k0).1 (T k0).2.1 (T k0).2.2.1 ∈ bw_tbl) (hk : k0 < N) (ty0 : Nat → FieldType) (hty : ∀ k, k < N → parseFieldDescriptor (T k).2.2.1 = some (ty0 k)) (hnm : ∀ a, a < N → ∀ b, b < N → a ≠ b → (T a).2.1 ≠ (T b).2.1) (hfin : (T k0).2.2.2 = false) (hd : parseFieldDescriptor (T k0).2.2.1 = some ty) (h1 : bw_one sh 2 q) (h2 : ∀ i, fl[i]? = some 2 → i = k0) (hf : fl[k0]? = some 2) {x : Nat} {M' : bw_M} (hM : M' = bw_pR M (some x)) (hn : narrow ty (.ref (ρ x)) = .ref (ρ x)) (hfit : fits ty (.ref (ρ x)) = true) (d : decode cc pc = .ok (.putfield ix, 3)) (k : bw_At p l e R s m args below meth c Q sh n D kT ρ nL (pc + 3) L st M') : bw_At p l e R s m args below meth c Q sh n D kT ρ nL pc L (.ref (ρ x) :: .ref (ρ q) :: st) M := by
  intro H locs ls hP hS hl
  have he : (bw_wo sh n kT ρ M)[q]? = some (ρ q, .inr (ci, bw_fvs ρ M q 0 fl)) := (bw_wo_get hq).trans (by simp only [bw_ce, hs])
  have hk0 : k0 < fl.length := (List.getElem?_eq_some_iff.mp hf).1
  refine va_put (v := .ref (ρ x)) (ty := ty) C.1 C.2.1 C.2.2.2.2.1 hin ty0 hty hnm C.2.2.2.1 C.2.2.2.2.2.1 hP (bw_wo_D C.2.2.2.2.2.2.1 M) hS q he hc k0 hk (C.2.2.2.2.1 _ hw) (fun _ h9 => h9) hfin hd hn hfit (by rw [bw_fvs_len]; exact hk0) d (fun H1 locs1 hP1 _ hS1 => ?_)
  refine k H1 locs1 ls ?_ hS1 hl
  have hset : (bw_wo sh n kT ρ M).set q (ρ q, .inr (ci, (bw_fvs ρ M q 0 fl).set k0 (.ref (ρ x)))) = bw_wo sh n kT ρ M' := by
    subst hM
    refine bw_wo_set ?_ ?_
    · simp only [bw_ce, hs]
      rw [bw_fvs_set (M' := bw_pR M (some x))]
      · intro z hz
        rw [hf] at hz
        cases hz
        rfl
      · intro i z hi hz
        exact bw_fv_pR (some x) z (fun e => hi (h2 i (e ▸ hz)))
    · intro j hj
      exact bw_ce_pR (some x) h1 j hj
  rw [← hset]
  exact hP1
theorem bw_iald (C : bw_Cx p s m args meth c cc nL own n D kT ρ rt) {q k0 : Nat} (hq : q < n) (hs : sh q = .inr (.inl (0, k0))) {i v : Int32} (hi : bw_ib i k0 = true) (hv : v = M.1 q i.toNatClampNeg) (d : decode cc pc = .ok (.iaload, 1)) (k : bw_At p l e R s m args below meth c Q sh n D kT ρ nL (pc + 1) L (.int v :: st) M) : bw_At p l e R s m args below meth c Q sh n D kT ρ nL pc L (.int i :: .ref (ρ q) :: st) M := by
  subst hv
  exact fun H locs ls hP hS hl => va_iald C.1 C.2.1 C.2.2.2.2.2.1 hP q 0 ((bw_wo_get hq).trans (by simp only [bw_ce, hs])) rfl (bw_ib_in hi) d (k H locs ls hP hS hl)
theorem bw_bald (C : bw_Cx p s m args meth c cc nL own n D kT ρ rt) {q k0 : Nat} (hq : q < n) (hs : sh q = .inr (.inl (1, k0))) {i v : Int32} (hi : bw_ib i k0 = true) (hv : v = M.1 q i.toNatClampNeg) (d : decode cc pc = .ok (.baload, 1)) (k : bw_At p l e R s m args below meth c Q sh n D kT ρ nL (pc + 1) L (.int v :: st) M) : bw_At p l e R s m args below meth c Q sh n D kT ρ nL pc L (.int i :: .ref (ρ q) :: st) M := by
  subst hv
  exact fun H locs ls hP hS hl => va_bald C.1 C.2.1 C.2.2.2.2.2.1 hP q 1 ((bw_wo_get hq).trans (by simp only [bw_ce, hs])) rfl (bw_ib_in hi) d (k H locs ls hP hS hl)
theorem bw_iast (C : bw_Cx p s m args meth c cc nL own n D kT ρ rt) {q k0 : Nat} (hq : q < n) (hs : sh q = .inr (.inl (0, k0))) {i x : Int32} {M' : bw_M} (hi : bw_ib i k0 = true) (hM : M' = bw_pI M q i.toNatClampNeg (x)) (d : decode cc pc = .ok (.iastore, 1)) (k : bw_At p l e R s m args below meth c Q sh n D kT ρ nL (pc + 1) L st M') : bw_At p l e R s m args below meth c Q sh n D kT ρ nL pc L (.int x :: .int i :: .ref (ρ q) :: st) M := by
  intro H locs ls hP hS hl
  have he : (bw_wo sh n kT ρ M)[q]? = some (ρ q, .inl (kT 0, k0, .inl (M.1 q))) := (bw_wo_get hq).trans (by simp only [bw_ce, hs])
  refine va_iast C.1 C.2.1 C.2.2.2.2.2.1 hP (bw_wo_D C.2.2.2.2.2.2.1 M) hS q 0 he rfl (bw_ib_in hi) d (fun H1 locs1 hP1 _ hS1 => ?_)
  refine k H1 locs1 ls ?_ hS1 hl
  have hset : (bw_wo sh n kT ρ M).set q (ρ q, .inl (kT 0, k0, .inl (upd (M.1 q) i.toNatClampNeg (x)))) = bw_wo sh n kT ρ M' := by
    subst hM
    refine bw_wo_set ?_ (fun j hj => bw_ce_pA _ j hj)
    simp only [bw_ce, hs]
    skip
    rw [show (bw_pI M q i.toNatClampNeg (x)).1 q = upd (M.1 q) i.toNatClampNeg (x) from bw_pA_self _ _ _]
  rw [← hset]
  exact hP1
theorem bw_bast (C : bw_Cx p s m args meth c cc nL own n D kT ρ rt) {q k0 : Nat} (hq : q < n) (hs : sh q = .inr (.inl (1, k0))) {i x : Int32} {M' : bw_M} (hi : bw_ib i k0 = true) (hM : M' = bw_pI M q i.toNatClampNeg (x.toInt8.toInt32)) (d : decode cc pc = .ok (.bastore, 1)) (k : bw_At p l e R s m args below meth c Q sh n D kT ρ nL (pc + 1) L st M') : bw_At p l e R s m args below meth c Q sh n D kT ρ nL pc L (.int x :: .int i :: .ref (ρ q) :: st) M := by
  intro H locs ls hP hS hl
  have he : (bw_wo sh n kT ρ M)[q]? = some (ρ q, .inl (kT 1, k0, .inl (M.1 q))) := (bw_wo_get hq).trans (by simp only [bw_ce, hs])
  refine va_bast C.1 C.2.1 C.2.2.2.2.2.1 hP (bw_wo_D C.2.2.2.2.2.2.1 M) hS q 1 he rfl (bw_ib_in hi) d (fun H1 locs1 hP1 _ hS1 => ?_)
  refine k H1 locs1 ls ?_ hS1 hl
  have hset : (bw_wo sh n kT ρ M).set q (ρ q, .inl (kT 1, k0, .inl (upd (M.1 q) i.toNatClampNeg (vp_nar .byte x)))) = bw_wo sh n kT ρ M' := by
    subst hM
    refine bw_wo_set ?_ (fun j hj => bw_ce_pA _ j hj)
    simp only [bw_ce, hs]
    rw [vp_nar_byte]
    rw [show (bw_pI M q i.toNatClampNeg (x.toInt8.toInt32)).1 q = upd (M.1 q) i.toNatClampNeg (x.toInt8.toInt32) from bw_pA_self _ _ _]
  rw [← hset]
  exact hP1
theorem bw_alen (C : bw_Cx p s m args meth c cc nL own n D kT ρ rt) {q t k0 : Nat} {v : Int32} (hq : q < n) (hs : sh q = .inr (.inl (t, k0))) (ht : t < 2) (hv : Int32.ofNat k0 = v) (d : decode cc pc = .ok (.arraylength, 1)) (k : bw_At p l e R s m args below meth c Q sh n D kT ρ nL (pc + 1) L (.int v :: st) M) : bw_At p l e R s m args below meth c Q sh n D kT ρ nL pc L (.ref (ρ q) :: st) M := by
  intro H locs ls hP hS hl
  have he : (bw_wo sh n kT ρ M)[q]? = some (ρ q, .inl (kT t, k0, .inl (M.1 q))) := (bw_wo_get hq).trans (by simp only [bw_ce, hs])
  match t, ht, he with
  | 0, _, he => exact va_alen (ty := .int) C.1 C.2.1 C.2.2.2.2.2.1 hP q 0 he rfl hv d (k H locs ls hP hS hl)
  | 1, _, he => exact va_alen (ty := .byte) C.1 C.2.1 C.2.2.2.2.2.1 hP q 1 he rfl hv d (k H locs ls hP hS hl)
theorem bw_aald (C : bw_Cx p s m args meth c cc nL own n D kT ρ rt) {q t i0 : Nat} {ids : List Nat} (hq : q < n) (hs : sh q = .inr (.inr (t, ids))) {ty : FieldType} (ht : (bw_ty kT)[t]? = some (kT t, ty)) (hty : ty.isReference = true) {i : Int32} (hi : bw_ib i ids.length = true) (hid : ids[i.toNatClampNeg]? = some i0) (d : decode cc pc = .ok (.aaload, 1)) (k : bw_At p l e R s m args below meth c Q sh n D kT ρ nL (pc + 1) L (.ref (ρ i0) :: st) M) : bw_At p l e R s m args below meth c Q sh n D kT ρ nL pc L (.int i :: .ref (ρ q) :: st) M := by
  intro H locs ls hP hS hl
  have he : (bw_wo sh n kT ρ M)[q]? = some (ρ q, .inl (kT t, ids.length, .inr (.inr (.inr (.inr (fun i => ids[i]?.map ρ)))))) := (bw_wo_get hq).trans (by simp only [bw_ce, hs])
  have hin := bw_ib_in hi
  have hlt : i.toNatClampNeg < ids.length := Nat.not_le.mp fun q => hin (Or.inr q)
  exact W.aald (v := .ref (ρ i0)) (ty := ty) C.1 C.2.1 (hP q _ he) ((C.2.2.2.2.2.1.2 t _ ht).1 ids.length (fun j => va_rf (ids[j]?.map ρ))) hty (fun q => by cases q) (by show ¬ (i < 0 ∨ (arrV _ _ _).slots.size ≤ _); rw [arrV_size]; exact hin) (by show (arrV _ _ _).slots[_]? = _; rw [arrV_read _ _ hlt]; simp only [hid, Option.map_some]; rfl) rfl rfl d (k H locs ls hP hS hl)
theorem bw_acopy (C : bw_Cx p s m args meth c cc nL own n D kT ρ rt) {qs qd ns nd ix : Nat} (hqs : qs < n) (hqd : qd < n) (hss : sh qs = .inr (.inl (0, ns))) (hsd : sh qd = .inr (.inl (0, nd))) {sp dp x : Int32} {M' : bw_M} (hb : 0 ≤ sp ∧ 0 ≤ dp ∧ 0 ≤ x ∧ sp.toNatClampNeg + x.toNatClampNeg ≤ ns ∧ dp.toNatClampNeg + x.toNatClampNeg ≤ nd) (hM : M' = bw_pA M qd (va_cpy (M.1 qs) (M.1 qd) sp.toNatClampNeg dp.toNatClampNeg x.toNatClampNeg)) (h1 : Cond.methodLink own ix arraycopyName ∈ bw_tbl) (h2 : Cond.native arraycopyName ∈ bw_tbl) (h3 : Cond.static arraycopyName ∈ bw_tbl) (h4 : Cond.initialized "java/lang/System" ∈ bw_tbl) (hfr : 1 ≤ R.frames) (hlo : (rest.map fun v => v.category).sum + (nativeFrameWords "java/lang/System" "arraycopy" 5 + 11) ≤ R.locals) (d : decode cc pc = .ok (.invokestatic ix, 3)) (k : bw_At p l e R s m args below meth c Q sh n D kT ρ nL (pc + 3) L rest M') : bw_At p l e R s m args below meth c Q sh n D kT ρ nL pc L (.int x :: .int dp :: .ref (ρ qd) :: .int sp :: .ref (ρ qs) :: rest) M := by
  intro H locs ls hP hS hl
  have ng : ∀ z : Int32, 0 ≤ z → ¬ z < 0 := fun z h => Int32.not_lt.mpr h
  have he : (bw_wo sh n kT ρ M)[qs]? = some (ρ qs, .inl (kT 0, ns, .inl (M.1 qs))) := (bw_wo_get hqs).trans (by simp only [bw_ce, hss])
  have he2 : (bw_wo sh n kT ρ M)[qd]? = some (ρ qd, .inl (kT 0, nd, .inl (M.1 qd))) := (bw_wo_get hqd).trans (by simp only [bw_ce, hsd])
  refine va_copyi (ty := .int) C.1 C.2.1 (C.2.2.1.trans hl.1.symm) C.2.2.2.1 (C.2.2.2.2.1 _ h1) (C.2.2.2.2.1 _ h2) (C.2.2.2.2.1 _ h3) (C.2.2.2.2.1 _ h4) C.2.2.2.2.2.1 hP (bw_wo_D C.2.2.2.2.2.2.1 M) hS qs qd 0 0 he he2 rfl rfl rfl (ng _ hb.1) (ng _ hb.2.1) (ng _ hb.2.2.1) hb.2.2.2.1 hb.2.2.2.2 (fun i _ => rfl) hfr hlo d (fun H1 locs1 hP1 _ hS1 => ?_)
  refine k H1 locs1 ls ?_ hS1 hl
  have hset : (bw_wo sh n kT ρ M).set qd (ρ qd, .inl (kT 0, nd, .inl (va_cpy (M.1 qs) (M.1 qd) sp.toNatClampNeg dp.toNatClampNeg x.toNatClampNeg))) = bw_wo sh n kT ρ M' := by
    subst hM
    refine bw_wo_set ?_ (fun j hj => bw_ce_pA _ j hj)
    simp only [bw_ce, hsd, bw_pA_self]
  rw [← hset]
  exact hP1
theorem bw_mmax (C : bw_Cx p s m args meth c cc nL own n D kT ρ rt) {ix : Nat} {x y : Int32} (h1 : Cond.methodLink own ix Lib.Math.max.name ∈ bw_tbl) (h2 : Cond.static Lib.Math.max.name ∈ bw_tbl) (h3 : Cond.initialized "java/lang/Math" ∈ bw_tbl) (h4 : Cond.code Lib.Math.max.name Lib.Math.max.code 2 (some .int) ∈ bw_tbl) (hfr : 1 ≤ R.frames) (hlo : (rest.map fun v => v.category).sum + 13 ≤ R.locals) (d : decode cc pc = .ok (.invokestatic ix, 3)) (k : bw_At p l e R s m args below meth c Q sh n D kT ρ nL (pc + 3) L (.int (if x < y then y else x) :: rest) M) : bw_At p l e R s m args below meth c Q sh n D kT ρ nL pc L (.int y :: .int x :: rest) M := fun H locs ls hP hS hl => va_mmax C.1 C.2.1 (C.2.2.1.trans hl.1.symm) C.2.2.2.1 (C.2.2.2.2.1 _ h1) (C.2.2.2.2.1 _ h2) (C.2.2.2.2.1 _ h3) (C.2.2.2.2.1 _ h4) hfr hlo (Nat.zero_le _) (Nat.zero_le _) d (k H locs ls hP hS hl)
theorem bw_mmin (C : bw_Cx p s m args meth c cc nL own n D kT ρ rt) {ix : Nat} {x y : Int32} (h1 : Cond.methodLink own ix Lib.Math.min.name ∈ bw_tbl) (h2 : Cond.static Lib.Math.min.name ∈ bw_tbl) (h3 : Cond.initialized "java/lang/Math" ∈ bw_tbl) (h4 : Cond.code Lib.Math.min.name Lib.Math.min.code 2 (some .int) ∈ bw_tbl) (hfr : 1 ≤ R.frames) (hlo : (rest.map fun v => v.category).sum + 13 ≤ R.locals) (d : decode cc pc = .ok (.invokestatic ix, 3)) (k : bw_At p l e R s m args below meth c Q sh n D kT ρ nL (pc + 3) L (.int (if y < x then y else x) :: rest) M) : bw_At p l e R s m args below meth c Q sh n D kT ρ nL pc L (.int y :: .int x :: rest) M := fun H locs ls hP hS hl => va_mmin C.1 C.2.1 (C.2.2.1.trans hl.1.symm) C.2.2.2.1 (C.2.2.2.2.1 _ h1) (C.2.2.2.2.1 _ h2) (C.2.2.2.2.1 _ h3) (C.2.2.2.2.1 _ h4) hfr hlo (Nat.zero_le _) (Nat.zero_le _) d (k H locs ls hP hS hl)
def bw_Pr (sh : Nat → bw_Sh) (n : Nat) (D : va_G) (kT : Nat → ClassId) (ρ : Nat → Nat) (M : bw_M) : State → Prop := fun U => va_P D vwCl (bw_wo sh n kT ρ M) U.heap ∧ va_K D vwCl (bw_ty kT) U ∧ bw_inj ρ n
def bw_B (sh : Nat → bw_Sh) (n : Nat) (D : va_G) (kT : Nat → ClassId) (ρ : Nat → Nat) (M : bw_M) : Unit → State → Prop := fun _ t => va_P D vwCl (bw_wo sh n kT ρ M) t.heap
abbrev bw_QI (sh : Nat → bw_Sh) (n : Nat) (D : va_G) (kT : Nat → ClassId) (ρ : Nat → Nat) (r : Int32) (M : bw_M) := va_Qi (S := Unit) (fun v _ => v = r) (bw_B sh n D kT ρ M) (bw_A ρ n)
abbrev bw_QL (sh : Nat → bw_Sh) (n : Nat) (D : va_G) (kT : Nat → ClassId) (ρ : Nat → Nat) (r : Int64) (M : bw_M) := va_Ql (S := Unit) (fun v _ => v = r) (bw_B sh n D kT ρ M) (bw_A ρ n)
abbrev bw_QV (sh : Nat → bw_Sh) (n : Nat) (D : va_G) (kT : Nat → ClassId) (ρ : Nat → Nat) (M : bw_M) := va_Qv (S := Unit) (fun _ => True) (bw_B sh n D kT ρ M) (bw_A ρ n)
def bw_CI (l : Launch) (sh : Nat → bw_Sh) (n : Nat) (y : MethodName) (cc : ByteArray) (nL : Nat) (rt : Option FieldType) (rm : Room) (av : (Nat → Nat) → List Value) (M : bw_M) (r : Int32) (M' : bw_M) : Prop := ∀ (D : va_G) (kT : Nat → ClassId) (ρ : Nat → Nat), Met l y (bw_ws y cc nL rt) rm (va_Pc (av ρ) (bw_Pr sh n D kT ρ M)) (bw_QI sh n D kT ρ r M') 0 0 (bw_A ρ n)
def bw_CL (l : Launch) (sh : Nat → bw_Sh) (n : Nat) (y : MethodName) (cc : ByteArray) (nL : Nat) (rt : Option FieldType) (rm : Room) (av : (Nat → Nat) → List Value) (M : bw_M) (r : Int64) (M' : bw_M) : Prop := ∀ (D : va_G) (kT : Nat → ClassId) (ρ : Nat → Nat), Met l y (bw_ws y cc nL rt) rm (va_Pc (av ρ) (bw_Pr sh n D kT ρ M)) (bw_QL sh n D kT ρ r M') 0 0 (bw_A ρ n)
def bw_CV (l : Launch) (sh : Nat → bw_Sh) (n : Nat) (y : MethodName) (cc : ByteArray) (nL : Nat) (rt : Option FieldType) (rm : Room) (av : (Nat → Nat) → List Value) (M : bw_M) (M' : bw_M) : Prop := ∀ (D : va_G) (kT : Nat → ClassId) (ρ : Nat → Nat), Met l y (bw_ws y cc nL rt) rm (va_Pc (av ρ) (bw_Pr sh n D kT ρ M)) (bw_QV sh n D kT ρ M') 0 0 (bw_A ρ n)
theorem bw_blind {av : List Value} : FrameBlind (va_Pc av (bw_Pr sh n D kT ρ M)) := fun a U g mk q => by
  obtain ⟨q0, qP, qK, qI⟩ := q
  exact ⟨q0, qP, va_K.moved (u := U) (U := U.calling g mk a) (Vm.Alike.refl U.vm) qK, qI⟩
theorem bw_pre (C : bw_Cx p s m args meth c cc nL own n D kT ρ rt) {H : Heap} (hP : va_P D vwCl (bw_wo sh n kT ρ M) H) {av : List Value} (U : State) (hU : U.heap = H) (hW : s.WarmedH U.vm) : va_Pc av (bw_Pr sh n D kT ρ M) av.toArray U := ⟨rfl, by rw [hU]; exact hP, va_K.moved hW.alike C.2.2.2.2.2.1, C.2.2.2.2.2.2.1⟩
theorem bw_cVi (C : bw_Cx p s m args meth c cc nL own n D kT ρ rt) {y : MethodName} {rm : Room} {av : (Nat → Nat) → List Value} {r : Int32} {M' : bw_M} {C0 : String} {T : u_T} {N ci ix q na maxL : Nat} {bytes : ByteArray} {ret : Option FieldType} {fl : List Nat} {As : List Value} (hc : bw_CI l sh n y bytes maxL ret rm av M r M') (hm : bw_MV y bytes maxL ret C0 na) (hlk : Cond.methodLink own ix y ∈ bw_tbl) (hrc : rm.cells = 0) (hrs : rm.slots = 0) (hrm : rm.frames + 1 ≤ R.frames ∧ 8 + (maxL + 11) + rm.locals ≤ R.locals) (hq : q < n) (hs : sh q = .inl (ci, fl)) (hcl : vwCl[ci]? = some (C0, T, N)) (hav : av ρ = .ref (ρ q) :: As) (hn : As.length = na) (hst : st = As.reverse ++ .ref (ρ q) :: rest) (hro : (rest.map fun v => v.category).sum ≤ 8) (d : decode cc pc = .ok (.invokevirtual ix, 3)) (k : bw_At p l e R s m args below meth c Q sh n D kT ρ nL (pc + 3) L (.int r :: rest) M') : bw_At p l e R s m args below meth c Q sh n D kT ρ nL pc L st M := by
  intro H locs ls hP hS hl
  have he : (bw_wo sh n kT ρ M)[q]? = some (ρ q, .inr (ci, bw_fvs ρ M q 0 fl)) := (bw_wo_get hq).trans (by simp only [bw_ce, hs])
  have hM := hc D kT ρ
  rw [hav] at hM
  refine va_calli (va_runV (As := As) (rest := rest) ⟨C.1, C.2.1, C.2.2.1, C.2.2.2.1, C.2.2.2.2.1⟩ hM (cwV na C.2.2.2.2.1 (bw_gV hm hlk) rfl hrc hrs hm.2.2.2.2 hrm) ⟨bw_blind, va_recv C.2.2.2.2.2.1 hP hcl he, fun U hU hW => bw_pre C hP U hU hW⟩ rfl hn hl.1 hst (lv_room hro) d ⟨Nat.zero_le _, Nat.zero_le _⟩) hS (fun q _ h => h) (fun q h => h) (fun r' u t H1 locs1 ht hvm hw hB hz hk hS1 => ?_)
  subst hw
  exact k H1 locs1 ls (by rw [← ht]; exact hB) hS1 hl
theorem bw_cSi (C : bw_Cx p s m args meth c cc nL own n D kT ρ rt) {y : MethodName} {rm : Room} {av : (Nat → Nat) → List Value} {r : Int32} {M' : bw_M} {ix na maxL : Nat} {bytes : ByteArray} {ret : Option FieldType} {As : List Value} (hc : bw_CI l sh n y bytes maxL ret rm av M r M') (hm : bw_MS y bytes maxL ret na) (hlk : Cond.methodLink own ix y ∈ bw_tbl) (hrc : rm.cells = 0) (hrs : rm.slots = 0) (hrm : rm.frames + 1 ≤ R.frames ∧ 8 + (maxL + 11) + rm.locals ≤ R.locals) (hav : av ρ = As) (hn : As.length = na) (hst : st = As.reverse ++ rest) (hro : (rest.map fun v => v.category).sum ≤ 8) (d : decode cc pc = .ok (.invokestatic ix, 3)) (k : bw_At p l e R s m args below meth c Q sh n D kT ρ nL (pc + 3) L (.int r :: rest) M') : bw_At p l e R s m args below meth c Q sh n D kT ρ nL pc L st M := by
  intro H locs ls hP hS hl
  have hM := hc D kT ρ
  rw [hav] at hM
  refine va_calli (va_runS (As := As) (rest := rest) ⟨C.1, C.2.1, C.2.2.1, C.2.2.2.1, C.2.2.2.2.1⟩ hM (va_cwS na C.2.2.2.2.1 (bw_gS hm hlk) rfl hrc hrs hm.2.2.2 hrm) ⟨bw_blind, fun U hU hW => bw_pre C hP U hU hW⟩ rfl hn hl.1 hst (lv_room hro) d ⟨Nat.zero_le _, Nat.zero_le _⟩) hS (fun q _ h => h) (fun q h => h) (fun r' u t H1 locs1 ht hvm hw hB hz hk hS1 => ?_)
  subst hw
  exact k H1 locs1 ls (by rw [← ht]; exact hB) hS1 hl
theorem bw_cVl (C : bw_Cx p s m args meth c cc nL own n D kT ρ rt) {y : MethodName} {rm : Room} {av : (Nat → Nat) → List Value} {r : Int64} {M' : bw_M} {C0 : String} {T : u_T} {N ci ix q na maxL : Nat} {bytes : ByteArray} {ret : Option FieldType} {fl : List Nat} {As : List Value} (hc : bw_CL l sh n y bytes maxL ret rm av M r M') (hm : bw_MV y bytes maxL ret C0 na) (hlk : Cond.methodLink own ix y ∈ bw_tbl) (hrc : rm.cells = 0) (hrs : rm.slots = 0) (hrm : rm.frames + 1 ≤ R.frames ∧ 8 + (maxL + 11) + rm.locals ≤ R.locals) (hq : q < n) (hs : sh q = .inl (ci, fl)) (hcl : vwCl[ci]? = some (C0, T, N)) (hav : av ρ = .ref (ρ q) :: As) (hn : As.length = na) (hst : st = As.reverse ++ .ref (ρ q) :: rest) (hro : (rest.map fun v => v.category).sum ≤ 8) (d : decode cc pc = .ok (.invokevirtual ix, 3)) (k : bw_At p l e R s m args below meth c Q sh n D kT ρ nL (pc + 3) L (.long r :: rest) M') : bw_At p l e R s m args below meth c Q sh n D kT ρ nL pc L st M := by
  intro H locs ls hP hS hl
  have he : (bw_wo sh n kT ρ M)[q]? = some (ρ q, .inr (ci, bw_fvs ρ M q 0 fl)) := (bw_wo_get hq).trans (by simp only [bw_ce, hs])
  have hM := hc D kT ρ
  rw [hav] at hM
  refine va_calll (va_runV (As := As) (rest := rest) ⟨C.1, C.2.1, C.2.2.1, C.2.2.2.1, C.2.2.2.2.1⟩ hM (cwV na C.2.2.2.2.1 (bw_gV hm hlk) rfl hrc hrs hm.2.2.2.2 hrm) ⟨bw_blind, va_recv C.2.2.2.2.2.1 hP hcl he, fun U hU hW => bw_pre C hP U hU hW⟩ rfl hn hl.1 hst (lv_room hro) d ⟨Nat.zero_le _, Nat.zero_le _⟩) hS (fun q _ h => h) (fun q h => h) (fun r' u t H1 locs1 ht hvm hw hB hz hk hS1 => ?_)
  subst hw
  exact k H1 locs1 ls (by rw [← ht]; exact hB) hS1 hl
theorem bw_cSl (C : bw_Cx p s m args meth c cc nL own n D kT ρ rt) {y : MethodName} {rm : Room} {av : (Nat → Nat) → List Value} {r : Int64} {M' : bw_M} {ix na maxL : Nat} {bytes : ByteArray} {ret : Option FieldType} {As : List Value} (hc : bw_CL l sh n y bytes maxL ret rm av M r M') (hm : bw_MS y bytes maxL ret na) (hlk : Cond.methodLink own ix y ∈ bw_tbl) (hrc : rm.cells = 0) (hrs : rm.slots = 0) (hrm : rm.frames + 1 ≤ R.frames ∧ 8 + (maxL + 11) + rm.locals ≤ R.locals) (hav : av ρ = As) (hn : As.length = na) (hst : st = As.reverse ++ rest) (hro : (rest.map fun v => v.category).sum ≤ 8) (d : decode cc pc = .ok (.invokestatic ix, 3)) (k : bw_At p l e R s m args below meth c Q sh n D kT ρ nL (pc + 3) L (.long r :: rest) M') : bw_At p l e R s m args below meth c Q sh n D kT ρ nL pc L st M := by
  intro H locs ls hP hS hl
  have hM := hc D kT ρ
  rw [hav] at hM
  refine va_calll (va_runS (As := As) (rest := rest) ⟨C.1, C.2.1, C.2.2.1, C.2.2.2.1, C.2.2.2.2.1⟩ hM (va_cwS na C.2.2.2.2.1 (bw_gS hm hlk) rfl hrc hrs hm.2.2.2 hrm) ⟨bw_blind, fun U hU hW => bw_pre C hP U hU hW⟩ rfl hn hl.1 hst (lv_room hro) d ⟨Nat.zero_le _, Nat.zero_le _⟩) hS (fun q _ h => h) (fun q h => h) (fun r' u t H1 locs1 ht hvm hw hB hz hk hS1 => ?_)
  subst hw
  exact k H1 locs1 ls (by rw [← ht]; exact hB) hS1 hl
theorem bw_cVv (C : bw_Cx p s m args meth c cc nL own n D kT ρ rt) {y : MethodName} {rm : Room} {av : (Nat → Nat) → List Value} {M' : bw_M} {C0 : String} {T : u_T} {N ci ix q na maxL : Nat} {bytes : ByteArray} {ret : Option FieldType} {fl : List Nat} {As : List Value} (hc : bw_CV l sh n y bytes maxL ret rm av M M') (hm : bw_MV y bytes maxL ret C0 na) (hlk : Cond.methodLink own ix y ∈ bw_tbl) (hrc : rm.cells = 0) (hrs : rm.slots = 0) (hrm : rm.frames + 1 ≤ R.frames ∧ 8 + (maxL + 11) + rm.locals ≤ R.locals) (hq : q < n) (hs : sh q = .inl (ci, fl)) (hcl : vwCl[ci]? = some (C0, T, N)) (hav : av ρ = .ref (ρ q) :: As) (hn : As.length = na) (hst : st = As.reverse ++ .ref (ρ q) :: rest) (hro : (rest.map fun v => v.category).sum ≤ 8) (d : decode cc pc = .ok (.invokevirtual ix, 3)) (k : bw_At p l e R s m args below meth c Q sh n D kT ρ nL (pc + 3) L (rest) M') : bw_At p l e R s m args below meth c Q sh n D kT ρ nL pc L st M := by
  intro H locs ls hP hS hl
  have he : (bw_wo sh n kT ρ M)[q]? = some (ρ q, .inr (ci, bw_fvs ρ M q 0 fl)) := (bw_wo_get hq).trans (by simp only [bw_ce, hs])
  have hM := hc D kT ρ
  rw [hav] at hM
  refine va_callv (va_runV (As := As) (rest := rest) ⟨C.1, C.2.1, C.2.2.1, C.2.2.2.1, C.2.2.2.2.1⟩ hM (cwV na C.2.2.2.2.1 (bw_gV hm hlk) rfl hrc hrs hm.2.2.2.2 hrm) ⟨bw_blind, va_recv C.2.2.2.2.2.1 hP hcl he, fun U hU hW => bw_pre C hP U hU hW⟩ rfl hn hl.1 hst (lv_room hro) d ⟨Nat.zero_le _, Nat.zero_le _⟩) hS (fun q _ h => h) (fun q h => h) (fun u t H1 locs1 ht hvm hw hB hz hk hS1 => ?_)
  exact k H1 locs1 ls (by rw [← ht]; exact hB) hS1 hl
theorem bw_cSv (C : bw_Cx p s m args meth c cc nL own n D kT ρ rt) {y : MethodName} {rm : Room} {av : (Nat → Nat) → List Value} {M' : bw_M} {ix na maxL : Nat} {bytes : ByteArray} {ret : Option FieldType} {As : List Value} (hc : bw_CV l sh n y bytes maxL ret rm av M M') (hm : bw_MS y bytes maxL ret na) (hlk : Cond.methodLink own ix y ∈ bw_tbl) (hrc : rm.cells = 0) (hrs : rm.slots = 0) (hrm : rm.frames + 1 ≤ R.frames ∧ 8 + (maxL + 11) + rm.locals ≤ R.locals) (hav : av ρ = As) (hn : As.length = na) (hst : st = As.reverse ++ rest) (hro : (rest.map fun v => v.category).sum ≤ 8) (d : decode cc pc = .ok (.invokestatic ix, 3)) (k : bw_At p l e R s m args below meth c Q sh n D kT ρ nL (pc + 3) L (rest) M') : bw_At p l e R s m args below meth c Q sh n D kT ρ nL pc L st M := by
  intro H locs ls hP hS hl
  have hM := hc D kT ρ
  rw [hav] at hM
  refine va_callv (va_runS (As := As) (rest := rest) ⟨C.1, C.2.1, C.2.2.1, C.2.2.2.1, C.2.2.2.2.1⟩ hM (va_cwS na C.2.2.2.2.1 (bw_gS hm hlk) rfl hrc hrs hm.2.2.2 hrm) ⟨bw_blind, fun U hU hW => bw_pre C hP U hU hW⟩ rfl hn hl.1 hst (lv_room hro) d ⟨Nat.zero_le _, Nat.zero_le _⟩) hS (fun q _ h => h) (fun q h => h) (fun u t H1 locs1 ht hvm hw hB hz hk hS1 => ?_)
  exact k H1 locs1 ls (by rw [← ht]; exact hB) hS1 hl
theorem bw_inI {y : MethodName} {rm : Room} {av : (Nat → Nat) → List Value} {r : Int32} {M' : bw_M} {Lf : (Nat → Nat) → List (Nat × Value)} (cc : ByteArray) (nL : Nat) (rt : Option FieldType) (own : String) (hy : plainName y.cls = true) (hown : y.cls = own) (hlen : ∀ ρ, (lg_sl (av ρ)).length ≤ nL) (hLf : ∀ ρ, lv_args 0 (av ρ) = Lf ρ)
    (body : ∀ (p : Program) (e : Env) (s : State) (m : MethodId) (args : Array Value) (below : List Frame) (meth : Method) (c : Code) (D : va_G) (kT : Nat → ClassId) (ρ : Nat → Nat), bw_Cx p s m args meth c cc nL own n D kT ρ rt → bw_At p l e rm s m args below meth c (MQ below (bw_QI sh n D kT ρ r M') args s 0 0 (bw_A ρ n)) sh n D kT ρ nL 0 (Lf ρ) [] M) : bw_CI l sh n y cc nL rt rm av M r M' := by
  intro D kT ρ
  refine Met.ofW (cc := cc) (maxL := nL) (ret := rt) hy rfl ?_
  intro p e s m args below meth c s₁ B hml hv
  obtain ⟨rfl, hP, hK, hI⟩ := hv
  have hts := fun w (h : w ∈ bw_tbl) => atoms_spec (ws := bw_ws y cc nL rt) B.pre w (List.mem_cons_of_mem _ h)
  have hown2 : s.vm.findClass own = some m.cls := hown ▸ findClass_of_methodNamed B.named
  have hl := lv_entry (av ρ) (n := nL) (hlen ρ)
  rw [lg_entry_eq]
  rw [hLf ρ] at hl
  exact body p e s m _ below meth c D kT ρ ⟨B.exec, B.bytes, hml, hown2, hts, hK, hI, B.returns, B.notSynchronized⟩ s.heap [] _ hP va_S.rf hl
theorem bw_inL {y : MethodName} {rm : Room} {av : (Nat → Nat) → List Value} {r : Int64} {M' : bw_M} {Lf : (Nat → Nat) → List (Nat × Value)} (cc : ByteArray) (nL : Nat) (rt : Option FieldType) (own : String) (hy : plainName y.cls = true) (hown : y.cls = own) (hlen : ∀ ρ, (lg_sl (av ρ)).length ≤ nL) (hLf : ∀ ρ, lv_args 0 (av ρ) = Lf ρ)
    (body : ∀ (p : Program) (e : Env) (s : State) (m : MethodId) (args : Array Value) (below : List Frame) (meth : Method) (c : Code) (D : va_G) (kT : Nat → ClassId) (ρ : Nat → Nat), bw_Cx p s m args meth c cc nL own n D kT ρ rt → bw_At p l e rm s m args below meth c (MQ below (bw_QL sh n D kT ρ r M') args s 0 0 (bw_A ρ n)) sh n D kT ρ nL 0 (Lf ρ) [] M) : bw_CL l sh n y cc nL rt rm av M r M' := by
  intro D kT ρ
  refine Met.ofW (cc := cc) (maxL := nL) (ret := rt) hy rfl ?_
  intro p e s m args below meth c s₁ B hml hv
  obtain ⟨rfl, hP, hK, hI⟩ := hv
  have hts := fun w (h : w ∈ bw_tbl) => atoms_spec (ws := bw_ws y cc nL rt) B.pre w (List.mem_cons_of_mem _ h)
  have hown2 : s.vm.findClass own = some m.cls := hown ▸ findClass_of_methodNamed B.named
  have hl := lv_entry (av ρ) (n := nL) (hlen ρ)
  rw [lg_entry_eq]
  rw [hLf ρ] at hl
  exact body p e s m _ below meth c D kT ρ ⟨B.exec, B.bytes, hml, hown2, hts, hK, hI, B.returns, B.notSynchronized⟩ s.heap [] _ hP va_S.rf hl
theorem bw_inV {y : MethodName} {rm : Room} {av : (Nat → Nat) → List Value} {M' : bw_M} {Lf : (Nat → Nat) → List (Nat × Value)} (cc : ByteArray) (nL : Nat) (rt : Option FieldType) (own : String) (hy : plainName y.cls = true) (hown : y.cls = own) (hlen : ∀ ρ, (lg_sl (av ρ)).length ≤ nL) (hLf : ∀ ρ, lv_args 0 (av ρ) = Lf ρ)
    (body : ∀ (p : Program) (e : Env) (s : State) (m : MethodId) (args : Array Value) (below : List Frame) (meth : Method) (c : Code) (D : va_G) (kT : Nat → ClassId) (ρ : Nat → Nat), bw_Cx p s m args meth c cc nL own n D kT ρ rt → bw_At p l e rm s m args below meth c (MQ below (bw_QV sh n D kT ρ M') args s 0 0 (bw_A ρ n)) sh n D kT ρ nL 0 (Lf ρ) [] M) : bw_CV l sh n y cc nL rt rm av M M' := by
  intro D kT ρ
  refine Met.ofW (cc := cc) (maxL := nL) (ret := rt) hy rfl ?_
  intro p e s m args below meth c s₁ B hml hv
  obtain ⟨rfl, hP, hK, hI⟩ := hv
  have hts := fun w (h : w ∈ bw_tbl) => atoms_spec (ws := bw_ws y cc nL rt) B.pre w (List.mem_cons_of_mem _ h)
  have hown2 : s.vm.findClass own = some m.cls := hown ▸ findClass_of_methodNamed B.named
  have hl := lv_entry (av ρ) (n := nL) (hlen ρ)
  rw [lg_entry_eq]
  rw [hLf ρ] at hl
  exact body p e s m _ below meth c D kT ρ ⟨B.exec, B.bytes, hml, hown2, hts, hK, hI, B.returns, B.notSynchronized⟩ s.heap [] _ hP va_S.rf hl
theorem bw_ireti (C : bw_Cx p s m args meth c cc nL own n D kT ρ (some .int)) {r v : Int32} {M' : bw_M} (d : decode cc pc = .ok (.ireturn, 1)) (h : some (v, M) = some (r, M')) : bw_At p l e R s m args below meth c (MQ below (bw_QI sh n D kT ρ r M') args s 0 0 (bw_A ρ n)) sh n D kT ρ nL pc L [.int v] M := by
  cases h
  exact fun H locs ls hP hS hl => W.iret C.1 C.2.1 C.2.2.2.2.2.2.2.1 (fun t ht hW => ⟨⟨_, (), rfl, rfl, by rw [bw_B, ht]; exact hP⟩, hS.F ht⟩) hS.2.2 d C.2.2.2.2.2.2.2.2
theorem bw_iretz (C : bw_Cx p s m args meth c cc nL own n D kT ρ (some .boolean)) {r v : Int32} {M' : bw_M} (hb : narrow .boolean (.int v) = .int v) (d : decode cc pc = .ok (.ireturn, 1)) (h : some (v, M) = some (r, M')) : bw_At p l e R s m args below meth c (MQ below (bw_QI sh n D kT ρ r M') args s 0 0 (bw_A ρ n)) sh n D kT ρ nL pc L [.int v] M := by
  cases h
  exact fun H locs ls hP hS hl => W.zret C.1 C.2.1 C.2.2.2.2.2.2.2.1 hb (fun t ht hW => ⟨⟨_, (), rfl, rfl, by rw [bw_B, ht]; exact hP⟩, hS.F ht⟩) hS.2.2 d C.2.2.2.2.2.2.2.2
theorem bw_lreti (C : bw_Cx p s m args meth c cc nL own n D kT ρ (some .long)) {r v : Int64} {M' : bw_M} (d : decode cc pc = .ok (.lreturn, 1)) (h : some (v, M) = some (r, M')) : bw_At p l e R s m args below meth c (MQ below (bw_QL sh n D kT ρ r M') args s 0 0 (bw_A ρ n)) sh n D kT ρ nL pc L [.long v] M := by
  cases h
  exact fun H locs ls hP hS hl => W.lret C.1 C.2.1 C.2.2.2.2.2.2.2.1 (fun t ht hW => ⟨⟨_, (), rfl, rfl, by rw [bw_B, ht]; exact hP⟩, hS.F ht⟩) hS.2.2 d C.2.2.2.2.2.2.2.2
theorem bw_vreti (C : bw_Cx p s m args meth c cc nL own n D kT ρ (none)) {M' : bw_M} (d : decode cc pc = .ok (.return_, 1)) (h : some M = some M') : bw_At p l e R s m args below meth c (MQ below (bw_QV sh n D kT ρ M') args s 0 0 (bw_A ρ n)) sh n D kT ρ nL pc L [] M := by
  cases h
  exact fun H locs ls hP hS hl => W.vret C.1 C.2.1 C.2.2.2.2.2.2.2.1 (fun t ht hW => ⟨⟨(), rfl, trivial, by rw [bw_B, ht]; exact hP⟩, hS.F ht⟩) hS.2.2 d C.2.2.2.2.2.2.2.2
end BW
