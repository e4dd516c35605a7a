/-! L3: the pure functions' own rows -/
theorem cl_some {α τ : Type} (a : α) (k : α → Option τ) : bw_cl (some a) k = k a := rfl
theorem c2_some {α β τ : Type} (a : α) (b : β) (k : α → β → Option τ) : bw_c2 (some (a, b)) k = k a b := rfl
theorem c2_id {α β : Type} (x : Option (α × β)) : bw_c2 x (fun a b => some (a, b)) = x := by cases x <;> rfl
theorem cl_id {α : Type} (x : Option α) : bw_cl x (fun a => some a) = x := by cases x <;> rfl
theorem mv_eq {α τ : Type} (x : α) (k : α → Option τ) : bw_mv x k = k x := rfl
theorem ck_true {τ : Type} (x : Option τ) : bw_ck true x = x := rfl
theorem isb_0 : bw_isb 0 = true := by decide
theorem isb_1 : bw_isb 1 = true := by decide
theorem isb_n0 : bw_isb (nI 0) = true := by decide
theorem isb_n1 : bw_isb (nI 1) = true := by decide
theorem ib_ok {i n : Nat} (h : i < n) (hn : n < 2 ^ 31) : bw_ib (nI i) n = true := by
  have := nI_toInt (n := i) (by omega)
  simp only [bw_ib, this, decide_eq_true_eq]
  omega
theorem rd_ok {τ : Type} {M : bw_M} {q n i : Nat} {k : Int32 → Option τ} (h : i < n) (hn : n < 2 ^ 31) : bw_rd M q n (nI i) k = k (M.1 q i) := by
  unfold bw_rd
  rw [if_pos (ib_ok h hn), nI_clamp (by omega)]
theorem wr_ok {τ : Type} {M : bw_M} {q n i : Nat} {v : Int32} {k : bw_M → Option τ} (h : i < n) (hn : n < 2 ^ 31) : bw_wr M q n (nI i) v k = k (bw_pI M q i v) := by
  unfold bw_wr
  rw [if_pos (ib_ok h hn), nI_clamp (by omega)]
theorem ra_ok {τ : Type} {n i : Nat} {k : Nat → Option τ} (h : i < n) (hn : n < 2 ^ 31) : bw_ra n (nI i) k = k i := by
  unfold bw_ra
  rw [if_pos (ib_ok h hn), nI_clamp (by omega)]
theorem pI_ne {M : bw_M} {q i : Nat} {v : Int32} {a : Nat} (h : a ≠ q) : (bw_pI M q i v).1 a = M.1 a := bw_pA_ne M _ h
theorem pI_rd {M : bw_M} {q i : Nat} {v : Int32} {j : Nat} : (bw_pI M q i v).1 q j = if j = i then v else M.1 q j := by
  rw [bw_pI, bw_pA_self]; rfl
theorem pI_s {M : bw_M} {q i : Nat} {v : Int32} : (bw_pI M q i v).1 q i = v := by rw [pI_rd, if_pos rfl]
theorem pI_n {M : bw_M} {q i : Nat} {v : Int32} {j : Nat} (h : j ≠ i) : (bw_pI M q i v).1 q j = M.1 q j := by rw [pI_rd, if_neg h]
theorem pI_2 {M : bw_M} {q i : Nat} {v : Int32} : (bw_pI M q i v).2 = M.2 := rfl
theorem pA_2 {M : bw_M} {q : Nat} {f : Nat → Int32} : (bw_pA M q f).2 = M.2 := rfl
theorem pL_1 {M : bw_M} {i : Nat} {v : Int64} : (bw_pL M i v).1 = M.1 := rfl
theorem pL_s {M : bw_M} {i : Nat} {v : Int64} : (bw_pL M i v).2.1 i = v := by simp [bw_pL, vp_updL]
theorem pL_n {M : bw_M} {i j : Nat} {v : Int64} (h : j ≠ i) : (bw_pL M i v).2.1 j = M.2.1 j := by simp [bw_pL, vp_updL, h]
theorem pL_3 {M : bw_M} {i : Nat} {v : Int64} : (bw_pL M i v).2.2 = M.2.2 := rfl
theorem pR_1 {M : bw_M} {o : Option Nat} : (bw_pR M o).1 = M.1 := rfl
theorem pR_3 {M : bw_M} {o : Option Nat} : (bw_pR M o).2.2 = o := rfl
theorem pA_id (M : bw_M) (q : Nat) : bw_pA M q (M.1 q) = M := by
  unfold bw_pA
  refine Prod.ext (funext fun a => ?_) rfl
  by_cases h : a = q
  · subst h; simp
  · simp [h]
theorem pI_pA (M : bw_M) (q i : Nat) (g : Nat → Int32) (v : Int32) : bw_pI (bw_pA M q g) q i v = bw_pA M q (upd g i v) := by
  unfold bw_pI
  rw [bw_pA_self]
  unfold bw_pA
  refine Prod.ext (funext fun a => ?_) rfl
  by_cases h : a = q <;> simp [h]
/-- a stretch of a row, filled -/
def flF (f : Nat → Int32) (lo n : Nat) (v : Int32) : Nat → Int32 := fun j => if lo ≤ j ∧ j < lo + n then v else f j
theorem flF_0 (f : Nat → Int32) (lo : Nat) (v : Int32) : flF f lo 0 v = f := by
  funext j; simp only [flF]; rw [if_neg (by omega)]
theorem flF_s (f : Nat → Int32) (lo n : Nat) (v : Int32) : upd (flF f lo n v) (lo + n) v = flF f lo (n + 1) v := by
  funext j
  simp only [upd, flF]
  by_cases h : j = lo + n
  · rw [if_pos h, if_pos (by omega)]
  · rw [if_neg h]
    by_cases h2 : lo ≤ j ∧ j < lo + n
    · rw [if_pos h2, if_pos (by omega)]
    · rw [if_neg h2, if_neg (by omega)]
theorem flF_in {f : Nat → Int32} {lo n : Nat} {v : Int32} {j : Nat} (h : lo ≤ j ∧ j < lo + n) : flF f lo n v j = v := if_pos h
theorem flF_out {f : Nat → Int32} {lo n : Nat} {v : Int32} {j : Nat} (h : ¬ (lo ≤ j ∧ j < lo + n)) : flF f lo n v j = f j := if_neg h
/-- a loop whose states are known -/
theorem lp_for {σ τ : Type} {body : (σ → Option τ) → σ → Option τ} (F : Nat → σ) (n : Nat) (hs : ∀ i, i < n → ∀ k, body k (F i) = k (F (i + 1))) : ∀ (d fu i : Nat), i + d = n → d < fu → ∃ k, bw_lp body fu (F i) = body k (F n) := by
  intro d
  induction d with
  | zero =>
    intro fu i hi hf
    cases fu with
    | zero => omega
    | succ fu =>
      rw [Nat.add_zero] at hi
      subst hi
      exact ⟨_, rfl⟩
  | succ d ih =>
    intro fu i hi hf
    cases fu with
    | zero => omega
    | succ fu =>
      rw [bw_lp_s, hs i (by omega)]
      exact ih fu (i + 1) (by omega) (by omega)
/-- a loop with an invariant -/
theorem lp_inv {σ τ : Type} {body : (σ → Option τ) → σ → Option τ} (I : Nat → σ → Prop) (n : Nat) (hs : ∀ i s, i < n → I i s → ∃ s', I (i + 1) s' ∧ ∀ k, body k s = k s') : ∀ (d fu i : Nat) (s : σ), i + d = n → d < fu → I i s → ∃ s' k, I n s' ∧ bw_lp body fu s = body k s' := by
  intro d
  induction d with
  | zero =>
    intro fu i s hi hf h
    cases fu with
    | zero => omega
    | succ fu =>
      rw [Nat.add_zero] at hi
      subst hi
      exact ⟨s, _, h, rfl⟩
  | succ d ih =>
    intro fu i s hi hf h
    cases fu with
    | zero => omega
    | succ fu =>
      obtain ⟨s', h1, h2⟩ := hs i s (by omega) h
      rw [bw_lp_s, h2]
      exact ih fu (i + 1) s' (by omega) (by omega) h1
/-- two loops side by side; both may end early -/
theorem lp_two {σ σ' τ τ' : Type} {b : (σ → Option τ) → σ → Option τ} {b' : (σ' → Option τ') → σ' → Option τ'} (I : Nat → σ → σ' → Prop) (Z : Option τ → Option τ' → Prop) (n : Nat)
    (hs : ∀ i s t, i < n → I i s t → (∃ s' t', I (i + 1) s' t' ∧ (∀ k, b k s = k s') ∧ ∀ k, b' k t = k t') ∨ ∃ x x', Z x x' ∧ (∀ k, b k s = x) ∧ ∀ k, b' k t = x')
    (he : ∀ s t, I n s t → ∃ x x', Z x x' ∧ (∀ k, b k s = x) ∧ ∀ k, b' k t = x') : ∀ (d fu fu' i : Nat) (s : σ) (t : σ'), i + d = n → d < fu → d < fu' → I i s t → Z (bw_lp b fu s) (bw_lp b' fu' t) := by
  intro d
  induction d with
  | zero =>
    intro fu fu' i s t hi hf hf' h
    rw [Nat.add_zero] at hi
    subst hi
    obtain ⟨x, x', hz, h1, h2⟩ := he s t h
    match fu, fu', hf, hf' with
    | fu + 1, fu' + 1, _, _ => rw [bw_lp_s, bw_lp_s, h1, h2]; exact hz
  | succ d ih =>
    intro fu fu' i s t hi hf hf' h
    match fu, fu', hf, hf' with
    | fu + 1, fu' + 1, hf, hf' =>
      rw [bw_lp_s, bw_lp_s]
      rcases hs i s t (by omega) h with ⟨s', t', hI, h1, h2⟩ | ⟨x, x', hz, h1, h2⟩
      · rw [h1, h2]
        exact ih fu fu' (i + 1) s' t' (by omega) (by omega) (by omega) hI
      · rw [h1, h2]
        exact hz
/-- numbers -/
theorem nIm {n : Nat} (h : n < 2 ^ 31) (m : Nat) (hm : 0 < m) (hm2 : m < 2 ^ 31) : ¬ nI n = -(nI m) := by
  intro e
  have h1 := congrArg Int32.toInt e
  rw [nI_toInt h] at h1
  have h2 : (-(nI m)).toInt = -(m : Int) := by
    rw [Int32.toInt_neg, nI_toInt hm2]
    exact Int.bmod_eq_of_le (by omega) (by omega)
  rw [h2] at h1
  omega
theorem nI_m1 {n : Nat} (h : n < 2 ^ 31) : ¬ nI n = (-1 : Int32) := nIm h 1 (by decide) (by decide)
theorem nI_m9 {n : Nat} (h : n < 2 ^ 31) : ¬ nI n = (-9 : Int32) := nIm h 9 (by decide) (by decide)
theorem m1_lt : (-1 : Int32) < 0 := by decide
/-- fX5_in, of ints -/
theorem lgc (x y : Int32) : (lg_cmp x.toInt64 y.toInt64 < 0 ↔ x < y) ∧ (0 < lg_cmp x.toInt64 y.toInt64 ↔ y < x) := by
  have e1 : x.toInt64 > y.toInt64 ↔ y < x := by
    rw [gt_iff_lt, Int64.lt_iff_toInt_lt, Int32.toInt_toInt64, Int32.toInt_toInt64, Int32.lt_iff_toInt_lt]
  have e2 : x.toInt64 = y.toInt64 ↔ x = y := by
    rw [← Int64.toInt_inj, Int32.toInt_toInt64, Int32.toInt_toInt64, Int32.toInt_inj]
  have tr : x < y ∨ x = y ∨ y < x := by
    simp only [Int32.lt_iff_toInt_lt, ← Int32.toInt_inj]; omega
  have na : ∀ {a b : Int32}, a < b → ¬ b < a := fun {a b} h => by
    simp only [Int32.lt_iff_toInt_lt] at h ⊢; omega
  have ne : ∀ {a b : Int32}, a < b → ¬ a = b := fun {a b} h => by
    simp only [Int32.lt_iff_toInt_lt, ← Int32.toInt_inj] at h ⊢; omega
  unfold lg_cmp
  rcases tr with h | h | h
  · rw [if_neg (fun q => na h (e1.mp q)), if_neg (fun q => ne h (e2.mp q))]
    exact ⟨iff_of_true (by decide) h, iff_of_false (by decide) (na h)⟩
  · subst h
    rw [if_neg (fun q => na (e1.mp q) (e1.mp q)), if_pos rfl]
    exact ⟨iff_of_false (by decide) (fun q => na q q), iff_of_false (by decide) (fun q => na q q)⟩
  · rw [if_pos (e1.mpr h)]
    exact ⟨iff_of_false (by decide) (na h), iff_of_true (by decide) h⟩
theorem in_I (x y z : Int32) {y' z' : Int64} (hy : y' = y.toInt64) (hz : z' = z.toInt64) : fX5_in x.toInt64 y' z' = some (if y ≤ x ∧ x ≤ z then 1 else 0) := by
  subst hy; subst hz
  unfold fX5_in fX5_in_17 fX5_in_18
  rw [isb_0, isb_1, ck_true, ck_true]
  have nl : ∀ a b : Int32, ¬ a < b ↔ b ≤ a := fun a b => Int32.not_lt
  by_cases h1 : x < y
  · rw [if_pos ((lgc x y).1.mpr h1), if_neg (fun q => (nl x y).mpr q.1 h1)]
  · rw [if_neg (fun q => h1 ((lgc x y).1.mp q))]
    by_cases h2 : z < x
    · rw [if_pos ((lgc x z).2.mpr h2), if_neg (fun q => (nl z x).mpr q.2 h2)]
    · rw [if_neg (fun q => h2 ((lgc x z).2.mp q)), if_pos ⟨(nl x y).mp h1, (nl z x).mp h2⟩]
/-- x is a place among n, or it isn't -/
theorem ix_cases (x : Int32) {n : Nat} (hn : n < 2 ^ 31) (h0 : 0 < n) : (∃ j, j < n ∧ x = nI j) ∨ (¬ (0 ≤ x ∧ x ≤ nI (n - 1)) ∧ (x < 0 ∨ nI n ≤ x)) := by
  rcases pk_ix x hn with h | h | h
  · exact Or.inr ⟨fun q => Int32.not_lt.mpr q.1 h, Or.inl h⟩
  · refine Or.inr ⟨fun q => ?_, Or.inr h⟩
    have h1 := Int32.le_iff_toInt_le.mp h
    have h2 := Int32.le_iff_toInt_le.mp q.2
    rw [nI_toInt (by omega)] at h1 h2
    omega
  · exact Or.inl h
theorem nI_rng {j n : Nat} (h : j < n) (hn : n < 2 ^ 31) : (0 : Int32) ≤ nI j ∧ nI j ≤ nI (n - 1) := ⟨nI_pos' (by omega), nI_le (by omega) (by omega)⟩
