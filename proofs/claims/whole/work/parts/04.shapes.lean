def bw_shCl : List bw_Sh := [.inl (3, [4, 11, 12, 17, 18, 19, 25, 31, 34, 44, 45, 46, 47, 0, 0, 1, 1]), .inr (.inr (2, [2, 3, 4, 5, 6, 7])), .inr (.inl (0, 40)), .inr (.inl (0, 40)), .inr (.inl (0, 40)), .inr (.inl (0, 40)), .inr (.inl (0, 40)), .inr (.inl (0, 40)), .inr (.inl (0, 6)), .inr (.inr (3, [10, 11, 12, 13])), .inr (.inl (1, 60)), .inr (.inl (1, 60)), .inr (.inl (1, 60)), .inr (.inl (1, 60)), .inr (.inl (0, 4)), .inl (1, [2, 0, 0]), .inl (2, [0, 0, 0, 0, 0, 0, 0, 0, 20, 21, 22, 23, 24]), .inr (.inl (0, 6)), .inr (.inl (0, 6)), .inr (.inl (0, 6)), .inr (.inl (0, 6)), .inr (.inl (0, 6)), .inl (2, [0, 0, 0, 0, 0, 0, 0, 0, 26, 27, 28, 29, 30]), .inr (.inl (0, 6)), .inr (.inl (0, 6)), .inr (.inl (0, 6)), .inr (.inl (0, 6)), .inr (.inl (0, 6)), .inl (0, [32, 33, 0]), .inr (.inl (0, 40)), .inr (.inl (0, 40)), .inr (.inr (4, [32, 35, 38])), .inl (0, [36, 37, 0]), .inr (.inl (0, 40)), .inr (.inl (0, 40)), .inl (0, [39, 40, 0]), .inr (.inl (0, 40)), .inr (.inl (0, 40)), .inl (0, [42, 43, 0]), .inr (.inl (0, 40)), .inr (.inl (0, 40)), .inr (.inl (0, 6)), .inr (.inl (0, 64)), .inr (.inl (0, 64)), .inr (.inl (0, 6))]
def bw_shC (q : Nat) : bw_Sh := (bw_shCl[q]?).getD (.inr (.inl (0, 0)))
theorem shC_0 : bw_shC 0 = .inl (3, [4, 11, 12, 17, 18, 19, 25, 31, 34, 44, 45, 46, 47, 0, 0, 1, 1]) := rfl
theorem ltC_0 : 0 < 45 := by decide
theorem shC_1 : bw_shC 1 = .inr (.inr (2, [2, 3, 4, 5, 6, 7])) := rfl
theorem ltC_1 : 1 < 45 := by decide
theorem shC_2 : bw_shC 2 = .inr (.inl (0, 40)) := rfl
theorem ltC_2 : 2 < 45 := by decide
theorem shC_3 : bw_shC 3 = .inr (.inl (0, 40)) := rfl
theorem ltC_3 : 3 < 45 := by decide
theorem shC_4 : bw_shC 4 = .inr (.inl (0, 40)) := rfl
theorem ltC_4 : 4 < 45 := by decide
theorem shC_5 : bw_shC 5 = .inr (.inl (0, 40)) := rfl
theorem ltC_5 : 5 < 45 := by decide
theorem shC_6 : bw_shC 6 = .inr (.inl (0, 40)) := rfl
theorem ltC_6 : 6 < 45 := by decide
theorem shC_7 : bw_shC 7 = .inr (.inl (0, 40)) := rfl
theorem ltC_7 : 7 < 45 := by decide
theorem shC_8 : bw_shC 8 = .inr (.inl (0, 6)) := rfl
theorem ltC_8 : 8 < 45 := by decide
theorem shC_9 : bw_shC 9 = .inr (.inr (3, [10, 11, 12, 13])) := rfl
theorem ltC_9 : 9 < 45 := by decide
theorem shC_10 : bw_shC 10 = .inr (.inl (1, 60)) := rfl
theorem ltC_10 : 10 < 45 := by decide
theorem shC_11 : bw_shC 11 = .inr (.inl (1, 60)) := rfl
theorem ltC_11 : 11 < 45 := by decide
theorem shC_12 : bw_shC 12 = .inr (.inl (1, 60)) := rfl
theorem ltC_12 : 12 < 45 := by decide
theorem shC_13 : bw_shC 13 = .inr (.inl (1, 60)) := rfl
theorem ltC_13 : 13 < 45 := by decide
theorem shC_14 : bw_shC 14 = .inr (.inl (0, 4)) := rfl
theorem ltC_14 : 14 < 45 := by decide
theorem shC_15 : bw_shC 15 = .inl (1, [2, 0, 0]) := rfl
theorem ltC_15 : 15 < 45 := by decide
theorem shC_16 : bw_shC 16 = .inl (2, [0, 0, 0, 0, 0, 0, 0, 0, 20, 21, 22, 23, 24]) := rfl
theorem ltC_16 : 16 < 45 := by decide
theorem shC_17 : bw_shC 17 = .inr (.inl (0, 6)) := rfl
theorem ltC_17 : 17 < 45 := by decide
theorem shC_18 : bw_shC 18 = .inr (.inl (0, 6)) := rfl
theorem ltC_18 : 18 < 45 := by decide
theorem shC_19 : bw_shC 19 = .inr (.inl (0, 6)) := rfl
theorem ltC_19 : 19 < 45 := by decide
theorem shC_20 : bw_shC 20 = .inr (.inl (0, 6)) := rfl
theorem ltC_20 : 20 < 45 := by decide
theorem shC_21 : bw_shC 21 = .inr (.inl (0, 6)) := rfl
theorem ltC_21 : 21 < 45 := by decide
theorem shC_22 : bw_shC 22 = .inl (2, [0, 0, 0, 0, 0, 0, 0, 0, 26, 27, 28, 29, 30]) := rfl
theorem ltC_22 : 22 < 45 := by decide
theorem shC_23 : bw_shC 23 = .inr (.inl (0, 6)) := rfl
theorem ltC_23 : 23 < 45 := by decide
theorem shC_24 : bw_shC 24 = .inr (.inl (0, 6)) := rfl
theorem ltC_24 : 24 < 45 := by decide
theorem shC_25 : bw_shC 25 = .inr (.inl (0, 6)) := rfl
theorem ltC_25 : 25 < 45 := by decide
theorem shC_26 : bw_shC 26 = .inr (.inl (0, 6)) := rfl
theorem ltC_26 : 26 < 45 := by decide
theorem shC_27 : bw_shC 27 = .inr (.inl (0, 6)) := rfl
theorem ltC_27 : 27 < 45 := by decide
theorem shC_28 : bw_shC 28 = .inl (0, [32, 33, 0]) := rfl
theorem ltC_28 : 28 < 45 := by decide
theorem shC_29 : bw_shC 29 = .inr (.inl (0, 40)) := rfl
theorem ltC_29 : 29 < 45 := by decide
theorem shC_30 : bw_shC 30 = .inr (.inl (0, 40)) := rfl
theorem ltC_30 : 30 < 45 := by decide
theorem shC_31 : bw_shC 31 = .inr (.inr (4, [32, 35, 38])) := rfl
theorem ltC_31 : 31 < 45 := by decide
theorem shC_32 : bw_shC 32 = .inl (0, [36, 37, 0]) := rfl
theorem ltC_32 : 32 < 45 := by decide
theorem shC_33 : bw_shC 33 = .inr (.inl (0, 40)) := rfl
theorem ltC_33 : 33 < 45 := by decide
theorem shC_34 : bw_shC 34 = .inr (.inl (0, 40)) := rfl
theorem ltC_34 : 34 < 45 := by decide
theorem shC_35 : bw_shC 35 = .inl (0, [39, 40, 0]) := rfl
theorem ltC_35 : 35 < 45 := by decide
theorem shC_36 : bw_shC 36 = .inr (.inl (0, 40)) := rfl
theorem ltC_36 : 36 < 45 := by decide
theorem shC_37 : bw_shC 37 = .inr (.inl (0, 40)) := rfl
theorem ltC_37 : 37 < 45 := by decide
theorem shC_38 : bw_shC 38 = .inl (0, [42, 43, 0]) := rfl
theorem ltC_38 : 38 < 45 := by decide
theorem shC_39 : bw_shC 39 = .inr (.inl (0, 40)) := rfl
theorem ltC_39 : 39 < 45 := by decide
theorem shC_40 : bw_shC 40 = .inr (.inl (0, 40)) := rfl
theorem ltC_40 : 40 < 45 := by decide
theorem shC_41 : bw_shC 41 = .inr (.inl (0, 6)) := rfl
theorem ltC_41 : 41 < 45 := by decide
theorem shC_42 : bw_shC 42 = .inr (.inl (0, 64)) := rfl
theorem ltC_42 : 42 < 45 := by decide
theorem shC_43 : bw_shC 43 = .inr (.inl (0, 64)) := rfl
theorem ltC_43 : 43 < 45 := by decide
theorem shC_44 : bw_shC 44 = .inr (.inl (0, 6)) := rfl
theorem ltC_44 : 44 < 45 := by decide
def bw_shMl : List bw_Sh := [.inl (4, [4, 5, 6, 7, 0, 1, 1, 0, 8, 0, 9, 10, 11, 12, 13, 14, 0, 15, 0, 0, 0, 0, 0, 0, 0, 16, 17, 18, 19, 20, 21]), .inr (.inl (0, 240)), .inr (.inl (0, 6)), .inr (.inl (0, 240)), .inr (.inl (0, 4)), .inr (.inl (0, 6)), .inr (.inl (0, 6)), .inr (.inl (0, 6)), .inr (.inl (0, 6)), .inr (.inl (0, 17)), .inr (.inl (0, 17)), .inr (.inl (0, 680)), .inr (.inl (0, 2094)), .inr (.inl (0, 6)), .inr (.inl (0, 6)), .inr (.inl (0, 6)), .inr (.inl (0, 6)), .inr (.inl (0, 64)), .inr (.inl (0, 64))]
def bw_shM (q : Nat) : bw_Sh := (bw_shMl[q]?).getD (.inr (.inl (0, 0)))
theorem shM_0 : bw_shM 0 = .inl (4, [4, 5, 6, 7, 0, 1, 1, 0, 8, 0, 9, 10, 11, 12, 13, 14, 0, 15, 0, 0, 0, 0, 0, 0, 0, 16, 17, 18, 19, 20, 21]) := rfl
theorem ltM_0 : 0 < 19 := by decide
theorem shM_1 : bw_shM 1 = .inr (.inl (0, 240)) := rfl
theorem ltM_1 : 1 < 19 := by decide
theorem shM_2 : bw_shM 2 = .inr (.inl (0, 6)) := rfl
theorem ltM_2 : 2 < 19 := by decide
theorem shM_3 : bw_shM 3 = .inr (.inl (0, 240)) := rfl
theorem ltM_3 : 3 < 19 := by decide
theorem shM_4 : bw_shM 4 = .inr (.inl (0, 4)) := rfl
theorem ltM_4 : 4 < 19 := by decide
theorem shM_5 : bw_shM 5 = .inr (.inl (0, 6)) := rfl
theorem ltM_5 : 5 < 19 := by decide
theorem shM_6 : bw_shM 6 = .inr (.inl (0, 6)) := rfl
theorem ltM_6 : 6 < 19 := by decide
theorem shM_7 : bw_shM 7 = .inr (.inl (0, 6)) := rfl
theorem ltM_7 : 7 < 19 := by decide
theorem shM_8 : bw_shM 8 = .inr (.inl (0, 6)) := rfl
theorem ltM_8 : 8 < 19 := by decide
theorem shM_9 : bw_shM 9 = .inr (.inl (0, 17)) := rfl
theorem ltM_9 : 9 < 19 := by decide
theorem shM_10 : bw_shM 10 = .inr (.inl (0, 17)) := rfl
theorem ltM_10 : 10 < 19 := by decide
theorem shM_11 : bw_shM 11 = .inr (.inl (0, 680)) := rfl
theorem ltM_11 : 11 < 19 := by decide
theorem shM_12 : bw_shM 12 = .inr (.inl (0, 2094)) := rfl
theorem ltM_12 : 12 < 19 := by decide
theorem shM_13 : bw_shM 13 = .inr (.inl (0, 6)) := rfl
theorem ltM_13 : 13 < 19 := by decide
theorem shM_14 : bw_shM 14 = .inr (.inl (0, 6)) := rfl
theorem ltM_14 : 14 < 19 := by decide
theorem shM_15 : bw_shM 15 = .inr (.inl (0, 6)) := rfl
theorem ltM_15 : 15 < 19 := by decide
theorem shM_16 : bw_shM 16 = .inr (.inl (0, 6)) := rfl
theorem ltM_16 : 16 < 19 := by decide
theorem shM_17 : bw_shM 17 = .inr (.inl (0, 64)) := rfl
theorem ltM_17 : 17 < 19 := by decide
theorem shM_18 : bw_shM 18 = .inr (.inl (0, 64)) := rfl
theorem ltM_18 : 18 < 19 := by decide
def bw_isT (q : Nat) : Prop := q = 16 ∨ q = 22
theorem isT_16 : bw_isT 16 := Or.inl rfl
theorem isT_22 : bw_isT 22 := Or.inr rfl
theorem shC_T {q : Nat} (h : bw_isT q) : bw_shC q = .inl (2, [0, 0, 0, 0, 0, 0, 0, 0, q + 1 + 3, q + 2 + 3, q + 3 + 3, q + 4 + 3, q + 5 + 3]) := by rcases h with rfl | rfl <;> rfl
theorem ltC_T {q : Nat} (h : bw_isT q) : q < 45 := by rcases h with rfl | rfl <;> decide
def bw_isD (q : Nat) : Prop := q = 28 ∨ q = 32 ∨ q = 35 ∨ q = 38
theorem isD_28 : bw_isD 28 := Or.inl rfl
theorem isD_k {j : Nat} (h : j < 3) : bw_isD (32 + 3 * j) := by unfold bw_isD; omega
theorem shC_D {q : Nat} (h : bw_isD q) : bw_shC q = .inl (0, [q + 1 + 3, q + 2 + 3, 0]) := by rcases h with rfl | rfl | rfl | rfl <;> rfl
theorem ltC_D {q : Nat} (h : bw_isD q) : q < 45 := by rcases h with rfl | rfl | rfl | rfl <;> decide
theorem shC_row {j : Nat} (h : j < 6) : bw_shC (2 + j) = .inr (.inl (0, 40)) := by
  match j, h with
  | 0, _ => rfl
  | 1, _ => rfl
  | 2, _ => rfl
  | 3, _ => rfl
  | 4, _ => rfl
  | 5, _ => rfl
theorem ltC_row {j : Nat} (h : j < 6) : 2 + j < 45 := by omega
theorem shC_txt {j : Nat} (h : j < 4) : bw_shC (10 + j) = .inr (.inl (1, 60)) := by
  match j, h with
  | 0, _ => rfl
  | 1, _ => rfl
  | 2, _ => rfl
  | 3, _ => rfl
theorem ltC_txt {j : Nat} (h : j < 4) : 10 + j < 45 := by omega
theorem id_rows {i : Int32} {j : Nat} (e : j = i.toNatClampNeg) (h : j < 6) : ([2, 3, 4, 5, 6, 7] : List Nat)[i.toNatClampNeg]? = some (2 + j) := by
  rw [← e]
  match j, h with
  | 0, _ => rfl
  | 1, _ => rfl
  | 2, _ => rfl
  | 3, _ => rfl
  | 4, _ => rfl
  | 5, _ => rfl
theorem id_txts {i : Int32} {j : Nat} (e : j = i.toNatClampNeg) (h : j < 4) : ([10, 11, 12, 13] : List Nat)[i.toNatClampNeg]? = some (10 + j) := by
  rw [← e]
  match j, h with
  | 0, _ => rfl
  | 1, _ => rfl
  | 2, _ => rfl
  | 3, _ => rfl
theorem id_kept {i : Int32} {j : Nat} (e : j = i.toNatClampNeg) (h : j < 3) : ([32, 35, 38] : List Nat)[i.toNatClampNeg]? = some (32 + 3 * j) := by
  rw [← e]
  match j, h with
  | 0, _ => rfl
  | 1, _ => rfl
  | 2, _ => rfl
/-- the moving reference is to a text -/
def bw_isB (b : Nat) : Bool := decide (10 ≤ b ∧ b < 14)
theorem shC_B {b : Nat} (h : bw_isB b = true) : bw_shC b = .inr (.inl (1, 60)) := by
  have h : 10 ≤ b ∧ b < 14 := by simpa [bw_isB] using h
  obtain ⟨j, rfl⟩ : ∃ j, b = 10 + j := ⟨b - 10, by omega⟩
  exact shC_txt (by omega)
theorem ltC_B {b : Nat} (h : bw_isB b = true) : b < 45 := by
  have h : 10 ≤ b ∧ b < 14 := by simpa [bw_isB] using h
  omega
theorem bw_one_of {sh : Nat → bw_Sh} {L : List bw_Sh} (hsh : ∀ q, sh q = (L[q]?).getD (.inr (.inl (0, 0)))) (k q : Nat) (h : (List.range L.length).all (fun j => match L[j]? with | some (.inl (_, fl)) => !fl.contains k || j == q | _ => true) = true) : bw_one sh k q := by
  intro j ci fl hj hk
  rw [hsh] at hj
  cases hL : L[j]? with
  | none => rw [hL] at hj; cases hj
  | some z =>
    rw [hL, Option.getD_some] at hj
    subst hj
    have hlt : j < L.length := (List.getElem?_eq_some_iff.mp hL).1
    have h2 := List.all_eq_true.mp h j (List.mem_range.mpr hlt)
    rw [hL] at h2
    simp only [Bool.or_eq_true, Bool.not_eq_true', List.contains_iff_mem, decide_eq_false_iff_not, beq_iff_eq] at h2
    rcases h2 with h2 | h2
    · exact absurd hk (by simpa using h2)
    · exact h2
theorem one_C1 : bw_one bw_shC 1 0 := bw_one_of (fun _ => rfl) 1 0 (by decide +kernel)
theorem one_C2 : bw_one bw_shC 2 15 := bw_one_of (fun _ => rfl) 2 15 (by decide +kernel)
theorem one_M1 : bw_one bw_shM 1 0 := bw_one_of (fun _ => rfl) 1 0 (by decide +kernel)
theorem two_C2 : ∀ i, ([2, 0, 0] : List Nat)[i]? = some 2 → i = 0 := by
  intro i h
  match i, h with
  | 0, _ => rfl
  | 1, h => cases h
  | 2, h => cases h
  | i + 3, h => simp at h
def bw_isb (v : Int32) : Bool := decide (v = 0 ∨ v = 1)
theorem nz_0 : narrow .boolean (.int (0 : Int32)) = .int (0 : Int32) := by decide
theorem nz_1 : narrow .boolean (.int (1 : Int32)) = .int (1 : Int32) := by decide
theorem nz_b {v : Int32} (h : bw_isb v = true) : narrow .boolean (.int v) = .int v := by
  have h : v = 0 ∨ v = 1 := by simpa [bw_isb] using h
  rcases h with rfl | rfl
  · exact nz_0
  · exact nz_1
theorem bw_pr {α : Type} {v r : α} (M : bw_M) (h : some v = some r) : some (v, M) = some (r, M) := by cases h; rfl
def bw_c2 {α β τ : Type} (x : Option (α × β)) (k : α → β → Option τ) : Option τ := match x with
  | none => none
  | some z => k z.1 z.2
theorem bw_c2_o {α β τ : Type} {x : Option (α × β)} {k : α → β → Option τ} {r : τ} (h : bw_c2 x k = some r) : ∃ a b, x = some (a, b) ∧ k a b = some r := by
  cases x with
  | none => cases h
  | some z => exact ⟨z.1, z.2, rfl, h⟩
def bw_cr {τ : Type} (o : Option Nat) (A : Option τ) (k : Nat → Option τ) : Option τ := match o with
  | none => A
  | some b => k b
theorem bw_cr_o {τ : Type} {o : Option Nat} {A : Option τ} {k : Nat → Option τ} {r : τ} (h : bw_cr o A k = some r) : (o = none ∧ A = some r) ∨ ∃ b, o = some b ∧ k b = some r := by
  cases o with
  | none => exact Or.inl ⟨rfl, h⟩
  | some b => exact Or.inr ⟨b, rfl, h⟩
theorem shC_T1 {q : Nat} (h : bw_isT q) : bw_shC (q + 1) = .inr (.inl (0, 6)) := by rcases h with rfl | rfl <;> rfl
theorem ltC_T1 {q : Nat} (h : bw_isT q) : q + 1 < 45 := by rcases h with rfl | rfl <;> decide
theorem shC_T2 {q : Nat} (h : bw_isT q) : bw_shC (q + 2) = .inr (.inl (0, 6)) := by rcases h with rfl | rfl <;> rfl
theorem ltC_T2 {q : Nat} (h : bw_isT q) : q + 2 < 45 := by rcases h with rfl | rfl <;> decide
theorem shC_T3 {q : Nat} (h : bw_isT q) : bw_shC (q + 3) = .inr (.inl (0, 6)) := by rcases h with rfl | rfl <;> rfl
theorem ltC_T3 {q : Nat} (h : bw_isT q) : q + 3 < 45 := by rcases h with rfl | rfl <;> decide
theorem shC_T4 {q : Nat} (h : bw_isT q) : bw_shC (q + 4) = .inr (.inl (0, 6)) := by rcases h with rfl | rfl <;> rfl
theorem ltC_T4 {q : Nat} (h : bw_isT q) : q + 4 < 45 := by rcases h with rfl | rfl <;> decide
theorem shC_T5 {q : Nat} (h : bw_isT q) : bw_shC (q + 5) = .inr (.inl (0, 6)) := by rcases h with rfl | rfl <;> rfl
theorem ltC_T5 {q : Nat} (h : bw_isT q) : q + 5 < 45 := by rcases h with rfl | rfl <;> decide
theorem shC_D1 {q : Nat} (h : bw_isD q) : bw_shC (q + 1) = .inr (.inl (0, 40)) := by rcases h with rfl | rfl | rfl | rfl <;> rfl
theorem ltC_D1 {q : Nat} (h : bw_isD q) : q + 1 < 45 := by rcases h with rfl | rfl | rfl | rfl <;> decide
theorem shC_D2 {q : Nat} (h : bw_isD q) : bw_shC (q + 2) = .inr (.inl (0, 40)) := by rcases h with rfl | rfl | rfl | rfl <;> rfl
theorem ltC_D2 {q : Nat} (h : bw_isD q) : q + 2 < 45 := by rcases h with rfl | rfl | rfl | rfl <;> decide
theorem pn_X0 : plainName RX0 = true := by decide +kernel
theorem pn_X1 : plainName RX1 = true := by decide +kernel
theorem pn_X2 : plainName RX2 = true := by decide +kernel
theorem pn_X3 : plainName RX3 = true := by decide +kernel
theorem pn_X4 : plainName RX4 = true := by decide +kernel
theorem pn_X5 : plainName RX5 = true := by decide +kernel
theorem pn_J6 : plainName RJ6 = true := by decide +kernel
theorem pn_J7 : plainName RJ7 = true := by decide +kernel
theorem bi_m9 : (Int8.ofInt (-9)).toInt32 = (-9 : Int32) := by decide
theorem bi_m4 : (Int8.ofInt (-4)).toInt32 = (-4 : Int32) := by decide
theorem bi_m3 : (Int8.ofInt (-3)).toInt32 = (-3 : Int32) := by decide
theorem bi_m2 : (Int8.ofInt (-2)).toInt32 = (-2 : Int32) := by decide
theorem bi_6 : (Int8.ofInt (6)).toInt32 = (6 : Int32) := by decide
theorem bi_8 : (Int8.ofInt (8)).toInt32 = (8 : Int32) := by decide
theorem bi_9 : (Int8.ofInt (9)).toInt32 = (9 : Int32) := by decide
theorem bi_10 : (Int8.ofInt (10)).toInt32 = (10 : Int32) := by decide
theorem bi_11 : (Int8.ofInt (11)).toInt32 = (11 : Int32) := by decide
theorem bi_12 : (Int8.ofInt (12)).toInt32 = (12 : Int32) := by decide
theorem bi_14 : (Int8.ofInt (14)).toInt32 = (14 : Int32) := by decide
theorem bi_16 : (Int8.ofInt (16)).toInt32 = (16 : Int32) := by decide
theorem bi_17 : (Int8.ofInt (17)).toInt32 = (17 : Int32) := by decide
theorem bi_20 : (Int8.ofInt (20)).toInt32 = (20 : Int32) := by decide
theorem bi_21 : (Int8.ofInt (21)).toInt32 = (21 : Int32) := by decide
theorem bi_32 : (Int8.ofInt (32)).toInt32 = (32 : Int32) := by decide
theorem bi_40 : (Int8.ofInt (40)).toInt32 = (40 : Int32) := by decide
theorem bi_41 : (Int8.ofInt (41)).toInt32 = (41 : Int32) := by decide
theorem bi_42 : (Int8.ofInt (42)).toInt32 = (42 : Int32) := by decide
theorem bi_48 : (Int8.ofInt (48)).toInt32 = (48 : Int32) := by decide
theorem bi_57 : (Int8.ofInt (57)).toInt32 = (57 : Int32) := by decide
theorem bi_60 : (Int8.ofInt (60)).toInt32 = (60 : Int32) := by decide
theorem bi_61 : (Int8.ofInt (61)).toInt32 = (61 : Int32) := by decide
theorem bi_63 : (Int8.ofInt (63)).toInt32 = (63 : Int32) := by decide
theorem bi_64 : (Int8.ofInt (64)).toInt32 = (64 : Int32) := by decide
theorem bi_97 : (Int8.ofInt (97)).toInt32 = (97 : Int32) := by decide
theorem bi_99 : (Int8.ofInt (99)).toInt32 = (99 : Int32) := by decide
theorem bi_122 : (Int8.ofInt (122)).toInt32 = (122 : Int32) := by decide
theorem ic_m1 : Int32.ofInt (-1) = (-1 : Int32) := by decide
theorem ic_0 : Int32.ofInt (0) = (0 : Int32) := by decide
theorem ic_1 : Int32.ofInt (1) = (1 : Int32) := by decide
theorem ic_2 : Int32.ofInt (2) = (2 : Int32) := by decide
theorem ic_3 : Int32.ofInt (3) = (3 : Int32) := by decide
theorem ic_4 : Int32.ofInt (4) = (4 : Int32) := by decide
theorem ic_5 : Int32.ofInt (5) = (5 : Int32) := by decide
theorem si_240 : (Int16.ofInt (240)).toInt32 = (240 : Int32) := by decide
theorem si_680 : (Int16.ofInt (680)).toInt32 = (680 : Int32) := by decide
theorem si_698 : (Int16.ofInt (698)).toInt32 = (698 : Int32) := by decide
theorem si_1000 : (Int16.ofInt (1000)).toInt32 = (1000 : Int32) := by decide
theorem si_2094 : (Int16.ofInt (2094)).toInt32 = (2094 : Int32) := by decide
section BW
variable {p : Program} {l : Launch} {e : Env} {R : Room} {s : State} {m : MethodId} {args : Array Value} {below : List Frame} {meth : Method} {c : Code} {Q : State → Prop}
variable {sh : Nat → bw_Sh} {n : Nat} {D : va_G} {kT : Nat → ClassId} {ρ : Nat → Nat} {cc : ByteArray} {nL : Nat} {own : String} {rt : Option FieldType}
variable {pc : Nat} {L : List (Nat × Value)} {st rest : List Value} {M : bw_M}
theorem bw_nmI {x v : Int32} (e9 : v = x) (k : bw_At p l e R s m args below meth c Q sh n D kT ρ nL pc L (.int v :: st) M) : bw_At p l e R s m args below meth c Q sh n D kT ρ nL pc L (.int x :: st) M := e9 ▸ k
theorem bw_nmL {x v : Int64} (e9 : v = x) (k : bw_At p l e R s m args below meth c Q sh n D kT ρ nL pc L (.long v :: st) M) : bw_At p l e R s m args below meth c Q sh n D kT ρ nL pc L (.long x :: st) M := e9 ▸ k
theorem bw_rfS {o : Option Nat} {b : Nat} (e9 : o = some b) (k : bw_At p l e R s m args below meth c Q sh n D kT ρ nL pc L (.ref (ρ b) :: st) M) : bw_At p l e R s m args below meth c Q sh n D kT ρ nL pc L (va_rf (o.map ρ) :: st) M := by subst e9; exact k
theorem bw_rfN {o : Option Nat} (e9 : o = none) (k : bw_At p l e R s m args below meth c Q sh n D kT ρ nL pc L (.null :: st) M) : bw_At p l e R s m args below meth c Q sh n D kT ρ nL pc L (va_rf (o.map ρ) :: st) M := by subst e9; exact k
end BW
