/-! Sets as numbers; small answers -/
def bI (b : Bool) : Int32 := if b = true then 1 else 0
theorem bI_t : bI true = 1 := rfl
theorem bI_f : bI false = 0 := rfl
theorem bI_0 (b : Bool) : bI b = 0 ↔ b = false := by cases b <;> decide
theorem isb_bI (b : Bool) : bw_isb (bI b) = true := by cases b <;> decide
theorem sh_l : ∀ n, n < 32 → ((nI n &&& 31).toBitVec.smod 32).toNat = n := by decide +kernel
theorem bitI {s i : Nat} (hs : s < 2 ^ 31) (hi : i < 32) : ((nI s >>> (nI i &&& 31)) &&& 1) = nI (s / 2 ^ i % 2) := by
  rw [pk_shrN hs _ i (sh_l i hi)]
  exact pk_andN (k := 1) (Nat.lt_of_le_of_lt (Nat.div_le_self _ _) (by omega)) (by decide)
theorem bitB {s i : Nat} (hs : s < 2 ^ 31) (hi : i < 32) : ((nI s >>> (nI i &&& 31)) &&& 1) = bI (s.testBit i) := by
  rw [bitI hs hi, Nat.testBit_eq_decide_div_mod_eq]
  have h2 : s / 2 ^ i % 2 < 2 := Nat.mod_lt _ (by decide)
  generalize s / 2 ^ i % 2 = z at h2 ⊢
  match z, h2 with
  | 0, _ => rfl
  | 1, _ => rfl
theorem isIn_eq {s i : Nat} (hs : s < 2 ^ 31) (hi : i < 32) : fX3_isIn (nI s) (nI i) = some (bI (s.testBit i)) := by
  unfold fX3_isIn fX3_isIn_14
  rw [bitB hs hi, isb_0, isb_1, ck_true, ck_true]
  cases s.testBit i <;> decide
theorem has_eq {s i : Nat} (hs : s < 2 ^ 31) (hi : i < 32) : fX5_has (nI s) (nI i) = some (bI (s.testBit i)) := by
  unfold fX5_has fX5_has_14
  rw [bitB hs hi, isb_0, isb_1, ck_true, ck_true]
  cases s.testBit i <;> decide
theorem orI : ∀ w, w < 64 → ∀ i, i < 6 → nI w ||| ((1 : Int32) <<< (nI i &&& 31)) = nI (w ||| 2 ^ i) := by decide +kernel
theorem xorI : ∀ w, w < 64 → ∀ i, i < 6 → nI w ^^^ ((1 : Int32) <<< (nI i &&& 31)) = nI (w ^^^ 2 ^ i) := by decide +kernel
theorem shlI : ∀ p, p ≤ 6 → (1 : Int32) <<< (nI p &&& 31) = nI (2 ^ p) := by decide +kernel
theorem p64 {p w : Nat} (hp : p ≤ 6) (h : w < 2 ^ p) : w < 64 := Nat.lt_of_lt_of_le h (Nat.pow_le_pow_right (by decide) hp)
theorem p31 {p w : Nat} (hp : p ≤ 6) (h : w < 2 ^ p) : w < 2 ^ 31 := Nat.lt_trans (p64 hp h) (by decide)
theorem want_eq {k n h : Nat} (hk : k < 2 ^ 31) (hh : h < 2 ^ 31) : fX1_want (nI k) (nI n) (nI h) = some (nI (s_want k n h)) := by
  unfold fX1_want fX1_want_50 s_want
  have e3 : (nI k = (3 : Int32)) ↔ k = 3 := nI_eq (b := 3) hk (by decide)
  have e4 : (nI k = (4 : Int32)) ↔ k = 4 := nI_eq (b := 4) hk (by decide)
  have e5 : (nI k = (5 : Int32)) ↔ k = 5 := nI_eq (b := 5) hk (by decide)
  have er : nI h - nI h / 3 * 3 = nI (h % 3) := pk_rem (d := 3) hh (by decide) (by decide)
  have e2 : (nI (h % 3) = (2 : Int32)) ↔ h % 3 = 2 := nI_eq (b := 2) (by omega) (by decide)
  rw [er]
  simp only [e3, e4, e5, e2]
  split
  · rw [nI_1]
  · split
    · split <;> rfl
    · split
      · rw [nI_1, show (2 : Int32) = nI 2 from rfl, pk_mul]
      · rfl
theorem wantsBy_eq {k n h : Nat} (hk : k < 2 ^ 31) (hh : h < 2 ^ 31) : fX5_wantsBy (nI k) (nI n) (nI h) = some (nI (s_want k n h)) := want_eq hk hh
theorem want_le {k n h : Nat} (hn : n ≤ 9) : s_want k n h ≤ 20 := by
  unfold s_want
  repeat' split
  all_goals omega
theorem keeps_eq : ∀ k, k < 6 → fX1_keeps (nI k) = some (bI (s_kp k)) := by decide +kernel
theorem isOf1_eq : ∀ k, k < 6 → fX5_isOf (nI k) 1 = some (bI (s_kp k)) := by decide +kernel
theorem isOf_eq : ∀ k, k < 6 → ∀ j, j < 6 → 0 < j → fX1_isOf (nI k) (nI j) = fX5_isOf (nI k) (nI j) ∧ (fX5_isOf (nI k) (nI j) = some 0 ∨ fX5_isOf (nI k) (nI j) = some 1) := by decide +kernel
theorem decr : ∀ a, a < 61 → (if (0 : Int32) < nI a - 1 then nI a - 1 else 0) = nI (a - 1) := by decide +kernel
theorem cap60 {a s : Nat} (ha : a ≤ 60) (hs : s ≤ 9) : (if nI a + nI s < 60 then nI a + nI s else 60) = nI (min 60 (a + s)) := by
  rw [nI_add, show (60 : Int32) = nI 60 from rfl]
  by_cases h : a + s < 60
  · rw [if_pos (nI_lt h (by decide)), Nat.min_eq_right (by omega)]
  · rw [if_neg (nI_nlt (by omega) (by omega)), Nat.min_eq_left (by omega)]
theorem lesser60 {v : Nat} (hv : v < 2 ^ 31) : fX5_lesser 60 (nI v) = some (nI (min 60 v)) := by
  unfold fX5_lesser fX5_lesser_10
  rw [show (60 : Int32) = nI 60 from rfl]
  by_cases h : v ≤ 60
  · rw [if_pos (nI_le h (by decide)), Nat.min_eq_right h]
  · rw [if_neg (nI_ge (by omega) hv), Nat.min_eq_left (by omega)]
/-- memory: writes -/
theorem pI_id (M : bw_M) (q i : Nat) {v : Int32} (h : M.1 q i = v) : bw_pI M q i v = M := by
  unfold bw_pI
  rw [show upd (M.1 q) i v = M.1 q from funext fun j => by by_cases e : j = i <;> simp [upd, e, h], pA_id]
theorem pI_pI (M : bw_M) (q i : Nat) (v w : Int32) : bw_pI (bw_pI M q i v) q i w = bw_pI M q i w := by
  rw [bw_pI, bw_pI, bw_pI, bw_pA_self]
  unfold bw_pA
  refine Prod.ext (funext fun a => ?_) rfl
  by_cases h : a = q
  · simp only [h, if_true]
    funext j
    by_cases e : j = i <;> simp [upd, e]
  · simp [h]
theorem pI_cm (M : bw_M) {q i q' i' : Nat} (v w : Int32) (h : q ≠ q' ∨ i ≠ i') : bw_pI (bw_pI M q i v) q' i' w = bw_pI (bw_pI M q' i' w) q i v := by
  refine Prod.ext (funext fun a => funext fun b => ?_) rfl
  by_cases e1 : a = q
  · subst e1
    by_cases e2 : a = q'
    · subst e2
      simp only [pI_rd]
      by_cases f1 : b = i <;> by_cases f2 : b = i' <;> simp [f1, f2] <;> (first | omega | (intro; omega) | skip)
    · rw [pI_ne e2, pI_rd, pI_rd, pI_ne e2]
  · rw [pI_ne (a := a) (q := q) e1]
    by_cases e2 : a = q'
    · subst e2
      rw [pI_rd, pI_rd, pI_ne e1]
    · rw [pI_ne e2, pI_ne e2, pI_ne e1]
/-- cut off: what a pipe says of itself -/
theorem s_cf_fu {cut : Nat} {fr : Nat → Nat} {p : Nat} (hf : ∀ j, j < p → fr j ≤ j) : ∀ (i : Nat), i < p → ∀ f g, i < f → i < g → s_cf cut fr f i = s_cf cut fr g i := by
  intro i
  induction i using Nat.strongRecOn with
  | ind i ih =>
    intro hi f g h1 h2
    match f, g, h1, h2 with
    | f + 1, g + 1, h1, h2 =>
      show (cut.testBit i || (decide (fr i ≠ 0) && s_cf cut fr f (fr i - 1))) = (cut.testBit i || (decide (fr i ≠ 0) && s_cf cut fr g (fr i - 1)))
      by_cases h0 : fr i = 0
      · simp [h0]
      · have h3 := hf i hi
        rw [ih (fr i - 1) (by omega) (by omega) f g (by omega) (by omega)]
theorem s_co_eq {cut : Nat} {fr : Nat → Nat} {p : Nat} (hf : ∀ j, j < p → fr j ≤ j) {i : Nat} (hi : i < p) : s_co cut fr i = (cut.testBit i || (decide (fr i ≠ 0) && s_co cut fr (fr i - 1))) := by
  unfold s_co
  show (cut.testBit i || (decide (fr i ≠ 0) && s_cf cut fr i (fr i - 1))) = _
  by_cases h0 : fr i = 0
  · simp [h0]
  · have h3 := hf i hi
    rw [s_cf_fu hf (fr i - 1) (by omega) i (fr i - 1 + 1) (by omega) (by omega)]
