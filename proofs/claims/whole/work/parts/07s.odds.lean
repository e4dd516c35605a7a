/-! chances -/
def sumN (f : Nat → Nat) : Nat → Nat
  | 0 => 0
  | n + 1 => sumN f n + f n
theorem sumN_cg {f g : Nat → Nat} : ∀ n, (∀ i, i < n → f i = g i) → sumN f n = sumN g n := by
  intro n
  induction n with
  | zero => intro _; rfl
  | succ n ih => intro h; show sumN f n + f n = sumN g n + g n; rw [ih (fun i hi => h i (by omega)), h n (by omega)]
theorem sumN_add (f : Nat → Nat) (a : Nat) : ∀ b, sumN f (a + b) = sumN f a + sumN (fun i => f (a + i)) b := by
  intro b
  induction b with
  | zero => rfl
  | succ b ih => show sumN f (a + b) + f (a + b) = sumN f a + (sumN (fun i => f (a + i)) b + f (a + b)); rw [ih]; omega
theorem sumN_mul (f : Nat → Nat) (c : Nat) : ∀ n, sumN (fun i => f i * c) n = sumN f n * c := by
  intro n
  induction n with
  | zero => show 0 = 0 * c; rw [Nat.zero_mul]
  | succ n ih => show sumN (fun i => f i * c) n + f n * c = (sumN f n + f n) * c; rw [ih, Nat.add_mul]
theorem sumN_0 {f : Nat → Nat} : ∀ n, (∀ i, i < n → f i = 0) → sumN f n = 0 := by
  intro n
  induction n with
  | zero => intro _; rfl
  | succ n ih => intro h; show sumN f n + f n = 0; rw [ih (fun i hi => h i (by omega)), h n (by omega)]
theorem sumN_tail {f : Nat → Nat} {a b : Nat} (hab : a ≤ b) (h : ∀ j, a ≤ j → j < b → f j = 0) : sumN f b = sumN f a := by
  have := sumN_add f a (b - a)
  rw [show a + (b - a) = b by omega, sumN_0 (b - a) (fun i hi => h (a + i) (by omega) (by omega))] at this
  omega
theorem sumN_le {f g : Nat → Nat} : ∀ n, (∀ i, i < n → f i ≤ g i) → sumN f n ≤ sumN g n := by
  intro n
  induction n with
  | zero => intro _; exact Nat.le_refl _
  | succ n ih =>
    intro h
    have h1 := ih (fun i hi => h i (by omega))
    have h2 := h n (by omega)
    show sumN f n + f n ≤ sumN g n + g n
    omega
def s_wt (x l s : Nat) : Nat → Nat
  | 0 => 1
  | j + 1 => s_wt x l s j * (if l.testBit j = true then 1 else if s.testBit j = true then x else 12 - x)
def s_tw (l : Nat) : Nat → Nat
  | 0 => 1
  | j + 1 => s_tw l j * (if l.testBit j = true then 1 else 12)
def s_dj (l s : Nat) : Nat → Bool
  | 0 => true
  | j + 1 => s_dj l s j && !(l.testBit j && s.testBit j)
theorem wt_cg {x l s s' : Nat} : ∀ p, (∀ j, j < p → s.testBit j = s'.testBit j) → s_wt x l s p = s_wt x l s' p ∧ s_dj l s p = s_dj l s' p := by
  intro p
  induction p with
  | zero => intro _; exact ⟨rfl, rfl⟩
  | succ p ih =>
    intro h
    obtain ⟨h1, h2⟩ := ih (fun j hj => h j (by omega))
    have h3 := h p (by omega)
    constructor
    · show s_wt x l s p * _ = s_wt x l s' p * _
      rw [h1, h3]
    · show (s_dj l s p && _) = (s_dj l s' p && _)
      rw [h2, h3]
theorem wt_sum {x l : Nat} (hx : x ≤ 12) : ∀ p, sumN (fun s => if s_dj l s p = true then s_wt x l s p else 0) (2 ^ p) = s_tw l p := by
  intro p
  induction p with
  | zero => rfl
  | succ p ih =>
    rw [Nat.pow_succ, Nat.mul_two, sumN_add]
    have e1 : sumN (fun s => if s_dj l s (p + 1) = true then s_wt x l s (p + 1) else 0) (2 ^ p) = sumN (fun s => (if s_dj l s p = true then s_wt x l s p else 0) * (if l.testBit p = true then 1 else 12 - x)) (2 ^ p) := by
      refine sumN_cg _ (fun s hs => ?_)
      have hb : s.testBit p = false := Nat.testBit_lt_two_pow hs
      show (if (s_dj l s p && !(l.testBit p && s.testBit p)) = true then s_wt x l s p * (if l.testBit p = true then 1 else if s.testBit p = true then x else 12 - x) else 0) = _
      rw [hb]
      cases s_dj l s p <;> simp
    have e2 : sumN (fun s => if s_dj l (2 ^ p + s) (p + 1) = true then s_wt x l (2 ^ p + s) (p + 1) else 0) (2 ^ p) = sumN (fun s => (if s_dj l s p = true then s_wt x l s p else 0) * (if l.testBit p = true then 0 else x)) (2 ^ p) := by
      refine sumN_cg _ (fun s hs => ?_)
      have hb : (2 ^ p + s).testBit p = true := by rw [Nat.testBit_two_pow_add_eq, Nat.testBit_lt_two_pow hs]; rfl
      obtain ⟨c1, c2⟩ := wt_cg (x := x) (l := l) (s := 2 ^ p + s) (s' := s) p (fun j hj => Nat.testBit_two_pow_add_gt hj s)
      show (if (s_dj l (2 ^ p + s) p && !(l.testBit p && (2 ^ p + s).testBit p)) = true then s_wt x l (2 ^ p + s) p * (if l.testBit p = true then 1 else if (2 ^ p + s).testBit p = true then x else 12 - x) else 0) = _
      rw [hb, c1, c2]
      cases s_dj l s p <;> cases l.testBit p <;> simp
    rw [e1, e2, sumN_mul, sumN_mul, ih]
    show _ = s_tw l p * _
    by_cases hl : l.testBit p = true
    · rw [if_pos hl, if_pos hl, if_pos hl, Nat.mul_zero]; rfl
    · rw [if_neg hl, if_neg hl, if_neg hl, ← Nat.mul_add, show 12 - x + x = 12 by omega]
theorem dj_iff {l s : Nat} : ∀ p, s_dj l s p = true ↔ ∀ j, j < p → ¬ (l.testBit j = true ∧ s.testBit j = true) := by
  intro p
  induction p with
  | zero => exact ⟨fun _ j hj => by omega, fun _ => rfl⟩
  | succ p ih =>
    show (s_dj l s p && !(l.testBit p && s.testBit p)) = true ↔ _
    rw [Bool.and_eq_true, ih]
    constructor
    · rintro ⟨h1, h2⟩ j hj
      by_cases e : j = p
      · subst e
        intro q
        rw [q.1, q.2] at h2
        cases h2
      · exact h1 j (by omega)
    · intro h
      refine ⟨fun j hj => h j (by omega), ?_⟩
      have := h p (by omega)
      cases h1 : l.testBit p <;> cases h2 : s.testBit p <;> simp_all
theorem dj_and {l s p : Nat} (hs : s < 2 ^ p) : s_dj l s p = true ↔ s &&& l = 0 := by
  rw [dj_iff]
  constructor
  · intro h
    apply Nat.eq_of_testBit_eq
    intro j
    rw [Nat.testBit_and, Nat.zero_testBit]
    by_cases q : j < p
    · have := h j q
      cases h1 : l.testBit j <;> cases h2 : s.testBit j <;> simp_all
    · rw [Nat.testBit_lt_two_pow (Nat.lt_of_lt_of_le hs (Nat.pow_le_pow_right (by decide) (by omega)))]; rfl
  · intro h j hj q
    have := congrArg (fun z => z.testBit j) h
    simp only [Nat.testBit_and, Nat.zero_testBit, q.1, q.2] at this
    cases this
theorem wt_pw {x l s u : Nat} : ∀ p, (∀ j, j < p → ¬ (l.testBit j = true ∧ s.testBit j = true) ∧ u.testBit j = (!l.testBit j && !s.testBit j)) → x ^ s_cb s p * (12 - x) ^ s_cb u p = s_wt x l s p := by
  intro p
  induction p with
  | zero => intro _; rfl
  | succ p ih =>
    intro h
    have h1 := ih (fun j hj => h j (by omega))
    obtain ⟨h2, h3⟩ := h p (by omega)
    show x ^ (s_cb s p + (if s.testBit p = true then 1 else 0)) * (12 - x) ^ (s_cb u p + (if u.testBit p = true then 1 else 0)) = s_wt x l s p * (if l.testBit p = true then 1 else if s.testBit p = true then x else 12 - x)
    rw [h3, ← h1]
    cases hl : l.testBit p <;> cases hs : s.testBit p
    · simp [Nat.pow_succ, Nat.mul_assoc]
    · simp [Nat.pow_succ, Nat.mul_assoc, Nat.mul_comm, Nat.mul_left_comm]
    · simp
    · exact absurd ⟨hl, hs⟩ h2
theorem cb_up {s p : Nat} (hs : s < 2 ^ p) : ∀ d, s_cb s (p + d) = s_cb s p := by
  intro d
  induction d with
  | zero => rfl
  | succ d ih =>
    show s_cb s (p + d) + (if s.testBit (p + d) = true then 1 else 0) = _
    rw [Nat.testBit_lt_two_pow (Nat.lt_of_lt_of_le hs (Nat.pow_le_pow_right (by decide) (by omega))), ih]; rfl
theorem cn_p {s p : Nat} (hp : p ≤ 6) (hs : s < 2 ^ p) : s_cn s = s_cb s p := by
  have := cb_up hs (6 - p)
  rw [show p + (6 - p) = 6 by omega] at this
  exact this
theorem cb_le (s : Nat) : ∀ p, s_cb s p ≤ p := by
  intro p
  induction p with
  | zero => exact Nat.le_refl _
  | succ p ih => show s_cb s p + _ ≤ _; split <;> omega
theorem tw_pw (l : Nat) : ∀ p, s_tw l p = 12 ^ (p - s_cb l p) := by
  intro p
  induction p with
  | zero => rfl
  | succ p ih =>
    have := cb_le l p
    show s_tw l p * (if l.testBit p = true then 1 else 12) = 12 ^ (p + 1 - (s_cb l p + (if l.testBit p = true then 1 else 0)))
    rw [ih]
    by_cases h : l.testBit p = true
    · rw [if_pos h, if_pos h, Nat.mul_one]; congr 1; omega
    · rw [if_neg h, if_neg h, ← Nat.pow_succ]; congr 1; omega
theorem tightI : ∀ p, p ≤ 6 → ∀ l, l < 2 ^ p → nI (2 ^ p - 1) &&& (nI l ^^^ (-1)) = nI ((2 ^ p - 1) ^^^ l) := by decide +kernel
theorem lessI : ∀ t, t < 64 → ∀ s, s < 64 → nI t &&& (nI s ^^^ (-1)) = nI (t &&& (63 ^^^ s)) := by decide +kernel
theorem wt_C {x l s p : Nat} (hp : p ≤ 6) (hl : l < 2 ^ p) (hs : s < 2 ^ p) (hd : s_dj l s p = true) : x ^ s_cn s * (12 - x) ^ s_cn (((2 ^ p - 1) ^^^ l) &&& (63 ^^^ s)) = s_wt x l s p := by
  have ht : (2 ^ p - 1) ^^^ l < 2 ^ p := Nat.xor_lt_two_pow (by have := Nat.two_pow_pos p; omega) hl
  rw [cn_p hp hs, cn_p hp (Nat.lt_of_le_of_lt Nat.and_le_left ht)]
  refine wt_pw p (fun j hj => ⟨(dj_iff p).mp hd j hj, ?_⟩)
  have e63 : (63 : Nat) = 2 ^ 6 - 1 := by decide
  rw [Nat.testBit_and, Nat.testBit_xor, Nat.testBit_xor, Nat.testBit_two_pow_sub_one, e63, Nat.testBit_two_pow_sub_one, decide_eq_true hj, decide_eq_true (show j < 6 by omega)]
  cases l.testBit j <;> cases s.testBit j <;> rfl
theorem pow_C {N : Nat} (hN : 2000 ≤ N) {x k : Nat} (hk : k ≤ 6) : fX4_power N (lN x) (nI k) = some (lN (x ^ k)) := by
  unfold fX4_power flX4_power_5
  rw [mv_eq, mv_eq]
  obtain ⟨k', h⟩ := lp_for (body := fun kk w => fX4_power_5 N (lN x) (nI k) kk w.1 w.2) (fun j => (lN (x ^ j), nI j)) k (fun j hj kk => by
    show fX4_power_5 N (lN x) (nI k) kk (lN (x ^ j)) (nI j) = _
    unfold fX4_power_5
    rw [if_neg (nI_ge hj (by omega)), mv_eq, mv_eq, nI_1, lN_mul, ← Nat.pow_succ]) k N 0 (by omega) (by omega)
  refine (show _ = _ from h).trans ?_
  show fX4_power_5 N (lN x) (nI k) k' (lN (x ^ k)) (nI k) = _
  unfold fX4_power_5
  rw [if_pos (nI_le (Nat.le_refl _) (by omega))]
theorem all_M {N : Nat} (hN : 2000 ≤ N) {B : bw_M} {p l : Nat} (hp : p ≤ 6) (hl : l < 2 ^ p) (eB : B.1 0 9 = nI p) (e4 : B.1 9 4 = nI l) : fX5_allWays N B = some (lN (s_tw l p)) := by
  have hc := cb_le l p
  have h6 := cn_6 l (p64 hp hl)
  unfold fX5_allWays flX5_allWays_12
  rw [mv_eq, r17_4, e4, cn_M hN (p64 hp hl), cl_some, cn_p hp hl, tw_pw]
  obtain ⟨k', h⟩ := lp_for (body := fun kk w => fX5_allWays_12 N kk w.1 w.2 B) (fun j => (lN (12 ^ j), nI (s_cb l p + j))) (p - s_cb l p) (fun j hj kk => by
    show fX5_allWays_12 N kk (lN (12 ^ j)) (nI (s_cb l p + j)) B = _
    unfold fX5_allWays_12
    rw [eB, if_neg (nI_ge (by omega) (by omega)), mv_eq, mv_eq, nI_1, show (12 : Int64) = lN 12 from rfl, lN_mul, ← Nat.pow_succ]; rfl) (p - s_cb l p) N 0 (by omega) (by omega)
  refine (show _ = _ from h).trans ?_
  show fX5_allWays_12 N k' (lN (12 ^ (p - s_cb l p))) (nI (s_cb l p + (p - s_cb l p))) B = _
  unfold fX5_allWays_12
  rw [eB, if_pos (nI_le (by omega) (by omega))]
theorem lgz {b : Nat} (hb : b < 2 ^ 63) : (lg_cmp (lN b) 0 = 0 ↔ b = 0) ∧ (lg_cmp (lN b) 0 ≤ 0 ↔ b = 0) ∧ (lN b = 0 ↔ b = 0) := by
  have e0 : (0 : Int64) = lN 0 := rfl
  have h1 : lN b = 0 ↔ b = 0 := by rw [e0]; exact pk_lEQ hb (by decide)
  have h2 : lN b > 0 ↔ 0 < b := by rw [gt_iff_lt, e0]; exact pk_lLT (by decide) hb
  refine ⟨?_, ?_, h1⟩
  · unfold lg_cmp
    by_cases q : b = 0
    · rw [if_neg (fun z => by have := h2.mp z; omega), if_pos (h1.mpr q)]
      exact iff_of_true rfl q
    · rw [if_pos (h2.mpr (by omega))]
      exact iff_of_false (by decide) q
  · unfold lg_cmp
    by_cases q : b = 0
    · rw [if_neg (fun z => by have := h2.mp z; omega), if_pos (h1.mpr q)]
      exact iff_of_true (by decide) q
    · rw [if_pos (h2.mpr (by omega))]
      exact iff_of_false (by decide) q
theorem half {b r k : Nat} (h : b < 2 ^ (k + 1)) (h0 : 0 < r) (hr : r < b) : b % r < 2 ^ k := by
  have h1 : b % r < r := Nat.mod_lt _ h0
  have h2 : b % r ≤ b - r := by rw [Nat.mod_eq_sub_mod (by omega)]; exact Nat.mod_le _ _
  rw [Nat.pow_succ] at h
  omega
theorem gcd_C {N : Nat} (x y : Int64) : ∀ (k a b c fu : Nat), b < 2 ^ k → a < 2 ^ 62 → b < 2 ^ 62 → 2 * k + 1 ≤ fu → c + 2 * k + 1 ≤ 1000 → bw_lp (fun kk w => fX4_greatestDivisor_9 N x y kk w.1 w.2.1 w.2.2) fu (lN a, lN b, nI c) = some (lN (Nat.gcd a b)) := by
  have ends : ∀ a c kk, c < 1000 → fX4_greatestDivisor_9 N x y kk (lN a) (lN 0) (nI c) = some (lN a) := fun a c kk hc => by
    unfold fX4_greatestDivisor_9 fX4_greatestDivisor_45
    rw [if_neg (show ¬ (1000 : Int32) ≤ nI c from nI_ge (b := 1000) hc (by decide)), if_pos ((lgz (b := 0) (by decide)).1.mpr rfl)]
  have steps : ∀ a b c kk, c < 1000 → 0 < b → a < 2 ^ 62 → b < 2 ^ 62 → fX4_greatestDivisor_9 N x y kk (lN a) (lN b) (nI c) = kk (lN b, lN (a % b), nI (c + 1)) := fun a b c kk hc hb ha hb2 => by
    unfold fX4_greatestDivisor_9
    rw [if_neg (show ¬ (1000 : Int32) ≤ nI c from nI_ge (b := 1000) hc (by decide)), if_neg (fun q => by have := (lgz (b := b) (by omega)).1.mp q; omega), show decide (¬ lN b = 0) = true from decide_eq_true (fun q => by have := (lgz (b := b) (by omega)).2.2.mp q; omega), ck_true, mv_eq, mv_eq, nI_1, pk_lRem (by omega) hb (by omega)]
  intro k
  induction k with
  | zero =>
    intro a b c fu h1 h2 h3 h4 h5
    have : b = 0 := by have h1' : b < 1 := h1; omega
    subst this
    match fu, h4 with
    | fu + 1, _ =>
      rw [bw_lp_s, Nat.gcd_zero_right]
      exact ends a c _ (by omega)
  | succ k ih =>
    intro a b c fu h1 h2 h3 h4 h5
    by_cases hb : b = 0
    · subst hb
      match fu, h4 with
      | fu + 1, _ =>
        rw [bw_lp_s, Nat.gcd_zero_right]
        exact ends a c _ (by omega)
    · have hr : a % b < b := Nat.mod_lt _ (by omega)
      match fu, h4 with
      | fu + 1, h4 =>
        rw [bw_lp_s]
        refine (steps a b c _ (by omega) (by omega) h2 h3).trans ?_
        rw [Nat.gcd_comm, Nat.gcd_rec]
        by_cases hr0 : a % b = 0
        · rw [hr0, Nat.gcd_zero_left]
          match fu, h4 with
          | fu + 1, _ =>
            rw [bw_lp_s]
            exact ends b (c + 1) _ (by omega)
        · match fu, h4 with
          | fu + 1, h4 =>
            rw [bw_lp_s]
            refine (steps b (a % b) (c + 1) _ (by omega) (by omega) h3 (by omega)).trans ?_
            have h6 : b % (a % b) < a % b := Nat.mod_lt _ (by omega)
            rw [ih (a % b) (b % (a % b)) (c + 1 + 1) fu (half h1 (by omega) hr) (by omega) (by omega) (by omega) (by omega), Nat.gcd_rec (a % b) b, Nat.gcd_comm]
theorem gcd_M {N : Nat} (x y : Int64) (M : bw_M) : ∀ (k a b fu : Nat), b < 2 ^ k → a < 2 ^ 62 → b < 2 ^ 62 → 2 * k + 1 ≤ fu → 0 < Nat.gcd a b → bw_lp (fun kk w => fX5_fraction_6 N x y kk w.1 w.2 M) fu (lN a, lN b) = some (1, bw_pL (bw_pL M 5 (x / lN (Nat.gcd a b))) 6 (y / lN (Nat.gcd a b))) := by
  have ends : ∀ a kk, 0 < a → a < 2 ^ 62 → fX5_fraction_6 N x y kk (lN a) (lN 0) M = some (1, bw_pL (bw_pL M 5 (x / lN a)) 6 (y / lN a)) := fun a kk ha ha2 => by
    unfold fX5_fraction_6
    rw [if_pos ((lgz (b := 0) (by decide)).1.mpr rfl), show decide (¬ lN a = 0) = true from decide_eq_true (fun q => by have := (lgz (b := a) (by omega)).2.2.mp q; omega), ck_true, mv_eq, ck_true, mv_eq]
  have steps : ∀ a b kk, 0 < b → a < 2 ^ 62 → b < 2 ^ 62 → fX5_fraction_6 N x y kk (lN a) (lN b) M = kk (lN b, lN (a % b)) := fun a b kk hb ha hb2 => by
    unfold fX5_fraction_6
    rw [if_neg (fun q => by have := (lgz (b := b) (by omega)).1.mp q; omega), show decide (¬ lN b = 0) = true from decide_eq_true (fun q => by have := (lgz (b := b) (by omega)).2.2.mp q; omega), ck_true, mv_eq, pk_lRem (by omega) hb (by omega)]
  intro k
  induction k with
  | zero =>
    intro a b fu h1 h2 h3 h4 hg
    have : b = 0 := by have h1' : b < 1 := h1; omega
    subst this
    rw [Nat.gcd_zero_right] at hg ⊢
    match fu, h4 with
    | fu + 1, _ =>
      rw [bw_lp_s]
      exact ends a _ hg h2
  | succ k ih =>
    intro a b fu h1 h2 h3 h4 hg
    by_cases hb : b = 0
    · subst hb
      rw [Nat.gcd_zero_right] at hg ⊢
      match fu, h4 with
      | fu + 1, _ =>
        rw [bw_lp_s]
        exact ends a _ hg h2
    · have hr : a % b < b := Nat.mod_lt _ (by omega)
      match fu, h4 with
      | fu + 1, h4 =>
        rw [bw_lp_s]
        refine (steps a b _ (by omega) h2 h3).trans ?_
        rw [Nat.gcd_comm, Nat.gcd_rec] at hg ⊢
        by_cases hr0 : a % b = 0
        · rw [hr0, Nat.gcd_zero_left]
          match fu, h4 with
          | fu + 1, _ =>
            rw [bw_lp_s]
            exact ends b _ (by omega) h3
        · match fu, h4 with
          | fu + 1, h4 =>
            rw [bw_lp_s]
            refine (steps b (a % b) _ (by omega) h3 (by omega)).trans ?_
            have h6 : b % (a % b) < a % b := Nat.mod_lt _ (by omega)
            have eg : Nat.gcd (a % b) b = Nat.gcd (a % b) (b % (a % b)) := by rw [Nat.gcd_rec (a % b) b, Nat.gcd_comm]
            rw [eg] at hg ⊢
            exact ih (a % b) (b % (a % b)) fu (half h1 (by omega) hr) (by omega) (by omega) (by omega) hg
theorem share_C {N : Nat} (hN : 2000 ≤ N) {a b : Nat} (ha : a < 2 ^ 62) (hb : b < 2 ^ 22) (h0 : 0 < b) (A : bw_M) : fX4_tellShare N (lN a) (lN b) A = some (bw_pL (bw_pL A 15 (lN a / lN (Nat.gcd a b))) 16 (lN b / lN (Nat.gcd a b))) := by
  have hg : 0 < Nat.gcd a b := Nat.gcd_pos_of_pos_right a h0
  have hg2 : Nat.gcd a b ≤ b := Nat.gcd_le_right a h0
  unfold fX4_tellShare fX4_tellShare_30 fX4_greatestDivisor flX4_greatestDivisor_9
  have e : bw_lp (fun kk w => fX4_greatestDivisor_9 N (lN a) (lN b) kk w.1 w.2.1 w.2.2) N (lN a, lN b, (0 : Int32)) = some (lN (Nat.gcd a b)) := gcd_C (lN a) (lN b) 22 a b 0 N hb ha (by omega) (by omega) (by decide)
  rw [mv_eq, e, cl_some, if_neg (fun q => by have := (lgz (b := Nat.gcd a b) (by omega)).2.1.mp q; omega), show decide (¬ lN (Nat.gcd a b) = 0) = true from decide_eq_true (fun q => by have := (lgz (b := Nat.gcd a b) (by omega)).2.2.mp q; omega), ck_true, mv_eq, ck_true, mv_eq]
theorem share_M {N : Nat} (hN : 2000 ≤ N) {a b : Nat} (ha : a < 2 ^ 62) (hb : b < 2 ^ 22) (h0 : 0 < b) (B : bw_M) : fX5_fraction N (lN a) (lN b) B = some (1, bw_pL (bw_pL B 5 (lN a / lN (Nat.gcd a b))) 6 (lN b / lN (Nat.gcd a b))) := by
  unfold fX5_fraction flX5_fraction_6
  exact gcd_M (lN a) (lN b) B 22 a b N hb ha (by omega) (by omega) (Nat.gcd_pos_of_pos_right a h0)
