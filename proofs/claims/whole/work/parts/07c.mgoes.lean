/-! The model: an hour of a state in row q -/
theorem r17_0 {τ : Type} {M : bw_M} {q : Nat} {k : Int32 → Option τ} : bw_rd M q 17 0 k = k (M.1 q 0) := rd_ok (i := 0) (by decide) (by decide)
theorem r17_1 {τ : Type} {M : bw_M} {q : Nat} {k : Int32 → Option τ} : bw_rd M q 17 1 k = k (M.1 q 1) := rd_ok (i := 1) (by decide) (by decide)
theorem r17_2 {τ : Type} {M : bw_M} {q : Nat} {k : Int32 → Option τ} : bw_rd M q 17 2 k = k (M.1 q 2) := rd_ok (i := 2) (by decide) (by decide)
theorem r17_3 {τ : Type} {M : bw_M} {q : Nat} {k : Int32 → Option τ} : bw_rd M q 17 3 k = k (M.1 q 3) := rd_ok (i := 3) (by decide) (by decide)
theorem r17_4 {τ : Type} {M : bw_M} {q : Nat} {k : Int32 → Option τ} : bw_rd M q 17 4 k = k (M.1 q 4) := rd_ok (i := 4) (by decide) (by decide)
theorem w17_0 {τ : Type} {M : bw_M} {q : Nat} {v : Int32} {k : bw_M → Option τ} : bw_wr M q 17 0 v k = k (bw_pI M q 0 v) := wr_ok (i := 0) (by decide) (by decide)
theorem w17_1 {τ : Type} {M : bw_M} {q : Nat} {v : Int32} {k : bw_M → Option τ} : bw_wr M q 17 1 v k = k (bw_pI M q 1 v) := wr_ok (i := 1) (by decide) (by decide)
theorem w17_2 {τ : Type} {M : bw_M} {q : Nat} {v : Int32} {k : bw_M → Option τ} : bw_wr M q 17 2 v k = k (bw_pI M q 2 v) := wr_ok (i := 2) (by decide) (by decide)
theorem w17_3 {τ : Type} {M : bw_M} {q : Nat} {v : Int32} {k : bw_M → Option τ} : bw_wr M q 17 3 v k = k (bw_pI M q 3 v) := wr_ok (i := 3) (by decide) (by decide)
theorem w17_4 {τ : Type} {M : bw_M} {q : Nat} {v : Int32} {k : bw_M → Option τ} : bw_wr M q 17 4 v k = k (bw_pI M q 4 v) := wr_ok (i := 4) (by decide) (by decide)
theorem i5 (i : Nat) : (5 : Int32) + nI i = nI (5 + i) := nI_add 5 i
theorem i11 (i : Nat) : (11 : Int32) + nI i = nI (11 + i) := nI_add 11 i
theorem r17_s {τ : Type} {M : bw_M} {q i : Nat} {k : Int32 → Option τ} (hi : i < 6) : bw_rd M q 17 (5 + nI i) k = k (M.1 q (5 + i)) := by rw [i5]; exact rd_ok (by omega) (by decide)
theorem r17_d {τ : Type} {M : bw_M} {q i : Nat} {k : Int32 → Option τ} (hi : i < 6) : bw_rd M q 17 (11 + nI i) k = k (M.1 q (11 + i)) := by rw [i11]; exact rd_ok (by omega) (by decide)
theorem w17_s {τ : Type} {M : bw_M} {q i : Nat} {v : Int32} {k : bw_M → Option τ} (hi : i < 6) : bw_wr M q 17 (5 + nI i) v k = k (bw_pI M q (5 + i) v) := by rw [i5]; exact wr_ok (by omega) (by decide)
theorem w17_d {τ : Type} {M : bw_M} {q i : Nat} {v : Int32} {k : bw_M → Option τ} (hi : i < 6) : bw_wr M q 17 (11 + nI i) v k = k (bw_pI M q (11 + i) v) := by rw [i11]; exact wr_ok (by omega) (by decide)
theorem m_wants {q i k n h : Nat} {M : bw_M} (hi : i < 6) (hk : k < 2 ^ 31) (hh : h < 2 ^ 31) (ek : M.1 6 i = nI k) (en : M.1 8 i = nI n) (e2 : M.1 q 2 = nI h) : fX5_wantsOn q 17 (nI i) M = some (nI (s_want k n h)) := by
  unfold fX5_wantsOn
  rw [rd_ok hi (by decide), rd_ok hi (by decide), r17_2, ek, en, e2, wantsBy_eq hk hh, cl_some]
theorem m_tk23 {q i a k n h sv sd : Nat} {M : bw_M} (hq : 9 ≤ q) (hi : i < 6) (ha : a ≤ 60) (hk : k ≤ 5) (hn : n ≤ 9) (hh : h < 2 ^ 31) (hsv : sv ≤ 20) (e0 : M.1 q 0 = nI a) (e2 : M.1 q 2 = nI h) (ek : M.1 6 i = nI k) (en : M.1 8 i = nI n) (es : M.1 q (5 + i) = nI sv) (ed : M.1 q (11 + i) = nI sd) :
    fX5_takes_23 q 17 (nI i) M = some (bI (s_br k n false h a sv).1, bw_pI (bw_pI (bw_pI M q 0 (nI (s_br k n false h a sv).2.1)) q (5 + i) (nI (s_br k n false h a sv).2.2)) q (11 + i) (nI (if (s_br k n false h a sv).1 = true then sd + 1 else sd))) := by
  have hw := want_le (k := k) (h := h) hn
  have h6 : (6 : Nat) < 2 ^ 31 := by decide
  unfold fX5_takes_23 fX5_takes_97 fX5_takes_99 fX5_takes_172 s_br
  simp only [m_wants (q := q) hi (show k < 2 ^ 31 by omega) hh ek en e2, cl_some, r17_0, w17_0, r17_s hi, w17_s hi, r17_d hi, w17_d hi, rd_ok hi h6, ek, e0, es, if_neg (show ¬ (false = true) by decide)]
  generalize s_want k n h = w at hw
  by_cases h0 : w = 0
  · subst h0
    rw [if_pos (show nI 0 = (0 : Int32) from rfl), if_pos rfl]
    simp only [if_neg (show ¬ (false = true) by decide)]
    rw [pI_id M q 0 e0, pI_id M q (5 + i) es, pI_id M q (11 + i) ed]; rfl
  · rw [if_neg (show ¬ nI w = (0 : Int32) from nI_ne0 (by omega) (by omega)), if_neg h0]
    by_cases h1 : w ≤ a
    · rw [if_neg (nI_nlt h1 (by omega)), if_pos h1, pk_sub h1]
      rw [show (bw_pI M q 0 (nI (a - w))).1 6 i = nI k by rw [pI_ne (by omega), ek]]
      rw [isOf1_eq k (by omega), cl_some]
      simp only [pI_s, pI_n (show 5 + i ≠ 0 by omega), pI_n (show 11 + i ≠ 0 by omega), es, ed, nI_1]
      cases hkp : s_kp k with
      | false =>
        rw [if_neg (show ¬ (false = true ∧ 0 < a - w) by simp), if_pos bI_f]
        simp only [if_pos]
        rw [pI_id (bw_pI M q 0 (nI (a - w))) q (5 + i) (by rw [pI_n (by omega)]; exact es)]; rfl
      | true =>
        rw [if_neg (show ¬ bI true = 0 by decide)]
        by_cases h2 : 0 < a - w
        · rw [if_pos (show true = true ∧ 0 < a - w from ⟨rfl, h2⟩), if_neg (show ¬ nI (a - w) ≤ (0 : Int32) from nI_nle h2 (by omega))]
          rw [show nI (a - w) - (1 : Int32) = nI (a - w - 1) from pk_sub (b := 1) (by omega)]
          simp only [pI_pI, pI_n (show 5 + i ≠ 0 by omega), pI_n (show 11 + i ≠ 0 by omega), pI_n (show 11 + i ≠ 5 + i by omega), es, ed, nI_1, if_pos]
          by_cases q9 : 20 ≤ sv
          · rw [if_pos (show (20 : Int32) ≤ nI sv from nI_le (a := 20) q9 (by omega)), show nI sv + (0 : Int32) = nI sv from nI_add sv 0, Nat.min_eq_left (by omega), show sv = 20 by omega]; rfl
          · rw [if_neg (show ¬ (20 : Int32) ≤ nI sv from nI_ge (b := 20) (by omega) (by decide)), Nat.min_eq_right (by omega)]; rfl
        · rw [if_neg (show ¬ (true = true ∧ 0 < a - w) by simp [h2]), if_pos (show nI (a - w) ≤ (0 : Int32) from nI_le (b := 0) (by omega) (by decide))]
          simp only [if_pos]
          rw [pI_id (bw_pI M q 0 (nI (a - w))) q (5 + i) (by rw [pI_n (by omega)]; exact es)]
          rfl
    · rw [if_pos (nI_lt (by omega) (by omega)), if_neg h1, nI_add]
      by_cases h2 : w ≤ a + sv
      · rw [if_neg (nI_nlt h2 (by omega)), if_pos h2, pk_sub (show a ≤ w by omega), pk_sub (show w - a ≤ sv by omega)]
        simp only [pI_n (show 11 + i ≠ 0 by omega), pI_n (show 11 + i ≠ 5 + i by omega), ed, nI_1, if_pos]
        rw [pI_cm M _ _ (Or.inr (show 5 + i ≠ 0 by omega))]
        rfl
      · rw [if_pos (nI_lt (by omega) (by omega)), if_neg h2]
        simp only [if_neg (show ¬ (false = true) by decide)]
        by_cases h3 : k = 2
        · rw [if_pos (show nI k = (2 : Int32) by rw [h3]; rfl), if_pos h3]
          rw [pI_id (bw_pI M q 0 (nI 0)) q (5 + i) (by rw [pI_n (by omega)]; exact es), pI_id (bw_pI M q 0 (nI 0)) q (11 + i) (by rw [pI_n (by omega)]; exact ed)]
          rfl
        · rw [if_neg (show ¬ nI k = (2 : Int32) from fun q => h3 ((nI_eq (b := 2) (by omega) (by decide)).mp q)), if_neg h3]
          rw [pI_id M q 0 e0, pI_id M q (5 + i) es, pI_id M q (11 + i) ed]
          rfl
theorem m_tk {q i a k n h sv sd lk : Nat} {M : bw_M} (hq : 9 ≤ q) (hi : i < 6) (ha : a ≤ 60) (hk : k ≤ 5) (hn : n ≤ 9) (hh : h < 2 ^ 31) (hsv : sv ≤ 20) (hlk : lk < 2 ^ 31) (e0 : M.1 q 0 = nI a) (e2 : M.1 q 2 = nI h) (e4 : M.1 q 4 = nI lk) (ek : M.1 6 i = nI k) (en : M.1 8 i = nI n) (es : M.1 q (5 + i) = nI sv) (ed : M.1 q (11 + i) = nI sd) :
    fX5_takes q 17 (nI i) M = some (bI (s_br k n (lk.testBit i) h a sv).1, bw_pI (bw_pI (bw_pI M q 0 (nI (s_br k n (lk.testBit i) h a sv).2.1)) q (5 + i) (nI (s_br k n (lk.testBit i) h a sv).2.2)) q (11 + i) (nI (if (s_br k n (lk.testBit i) h a sv).1 = true then sd + 1 else sd))) := by
  unfold fX5_takes
  rw [r17_4, e4, has_eq hlk (by omega), cl_some, s_br_lk]
  cases lk.testBit i with
  | false =>
    rw [if_pos bI_f]
    exact m_tk23 hq hi ha hk hn hh hsv e0 e2 ek en es ed
  | true =>
    rw [if_neg (show ¬ bI true = 0 by decide), r17_0, r17_0, w17_0, e0, if_pos rfl]
    by_cases h0 : a = 0
    · subst h0
      rw [if_pos (show nI 0 ≤ (0 : Int32) by decide)]
      exact m_tk23 hq hi (by omega) hk hn hh hsv e0 e2 ek en es ed
    · rw [if_neg (show ¬ nI a ≤ (0 : Int32) from nI_nle (by omega) (by omega)), show nI a - (1 : Int32) = nI (a - 1) from pk_sub (b := 1) (by omega)]
      rw [m_tk23 (M := bw_pI M q 0 (nI (a - 1))) (a := a - 1) (sd := sd) hq hi (by omega) hk hn hh hsv pI_s (by rw [pI_n (by decide)]; exact e2) (by rw [pI_ne (by omega)]; exact ek) (by rw [pI_ne (by omega)]; exact en) (by rw [pI_n (by omega)]; exact es) (by rw [pI_n (by omega)]; exact ed), pI_pI]
theorem m_cut {N q : Nat} {M : bw_M} {T : Tw} {cut : Nat} (hN : 2000 ≤ N) (hT : t_ok T) (h1 : m_tw M T) (hc : cut < 2 ^ T.1) (e3 : M.1 q 3 = nI cut) {i : Nat} (hi : i < T.1) : fX5_isCutOff N q 17 (nI i) M = some (bI (s_co cut T.2.2.1 i)) := by
  obtain ⟨p6, -, -, hTi⟩ := hT
  have hf : ∀ j, j < T.1 → T.2.2.1 j ≤ j := fun j hj => (hTi j hj).2.1
  unfold fX5_isCutOff flX5_isCutOff_5
  rw [mv_eq]
  have key : ∀ i, i < T.1 → ∀ (fu : Nat) (b : Bool), i + 2 ≤ fu → bw_lp (fun kk w => fX5_isCutOff_5 N q 17 (nI i) kk w.1 w.2 M) fu (bI b, nI i) = some (bI (b || s_co cut T.2.2.1 i)) := by
    have key2 : ∀ i, i < T.1 → ∀ (x : Int32) (fu : Nat) (b : Bool), i + 2 ≤ fu → bw_lp (fun kk w => fX5_isCutOff_5 N q 17 x kk w.1 w.2 M) fu (bI b, nI i) = some (bI (b || s_co cut T.2.2.1 i)) := by
      intro i
      induction i using Nat.strongRecOn with
      | ind i ih =>
        intro hi x fu b hfu
        match fu, hfu with
        | fu + 1, hfu =>
          have h6 : i < 6 := by omega
          have hfi := (h1.2 i hi).2.1
          rw [bw_lp_s]
          have st : ∀ k, fX5_isCutOff_5 N q 17 x k (bI b) (nI i) M = k (bI (b || cut.testBit i), eF (T.2.2.1 i)) := by
            intro k
            unfold fX5_isCutOff_5 fX5_isCutOff_27 fX5_isCutOff_32
            simp only [if_neg (nI_m9 (show i < 2 ^ 31 by omega)), r17_3, e3, has_eq (p31 p6 hc) (show i < 32 by omega), cl_some, rd_ok h6 (show 6 < 2 ^ 31 by decide), hfi]
            cases b with
            | true => rw [if_neg (show ¬ bI true = 0 by decide)]; rfl
            | false =>
              rw [if_pos bI_f]
              cases cut.testBit i with
              | true => rw [if_neg (show ¬ bI true = 0 by decide)]; rfl
              | false => rw [if_pos bI_f]; rfl
          show fX5_isCutOff_5 N q 17 x _ (bI b) (nI i) M = _
          rw [st, s_co_eq hf hi]
          by_cases h0 : T.2.2.1 i = 0
          · rw [eF, if_pos h0]
            match fu, hfu with
            | fu + 1, hfu =>
              rw [bw_lp_s]
              show fX5_isCutOff_5 N q 17 x _ (bI (b || cut.testBit i)) (-9) M = _
              unfold fX5_isCutOff_5
              rw [if_pos rfl, isb_bI, ck_true]
              simp [h0]
          · have hb := hf i hi
            rw [eF, if_neg h0, ih (T.2.2.1 i - 1) (by omega) (by omega) x fu (b || cut.testBit i) (by omega)]
            simp [h0, Bool.or_assoc]
    exact fun i hi fu b h => key2 i hi _ fu b h
  have := key i hi N false (by omega)
  rw [Bool.false_or] at this
  exact this
theorem m_goes {N q B : Nat} {M : bw_M} {T : Tw} {S : Sd} (hN : 2000 ≤ N) (hB : B < 2 ^ 20) (hq : 9 ≤ q) (hT : t_ok T) (hS : s_ok T.1 B S) (h1 : m_tw M T) (h2 : m_st M q 0 S) : ∃ M', fX5_goes N q 17 M = some (nI (s_who T S), M') ∧ m_st M' q 0 (s_blow T S) ∧ (∀ x, x ≠ q → M'.1 x = M.1 x) ∧ M'.2 = M.2 := by
  obtain ⟨p6, -, -, hTi⟩ := id hT
  obtain ⟨a1, a2, a3, a4, a5, a6⟩ := id hS
  obtain ⟨e0, e1, e2, e3, e4, e5⟩ := id h2
  simp only [Nat.zero_add] at e0 e1 e2 e3 e4 e5
  unfold fX5_goes
  rw [r17_0, r17_1, e0, e1, nI_add, lesser60 (by omega), cl_some, w17_0, mv_eq, mv_eq]
  unfold flX5_goes_19
  generalize hst : ((0 : Nat), min 60 (S.1 + S.2.1), S.2.2.2.2.2.1, S.2.2.2.2.2.2) = st
  have hrun := s_run_ok (kd := T.2.1) (nd := T.2.2.2.1) (co := s_co S.2.2.2.1 T.2.2.1) (h := S.2.2.1) (lk := S.2.2.2.2.1) (B := B) (st := st) (by rw [← hst]) (by rw [← hst]; exact Nat.min_le_left _ _) (by rw [← hst]; exact a6)
  generalize hrn : s_run T.2.1 T.2.2.2.1 (s_co S.2.2.2.1 T.2.2.1) S.2.2.1 S.2.2.2.2.1 st = rn at hrun
  have hrn0 : rn 0 = st := by rw [← hrn]; rfl
  have hrns : ∀ i, rn (i + 1) = s_step T.2.1 T.2.2.2.1 (s_co S.2.2.2.1 T.2.2.1) S.2.2.1 S.2.2.2.2.1 i (rn i) := fun i => by rw [← hrn]; rfl
  obtain ⟨s', k, hI, hk⟩ := lp_inv (body := fun kk w => fX5_goes_19 N q 17 kk w.1 w.2.1 w.2.2) (fun i s => s.1 = nI (rn i).1 ∧ s.2.1 = nI i ∧ s.2.2.1 q 0 = nI (rn i).2.1 ∧ (∀ j, j < 6 → s.2.2.1 q (5 + j) = nI ((rn i).2.2.1 j) ∧ s.2.2.1 q (11 + j) = nI ((rn i).2.2.2 j)) ∧ (∀ x, x ≠ q → s.2.2.1 x = M.1 x) ∧ (∀ f, f ≠ 0 → f < 5 → s.2.2.1 q f = M.1 q f) ∧ s.2.2.2 = M.2) T.1 (fun i s hi hI => by
    obtain ⟨s1, s2, M'⟩ := s
    obtain ⟨q1, q2, q3, q4, q5, q6, q7⟩ := hI
    simp only at q1 q2 q3 q4 q5 q6 q7
    subst q1; subst q2
    obtain ⟨r1, r2, r3, -⟩ := hrun i
    obtain ⟨t1, t2, t3, t4⟩ := hTi i hi
    have h6 : i < 6 := by omega
    have hM' : m_tw M' T := h1.of (by rw [q5 0 (by omega)]) (fun x _ _ => q5 x (by omega))
    have gi := hM'.2 i hi
    have p0 : M'.1 0 9 = nI T.1 := hM'.1
    have hco := m_cut (q := q) (cut := S.2.2.2.1) hN hT hM' a4 (by rw [q6 3 (by decide) (by decide)]; exact e3) hi
    have step : ∃ M2, (M2.1 q 0 = nI (rn (i + 1)).2.1 ∧ (∀ j, j < 6 → M2.1 q (5 + j) = nI ((rn (i + 1)).2.2.1 j) ∧ M2.1 q (11 + j) = nI ((rn (i + 1)).2.2.2 j)) ∧ (∀ x, x ≠ q → M2.1 x = M.1 x) ∧ (∀ f, f ≠ 0 → f < 5 → M2.1 q f = M.1 q f) ∧ M2.2 = M.2) ∧ ∀ k, fX5_goes_19 N q 17 k (nI (rn i).1) (nI i) M' = k (nI (rn (i + 1)).1, nI (i + 1), M2) := by
      rw [hrns i]
      unfold s_step
      cases hKb : s_co S.2.2.2.1 T.2.2.1 i with
      | true =>
        rw [if_pos rfl]
        refine ⟨M', ⟨q3, q4, q5, q6, q7⟩, fun k => ?_⟩
        unfold fX5_goes_19 fX5_goes_55
        rw [p0, if_neg (nI_ge hi (by omega)), hco, hKb, cl_some, if_neg (show ¬ bI true = 0 by decide), mv_eq, nI_1]
      | false =>
        rw [if_neg (by decide)]
        have hbr := m_tk (M := M') (q := q) (i := i) (a := (rn i).2.1) (k := T.2.1 i) (n := T.2.2.2.1 i) (h := S.2.2.1) (sv := (rn i).2.2.1 i) (sd := (rn i).2.2.2 i) (lk := S.2.2.2.2.1) hq h6 r2 t1 t4 (by omega) (r3 i h6).1 (p31 p6 a5) q3 (by rw [q6 2 (by decide) (by decide)]; exact e2) (by rw [q6 4 (by decide) (by decide)]; exact e4) gi.1 gi.2.2 (q4 i h6).1 (q4 i h6).2
        generalize s_br (T.2.1 i) (T.2.2.2.1 i) (S.2.2.2.2.1.testBit i) S.2.2.1 (rn i).2.1 ((rn i).2.2.1 i) = r at hbr
        obtain ⟨rb, ra, rs⟩ := r
        simp only at hbr ⊢
        refine ⟨bw_pI (bw_pI (bw_pI M' q 0 (nI ra)) q (5 + i) (nI rs)) q (11 + i) (nI (if rb = true then (rn i).2.2.2 i + 1 else (rn i).2.2.2 i)), ⟨?_, fun j hj => ⟨?_, ?_⟩, fun x y => ?_, fun f x y => ?_, ?_⟩, fun k => ?_⟩
        · rw [pI_n (by omega), pI_n (by omega), pI_s]
        · rw [pI_n (by omega), pI_rd]
          unfold updN
          by_cases e : j = i
          · rw [if_pos (by omega), if_pos e]
          · rw [if_neg (by omega), if_neg e, pI_n (by omega), (q4 j hj).1]
        · rw [pI_rd, pI_n (by omega), pI_n (by omega), (q4 j hj).2]
          cases rb with
          | true =>
            simp only [if_pos]
            unfold updN
            by_cases e : j = i
            · rw [if_pos (by omega), if_pos e]
            · rw [if_neg (by omega), if_neg e]
          | false =>
            simp only [if_neg (show ¬ (false = true) by decide)]
            by_cases e : j = i
            · rw [if_pos (by omega), e]
            · rw [if_neg (by omega)]
        · rw [pI_ne y, pI_ne y, pI_ne y]; exact q5 x y
        · rw [pI_n (by omega), pI_n (by omega), pI_n x]; exact q6 f x y
        · exact q7
        · unfold fX5_goes_19 fX5_goes_53 fX5_goes_55
          rw [p0, if_neg (nI_ge hi (by omega)), hco, hKb, cl_some, if_pos bI_f, hbr, c2_some, mv_eq, mv_eq, mv_eq, nI_1, orI _ (Nat.lt_of_lt_of_le r1 (Nat.le_trans (Nat.pow_le_pow_right (by decide) (show i ≤ 6 by omega)) (by decide))) i h6]
          cases rb with
          | true => rw [if_neg (show ¬ bI true = 0 by decide)]; rfl
          | false => rw [if_pos bI_f, show ∀ x : Int32, x ||| 0 = x from fun x => by simp]; rfl
    obtain ⟨M2, hM2, hst2⟩ := step
    exact ⟨_, ⟨rfl, rfl, hM2⟩, hst2⟩) T.1 N 0 (0, 0, bw_pI M q 0 (nI (min 60 (S.1 + S.2.1)))) (by omega) (by omega) (by
      rw [hrn0, ← hst]
      refine ⟨rfl, rfl, pI_s, fun j hj => ?_, fun x y => pI_ne y, fun f x _ => pI_n x, rfl⟩
      rw [pI_n (by omega), pI_n (by omega)]
      exact e5 j hj)
  obtain ⟨s1, s2, M'⟩ := s'
  obtain ⟨q1, q2, q3, q4, q5, q6, q7⟩ := hI
  simp only at q1 q2 q3 q4 q5 q6 q7
  subst q1; subst q2
  have ehr : s_hr T S = rn T.1 := by rw [← hrn, ← hst]; rfl
  refine ⟨bw_pI M' q 2 (nI (S.2.2.1 + 1)), ?_, ?_, fun x y => ?_, q7⟩
  · rw [hk]
    unfold fX5_goes_19
    simp only
    rw [q5 0 (by omega), h1.1, if_pos (nI_le (Nat.le_refl _) (by omega)), r17_2, w17_2, q6 2 (by decide) (by decide), e2, nI_1]
    show _ = some (nI (s_hr T S).1, _)
    rw [ehr]
  · unfold m_st
    simp only [Nat.zero_add]
    refine ⟨?_, ?_, pI_s, ?_, ?_, fun j hj => ?_⟩
    · rw [pI_n (by decide), q3]
      show _ = nI (s_hr T S).2.1
      rw [ehr]
    · rw [pI_n (by decide), q6 1 (by decide) (by decide)]; exact e1
    · rw [pI_n (by decide), q6 3 (by decide) (by decide)]; exact e3
    · rw [pI_n (by decide), q6 4 (by decide) (by decide)]; exact e4
    · rw [pI_n (by omega), pI_n (by omega)]
      have := q4 j hj
      rw [← ehr] at this
      exact this
  · rw [pI_ne y]; exact q5 x y
