/-! The class: an hour of a town at cell c -/
theorem c_br25 {c i a k n h sv : Nat} {M : bw_M} (hi : i < 6) (ha : a ≤ 60) (hk : k ≤ 5) (hn : n ≤ 9) (hh : h < 2 ^ 31) (hsv : sv ≤ 20) (e3 : M.1 c 3 = nI a) (e5 : M.1 c 5 = nI h) (ek : M.1 (c + 1) i = nI k) (en : M.1 (c + 3) i = nI n) (es : M.1 (c + 4) i = nI sv) :
    fX3_breathe_25 c (nI i) M = some (bI (s_br k n false h a sv).1, bw_pI (bw_pI M c 3 (nI (s_br k n false h a sv).2.1)) (c + 4) i (nI (s_br k n false h a sv).2.2)) := by
  have hw := want_le (k := k) (h := h) hn
  have h6 : (6 : Nat) < 2 ^ 31 := by decide
  unfold fX3_breathe_25 fX3_breathe_137 s_br
  simp only [rd_ok hi h6, wr_ok hi h6, ek, en, e3, e5, es, want_eq (k := k) (n := n) (h := h) (by omega) hh, cl_some, mv_eq, if_neg (show ¬ (false = true) by decide)]
  generalize s_want k n h = w at hw
  by_cases h0 : w = 0
  · subst h0
    rw [if_pos (show nI 0 = (0 : Int32) from rfl), if_pos rfl]
    rw [pI_id M c 3 e3, pI_id M (c + 4) i es]; rfl
  · rw [if_neg (show ¬ nI w = (0 : Int32) from nI_ne0 (by omega) (by omega)), if_neg h0]
    by_cases h1 : w ≤ a
    · rw [if_neg (nI_nlt h1 (by omega)), if_pos h1, pk_sub h1]
      rw [show (bw_pI M c 3 (nI (a - w))).1 (c + 1) i = nI k by rw [pI_ne (by omega), ek]]
      rw [keeps_eq k (by omega), cl_some]
      unfold fX3_save fX3_save_37
      simp only [rd_ok hi h6, wr_ok hi h6, mv_eq, pI_s]
      cases hkp : s_kp k with
      | false =>
        rw [if_neg (show ¬ (false = true ∧ 0 < a - w) by simp), bI_f, if_neg (show ¬ nI (a - w) < (0 : Int32) from nI_pos (by omega))]
        rw [show nI (a - w) - (0 : Int32) = nI (a - w) from pk_sub (b := 0) (Nat.zero_le _)]
        rw [pI_pI, pI_ne (show c + 4 ≠ c by omega), es, show nI sv + (0 : Int32) = nI sv from nI_add sv 0]
        rw [show (if nI sv < (20 : Int32) then nI sv else 20) = nI sv by
          by_cases q : sv < 20
          · rw [if_pos (show nI sv < (20 : Int32) from nI_lt (b := 20) q (by decide))]
          · rw [if_neg (show ¬ nI sv < (20 : Int32) from nI_nlt (b := 20) (by omega) (by omega)), show sv = 20 by omega]; rfl]
        rfl
      | true =>
        rw [bI_t]
        by_cases h2 : 0 < a - w
        · rw [if_pos (show true = true ∧ 0 < a - w from ⟨rfl, h2⟩), if_neg (show ¬ nI (a - w) < (1 : Int32) from nI_nlt (b := 1) (by omega) (by omega))]
          rw [show nI (a - w) - (1 : Int32) = nI (a - w - 1) from pk_sub (b := 1) (by omega)]
          rw [pI_pI, pI_ne (show c + 4 ≠ c by omega), es, nI_1]
          rw [show (if nI (sv + 1) < (20 : Int32) then nI (sv + 1) else 20) = nI (min 20 (sv + 1)) by
            by_cases q : sv + 1 < 20
            · rw [if_pos (show nI (sv + 1) < (20 : Int32) from nI_lt (b := 20) q (by decide)), Nat.min_eq_right (by omega)]
            · rw [if_neg (show ¬ nI (sv + 1) < (20 : Int32) from nI_nlt (b := 20) (by omega) (by omega)), Nat.min_eq_left (by omega)]; rfl]
          rfl
        · rw [if_neg (show ¬ (true = true ∧ 0 < a - w) by simp [h2]), if_pos (show nI (a - w) < (1 : Int32) from nI_lt (b := 1) (by omega) (by decide))]
          rw [cl_some, pI_id (bw_pI M c 3 (nI (a - w))) (c + 4) i (by rw [pI_ne (by omega)]; exact es)]
          rfl
    · rw [if_pos (nI_lt (by omega) (by omega)), if_neg h1, nI_add]
      by_cases h2 : w ≤ a + sv
      · rw [if_neg (nI_nlt h2 (by omega)), if_pos h2, pk_sub (show a ≤ w by omega), pk_sub (show w - a ≤ sv by omega)]
        rw [pI_cm M _ _ (Or.inl (show c + 4 ≠ c by omega))]
        rfl
      · rw [if_pos (nI_lt (by omega) (by omega)), if_neg h2]
        by_cases h3 : k = 2
        · rw [if_pos (show nI k = (2 : Int32) by rw [h3]; rfl), if_pos h3]
          rw [pI_id (bw_pI M c 3 (nI 0)) (c + 4) i (by rw [pI_ne (by omega)]; exact es)]
          rfl
        · rw [if_neg (show ¬ nI k = (2 : Int32) from fun q => h3 ((nI_eq (b := 2) (by omega) (by decide)).mp q)), if_neg h3]
          rw [pI_id M c 3 e3, pI_id M (c + 4) i es]
          rfl
theorem s_br_lk (k n h air sv : Nat) (lk : Bool) : s_br k n lk h air sv = s_br k n false h (if lk = true then air - 1 else air) sv := by
  cases lk <;> rfl
theorem c_br {c i a k n h sv lk : Nat} {M : bw_M} (hi : i < 6) (ha : a ≤ 60) (hk : k ≤ 5) (hn : n ≤ 9) (hh : h < 2 ^ 31) (hsv : sv ≤ 20) (hlk : lk < 2 ^ 31) (e3 : M.1 c 3 = nI a) (e5 : M.1 c 5 = nI h) (e7 : M.1 c 7 = nI lk) (ek : M.1 (c + 1) i = nI k) (en : M.1 (c + 3) i = nI n) (es : M.1 (c + 4) i = nI sv) :
    fX3_breathe c (nI i) M = some (bI (s_br k n (lk.testBit i) h a sv).1, bw_pI (bw_pI M c 3 (nI (s_br k n (lk.testBit i) h a sv).2.1)) (c + 4) i (nI (s_br k n (lk.testBit i) h a sv).2.2)) := by
  unfold fX3_breathe
  rw [e7, isIn_eq hlk (by omega), cl_some, s_br_lk]
  cases lk.testBit i with
  | false =>
    rw [if_pos bI_f]
    exact c_br25 hi ha hk hn hh hsv e3 e5 ek en es
  | true =>
    rw [if_neg (show ¬ bI true = 0 by decide), e3, decr a (by omega), mv_eq, if_pos rfl]
    rw [c_br25 (M := bw_pI M c 3 (nI (a - 1))) (a := a - 1) hi (by omega) hk hn hh hsv pI_s (by rw [pI_n (by decide)]; exact e5) (by rw [pI_ne (by omega)]; exact ek) (by rw [pI_ne (by omega)]; exact en) (by rw [pI_ne (by omega)]; exact es), pI_pI]
theorem c_cut {N c : Nat} {M : bw_M} {T : Tw} {cut : Nat} (hN : 2000 ≤ N) (hT : t_ok T) (h1 : c_tw M c T) (hc : cut < 2 ^ T.1) (e6 : M.1 c 6 = nI cut) : ∃ K, fX3_cutOffSet N c M = some (nI K) ∧ K < 2 ^ T.1 ∧ ∀ i, i < T.1 → K.testBit i = s_co cut T.2.2.1 i := by
  obtain ⟨p6, -, -, hTi⟩ := hT
  have hf : ∀ j, j < T.1 → T.2.2.1 j ≤ j := fun j hj => (hTi j hj).2.1
  unfold fX3_cutOffSet flX3_cutOffSet_7
  rw [mv_eq, mv_eq, e6]
  obtain ⟨s', k, hI, hk⟩ := lp_inv (body := fun kk w => fX3_cutOffSet_7 N c kk w.1 w.2 M) (fun i s => s.2 = nI i ∧ ∃ K, s.1 = nI K ∧ K < 2 ^ T.1 ∧ (∀ j, j < i → K.testBit j = s_co cut T.2.2.1 j) ∧ ∀ j, i ≤ j → K.testBit j = cut.testBit j) T.1 (fun i s hi hI => by
    obtain ⟨s1, s2⟩ := s
    obtain ⟨e2, K, e1, hK, hlo, hhi⟩ := hI
    simp only at e1 e2
    subst e1; subst e2
    have hfi := (h1.2.2.2 i hi).2.1
    have hco := s_co_eq (cut := cut) hf hi
    have h6 : i < 6 := by omega
    by_cases h0 : T.2.2.1 i = 0
    · refine ⟨(nI K, nI (i + 1)), ⟨rfl, K, rfl, hK, fun j hj => ?_, fun j hj => hhi j (by omega)⟩, fun k => ?_⟩
      · by_cases e : j = i
        · subst e
          rw [hhi j (Nat.le_refl _), hco]; simp [h0]
        · exact hlo j (by omega)
      · show fX3_cutOffSet_7 N c k (nI K) (nI i) M = _
        unfold fX3_cutOffSet_7 fX3_cutOffSet_43
        rw [h1.1, if_neg (nI_ge hi (by omega)), rd_ok h6 (by decide), hfi, eF, if_pos h0, if_pos (show (-9 : Int32) < 0 by decide), mv_eq, nI_1]
    · have hb := hf i hi
      have hKb : K.testBit (T.2.2.1 i - 1) = s_co cut T.2.2.1 (T.2.2.1 i - 1) := hlo _ (by omega)
      have step : ∀ k, fX3_cutOffSet_7 N c k (nI K) (nI i) M = k (nI (if K.testBit (T.2.2.1 i - 1) = true then K ||| 2 ^ i else K), nI (i + 1)) := by
        intro k
        unfold fX3_cutOffSet_7 fX3_cutOffSet_43
        rw [h1.1, if_neg (nI_ge hi (by omega)), rd_ok h6 (by decide), rd_ok h6 (by decide), hfi, eF, if_neg h0, if_neg (nI_pos (by omega)), isIn_eq (p31 p6 hK) (by omega), cl_some, mv_eq, mv_eq, nI_1, orI K (p64 p6 hK) i h6]
        cases K.testBit (T.2.2.1 i - 1) with
        | false => rw [if_pos bI_f, if_neg (by decide)]
        | true => rw [if_neg (show ¬ bI true = 0 by decide), if_pos rfl]; rfl
      refine ⟨_, ⟨rfl, _, rfl, ?_, fun j hj => ?_, fun j hj => ?_⟩, step⟩
      · split
        · exact Nat.or_lt_two_pow hK (Nat.pow_lt_pow_right (by decide) hi)
        · exact hK
      · by_cases e : j = i
        · subst e
          rw [hco]
          cases hq : K.testBit (T.2.2.1 j - 1) with
          | true =>
            rw [if_pos rfl, Nat.testBit_or, Nat.testBit_two_pow_self, ← hKb, hq]
            simp [h0]
          | false =>
            rw [if_neg (by decide), hhi j (Nat.le_refl _), ← hKb, hq]
            simp
        · split
          · rw [Nat.testBit_or, Nat.testBit_two_pow_of_ne (by omega), Bool.or_false]; exact hlo j (by omega)
          · exact hlo j (by omega)
      · split
        · rw [Nat.testBit_or, Nat.testBit_two_pow_of_ne (by omega), Bool.or_false]; exact hhi j (by omega)
        · exact hhi j (by omega)) T.1 N 0 (nI cut, 0) (by omega) (by omega) ⟨rfl, cut, rfl, hc, fun j hj => by omega, fun _ _ => rfl⟩
  obtain ⟨s1, s2⟩ := s'
  obtain ⟨e2, K, e1, hK, hlo, -⟩ := hI
  simp only at e1 e2
  subst e1; subst e2
  refine ⟨K, ?_, hK, hlo⟩
  rw [hk]
  unfold fX3_cutOffSet_7
  rw [h1.1, if_pos (nI_le (Nat.le_refl _) (by omega))]
/-- bounds that an hour keeps -/
theorem s_br_ok {k n h a sv : Nat} {lk : Bool} (ha : a ≤ 60) (hs : sv ≤ 20) : (s_br k n lk h a sv).2.1 ≤ 60 ∧ (s_br k n lk h a sv).2.2 ≤ 20 := by
  unfold s_br
  generalize s_want k n h = w
  have h0 : (if lk = true then a - 1 else a) ≤ 60 := by split <;> omega
  generalize (if lk = true then a - 1 else a) = b at h0
  simp only
  repeat' split
  all_goals (simp only; omega)
theorem s_run_ok {kd nd : Nat → Nat} {co : Nat → Bool} {h lk B : Nat} {st : Nat × Nat × (Nat → Nat) × (Nat → Nat)} (h1 : st.1 = 0) (h2 : st.2.1 ≤ 60) (h3 : ∀ j, j < 6 → st.2.2.1 j ≤ 20 ∧ st.2.2.2 j ≤ B) : ∀ i, (s_run kd nd co h lk st i).1 < 2 ^ i ∧ (s_run kd nd co h lk st i).2.1 ≤ 60 ∧ (∀ j, j < 6 → (s_run kd nd co h lk st i).2.2.1 j ≤ 20 ∧ (s_run kd nd co h lk st i).2.2.2 j ≤ B + 1) ∧ ∀ j, i ≤ j → (s_run kd nd co h lk st i).2.2.2 j = st.2.2.2 j := by
  intro i
  induction i with
  | zero => exact ⟨by show st.1 < _; rw [h1]; decide, h2, fun j hj => ⟨(h3 j hj).1, Nat.le_succ_of_le (h3 j hj).2⟩, fun _ _ => rfl⟩
  | succ i ih =>
    obtain ⟨i1, i2, i3, i4⟩ := ih
    have hp : 2 ^ i < 2 ^ (i + 1) := Nat.pow_lt_pow_right (by decide) (by omega)
    rw [show s_run kd nd co h lk st (i + 1) = s_step kd nd co h lk i (s_run kd nd co h lk st i) from rfl]
    unfold s_step
    generalize s_run kd nd co h lk st i = z at i1 i2 i3 i4
    by_cases hc : co i = true
    · simp only [if_pos hc]
      exact ⟨by omega, i2, i3, fun j hj => i4 j (by omega)⟩
    · simp only [if_neg hc]
      by_cases h6 : i < 6
      · have hb := s_br_ok (k := kd i) (n := nd i) (h := h) (lk := lk.testBit i) i2 (i3 i h6).1
        have h3i := (h3 i h6).2
        have h4i := i4 i (Nat.le_refl _)
        generalize s_br (kd i) (nd i) (lk.testBit i) h z.2.1 (z.2.2.1 i) = r at hb
        refine ⟨?_, hb.1, fun j hj => ?_, fun j hj => ?_⟩
        · split
          · exact Nat.or_lt_two_pow (by omega) hp
          · omega
        · constructor
          · show updN _ _ _ j ≤ 20
            unfold updN
            split
            · exact hb.2
            · exact (i3 j hj).1
          · split
            · show updN _ _ _ j ≤ _
              unfold updN
              split
              · omega
              · exact (i3 j hj).2
            · exact (i3 j hj).2
        · split
          · show updN _ _ _ j = _
            unfold updN
            rw [if_neg (by omega)]
            exact i4 j (by omega)
          · exact i4 j (by omega)
      · refine ⟨?_, ?_, fun j hj => ?_, fun j hj => ?_⟩
        · split
          · exact Nat.or_lt_two_pow (by omega) hp
          · omega
        · unfold s_br
          generalize s_want (kd i) (nd i) h = w
          have h0 : (if lk.testBit i = true then z.2.1 - 1 else z.2.1) ≤ 60 := by split <;> omega
          generalize (if lk.testBit i = true then z.2.1 - 1 else z.2.1) = b at h0
          simp only
          repeat' split
          all_goals (simp only; omega)
        · constructor
          · show updN _ _ _ j ≤ 20
            unfold updN
            rw [if_neg (by omega)]; exact (i3 j hj).1
          · split
            · show updN _ _ _ j ≤ _
              unfold updN
              rw [if_neg (by omega)]; exact (i3 j hj).2
            · exact (i3 j hj).2
        · split
          · show updN _ _ _ j = _
            unfold updN
            rw [if_neg (by omega)]
            exact i4 j (by omega)
          · exact i4 j (by omega)
theorem s_hr_ok {T : Tw} {S : Sd} {B : Nat} (hS : s_ok T.1 B S) : s_who T S < 2 ^ T.1 ∧ s_ok T.1 (B + 1) (s_blow T S) := by
  obtain ⟨a1, a2, a3, a4, a5, a6⟩ := hS
  obtain ⟨i1, i2, i3, -⟩ := s_run_ok (kd := T.2.1) (nd := T.2.2.2.1) (co := s_co S.2.2.2.1 T.2.2.1) (h := S.2.2.1) (lk := S.2.2.2.2.1) (B := B) (st := (0, min 60 (S.1 + S.2.1), S.2.2.2.2.2.1, S.2.2.2.2.2.2)) rfl (Nat.min_le_left _ _) a6 T.1
  exact ⟨i1, i2, a2, by show S.2.2.1 + 1 ≤ B + 1; omega, a4, a5, i3⟩
/-- an hour at c: what stands there then, and nothing else changes -/
theorem c_blow {N c B : Nat} {M : bw_M} {T : Tw} {S : Sd} (hN : 2000 ≤ N) (hB : B < 2 ^ 20) (hT : t_ok T) (hS : s_ok T.1 B S) (h1 : c_tw M c T) (h2 : c_st M c S) : ∃ M', fX3_blow N c M = some (nI (s_who T S), M') ∧ c_tw M' c T ∧ c_st M' c (s_blow T S) ∧ (∀ q, q ≠ c → q ≠ c + 4 → q ≠ c + 5 → M'.1 q = M.1 q) ∧ (∀ f, f ≠ 3 → f ≠ 5 → M'.1 c f = M.1 c f) ∧ M'.2 = M.2 := by
  obtain ⟨p6, -, -, hTi⟩ := id hT
  obtain ⟨a1, a2, a3, a4, a5, a6⟩ := id hS
  obtain ⟨e3, e4, e5, e6, e7, e8⟩ := id h2
  unfold fX3_blow
  rw [e3, e4, cap60 a1 a2, mv_eq]
  have hM1 : c_tw (bw_pI M c 3 (nI (min 60 (S.1 + S.2.1)))) c T := by
    obtain ⟨g1, g2, g3, g4⟩ := h1
    refine ⟨by rw [pI_n (by decide)]; exact g1, by rw [pI_n (by decide)]; exact g2, by rw [pI_n (by decide)]; exact g3, fun i hi => ?_⟩
    rw [pI_ne (by omega), pI_ne (by omega), pI_ne (by omega)]
    exact g4 i hi
  obtain ⟨K, hK1, hK2, hK3⟩ := c_cut (M := bw_pI M c 3 (nI (min 60 (S.1 + S.2.1)))) hN hT hM1 a4 (by rw [pI_n (by decide)]; exact e6)
  rw [hK1, cl_some, mv_eq, mv_eq]
  unfold flX3_blow_27
  generalize hst : ((0 : Nat), min 60 (S.1 + S.2.1), S.2.2.2.2.2.1, S.2.2.2.2.2.2) = st
  have hrun := s_run_ok (kd := T.2.1) (nd := T.2.2.2.1) (co := s_co S.2.2.2.1 T.2.2.1) (h := S.2.2.1) (lk := S.2.2.2.2.1) (B := B) (st := st) (by rw [← hst]) (by rw [← hst]; exact Nat.min_le_left _ _) (by rw [← hst]; exact a6)
  generalize hrn : s_run T.2.1 T.2.2.2.1 (s_co S.2.2.2.1 T.2.2.1) S.2.2.1 S.2.2.2.2.1 st = rn at hrun
  have hrn0 : rn 0 = st := by rw [← hrn]; rfl
  have hrns : ∀ i, rn (i + 1) = s_step T.2.1 T.2.2.2.1 (s_co S.2.2.2.1 T.2.2.1) S.2.2.1 S.2.2.2.2.1 i (rn i) := fun i => by rw [← hrn]; rfl
  obtain ⟨s', k, hI, hk⟩ := lp_inv (body := fun kk w => fX3_blow_27 N c kk (nI K) w.1 w.2.1 w.2.2) (fun i s => s.1 = nI (rn i).1 ∧ s.2.1 = nI i ∧ s.2.2.1 c 3 = nI (rn i).2.1 ∧ (∀ j, j < 6 → s.2.2.1 (c + 4) j = nI ((rn i).2.2.1 j) ∧ s.2.2.1 (c + 5) j = nI ((rn i).2.2.2 j)) ∧ (∀ q, q ≠ c → q ≠ c + 4 → q ≠ c + 5 → s.2.2.1 q = M.1 q) ∧ (∀ f, f ≠ 3 → s.2.2.1 c f = M.1 c f) ∧ s.2.2.2 = M.2) T.1 (fun i s hi hI => by
    obtain ⟨s1, s2, M'⟩ := s
    obtain ⟨q1, q2, q3, q4, q5, q6, q7⟩ := hI
    simp only at q1 q2 q3 q4 q5 q6 q7
    subst q1; subst q2
    obtain ⟨r1, r2, r3, -⟩ := hrun i
    obtain ⟨t1, t2, t3, t4⟩ := hTi i hi
    have h6 : i < 6 := by omega
    obtain ⟨g1, g2, g3, g4⟩ := h1
    have gi := g4 i hi
    have p0 : M'.1 c 0 = nI T.1 := by rw [q6 0 (by decide)]; exact g1
    have step : ∃ M2, (M2.1 c 3 = nI (rn (i + 1)).2.1 ∧ (∀ j, j < 6 → M2.1 (c + 4) j = nI ((rn (i + 1)).2.2.1 j) ∧ M2.1 (c + 5) j = nI ((rn (i + 1)).2.2.2 j)) ∧ (∀ q, q ≠ c → q ≠ c + 4 → q ≠ c + 5 → M2.1 q = M.1 q) ∧ (∀ f, f ≠ 3 → M2.1 c f = M.1 c f) ∧ M2.2 = M.2) ∧ ∀ k, fX3_blow_27 N c k (nI K) (nI (rn i).1) (nI i) M' = k (nI (rn (i + 1)).1, nI (i + 1), M2) := by
      rw [hrns i]
      unfold s_step
      rw [← hK3 i hi]
      cases hKb : K.testBit i with
      | true =>
        rw [if_pos rfl]
        refine ⟨M', ⟨q3, q4, q5, q6, q7⟩, fun k => ?_⟩
        unfold fX3_blow_27 fX3_blow_67
        rw [p0, if_neg (nI_ge hi (by omega)), isIn_eq (p31 p6 hK2) (by omega), hKb, cl_some, if_neg (show ¬ bI true = 0 by decide), mv_eq, nI_1]
      | false =>
        rw [if_neg (by decide)]
        have hbr := c_br (M := M') (c := c) (i := i) (a := (rn i).2.1) (k := T.2.1 i) (n := T.2.2.2.1 i) (h := S.2.2.1) (sv := (rn i).2.2.1 i) (lk := S.2.2.2.2.1) h6 r2 t1 t4 (by omega) (r3 i h6).1 (p31 p6 a5) q3 (by rw [q6 5 (by decide)]; exact e5) (by rw [q6 7 (by decide)]; exact e7) (by rw [q5 (c + 1) (by omega) (by omega) (by omega)]; exact gi.1) (by rw [q5 (c + 3) (by omega) (by omega) (by omega)]; exact gi.2.2) (q4 i h6).1
        generalize s_br (T.2.1 i) (T.2.2.2.1 i) (S.2.2.2.2.1.testBit i) S.2.2.1 (rn i).2.1 ((rn i).2.2.1 i) = r at hbr
        obtain ⟨rb, ra, rs⟩ := r
        simp only at hbr ⊢
        cases rb with
        | false =>
          refine ⟨bw_pI (bw_pI M' c 3 (nI ra)) (c + 4) i (nI rs), ⟨?_, fun j hj => ⟨?_, ?_⟩, fun q x y z => ?_, fun f x => ?_, q7⟩, fun k => ?_⟩
          · rw [pI_ne (by omega), pI_s]
          · rw [pI_rd, pI_ne (by omega), (q4 j hj).1]
            show _ = nI (updN _ _ _ j)
            unfold updN
            split <;> rfl
          · rw [pI_ne (by omega), pI_ne (by omega), (q4 j hj).2]; rfl
          · rw [pI_ne y, pI_ne x]; exact q5 q x y z
          · rw [pI_ne (by omega), pI_n x]; exact q6 f x
          · unfold fX3_blow_27 fX3_blow_67
            rw [p0, if_neg (nI_ge hi (by omega)), isIn_eq (p31 p6 hK2) (by omega), hKb, cl_some, if_pos bI_f, hbr, c2_some, if_pos bI_f, mv_eq, nI_1]
            rfl
        | true =>
          refine ⟨bw_pI (bw_pI (bw_pI M' c 3 (nI ra)) (c + 4) i (nI rs)) (c + 5) i (nI ((rn i).2.2.2 i + 1)), ⟨?_, fun j hj => ⟨?_, ?_⟩, fun q x y z => ?_, fun f x => ?_, q7⟩, fun k => ?_⟩
          · rw [pI_ne (by omega), pI_ne (by omega), pI_s]
          · rw [pI_ne (by omega), pI_rd, pI_ne (by omega), (q4 j hj).1]
            show _ = nI (updN _ _ _ j)
            unfold updN
            split <;> rfl
          · rw [pI_rd, pI_ne (by omega), pI_ne (by omega), (q4 j hj).2]
            show _ = nI (updN _ _ _ j)
            unfold updN
            split <;> rfl
          · rw [pI_ne z, pI_ne y, pI_ne x]; exact q5 q x y z
          · rw [pI_ne (by omega), pI_ne (by omega), pI_n x]; exact q6 f x
          · unfold fX3_blow_27 fX3_blow_67
            rw [p0, if_neg (nI_ge hi (by omega)), isIn_eq (p31 p6 hK2) (by omega), hKb, cl_some, if_pos bI_f, hbr, c2_some, if_neg (show ¬ bI true = 0 by decide), rd_ok h6 (by decide), wr_ok h6 (by decide), mv_eq, mv_eq, nI_1, pI_ne (show c + 5 ≠ c + 4 by omega), pI_ne (show c + 5 ≠ c by omega), (q4 i h6).2, nI_1, orI _ (Nat.lt_of_lt_of_le r1 (Nat.le_trans (Nat.pow_le_pow_right (by decide) (show i ≤ 6 by omega)) (by decide))) i h6]
            rfl
    obtain ⟨M2, hM2, hst2⟩ := step
    exact ⟨_, ⟨rfl, rfl, hM2⟩, hst2⟩) T.1 N 0 (0, 0, bw_pI M c 3 (nI (min 60 (S.1 + S.2.1)))) (by omega) (by omega) (by
      rw [hrn0, ← hst]
      refine ⟨rfl, rfl, pI_s, fun j hj => ?_, fun q x _ _ => pI_ne x, fun f x => pI_n x, rfl⟩
      rw [pI_ne (by omega), pI_ne (by omega)]
      exact e8 j hj)
  obtain ⟨s1, s2, M'⟩ := s'
  obtain ⟨q1, q2, q3, q4, q5, q6, q7⟩ := hI
  simp only at q1 q2 q3 q4 q5 q6 q7
  subst q1; subst q2
  have ehr : s_hr T S = rn T.1 := by rw [← hrn, ← hst]; rfl
  obtain ⟨g1, g2, g3, g4⟩ := h1
  refine ⟨bw_pI M' c 5 (nI (S.2.2.1 + 1)), ?_, ⟨?_, ?_, ?_, fun i hi => ?_⟩, ⟨?_, ?_, pI_s, ?_, ?_, fun j hj => ?_⟩, fun q x y z => ?_, fun f x y => ?_, q7⟩
  · rw [hk]
    unfold fX3_blow_27
    simp only
    rw [q6 0 (by decide), g1, if_pos (nI_le (Nat.le_refl _) (by omega)), q6 5 (by decide), e5, mv_eq, nI_1]
    show _ = some (nI (s_hr T S).1, _)
    rw [ehr]
  · rw [pI_n (by decide), q6 0 (by decide)]; exact g1
  · rw [pI_n (by decide), q6 1 (by decide)]; exact g2
  · rw [pI_n (by decide), q6 2 (by decide)]; exact g3
  · rw [pI_ne (by omega), pI_ne (by omega), pI_ne (by omega), q5 (c + 1) (by omega) (by omega) (by omega), q5 (c + 2) (by omega) (by omega) (by omega), q5 (c + 3) (by omega) (by omega) (by omega)]
    exact g4 i hi
  · rw [pI_n (by decide), q3]
    show _ = nI (s_hr T S).2.1
    rw [ehr]
  · rw [pI_n (by decide), q6 4 (by decide)]; exact e4
  · rw [pI_n (by decide), q6 6 (by decide)]; exact e6
  · rw [pI_n (by decide), q6 7 (by decide)]; exact e7
  · rw [pI_ne (by omega), pI_ne (by omega)]
    have := q4 j hj
    rw [← ehr] at this
    exact this
  · rw [pI_ne x]; exact q5 q x y z
  · rw [pI_n y]; exact q6 f x
