/-! says, first, least -/
/-- two loops side by side, to a place where they part -/
theorem lp_mid {σ σ' τ τ' : Type} {b : (σ → Option τ) → σ → Option τ} {b' : (σ' → Option τ') → σ' → Option τ'} (I : Nat → σ → σ' → Prop) (Z : Option τ → Option τ' → Prop) (n : Nat)
    (hs : ∀ i s t, i < n → I i s t → (∃ s' t', I (i + 1) s' t' ∧ (∀ k, b k s = k s') ∧ ∀ k, b' k t = k t') ∨ ∃ x x', Z x x' ∧ (∀ k, b k s = x) ∧ ∀ k, b' k t = x') : ∀ (d fu fu' i : Nat) (s : σ) (t : σ'), i + d = n → d < fu → d < fu' → I i s t → Z (bw_lp b fu s) (bw_lp b' fu' t) ∨ ∃ s' t', I n s' t' ∧ bw_lp b fu s = bw_lp b (fu - d) s' ∧ bw_lp b' fu' t = bw_lp b' (fu' - d) t' := by
  intro d
  induction d with
  | zero =>
    intro fu fu' i s t hi hf hf' h
    rw [Nat.add_zero] at hi
    subst hi
    exact Or.inr ⟨s, t, h, rfl, rfl⟩
  | succ d ih =>
    intro fu fu' i s t hi hf hf' h
    match fu, fu', hf, hf' with
    | fu + 1, fu' + 1, hf, hf' =>
      rw [bw_lp_s, bw_lp_s]
      rcases hs i s t (by omega) h with ⟨s', t', hI, h1, h2⟩ | ⟨x, x', hz, h1, h2⟩
      · rw [h1, h2, Nat.add_sub_add_right, Nat.add_sub_add_right]
        exact ih fu fu' (i + 1) s' t' (by omega) (by omega) (by omega) hI
      · rw [h1, h2]
        exact Or.inl hz
theorem run_said {kd nd : Nat → Nat} {co : Nat → Bool} {h lk : Nat} {st : Nat × Nat × (Nat → Nat) × (Nat → Nat)} (h1 : st.1 = 0) : ∀ i, (s_run kd nd co h lk st i).1 < 2 ^ i ∧ ∀ j, (s_run kd nd co h lk st i).2.2.2 j = st.2.2.2 j + (if (s_run kd nd co h lk st i).1.testBit j = true then 1 else 0) := by
  intro i
  induction i with
  | zero =>
    refine ⟨by show st.1 < _; rw [h1]; decide, fun j => ?_⟩
    show st.2.2.2 j = st.2.2.2 j + (if st.1.testBit j = true then 1 else 0)
    rw [h1, Nat.zero_testBit, if_neg (by decide)]; rfl
  | succ i ih =>
    obtain ⟨i1, i2⟩ := ih
    have hp : 2 ^ i < 2 ^ (i + 1) := Nat.pow_lt_pow_right (by decide) (by omega)
    rw [show s_run kd nd co h lk st (i + 1) = s_step kd nd co h lk i (s_run kd nd co h lk st i) from rfl]
    unfold s_step
    generalize s_run kd nd co h lk st i = z at i1 i2
    by_cases hc : co i = true
    · simp only [if_pos hc]
      exact ⟨by omega, i2⟩
    · simp only [if_neg hc]
      generalize s_br (kd i) (nd i) (lk.testBit i) h z.2.1 (z.2.2.1 i) = r
      obtain ⟨rb, ra, rs⟩ := r
      cases rb with
      | false =>
        simp only [if_neg (show ¬ (false = true) by decide)]
        exact ⟨by omega, i2⟩
      | true =>
        simp only [if_pos]
        refine ⟨Nat.or_lt_two_pow (by omega) hp, fun j => ?_⟩
        unfold updN
        rw [Nat.testBit_or]
        by_cases e : j = i
        · subst e
          rw [if_pos rfl, Nat.testBit_two_pow_self, Bool.or_true, if_pos rfl, i2 j, Nat.testBit_lt_two_pow i1, if_neg (by decide)]
        · rw [if_neg e, Nat.testBit_two_pow_of_ne (fun q => e q.symm), Bool.or_false]
          exact i2 j
theorem blow_said (T : Tw) (S : Sd) (j : Nat) : (s_blow T S).2.2.2.2.2.2 j = S.2.2.2.2.2.2 j + (if (s_who T S).testBit j = true then 1 else 0) :=
  (run_said (st := (0, min 60 (S.1 + S.2.1), S.2.2.2.2.2.1, S.2.2.2.2.2.2)) rfl T.1).2 j
theorem ok_says {N : Nat} (hN : 2000 ≤ N) {A B : bw_M} (h : Rel A B) (x y : Int32) : OkI (fX4_says N x y A) (fX5_says N x y B) := by
  obtain ⟨T, ds, ks, h⟩ := h.rl
  unfold fX4_says fX4_says_21 fX5_says fX5_says_20
  rcases pipe_cases h x with ⟨i, hi, rfl, p1, p2⟩ | ⟨p1, p2⟩
  · have hp6 := h.p6
    rw [p1, p2, cl_some, cl_some, if_neg i10, if_neg i10, in_I y 0 40 (by decide) (by decide), cl_some]
    rcases rng y 40 (by decide) with ⟨n, hn, rfl⟩ | hx
    · rw [if_neg (nI_pos (by omega)), if_pos (show nI n ≤ (40 : Int32) from nI_le (b := 40) hn (by decide)), if_pos (show (0 : Int32) ≤ nI n ∧ nI n ≤ 40 from ⟨nI_pos' (by omega), nI_le (b := 40) hn (by decide)⟩), if_neg i10]
      obtain ⟨A1, B1, e1, e2, tr, k1, k2⟩ := tr_start hN h
      rw [e1, e2, cl_some, cl_some, mv_eq, mv_eq, mv_eq]
      unfold flX4_says_36 flX5_says_31
      have hs0 : A.1 21 i = nI ((s_rep T ds).2.2.2.2.2.2 i) := (h.2.2.2.2.1.2.1.2.2.2.2.2 i (by omega)).2
      refine lp_two (fun k s t => s.1 = nI k ∧ t.2.1 = nI k ∧ kpC A s.2 ∧ kpM B t.2.2 ∧ Tr s.2 t.2.2 T (s_it T (s_rep T ds) k) ∧ ∃ c, t.1 = nI c ∧ c ≤ k ∧ (s_it T (s_rep T ds) k).2.2.2.2.2.2 i = (s_rep T ds).2.2.2.2.2.2 i + c) OkI n ?_ ?_ n N N 0 _ _ (by omega) (by omega) (by omega) ⟨rfl, rfl, k1, k2, tr, 0, rfl, Nat.le_refl _, rfl⟩
      · intro k s t hk ⟨q1, q2, q4, q5, q6, c, q7, q8, q9⟩
        left
        have hok := it_ok h.sok k
        obtain ⟨A2, B2, e3, e4, tr2, k3, k4⟩ := tr_blow hN (by omega) h.2.2.2.1 hok q6
        have hw := (s_hr_ok hok).1
        refine ⟨(nI (k + 1), A2), (nI (c + if (s_who T (s_it T (s_rep T ds) k)).testBit i = true then 1 else 0), nI (k + 1), B2), ⟨rfl, rfl, q4.tr k3, q5.tr k4, tr2, _, rfl, by split <;> omega, ?_⟩, fun kk => ?_, fun kk => ?_⟩
        · show (s_blow T (s_it T (s_rep T ds) k)).2.2.2.2.2.2 i = _
          rw [blow_said, q9, Nat.add_assoc]
        · show fX4_says_36 N (nI i) (nI n) kk s.1 s.2 = _
          unfold fX4_says_36
          rw [q1, if_neg (nI_ge hk (by omega)), e3, c2_some, mv_eq, nI_1]
        · show fX5_says_31 N (nI i) (nI n) kk t.1 t.2.1 t.2.2 = _
          unfold fX5_says_31 fX5_says_58
          rw [q2, if_neg (nI_ge hk (by omega)), e4, c2_some, has_eq (p31 hp6 hw) (by omega), cl_some, q7, mv_eq, mv_eq, mv_eq, mv_eq, nI_1]
          cases (s_who T (s_it T (s_rep T ds) k)).testBit i with
          | false => rw [if_pos bI_f, show nI c + (0 : Int32) = nI c from nI_add c 0]; rfl
          | true => rw [if_neg (show ¬ bI true = 0 by decide), nI_1]; rfl
      · intro s t ⟨q1, q2, q4, q5, q6, c, q7, q8, q9⟩
        refine ⟨some (nI c, s.2), some (nI c, t.2.2), ⟨_, _, _, rfl, rfl, (h.kp q4 q5).rel⟩, fun kk => ?_, fun kk => ?_⟩
        · show fX4_says_36 N (nI i) (nI n) kk s.1 s.2 = _
          unfold fX4_says_36
          have g1 : s.2.1 27 i = nI ((s_rep T ds).2.2.2.2.2.2 i + c) := by rw [← q9]; exact (q6.2.1.2.2.2.2.2 i (by omega)).2
          have g2 : s.2.1 21 i = nI ((s_rep T ds).2.2.2.2.2.2 i) := by rw [q4.1 21 (by decide) (by decide) (by decide)]; exact hs0
          rw [q1, if_pos (nI_le (Nat.le_refl _) (by omega)), rd_ok (by omega) (by decide), rd_ok (by omega) (by decide), g1, g2, pk_sub (by omega), Nat.add_sub_cancel_left]
        · show fX5_says_31 N (nI i) (nI n) kk t.1 t.2.1 t.2.2 = _
          unfold fX5_says_31
          rw [q2, if_pos (nI_le (Nat.le_refl _) (by omega)), q7]
    · rw [if_neg (show ¬ ((0 : Int32) ≤ y ∧ y ≤ 40) from hx), if_pos i00]
      by_cases q : y < 0
      · rw [if_pos q]; exact OkI.same h.rel _
      · rw [if_neg q, if_neg (show ¬ y ≤ (40 : Int32) from fun q2 => hx ⟨Int32.not_lt.mp q, q2⟩)]; exact OkI.same h.rel _
  · rw [p1, p2, cl_some, cl_some, if_pos i00, if_pos i00]
    exact OkI.same h.rel _
theorem ok_first {N : Nat} (hN : 2000 ≤ N) {A B : bw_M} (h : Rel A B) (x : Int32) : OkI (fX4_first N x A) (fX5_first N x B) := by
  obtain ⟨T, ds, ks, h⟩ := h.rl
  unfold fX4_first fX5_first
  rcases pipe_cases h x with ⟨i, hi, rfl, p1, p2⟩ | ⟨p1, p2⟩
  · have hp6 := h.p6
    obtain ⟨A1, B1, e1, e2, tr, k1, k2⟩ := tr_start hN h
    rw [p1, p2, cl_some, cl_some, if_neg i10, if_neg i10, e1, e2, cl_some, cl_some, mv_eq, mv_eq]
    unfold flX4_first_26 flX5_first_16
    refine lp_two (fun k s t => s.1 = nI (k + 1) ∧ t.1 = nI (k + 1) ∧ kpC A s.2 ∧ kpM B t.2 ∧ Tr s.2 t.2 T (s_it T (s_rep T ds) k)) OkI 40 ?_ ?_ 40 N N 0 _ _ (by omega) (by omega) (by omega) ⟨rfl, rfl, k1, k2, tr⟩
    · intro k s t hk ⟨q1, q2, q4, q5, q6⟩
      have hok := it_ok h.sok k
      obtain ⟨A2, B2, e3, e4, tr2, k3, k4⟩ := tr_blow hN (by omega) h.2.2.2.1 hok q6
      have hw := (s_hr_ok hok).1
      have eC : ∀ kk, fX4_first_26 N (nI i) kk s.1 s.2 = if bI ((s_who T (s_it T (s_rep T ds) k)).testBit i) = 0 then kk (nI (k + 2), A2) else some (nI (k + 1), A2) := by
        intro kk
        unfold fX4_first_26
        rw [q1, if_neg (show ¬ (40 : Int32) < nI (k + 1) from nI_nlt (a := 40) (by omega) (by omega)), e3, c2_some, isIn_eq (p31 hp6 hw) (by omega), cl_some, mv_eq, nI_1]
      have eM : ∀ kk, fX5_first_16 N (nI i) kk t.1 t.2 = if bI ((s_who T (s_it T (s_rep T ds) k)).testBit i) = 0 then kk (nI (k + 2), B2) else some (nI (k + 1), B2) := by
        intro kk
        unfold fX5_first_16
        rw [q2, if_neg (show ¬ (41 : Int32) ≤ nI (k + 1) from nI_ge (b := 41) (by omega) (by decide)), e4, c2_some, has_eq (p31 hp6 hw) (by omega), cl_some, mv_eq, nI_1]
      by_cases hb : bI ((s_who T (s_it T (s_rep T ds) k)).testBit i) = 0
      · left
        exact ⟨(nI (k + 2), A2), (nI (k + 2), B2), ⟨rfl, rfl, q4.tr k3, q5.tr k4, tr2⟩, fun kk => (eC kk).trans (if_pos hb), fun kk => (eM kk).trans (if_pos hb)⟩
      · right
        exact ⟨some (nI (k + 1), A2), some (nI (k + 1), B2), ⟨_, _, _, rfl, rfl, (h.kp (q4.tr k3) (q5.tr k4)).rel⟩, fun kk => (eC kk).trans (if_neg hb), fun kk => (eM kk).trans (if_neg hb)⟩
    · intro s t ⟨q1, q2, q4, q5, q6⟩
      refine ⟨some (-9, s.2), some (-9, t.2), ⟨_, _, _, rfl, rfl, (h.kp q4 q5).rel⟩, fun kk => ?_, fun kk => ?_⟩
      · show fX4_first_26 N (nI i) kk s.1 s.2 = _
        unfold fX4_first_26
        rw [q1, if_pos (show (40 : Int32) < nI 41 by decide)]
      · show fX5_first_16 N (nI i) kk t.1 t.2 = _
        unfold fX5_first_16
        rw [q2, if_pos (show (41 : Int32) ≤ nI 41 by decide)]
  · rw [p1, p2, cl_some, cl_some, if_pos i00, if_pos i00]
    exact OkI.same h.rel _
/-- least: with more air -/
theorem ok_least {N : Nat} (hN : 2000 ≤ N) {A B : bw_M} (h : Rel A B) (x : Int32) : OkI (fX4_least N x A) (fX5_least N x B) := by
  obtain ⟨T, ds, ks, h⟩ := h.rl
  unfold fX4_least fX5_least
  rcases pipe_cases h x with ⟨i, hi, rfl, p1, p2⟩ | ⟨p1, p2⟩
  · have hp6 := h.p6
    rw [p1, p2, cl_some, cl_some, if_neg i10, if_neg i10, mv_eq, mv_eq]
    unfold flX4_least_15 flX5_least_12
    generalize hS : s_rep T ds = S
    have hok := h.sok
    rw [hS] at hok
    obtain ⟨o1, o2, o3, o4, o5, o6⟩ := id hok
    have hair : ∀ {A' B' : bw_M}, kpC A A' → kpM B B' → A'.1 16 3 = nI S.1 := fun {A' B'} k1 _ => by
      rw [k1.1 16 (by decide) (by decide) (by decide), ← hS]; exact h.2.2.2.2.1.2.1.1
    -- one try of the model
    have tryM : ∀ (A' B' : bw_M) (m : Nat), kpC A A' → kpM B B' → m ≤ 60 → ∃ A2 B2, kpC A A2 ∧ kpM B B2 ∧ (∀ kk, fX5_least_12 N (nI i) kk (nI m) B' = if bI ((s_who T (min 60 (S.1 + m), S.2)).testBit i) = 0 then kk (nI (m + 1), B2) else some (nI m, B2)) ∧ (S.1 + m ≤ 60 → ∀ kk, fX4_least_15 N (nI i) kk (nI m) A' = if bI ((s_who T (min 60 (S.1 + m), S.2)).testBit i) = 0 then kk (nI (m + 1), A2) else some (nI m, A2)) := by
      intro A' B' m k1 k2 hm
      obtain ⟨A1, B1, e1, e2, tr, k3, k4⟩ := tr_start hN (h.kp k1 k2)
      rw [hS] at tr
      have a22 : A1.1 22 3 = nI S.1 := tr.2.1.1
      have b10 : B1.1 10 0 = nI S.1 := tr.2.2.2.1
      have tr1 := tr_air tr (min 60 (S.1 + m))
      have hok1 : s_ok T.1 40 (min 60 (S.1 + m), S.2) := ⟨Nat.min_le_left _ _, o2, o3, o4, o5, o6⟩
      obtain ⟨A2, B2, e3, e4, tr2, k5, k6⟩ := tr_blow hN (by omega) h.2.2.2.1 hok1 tr1
      have hw := (s_hr_ok hok1).1
      refine ⟨A2, B2, ((k1.tr k3).tr kpC_22).tr k5, ((k2.tr k4).tr kpM_10).tr k6, fun kk => ?_, fun hle kk => ?_⟩
      · unfold fX5_least_12
        rw [if_neg (show ¬ (61 : Int32) ≤ nI m from nI_ge (b := 61) (by omega) (by decide)), e2, cl_some, r17_0, b10, nI_add, lesser60 (by omega), cl_some, w17_0, e4, c2_some, has_eq (p31 hp6 hw) (by omega), cl_some, mv_eq, nI_1]
      · unfold fX4_least_15
        rw [hair k1 k2, nI_add, if_neg (show ¬ (60 : Int32) < nI (S.1 + m) from nI_nlt (a := 60) hle (by omega)), e1, cl_some, a22, nI_add, mv_eq]
        rw [Nat.min_eq_right hle] at e3
        rw [e3, c2_some, isIn_eq (by rw [← Nat.min_eq_right hle]; exact p31 hp6 hw) (by omega), cl_some, mv_eq, nI_1, Nat.min_eq_right hle]
    rcases lp_mid (b := fun kk w => fX4_least_15 N (nI i) kk w.1 w.2) (b' := fun kk w => fX5_least_12 N (nI i) kk w.1 w.2) (fun k s t => s.1 = nI k ∧ t.1 = nI k ∧ kpC A s.2 ∧ kpM B t.2 ∧ (k = 61 - S.1 → bI ((s_who T (60, S.2)).testBit i) = 0)) OkI (61 - S.1) (fun k s t hk hI => by
      obtain ⟨q1, q2, q4, q5, -⟩ := hI
      obtain ⟨A2, B2, k3, k4, eM, eC⟩ := tryM s.2 t.2 k q4 q5 (by omega)
      have eC := eC (by omega)
      by_cases hb : bI ((s_who T (min 60 (S.1 + k), S.2)).testBit i) = 0
      · left
        refine ⟨(nI (k + 1), A2), (nI (k + 1), B2), ⟨rfl, rfl, k3, k4, fun q => ?_⟩, fun kk => ?_, fun kk => ?_⟩
        · rw [show min 60 (S.1 + k) = 60 by omega] at hb
          exact hb
        · show fX4_least_15 N (nI i) kk s.1 s.2 = _
          rw [q1]; exact (eC kk).trans (if_pos hb)
        · show fX5_least_12 N (nI i) kk t.1 t.2 = _
          rw [q2]; exact (eM kk).trans (if_pos hb)
      · right
        refine ⟨some (nI k, A2), some (nI k, B2), ⟨_, A2, B2, rfl, rfl, (h.kp k3 k4).rel⟩, fun kk => ?_, fun kk => ?_⟩
        · show fX4_least_15 N (nI i) kk s.1 s.2 = _
          rw [q1]; exact (eC kk).trans (if_neg hb)
        · show fX5_least_12 N (nI i) kk t.1 t.2 = _
          rw [q2]; exact (eM kk).trans (if_neg hb)) (61 - S.1) N N 0 ((0 : Int32), A) ((0 : Int32), B) (by omega) (by omega) (by omega) ⟨rfl, rfl, kpC.rf _, kpM.rf _, fun q => by omega⟩ with hz | ⟨s, t, ⟨q1, q2, q4, q5, q6⟩, eC, eM⟩
    · exact hz
    · rw [eC, eM]
      have hb := q6 rfl
      obtain ⟨t', kt, ⟨r1, -, r2⟩, hkt⟩ := lp_inv (body := fun kk w => fX5_least_12 N (nI i) kk w.1 w.2) (fun k t => t.1 = nI k ∧ 60 ≤ S.1 + k ∧ kpM B t.2) 61 (fun k t hk hI => by
        obtain ⟨r1, r2⟩ := hI
        obtain ⟨r3, r2⟩ := r2
        obtain ⟨A2, B2, k3, k4, eM, -⟩ := tryM A t.2 k (kpC.rf A) r2 (by omega)
        refine ⟨(nI (k + 1), B2), ⟨rfl, by omega, k4⟩, fun kk => ?_⟩
        show fX5_least_12 N (nI i) kk t.1 t.2 = _
        rw [r1]
        refine (eM kk).trans (if_pos ?_)
        rw [Nat.min_eq_left r3]; exact hb) S.1 (N - (61 - S.1)) (61 - S.1) t (by omega) (by omega) ⟨q2, by omega, q5⟩
      rw [hkt]
      obtain ⟨f, hf⟩ : ∃ f, N - (61 - S.1) = f + 1 := ⟨N - (61 - S.1) - 1, by omega⟩
      rw [hf, bw_lp_s]
      refine ⟨-9, s.2, t'.2, ?_, ?_, (h.kp q4 r2).rel⟩
      · show fX4_least_15 N (nI i) _ s.1 s.2 = _
        unfold fX4_least_15
        rw [q1, hair q4 q5, nI_add, if_pos (show (60 : Int32) < nI (S.1 + (61 - S.1)) from nI_lt (a := 60) (by omega) (by omega))]
      · show fX5_least_12 N (nI i) kt t'.1 t'.2 = _
        unfold fX5_least_12
        rw [r1, if_pos (show (61 : Int32) ≤ nI 61 by decide)]
  · rw [p1, p2, cl_some, cl_some, if_pos i00, if_pos i00]
    exact OkI.same h.rel _
