/-! What is tried with changes nothing but the trial -/
def kqC (A A' : bw_M) : Prop := (∀ q, (q < 22 ∨ 27 < q) → A'.1 q = A.1 q) ∧ A'.2 = A.2
def kqM (B B' : bw_M) : Prop := (∀ q, q ≠ 10 → B'.1 q = B.1 q) ∧ B'.2 = B.2
theorem kqC.rf (A : bw_M) : kqC A A := ⟨fun _ _ => rfl, rfl⟩
theorem kqM.rf (B : bw_M) : kqM B B := ⟨fun _ _ => rfl, rfl⟩
theorem kqC.tr {A B C : bw_M} (h : kqC A B) (g : kqC B C) : kqC A C := ⟨fun q a => (g.1 q a).trans (h.1 q a), g.2.trans h.2⟩
theorem kqM.tr {A B C : bw_M} (h : kqM A B) (g : kqM B C) : kqM A C := ⟨fun q a => (g.1 q a).trans (h.1 q a), g.2.trans h.2⟩
theorem kqC.kp {A A' : bw_M} (h : kqC A A') : kpC A A' := ⟨fun q _ a _ => h.1 q a, by rw [h.2]⟩
theorem kqM.kp {B B' : bw_M} (h : kqM B B') : kpM B B' := ⟨fun q _ a _ => h.1 q a, fun f _ => by rw [h.1 0 (by decide)], by rw [h.2]⟩
theorem kqC_22 {A : bw_M} {f : Nat} {v : Int32} : kqC A (bw_pI A 22 f v) := ⟨fun q a => pI_ne (by omega), rfl⟩
theorem kqM_10 {B : bw_M} {f : Nat} {v : Int32} : kqM B (bw_pI B 10 f v) := ⟨fun q a => pI_ne a, rfl⟩
theorem tr_start_q {N : Nat} {A B : bw_M} {T : Tw} {ds : List Dd} {ks : Nat → Option (List Dd)} (hN : 2000 ≤ N) (h : Rl A B T ds ks) : ∃ A' B', fX3_become N 22 16 A = some A' ∧ fX5_layAside N B = some B' ∧ Tr A' B' T (s_rep T ds) ∧ kqC A A' ∧ kqM B B' := by
  obtain ⟨-, -, -, hT, ⟨b1, b2, b3⟩, -, ⟨m1, m2, m3, m4⟩, -⟩ := h
  obtain ⟨A', e, g1, g2, g3, g4⟩ := become_rep (x0 := 22) (x1 := 16) hN (by omega) hT.1 b1 b2
  refine ⟨A', _, e, aside_eq hN B, ⟨g1, g2, ?_, ?_⟩, ⟨fun q a => g3 q (by omega), g4⟩, ⟨fun q a => bw_pA_ne _ _ a, rfl⟩⟩
  · exact m1.of (by rw [bw_pA_ne _ _ (by decide)]) (fun q _ _ => bw_pA_ne _ _ (by omega))
  · obtain ⟨c1, c2, c3, c4, c5, c6⟩ := m2
    simp only [Nat.zero_add] at c1 c2 c3 c4 c5 c6
    unfold m_st
    simp only [Nat.zero_add]
    refine ⟨?_, ?_, ?_, ?_, ?_, fun i hi => ⟨?_, ?_⟩⟩
    · rw [aside_rd (by decide)]; exact c1
    · rw [aside_rd (by decide)]; exact c2
    · rw [aside_rd (by decide)]; exact c3
    · rw [aside_rd (by decide)]; exact c4
    · rw [aside_rd (by decide)]; exact c5
    · rw [aside_rd (by omega)]; exact (c6 i hi).1
    · rw [aside_rd (by omega)]; exact (c6 i hi).2
theorem tr_blow_q {N Bn : Nat} {A B : bw_M} {T : Tw} {S : Sd} (hN : 2000 ≤ N) (hB : Bn < 2 ^ 20) (hT : t_ok T) (hS : s_ok T.1 Bn S) (h : Tr A B T S) : ∃ A' B', fX3_blow N 22 A = some (nI (s_who T S), A') ∧ fX5_goes N 10 17 B = some (nI (s_who T S), B') ∧ Tr A' B' T (s_blow T S) ∧ kqC A A' ∧ kqM B B' := by
  obtain ⟨h1, h2, h3, h4⟩ := h
  obtain ⟨A', e1, g1, g2, g3, g4, g5⟩ := c_blow hN hB hT hS h1 h2
  obtain ⟨B', e2, k1, k2, k3⟩ := m_goes (q := 10) hN hB (by decide) hT hS h3 h4
  exact ⟨A', B', e1, e2, ⟨g1, g2, h3.of (by rw [k2 0 (by decide)]) (fun q _ _ => k2 q (by omega)), k1⟩, ⟨fun q a => g3 q (by omega) (by omega) (by omega), g5⟩, ⟨fun q a => k2 q a, k3⟩⟩
theorem like_q {N : Nat} (hN : 2000 ≤ N) {T : Tw} (hT : t_ok T) {r n : Nat} (hr : r < 6) (hn : n ≤ 10) (f : Nat → Int32) : ∀ (d k Bn : Nat) (A B : bw_M) (S : Sd) (fu fu' : Nat), k + d = n → d + 1 < fu → d < fu' → Bn + d < 2 ^ 20 → A.1 8 r = nI n → B.1 2 r = nI n → (∀ j, j < n → A.1 (2 + r) j = f j) → (∀ j, j < n → B.1 1 (40 * r + j) = f j) → s_ok T.1 Bn S → Tr A B T S → ∃ b A' B', kqC A A' ∧ kqM B B' ∧ bw_lp (fun kk w => fX4_trialSpeaksLike_4 N (nI r) kk w.1 w.2.1 w.2.2) fu (1, nI k, A) = some (bI b, A') ∧ bw_lp (fun kk w => fX5_goesAs_4 N (nI r) kk w.1 w.2.1 w.2.2) fu' (1, nI k, B) = some (bI b, B') ∧ (b = true → ∃ S', Tr A' B' T S' ∧ s_ok T.1 (Bn + d) S') := by
  intro d
  induction d with
  | zero =>
    intro k Bn A B S fu fu' hk hf hf' hB eA eB fA fB hS tr
    rw [Nat.add_zero] at hk
    subst hk
    match fu, fu', hf, hf' with
    | fu + 1, fu' + 1, _, _ =>
      refine ⟨true, A, B, kqC.rf A, kqM.rf B, ?_, ?_, fun _ => ⟨S, tr, hS⟩⟩
      · rw [bw_lp_s]
        show fX4_trialSpeaksLike_4 N (nI r) _ 1 (nI k) A = _
        unfold fX4_trialSpeaksLike_4 fX4_trialSpeaksLike_48
        rw [if_neg i10, rd_ok hr (by decide), eA, if_pos (nI_le (Nat.le_refl _) (by omega)), isb_1, ck_true]; rfl
      · rw [bw_lp_s]
        show fX5_goesAs_4 N (nI r) _ 1 (nI k) B = _
        unfold fX5_goesAs_4
        rw [rd_ok hr (by decide), eB, if_pos (nI_le (Nat.le_refl _) (by omega)), isb_1, ck_true]; rfl
  | succ d ih =>
    intro k Bn A B S fu fu' hk hf hf' hB eA eB fA fB hS tr
    match fu, fu', hf, hf' with
    | fu + 1, fu' + 1, hf, hf' =>
      obtain ⟨A2, B2, e3, e4, tr2, k3, k4⟩ := tr_blow_q hN (by omega) hT hS tr
      have gA : A2.1 8 = A.1 8 := k3.1 8 (by decide)
      have gA2 : A2.1 (2 + r) = A.1 (2 + r) := k3.1 (2 + r) (by omega)
      have gB : B2.1 2 = B.1 2 := k4.1 2 (by decide)
      have gB1 : B2.1 1 = B.1 1 := k4.1 1 (by decide)
      have eC : ∀ kk, fX4_trialSpeaksLike_4 N (nI r) kk 1 (nI k) A = if nI (s_who T S) = f k then kk (1, nI (k + 1), A2) else kk (0, nI (k + 1), A2) := by
        intro kk
        unfold fX4_trialSpeaksLike_4 fX4_trialSpeaksLike_41
        rw [if_neg i10, rd_ok hr (by decide), eA, if_neg (nI_ge (by omega) (by omega)), e3, c2_some, ra_ok hr (by decide), rd_ok (by omega) (by decide), gA2, fA k (by omega), mv_eq, mv_eq, nI_1]
      have eM : ∀ kk, fX5_goesAs_4 N (nI r) kk 1 (nI k) B = if nI (s_who T S) = f k then kk (1, nI (k + 1), B2) else kk (0, nI (k + 1), B2) := by
        intro kk
        unfold fX5_goesAs_4 fX5_goesAs_44 fX5_goesAs_45
        rw [rd_ok hr (by decide), eB, if_neg (nI_ge (by omega) (by omega)), if_neg i10, e4, c2_some, show (40 : Int32) = nI 40 from rfl, pk_mul, nI_add, rd_ok (by omega) (by decide), gB1, fB k (by omega), mv_eq, mv_eq, nI_1]
      by_cases hc : nI (s_who T S) = f k
      · obtain ⟨b, A', B', g1, g2, g3, g4, g5⟩ := ih (k + 1) (Bn + 1) A2 B2 (s_blow T S) fu fu' (by omega) (by omega) (by omega) (by omega) (by rw [gA]; exact eA) (by rw [gB]; exact eB) (fun j hj => by rw [gA2]; exact fA j hj) (fun j hj => by rw [gB1]; exact fB j hj) (s_hr_ok hS).2 tr2
        refine ⟨b, A', B', k3.tr g1, k4.tr g2, ?_, ?_, fun hb => ?_⟩
        · rw [bw_lp_s]
          show fX4_trialSpeaksLike_4 N (nI r) _ 1 (nI k) A = _
          rw [eC, if_pos hc]; exact g3
        · rw [bw_lp_s]
          show fX5_goesAs_4 N (nI r) _ 1 (nI k) B = _
          rw [eM, if_pos hc]; exact g4
        · obtain ⟨S', t1, t2⟩ := g5 hb
          exact ⟨S', t1, t2.mono (by omega)⟩
      · refine ⟨false, A2, B2, k3, k4, ?_, ?_, fun q => by cases q⟩
        · rw [bw_lp_s]
          show fX4_trialSpeaksLike_4 N (nI r) _ 1 (nI k) A = _
          rw [eC, if_neg hc]
          match fu, hf with
          | fu + 1, _ =>
            rw [bw_lp_s]
            show fX4_trialSpeaksLike_4 N (nI r) _ 0 (nI (k + 1)) A2 = _
            unfold fX4_trialSpeaksLike_4 fX4_trialSpeaksLike_48
            rw [if_pos i00, isb_0, ck_true]; rfl
        · rw [bw_lp_s]
          show fX5_goesAs_4 N (nI r) _ 1 (nI k) B = _
          rw [eM, if_neg hc]
          obtain ⟨kq, hkq⟩ := lp_for (body := fun kk w => fX5_goesAs_4 N (nI r) kk w.1 w.2.1 w.2.2) (fun j => ((0 : Int32), nI j, B2)) n (fun j hj kk => by
            show fX5_goesAs_4 N (nI r) kk 0 (nI j) B2 = _
            unfold fX5_goesAs_4 fX5_goesAs_44 fX5_goesAs_45
            rw [rd_ok hr (by decide), gB, eB, if_neg (nI_ge hj (by omega)), if_pos i00, mv_eq, nI_1]) d fu' (k + 1) (by omega) (by omega)
          rw [hkq]
          show fX5_goesAs_4 N (nI r) kq 0 (nI n) B2 = _
          unfold fX5_goesAs_4
          rw [rd_ok hr (by decide), gB, eB, if_pos (nI_le (Nat.le_refl _) (by omega)), isb_0, ck_true]; rfl
theorem like_row_q {N : Nat} (hN : 2000 ≤ N) {T : Tw} (hT : t_ok T) {r n Bn : Nat} (hr : r < 6) (hn : n ≤ 10) {A B : bw_M} {S : Sd} (hB : Bn < 2 ^ 19) (eA : A.1 8 r = nI n) (eB : B.1 2 r = nI n) (hf : ∀ j, j < 40 → A.1 (2 + r) j = B.1 1 (40 * r + j)) (hS : s_ok T.1 Bn S) (tr : Tr A B T S) : ∃ b A' B', kqC A A' ∧ kqM B B' ∧ fX4_trialSpeaksLike N (nI r) A = some (bI b, A') ∧ fX5_goesAs N (nI r) B = some (bI b, B') ∧ (b = true → ∃ S', Tr A' B' T S' ∧ s_ok T.1 (Bn + n) S') := by
  obtain ⟨b, A', B', g1, g2, g3, g4, g5⟩ := like_q hN hT hr hn (fun j => A.1 (2 + r) j) n 0 Bn A B S N N (by omega) (by omega) (by omega) (by omega) eA eB (fun j _ => rfl) (fun j hj => (hf j (by omega)).symm) hS tr
  exact ⟨b, A', B', g1, g2, g3, g4, g5⟩
theorem ok_strokes {N : Nat} (hN : 2000 ≤ N) {A B : bw_M} (h : Rel A B) (x : Int32) : OkI (fX4_strokes N x A) (fX5_strokes N x B) := by
  obtain ⟨T, ds, ks, h⟩ := h.rl
  unfold fX4_strokes fX5_strokes
  rcases hear_all hN h x with ⟨r, n, hr, n1, n2, rfl, hp, e, z1, z2⟩ | ⟨z, A', B', hz, hR, z1, z2⟩
  · rw [z1, z2, c2_some, c2_some, if_pos i00, if_pos i00, mv_eq, mv_eq, mv_eq, mv_eq]
    obtain ⟨a1, -, a3⟩ := h.1 r hr
    unfold flX4_strokes_17 flX5_strokes_17
    refine lp_two (fun k s t => s.1 = t.1 ∧ s.2.1 = nI k ∧ t.2.1 = nI k ∧ kqC A s.2.2 ∧ kqM B t.2.2) OkI 10 ?_ ?_ 10 N N 0 _ _ (by omega) (by omega) (by omega) ⟨rfl, rfl, rfl, kqC.rf _, kqM.rf _⟩
    · intro k s t hk ⟨q0, q1, q2, q4, q5⟩
      left
      obtain ⟨A1, B1, e1, e2, tr, k1, k2⟩ := tr_start_q hN (h.kp q4.kp q5.kp)
      have kC := (q4.tr k1).tr (kqC_22 (f := 4) (v := nI k))
      have kM := (q5.tr k2).tr (kqM_10 (f := 1) (v := nI k))
      obtain ⟨b, A2, B2, k3, k4, e3, e4, -⟩ := like_row_q hN h.2.2.2.1 hr n2 (Bn := 40) (by decide) (by rw [kC.1 8 (by decide)]; exact e) (by rw [kM.1 2 (by decide), ← a1]; exact e) (fun j hj => by rw [kC.1 (2 + r) (by omega), kM.1 1 (by decide)]; exact a3 j hj) (stroke_ok h.sok (show k ≤ 9 by omega)) (tr_stroke tr k)
      refine ⟨(if b = true then s.1 ||| (1 <<< (nI k &&& 31)) else s.1, nI (k + 1), A2), (if b = true then s.1 ||| (1 <<< (nI k &&& 31)) else s.1, nI (k + 1), B2), ⟨rfl, rfl, rfl, kC.tr k3, kM.tr k4⟩, fun kk => ?_, fun kk => ?_⟩
      · show fX4_strokes_17 N (nI r) kk s.1 s.2.1 s.2.2 = _
        unfold fX4_strokes_17 fX4_strokes_59
        rw [q1, if_neg (show ¬ (10 : Int32) ≤ nI k from nI_ge (b := 10) hk (by decide)), e1, cl_some, mv_eq, e3, c2_some, mv_eq, mv_eq, mv_eq, nI_1]
        cases b with
        | true => rw [if_neg (show ¬ bI true = 0 by decide), if_pos rfl]
        | false => rw [if_pos bI_f, if_neg (by decide)]
      · show fX5_strokes_17 N (nI r) kk t.1 t.2.1 t.2.2 = _
        unfold fX5_strokes_17 fX5_strokes_53
        rw [q2, if_neg (show ¬ (10 : Int32) ≤ nI k from nI_ge (b := 10) hk (by decide)), e2, cl_some, w17_1, e4, c2_some, mv_eq, mv_eq, mv_eq, mv_eq, nI_1, ← q0]
        cases b with
        | true => rw [if_neg (show ¬ bI true = 0 by decide), if_pos rfl]
        | false => rw [if_pos bI_f, if_neg (by decide), show s.1 ||| 0 = s.1 by simp]
    · intro s t ⟨q0, q1, q2, q4, q5⟩
      refine ⟨some (s.1, s.2.2), some (t.1, t.2.2), ⟨s.1, s.2.2, t.2.2, rfl, by rw [q0], (h.kp q4.kp q5.kp).rel⟩, fun kk => ?_, fun kk => ?_⟩
      · show fX4_strokes_17 N (nI r) kk s.1 s.2.1 s.2.2 = _
        unfold fX4_strokes_17
        rw [q1, if_pos (show (10 : Int32) ≤ nI 10 by decide)]
      · show fX5_strokes_17 N (nI r) kk t.1 t.2.1 t.2.2 = _
        unfold fX5_strokes_17
        rw [q2, if_pos (show (10 : Int32) ≤ nI 10 by decide)]
  · rw [z1, z2, c2_some, c2_some, if_neg hz, if_neg hz]
    exact OkI.same hR _
/-- a number as it is told in full -/
theorem gd1 {N c : Nat} (hN : 2000 ≤ N) (hc : c < 2 ^ 31) : fX4_greatestDivisor N (nI c).toInt64 1 = some 1 := by
  unfold fX4_greatestDivisor flX4_greatestDivisor_9
  obtain ⟨f, rfl⟩ : ∃ f, N = f + 2 := ⟨N - 2, by omega⟩
  rw [mv_eq, bw_lp_s, nI_l hc]
  have e0 : lN c - lN c / 1 * 1 = 0 := by
    have := pk_lRem (a := c) (b := 1) (by omega) (by decide) (by decide)
    rw [Nat.mod_one] at this
    exact this
  have e1 : ∀ kk, fX4_greatestDivisor_9 (f + 2) (lN c) 1 kk (lN c) 1 0 = kk (1, 0, 0 + 1) := by
    intro kk
    unfold fX4_greatestDivisor_9
    rw [if_neg (show ¬ (1000 : Int32) ≤ 0 by decide), if_neg (show ¬ lg_cmp 1 0 = 0 by decide), show decide (¬ (1 : Int64) = 0) = true by decide, ck_true, mv_eq, mv_eq, e0]
  have e2 : ∀ kk, fX4_greatestDivisor_9 (f + 2) (lN c) 1 kk 1 0 (0 + 1) = some 1 := by
    intro kk
    unfold fX4_greatestDivisor_9 fX4_greatestDivisor_45
    rw [if_neg (show ¬ (1000 : Int32) ≤ 0 + 1 by decide), if_pos (show lg_cmp 0 0 = 0 by decide)]
  show fX4_greatestDivisor_9 (f + 2) (lN c) 1 _ (lN c) 1 0 = _
  rw [e1, bw_lp_s]
  exact e2 _
theorem share1 {N c : Nat} (hN : 2000 ≤ N) (hc : c < 2 ^ 31) (A : bw_M) : fX4_tellShare N (nI c).toInt64 1 A = some (bw_pL (bw_pL A 15 (nI c).toInt64) 16 1) := by
  unfold fX4_tellShare fX4_tellShare_30
  rw [gd1 hN hc, cl_some, if_neg (show ¬ lg_cmp 1 0 ≤ 0 by decide), show decide (¬ (1 : Int64) = 0) = true by decide, ck_true, mv_eq, ck_true, mv_eq, nI_l hc]
  rw [show lN c / 1 = lN c by
    have := pk_lDiv (a := c) (b := 1) (by omega) (by decide) (by decide)
    rw [Nat.div_one] at this
    exact this, show (1 : Int64) / 1 = 1 by decide]
theorem Rl.shr {A B : bw_M} {T : Tw} {ds : List Dd} {ks : Nat → Option (List Dd)} (h : Rl A B T ds ks) (u w : Int64) : Rl (bw_pL (bw_pL A 15 u) 16 w) (bw_pL (bw_pL B 5 u) 6 w) T ds ks := by
  obtain ⟨h1, h2, ⟨t1, t2, t3, t4, t5⟩, h4⟩ := h
  exact ⟨h1.of (fun _ _ _ => rfl) rfl rfl, h2.of (fun _ _ _ => rfl) rfl rfl, ⟨t1, by rw [pL_n (by decide), pL_s, pL_n (by decide), pL_s], by rw [pL_s, pL_s], t4, t5⟩, h4.of (fun _ _ _ => rfl) (fun _ _ _ => rfl) rfl rfl (fun _ _ _ => rfl) rfl rfl⟩
theorem ok_leaks {N : Nat} (hN : 2000 ≤ N) {A B : bw_M} (h : Rel A B) (x : Int32) : OkI (fX4_leaks N x A) (fX5_leaks N x B) := by
  obtain ⟨T, ds, ks, h⟩ := h.rl
  unfold fX4_leaks fX5_leaks
  rcases hear_all hN h x with ⟨r, n, hr, n1, n2, rfl, hp, e, z1, z2⟩ | ⟨z, A', B', hz, hR, z1, z2⟩
  · have hp6 := h.p6
    obtain ⟨w1, w2⟩ := pw6 hp6
    rw [z1, z2, c2_some, c2_some, if_pos i00, if_pos i00]
    simp only [mv_eq]
    obtain ⟨a1, -, a3⟩ := h.1 r hr
    unfold flX4_leaks_21 flX5_leaks_21
    refine lp_two (fun k s t => s.1 = t.1 ∧ (∃ c, s.1 = nI c ∧ c ≤ k) ∧ s.2.1 = t.2.1 ∧ s.2.2.1 = nI k ∧ t.2.2.1 = nI k ∧ kqC A s.2.2.2 ∧ kqM B t.2.2.2) OkI (2 ^ T.1) ?_ ?_ (2 ^ T.1) N N 0 _ _ (by omega) (by omega) (by omega) ⟨rfl, ⟨0, rfl, Nat.le_refl _⟩, rfl, rfl, rfl, kqC.rf _, kqM.rf _⟩
    · intro k s t hk ⟨q0, ⟨c, qc, qc2⟩, q3, q1, q2, q4, q5⟩
      left
      have hR := h.kp q4.kp q5.kp
      obtain ⟨A1, B1, e1, e2, tr, k1, k2⟩ := tr_start_q hN hR
      have kC := (q4.tr k1).tr (kqC_22 (f := 7) (v := nI k))
      have kM := (q5.tr k2).tr (kqM_10 (f := 4) (v := nI k))
      obtain ⟨b, A2, B2, k3, k4, e3, e4, -⟩ := like_row_q hN h.2.2.2.1 hr n2 (Bn := 40) (by decide) (by rw [kC.1 8 (by decide)]; exact e) (by rw [kM.1 2 (by decide), ← a1]; exact e) (fun j hj => by rw [kC.1 (2 + r) (by omega), kM.1 1 (by decide)]; exact a3 j hj) (leak_ok h.sok hk) (tr_leak tr k)
      have lt1 : ¬ nI (2 ^ T.1 - 1) < nI k := nI_nlt (by omega) (by omega)
      have lt2 : ¬ nI (2 ^ T.1) ≤ nI k := nI_ge hk (by omega)
      refine ⟨(if b = true then nI (c + 1) else nI c, if b = true then (if s.2.1 = -9 then nI k else s.2.1) else s.2.1, nI (k + 1), A2), (if b = true then nI (c + 1) else nI c, if b = true then (if s.2.1 = -9 then nI k else s.2.1) else s.2.1, nI (k + 1), B2), ⟨rfl, ?_, rfl, rfl, rfl, kC.tr k3, kM.tr k4⟩, fun kk => ?_, fun kk => ?_⟩
      · cases b with
        | true => exact ⟨c + 1, rfl, by omega⟩
        | false => exact ⟨c, rfl, by omega⟩
      · show fX4_leaks_21 N (nI r) kk s.1 s.2.1 s.2.2.1 s.2.2.2 = _
        unfold fX4_leaks_21 fX4_leaks_60 fX4_leaks_62 fX4_leakingFits
        rw [all_eq hp6 hR.eA, cl_some, q1, if_neg lt1, e1, cl_some, mv_eq, e3, c2_some, isb_bI, ck_true, c2_some, qc]
        simp only [mv_eq, nI_1]
        cases b with
        | true =>
          rw [if_neg (show ¬ bI true = 0 by decide)]
          simp only [if_pos]
          split <;> rfl
        | false =>
          rw [if_pos bI_f]
          simp only [if_neg (show ¬ (false = true) by decide)]
      · show fX5_leaks_21 N (nI r) kk t.1 t.2.1 t.2.2.1 t.2.2.2 = _
        unfold fX5_leaks_21 fX5_leaks_59 fX5_leaks_61 fX5_mayLeak
        rw [hR.eB, shlI _ hp6, q2, if_neg lt2, e2, cl_some, w17_4, e4, c2_some, isb_bI, ck_true, c2_some, ← q0, qc, ← q3]
        simp only [mv_eq, nI_1]
        cases b with
        | true =>
          rw [if_neg (show ¬ bI true = 0 by decide)]
          simp only [if_pos]
          split <;> rfl
        | false =>
          rw [if_pos bI_f]
          simp only [if_neg (show ¬ (false = true) by decide)]
    · intro s t ⟨q0, ⟨c, qc, qc2⟩, q3, q1, q2, q4, q5⟩
      have hR := h.kp q4.kp q5.kp
      refine ⟨some (1, bw_pI (bw_pL (bw_pL s.2.2.2 15 (nI c).toInt64) 16 1) 0 14 s.2.1), some (1, bw_pI (bw_pL (bw_pL t.2.2.2 5 (nI c).toInt64) 6 1) 0 4 t.2.1), ?_, fun kk => ?_, fun kk => ?_⟩
      · rw [q3]
        exact ⟨_, _, _, rfl, rfl, ((hR.shr _ _).told _).rel⟩
      · show fX4_leaks_21 N (nI r) kk s.1 s.2.1 s.2.2.1 s.2.2.2 = _
        unfold fX4_leaks_21 fX4_tell
        rw [all_eq hp6 hR.eA, cl_some, q1, if_pos (nI_lt (by omega) (by omega)), qc, share1 hN (by omega), cl_some, mv_eq, c2_some]
      · show fX5_leaks_21 N (nI r) kk t.1 t.2.1 t.2.2.1 t.2.2.2 = _
        unfold fX5_leaks_21 fX5_counted fX5_answer
        rw [hR.eB, shlI _ hp6, q2, if_pos (nI_le (Nat.le_refl _) (by omega)), ← q0, qc, mv_eq, mv_eq, mv_eq, c2_some, c2_some]
  · rw [z1, z2, c2_some, c2_some, if_neg hz, if_neg hz]
    exact OkI.same hR _
