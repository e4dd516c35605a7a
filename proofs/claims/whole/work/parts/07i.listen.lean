/-! listen, kinds -/
def klC (A A' : bw_M) : Prop := (∀ q, (q < 22 ∨ 27 < q) → q ≠ 41 → A'.1 q = A.1 q) ∧ A'.2 = A.2
def klM (B B' : bw_M) : Prop := (∀ q, q ≠ 10 → q ≠ 16 → B'.1 q = B.1 q) ∧ B'.2 = B.2
theorem klC.kp {A A' : bw_M} (h : klC A A') : kpC A A' := ⟨fun q _ a b => h.1 q a (by omega), by rw [h.2]⟩
theorem klM.kp {B B' : bw_M} (h : klM B B') : kpM B B' := ⟨fun q _ a b => h.1 q a (by omega), fun f _ => by rw [h.1 0 (by decide) (by decide)], by rw [h.2]⟩
theorem klC.tr {A B C : bw_M} (h : klC A B) (g : kqC B C) : klC A C := ⟨fun q a b => (g.1 q a).trans (h.1 q a b), g.2.trans h.2⟩
theorem klM.tr {A B C : bw_M} (h : klM A B) (g : kqM B C) : klM A C := ⟨fun q a b => (g.1 q a).trans (h.1 q a b), g.2.trans h.2⟩
def tb (w i : Nat) : Nat := if w.testBit i = true then 1 else 0
theorem tal_C {N p w : Nat} (hN : 2000 ≤ N) {A : bw_M} (hp : p ≤ 6) (eA : A.1 16 0 = nI p) (hw : w < 2 ^ 31) {ta : Nat → Nat} (ht : ∀ i, i < p → A.1 41 i = nI (ta i)) (x y z : Int32) : ∃ A', (∀ k12, flX4_tallyNextSpeakers_47 N x k12 y z (nI w) N (0, A) = k12 (y, z + 1, A')) ∧ (∀ i, i < p → A'.1 41 i = nI (ta i + tb w i)) ∧ (∀ q, q ≠ 41 → A'.1 q = A.1 q) ∧ A'.2 = A.2 := by
  have key : ∀ n, n ≤ p → ∃ A', (∀ i, i < p → A'.1 41 i = nI (ta i + if i < n then tb w i else 0)) ∧ (∀ q, q ≠ 41 → A'.1 q = A.1 q) ∧ A'.2 = A.2 ∧ ∀ (k12 : Int32 × Int32 × bw_M → Option (Int32 × bw_M)) fu, n < fu → flX4_tallyNextSpeakers_47 N x k12 y z (nI w) fu (0, A) = flX4_tallyNextSpeakers_47 N x k12 y z (nI w) (fu - n) (nI n, A') := by
    intro n
    induction n with
    | zero => intro _; exact ⟨A, fun i hi => by rw [if_neg (by omega)]; exact ht i hi, fun _ _ => rfl, rfl, fun _ _ _ => rfl⟩
    | succ n ih =>
      intro hn
      obtain ⟨A', g1, g2, g3, g4⟩ := ih (by omega)
      refine ⟨bw_pI A' 41 n (nI (ta n + tb w n)), fun i hi => ?_, fun q hq => by rw [pI_ne hq]; exact g2 q hq, g3, fun k12 fu hf => ?_⟩
      · rw [pI_rd]
        by_cases e : i = n
        · rw [if_pos e, if_pos (by omega), e]
        · rw [if_neg e, g1 i hi]
          by_cases e2 : i < n
          · rw [if_pos e2, if_pos (by omega)]
          · rw [if_neg e2, if_neg (by omega)]
      · rw [g4 k12 fu (by omega)]
        obtain ⟨f, hf'⟩ : ∃ f, fu - n = f + 1 := ⟨fu - n - 1, by omega⟩
        rw [hf', show fu - (n + 1) = f by omega]
        unfold flX4_tallyNextSpeakers_47
        rw [bw_lp_s]
        have gn : A'.1 41 n = nI (ta n) := by rw [g1 n (by omega), if_neg (Nat.lt_irrefl n)]; rfl
        have st : ∀ kk, fX4_tallyNextSpeakers_47 N x k12 kk y z (nI w) (nI n) A' = kk (nI (n + 1), bw_pI A' 41 n (nI (ta n + tb w n))) := by
          intro kk
          unfold fX4_tallyNextSpeakers_47 fX4_tallyNextSpeakers_82
          rw [g2 16 (by decide), eA, if_neg (nI_ge (show n < p by omega) (by omega)), rd_ok (by omega) (by decide), isIn_eq hw (by omega), cl_some, gn, wr_ok (by omega) (by decide), wr_ok (by omega) (by decide)]
          simp only [mv_eq, nI_1]
          unfold tb
          cases w.testBit n with
          | false => rw [if_pos bI_f, if_neg (by decide), show nI (ta n) + (0 : Int32) = nI (ta n + 0) from nI_add _ 0]
          | true => rw [if_neg (show ¬ bI true = 0 by decide), if_pos rfl]
        exact st _
  obtain ⟨A', g1, g2, g3, g4⟩ := key p (Nat.le_refl _)
  refine ⟨A', fun k12 => ?_, fun i hi => by rw [g1 i hi, if_pos hi], g2, g3⟩
  rw [g4 k12 N (by omega)]
  obtain ⟨f, hf'⟩ : ∃ f, N - p = f + 1 := ⟨N - p - 1, by omega⟩
  rw [hf']
  unfold flX4_tallyNextSpeakers_47
  rw [bw_lp_s]
  have st : ∀ kk, fX4_tallyNextSpeakers_47 N x k12 kk y z (nI w) (nI p) A' = k12 (y, z + 1, A') := by
    intro kk
    unfold fX4_tallyNextSpeakers_47 fX4_tallyNextSpeakers_90
    rw [g2 16 (by decide), eA, if_pos (nI_le (Nat.le_refl _) (by omega)), mv_eq]
  exact st _
theorem tal_M {N p w : Nat} (hN : 2000 ≤ N) {A : bw_M} (hp : p ≤ 6) (eA : A.1 0 9 = nI p) (hw : w < 2 ^ 31) {ta : Nat → Nat} (ht : ∀ i, i < p → A.1 16 i = nI (ta i)) (x y z : Int32) : ∃ A', (∀ k43, flX5_listen_80 N x k43 y z (nI w) N (0, A) = k43 (y, z + 1, A')) ∧ (∀ i, i < p → A'.1 16 i = nI (ta i + tb w i)) ∧ (∀ q, q ≠ 16 → A'.1 q = A.1 q) ∧ A'.2 = A.2 := by
  have key : ∀ n, n ≤ p → ∃ A', (∀ i, i < p → A'.1 16 i = nI (ta i + if i < n then tb w i else 0)) ∧ (∀ q, q ≠ 16 → A'.1 q = A.1 q) ∧ A'.2 = A.2 ∧ ∀ (k43 : Int32 × Int32 × bw_M → Option (Int32 × bw_M)) fu, n < fu → flX5_listen_80 N x k43 y z (nI w) fu (0, A) = flX5_listen_80 N x k43 y z (nI w) (fu - n) (nI n, A') := by
    intro n
    induction n with
    | zero => intro _; exact ⟨A, fun i hi => by rw [if_neg (by omega)]; exact ht i hi, fun _ _ => rfl, rfl, fun _ _ _ => rfl⟩
    | succ n ih =>
      intro hn
      obtain ⟨A', g1, g2, g3, g4⟩ := ih (by omega)
      refine ⟨bw_pI A' 16 n (nI (ta n + tb w n)), fun i hi => ?_, fun q hq => by rw [pI_ne hq]; exact g2 q hq, g3, fun k43 fu hf => ?_⟩
      · rw [pI_rd]
        by_cases e : i = n
        · rw [if_pos e, if_pos (by omega), e]
        · rw [if_neg e, g1 i hi]
          by_cases e2 : i < n
          · rw [if_pos e2, if_pos (by omega)]
          · rw [if_neg e2, if_neg (by omega)]
      · rw [g4 k43 fu (by omega)]
        obtain ⟨f, hf'⟩ : ∃ f, fu - n = f + 1 := ⟨fu - n - 1, by omega⟩
        rw [hf', show fu - (n + 1) = f by omega]
        unfold flX5_listen_80
        rw [bw_lp_s]
        have gn : A'.1 16 n = nI (ta n) := by rw [g1 n (by omega), if_neg (Nat.lt_irrefl n)]; rfl
        have st : ∀ kk, fX5_listen_80 N x k43 kk y z (nI w) (nI n) A' = kk (nI (n + 1), bw_pI A' 16 n (nI (ta n + tb w n))) := by
          intro kk
          unfold fX5_listen_80
          rw [g2 0 (by decide), eA, if_neg (nI_ge (show n < p by omega) (by omega)), rd_ok (by omega) (by decide), gn, wr_ok (by omega) (by decide), bitB hw (by omega)]
          simp only [mv_eq, nI_1]
          unfold tb
          cases w.testBit n with
          | false => rw [if_neg (by decide), show nI (ta n) + bI false = nI (ta n + 0) from nI_add _ 0]
          | true => rw [if_pos rfl, show nI (ta n) + bI true = nI (ta n + 1) from nI_1 _]
        exact st _
  obtain ⟨A', g1, g2, g3, g4⟩ := key p (Nat.le_refl _)
  refine ⟨A', fun k43 => ?_, fun i hi => by rw [g1 i hi, if_pos hi], g2, g3⟩
  rw [g4 k43 N (by omega)]
  obtain ⟨f, hf'⟩ : ∃ f, N - p = f + 1 := ⟨N - p - 1, by omega⟩
  rw [hf']
  unfold flX5_listen_80
  rw [bw_lp_s]
  have st : ∀ kk, fX5_listen_80 N x k43 kk y z (nI w) (nI p) A' = k43 (y, z + 1, A') := by
    intro kk
    unfold fX5_listen_80 fX5_listen_112
    rw [g2 0 (by decide), eA, if_pos (nI_le (Nat.le_refl _) (by omega)), mv_eq]
  exact st _
theorem tb_le (w i : Nat) : tb w i ≤ 1 := by unfold tb; split <;> omega
theorem gp_C {A : bw_M} {i t c : Nat} (hi : i < 6) (e : A.1 41 i = nI t) (ht : t ≤ c) (hc : c < 2 ^ 30) : fX4_greaterPart (nI i) (nI c) A = some (nI (max t (c - t))) := by
  unfold fX4_greaterPart
  rw [rd_ok hi (by decide), rd_ok hi (by decide), e, pk_sub ht]
  by_cases q : t < c - t
  · rw [if_pos (nI_lt q (by omega)), Nat.max_eq_right (by omega)]
  · rw [if_neg (nI_nlt (by omega) (by omega)), Nat.max_eq_left (by omega)]
theorem ok_listen {N : Nat} (hN : 2000 ≤ N) {A B : bw_M} (h : Rel A B) (x : Int32) : OkI (fX4_listen N x A) (fX5_listen N x B) := by
  obtain ⟨T, ds, ks, h⟩ := h.rl
  unfold fX4_listen fX5_listen
  rcases hear_all hN h x with ⟨r, n, hr, n1, n2, rfl, hp, e, z1, z2⟩ | ⟨z, A', B', hz, hR, z1, z2⟩
  · have hp6 := h.p6
    obtain ⟨w1, w2⟩ := pw6 hp6
    rw [z1, z2, c2_some, c2_some, if_pos i00, if_pos i00, mv_eq, mv_eq]
    obtain ⟨a1, -, a3⟩ := h.1 r hr
    -- the model's says, emptied
    unfold flX5_listen_17
    obtain ⟨s', k, hI, hk⟩ := lp_inv (body := fun kk w => fX5_listen_17 N (nI r) kk 0 w.1 w.2) (fun i s => s.1 = nI i ∧ (∀ j, j < i → s.2.1 16 j = nI 0) ∧ (∀ q, q ≠ 16 → s.2.1 q = B.1 q) ∧ s.2.2 = B.2) T.1 (fun i s hi hI => by
      obtain ⟨s1, M'⟩ := s
      obtain ⟨q1, q2, q3, q4⟩ := hI
      simp only at q1 q2 q3 q4
      subst q1
      refine ⟨(nI (i + 1), bw_pI M' 16 i 0), ⟨rfl, fun j hj => ?_, fun q hq => by simp only; rw [pI_ne hq]; exact q3 q hq, q4⟩, fun kk => ?_⟩
      · simp only
        rw [pI_rd]
        by_cases e9 : j = i
        · rw [if_pos e9]; rfl
        · rw [if_neg e9]; exact q2 j (by omega)
      · show fX5_listen_17 N (nI r) kk 0 (nI i) M' = _
        unfold fX5_listen_17
        rw [q3 0 (by decide), h.eB, if_neg (nI_ge hi (by omega)), wr_ok (by omega) (by decide), mv_eq, nI_1]) T.1 N 0 (0, B) (by omega) (by omega) ⟨rfl, fun j hj => by omega, fun _ _ => rfl, rfl⟩
    obtain ⟨s1, B1⟩ := s'
    obtain ⟨q1, q2, q3, q4⟩ := hI
    simp only at q1 q2 q3 q4
    subst q1
    rw [hk]
    unfold fX5_listen_17
    simp only
    rw [q3 0 (by decide), h.eB, if_pos (nI_le (Nat.le_refl _) (by omega)), mv_eq]
    clear hk
    -- the class's tally, emptied
    unfold fX4_tallyNextSpeakers
    rw [fillI_eq (by decide) (by omega), cl_some, mv_eq, mv_eq]
    generalize hA1 : bw_pA A 41 (flF (A.1 41) 0 6 0) = A1
    have kC1 : klC A A1 := by rw [← hA1]; exact ⟨fun q _ b => bw_pA_ne _ _ b, rfl⟩
    have kM1 : klM B B1 := ⟨fun q _ b => q3 q b, q4⟩
    have t0 : ∀ i, i < T.1 → A1.1 41 i = nI 0 ∧ B1.1 16 i = nI 0 := fun i hi => ⟨by rw [← hA1, bw_pA_self, flF_in (by omega)]; rfl, q2 i hi⟩
    unfold flX4_tallyNextSpeakers_12 flX5_listen_43
    rcases lp_mid (b := fun kk w => fX4_tallyNextSpeakers_12 N (nI r) kk w.1 w.2.1 w.2.2) (b' := fun kk w => fX5_listen_43 N (nI r) kk w.1 w.2.1 w.2.2) (fun k s t => s.2.1 = nI k ∧ t.2.1 = nI k ∧ klC A s.2.2 ∧ klM B t.2.2 ∧ ∃ c ta, s.1 = nI c ∧ t.1 = nI c ∧ c ≤ k ∧ ∀ i, i < T.1 → s.2.2.1 41 i = nI (ta i) ∧ t.2.2.1 16 i = nI (ta i) ∧ ta i ≤ c) (fun _ _ => False) (2 ^ T.1) (fun k s t hk hI => by
      obtain ⟨q1, q2, q4, q5, c, ta, qc1, qc2, qc3, qt⟩ := hI
      left
      have hR := h.kp q4.kp q5.kp
      obtain ⟨A2, B2, e1, e2, tr, k1, k2⟩ := tr_start_q hN hR
      have kC := (q4.tr k1).tr (kqC_22 (f := 7) (v := nI k))
      have kM := (q5.tr k2).tr (kqM_10 (f := 4) (v := nI k))
      obtain ⟨b, A3, B3, k3, k4, e3, e4, e5⟩ := like_row_q hN h.2.2.2.1 hr n2 (Bn := 40) (by decide) (by rw [kC.1 8 (by decide) (by decide)]; exact e) (by rw [kM.1 2 (by decide) (by decide), ← a1]; exact e) (fun j hj => by rw [kC.1 (2 + r) (by omega) (by omega), kM.1 1 (by decide) (by decide)]; exact a3 j hj) (leak_ok h.sok hk) (tr_leak tr k)
      have lt1 : ¬ nI (2 ^ T.1 - 1) < nI k := nI_nlt (by omega) (by omega)
      have lt2 : ¬ nI (2 ^ T.1) ≤ nI k := nI_ge hk (by omega)
      have cC3 := ((k1.tr (kqC_22 (f := 7) (v := nI k))).tr k3)
      have cM3 := ((k2.tr (kqM_10 (f := 4) (v := nI k))).tr k4)
      cases b with
      | false =>
        refine ⟨(nI c, nI (k + 1), A3), (nI c, nI (k + 1), B3), ⟨rfl, rfl, q4.tr cC3, q5.tr cM3, c, ta, rfl, rfl, by omega, fun i hi => ?_⟩, fun kk => ?_, fun kk => ?_⟩
        · simp only
          rw [cC3.1 41 (by decide), cM3.1 16 (by decide)]; exact qt i hi
        · show fX4_tallyNextSpeakers_12 N (nI r) kk s.1 s.2.1 s.2.2 = _
          unfold fX4_tallyNextSpeakers_12 fX4_tallyNextSpeakers_90 fX4_leakingFits
          rw [all_eq hp6 hR.eA, cl_some, q1, if_neg lt1, e1, cl_some, mv_eq, e3, c2_some, isb_bI, ck_true, c2_some, if_pos bI_f, mv_eq, nI_1, qc1]
        · show fX5_listen_43 N (nI r) kk t.1 t.2.1 t.2.2 = _
          unfold fX5_listen_43 fX5_listen_112 fX5_mayLeak
          rw [hR.eB, shlI _ hp6, q2, if_neg lt2, e2, cl_some, w17_4, e4, c2_some, isb_bI, ck_true, c2_some, if_pos bI_f, mv_eq, nI_1, qc2]
      | true =>
        obtain ⟨S', tr3, hS'⟩ := e5 rfl
        obtain ⟨A4, B4, e6, e7, tr4, k5, k6⟩ := tr_blow_q hN (by omega) h.2.2.2.1 hS' tr3
        have hw := (s_hr_ok hS').1
        have cC4 := cC3.tr k5
        have cM4 := cM3.tr k6
        have hR4 := h.kp (q4.tr cC4).kp (q5.tr cM4).kp
        obtain ⟨A5, f1, f2, f3, f4⟩ := tal_C hN (A := A4) hp6 hR4.eA (p31 hp6 hw) (ta := ta) (fun i hi => by rw [cC4.1 41 (by decide)]; exact (qt i hi).1) (nI r) (nI (c + 1)) (nI k)
        obtain ⟨B5, g1, g2, g3, g4⟩ := tal_M hN (A := B4) hp6 hR4.eB (p31 hp6 hw) (ta := ta) (fun i hi => by rw [cM4.1 16 (by decide)]; exact (qt i hi).2.1) (nI r) (nI (c + 1)) (nI k)
        refine ⟨(nI (c + 1), nI (k + 1), A5), (nI (c + 1), nI (k + 1), B5), ⟨rfl, rfl, ⟨fun q a b => ?_, ?_⟩, ⟨fun q a b => ?_, ?_⟩, c + 1, fun i => ta i + tb (s_who T S') i, rfl, rfl, by omega, fun i hi => ⟨f2 i hi, g2 i hi, ?_⟩⟩, fun kk => ?_, fun kk => ?_⟩
        · simp only
          rw [f3 q b]; exact (q4.tr cC4).1 q a b
        · simp only
          rw [f4]; exact (q4.tr cC4).2
        · simp only
          rw [g3 q b]; exact (q5.tr cM4).1 q a b
        · simp only
          rw [g4]; exact (q5.tr cM4).2
        · have u1 := (qt i hi).2.2
          have u2 := tb_le (s_who T S') i
          show ta i + tb (s_who T S') i ≤ c + 1
          omega
        · show fX4_tallyNextSpeakers_12 N (nI r) kk s.1 s.2.1 s.2.2 = _
          unfold fX4_tallyNextSpeakers_12 fX4_leakingFits
          rw [all_eq hp6 hR.eA, cl_some, q1, if_neg lt1, e1, cl_some, mv_eq, e3, c2_some, isb_bI, ck_true, c2_some, if_neg (show ¬ bI true = 0 by decide), qc1, mv_eq, e6, c2_some, mv_eq, nI_1, f1, nI_1]
        · show fX5_listen_43 N (nI r) kk t.1 t.2.1 t.2.2 = _
          unfold fX5_listen_43 fX5_mayLeak
          rw [hR.eB, shlI _ hp6, q2, if_neg lt2, e2, cl_some, w17_4, e4, c2_some, isb_bI, ck_true, c2_some, if_neg (show ¬ bI true = 0 by decide), qc2, mv_eq, e7, c2_some, mv_eq, nI_1, g1, nI_1]) (2 ^ T.1) N N 0 ((0 : Int32), (0 : Int32), A1) ((0 : Int32), (0 : Int32), B1) (by omega) (by omega) (by omega) ⟨rfl, rfl, kC1, kM1, 0, fun _ => 0, rfl, rfl, Nat.le_refl _, fun i hi => ⟨(t0 i hi).1, (t0 i hi).2, Nat.le_refl _⟩⟩ with hF | ⟨s, t, ⟨q1, q2, q4, q5, c, ta, qc1, qc2, qc3, qt⟩, eC, eM⟩
    · exact hF.elim
    · rw [eC, eM]
      obtain ⟨f, hf⟩ : ∃ f, N - 2 ^ T.1 = f + 1 := ⟨N - 2 ^ T.1 - 1, by omega⟩
      rw [hf, bw_lp_s, bw_lp_s]
      have hR := h.kp q4.kp q5.kp
      have eC2 : ∀ kk, fX4_tallyNextSpeakers_12 N (nI r) kk s.1 s.2.1 s.2.2 = some (nI c, s.2.2) := by
        intro kk
        unfold fX4_tallyNextSpeakers_12
        rw [all_eq hp6 hR.eA, cl_some, q1, if_pos (nI_lt (by omega) (by omega)), qc1]
      have eM2 : ∀ kk, fX5_listen_43 N (nI r) kk t.1 t.2.1 t.2.2 = flX5_listen_129 N (nI r) (nI c) t.2.2 N (-9, 1000000, 0) := by
        intro kk
        unfold fX5_listen_43
        rw [hR.eB, shlI _ hp6, q2, if_pos (nI_le (Nat.le_refl _) (by omega)), mv_eq, mv_eq, mv_eq, qc2]
      rw [eC2, eM2, c2_some]
      clear eC2 eM2 eC eM hf
      generalize s.2.2 = A2 at q4 qt hR
      generalize t.2.2 = B2 at q5 qt hR
      unfold flX5_listen_129
      obtain ⟨f, hf⟩ : ∃ f, N = f + 1 := ⟨N - 1, by omega⟩
      by_cases hc : c = 0
      · subst hc
        rw [if_pos (show nI 0 = (0 : Int32) from rfl)]
        refine ⟨-9, A2, B2, rfl, ?_, hR.rel⟩
        rw [show ∀ body (z : Int32 × Int32 × Int32), bw_lp (τ := Int32 × bw_M) body N z = bw_lp body (f + 1) z from fun body z => by rw [hf], bw_lp_s]
        unfold fX5_listen_129 fX5_listen_213 fX5_listen_233
        simp only
        rw [hR.eB, if_neg (show ¬ nI T.1 ≤ (0 : Int32) from nI_nle (by omega) (by omega)), if_pos (show nI 0 ≤ (0 : Int32) by decide), if_pos trivial]
      · rw [if_neg (show ¬ nI c = (0 : Int32) from nI_ne0 (by omega) (by omega)), mv_eq, show (0 : Int32) = nI 0 from rfl, gp_C (A := A2) (t := ta 0) (by decide) (qt 0 (by omega)).1 (qt 0 (by omega)).2.2 (by omega), cl_some, mv_eq]
        unfold flX4_listen_39
        have eMi : ∀ kk (b m : Int32) (i : Nat), i < T.1 → fX5_listen_129 N (nI r) kk (nI c) b m (nI i) B2 = kk (if m ≤ nI (max (ta i) (c - ta i)) then b else nI i, if m ≤ nI (max (ta i) (c - ta i)) then m else nI (max (ta i) (c - ta i)), nI (i + 1)) := by
          intro kk b m i hi
          obtain ⟨u1, u2, u3⟩ := qt i hi
          unfold fX5_listen_129 fX5_listen_180 fX5_listen_196
          rw [hR.eB, if_neg (nI_ge hi (by omega)), if_neg (show ¬ nI c ≤ (0 : Int32) from nI_nle (by omega) (by omega)), rd_ok (by omega) (by decide), rd_ok (by omega) (by decide), rd_ok (by omega) (by decide), rd_ok (by omega) (by decide), u2, pk_sub u3]
          have ls : fX5_lesser (nI (max (ta i) (c - ta i))) m = some (if m ≤ nI (max (ta i) (c - ta i)) then m else nI (max (ta i) (c - ta i))) := by
            unfold fX5_lesser fX5_lesser_10
            split <;> rfl
          have em : (if nI (ta i) ≤ nI (c - ta i) then nI (c - ta i) else nI (ta i)) = nI (max (ta i) (c - ta i)) := by
            by_cases q : ta i ≤ c - ta i
            · rw [if_pos (nI_le q (by omega)), Nat.max_eq_right q]
            · rw [if_neg (nI_ge (by omega) (by omega)), Nat.max_eq_left (by omega)]
          have ec : ∀ (X : Int32 → Option (Int32 × bw_M)) (a b : Int32), (if nI (ta i) ≤ nI (c - ta i) then X a else X b) = X (if nI (ta i) ≤ nI (c - ta i) then a else b) := fun X a b => by split <;> rfl
          rw [ec (fun s0 => if m ≤ s0 then bw_cl (fX5_lesser s0 m) fun v14 => bw_mv (nI i + 1) fun v15 => kk (b, v14, v15) else bw_cl (fX5_lesser s0 m) fun v14 => bw_mv (nI i + 1) fun v15 => kk (nI i, v14, v15)), em, ls, cl_some, mv_eq, cl_some, mv_eq, nI_1]
          split <;> rfl
        rw [show ∀ (z : Int32 × Int32 × Int32), bw_lp (fun kk w => fX5_listen_129 N (nI r) kk (nI c) w.1 w.2.1 w.2.2 B2) N z = bw_lp (fun kk w => fX5_listen_129 N (nI r) kk (nI c) w.1 w.2.1 w.2.2 B2) (f + 1) z from fun z => by rw [hf], bw_lp_s]
        have hm0 : ∀ i, i < T.1 → max (ta i) (c - ta i) ≤ 64 := fun i hi => by have := (qt i hi).2.2; omega
        have h1st := eMi (bw_lp (fun kk w => fX5_listen_129 N (nI r) kk (nI c) w.1 w.2.1 w.2.2 B2) f) (-9) 1000000 0 (by omega)
        rw [if_neg (show ¬ (1000000 : Int32) ≤ nI (max (ta 0) (c - ta 0)) from nI_ge (b := 1000000) (by have := hm0 0 (by omega); omega) (by decide)), if_neg (show ¬ (1000000 : Int32) ≤ nI (max (ta 0) (c - ta 0)) from nI_ge (b := 1000000) (by have := hm0 0 (by omega); omega) (by decide))] at h1st
        show OkI _ (fX5_listen_129 N (nI r) _ (nI c) (-9) 1000000 (nI 0) B2)
        rw [h1st]
        refine lp_two (b := fun kk w => fX4_listen_39 N (nI r) kk (nI c) w.1 w.2.1 w.2.2 A2) (b' := fun kk w => fX5_listen_129 N (nI r) kk (nI c) w.1 w.2.1 w.2.2 B2) (fun i s t => s = t ∧ s.2.2 = nI i ∧ ¬ s.1 = -9) OkI T.1 ?_ ?_ (T.1 - 1) N f 1 _ _ (by omega) (by omega) (by omega) ⟨rfl, rfl, nI_m9 (by decide)⟩
        · intro i u v hi ⟨y1, y2, y3⟩
          left
          subst y1
          refine ⟨(if u.2.1 ≤ nI (max (ta i) (c - ta i)) then u.1 else nI i, if u.2.1 ≤ nI (max (ta i) (c - ta i)) then u.2.1 else nI (max (ta i) (c - ta i)), nI (i + 1)), _, ⟨rfl, rfl, ?_⟩, fun kk => ?_, fun kk => ?_⟩
          · simp only
            split
            · exact y3
            · exact nI_m9 (by omega)
          · show fX4_listen_39 N (nI r) kk (nI c) u.1 u.2.1 u.2.2 A2 = _
            unfold fX4_listen_39 fX4_listen_75
            rw [y2, hR.eA, if_neg (nI_ge hi (by omega)), gp_C (A := A2) (t := ta i) (by omega) (qt i hi).1 (qt i hi).2.2 (by omega), cl_some, mv_eq, mv_eq, nI_1]
            split <;> rfl
          · show fX5_listen_129 N (nI r) kk (nI c) u.1 u.2.1 u.2.2 B2 = _
            rw [y2]
            exact eMi kk _ _ i hi
        · intro u v ⟨y1, y2, y3⟩
          subst y1
          refine ⟨some (u.1, bw_pI A2 0 14 u.2.1), some (u.1, bw_pI B2 0 4 u.2.1), ⟨_, _, _, rfl, rfl, (hR.told _).rel⟩, fun kk => ?_, fun kk => ?_⟩
          · show fX4_listen_39 N (nI r) kk (nI c) u.1 u.2.1 u.2.2 A2 = _
            unfold fX4_listen_39 fX4_tell
            rw [y2, hR.eA, if_pos (nI_le (Nat.le_refl _) (by omega)), mv_eq, c2_some]
          · show fX5_listen_129 N (nI r) kk (nI c) u.1 u.2.1 u.2.2 B2 = _
            unfold fX5_listen_129 fX5_listen_213 fX5_listen_233 fX5_answer
            rw [y2, hR.eB, if_pos (nI_le (Nat.le_refl _) (by omega)), if_neg y3, mv_eq, c2_some]
  · rw [z1, z2, c2_some, c2_some, if_neg hz, if_neg hz]
    exact OkI.same hR _
