/-! kinds, sets, sure -/
theorem tr_make {N : Nat} {A B : bw_M} {T T' : Tw} {S : Sd} (hN : 2000 ≤ N) (hp : T.1 ≤ 6) (b1 : c_tw A 16 T) (b2 : c_st A 16 S) (m1 : m_tw B T') (m2 : m_st B 9 0 S) : ∃ A' B', fX3_become N 22 16 A = some A' ∧ fX5_layAside N B = some B' ∧ c_tw A' 22 T ∧ c_st A' 22 S ∧ m_tw B' T' ∧ m_st B' 10 0 S ∧ kqC A A' ∧ kqM B B' := by
  obtain ⟨A', e, g1, g2, g3, g4⟩ := become_rep (x0 := 22) (x1 := 16) hN (by omega) hp b1 b2
  refine ⟨A', _, e, aside_eq hN B, g1, g2, ?_, ?_, ⟨fun q a => g3 q (by omega), g4⟩, ⟨fun q a => bw_pA_ne _ _ a, rfl⟩⟩
  · exact m1.of (by rw [bw_pA_ne _ _ (by decide)]) (fun q _ _ => bw_pA_ne _ _ (by omega))
  · obtain ⟨c1, c2, c3, c4, c5, c6⟩ := m2
    simp only [Nat.zero_add] at c1 c2 c3 c4 c5 c6
    unfold m_st
    simp only [Nat.zero_add]
    refine ⟨?_, ?_, ?_, ?_, ?_, fun i hi => ⟨?_, ?_⟩⟩
    · rw [aside_rd (by decide)]; exact c1
    · rw [aside_rd (by decide)]; exact c2
    · rw [aside_rd (by decide)]; exact c3
    · rw [aside_rd (by decide)]; exact c4
    · rw [aside_rd (by decide)]; exact c5
    · rw [aside_rd (by omega)]; exact (c6 i hi).1
    · rw [aside_rd (by omega)]; exact (c6 i hi).2
theorem ok_kinds {N : Nat} (hN : 2000 ≤ N) {A B : bw_M} (h : Rel A B) (x y : Int32) : OkI (fX4_kinds N x y A) (fX5_kinds N x y B) := by
  obtain ⟨T, ds, ks, h⟩ := h.rl
  unfold fX4_kinds fX5_kinds fX5_kinds_15
  rcases pipe_cases h x with ⟨i, hi, rfl, p1, p2⟩ | ⟨p1, p2⟩
  · have hp6 := h.p6
    rw [p1, p2, cl_some, cl_some, if_neg i10, if_neg i10]
    rcases ix_cases y (n := 6) (by decide) (by decide) with ⟨r, hr, rfl⟩ | ⟨g1, g2⟩
    · rw [(isRow_ok hr).2, cl_some, if_neg i10]
      rcases hear_row hN h hr (by omega) with ⟨n, n1, n2, e, z1, z2⟩ | ⟨z, A', B', hz, hR, z1, z2⟩
      · rw [z1, z2, c2_some, c2_some, if_pos i00, if_pos i00, rd_ok (by omega) (by decide)]
        simp only [mv_eq]
        obtain ⟨a1, -, a3⟩ := h.1 r hr
        obtain ⟨-, -, -, hT, ⟨b1, b2, -⟩, -, ⟨m1, m2, -, -⟩, -⟩ := id h
        unfold flX4_kinds_31 flX5_kinds_43
        refine lp_two (fun k s t => s.1 = t.1 ∧ s.2.1 = nI k ∧ t.2.1 = nI k ∧ kqC A s.2.2 ∧ ∃ v, kqM (bw_pI B 6 i v) t.2.2) OkI 6 ?_ ?_ 6 N N 0 _ _ (by omega) (by omega) (by omega) ⟨rfl, rfl, rfl, kqC.rf _, B.1 6 i, by rw [pI_id B 6 i rfl]; exact kqM.rf _⟩
        · intro k s t hk ⟨q0, q1, q2, q4, v, q5⟩
          left
          have q6 : kqM (bw_pI B 6 i (nI k)) (bw_pI t.2.2 6 i (nI k)) := by
            refine ⟨fun q a => ?_, q5.2⟩
            by_cases e6 : q = 6
            · subst e6
              funext j
              rw [pI_rd, pI_rd, q5.1 6 (by decide), pI_rd]
              by_cases ej : j = i
              · rw [if_pos ej, if_pos ej]
              · rw [if_neg ej, if_neg ej, if_neg ej]
            · rw [pI_ne e6, pI_ne e6, q5.1 q a, pI_ne e6]
          have hT' : t_ok (T.1, updN T.2.1 i k, T.2.2) := by
            obtain ⟨t1, t2, t3, t4⟩ := hT
            refine ⟨t1, t2, t3, fun j hj => ?_⟩
            obtain ⟨u1, u2⟩ := t4 j hj
            refine ⟨?_, u2⟩
            show updN T.2.1 i k j ≤ 5
            unfold updN
            split
            · omega
            · exact u1
          have hm : m_tw (bw_pI t.2.2 6 i (nI k)) (T.1, updN T.2.1 i k, T.2.2) := by
            obtain ⟨t1, t2⟩ := m1
            refine ⟨by rw [q6.1 0 (by decide), pI_ne (by decide)]; exact t1, fun j hj => ?_⟩
            obtain ⟨u1, u2, u3⟩ := t2 j hj
            rw [q6.1 6 (by decide), q6.1 7 (by decide), q6.1 8 (by decide), pI_rd, pI_ne (by decide), pI_ne (by decide)]
            refine ⟨?_, u2, u3⟩
            show _ = nI (updN T.2.1 i k j)
            unfold updN
            split
            · rfl
            · exact u1
          obtain ⟨A1, B1, e1, e2, v1, v2, v3, v4, k1, k2⟩ := tr_make (A := s.2.2) (B := bw_pI t.2.2 6 i (nI k)) (T := T) (T' := (T.1, updN T.2.1 i k, T.2.2)) (S := s_rep T ds) hN hp6 (b1.of (fun q _ _ => q4.1 q (by omega))) (b2.of (q4.1 _ (by decide)) (q4.1 _ (by decide)) (q4.1 _ (by decide))) hm (m2.of (by rw [q6.1 9 (by decide), pI_ne (by decide)]))
          have tr : Tr (bw_pI A1 23 i (nI k)) B1 (T.1, updN T.2.1 i k, T.2.2) (s_rep T ds) := by
            refine ⟨?_, v2.of (pI_ne (by decide)) (pI_ne (by decide)) (pI_ne (by decide)), v3, v4⟩
            obtain ⟨t1, t2, t3, t4⟩ := v1
            refine ⟨by rw [pI_ne (by decide)]; exact t1, by rw [pI_ne (by decide)]; exact t2, by rw [pI_ne (by decide)]; exact t3, fun j hj => ?_⟩
            obtain ⟨u1, u2, u3⟩ := t4 j hj
            rw [show 22 + 1 = 23 from rfl, pI_rd, pI_ne (by decide), pI_ne (by decide)]
            refine ⟨?_, u2, u3⟩
            show _ = nI (updN T.2.1 i k j)
            unfold updN
            split
            · rfl
            · exact u1
          have kC : kqC A (bw_pI A1 23 i (nI k)) := (q4.tr k1).tr ⟨fun q a => pI_ne (by omega), rfl⟩
          have kM : kqM (bw_pI B 6 i (nI k)) B1 := q6.tr k2
          obtain ⟨b, A2, B2, k3, k4, e3, e4, -⟩ := like_row_q (T := (T.1, updN T.2.1 i k, T.2.2)) hN hT' hr n2 (Bn := 40) (by decide) (by rw [kC.1 8 (by decide)]; exact e) (by rw [kM.1 2 (by decide), pI_ne (by decide), ← a1]; exact e) (fun j hj => by rw [kC.1 (2 + r) (by omega), kM.1 1 (by decide), pI_ne (by decide)]; exact a3 j hj) h.sok tr
          refine ⟨(if b = true then s.1 ||| (1 <<< (nI k &&& 31)) else s.1, nI (k + 1), A2), (if b = true then s.1 ||| (1 <<< (nI k &&& 31)) else s.1, nI (k + 1), B2), ⟨rfl, rfl, rfl, kC.tr k3, nI k, kM.tr k4⟩, fun kk => ?_, fun kk => ?_⟩
          · show fX4_kinds_31 N (nI i) (nI r) kk s.1 s.2.1 s.2.2 = _
            unfold fX4_kinds_31 fX4_kinds_77
            rw [q1, if_neg (show ¬ (6 : Int32) ≤ nI k from nI_ge (b := 6) hk (by decide)), e1, cl_some, wr_ok (by omega) (by decide), e3, c2_some, mv_eq, mv_eq, mv_eq, nI_1]
            cases b with
            | true => rw [if_neg (show ¬ bI true = 0 by decide), if_pos rfl]
            | false => rw [if_pos bI_f, if_neg (by decide)]
          · show fX5_kinds_43 N (nI i) (nI r) kk (B.1 6 i) t.1 t.2.1 t.2.2 = _
            unfold fX5_kinds_43 fX5_kinds_80
            rw [q2, if_neg (show ¬ (6 : Int32) ≤ nI k from nI_ge (b := 6) hk (by decide)), wr_ok (by omega) (by decide), e2, cl_some, e4, c2_some, mv_eq, mv_eq, mv_eq, mv_eq, nI_1, ← q0]
            cases b with
            | true => rw [if_neg (show ¬ bI true = 0 by decide), if_pos rfl]
            | false => rw [if_pos bI_f, if_neg (by decide), show s.1 ||| 0 = s.1 by simp]
        · intro s t ⟨q0, q1, q2, q4, v, q5⟩
          have q6 : kqM B (bw_pI t.2.2 6 i (B.1 6 i)) := by
            refine ⟨fun q a => ?_, q5.2⟩
            by_cases e6 : q = 6
            · subst e6
              funext j
              rw [pI_rd, q5.1 6 (by decide), pI_rd]
              by_cases ej : j = i
              · rw [if_pos ej, ej]
              · rw [if_neg ej, if_neg ej]
            · rw [pI_ne e6, q5.1 q a, pI_ne e6]
          refine ⟨some (s.1, s.2.2), some (t.1, bw_pI t.2.2 6 i (B.1 6 i)), ⟨s.1, s.2.2, _, rfl, by rw [q0], (h.kp q4.kp q6.kp).rel⟩, fun kk => ?_, fun kk => ?_⟩
          · show fX4_kinds_31 N (nI i) (nI r) kk s.1 s.2.1 s.2.2 = _
            unfold fX4_kinds_31
            rw [q1, if_pos (show (6 : Int32) ≤ nI 6 by decide)]
          · show fX5_kinds_43 N (nI i) (nI r) kk (B.1 6 i) t.1 t.2.1 t.2.2 = _
            unfold fX5_kinds_43
            rw [q2, if_pos (show (6 : Int32) ≤ nI 6 by decide), wr_ok (by omega) (by decide)]
      · rw [z1, z2, c2_some, c2_some, if_neg hz, if_neg hz]
        exact OkI.same hR _
    · have e1 : fX4_refusedHearing N y A = some (-1, A) := by
        unfold fX4_refusedHearing
        rw [(isRow_no g1 g2).1, cl_some, if_pos i00]
      rw [e1, c2_some, if_neg (show ¬ (-1 : Int32) = 0 by decide), (isRow_no g1 g2).2, cl_some, if_pos i00]
      exact OkI.same h.rel _
  · rw [p1, p2, cl_some, cl_some, if_pos i00, if_pos i00]
    exact OkI.same h.rel _
/-- whose wants come to what -/
def s_ws (T : Tw) (S : Sd) (set : Nat) : Nat → Nat
  | 0 => 0
  | i + 1 => s_ws T S set i + (if set.testBit i = true then s_want (T.2.1 i) (T.2.2.2.1 i) S.2.2.1 else 0)
theorem s_ws_le {T : Tw} {S : Sd} {set : Nat} (hT : t_ok T) : ∀ i, i ≤ T.1 → s_ws T S set i ≤ 20 * i := by
  intro i
  induction i with
  | zero => intro _; exact Nat.le_refl _
  | succ i ih =>
    intro hi
    have := ih (by omega)
    have := want_le (k := T.2.1 i) (n := T.2.2.2.1 i) (h := S.2.2.1) (hT.2.2.2 i (by omega)).2.2.2
    show s_ws T S set i + _ ≤ _
    split <;> omega
theorem c_want {A : bw_M} {c : Nat} {T : Tw} {S : Sd} {B : Nat} (hB : B < 2 ^ 20) (hT : t_ok T) (hS : s_ok T.1 B S) (h1 : c_tw A c T) (h2 : c_st A c S) {i : Nat} (hi : i < T.1) : fX3_wantNext c (nI i) A = some (nI (s_want (T.2.1 i) (T.2.2.2.1 i) S.2.2.1)) := by
  obtain ⟨g1, g2, g3, g4⟩ := h1
  obtain ⟨u1, u2, u3⟩ := g4 i hi
  have := hT.1
  have := (hT.2.2.2 i hi).1
  have := hS.2.2.1
  unfold fX3_wantNext
  rw [rd_ok (by omega) (by decide), rd_ok (by omega) (by decide), u1, u3, h2.2.2.1, want_eq (by omega) (by omega), cl_some]
theorem m_want {B : bw_M} {T : Tw} {S : Sd} {Bn : Nat} (hB : Bn < 2 ^ 20) (hT : t_ok T) (hS : s_ok T.1 Bn S) (h1 : m_tw B T) (h2 : m_st B 9 0 S) {i : Nat} (hi : i < T.1) : fX5_wantsOn 9 17 (nI i) B = some (nI (s_want (T.2.1 i) (T.2.2.2.1 i) S.2.2.1)) := by
  obtain ⟨u1, u2, u3⟩ := h1.2 i hi
  have := hT.1
  have := (hT.2.2.2 i hi).1
  have := hS.2.2.1
  exact m_wants (by omega) (by omega) (by omega) u1 u3 h2.2.2.1
theorem c_wants {N : Nat} (hN : 2000 ≤ N) {A B : bw_M} {T : Tw} {ds : List Dd} {ks : Nat → Option (List Dd)} (h : Rl A B T ds ks) {set : Nat} (hs : set < 2 ^ 31) : fX3_wantTogether N 16 (nI set) A = some (nI (s_ws T (s_rep T ds) set T.1)) ∧ fX5_wantsOf N (nI set) B = some (nI (s_ws T (s_rep T ds) set T.1)) := by
  have hp6 := h.p6
  obtain ⟨-, -, -, hT, ⟨b1, b2, -⟩, -, ⟨m1, m2, -, -⟩, -⟩ := id h
  constructor
  · unfold fX3_wantTogether flX3_wantTogether_4
    rw [mv_eq, mv_eq]
    obtain ⟨k, hk⟩ := lp_for (body := fun kk w => fX3_wantTogether_4 N 16 (nI set) kk w.1 w.2 A) (fun i => (nI (s_ws T (s_rep T ds) set i), nI i)) T.1 (fun i hi kk => by
      show fX3_wantTogether_4 N 16 (nI set) kk (nI (s_ws T (s_rep T ds) set i)) (nI i) A = _
      unfold fX3_wantTogether_4 fX3_wantTogether_30
      rw [h.eA, if_neg (nI_ge hi (by omega)), isIn_eq hs (by omega), cl_some, c_want (by decide) hT h.sok b1 b2 hi, cl_some]
      simp only [mv_eq, nI_1]
      show _ = kk (nI (s_ws T (s_rep T ds) set i + _), nI (i + 1))
      cases set.testBit i with
      | false => rw [if_pos bI_f, if_neg (by decide), show ∀ a, nI a + (0 : Int32) = nI (a + 0) from fun a => nI_add a 0]
      | true => rw [if_neg (show ¬ bI true = 0 by decide), if_pos rfl, nI_add]) T.1 N 0 (by omega) (by omega)
    have e0 : (nI (s_ws T (s_rep T ds) set 0), nI 0) = ((0 : Int32), (0 : Int32)) := rfl
    simp only [e0] at hk
    rw [hk]
    show fX3_wantTogether_4 N 16 (nI set) k (nI (s_ws T (s_rep T ds) set T.1)) (nI T.1) A = _
    unfold fX3_wantTogether_4
    rw [h.eA, if_pos (nI_le (Nat.le_refl _) (by omega))]
  · unfold fX5_wantsOf flX5_wantsOf_4
    rw [mv_eq, mv_eq]
    obtain ⟨k, hk⟩ := lp_for (body := fun kk w => fX5_wantsOf_4 N (nI set) kk w.1 w.2 B) (fun i => (nI (s_ws T (s_rep T ds) set i), nI i)) T.1 (fun i hi kk => by
      show fX5_wantsOf_4 N (nI set) kk (nI (s_ws T (s_rep T ds) set i)) (nI i) B = _
      unfold fX5_wantsOf_4 fX5_wantsOf_34
      rw [h.eB, if_neg (nI_ge hi (by omega)), has_eq hs (by omega), cl_some, m_want (by decide) hT h.sok m1 m2 hi, cl_some]
      simp only [mv_eq, nI_1]
      show _ = kk (nI (s_ws T (s_rep T ds) set i + _), nI (i + 1))
      cases set.testBit i with
      | false => rw [if_pos bI_f, if_neg (by decide), show ∀ a, nI a + (0 : Int32) = nI (a + 0) from fun a => nI_add a 0]
      | true => rw [if_neg (show ¬ bI true = 0 by decide), if_pos rfl, nI_add]) T.1 N 0 (by omega) (by omega)
    have e0 : (nI (s_ws T (s_rep T ds) set 0), nI 0) = ((0 : Int32), (0 : Int32)) := rfl
    simp only [e0] at hk
    rw [hk]
    show fX5_wantsOf_4 N (nI set) k (nI (s_ws T (s_rep T ds) set T.1)) (nI T.1) B = _
    unfold fX5_wantsOf_4
    rw [h.eB, if_pos (nI_le (Nat.le_refl _) (by omega))]
theorem ok_sets {N : Nat} (hN : 2000 ≤ N) {A B : bw_M} (h : Rel A B) (x : Int32) : OkI (fX4_sets N x A) (fX5_sets N x B) := by
  obtain ⟨T, ds, ks, h⟩ := h.rl
  have hp6 := h.p6
  obtain ⟨w1, w2⟩ := pw6 hp6
  unfold fX4_sets fX4_refusedSum fX4_refusedSum_10 fX4_refusedSum_28 fX5_sets
  rw [in_I x 0 99 (by decide) (by decide), cl_some, h.eA, h.eB]
  by_cases hx : (0 : Int32) ≤ x ∧ x ≤ 99
  · rw [if_neg (Int32.not_lt.mpr hx.1), if_pos hx.2, if_pos hx, if_neg i10]
    by_cases hp : T.1 = 0
    · rw [if_pos ((nI_0' (by omega)).mpr hp), if_pos ((nI_0' (by omega)).mpr hp), cl_some, if_neg (show ¬ (-4 : Int32) = 0 by decide)]
      exact OkI.same h.rel _
    · rw [if_neg (fun q => hp ((nI_0' (by omega)).mp q)), if_neg (fun q => hp ((nI_0' (by omega)).mp q)), cl_some, if_pos i00]
      simp only [mv_eq]
      unfold flX4_sets_21 flX5_sets_32
      refine lp_two (fun k s t => s = t ∧ (∃ c, s.1 = nI c ∧ c ≤ k) ∧ s.2.2 = nI k) OkI (2 ^ T.1) ?_ ?_ (2 ^ T.1) N N 0 _ _ (by omega) (by omega) (by omega) ⟨rfl, ⟨0, rfl, Nat.le_refl _⟩, rfl⟩
      · intro k s t hk ⟨q0, ⟨c, qc, qc2⟩, q1⟩
        left
        subst q0
        obtain ⟨e1, e2⟩ := c_wants hN h (set := k) (by omega)
        refine ⟨(if nI (s_ws T (s_rep T ds) k T.1) = x then (nI (c + 1), if s.2.1 = -9 then nI k else s.2.1, nI (k + 1)) else (nI c, s.2.1, nI (k + 1))), _, ⟨rfl, ?_, ?_⟩, fun kk => ?_, fun kk => ?_⟩
        · split
          · exact ⟨c + 1, rfl, by omega⟩
          · exact ⟨c, rfl, by omega⟩
        · split <;> rfl
        · show fX4_sets_21 N x kk s.1 s.2.1 s.2.2 A = _
          unfold fX4_sets_21 fX4_sets_63 fX4_sets_65
          rw [all_eq hp6 h.eA, cl_some, q1, if_neg (nI_nlt (by omega) (by omega)), e1, cl_some, qc]
          simp only [mv_eq, nI_1]
          split
          · split <;> rfl
          · rfl
        · show fX5_sets_32 N x kk s.1 s.2.1 s.2.2 B = _
          unfold fX5_sets_32 fX5_sets_68 fX5_sets_69
          rw [h.eB, shlI _ hp6, q1, if_neg (nI_ge hk (by omega)), e2, cl_some, qc]
          simp only [mv_eq, nI_1]
          split
          · split <;> rfl
          · rfl
      · intro s t ⟨q0, ⟨c, qc, qc2⟩, q1⟩
        subst q0
        refine ⟨some (1, bw_pI (bw_pL (bw_pL A 15 (nI c).toInt64) 16 1) 0 14 s.2.1), some (1, bw_pI (bw_pL (bw_pL B 5 (nI c).toInt64) 6 1) 0 4 s.2.1), ⟨_, _, _, rfl, rfl, ((h.shr _ _).told _).rel⟩, fun kk => ?_, fun kk => ?_⟩
        · show fX4_sets_21 N x kk s.1 s.2.1 s.2.2 A = _
          unfold fX4_sets_21 fX4_tell
          rw [all_eq hp6 h.eA, cl_some, q1, if_pos (nI_lt (by omega) (by omega)), qc, share1 hN (by omega), cl_some, mv_eq, c2_some]
        · show fX5_sets_32 N x kk s.1 s.2.1 s.2.2 B = _
          unfold fX5_sets_32 fX5_counted fX5_answer
          rw [h.eB, shlI _ hp6, q1, if_pos (nI_le (Nat.le_refl _) (by omega)), qc, mv_eq, mv_eq, mv_eq, c2_some, c2_some]
  · rw [if_neg hx, if_pos i00]
    by_cases q : x < 0
    · rw [if_pos q, cl_some, if_neg (show ¬ (-1 : Int32) = 0 by decide)]; exact OkI.same h.rel _
    · rw [if_neg q, if_neg (fun q2 => hx ⟨Int32.not_lt.mp q, q2⟩), cl_some, if_neg (show ¬ (-1 : Int32) = 0 by decide)]; exact OkI.same h.rel _
/-- sure: what the one leaves out is what the other takes away -/
theorem bits3 (a s p : Int32) : (p &&& (a ^^^ (-1))) &&& (s ^^^ (-1)) = p &&& ((a ||| s) ^^^ (-1)) := by
  apply Int32.toBitVec_inj.mp
  have em : (-1 : Int32).toBitVec = BitVec.allOnes 32 := by decide
  simp only [Int32.toBitVec_and, Int32.toBitVec_xor, Int32.toBitVec_or, em]
  apply BitVec.eq_of_getLsbD_eq
  intro i hi
  simp only [BitVec.getLsbD_and, BitVec.getLsbD_xor, BitVec.getLsbD_or, BitVec.getLsbD_allOnes, hi, decide_true]
  cases p.toBitVec.getLsbD i <;> cases a.toBitVec.getLsbD i <;> cases s.toBitVec.getLsbD i <;> rfl
theorem ok_sure {N : Nat} (hN : 2000 ≤ N) {A B : bw_M} (h : Rel A B) (x : Int32) : OkI (fX4_sure N x A) (fX5_sure N x B) := by
  obtain ⟨T, ds, ks, h⟩ := h.rl
  have hp6 := h.p6
  obtain ⟨w1, w2⟩ := pw6 hp6
  unfold fX4_sure fX4_refusedSum fX4_refusedSum_10 fX4_refusedSum_28 fX5_sure
  rw [in_I x 0 99 (by decide) (by decide), cl_some, h.eA, h.eB]
  by_cases hx : (0 : Int32) ≤ x ∧ x ≤ 99
  · rw [if_neg (Int32.not_lt.mpr hx.1), if_pos hx.2, if_pos hx, if_neg i10]
    by_cases hp : T.1 = 0
    · rw [if_pos ((nI_0' (by omega)).mpr hp), if_pos ((nI_0' (by omega)).mpr hp), cl_some, if_neg (show ¬ (-4 : Int32) = 0 by decide)]
      exact OkI.same h.rel _
    · rw [if_neg (fun q => hp ((nI_0' (by omega)).mp q)), if_neg (fun q => hp ((nI_0' (by omega)).mp q)), cl_some, if_pos i00, all_eq hp6 h.eA, cl_some, shlI _ hp6, show nI (2 ^ T.1) - 1 = nI (2 ^ T.1 - 1) from pk_sub (b := 1) w1]
      simp only [mv_eq]
      unfold flX4_sure_29 flX5_sure_41
      refine lp_two (fun k s t => s.1 = t.2.1 ∧ t.2.2.1 = nI (2 ^ T.1 - 1) &&& (s.2.1 ^^^ (-1)) ∧ s.2.2.1 = t.1 ∧ s.2.2.2 = nI k ∧ t.2.2.2 = nI k) OkI (2 ^ T.1) ?_ ?_ (2 ^ T.1) N N 0 _ _ (by omega) (by omega) (by omega) ⟨rfl, ?_, rfl, rfl, rfl⟩
      · intro k s t hk ⟨q0, q3, q4, q1, q2⟩
        left
        obtain ⟨e1, e2⟩ := c_wants hN h (set := k) (by omega)
        refine ⟨(if nI (s_ws T (s_rep T ds) k T.1) = x then (s.1 &&& nI k, s.2.1 ||| nI k, 1, nI (k + 1)) else (s.1, s.2.1, s.2.2.1, nI (k + 1))), (if nI (s_ws T (s_rep T ds) k T.1) = x then (1, s.1 &&& nI k, t.2.2.1 &&& (nI k ^^^ (-1)), nI (k + 1)) else (s.2.2.1, s.1, t.2.2.1, nI (k + 1))), ?_, fun kk => ?_, fun kk => ?_⟩
        · split
          · exact ⟨rfl, by simp only; rw [q3, bits3], rfl, rfl, rfl⟩
          · exact ⟨rfl, q3, rfl, rfl, rfl⟩
        · show fX4_sure_29 N x kk s.1 s.2.1 s.2.2.1 s.2.2.2 A = _
          unfold fX4_sure_29 fX4_sure_69
          rw [all_eq hp6 h.eA, cl_some, q1, if_neg (nI_nlt (by omega) (by omega)), e1, cl_some]
          simp only [mv_eq, nI_1]
          split <;> rfl
        · show fX5_sure_41 N x kk t.1 t.2.1 t.2.2.1 t.2.2.2 B = _
          unfold fX5_sure_41 fX5_sure_78
          rw [h.eB, shlI _ hp6, q2, if_neg (nI_ge hk (by omega)), e2, cl_some, ← q0, ← q4]
          simp only [mv_eq, nI_1]
          split <;> rfl
      · intro s t ⟨q0, q3, q4, q1, q2⟩
        have eC : ∀ kk, fX4_sure_29 N x kk s.1 s.2.1 s.2.2.1 s.2.2.2 A = if s.2.2.1 = 0 then fX4_found 4 A else some (s.1, bw_pI A 0 14 (nI (2 ^ T.1 - 1) &&& (s.2.1 ^^^ (-1)))) := by
          intro kk
          unfold fX4_sure_29 fX4_tell
          rw [all_eq hp6 h.eA, cl_some, q1, if_pos (nI_lt (by omega) (by omega)), cl_some, mv_eq, c2_some, c2_id]
        have eM : ∀ kk, fX5_sure_41 N x kk t.1 t.2.1 t.2.2.1 t.2.2.2 B = if s.2.2.1 = 0 then fX5_found 4 B else some (s.1, bw_pI B 0 4 (nI (2 ^ T.1 - 1) &&& (s.2.1 ^^^ (-1)))) := by
          intro kk
          unfold fX5_sure_41 fX5_sure_103 fX5_answer
          rw [h.eB, shlI _ hp6, q2, if_pos (nI_le (Nat.le_refl _) (by omega)), mv_eq, c2_some, c2_id, ← q4, ← q0, ← q3]
        refine ⟨_, _, ?_, eC, eM⟩
        split
        · exact ok_found h.rel (j := 4) (by decide) rfl
        · exact ⟨_, _, _, rfl, rfl, (h.told _).rel⟩
      · show nI (2 ^ T.1 - 1) = nI (2 ^ T.1 - 1) &&& ((0 : Int32) ^^^ (-1))
        rw [show (0 : Int32) ^^^ (-1) = -1 by decide]
        simp
  · rw [if_neg hx, if_pos i00]
    by_cases q : x < 0
    · rw [if_pos q, cl_some, if_neg (show ¬ (-1 : Int32) = 0 by decide)]; exact OkI.same h.rel _
    · rw [if_neg q, if_neg (fun q2 => hx ⟨Int32.not_lt.mp q, q2⟩), cl_some, if_neg (show ¬ (-1 : Int32) = 0 by decide)]; exact OkI.same h.rel _
