/-! wants, pipe, mark, count, what is told -/
def Ok1 {α : Type} (x y : Option α) : Prop := ∃ r, x = some r ∧ y = some r
theorem Ok1.same {α : Type} (r : α) : Ok1 (some r) (some r) := ⟨r, rfl, rfl⟩
theorem ok_wants {A B : bw_M} (h : Rel A B) (x y z : Int32) : Ok1 (fX4_wants x y z A) (fX5_wants x y z B) := by
  obtain ⟨T, ds, ks, h⟩ := h.rl
  obtain ⟨-, -, -, hT, ⟨b1, b2, b3⟩, hds, ⟨m1, m2, m3, m4⟩, hk⟩ := id h
  unfold fX4_wants fX4_wants_32 fX5_wants fX5_wants_46 fX5_wants_47
  rw [in_I y 1 9 (by decide) (by decide), in_I z 0 99 (by decide) (by decide), cl_some, cl_some]
  rcases pipe_cases h x with ⟨i, hi, rfl, p1, p2⟩ | ⟨p1, p2⟩
  · rw [p1, p2, cl_some, cl_some, if_neg i10, if_neg i10]
    have hp6 := h.p6
    by_cases hy : (1 : Int32) ≤ y ∧ y ≤ 9
    · rw [if_pos hy, if_neg i10, if_neg (Int32.not_lt.mpr hy.1), if_neg (Int32.not_lt.mpr hy.2)]
      by_cases hz : (0 : Int32) ≤ z ∧ z ≤ 99
      · rw [if_pos hz, if_neg i10, if_neg (Int32.not_lt.mpr hz.1), if_pos hz.2, rd_ok (by omega) (by decide), rd_ok (by omega) (by decide), (b1.2.2.2 i hi).1, (m1.2 i hi).1]
        have e1 : ∃ n, y = nI n := by
          obtain ⟨n, e, -⟩ := nI_of_toInt (x := y) (by
            have := (i32le _ _).mp hy.1
            have z1 : (1 : Int32).toInt = 1 := by decide
            omega)
          exact ⟨n, e⟩
        obtain ⟨n, rfl⟩ := e1
        obtain ⟨q, rfl, -, hq⟩ := nI_of_toInt (x := z) (by
          have := (i32le _ _).mp hz.1
          have z1 : (0 : Int32).toInt = 0 := by decide
          omega)
        have := (hT.2.2.2 i hi).1
        rw [want_eq (by omega) hq, wantsBy_eq (by omega) hq, cl_some]
        exact Ok1.same _
      · rw [if_neg hz, if_pos i00]
        by_cases q : z < 0
        · rw [if_pos q]; exact Ok1.same _
        · rw [if_neg q, if_neg (fun q2 => hz ⟨Int32.not_lt.mp q, q2⟩)]; exact Ok1.same _
    · rw [if_neg hy, if_pos i00]
      by_cases q : y < 1
      · rw [if_pos q]; exact Ok1.same _
      · rw [if_neg q, if_pos (Int32.not_le.mp (fun q2 => hy ⟨Int32.not_lt.mp q, q2⟩))]; exact Ok1.same _
  · rw [p1, p2, cl_some, cl_some, if_pos i00, if_pos i00]
    exact Ok1.same _
def s_fact (T : Tw) (S : Sd) (i : Nat) : Nat → Int32
  | 0 => nI (T.2.1 i)
  | 1 => eF (T.2.2.1 i)
  | 2 => nI (T.2.2.2.1 i)
  | 3 => nI (s_want (T.2.1 i) (T.2.2.2.1 i) S.2.2.1)
  | 4 => nI (S.2.2.2.2.2.1 i)
  | 5 => nI (S.2.2.2.2.2.2 i)
  | 6 => bI (s_co S.2.2.2.1 T.2.2.1 i)
  | _ => bI (S.2.2.2.2.1.testBit i)
theorem bI_if {τ : Type} (b : Bool) (f : Int32 → τ) : (if bI b = 0 then f 0 else f 1) = f (bI b) := by cases b <;> rfl
theorem fact_C {N : Nat} (hN : 2000 ≤ N) {A B : bw_M} {T : Tw} {ds : List Dd} {ks : Nat → Option (List Dd)} (h : Rl A B T ds ks) {i : Nat} (hi : i < T.1) : ∀ w, w < 8 → fX4_pipeFact N (nI i) (nI w) A = some (s_fact T (s_rep T ds) i w) := by
  have hp6 := h.p6
  obtain ⟨-, -, -, hT, ⟨b1, b2, b3⟩, hds, ⟨m1, m2, m3, m4⟩, hk⟩ := id h
  have hs := h.sok
  have hi6 : i < 6 := by omega
  intro w hw
  have ne : ∀ j, j < 8 → w ≠ j → ¬ nI w = nI j := fun j hj q e => q ((nI_eq (by omega) (by omega)).mp e)
  have e0 : ¬ w = 0 → ¬ nI w = (0 : Int32) := ne 0 (by decide)
  have e1 : ¬ w = 1 → ¬ nI w = (1 : Int32) := ne 1 (by decide)
  have e2 : ¬ w = 2 → ¬ nI w = (2 : Int32) := ne 2 (by decide)
  have e3 : ¬ w = 3 → ¬ nI w = (3 : Int32) := ne 3 (by decide)
  have e4 : ¬ w = 4 → ¬ nI w = (4 : Int32) := ne 4 (by decide)
  have e5 : ¬ w = 5 → ¬ nI w = (5 : Int32) := ne 5 (by decide)
  have e6 : ¬ w = 6 → ¬ nI w = (6 : Int32) := ne 6 (by decide)
  obtain ⟨u1, u2, u3⟩ := b1.2.2.2 i hi
  obtain ⟨v1, v2⟩ := b2.2.2.2.2.2 i hi6
  unfold fX4_pipeFact fX4_pipeFact_122 fX4_pipeFact_142
  match w, hw with
  | 0, _ => rw [if_pos (show nI 0 = (0 : Int32) from rfl), rd_ok hi6 (by decide)]; exact congrArg some u1
  | 1, _ =>
    rw [if_neg (e0 (by decide)), if_pos (show nI 1 = (1 : Int32) from rfl), rd_ok hi6 (by decide)]; exact congrArg some u2
  | 2, _ =>
    rw [if_neg (e0 (by decide)), if_neg (e1 (by decide)), if_pos (show nI 2 = (2 : Int32) from rfl), rd_ok hi6 (by decide)]; exact congrArg some u3
  | 3, _ =>
    rw [if_neg (e0 (by decide)), if_neg (e1 (by decide)), if_neg (e2 (by decide)), if_pos (show nI 3 = (3 : Int32) from rfl), c_want (B := 40) (by decide) hT hs b1 b2 hi, cl_some]; rfl
  | 4, _ =>
    rw [if_neg (e0 (by decide)), if_neg (e1 (by decide)), if_neg (e2 (by decide)), if_neg (e3 (by decide)), if_pos (show nI 4 = (4 : Int32) from rfl), rd_ok hi6 (by decide)]; exact congrArg some v1
  | 5, _ =>
    rw [if_neg (e0 (by decide)), if_neg (e1 (by decide)), if_neg (e2 (by decide)), if_neg (e3 (by decide)), if_neg (e4 (by decide)), if_pos (show nI 5 = (5 : Int32) from rfl), rd_ok hi6 (by decide)]; exact congrArg some v2
  | 6, _ =>
    obtain ⟨K, k1, k2, k3⟩ := c_cut hN hT b1 hs.2.2.2.1 b2.2.2.2.1
    rw [if_neg (e0 (by decide)), if_neg (e1 (by decide)), if_neg (e2 (by decide)), if_neg (e3 (by decide)), if_neg (e4 (by decide)), if_neg (e5 (by decide)), if_pos (show nI 6 = (6 : Int32) from rfl), k1, cl_some, isIn_eq (p31 hp6 k2) (by omega), cl_some, bI_if _ some, k3 i hi]; rfl
  | 7, _ =>
    rw [if_neg (e0 (by decide)), if_neg (e1 (by decide)), if_neg (e2 (by decide)), if_neg (e3 (by decide)), if_neg (e4 (by decide)), if_neg (e5 (by decide)), if_neg (e6 (by decide)), b2.2.2.2.2.1, isIn_eq (p31 hp6 hs.2.2.2.2.1) (by omega), cl_some, bI_if _ some]; rfl
  | w + 8, hw => omega
theorem fact_M {N : Nat} (hN : 2000 ≤ N) {A B : bw_M} {T : Tw} {ds : List Dd} {ks : Nat → Option (List Dd)} (h : Rl A B T ds ks) {i : Nat} (hi : i < T.1) : B.1 6 i = s_fact T (s_rep T ds) i 0 ∧ B.1 7 i = s_fact T (s_rep T ds) i 1 ∧ B.1 8 i = s_fact T (s_rep T ds) i 2 ∧ fX5_wantsOn 9 17 (nI i) B = some (s_fact T (s_rep T ds) i 3) ∧ B.1 9 (5 + i) = s_fact T (s_rep T ds) i 4 ∧ B.1 9 (11 + i) = s_fact T (s_rep T ds) i 5 ∧ fX5_isCutOff N 9 17 (nI i) B = some (s_fact T (s_rep T ds) i 6) ∧ (B.1 9 4 >>> (nI i &&& 31)) &&& 1 = s_fact T (s_rep T ds) i 7 := by
  have hp6 := h.p6
  obtain ⟨-, -, -, hT, ⟨b1, b2, b3⟩, hds, ⟨m1, m2, m3, m4⟩, hk⟩ := id h
  have hs := h.sok
  obtain ⟨c1, c2, c3, c4, c5, c6⟩ := id m2
  simp only [Nat.zero_add] at c1 c2 c3 c4 c5 c6
  obtain ⟨u1, u2, u3⟩ := m1.2 i hi
  refine ⟨u1, u2, u3, m_want (Bn := 40) (by decide) hT hs m1 m2 hi, (c6 i (by omega)).1, (c6 i (by omega)).2, m_cut hN hT m1 hs.2.2.2.1 c4 hi, ?_⟩
  rw [c5]
  exact bitB (p31 hp6 hs.2.2.2.2.1) (by omega)
theorem ok_pipe {N : Nat} (hN : 2000 ≤ N) {A B : bw_M} (h : Rel A B) (x y : Int32) : OkI (fX4_pipe N x y A) (fX5_pipe N x y B) := by
  obtain ⟨T, ds, ks, h⟩ := h.rl
  have hp6 := h.p6
  unfold fX4_pipe fX4_pipe_21 fX5_pipe fX5_pipe_20 fX5_pipe_156
  rw [in_I y 0 7 (by decide) (by decide), cl_some]
  rcases pipe_cases h x with ⟨i, hi, rfl, p1, p2⟩ | ⟨p1, p2⟩
  · rw [p1, p2, cl_some, cl_some, if_neg i10, if_neg i10]
    rcases ix_cases y (n := 8) (by decide) (by decide) with ⟨w, hw, rfl⟩ | ⟨g1, g2⟩
    · rw [if_neg (nI_pos (by omega)), if_pos (show nI w < (8 : Int32) from nI_lt (b := 8) hw (by decide)), if_pos (show (0 : Int32) ≤ nI w ∧ nI w ≤ 7 from nI_rng (n := 8) hw (by decide)), if_neg i10, fact_C hN h hi w hw, cl_some]
      obtain ⟨v0, v1, v2, v3, v4, v5, v6, v7⟩ := fact_M hN h hi
      have key : ∀ r, OkI (bw_c2 (fX4_tell r A) fun v3 M4 => some (v3, M4)) (bw_c2 (fX5_tell r B) fun v M => some (v, M)) := fun r => by
        rw [c2_id, c2_id]; exact ok_tell h.rel r
      have hi6 : i < 6 := by omega
      match w, hw with
      | 0, _ => rw [if_pos (show nI 0 = (0 : Int32) from rfl), rd_ok hi6 (by decide), v0]; exact key _
      | 1, _ =>
        rw [if_neg (show ¬ nI 1 = (0 : Int32) by decide), if_pos (show nI 1 = (1 : Int32) from rfl), rd_ok hi6 (by decide), v1]; exact key _
      | 2, _ =>
        rw [if_neg (show ¬ nI 2 = (0 : Int32) by decide), if_neg (show ¬ nI 2 = (1 : Int32) by decide), if_pos (show nI 2 = (2 : Int32) from rfl), rd_ok hi6 (by decide), v2]; exact key _
      | 3, _ =>
        rw [if_neg (show ¬ nI 3 = (0 : Int32) by decide), if_neg (show ¬ nI 3 = (1 : Int32) by decide), if_neg (show ¬ nI 3 = (2 : Int32) by decide), if_pos (show nI 3 = (3 : Int32) from rfl), v3, cl_some]; exact key _
      | 4, _ =>
        rw [if_neg (show ¬ nI 4 = (0 : Int32) by decide), if_neg (show ¬ nI 4 = (1 : Int32) by decide), if_neg (show ¬ nI 4 = (2 : Int32) by decide), if_neg (show ¬ nI 4 = (3 : Int32) by decide), if_pos (show nI 4 = (4 : Int32) from rfl), r17_s hi6, v4]; exact key _
      | 5, _ =>
        rw [if_neg (show ¬ nI 5 = (0 : Int32) by decide), if_neg (show ¬ nI 5 = (1 : Int32) by decide), if_neg (show ¬ nI 5 = (2 : Int32) by decide), if_neg (show ¬ nI 5 = (3 : Int32) by decide), if_neg (show ¬ nI 5 = (4 : Int32) by decide), if_pos (show nI 5 = (5 : Int32) from rfl), r17_d hi6, v5]; exact key _
      | 6, _ =>
        rw [if_neg (show ¬ nI 6 = (0 : Int32) by decide), if_neg (show ¬ nI 6 = (1 : Int32) by decide), if_neg (show ¬ nI 6 = (2 : Int32) by decide), if_neg (show ¬ nI 6 = (3 : Int32) by decide), if_neg (show ¬ nI 6 = (4 : Int32) by decide), if_neg (show ¬ nI 6 = (5 : Int32) by decide), if_pos (show nI 6 = (6 : Int32) from rfl), v6, cl_some]
        rw [show s_fact T (s_rep T ds) i 6 = bI (s_co (s_rep T ds).2.2.2.1 T.2.2.1 i) from rfl]
        cases s_co (s_rep T ds).2.2.2.1 T.2.2.1 i with
        | false => exact key 0
        | true => exact key 1
      | 7, _ =>
        rw [if_neg (show ¬ nI 7 = (0 : Int32) by decide), if_neg (show ¬ nI 7 = (1 : Int32) by decide), if_neg (show ¬ nI 7 = (2 : Int32) by decide), if_neg (show ¬ nI 7 = (3 : Int32) by decide), if_neg (show ¬ nI 7 = (4 : Int32) by decide), if_neg (show ¬ nI 7 = (5 : Int32) by decide), if_neg (show ¬ nI 7 = (6 : Int32) by decide), r17_4, v7]; exact key _
      | w + 8, hw => omega
    · rw [if_neg (show ¬ ((0 : Int32) ≤ y ∧ y ≤ 7) from g1), if_pos i00]
      by_cases q : y < 0
      · rw [if_pos q]; exact OkI.same h.rel _
      · rw [if_neg q, if_neg (show ¬ y < (8 : Int32) from Int32.not_lt.mpr (g2.resolve_left q))]; exact OkI.same h.rel _
  · rw [p1, p2, cl_some, cl_some, if_pos i00, if_pos i00]
    exact OkI.same h.rel _
theorem babe : ∀ n, n < 10 → ∀ a, a < 61 → (if (0 : Int32) < nI n - nI a then nI n - nI a else 0) = if nI n ≤ nI a then 0 else nI n - nI a := by decide +kernel
theorem rest3 : ∀ n, n < 41 → (2 : Int32) - (nI n - nI n / 3 * 3) = (122 - nI n) - (122 - nI n) / 3 * 3 := by decide +kernel
theorem nomore {N : Nat} (hN : 2000 ≤ N) {A B : bw_M} {T : Tw} {ds : List Dd} {ks : Nat → Option (List Dd)} (h : Rl A B T ds ks) {i : Nat} (hi : i < T.1) (y : Int32) : ∃ r, fX4_wantingNoMoreThan N (nI i) A = some r ∧ flX5_mark_151 N (nI i) y B N (0, 0) = some (r, B) := by
  have hp6 := h.p6
  obtain ⟨-, -, -, hT, ⟨b1, b2, b3⟩, hds, ⟨m1, m2, m3, m4⟩, hk⟩ := id h
  have hs := h.sok
  have cw : ∀ j, j < T.1 → fX3_wantNext 16 (nI j) A = some (nI (s_want (T.2.1 j) (T.2.2.2.1 j) (s_rep T ds).2.2.1)) := fun j hj => c_want (B := 40) (by decide) hT hs b1 b2 hj
  have mw : ∀ j, j < T.1 → fX5_wantsOn 9 17 (nI j) B = some (nI (s_want (T.2.1 j) (T.2.2.2.1 j) (s_rep T ds).2.2.1)) := fun j hj => m_want (Bn := 40) (by decide) hT hs m1 m2 hj
  unfold fX4_wantingNoMoreThan flX4_wantingNoMoreThan_14 flX5_mark_151
  rw [cw i hi, cl_some, mv_eq, mv_eq]
  refine lp_two (Z := fun x y => ∃ r, x = some r ∧ y = some (r, B)) (fun k s t => s.1 = t.1 ∧ s.2 = nI k ∧ t.2 = nI k) T.1 ?_ ?_ T.1 N N 0 _ _ (by omega) (by omega) (by omega) ⟨rfl, rfl, rfl⟩
  · intro k s t hk ⟨q0, q1, q2⟩
    left
    refine ⟨(s.1 + (if nI (s_want (T.2.1 i) (T.2.2.2.1 i) (s_rep T ds).2.2.1) < nI (s_want (T.2.1 k) (T.2.2.2.1 k) (s_rep T ds).2.2.1) then 0 else 1), nI (k + 1)), (s.1 + (if nI (s_want (T.2.1 i) (T.2.2.2.1 i) (s_rep T ds).2.2.1) < nI (s_want (T.2.1 k) (T.2.2.2.1 k) (s_rep T ds).2.2.1) then 0 else 1), nI (k + 1)), ⟨rfl, rfl, rfl⟩, fun kk => ?_, fun kk => ?_⟩
    · show fX4_wantingNoMoreThan_14 N (nI i) kk _ s.1 s.2 A = _
      unfold fX4_wantingNoMoreThan_14 fX4_wantingNoMoreThan_45
      rw [q1, h.eA, if_neg (nI_ge hk (by omega)), cw k hk, cl_some, mv_eq, mv_eq, mv_eq, mv_eq, nI_1]
      split <;> rfl
    · show fX5_mark_151 N (nI i) y kk t.1 t.2 B = _
      unfold fX5_mark_151 fX5_mark_188
      rw [q2, h.eB, if_neg (nI_ge hk (by omega)), mw k hk, cl_some, mw i hi, cl_some, mv_eq, mv_eq, mv_eq, mv_eq, nI_1, ← q0]
      split <;> rfl
  · intro s t ⟨q0, q1, q2⟩
    refine ⟨some s.1, some (s.1, B), ⟨_, rfl, rfl⟩, fun kk => ?_, fun kk => ?_⟩
    · show fX4_wantingNoMoreThan_14 N (nI i) kk _ s.1 s.2 A = _
      unfold fX4_wantingNoMoreThan_14
      rw [q1, h.eA, if_pos (nI_le (Nat.le_refl _) (by omega))]
    · show fX5_mark_151 N (nI i) y kk t.1 t.2 B = _
      unfold fX5_mark_151
      rw [q2, h.eB, if_pos (nI_le (Nat.le_refl _) (by omega)), q0]
theorem ok_mark {N : Nat} (hN : 2000 ≤ N) {A B : bw_M} (h : Rel A B) (x y : Int32) : OkI (fX4_mark N x y A) (fX5_mark N x y B) := by
  obtain ⟨T, ds, ks, h⟩ := h.rl
  have hp6 := h.p6
  obtain ⟨-, -, -, hT, ⟨b1, b2, b3⟩, hds, ⟨m1, m2, m3, m4⟩, hk⟩ := id h
  have hs := h.sok
  obtain ⟨c1, c2, c3, c4, c5, c6⟩ := id m2
  simp only [Nat.zero_add] at c1 c2 c3 c4 c5 c6
  unfold fX4_mark fX4_mark_21 fX5_mark fX5_mark_20 fX5_mark_116
  rw [in_I y 1 5 (by decide) (by decide), cl_some]
  rcases pipe_cases h x with ⟨i, hi, rfl, p1, p2⟩ | ⟨p1, p2⟩
  · rw [p1, p2, cl_some, cl_some, if_neg i10, if_neg i10]
    have hi6 : i < 6 := by omega
    obtain ⟨u1, u2, u3⟩ := m1.2 i hi
    obtain ⟨v1, v2, v3⟩ := b1.2.2.2 i hi
    obtain ⟨k5, f5, n1, n9⟩ := hT.2.2.2 i hi
    rcases ix_cases y (n := 6) (by decide) (by decide) with ⟨w, hw, rfl⟩ | ⟨g1, g2⟩
    · by_cases h0 : w = 0
      · rw [if_pos (show nI w ≤ (0 : Int32) from nI_le (b := 0) (by omega) (by decide)), if_neg (show ¬ ((1 : Int32) ≤ nI w ∧ nI w ≤ 5) from fun q => nI_ge (a := w) (b := 1) (by omega) (by decide) q.1), if_pos i00]
        exact OkI.same h.rel _
      · rw [if_neg (nI_nle (by omega) (by omega)), if_pos (show nI w < (6 : Int32) from nI_lt (b := 6) hw (by decide)), if_pos (show (1 : Int32) ≤ nI w ∧ nI w ≤ 5 from ⟨nI_le (a := 1) (by omega) (by omega), nI_le (b := 5) (by omega) (by decide)⟩), if_neg i10, rd_ok (M := A) (q := 17) hi6 (by decide), rd_ok (M := B) (q := 6) hi6 (by decide), u1, show A.1 17 i = nI (T.2.1 i) from v1, (isOf_eq _ (by omega) w hw (by omega)).1]
        rcases (isOf_eq (T.2.1 i) (by omega) w hw (by omega)).2 with e | e
        · rw [e, cl_some, cl_some, if_pos i00, if_pos i00]
          obtain ⟨A', B', hR, e1, e2⟩ := fnd h.rel (j := 3) (by decide) (x := 3) rfl
          rw [e1, e2, c2_some, c2_some]
          exact OkI.same hR _
        · rw [e, cl_some, cl_some, if_neg i10, if_neg i10]
          match w, hw, h0 with
          | 1, _, _ =>
            rw [if_pos (show nI 1 = (1 : Int32) from rfl), if_pos (show nI 1 = (1 : Int32) from rfl), rd_ok hi6 (by decide), r17_s hi6, (c6 i hi6).1, (b2.2.2.2.2.2 i hi6).1]
            exact OkI.same h.rel _
          | 2, _, _ =>
            rw [if_neg (show ¬ nI 2 = (1 : Int32) by decide), if_pos (show nI 2 = (2 : Int32) from rfl), if_neg (show ¬ nI 2 = (1 : Int32) by decide), if_pos (show nI 2 = (2 : Int32) from rfl), rd_ok hi6 (by decide), rd_ok hi6 (by decide), rd_ok hi6 (by decide), r17_0, r17_0, c1, b2.1, u3, v3, babe _ (by omega) _ (by have := hs.1; omega)]
            refine ⟨_, A, B, rfl, ?_, h.rel⟩
            split <;> rfl
          | 3, _, _ =>
            rw [if_neg (show ¬ nI 3 = (1 : Int32) by decide), if_neg (show ¬ nI 3 = (2 : Int32) by decide), if_pos (show nI 3 = (3 : Int32) from rfl), if_neg (show ¬ nI 3 = (1 : Int32) by decide), if_neg (show ¬ nI 3 = (2 : Int32) by decide), if_pos (show nI 3 = (3 : Int32) from rfl), c_want (B := 40) (by decide) hT hs b1 b2 hi, m_want (Bn := 40) (by decide) hT hs m1 m2 hi, cl_some, cl_some, rd_ok hi6 (by decide), rd_ok hi6 (by decide), u3, v3]
            exact OkI.same h.rel _
          | 4, _, _ =>
            unfold fX1_hoursToRest
            rw [if_neg (show ¬ nI 4 = (1 : Int32) by decide), if_neg (show ¬ nI 4 = (2 : Int32) by decide), if_neg (show ¬ nI 4 = (3 : Int32) by decide), if_pos (show nI 4 = (4 : Int32) from rfl), if_neg (show ¬ nI 4 = (1 : Int32) by decide), if_neg (show ¬ nI 4 = (2 : Int32) by decide), if_neg (show ¬ nI 4 = (3 : Int32) by decide), if_pos (show nI 4 = (4 : Int32) from rfl), cl_some, r17_2, c3, b2.2.2.1, rest3 _ (by have := hs.2.2.1; omega)]
            exact OkI.same h.rel _
          | 5, _, _ =>
            obtain ⟨r, e1, e2⟩ := nomore hN h hi (nI 5)
            rw [if_neg (show ¬ nI 5 = (1 : Int32) by decide), if_neg (show ¬ nI 5 = (2 : Int32) by decide), if_neg (show ¬ nI 5 = (3 : Int32) by decide), if_neg (show ¬ nI 5 = (4 : Int32) by decide), if_neg (show ¬ nI 5 = (1 : Int32) by decide), if_neg (show ¬ nI 5 = (2 : Int32) by decide), if_neg (show ¬ nI 5 = (3 : Int32) by decide), if_neg (show ¬ nI 5 = (4 : Int32) by decide), e1, cl_some, mv_eq, mv_eq, e2]
            exact OkI.same h.rel _
          | w + 6, hw, _ => omega
    · have z0 : (0 : Int32).toInt = 0 := by decide
      have z1 : (1 : Int32).toInt = 1 := by decide
      rw [if_neg (show ¬ ((1 : Int32) ≤ y ∧ y ≤ 5) from fun q => g1 ⟨by
        have := (i32le _ _).mp q.1
        rw [i32le]; omega, q.2⟩), if_pos i00]
      by_cases q : y ≤ 0
      · rw [if_pos q]; exact OkI.same h.rel _
      · rw [if_neg q, if_neg (show ¬ y < (6 : Int32) from Int32.not_lt.mpr (g2.resolve_left (fun q2 => q (by
          have := (i32lt _ _).mp q2
          rw [i32le]; omega))))]
        exact OkI.same h.rel _
  · rw [p1, p2, cl_some, cl_some, if_pos i00, if_pos i00]
    exact OkI.same h.rel _
theorem ok_asked {A B : bw_M} (h : Rel A B) : Ok1 (fX4_asked A) (fX5_asked B) := by
  unfold fX4_asked fX5_asked
  rw [h.2.2.1.1]; exact Ok1.same _
theorem ok_upper {A B : bw_M} (h : Rel A B) : Ok1 (fX4_upper A) (fX5_upper B) := by
  unfold fX4_upper fX5_upper
  rw [h.2.2.1.2.1]; exact Ok1.same _
theorem ok_lower {A B : bw_M} (h : Rel A B) : Ok1 (fX4_lower A) (fX5_lower B) := by
  unfold fX4_lower fX5_lower
  rw [h.2.2.1.2.2.1]; exact Ok1.same _
theorem ok_finding {A B : bw_M} (h : Rel A B) : Ok1 (fX4_finding A) (fX5_finding B) := by
  unfold fX4_finding fX5_finding
  rw [h.2.2.1.2.2.2.1]; exact Ok1.same _
