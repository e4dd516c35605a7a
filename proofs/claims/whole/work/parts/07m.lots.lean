/-! lots -/
theorem lot_ok {N : Nat} (hN : 2000 ≤ N) {A B : bw_M} {T : Tw} {ds : List Dd} {ks : Nat → Option (List Dd)} (h : Rl A B T ds ks) (hp : ¬ T.1 = 0) (hl : ds.length < 40) {v : Nat} (hv : v < 2 ^ 31) : ∃ A' B' d, fX4_performLot N (nI v) A = some A' ∧ fX5_lot N (nI v) B = some B' ∧ Rl A' B' T (ds ++ [d]) ks := by
  have hp6 := h.p6
  have hT := h.2.2.2.1
  have hs := h.sok
  have q8 : nI v / 8 = nI (v / 8) := pk_div (d := 8) hv (by decide) (by decide)
  have q64 : nI v / 64 = nI (v / 64) := pk_div (d := 64) hv (by decide) (by decide)
  have r8 : nI (v / 8) - nI (v / 8) / 8 * 8 = nI (v / 8 % 8) := pk_rem (d := 8) (by omega) (by decide) (by decide)
  have r10 : nI (v / 64) - nI (v / 64) / 10 * 10 = nI (v / 64 % 10) := pk_rem (d := 10) (by omega) (by decide) (by decide)
  have r9 : nI (v / 64) - nI (v / 64) / 9 * 9 = nI (v / 64 % 9) := pk_rem (d := 9) (by omega) (by decide) (by decide)
  have rp : nI v - nI v / nI T.1 * nI T.1 = nI (v % T.1) := pk_rem hv (by omega) (by omega)
  have hm : v % T.1 < T.1 := Nat.mod_lt _ (by omega)
  have h0 : ¬ nI T.1 = 0 := fun q => hp ((nI_0' (by omega)).mp q)
  unfold fX4_performLot fX4_performLot_23 fX4_performLot_121 fX5_lot fX5_lot_133
  rw [h.eA, h.eB, if_neg (nI_nle (by omega) (by omega)), show decide (¬ nI T.1 = 0) = true from decide_eq_true h0, ck_true, ck_true, rp, q8, q64, r8, r10, r9]
  simp only [mv_eq]
  have hz : v / 8 % 8 < 8 := Nat.mod_lt _ (by decide)
  have ne : ∀ j, j < 8 → v / 8 % 8 ≠ j → ¬ nI (v / 8 % 8) = nI j := fun j hj q e => q ((nI_eq (by omega) (by omega)).mp e)
  by_cases z4 : v / 8 % 8 = 4
  · obtain ⟨A', B1, e1, e2, e3, e4, e5⟩ := deedN hN h (bl_cut hm) hl
    rw [z4, if_pos (show nI 4 = (4 : Int32) from rfl), show fX4_perform N 2 (nI (v % T.1)) A = some (s_ans T (s_rep T ds) (2, ((v % T.1 : Nat) : Int)), A') from e1, c2_some, e2, cl_some, if_pos (show nI 4 = (4 : Int32) from rfl), r17_3, w17_3, e4.2.2.2.1, xorI _ (p64 hp6 hs.2.2.2.1) _ (by omega)]
    exact ⟨_, _, _, rfl, rfl, e5 _ (ms_3 e4 _) (fun q hq => pI_ne hq) rfl⟩
  by_cases z5 : v / 8 % 8 = 5
  · obtain ⟨A', B1, e1, e2, e3, e4, e5⟩ := deedN hN h (bl_leak hm) hl
    rw [z5, if_neg (show ¬ nI 5 = (4 : Int32) by decide), if_pos (show nI 5 = (5 : Int32) from rfl), show fX4_perform N 3 (nI (v % T.1)) A = some (s_ans T (s_rep T ds) (3, ((v % T.1 : Nat) : Int)), A') from e1, c2_some, e2, cl_some, if_neg (show ¬ nI 5 = (4 : Int32) by decide), if_pos (show nI 5 = (5 : Int32) from rfl), r17_4, w17_4, e4.2.2.2.2.1, xorI _ (p64 hp6 hs.2.2.2.2.1) _ (by omega)]
    exact ⟨_, _, _, rfl, rfl, e5 _ (ms_4 e4 _) (fun q hq => pI_ne hq) rfl⟩
  by_cases z6 : v / 8 % 8 = 6
  · obtain ⟨A', B1, e1, e2, e3, e4, e5⟩ := deedN hN h (bl_stroke (show v / 64 % 10 ≤ 9 by omega)) hl
    rw [z6, if_neg (show ¬ nI 6 = (4 : Int32) by decide), if_neg (show ¬ nI 6 = (5 : Int32) by decide), if_pos (show nI 6 = (6 : Int32) from rfl), show fX4_perform N 4 (nI (v / 64 % 10)) A = some (s_ans T (s_rep T ds) (4, ((v / 64 % 10 : Nat) : Int)), A') from e1, c2_some, e2, cl_some, if_neg (show ¬ nI 6 = (4 : Int32) by decide), if_neg (show ¬ nI 6 = (5 : Int32) by decide), if_pos (show nI 6 = (6 : Int32) from rfl), w17_1]
    exact ⟨_, _, _, rfl, rfl, e5 _ (ms_1 e4 _) (fun q hq => pI_ne hq) rfl⟩
  by_cases z7 : v / 8 % 8 = 7
  · obtain ⟨A', B1, e1, e2, e3, e4, e5⟩ := deedN hN h (bl_air (show v / 64 % 9 + 1 ≤ 9 by omega)) hl
    have ha := hs.1
    rw [z7, if_neg (show ¬ nI 7 = (4 : Int32) by decide), if_neg (show ¬ nI 7 = (5 : Int32) by decide), if_neg (show ¬ nI 7 = (6 : Int32) by decide), if_pos (show nI 7 = (7 : Int32) from rfl), nI_1, show fX4_perform N 1 (nI (v / 64 % 9 + 1)) A = some (s_ans T (s_rep T ds) (1, ((v / 64 % 9 + 1 : Nat) : Int)), A') from e1, c2_some, e2, cl_some, if_neg (show ¬ nI 7 = (4 : Int32) by decide), if_neg (show ¬ nI 7 = (5 : Int32) by decide), if_neg (show ¬ nI 7 = (6 : Int32) by decide), if_pos (show nI 7 = (7 : Int32) from rfl), r17_0, e4.1, nI_1, nI_add, lesser60 (by omega), cl_some, w17_0]
    refine ⟨_, _, _, rfl, rfl, e5 _ ?_ (fun q hq => pI_ne hq) rfl⟩
    have ev : (min 60 (max 0 (((s_rep T ds).1 : Int) + ((v / 64 % 9 + 1 : Nat) : Int)))).toNat = min 60 ((s_rep T ds).1 + 1 + v / 64 % 9) := by omega
    show m_st _ 9 0 ((min 60 (max 0 (((s_rep T ds).1 : Int) + ((v / 64 % 9 + 1 : Nat) : Int)))).toNat, (s_rep T ds).2)
    rw [ev]
    exact ms_0 e4 _
  · obtain ⟨A', B1, e1, e2, e3, e4, e5⟩ := deedN hN h bl_hour hl
    obtain ⟨B2, f1, f2, f3, f4⟩ := m_goes (q := 9) hN (B := 40) (by decide) (by decide) hT hs e3 e4
    rw [if_neg (show ¬ nI (v / 8 % 8) = (4 : Int32) from ne 4 (by decide) z4), if_neg (show ¬ nI (v / 8 % 8) = (5 : Int32) from ne 5 (by decide) z5), if_neg (show ¬ nI (v / 8 % 8) = (6 : Int32) from ne 6 (by decide) z6), if_neg (show ¬ nI (v / 8 % 8) = (7 : Int32) from ne 7 (by decide) z7), show fX4_perform N 0 0 A = some (s_ans T (s_rep T ds) (0, ((0 : Nat) : Int)), A') from e1, c2_some, e2, cl_some, if_neg (show ¬ nI (v / 8 % 8) = (4 : Int32) from ne 4 (by decide) z4), if_neg (show ¬ nI (v / 8 % 8) = (5 : Int32) from ne 5 (by decide) z5), if_neg (show ¬ nI (v / 8 % 8) = (6 : Int32) from ne 6 (by decide) z6), if_neg (show ¬ nI (v / 8 % 8) = (7 : Int32) from ne 7 (by decide) z7), f1, c2_some]
    exact ⟨_, _, _, rfl, rfl, e5 _ f2 f3 f4⟩
theorem ok_lots {N : Nat} (hN : 2000 ≤ N) {A B : bw_M} (h : Rel A B) (x y : Int32) : OkI (fX4_lots N x y A) (fX5_lots N x y B) := by
  obtain ⟨T, ds, ks, h⟩ := h.rl
  have hp6 := h.p6
  obtain ⟨-, -, -, hT, ⟨b1, b2, b3⟩, hds, ⟨m1, m2, m3, m4⟩, hk⟩ := id h
  have h40 := b3.2.1
  have ey : (lg_cmp (Int32.toInt64 y) (2147483647 : Int64) < 0) ↔ y < (2147483647 : Int32) := (lgc y 2147483647).1
  have zA : (2147483647 : Int32).toInt = 2147483647 := by decide
  have zB : (2147483646 : Int32).toInt = 2147483646 := by decide
  have z1 : (1 : Int32).toInt = 1 := by decide
  have z20 : (20 : Int32).toInt = 20 := by decide
  unfold fX4_lots fX4_lots_25 fX5_lots fX5_lots_24 fX5_refuses fX5_refuses_29
  rw [in_I x 1 20 (by decide) (by decide), in_I y 1 2147483646 (by decide) (by decide), cl_some, cl_some]
  by_cases hx : (1 : Int32) ≤ x ∧ x ≤ 20
  · rw [if_pos hx, if_neg i10, if_neg (Int32.not_lt.mpr hx.1), if_neg (Int32.not_lt.mpr hx.2)]
    by_cases hy : (1 : Int32) ≤ y ∧ y ≤ 2147483646
    · have hy2 : y < (2147483647 : Int32) := by
        have := (i32le _ _).mp hy.2
        rw [i32lt]; omega
      rw [if_pos hy, if_neg i10, if_neg (Int32.not_lt.mpr hy.1), if_pos (ey.mpr hy2), h.eA, h.eB]
      by_cases hp : T.1 = 0
      · rw [if_pos ((nI_0' (by omega)).mpr hp), if_pos ((nI_0' (by omega)).mpr hp), cl_some, if_neg (show ¬ (-4 : Int32) = 0 by decide)]
        exact OkI.same h.rel _
      · obtain ⟨n, hn, hn1, rfl⟩ : ∃ n, n ≤ 20 ∧ 1 ≤ n ∧ x = nI n := by
          have q1 := (i32le _ _).mp hx.1
          have q2 := (i32le _ _).mp hx.2
          obtain ⟨j, e, e2, -⟩ := nI_of_toInt (x := x) (by omega)
          exact ⟨j, by omega, by omega, e⟩
        obtain ⟨l, hl, rfl⟩ : ∃ l, l < 2147483647 ∧ y = nI l := by
          have q1 := (i32le _ _).mp hy.1
          have q2 := (i32le _ _).mp hy.2
          obtain ⟨j, e, e2, -⟩ := nI_of_toInt (x := y) (by omega)
          exact ⟨j, by omega, e⟩
        rw [if_neg (fun q => hp ((nI_0' (by omega)).mp q)), if_neg (fun q => hp ((nI_0' (by omega)).mp q)), b3.1, m3, nI_add]
        by_cases hf : ds.length + n ≤ 40
        · rw [if_pos (show nI (ds.length + n) ≤ (40 : Int32) from nI_le (b := 40) hf (by decide)), if_pos (show nI (ds.length + n) ≤ (40 : Int32) from nI_le (b := 40) hf (by decide)), cl_some, if_pos i00]
          simp only [mv_eq]
          unfold flX4_lots_63 flX5_lots_45
          refine lp_two (fun k s t => s.2.1 = nI k ∧ t.2.1 = nI k ∧ (∃ l, l < 2147483647 ∧ s.1 = lN l ∧ t.1 = lN l) ∧ ∃ ds', ds'.length = ds.length + k ∧ Rl s.2.2 t.2.2 T ds' ks) OkI n ?_ ?_ n N N 0 _ _ (by omega) (by omega) (by omega) ⟨rfl, rfl, ⟨l, hl, nI_l (by omega), nI_l (by omega)⟩, ds, rfl, h⟩
          · intro k s t hk ⟨q1, q2, ⟨l, hl, q3, q4⟩, ds', q5, q6⟩
            left
            have hm : l * 48271 % 2147483647 < 2147483647 := Nat.mod_lt _ (by decide)
            have el : (lN l * 48271) - (lN l * 48271) / 2147483647 * 2147483647 = lN (l * 48271 % 2147483647) := by
              rw [show (48271 : Int64) = lN 48271 from rfl, show (2147483647 : Int64) = lN 2147483647 from rfl, lN_mul, pk_lRem (by omega) (by decide) (by decide)]
            obtain ⟨A', B', d, e1, e2, e3⟩ := lot_ok hN q6 hp (by omega) (v := l * 48271 % 2147483647) (by omega)
            refine ⟨(lN (l * 48271 % 2147483647), nI (k + 1), A'), (lN (l * 48271 % 2147483647), nI (k + 1), B'), ⟨rfl, rfl, ⟨_, hm, rfl, rfl⟩, ds' ++ [d], by rw [List.length_append, q5]; rfl, e3⟩, fun kk => ?_, fun kk => ?_⟩
            · show fX4_lots_63 N (nI n) (nI _) kk s.1 s.2.1 s.2.2 = _
              unfold fX4_lots_63
              rw [q1, q3, if_neg (nI_ge hk (by omega)), mv_eq, el, lN_i, e1, cl_some, mv_eq, nI_1]
            · show fX5_lots_45 N (nI n) (nI _) kk t.1 t.2.1 t.2.2 = _
              unfold fX5_lots_45
              rw [q2, q4, if_neg (nI_ge hk (by omega)), mv_eq, el, lN_i, e2, cl_some, mv_eq, nI_1]
          · intro s t ⟨q1, q2, _, ds', q5, q6⟩
            refine ⟨some (s.2.2.1 16 3, s.2.2), some (t.2.2.1 9 0, t.2.2), ?_, fun kk => ?_, fun kk => ?_⟩
            · have g1 : s.2.2.1 16 3 = nI (s_rep T ds').1 := q6.2.2.2.2.1.2.1.1
              have g2 : t.2.2.1 9 0 = nI (s_rep T ds').1 := q6.2.2.2.2.2.2.1.2.1.1
              rw [g1, g2]
              exact OkI.same q6.rel _
            · show fX4_lots_63 N (nI n) (nI _) kk s.1 s.2.1 s.2.2 = _
              unfold fX4_lots_63
              rw [q1, if_pos (nI_le (Nat.le_refl _) (by omega))]
            · show fX5_lots_45 N (nI n) (nI _) kk t.1 t.2.1 t.2.2 = _
              unfold fX5_lots_45
              rw [q2, if_pos (nI_le (Nat.le_refl _) (by omega)), r17_0]
        · rw [if_neg (show ¬ nI (ds.length + n) ≤ (40 : Int32) from nI_ge (a := 40) (by omega) (by omega)), if_neg (show ¬ nI (ds.length + n) ≤ (40 : Int32) from nI_ge (a := 40) (by omega) (by omega)), cl_some, if_neg (show ¬ (-2 : Int32) = 0 by decide)]
          exact OkI.same h.rel _
    · rw [if_neg hy, if_pos i00]
      by_cases q : y < 1
      · rw [if_pos q]; exact OkI.same h.rel _
      · rw [if_neg q, if_neg (fun q2 => hy ⟨Int32.not_lt.mp q, by
          have := (i32lt _ _).mp (ey.mp q2)
          rw [i32le]; omega⟩)]
        exact OkI.same h.rel _
  · rw [if_neg hx, if_pos i00]
    by_cases q : x < 1
    · rw [if_pos q]; exact OkI.same h.rel _
    · rw [if_neg q, if_pos (Int32.not_le.mp (fun q2 => hx ⟨Int32.not_lt.mp q, q2⟩))]; exact OkI.same h.rel _
