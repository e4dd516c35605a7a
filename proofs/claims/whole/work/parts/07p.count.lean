/-! count, digest -/
theorem sum_two {N : Nat} (hN : 2000 ≤ N) {A B : bw_M} {p c : Nat} {o : Nat} (hp : p ≤ 6) (eA : A.1 16 0 = nI p) (eB : B.1 0 9 = nI p) (ho : o + 6 ≤ 17) (he : ∀ i, i < 6 → A.1 c i = B.1 9 (o + i)) {x : Int32} (hx : x = nI o) : Ok1 (fX3_sumOf N 16 c 6 A) (fX5_together N x B) := by
  subst hx
  unfold fX3_sumOf fX5_together flX3_sumOf_4 flX5_together_4
  rw [mv_eq, mv_eq, mv_eq, mv_eq]
  refine lp_two (Z := Ok1) (fun k s t => s.1 = t.1 ∧ s.2 = nI k ∧ t.2 = nI k) p ?_ ?_ p N N 0 _ _ (by omega) (by omega) (by omega) ⟨rfl, rfl, rfl⟩
  · intro k s t hk ⟨q0, q1, q2⟩
    left
    refine ⟨(s.1 + A.1 c k, nI (k + 1)), (s.1 + A.1 c k, nI (k + 1)), ⟨rfl, rfl, rfl⟩, fun kk => ?_, fun kk => ?_⟩
    · show fX3_sumOf_4 N 16 c 6 kk s.1 s.2 A = _
      unfold fX3_sumOf_4
      rw [q1, eA, if_neg (nI_ge hk (by omega)), if_neg (show ¬ Int32.ofNat 6 ≤ nI k from nI_ge (b := 6) (by omega) (by decide)), rd_ok (by omega) (by decide), mv_eq, mv_eq, nI_1]
    · show fX5_together_4 N (nI o) kk t.1 t.2 B = _
      unfold fX5_together_4
      rw [q2, eB, if_neg (nI_ge hk (by omega)), nI_add, rd_ok (by omega) (by decide), mv_eq, mv_eq, nI_1, ← q0, he k (by omega)]
  · intro s t ⟨q0, q1, q2⟩
    refine ⟨some s.1, some s.1, ⟨_, rfl, rfl⟩, fun kk => ?_, fun kk => ?_⟩
    · show fX3_sumOf_4 N 16 c 6 kk s.1 s.2 A = _
      unfold fX3_sumOf_4 fX3_sumOf_30
      rw [q1, eA, if_pos (nI_le (Nat.le_refl _) (by omega))]
    · show fX5_together_4 N (nI o) kk t.1 t.2 B = _
      unfold fX5_together_4
      rw [q2, eB, if_pos (nI_le (Nat.le_refl _) (by omega)), q0]
theorem of_two {N : Nat} (hN : 2000 ≤ N) {A B : bw_M} {T : Tw} {ds : List Dd} {ks : Nat → Option (List Dd)} (h : Rl A B T ds ks) {j : Nat} (hj : j < 6) (hj0 : 0 < j) {x : Int32} (hx : x = nI j) : Ok1 (fX3_pipesOf N 16 x A) (fX5_those N x B) := by
  subst hx
  have hp6 := h.p6
  obtain ⟨-, -, -, hT, ⟨b1, b2, b3⟩, hds, ⟨m1, m2, m3, m4⟩, hk⟩ := id h
  unfold fX3_pipesOf fX5_those flX3_pipesOf_4 flX5_those_4
  rw [mv_eq, mv_eq, mv_eq, mv_eq]
  refine lp_two (Z := Ok1) (fun k s t => s.1 = t.1 ∧ s.2 = nI k ∧ t.2 = nI k) T.1 ?_ ?_ T.1 N N 0 _ _ (by omega) (by omega) (by omega) ⟨rfl, rfl, rfl⟩
  · intro k s t hk ⟨q0, q1, q2⟩
    left
    obtain ⟨i1, i2⟩ := isOf_eq (T.2.1 k) (by have := (hT.2.2.2 k hk).1; omega) j hj hj0
    obtain ⟨z, hz⟩ : ∃ z, fX5_isOf (nI (T.2.1 k)) (nI j) = some z := by
      rcases i2 with e | e
      · exact ⟨_, e⟩
      · exact ⟨_, e⟩
    refine ⟨(s.1 + (if z = 0 then 0 else 1), nI (k + 1)), (s.1 + (if z = 0 then 0 else 1), nI (k + 1)), ⟨rfl, rfl, rfl⟩, fun kk => ?_, fun kk => ?_⟩
    · show fX3_pipesOf_4 N 16 (nI j) kk s.1 s.2 A = _
      unfold fX3_pipesOf_4 fX3_pipesOf_31
      rw [q1, h.eA, if_neg (nI_ge hk (by omega)), rd_ok (by omega) (by decide), (b1.2.2.2 k hk).1, i1, hz, cl_some, mv_eq, mv_eq, mv_eq, mv_eq, nI_1]
      split <;> rfl
    · show fX5_those_4 N (nI j) kk t.1 t.2 B = _
      unfold fX5_those_4 fX5_those_31
      rw [q2, h.eB, if_neg (nI_ge hk (by omega)), rd_ok (by omega) (by decide), (m1.2 k hk).1, hz, cl_some, mv_eq, mv_eq, mv_eq, mv_eq, nI_1, ← q0]
      split <;> rfl
  · intro s t ⟨q0, q1, q2⟩
    refine ⟨some s.1, some s.1, ⟨_, rfl, rfl⟩, fun kk => ?_, fun kk => ?_⟩
    · show fX3_pipesOf_4 N 16 (nI j) kk s.1 s.2 A = _
      unfold fX3_pipesOf_4
      rw [q1, h.eA, if_pos (nI_le (Nat.le_refl _) (by omega))]
    · show fX5_those_4 N (nI j) kk t.1 t.2 B = _
      unfold fX5_those_4
      rw [q2, h.eB, if_pos (nI_le (Nat.le_refl _) (by omega)), q0]
theorem m1_or {x : Int32} {b : Nat} (hb : b < 2 ^ 31) (h : x = -1 ∨ ∃ n, n ≤ b ∧ x = nI n) : (x = -1 ∧ ¬ 0 ≤ x) ∨ (¬ x = -1 ∧ 0 ≤ x) := by
  rcases h with rfl | ⟨n, hn, rfl⟩
  · exact Or.inl ⟨rfl, by decide⟩
  · exact Or.inr ⟨nI_m1 (by omega), nI_pos' (by omega)⟩
theorem there_two {N : Nat} (hN : 2000 ≤ N) {A B : bw_M} {c q n b : Nat} (hn : n ≤ 6) (hb : b < 2 ^ 31) (he : ∀ i, i < n → A.1 c i = B.1 q i ∧ (A.1 c i = -1 ∨ ∃ m, m ≤ b ∧ A.1 c i = nI m)) {x : Int32} (hx : x = nI n) : Ok1 (fX4_thereOf N c n A) (fX5_there N q n x 1 B) := by
  subst hx
  unfold fX4_thereOf fX5_there flX4_thereOf_10 flX5_there_5
  rw [mv_eq, mv_eq, mv_eq, mv_eq, mv_eq]
  refine lp_two (Z := Ok1) (fun k s t => s.1 = t.1 ∧ s.2 = nI k ∧ t.2 = nI k) n ?_ ?_ n N N 0 _ _ (by omega) (by omega) (by omega) ⟨rfl, rfl, rfl⟩
  · intro k s t hk ⟨q0, q1, q2⟩
    left
    obtain ⟨e1, e2⟩ := he k hk
    refine ⟨(s.1 + (if A.1 c k = -1 then 0 else 1), nI (k + 1)), (s.1 + (if A.1 c k = -1 then 0 else 1), nI (k + 1)), ⟨rfl, rfl, rfl⟩, fun kk => ?_, fun kk => ?_⟩
    · show fX4_thereOf_10 N c n kk s.1 (Int32.ofNat n) s.2 A = _
      unfold fX4_thereOf_10 fX4_thereOf_34
      rw [q1, if_neg (show ¬ Int32.ofNat n ≤ nI k from nI_ge hk (by omega)), rd_ok hk (by omega), mv_eq, mv_eq, mv_eq, mv_eq, nI_1]
      split <;> rfl
    · show fX5_there_5 N q n (nI n) 1 kk t.1 t.2 B = _
      unfold fX5_there_5 fX5_there_26
      rw [q2, if_neg (nI_ge hk (by omega)), show (1 : Int32) * nI k = nI k by rw [show (1 : Int32) = nI 1 from rfl, pk_mul, Nat.one_mul], rd_ok hk (by omega), mv_eq, mv_eq, mv_eq, mv_eq, nI_1, ← q0, ← e1]
      rcases m1_or hb e2 with ⟨f1, f2⟩ | ⟨f1, f2⟩
      · rw [if_neg f2, if_pos f1]
      · rw [if_pos f2, if_neg f1]
  · intro s t ⟨q0, q1, q2⟩
    refine ⟨some s.1, some s.1, ⟨_, rfl, rfl⟩, fun kk => ?_, fun kk => ?_⟩
    · show fX4_thereOf_10 N c n kk s.1 (Int32.ofNat n) s.2 A = _
      unfold fX4_thereOf_10
      rw [q1, if_pos (show Int32.ofNat n ≤ nI n from nI_le (Nat.le_refl _) (by omega))]
    · show fX5_there_5 N q n (nI n) 1 kk t.1 t.2 B = _
      unfold fX5_there_5
      rw [q2, if_pos (nI_le (Nat.le_refl _) (by omega)), q0]
theorem kept_sz {A B : bw_M} {T : Tw} {j : Nat} {o : Option (List Dd)} (h : rl_kept A B T j o) : A.1 (32 + 3 * j) 2 = B.1 12 (698 * j) ∧ (A.1 (32 + 3 * j) 2 = -1 ∨ ∃ m, m ≤ 40 ∧ A.1 (32 + 3 * j) 2 = nI m) := by
  cases o with
  | none => exact ⟨by rw [h.1, h.2], Or.inl h.1⟩
  | some es => exact ⟨by rw [h.1.1, h.2.2.1], Or.inr ⟨_, h.1.2.1, h.1.1⟩⟩
theorem kept_two {N : Nat} (hN : 2000 ≤ N) {A B : bw_M} {T : Tw} {ds : List Dd} {ks : Nat → Option (List Dd)} (h : Rl A B T ds ks) : Ok1 (fX4_keptTowns N A) (fX5_there N 12 2094 3 698 B) := by
  have hk := h.2.2.2.2.2.2.2
  unfold fX4_keptTowns fX5_there flX4_keptTowns_4 flX5_there_5
  rw [mv_eq, mv_eq, mv_eq, mv_eq]
  refine lp_two (Z := Ok1) (fun k s t => s.1 = t.1 ∧ s.2 = nI k ∧ t.2 = nI k) 3 ?_ ?_ 3 N N 0 _ _ (by omega) (by omega) (by omega) ⟨rfl, rfl, rfl⟩
  · intro k s t hk' ⟨q0, q1, q2⟩
    left
    obtain ⟨e1, e2⟩ := kept_sz (hk k hk')
    refine ⟨(s.1 + (if A.1 (32 + 3 * k) 2 = -1 then 0 else 1), nI (k + 1)), (s.1 + (if A.1 (32 + 3 * k) 2 = -1 then 0 else 1), nI (k + 1)), ⟨rfl, rfl, rfl⟩, fun kk => ?_, fun kk => ?_⟩
    · show fX4_keptTowns_4 N kk s.1 s.2 A = _
      unfold fX4_keptTowns_4 fX4_keptTowns_28
      rw [q1, if_neg (show ¬ (3 : Int32) ≤ nI k from nI_ge (b := 3) hk' (by omega)), ra_ok hk' (by omega), mv_eq, mv_eq, mv_eq, mv_eq, nI_1]
      split <;> rfl
    · show fX5_there_5 N 12 2094 3 698 kk t.1 t.2 B = _
      unfold fX5_there_5 fX5_there_26
      rw [q2, if_neg (show ¬ (3 : Int32) ≤ nI k from nI_ge (b := 3) hk' (by omega)), show (698 : Int32) * nI k = nI (698 * k) from pk_mul 698 k, rd_ok (by omega) (by omega), mv_eq, mv_eq, mv_eq, mv_eq, nI_1, ← q0, ← e1]
      rcases m1_or (by decide) e2 with ⟨f1, f2⟩ | ⟨f1, f2⟩
      · rw [if_neg f2, if_pos f1]
      · rw [if_pos f2, if_neg f1]
  · intro s t ⟨q0, q1, q2⟩
    refine ⟨some s.1, some s.1, ⟨_, rfl, rfl⟩, fun kk => ?_, fun kk => ?_⟩
    · show fX4_keptTowns_4 N kk s.1 s.2 A = _
      unfold fX4_keptTowns_4
      rw [q1, if_pos (show (3 : Int32) ≤ nI 3 by decide)]
    · show fX5_there_5 N 12 2094 3 698 kk t.1 t.2 B = _
      unfold fX5_there_5
      rw [q2, if_pos (show (3 : Int32) ≤ nI 3 by decide), q0]
theorem ok_count {N : Nat} (hN : 2000 ≤ N) {A B : bw_M} (h : Rel A B) (x : Int32) : Ok1 (fX4_count N x A) (fX5_count N x B) := by
  obtain ⟨T, ds, ks, h⟩ := h.rl
  have hp6 := h.p6
  obtain ⟨h1, h2, -, hT, ⟨b1, b2, b3⟩, hds, ⟨m1, m2, m3, m4⟩, hk⟩ := id h
  obtain ⟨c1, c2, c3, c4, c5, c6⟩ := id m2
  simp only [Nat.zero_add] at c1 c2 c3 c4 c5 c6
  have hz : ∀ (u v : Option Int32), Ok1 u v → Ok1 (bw_cl u fun v => some v) (bw_cl v fun v => some v) := fun u v q => by
    rw [cl_id, cl_id]; exact q
  unfold fX4_count fX5_count
  by_cases h0 : x = 0
  · rw [if_pos h0, if_pos h0, h.eA, h.eB]; exact Ok1.same _
  rw [if_neg h0, if_neg h0]
  by_cases h0 : x = 1
  · rw [if_pos h0, if_pos h0, r17_0, c1, b2.1]; exact Ok1.same _
  rw [if_neg h0, if_neg h0]
  by_cases h0 : x = 2
  · rw [if_pos h0, if_pos h0, r17_1, c2, b2.2.1]; exact Ok1.same _
  rw [if_neg h0, if_neg h0]
  by_cases h0 : x = 3
  · rw [if_pos h0, if_pos h0, r17_2, c3, b2.2.2.1]; exact Ok1.same _
  rw [if_neg h0, if_neg h0]
  by_cases h0 : x = 4
  · rw [if_pos h0, if_pos h0, m3, b3.1]; exact Ok1.same _
  rw [if_neg h0, if_neg h0]
  by_cases h0 : x = 5
  · rw [if_pos h0, if_pos h0, r17_3, c4, b2.2.2.2.1]; exact Ok1.same _
  rw [if_neg h0, if_neg h0]
  by_cases h0 : x = 6
  · rw [if_pos h0, if_pos h0, r17_4, c5, b2.2.2.2.2.1]; exact Ok1.same _
  rw [if_neg h0, if_neg h0]
  by_cases h0 : x = 7
  · rw [if_pos h0, if_pos h0]
    exact hz _ _ (sum_two hN (o := 5) hp6 h.eA h.eB (by decide) (fun i hi => by rw [(c6 i hi).1]; exact (b2.2.2.2.2.2 i hi).1) rfl)
  rw [if_neg h0, if_neg h0]
  by_cases h0 : x = 8
  · rw [if_pos h0, if_pos h0]
    exact hz _ _ (sum_two hN (o := 11) hp6 h.eA h.eB (by decide) (fun i hi => by rw [(c6 i hi).2]; exact (b2.2.2.2.2.2 i hi).2) rfl)
  rw [if_neg h0, if_neg h0]
  by_cases h0 : x = 9
  · rw [if_pos h0, if_pos h0]
    exact hz _ _ (of_two hN h (j := 1) (by decide) (by decide) rfl)
  rw [if_neg h0, if_neg h0]
  by_cases h0 : x = 10
  · rw [if_pos h0, if_pos h0]
    exact hz _ _ (of_two hN h (j := 3) (by decide) (by decide) rfl)
  rw [if_neg h0, if_neg h0]
  by_cases h0 : x = 11
  · rw [if_pos h0, if_pos h0]
    exact hz _ _ (there_two hN (b := 40) (by decide) (by decide) (fun i hi => ⟨(h1 i hi).1, (h1 i hi).2.1⟩) rfl)
  rw [if_neg h0, if_neg h0]
  by_cases h0 : x = 12
  · rw [if_pos h0, if_pos h0]
    exact hz _ _ (there_two hN (b := 60) (by decide) (by decide) (fun i hi => ⟨(h2 i hi).1, (h2 i hi).2.1⟩) rfl)
  rw [if_neg h0, if_neg h0]
  by_cases h0 : x = 13
  · rw [if_pos h0, if_pos h0]
    exact hz _ _ (kept_two hN h)
  rw [if_neg h0, if_neg h0]
  exact Ok1.same _
/-- h, with what is laid upon it -/
def s_hs (f : Nat → Int32) (h : Int64) : Nat → Int64
  | 0 => h
  | j + 1 => 31 * s_hs f h j + Int32.toInt64 (f j)
theorem dg_txt {N : Nat} (hN : 2000 ≤ N) {A B : bw_M} (h2 : rl_txts A B) {t : Nat} (ht : t < 4) (g : Int64) : ∃ g', (∀ k, flX4_digest_200 N k (nI t) A N (g, 0) = k (g', nI (t + 1))) ∧ ∀ k, flX5_digest_293 N k (nI t) B N (g, 0) = k (g', nI (t + 1)) := by
  obtain ⟨a1, a2, a3⟩ := h2 t ht
  obtain ⟨n, hn, hle, hge⟩ : ∃ n, n ≤ 60 ∧ A.1 14 t ≤ nI n ∧ ∀ j, j < n → ¬ A.1 14 t ≤ nI j := by
    rcases a2 with e | ⟨n, hn, e⟩
    · exact ⟨0, by omega, by rw [e]; decide, fun j hj => by omega⟩
    · exact ⟨n, hn, by rw [e]; exact nI_le (Nat.le_refl _) (by omega), fun j hj => by rw [e]; exact nI_ge hj (by omega)⟩
  refine ⟨s_hs (A.1 (10 + t)) g n, fun k => ?_, fun k => ?_⟩
  · unfold flX4_digest_200
    obtain ⟨k', hk⟩ := lp_for (body := fun kk w => fX4_digest_200 N k kk w.1 (nI t) w.2 A) (fun j => (s_hs (A.1 (10 + t)) g j, nI j)) n (fun j hj kk => by
      show fX4_digest_200 N k kk (s_hs (A.1 (10 + t)) g j) (nI t) (nI j) A = _
      unfold fX4_digest_200
      rw [rd_ok ht (by decide), if_neg (hge j hj), ra_ok ht (by decide), rd_ok (by omega) (by decide), mv_eq, mv_eq, nI_1]
      rfl) n N 0 (by omega) (by omega)
    refine (show _ = _ from hk).trans ?_
    show fX4_digest_200 N k k' (s_hs (A.1 (10 + t)) g n) (nI t) (nI n) A = _
    unfold fX4_digest_200
    rw [rd_ok ht (by decide), if_pos hle, mv_eq, nI_1]
  · unfold flX5_digest_293
    obtain ⟨k', hk⟩ := lp_for (body := fun kk w => fX5_digest_293 N k kk w.1 (nI t) w.2 B) (fun j => (s_hs (A.1 (10 + t)) g j, nI j)) n (fun j hj kk => by
      show fX5_digest_293 N k kk (s_hs (A.1 (10 + t)) g j) (nI t) (nI j) B = _
      unfold fX5_digest_293
      rw [rd_ok ht (by decide), ← a1, if_neg (hge j hj), show (60 : Int32) * nI t = nI (60 * t) from pk_mul 60 t, nI_add, rd_ok (by omega) (by decide), ← a3 j (by omega), mv_eq, mv_eq, nI_1]
      rfl) n N 0 (by omega) (by omega)
    refine (show _ = _ from hk).trans ?_
    show fX5_digest_293 N k k' (s_hs (A.1 (10 + t)) g n) (nI t) (nI n) B = _
    unfold fX5_digest_293
    rw [rd_ok ht (by decide), ← a1, if_pos hle, mv_eq, nI_1]
theorem dg_row {N : Nat} (hN : 2000 ≤ N) {A B : bw_M} (h2 : rl_rows A B) {t : Nat} (ht : t < 6) (g : Int64) : ∃ g', (∀ k, flX4_digest_136 N k (nI t) A N (g, 0) = k (g', nI (t + 1))) ∧ ∀ k, flX5_digest_226 N k (nI t) B N (g, 0) = k (g', nI (t + 1)) := by
  obtain ⟨a1, a2, a3⟩ := h2 t ht
  obtain ⟨n, hn, hle, hge⟩ : ∃ n, n ≤ 40 ∧ A.1 8 t ≤ nI n ∧ ∀ j, j < n → ¬ A.1 8 t ≤ nI j := by
    rcases a2 with e | ⟨n, hn, e⟩
    · exact ⟨0, by omega, by rw [e]; decide, fun j hj => by omega⟩
    · exact ⟨n, hn, by rw [e]; exact nI_le (Nat.le_refl _) (by omega), fun j hj => by rw [e]; exact nI_ge hj (by omega)⟩
  refine ⟨s_hs (A.1 (2 + t)) g n, fun k => ?_, fun k => ?_⟩
  · unfold flX4_digest_136
    obtain ⟨k', hk⟩ := lp_for (body := fun kk w => fX4_digest_136 N k kk w.1 (nI t) w.2 A) (fun j => (s_hs (A.1 (2 + t)) g j, nI j)) n (fun j hj kk => by
      show fX4_digest_136 N k kk (s_hs (A.1 (2 + t)) g j) (nI t) (nI j) A = _
      unfold fX4_digest_136
      rw [rd_ok ht (by decide), if_neg (hge j hj), ra_ok ht (by decide), rd_ok (by omega) (by decide), mv_eq, mv_eq, nI_1]
      rfl) n N 0 (by omega) (by omega)
    refine (show _ = _ from hk).trans ?_
    show fX4_digest_136 N k k' (s_hs (A.1 (2 + t)) g n) (nI t) (nI n) A = _
    unfold fX4_digest_136
    rw [rd_ok ht (by decide), if_pos hle, mv_eq, nI_1]
  · unfold flX5_digest_226
    obtain ⟨k', hk⟩ := lp_for (body := fun kk w => fX5_digest_226 N k kk w.1 (nI t) w.2 B) (fun j => (s_hs (A.1 (2 + t)) g j, nI j)) n (fun j hj kk => by
      show fX5_digest_226 N k kk (s_hs (A.1 (2 + t)) g j) (nI t) (nI j) B = _
      unfold fX5_digest_226
      rw [rd_ok ht (by decide), ← a1, if_neg (hge j hj), show (40 : Int32) * nI t = nI (40 * t) from pk_mul 40 t, nI_add, rd_ok (by omega) (by decide), ← a3 j (by omega), mv_eq, mv_eq, nI_1]
      rfl) n N 0 (by omega) (by omega)
    refine (show _ = _ from hk).trans ?_
    show fX5_digest_226 N k k' (s_hs (A.1 (2 + t)) g n) (nI t) (nI n) B = _
    unfold fX5_digest_226
    rw [rd_ok ht (by decide), ← a1, if_pos hle, mv_eq, nI_1]
theorem dg_pipe {N : Nat} (hN : 2000 ≤ N) {A B : bw_M} {T : Tw} {ds : List Dd} {ks : Nat → Option (List Dd)} (h : Rl A B T ds ks) {i : Nat} (hi : i < T.1) (g : Int64) : ∀ k, flX4_digest_47 N k (nI i) A N (g, 0) = k (s_hs (s_fact T (s_rep T ds) i) g 8, nI (i + 1)) := by
  intro k
  have hp6 := h.p6
  unfold flX4_digest_47
  obtain ⟨k', hk⟩ := lp_for (body := fun kk w => fX4_digest_47 N k kk w.1 (nI i) w.2 A) (fun j => (s_hs (s_fact T (s_rep T ds) i) g j, nI j)) 8 (fun j hj kk => by
    show fX4_digest_47 N k kk (s_hs (s_fact T (s_rep T ds) i) g j) (nI i) (nI j) A = _
    unfold fX4_digest_47
    rw [if_neg (show ¬ (8 : Int32) ≤ nI j from nI_ge (b := 8) hj (by decide)), fact_C hN h hi j hj, cl_some, mv_eq, mv_eq, nI_1]
    rfl) 8 N 0 (by omega) (by omega)
  refine (show _ = _ from hk).trans ?_
  show fX4_digest_47 N k k' (s_hs (s_fact T (s_rep T ds) i) g 8) (nI i) (nI 8) A = _
  unfold fX4_digest_47
  rw [if_pos (show (8 : Int32) ≤ nI 8 by decide), mv_eq, nI_1]
theorem ok_digest {N : Nat} (hN : 2000 ≤ N) {A B : bw_M} (h : Rel A B) : Ok1 (fX4_digest N A) (fX5_digest N B) := by
  have hR := h
  obtain ⟨T, ds, ks, h⟩ := h.rl
  have hp6 := h.p6
  obtain ⟨h1, h2, -, hT, ⟨b1, b2, b3⟩, hds, ⟨m1, m2, m3, m4⟩, hk⟩ := id h
  have s5 : ∀ g, Ok1 (flX4_digest_178 N A N (g, 0)) (flX5_digest_271 N B N (g, 0)) := fun g => by
    unfold flX4_digest_178 flX5_digest_271
    refine lp_two (Z := Ok1) (fun k s t => s.1 = t.1 ∧ s.2 = nI k ∧ t.2 = nI k) 4 ?_ ?_ 4 N N 0 _ _ (by omega) (by omega) (by omega) ⟨rfl, rfl, rfl⟩
    · intro k s t hk ⟨q0, q1, q2⟩
      left
      obtain ⟨g', e1, e2⟩ := dg_txt hN h2 hk (31 * s.1 + Int32.toInt64 (A.1 14 k))
      refine ⟨(g', nI (k + 1)), (g', nI (k + 1)), ⟨rfl, rfl, rfl⟩, fun kk => ?_, fun kk => ?_⟩
      · show fX4_digest_178 N kk s.1 s.2 A = _
        unfold fX4_digest_178
        rw [q1, if_neg (show ¬ (4 : Int32) ≤ nI k from nI_ge (b := 4) hk (by decide)), rd_ok hk (by decide), mv_eq, mv_eq]
        exact e1 kk
      · show fX5_digest_271 N kk t.1 t.2 B = _
        unfold fX5_digest_271
        rw [q2, if_neg (show ¬ (4 : Int32) ≤ nI k from nI_ge (b := 4) hk (by decide)), rd_ok hk (by decide), mv_eq, mv_eq, ← (h2 k hk).1, ← q0]
        exact e2 kk
    · intro s t ⟨q0, q1, q2⟩
      refine ⟨some s.1, some s.1, ⟨_, rfl, rfl⟩, fun kk => ?_, fun kk => ?_⟩
      · show fX4_digest_178 N kk s.1 s.2 A = _
        unfold fX4_digest_178
        rw [q1, if_pos (show (4 : Int32) ≤ nI 4 by decide)]
      · show fX5_digest_271 N kk t.1 t.2 B = _
        unfold fX5_digest_271
        rw [q2, if_pos (show (4 : Int32) ≤ nI 4 by decide), q0]
  have s4 : ∀ g, Ok1 (flX4_digest_113 N A N (g, 0)) (flX5_digest_203 N B N (g, 0)) := fun g => by
    unfold flX4_digest_113 flX5_digest_203
    refine lp_two (Z := Ok1) (fun k s t => s.1 = t.1 ∧ s.2 = nI k ∧ t.2 = nI k) 6 ?_ ?_ 6 N N 0 _ _ (by omega) (by omega) (by omega) ⟨rfl, rfl, rfl⟩
    · intro k s t hk ⟨q0, q1, q2⟩
      left
      obtain ⟨g', e1, e2⟩ := dg_row hN h1 hk (31 * s.1 + Int32.toInt64 (A.1 8 k))
      refine ⟨(g', nI (k + 1)), (g', nI (k + 1)), ⟨rfl, rfl, rfl⟩, fun kk => ?_, fun kk => ?_⟩
      · show fX4_digest_113 N kk s.1 s.2 A = _
        unfold fX4_digest_113
        rw [q1, if_neg (show ¬ (6 : Int32) ≤ nI k from nI_ge (b := 6) hk (by decide)), rd_ok hk (by decide), mv_eq, mv_eq]
        exact e1 kk
      · show fX5_digest_203 N kk t.1 t.2 B = _
        unfold fX5_digest_203
        rw [q2, if_neg (show ¬ (6 : Int32) ≤ nI k from nI_ge (b := 6) hk (by decide)), rd_ok hk (by decide), mv_eq, mv_eq, ← (h1 k hk).1, ← q0]
        exact e2 kk
    · intro s t ⟨q0, q1, q2⟩
      refine ⟨_, _, s5 s.1, fun kk => ?_, fun kk => ?_⟩
      · show fX4_digest_113 N kk s.1 s.2 A = _
        unfold fX4_digest_113
        rw [q1, if_pos (show (6 : Int32) ≤ nI 6 by decide), mv_eq]
      · show fX5_digest_203 N kk t.1 t.2 B = _
        unfold fX5_digest_203
        rw [q2, if_pos (show (6 : Int32) ≤ nI 6 by decide), q0, mv_eq]
  have s3 : ∀ g, Ok1 (flX4_digest_83 N A N (g, 0)) (flX5_digest_172 N B N (g, 0)) := fun g => by
    unfold flX4_digest_83 flX5_digest_172
    refine lp_two (Z := Ok1) (fun k s t => s.1 = t.1 ∧ s.2 = nI k ∧ t.2 = nI k) 3 ?_ ?_ 3 N N 0 _ _ (by omega) (by omega) (by omega) ⟨rfl, rfl, rfl⟩
    · intro k s t hk' ⟨q0, q1, q2⟩
      left
      obtain ⟨e1, -⟩ := kept_sz (hk k hk')
      refine ⟨(31 * s.1 + Int32.toInt64 (A.1 (32 + 3 * k) 2), nI (k + 1)), (31 * s.1 + Int32.toInt64 (A.1 (32 + 3 * k) 2), nI (k + 1)), ⟨rfl, rfl, rfl⟩, fun kk => ?_, fun kk => ?_⟩
      · show fX4_digest_83 N kk s.1 s.2 A = _
        unfold fX4_digest_83
        rw [q1, if_neg (show ¬ (3 : Int32) ≤ nI k from nI_ge (b := 3) hk' (by decide)), ra_ok hk' (by decide), mv_eq, mv_eq, nI_1]
      · show fX5_digest_172 N kk t.1 t.2 B = _
        unfold fX5_digest_172
        rw [q2, if_neg (show ¬ (3 : Int32) ≤ nI k from nI_ge (b := 3) hk' (by decide)), show (698 : Int32) * nI k = nI (698 * k) from pk_mul 698 k, rd_ok (by omega) (by decide), ← e1, mv_eq, mv_eq, nI_1, q0]
    · intro s t ⟨q0, q1, q2⟩
      refine ⟨_, _, s4 s.1, fun kk => ?_, fun kk => ?_⟩
      · show fX4_digest_83 N kk s.1 s.2 A = _
        unfold fX4_digest_83
        rw [q1, if_pos (show (3 : Int32) ≤ nI 3 by decide), mv_eq]
      · show fX5_digest_172 N kk t.1 t.2 B = _
        unfold fX5_digest_172
        rw [q2, if_pos (show (3 : Int32) ≤ nI 3 by decide), q0, mv_eq]
  have s2 : ∀ g, Ok1 (flX4_digest_33 N A N (g, 0)) (flX5_digest_33 N B N (g, 0)) := fun g => by
    unfold flX4_digest_33 flX5_digest_33
    refine lp_two (Z := Ok1) (fun k s t => s.1 = t.1 ∧ s.2 = nI k ∧ t.2 = nI k) T.1 ?_ ?_ T.1 N N 0 _ _ (by omega) (by omega) (by omega) ⟨rfl, rfl, rfl⟩
    · intro k s t hk ⟨q0, q1, q2⟩
      left
      have hk6 : k < 6 := by omega
      obtain ⟨v0, v1, v2, v3, v4, v5, v6, v7⟩ := fact_M hN h hk
      refine ⟨(s_hs (s_fact T (s_rep T ds) k) s.1 8, nI (k + 1)), (s_hs (s_fact T (s_rep T ds) k) s.1 8, nI (k + 1)), ⟨rfl, rfl, rfl⟩, fun kk => ?_, fun kk => ?_⟩
      · show fX4_digest_33 N kk s.1 s.2 A = _
        unfold fX4_digest_33
        rw [q1, h.eA, if_neg (nI_ge hk (by omega)), mv_eq]
        exact dg_pipe hN h hk s.1 kk
      · show fX5_digest_33 N kk t.1 t.2 B = _
        unfold fX5_digest_33 fX5_digest_148
        rw [q2, h.eB, if_neg (nI_ge hk (by omega)), rd_ok hk6 (by decide), rd_ok hk6 (by decide), rd_ok hk6 (by decide), v0, v1, v2, v3, cl_some, mv_eq, r17_s hk6, r17_d hk6, v4, v5, v6, cl_some, r17_4, r17_4, v7]
        simp only [mv_eq, nI_1]
        rw [show s_fact T (s_rep T ds) k 6 = bI (s_co (s_rep T ds).2.2.2.1 T.2.2.1 k) from rfl, ← q0]
        have e6 : s_fact T (s_rep T ds) k 6 = bI (s_co (s_rep T ds).2.2.2.1 T.2.2.1 k) := rfl
        show _ = kk (31 * (31 * (31 * (31 * (31 * (31 * (31 * (31 * s.1 + _) + _) + _) + _) + _) + _) + Int32.toInt64 (bI (s_co (s_rep T ds).2.2.2.1 T.2.2.1 k))) + _, nI (k + 1))
        cases s_co (s_rep T ds).2.2.2.1 T.2.2.1 k with
        | false => rfl
        | true => rfl
    · intro s t ⟨q0, q1, q2⟩
      refine ⟨_, _, s3 s.1, fun kk => ?_, fun kk => ?_⟩
      · show fX4_digest_33 N kk s.1 s.2 A = _
        unfold fX4_digest_33
        rw [q1, h.eA, if_pos (nI_le (Nat.le_refl _) (by omega)), mv_eq]
      · show fX5_digest_33 N kk t.1 t.2 B = _
        unfold fX5_digest_33
        rw [q2, h.eB, if_pos (nI_le (Nat.le_refl _) (by omega)), q0, mv_eq]
  unfold fX4_digest fX5_digest flX4_digest_6 flX5_digest_6
  rw [mv_eq, mv_eq, mv_eq, mv_eq]
  refine lp_two (Z := Ok1) (fun k s t => s.1 = t.1 ∧ s.2 = nI k ∧ t.2 = nI k) 14 ?_ ?_ 14 N N 0 _ _ (by omega) (by omega) (by omega) ⟨rfl, rfl, rfl⟩
  · intro k s t hk ⟨q0, q1, q2⟩
    left
    obtain ⟨r, e1, e2⟩ := ok_count hN hR (nI k)
    refine ⟨(31 * s.1 + Int32.toInt64 r, nI (k + 1)), (31 * s.1 + Int32.toInt64 r, nI (k + 1)), ⟨rfl, rfl, rfl⟩, fun kk => ?_, fun kk => ?_⟩
    · show fX4_digest_6 N kk s.1 s.2 A = _
      unfold fX4_digest_6
      rw [q1, if_neg (show ¬ (14 : Int32) ≤ nI k from nI_ge (b := 14) hk (by decide)), e1, cl_some, mv_eq, mv_eq, nI_1]
    · show fX5_digest_6 N kk t.1 t.2 B = _
      unfold fX5_digest_6
      rw [q2, if_neg (show ¬ (14 : Int32) ≤ nI k from nI_ge (b := 14) hk (by decide)), e2, cl_some, mv_eq, mv_eq, nI_1, q0]
  · intro s t ⟨q0, q1, q2⟩
    refine ⟨_, _, s2 s.1, fun kk => ?_, fun kk => ?_⟩
    · show fX4_digest_6 N kk s.1 s.2 A = _
      unfold fX4_digest_6
      rw [q1, if_pos (show (14 : Int32) ≤ nI 14 by decide), mv_eq]
    · show fX5_digest_6 N kk t.1 t.2 B = _
      unfold fX5_digest_6
      rw [q2, if_pos (show (14 : Int32) ≤ nI 14 by decide), q0, mv_eq]
