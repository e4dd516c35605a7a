/-! A pipe read; the whole text; fault, town -/
theorem kindEq (x : Int32) : fX5_kindOf x = fX1_ofLetter x := rfl
theorem kind_or (x : Int32) : (∃ k, k ≤ 5 ∧ fX1_ofLetter x = some (nI k)) ∨ fX1_ofLetter x = some (-9) := by
  unfold fX1_ofLetter
  simp only [ite_self]
  by_cases h1 : x = 98
  · rw [if_pos h1]; exact Or.inl ⟨2, by decide, rfl⟩
  rw [if_neg h1]
  by_cases h1 : x = 108
  · rw [if_pos h1]; exact Or.inl ⟨5, by decide, rfl⟩
  rw [if_neg h1]
  by_cases h1 : x = 111
  · rw [if_pos h1]; exact Or.inl ⟨4, by decide, rfl⟩
  rw [if_neg h1]
  by_cases h1 : x = 112
  · rw [if_pos h1]; exact Or.inl ⟨0, by decide, rfl⟩
  rw [if_neg h1]
  by_cases h1 : x = 115
  · rw [if_pos h1]; exact Or.inl ⟨1, by decide, rfl⟩
  rw [if_neg h1]
  by_cases h1 : x = 116
  · rw [if_pos h1]; exact Or.inl ⟨3, by decide, rfl⟩
  rw [if_neg h1]
  exact Or.inr rfl
theorem rd_pipe {A B : bw_M} {v : Nat → Int32} {t n i : Nat} {T : Tw} (ht : t < 4) (hn : n ≤ 60) (hin : i < n) (hA : rdC A t n i) (hB : rdM B t n i) (hvA : ∀ j, j < 60 → A.1 (10 + t) j = v j) (hvB : ∀ j, j < 60 → B.1 3 (60 * t + j) = v j) (hT : t_ok T) (hp : T.1 < 6) (tA : twC A T) (tB : twM B T) : (∃ j B', j < 1000 ∧ fX2_readPipe 22 A = some (nI j, A) ∧ fX5_readsPipe B = some (0, B') ∧ B'.1 0 18 = nI j ∧ krM B B') ∨ (∃ A' B' T', fX2_readPipe 22 A = some (-9, A') ∧ fX5_readsPipe B = some (1, B') ∧ T'.1 = T.1 + 1 ∧ t_ok T' ∧ twC A' T' ∧ twM B' T' ∧ i + 3 ≤ n ∧ rdC A' t n (i + 3) ∧ rdM B' t n (i + 3) ∧ krC A A' ∧ krM B B') := by
  have a2 := hA.2.2
  have an : ∀ k, k < 2 ^ 20 → ∃ z, fX2_figureAt (nI k) A = some z ∧ ((∃ d, isFg v n k d ∧ z = nI d) ∨ ((¬ ∃ d, isFg v n k d) ∧ z = -9)) := fun k hk => by
    rcases fg_or v n k with ⟨d3, f3⟩ | f3
    · exact ⟨_, fg_C ht hn hA hk hvA f3, Or.inl ⟨d3, f3, rfl⟩⟩
    · exact ⟨_, fg_C' ht hn hA hk hvA f3, Or.inr ⟨f3, rfl⟩⟩
  obtain ⟨z1, hz1, y1⟩ := an (i + 1) (by omega)
  obtain ⟨z2, hz2, y2⟩ := an (i + 2) (by omega)
  obtain ⟨⟨cA0, cA1, cA2, cA3⟩, sA⟩ := id tA
  obtain ⟨m0, m1, m2, m3⟩ := id tB
  unfold fX2_readPipe fX2_readPipe_60 fX2_readPipe_79 fX5_readsPipe fX5_readsPipe_23
  rw [a2, sg_C ht hn hA (by omega), cl_some, sg_M ht hn hB (by omega), cl_some, if_pos hin, if_pos hin, hvA i (by omega), hvB i (by omega), kindEq, nI_1, show nI i + 2 = nI (i + 2) from nI_add i 2]
  rcases kind_or (v i) with ⟨k, hk, ek⟩ | ek
  · rw [ek, cl_some, cl_some, hz1, cl_some, hz2, cl_some, if_neg (nI_m9 (by omega)), if_neg (nI_m9 (by omega)), m0, if_neg (show ¬ nI T.1 = (6 : Int32) from fun q => by have := (nI_eq (a := T.1) (b := 6) (by omega) (by decide)).mp q; omega), mv_eq, hB.2.2, nI_1, cA0, show (bw_pI B 0 18 (nI (i + 1))).1 0 24 = nI T.1 by rw [pI_n (by decide)]; exact m0]
    have hB1 : rdM (bw_pI B 0 18 (nI (i + 1))) t n (i + 1) := ⟨by rw [pI_n (by decide)]; exact hB.1, by rw [pI_n (by decide)]; exact hB.2.1, pI_s⟩
    have hv1 : ∀ j, j < 60 → (bw_pI B 0 18 (nI (i + 1))).1 3 (60 * t + j) = v j := fun j hj => by rw [pI_ne (by decide)]; exact hvB j hj
    rcases y1 with ⟨d1, f1, rfl⟩ | ⟨f1, rfl⟩
    · have hd1 := f1.1
      have hi1 := f1.2.1
      rw [if_neg (nI_m9 (by omega)), fg_M ht hn hB1 (by omega) hv1 f1 (hi := T.1) (by omega) (lo := 0) (x := 0) (y := nI T.1) rfl rfl (by decide)]
      by_cases hb : d1 ≤ T.1
      · rw [if_pos (show nI d1 ≤ nI T.1 from nI_le hb (by omega)), if_pos (show 0 ≤ d1 ∧ d1 ≤ T.1 from ⟨Nat.zero_le _, hb⟩), c2_some, if_neg i10, show (bw_pI (bw_pI (bw_pI B 0 18 (nI (i + 1))) 0 21 (nI d1)) 0 18 (nI (i + 1 + 1))).1 0 24 = nI T.1 by rw [pI_n (by decide), pI_n (by decide), pI_n (by decide)]; exact m0, wr_ok hp (by decide)]
        generalize hM2 : bw_pI (bw_pI (bw_pI (bw_pI B 0 18 (nI (i + 1))) 0 21 (nI d1)) 0 18 (nI (i + 1 + 1))) 13 T.1 (nI k) = B2
        have k2 : krM B B2 := by
          subst hM2
          exact ((((krM_f (by decide) (by decide) (by decide)).tr (krM_f (by decide) (by decide) (by decide))).tr (krM_f (by decide) (by decide) (by decide))).tr (krM_c (by decide) (by decide)))
        have g2 : rdM B2 t n (i + 2) ∧ B2.1 0 21 = nI d1 ∧ (∀ f, 22 ≤ f → B2.1 0 f = B.1 0 f) ∧ (∀ j, B2.1 13 j = if j = T.1 then nI k else B.1 13 j) ∧ B2.1 14 = B.1 14 ∧ B2.1 15 = B.1 15 := by
          subst hM2
          exact ⟨⟨by rw [pI_ne (by decide), pI_n (by decide), pI_n (by decide), pI_n (by decide)]; exact hB.1, by rw [pI_ne (by decide), pI_n (by decide), pI_n (by decide), pI_n (by decide)]; exact hB.2.1, by rw [pI_ne (by decide), pI_s]⟩, by rw [pI_ne (by decide), pI_n (by decide), pI_s], fun f hf => by rw [pI_ne (by decide), pI_n (by omega), pI_n (by omega), pI_n (by omega)], fun j => by rw [pI_rd, pI_ne (by decide), pI_ne (by decide), pI_ne (by decide)], by rw [pI_ne (by decide), pI_ne (by decide), pI_ne (by decide), pI_ne (by decide)], by rw [pI_ne (by decide), pI_ne (by decide), pI_ne (by decide), pI_ne (by decide)]⟩
        clear hM2
        obtain ⟨g21, g22, g23, g24, g25, g26⟩ := g2
        have e85 : (if B2.1 0 21 = 0 then fX5_readsPipe_85 (B2.1 0 24) (-9) B2 else fX5_readsPipe_85 (B2.1 0 24) (B2.1 0 21 - 1) B2) = fX5_readsPipe_85 (nI T.1) (eF d1) B2 := by
          rw [g22, g23 24 (by decide), m0]
          unfold eF
          by_cases q : d1 = 0
          · rw [if_pos ((nI_0' (by omega)).mpr q), if_pos q]
          · rw [if_neg (fun z => q ((nI_0' (by omega)).mp z)), if_neg q, show nI d1 - 1 = nI (d1 - 1) from pk_sub (b := 1) (by omega)]
        have e100 : (if nI d1 = 0 then fX2_readPipe_100 22 z2 (nI k) (-9) A else fX2_readPipe_100 22 z2 (nI k) (nI d1 - 1) A) = fX2_readPipe_100 22 z2 (nI k) (eF d1) A := by
          unfold eF
          by_cases q : d1 = 0
          · rw [if_pos ((nI_0' (by omega)).mpr q), if_pos q]
          · rw [if_neg (fun z => q ((nI_0' (by omega)).mp z)), if_neg q, show nI d1 - 1 = nI (d1 - 1) from pk_sub (b := 1) (by omega)]
        rw [e85, e100]
        unfold fX5_readsPipe_85
        rw [wr_ok hp (by decide)]
        have hB3 : rdM (bw_pI B2 14 T.1 (eF d1)) t n (i + 2) := ⟨by rw [pI_ne (by decide)]; exact g21.1, by rw [pI_ne (by decide)]; exact g21.2.1, by rw [pI_ne (by decide)]; exact g21.2.2⟩
        have hv3 : ∀ j, j < 60 → (bw_pI B2 14 T.1 (eF d1)).1 3 (60 * t + j) = v j := fun j hj => by rw [pI_ne (by decide), k2.1 3 (by decide) (by omega)]; exact hvB j hj
        have k3 : krM B (bw_pI B2 14 T.1 (eF d1)) := k2.tr (krM_c (by decide) (by decide))
        rcases y2 with ⟨d2, f2, rfl⟩ | ⟨f2, rfl⟩
        · have hd2 := f2.1
          have hi2 := f2.2.1
          rw [if_neg (nI_m9 (by omega)), fg_M ht hn hB3 (by omega) hv3 f2 (hi := 9) (by decide) (lo := 1) (x := 1) (y := 9) rfl rfl (by decide)]
          by_cases h0 : d2 = 0
          · left
            rw [if_pos ((nI_0' (by omega)).mpr h0), if_neg (show ¬ (1 ≤ d2 ∧ d2 ≤ 9) by omega), c2_some, if_pos i00]
            exact ⟨i + 2, _, by omega, rfl, rfl, hB3.2.2, k3⟩
          · right
            rw [if_neg (fun q => h0 ((nI_0' (by omega)).mp q)), if_pos (show 1 ≤ d2 ∧ d2 ≤ 9 by omega), c2_some, if_neg i10]
            generalize hM4 : bw_pI (bw_pI (bw_pI B2 14 T.1 (eF d1)) 0 21 (nI d2)) 0 18 (nI (i + 2 + 1)) = B4
            have k4 : krM B B4 := by
              subst hM4
              exact (k3.tr (krM_f (by decide) (by decide) (by decide))).tr (krM_f (by decide) (by decide) (by decide))
            have g4 : rdM B4 t n (i + 3) ∧ B4.1 0 21 = nI d2 ∧ (∀ f, 22 ≤ f → B4.1 0 f = B.1 0 f) ∧ (∀ j, B4.1 13 j = if j = T.1 then nI k else B.1 13 j) ∧ (∀ j, B4.1 14 j = if j = T.1 then eF d1 else B.1 14 j) ∧ B4.1 15 = B.1 15 := by
              subst hM4
              exact ⟨⟨by rw [pI_n (by decide), pI_n (by decide)]; exact hB3.1, by rw [pI_n (by decide), pI_n (by decide)]; exact hB3.2.1, by rw [pI_s]⟩, by rw [pI_n (by decide), pI_s], fun f hf => by rw [pI_n (by omega), pI_n (by omega), pI_ne (by decide)]; exact g23 f hf, fun j => by rw [pI_ne (by decide), pI_ne (by decide), pI_ne (by decide)]; exact g24 j, fun j => by rw [pI_ne (by decide), pI_ne (by decide), pI_rd, g25], by rw [pI_ne (by decide), pI_ne (by decide), pI_ne (by decide)]; exact g26⟩
            clear hM4
            obtain ⟨g41, g42, g43, g44, g45, g46⟩ := g4
            rw [g42, g43 24 (by decide), m0, wr_ok hp (by decide), mv_eq, pI_ne (by decide), g43 24 (by decide), m0, nI_1]
            unfold fX2_readPipe_100 fX3_join fX3_join_49
            rw [cA0, if_neg (show ¬ (6 : Int32) ≤ nI T.1 from nI_ge (b := 6) hp (by decide)), wr_ok hp (by decide), pI_ne (by decide), cA0, wr_ok hp (by decide), pI_ne (by decide), pI_ne (by decide), cA0, wr_ok hp (by decide), mv_eq, pI_ne (by decide), pI_ne (by decide), pI_ne (by decide), cA0, nI_1, cl_some, mv_eq, pI_ne (by decide), pI_ne (by decide), pI_ne (by decide), pI_ne (by decide), a2, show nI i + 3 = nI (i + 3) from nI_add i 3]
            obtain ⟨t1, t2, t3, t4⟩ := hT
            generalize hA2 : bw_pI (bw_pI (bw_pI (bw_pI (bw_pI A (22 + 1) T.1 (nI k)) (22 + 2) T.1 (eF d1)) (22 + 3) T.1 (nI d2)) 22 0 (nI (T.1 + 1))) 15 2 (nI (i + 3)) = A2
            have r0 : ∀ f, A2.1 22 f = if f = 0 then nI (T.1 + 1) else A.1 22 f := fun f => by
              subst hA2
              rw [pI_ne (by decide), pI_rd, pI_ne (by decide), pI_ne (by decide), pI_ne (by decide)]
            have r1 : ∀ j, A2.1 23 j = if j = T.1 then nI k else A.1 23 j := fun j => by
              subst hA2
              rw [pI_ne (by decide), pI_ne (by decide), pI_ne (by decide), pI_ne (by decide), show 22 + 1 = 23 from rfl, pI_rd]
            have r2 : ∀ j, A2.1 24 j = if j = T.1 then eF d1 else A.1 24 j := fun j => by
              subst hA2
              rw [pI_ne (by decide), pI_ne (by decide), pI_ne (by decide), show 22 + 2 = 24 from rfl, pI_rd, pI_ne (by decide)]
            have r3 : ∀ j, A2.1 25 j = if j = T.1 then nI d2 else A.1 25 j := fun j => by
              subst hA2
              rw [pI_ne (by decide), pI_ne (by decide), show 22 + 3 = 25 from rfl, pI_rd, pI_ne (by decide), pI_ne (by decide)]
            have r4 : ∀ q, q ≠ 15 → (q < 22 ∨ 25 < q) → A2.1 q = A.1 q := fun q a b => by
              subst hA2
              rw [pI_ne a, pI_ne (by omega), pI_ne (by omega), pI_ne (by omega), pI_ne (by omega)]
            have r5 : A2.1 15 1 = A.1 15 1 ∧ A2.1 15 2 = nI (i + 3) ∧ A2.2 = A.2 := by
              subst hA2
              exact ⟨by rw [pI_n (by decide), pI_ne (by decide), pI_ne (by decide), pI_ne (by decide), pI_ne (by decide)], pI_s, rfl⟩
            clear hA2
            refine ⟨A2, _, (T.1 + 1, updN T.2.1 T.1 k, updN T.2.2.1 T.1 d1, updN T.2.2.2.1 T.1 d2, T.2.2.2.2.1, T.2.2.2.2.2), rfl, rfl, rfl, ⟨hp, t2, t3, fun j hj => ?_⟩, ⟨⟨?_, ?_, ?_, fun j hj => ?_⟩, ?_⟩, ⟨pI_s, ?_, ?_, fun j hj => ?_⟩, by omega, ⟨?_, ?_, r5.2.1⟩, ⟨?_, ?_, ?_⟩, ⟨fun q a b => r4 q a (by omega), r5.1, r5.2.2⟩, ?_⟩
            · have hj : j < T.1 + 1 := hj
              show updN T.2.1 T.1 k j ≤ 5 ∧ updN T.2.2.1 T.1 d1 j ≤ j ∧ 1 ≤ updN T.2.2.2.1 T.1 d2 j ∧ updN T.2.2.2.1 T.1 d2 j ≤ 9
              unfold updN
              by_cases e : j = T.1
              · rw [if_pos e, if_pos e, if_pos e]; omega
              · rw [if_neg e, if_neg e, if_neg e]; exact t4 j (by omega)
            · rw [r0, if_pos rfl]
            · rw [r0, if_neg (by decide)]; exact cA1
            · rw [r0, if_neg (by decide)]; exact cA2
            · have hj : j < T.1 + 1 := hj
              show A2.1 23 j = nI (updN T.2.1 T.1 k j) ∧ A2.1 24 j = eF (updN T.2.2.1 T.1 d1 j) ∧ A2.1 25 j = nI (updN T.2.2.2.1 T.1 d2 j)
              rw [r1, r2, r3]
              unfold updN
              by_cases e : j = T.1
              · rw [if_pos e, if_pos e, if_pos e, if_pos e, if_pos e, if_pos e]; exact ⟨rfl, rfl, rfl⟩
              · rw [if_neg e, if_neg e, if_neg e, if_neg e, if_neg e, if_neg e]; exact cA3 j (by omega)
            · obtain ⟨s1, s2, s3, s4, s5, s6⟩ := sA
              refine ⟨?_, ?_, ?_, ?_, ?_, fun j hj => ?_⟩
              · rw [r0, if_neg (by decide)]; exact s1
              · rw [r0, if_neg (by decide)]; exact s2
              · rw [r0, if_neg (by decide)]; exact s3
              · rw [r0, if_neg (by decide)]; exact s4
              · rw [r0, if_neg (by decide)]; exact s5
              · rw [r4 _ (by decide) (by decide), r4 _ (by decide) (by decide)]; exact s6 j hj
            · rw [pI_n (by decide), pI_ne (by decide), g43 22 (by decide)]; exact m1
            · rw [pI_n (by decide), pI_ne (by decide), g43 23 (by decide)]; exact m2
            · have hj : j < T.1 + 1 := hj
              show (bw_pI (bw_pI B4 15 T.1 (nI d2)) 0 24 _).1 13 j = nI (updN T.2.1 T.1 k j) ∧ (bw_pI (bw_pI B4 15 T.1 (nI d2)) 0 24 _).1 14 j = eF (updN T.2.2.1 T.1 d1 j) ∧ (bw_pI (bw_pI B4 15 T.1 (nI d2)) 0 24 _).1 15 j = nI (updN T.2.2.2.1 T.1 d2 j)
              rw [show (bw_pI (bw_pI B4 15 T.1 (nI d2)) 0 24 (nI (T.1 + 1))).1 13 j = B4.1 13 j by rw [pI_ne (by decide), pI_ne (by decide)], show (bw_pI (bw_pI B4 15 T.1 (nI d2)) 0 24 (nI (T.1 + 1))).1 14 j = B4.1 14 j by rw [pI_ne (by decide), pI_ne (by decide)], show (bw_pI (bw_pI B4 15 T.1 (nI d2)) 0 24 (nI (T.1 + 1))).1 15 j = if j = T.1 then nI d2 else B4.1 15 j by rw [pI_ne (by decide), pI_rd], g44, g45, g46]
              unfold updN
              by_cases e : j = T.1
              · rw [if_pos e, if_pos e, if_pos e, if_pos e, if_pos e, if_pos e]; exact ⟨rfl, rfl, rfl⟩
              · rw [if_neg e, if_neg e, if_neg e, if_neg e, if_neg e, if_neg e]; exact m3 j (by omega)
            · rw [r5.2.2]; exact hA.1
            · rw [r5.1]; exact hA.2.1
            · rw [pI_n (by decide), pI_ne (by decide)]; exact g41.1
            · rw [pI_n (by decide), pI_ne (by decide)]; exact g41.2.1
            · rw [pI_n (by decide), pI_ne (by decide)]; exact g41.2.2
            · exact (k4.tr (krM_c (by decide) (by decide))).tr (krM_f (by decide) (by decide) (by decide))
        · left
          rw [if_pos rfl, fg_M' ht hn hB3 (by omega) hv3 f2 (hi := 9) (by decide) (lo := 1) (x := 1) (y := 9) rfl rfl (by decide), c2_some, if_pos i00]
          exact ⟨i + 2, _, by omega, rfl, rfl, hB3.2.2, k3⟩
      · left
        rw [if_neg (show ¬ nI d1 ≤ nI T.1 from nI_ge (by omega) (by omega)), if_neg (show ¬ (0 ≤ d1 ∧ d1 ≤ T.1) by omega), c2_some, if_pos i00]
        exact ⟨i + 1, _, by omega, rfl, rfl, pI_s, krM_f (by decide) (by decide) (by decide)⟩
    · left
      rw [if_pos rfl, fg_M' ht hn hB1 (by omega) hv1 f1 (hi := T.1) (by omega) (lo := 0) (x := 0) (y := nI T.1) rfl rfl (by decide), c2_some, if_pos i00]
      exact ⟨i + 1, _, by omega, rfl, rfl, pI_s, krM_f (by decide) (by decide) (by decide)⟩
  · left
    rw [ek, cl_some, cl_some, hz1, cl_some, hz2, cl_some, if_pos rfl, if_pos rfl]
    exact ⟨i, B, by omega, rfl, rfl, hB.2.2, krM.rf B⟩
/-- the pipes one behind the other -/
theorem rd_loop {N : Nat} (hN : 2000 ≤ N) {v : Nat → Int32} {t n : Nat} (ht : t < 4) (hn : n ≤ 60) (x : Int32) : ∀ (d : Nat) (A B : bw_M) (T : Tw) (i fu fu' : Nat), T.1 + d = 6 → d + 3 ≤ fu → d + 3 ≤ fu' → t_ok T → twC A T → twM B T → i ≤ n → rdC A t n i → rdM B t n (s_sk v n (n - i) i) → (∀ j, j < 60 → A.1 (10 + t) j = v j) → (∀ j, j < 60 → B.1 3 (60 * t + j) = v j) → ∃ r A' B', bw_lp (fun kk w => fX2_readTown_29 N (10 + t) 60 (nI n) 22 kk w.1 w.2.1 w.2.2) fu (-9, nI T.1, A) = some (r, A') ∧ bw_lp (fun kk w => fX5_reads_38 N x kk w.1 w.2) fu' (1, B) = some (r, B') ∧ krC A A' ∧ krM B B' ∧ (r = -9 → ∃ T', t_ok T' ∧ 0 < T'.1 ∧ twC A' T' ∧ twM B' T') := by
  intro d
  induction d with
  | zero =>
    intro A B T i fu fu' hd hf hf' hT tA tB hi hA hB hvA hvB
    obtain ⟨k1, k2⟩ := sk_le (v := v) (n := n) (n - i) i (by omega)
    have pc : fX2_passBlanks N A = some (bw_pI A 15 2 (nI (s_sk v n (n - i) i))) := by
      unfold fX2_passBlanks flX2_passBlanks_2
      rw [mv_eq]
      exact pass_C ht hn (n - i) i 0 N A (by omega) (by omega) (by omega) hA hvA
    generalize s_sk v n (n - i) i = j at *
    have hA1 : rdC (bw_pI A 15 2 (nI j)) t n j := ⟨hA.1, by rw [pI_n (by decide)]; exact hA.2.1, pI_s⟩
    have tA1 : twC (bw_pI A 15 2 (nI j)) T := ⟨tA.1.of (fun q _ _ => pI_ne (by omega)), tA.2.of (pI_ne (by decide)) (pI_ne (by decide)) (pI_ne (by decide))⟩
    match fu, fu', hf, hf' with
    | fu + 2, fu' + 2, _, _ =>
      have stC : ∀ kk, fX2_readTown_29 N (10 + t) 60 (nI n) 22 kk (-9) (nI T.1) A = if j < n then kk (nI j, nI (T.1 + 1), bw_pI A 15 2 (nI j)) else some (-9, bw_pI A 15 2 (nI j)) := fun kk => by
        unfold fX2_readTown_29 fX2_readTown_92 fX2_readTown_72
        rw [if_pos rfl, if_neg (show ¬ (6 : Int32) < nI T.1 from nI_nlt (a := 6) (by omega) (by decide)), pc, cl_some, hA1.2.2, hA1.2.1, show nI T.1 = (6 : Int32) by rw [show T.1 = 6 by omega]; rfl, if_pos rfl, if_neg (show ¬ (6 : Int32) = 0 by decide), mv_eq, show T.1 + 1 = 7 by omega]
        by_cases q : j < n
        · rw [if_pos (nI_lt q (by omega)), if_pos q]; rfl
        · rw [if_neg (nI_nlt (by omega) (by omega)), if_neg q]
      rw [bw_lp_s, bw_lp_s]
      have stM : ∀ kk, fX5_reads_38 N x kk 1 B = if j < n then kk (0, B) else some (-9, B) := fun kk => by
        unfold fX5_reads_38 fX5_reads_69 fX5_reads_85 fX5_reads_89 fX5_readsPipe fX5_readsPipe_23
        rw [hB.2.1, hB.2.2, tB.1, if_neg i10, if_neg i10, if_neg (nI_nle (by omega) (by omega)), sg_M ht hn hB (by omega), cl_some, kindEq]
        by_cases q : j < n
        · rw [if_neg (nI_ge q (by omega)), if_pos q, if_pos q]
          rcases kind_or (B.1 3 (60 * t + j)) with ⟨k, hk, ek⟩ | ek
          · rw [ek, cl_some, if_neg (nI_m9 (by omega)), if_pos (show nI T.1 = (6 : Int32) by rw [show T.1 = 6 by omega]; rfl), c2_some, if_pos i00]
          · rw [ek, cl_some, if_pos rfl, c2_some, if_pos i00]
        · rw [if_pos (nI_le (by omega) (by omega)), if_neg q]
      show ∃ r A' B', fX2_readTown_29 N (10 + t) 60 (nI n) 22 _ (-9) (nI T.1) A = some (r, A') ∧ fX5_reads_38 N x _ 1 B = some (r, B') ∧ _
      rw [stC, stM]
      by_cases q : j < n
      · rw [if_pos q, if_pos q, bw_lp_s, bw_lp_s]
        refine ⟨nI j, bw_pI A 15 2 (nI j), B, ?_, ?_, krC_p, krM.rf B, fun e => absurd e (nI_m9 (by omega))⟩
        · show fX2_readTown_29 N (10 + t) 60 (nI n) 22 _ (nI j) _ _ = _
          unfold fX2_readTown_29 fX2_readTown_100
          rw [if_neg (nI_m9 (by omega))]
        · show fX5_reads_38 N x _ 0 B = _
          unfold fX5_reads_38 fX5_reads_69 fX5_reads_85 fX5_reads_89
          rw [if_pos i00, if_pos i00, ite_self, hB.2.2]
      · rw [if_neg q, if_neg q]
        exact ⟨-9, _, B, rfl, rfl, krC_p, krM.rf B, fun _ => ⟨T, hT, by omega, tA1, tB⟩⟩
  | succ d ih =>
    intro A B T i fu fu' hd hf hf' hT tA tB hi hA hB hvA hvB
    obtain ⟨k1, k2⟩ := sk_le (v := v) (n := n) (n - i) i (by omega)
    have pc : fX2_passBlanks N A = some (bw_pI A 15 2 (nI (s_sk v n (n - i) i))) := by
      unfold fX2_passBlanks flX2_passBlanks_2
      rw [mv_eq]
      exact pass_C ht hn (n - i) i 0 N A (by omega) (by omega) (by omega) hA hvA
    generalize s_sk v n (n - i) i = j at *
    have hA1 : rdC (bw_pI A 15 2 (nI j)) t n j := ⟨hA.1, by rw [pI_n (by decide)]; exact hA.2.1, pI_s⟩
    have tA1 : twC (bw_pI A 15 2 (nI j)) T := ⟨tA.1.of (fun q _ _ => pI_ne (by omega)), tA.2.of (pI_ne (by decide)) (pI_ne (by decide)) (pI_ne (by decide))⟩
    have hvA1 : ∀ k, k < 60 → (bw_pI A 15 2 (nI j)).1 (10 + t) k = v k := fun k hk => by rw [pI_ne (by omega)]; exact hvA k hk
    have s0C : ∀ kk, fX2_readTown_29 N (10 + t) 60 (nI n) 22 kk (-9) (nI T.1) A = if j < n then bw_c2 (fX2_readPipe 22 (bw_pI A 15 2 (nI j))) (fun v9 M10 => kk (v9, nI (T.1 + 1), M10)) else if T.1 = 0 then some (nI n, bw_pI A 15 2 (nI j)) else some (-9, bw_pI A 15 2 (nI j)) := fun kk => by
      unfold fX2_readTown_29 fX2_readTown_92 fX2_readTown_72
      rw [if_pos rfl, if_neg (show ¬ (6 : Int32) < nI T.1 from nI_nlt (a := 6) (by omega) (by decide)), pc, cl_some, hA1.2.2, hA1.2.1, if_neg (show ¬ nI T.1 = (6 : Int32) from fun q => by have := (nI_eq (a := T.1) (b := 6) (by omega) (by decide)).mp q; omega)]
      by_cases q : j < n
      · rw [if_pos (nI_lt q (by omega)), if_pos q]
        simp only [mv_eq, nI_1]
      · rw [if_neg (nI_nlt (by omega) (by omega)), if_neg q]
        by_cases q0 : T.1 = 0
        · rw [if_pos ((nI_0' (by omega)).mpr q0), if_pos q0]
        · rw [if_neg (fun z => q0 ((nI_0' (by omega)).mp z)), if_neg q0]
    have s0M : ∀ kk, fX5_reads_38 N x kk 1 B = if j < n then bw_c2 (fX5_readsPipe B) (fun v8 M9 => if v8 = 0 then kk (v8, M9) else bw_cl (fX5_skips N M9) fun M10 => kk (v8, M10)) else if T.1 = 0 then some (nI j, B) else some (-9, B) := fun kk => by
      unfold fX5_reads_38 fX5_reads_69 fX5_reads_85 fX5_reads_89
      rw [hB.2.1, hB.2.2, tB.1, if_neg i10, if_neg i10]
      by_cases q : j < n
      · rw [if_neg (nI_ge q (by omega)), if_pos q]
      · rw [if_pos (nI_le (by omega) (by omega)), if_neg q]
        by_cases q0 : T.1 = 0
        · rw [if_pos (show nI T.1 ≤ 0 from nI_le (b := 0) (by omega) (by decide)), if_pos q0]
        · rw [if_neg (nI_nle (by omega) (by omega)), if_neg q0]
    by_cases q : j < n
    · rcases rd_pipe ht hn q hA1 hB hvA1 hvB hT (by omega) tA1 tB with ⟨m, B', hm, e1, e2, e3, e4⟩ | ⟨A', B', T', e1, e2, e3, e4, e5, e6, e7, e8, e9, e10, e11⟩
      · match fu, fu', hf, hf' with
        | fu + 2, fu' + 2, _, _ =>
          refine ⟨nI m, bw_pI A 15 2 (nI j), B', ?_, ?_, krC_p, e4, fun e => absurd e (nI_m9 (by omega))⟩
          · rw [bw_lp_s]
            show fX2_readTown_29 N (10 + t) 60 (nI n) 22 _ (-9) (nI T.1) A = _
            rw [s0C, if_pos q, e1, c2_some, bw_lp_s]
            show fX2_readTown_29 N (10 + t) 60 (nI n) 22 _ (nI m) _ _ = _
            unfold fX2_readTown_29 fX2_readTown_100
            rw [if_neg (nI_m9 (by omega))]
          · rw [bw_lp_s]
            show fX5_reads_38 N x _ 1 B = _
            rw [s0M, if_pos q, e2, c2_some, if_pos i00, bw_lp_s]
            show fX5_reads_38 N x _ 0 B' = _
            unfold fX5_reads_38 fX5_reads_69 fX5_reads_85 fX5_reads_89
            rw [if_pos i00, if_pos i00, ite_self, e3]
      · match fu, fu', hf, hf' with
        | fu + 1, fu' + 1, hf, hf' =>
          have hv' : ∀ k, k < 60 → A'.1 (10 + t) k = v k := fun k hk => by rw [e10.1 _ (by omega) (by omega)]; exact hvA1 k hk
          have hw' : ∀ k, k < 60 → B'.1 3 (60 * t + k) = v k := fun k hk => by rw [e11.1 3 (by decide) (by omega)]; exact hvB k hk
          have ps : fX5_skips N B' = some (bw_pI B' 0 18 (nI (s_sk v n (n - (j + 3)) (j + 3)))) := by
            unfold fX5_skips flX5_skips_0
            exact pass_M ht hn (n - (j + 3)) (j + 3) N B' (by omega) (by omega) e9 hw'
          obtain ⟨r, A2, B2, l1, l2, l3, l4, l5⟩ := ih A' (bw_pI B' 0 18 (nI (s_sk v n (n - (j + 3)) (j + 3)))) T' (j + 3) fu fu' (by omega) (by omega) (by omega) e4 e5 ⟨by rw [pI_n (by decide)]; exact e6.1, by rw [pI_n (by decide)]; exact e6.2.1, by rw [pI_n (by decide)]; exact e6.2.2.1, fun k hk => by rw [pI_ne (by decide), pI_ne (by decide), pI_ne (by decide)]; exact e6.2.2.2 k hk⟩ e7 e8 ⟨by rw [pI_n (by decide)]; exact e9.1, by rw [pI_n (by decide)]; exact e9.2.1, pI_s⟩ hv' (fun k hk => by rw [pI_ne (by decide)]; exact hw' k hk)
          refine ⟨r, A2, B2, ?_, ?_, (krC_p.tr e10).tr l3, (e11.tr (krM_f (by decide) (by decide) (by decide))).tr l4, l5⟩
          · rw [bw_lp_s]
            show fX2_readTown_29 N (10 + t) 60 (nI n) 22 _ (-9) (nI T.1) A = _
            rw [s0C, if_pos q, e1, c2_some, ← e3]
            exact l1
          · rw [bw_lp_s]
            show fX5_reads_38 N x _ 1 B = _
            rw [s0M, if_pos q, e2, c2_some, if_neg i10, ps, cl_some]
            exact l2
    · match fu, fu', hf, hf' with
      | fu + 1, fu' + 1, _, _ =>
        rw [bw_lp_s, bw_lp_s]
        show ∃ r A' B', fX2_readTown_29 N (10 + t) 60 (nI n) 22 _ (-9) (nI T.1) A = some (r, A') ∧ fX5_reads_38 N x _ 1 B = some (r, B') ∧ _
        rw [s0C, s0M, if_neg q, if_neg q]
        by_cases q0 : T.1 = 0
        · rw [if_pos q0, if_pos q0, show n = j by omega]
          exact ⟨nI j, _, B, rfl, rfl, krC_p, krM.rf B, fun e => absurd e (nI_m9 (by omega))⟩
        · rw [if_neg q0, if_neg q0]
          exact ⟨-9, _, B, rfl, rfl, krC_p, krM.rf B, fun _ => ⟨T, hT, by omega, tA1, tB⟩⟩
theorem rd_all {N : Nat} (hN : 2000 ≤ N) {A B : bw_M} (h : rl_txts A B) {t n : Nat} (ht : t < 4) (hn : n ≤ 60) (e : A.1 14 t = nI n) : ∃ r A' B', fX2_readTown N (10 + t) 60 (nI n) 22 A = some (r, A') ∧ fX5_reads N (nI t) B = some (r, B') ∧ kpC A A' ∧ kpM B B' ∧ (r = -9 → ∃ T, t_ok T ∧ 0 < T.1 ∧ twC A' T ∧ twM B' T) := by
  obtain ⟨a1, a2, a3⟩ := h t ht
  unfold fX2_readTown fX5_reads flX2_readTown_29 flX5_reads_38
  simp only [mv_eq]
  rw [rd_ok ht (by decide), pI_ne (by decide), ← a1, e]
  generalize hA0 : bw_pI (bw_pI (bw_pR A (some (10 + t))) 15 1 (nI n)) 15 2 0 = A0
  have q0 : rdC A0 t n 0 ∧ (∀ q, q ≠ 15 → A0.1 q = A.1 q) ∧ A0.2.1 = A.2.1 := by
    subst hA0
    exact ⟨⟨rfl, by rw [pI_n (by decide), pI_s], pI_s⟩, fun q a => by rw [pI_ne a, pI_ne a]; rfl, rfl⟩
  clear hA0
  generalize hB0 : bw_pI (bw_pI (bw_pI (bw_pI B 0 20 (nI t)) 0 19 (nI n)) 0 18 0) 0 24 0 = B0
  have p0 : rdM B0 t n 0 ∧ B0.1 0 24 = nI 0 ∧ (∀ q, q ≠ 0 → B0.1 q = B.1 q) ∧ (∀ f, f < 18 → B0.1 0 f = B.1 0 f) ∧ B0.2 = B.2 := by
    subst hB0
    exact ⟨⟨by rw [pI_n (by decide), pI_n (by decide), pI_n (by decide), pI_s], by rw [pI_n (by decide), pI_n (by decide), pI_s], by rw [pI_n (by decide), pI_s]; rfl⟩, pI_s, fun q a => by rw [pI_ne a, pI_ne a, pI_ne a, pI_ne a], fun f hf => by rw [pI_n (by omega), pI_n (by omega), pI_n (by omega), pI_n (by omega)], rfl⟩
  clear hB0
  obtain ⟨p1, p2, p3, p4, p5⟩ := p0
  obtain ⟨q1, q2, q3⟩ := q0
  have hvA : ∀ j, j < 60 → A0.1 (10 + t) j = A.1 (10 + t) j := fun j hj => by rw [q2 _ (by omega)]
  have hvB : ∀ j, j < 60 → B0.1 3 (60 * t + j) = A.1 (10 + t) j := fun j hj => by rw [p3 3 (by decide)]; exact (a3 j hj).symm
  have kC : ∀ A1, krC A0 A1 → kpC A A1 := fun A1 k => ⟨fun q a b c => by rw [k.1 q a b]; exact q2 q a, by rw [k.2.2]; exact q3⟩
  have kM : ∀ B1, krM B0 B1 → kpM B B1 := fun B1 k => ⟨fun q a b c => by rw [k.1 q a (by omega)]; exact p3 q a, fun f hf => by rw [k.2.1 f (Or.inl hf)]; exact p4 f hf, by rw [k.2.2, p5]⟩
  have pc : fX2_passBlanks N A0 = some (bw_pI A0 15 2 (nI (s_sk (A.1 (10 + t)) n n 0))) := by
    unfold fX2_passBlanks flX2_passBlanks_2
    rw [mv_eq]
    exact pass_C ht hn n 0 0 N A0 (by omega) (by omega) (by omega) q1 hvA
  have ps : fX5_skips N B0 = some (bw_pI B0 0 18 (nI (s_sk (A.1 (10 + t)) n n 0))) := by
    unfold fX5_skips flX5_skips_0
    exact pass_M ht hn n 0 N B0 (by omega) (by omega) p1 hvB
  obtain ⟨-, j2⟩ := sk_le (v := A.1 (10 + t)) (n := n) n 0 (by omega)
  generalize s_sk (A.1 (10 + t)) n n 0 = i at *
  rw [pc, cl_some]
  have hB1 : rdM (bw_pI B0 0 18 (nI i)) t n i := ⟨by rw [pI_n (by decide)]; exact p1.1, by rw [pI_n (by decide)]; exact p1.2.1, pI_s⟩
  have hvB1 : ∀ j, j < 60 → (bw_pI B0 0 18 (nI i)).1 3 (60 * t + j) = A.1 (10 + t) j := fun j hj => by rw [pI_ne (by decide)]; exact hvB j hj
  have hA1 : rdC (bw_pI A0 15 2 (nI i)) t n i := ⟨q1.1, by rw [pI_n (by decide)]; exact q1.2.1, pI_s⟩
  have hvA1 : ∀ j, j < 60 → (bw_pI A0 15 2 (nI i)).1 (10 + t) j = A.1 (10 + t) j := fun j hj => by rw [pI_ne (by omega)]; exact hvA j hj
  rcases rd_head hN ht hn j2 hA1 hB1 hvA1 hvB1 (by rw [pI_n (by decide)]; exact p2) ps with ⟨m, B', hm, e1, e2, e3, e4⟩ | ⟨A', B', T, e1, e2, e3, e4, e5, e6, e7, e8, e9, e10, e11⟩
  · rw [e1, e2, c2_some, c2_some, if_pos i00]
    obtain ⟨N', rfl⟩ : ∃ N', N = N' + 1 := ⟨N - 1, by omega⟩
    refine ⟨nI m, bw_pI A0 15 2 (nI i), B', ?_, ?_, kC _ krC_p, kM _ ((krM_f (by decide) (by decide) (by decide)).tr e4), fun z => absurd z (nI_m9 (by omega))⟩
    · rw [bw_lp_s]
      show fX2_readTown_29 (N' + 1) (10 + t) 60 (nI n) 22 _ (nI m) _ _ = _
      unfold fX2_readTown_29 fX2_readTown_100
      rw [if_neg (nI_m9 (by omega))]
    · rw [bw_lp_s]
      show fX5_reads_38 (N' + 1) (nI t) _ 0 B' = _
      unfold fX5_reads_38 fX5_reads_69 fX5_reads_85 fX5_reads_89
      rw [if_pos i00, if_pos i00, ite_self, e3]
  · rw [e1, e2, c2_some, c2_some, if_neg i10]
    have hv' : ∀ k, k < 60 → A'.1 (10 + t) k = A.1 (10 + t) k := fun k hk => by rw [e10.1 _ (by omega) (by omega)]; exact hvA1 k hk
    have hw' : ∀ k, k < 60 → B'.1 3 (60 * t + k) = A.1 (10 + t) k := fun k hk => by rw [e11.1 3 (by decide) (by omega)]; exact hvB1 k hk
    have ps' : fX5_skips N B' = some (bw_pI B' 0 18 (nI (s_sk (A.1 (10 + t)) n (n - (i + 4)) (i + 4)))) := by
      unfold fX5_skips flX5_skips_0
      exact pass_M ht hn (n - (i + 4)) (i + 4) N B' (by omega) (by omega) e9 hw'
    rw [ps', cl_some]
    obtain ⟨r, A2, B2, l1, l2, l3, l4, l5⟩ := rd_loop hN (v := A.1 (10 + t)) ht hn (nI t) 6 A' (bw_pI B' 0 18 (nI (s_sk (A.1 (10 + t)) n (n - (i + 4)) (i + 4)))) T (i + 4) N N (by omega) (by omega) (by omega) e4 e5 ⟨by rw [pI_n (by decide)]; exact e6.1, by rw [pI_n (by decide)]; exact e6.2.1, by rw [pI_n (by decide)]; exact e6.2.2.1, fun k hk => by rw [pI_ne (by decide), pI_ne (by decide), pI_ne (by decide)]; exact e6.2.2.2 k hk⟩ e7 e8 ⟨by rw [pI_n (by decide)]; exact e9.1, by rw [pI_n (by decide)]; exact e9.2.1, pI_s⟩ hv' (fun k hk => by rw [pI_ne (by decide)]; exact hw' k hk)
    rw [e3] at l1
    exact ⟨r, A2, B2, l1, l2, kC _ ((krC_p.tr e10).tr l3), kM _ ((((krM_f (by decide) (by decide) (by decide)).tr e11).tr (krM_f (by decide) (by decide) (by decide))).tr l4), l5⟩
theorem ok_fault {N : Nat} (hN : 2000 ≤ N) {A B : bw_M} (h : Rel A B) (x : Int32) : OkI (fX4_fault N x A) (fX5_fault N x B) := by
  have h2 := h.2.1
  unfold fX4_fault fX5_fault fX5_fault_31
  rcases ix_cases x (n := 4) (by decide) (by decide) with ⟨t, ht, rfl⟩ | ⟨g1, g2⟩
  · rw [(isText_ok ht).1, (isText_ok ht).2, cl_some, cl_some, if_neg i10, if_neg i10, rd_ok ht (by decide), rd_ok ht (by decide), ra_ok ht (by decide), rd_ok ht (by decide), ← (h2 t ht).1]
    rcases (h2 t ht).2.1 with e | ⟨n, hn, e⟩
    · rw [e, if_pos rfl, if_neg m1n]
      obtain ⟨A', B', hR, e1, e2⟩ := fnd h (j := 1) (by decide) (x := 1) rfl
      rw [e1, e2, c2_some, c2_some]
      exact OkI.same hR _
    · rw [e, if_neg (nI_m1 (by omega)), if_pos (nI_pos' (by omega))]
      obtain ⟨r, A', B', e1, e2, k1, k2, -⟩ := rd_all hN h2 ht hn e
      rw [e1, e2, c2_some, c2_some]
      exact OkI.same (h.kp k1 k2) _
  · rw [(isText_no g1 g2).1, (isText_no g1 g2).2, cl_some, cl_some, if_pos i00, if_pos i00]
    exact OkI.same h _
theorem c_forget {N : Nat} (hN : 2000 ≤ N) (x : Int32) (A : bw_M) : ∃ A', flX4_town_77 N x N (0, A) = some (A'.1 16 0, A') ∧ (∀ j, j < 3 → A'.1 (32 + 3 * j) 2 = -1) ∧ (∀ q, q ≠ 32 → q ≠ 35 → q ≠ 38 → A'.1 q = A.1 q) ∧ A'.2 = A.2 := by
  unfold flX4_town_77
  obtain ⟨s', k', hI, hk'⟩ := lp_inv (body := fun kk w => fX4_town_77 N x kk w.1 w.2) (fun k s => s.1 = nI k ∧ (∀ j, j < k → s.2.1 (32 + 3 * j) 2 = -1) ∧ (∀ q, q ≠ 32 → q ≠ 35 → q ≠ 38 → s.2.1 q = A.1 q) ∧ s.2.2 = A.2) 3 (fun k s hk hI => by
    obtain ⟨q1, q2, q3, q4⟩ := hI
    refine ⟨(nI (k + 1), bw_pI s.2 (32 + 3 * k) 2 (-1)), ⟨rfl, fun j hj => ?_, fun q a b c => ?_, q4⟩, fun kk => ?_⟩
    · show (bw_pI s.2 (32 + 3 * k) 2 (-1)).1 (32 + 3 * j) 2 = -1
      by_cases e : j = k
      · subst e; exact pI_s
      · rw [pI_ne (by omega)]; exact q2 j (by omega)
    · show (bw_pI s.2 (32 + 3 * k) 2 (-1)).1 q = A.1 q
      rw [pI_ne (by omega)]; exact q3 q a b c
    · show fX4_town_77 N x kk s.1 s.2 = _
      unfold fX4_town_77
      rw [q1, if_neg (show ¬ (3 : Int32) ≤ nI k from nI_ge (b := 3) hk (by decide)), ra_ok hk (by decide), mv_eq, mv_eq, nI_1]) 3 N 0 (0, A) (by omega) (by omega) ⟨rfl, fun j hj => by omega, fun _ _ _ _ => rfl, rfl⟩
  obtain ⟨q1, q2, q3, q4⟩ := hI
  refine ⟨s'.2, ?_, q2, q3, q4⟩
  rw [hk']
  show fX4_town_77 N x k' s'.1 s'.2 = _
  unfold fX4_town_77
  rw [q1, if_pos (show (3 : Int32) ≤ nI 3 by decide)]
theorem m_forget {N : Nat} (hN : 2000 ≤ N) (B : bw_M) : ∃ B', fX5_forgets N B = some B' ∧ (∀ j, j < 3 → B'.1 12 (698 * j) = -1) ∧ B'.1 0 16 = 0 ∧ (∀ f, f ≠ 16 → B'.1 0 f = B.1 0 f) ∧ (∀ q, q ≠ 0 → q ≠ 12 → B'.1 q = B.1 q) ∧ B'.2 = B.2 := by
  unfold fX5_forgets flX5_forgets_7
  rw [mv_eq, mv_eq]
  obtain ⟨s', k', hI, hk'⟩ := lp_inv (body := fun kk w => fX5_forgets_7 N kk w.1 w.2) (fun k s => s.1 = nI k ∧ (∀ j, j < k → s.2.1 12 (698 * j) = -1) ∧ (∀ q, q ≠ 12 → s.2.1 q = (bw_pI B 0 16 0).1 q) ∧ s.2.2 = B.2) 3 (fun k s hk hI => by
    obtain ⟨q1, q2, q3, q4⟩ := hI
    refine ⟨(nI (k + 1), bw_pI s.2 12 (698 * k) (-1)), ⟨rfl, fun j hj => ?_, fun q a => ?_, q4⟩, fun kk => ?_⟩
    · show (bw_pI s.2 12 (698 * k) (-1)).1 12 (698 * j) = -1
      by_cases e : j = k
      · subst e; exact pI_s
      · rw [pI_n (by omega)]; exact q2 j (by omega)
    · show (bw_pI s.2 12 (698 * k) (-1)).1 q = _
      rw [pI_ne a]; exact q3 q a
    · show fX5_forgets_7 N kk s.1 s.2 = _
      unfold fX5_forgets_7
      rw [q1, if_neg (show ¬ (3 : Int32) ≤ nI k from nI_ge (b := 3) hk (by decide)), show (698 : Int32) * nI k = nI (698 * k) from pk_mul 698 k, wr_ok (by omega) (by decide), mv_eq, nI_1]) 3 N 0 (0, bw_pI B 0 16 0) (by omega) (by omega) ⟨rfl, fun j hj => by omega, fun _ _ => rfl, rfl⟩
  obtain ⟨q1, q2, q3, q4⟩ := hI
  refine ⟨s'.2, ?_, q2, by rw [q3 0 (by decide), pI_s], fun f hf => by rw [q3 0 (by decide), pI_n hf], fun q a b => by rw [q3 q b, pI_ne a], q4⟩
  rw [hk']
  show fX5_forgets_7 N k' s'.1 s'.2 = _
  unfold fX5_forgets_7
  rw [q1, if_pos (show (3 : Int32) ≤ nI 3 by decide)]
theorem m_settle {N : Nat} (hN : 2000 ≤ N) (x : Int32) (B : bw_M) : ∃ B', flX5_town_47 N x N (0, B) = some (B'.1 0 9, B') ∧ (∀ j, j < 6 → B'.1 6 j = B.1 13 j ∧ B'.1 7 j = B.1 14 j ∧ B'.1 8 j = B.1 15 j) ∧ B'.1 9 0 = B.1 0 22 ∧ B'.1 9 1 = B.1 0 23 ∧ (∀ j, 2 ≤ j → j < 17 → B'.1 9 j = 0) ∧ (∀ j, j < 3 → B'.1 12 (698 * j) = -1) ∧ B'.1 0 16 = 0 ∧ (∀ f, f ≠ 16 → B'.1 0 f = B.1 0 f) ∧ (∀ q, q ≠ 0 → (q < 6 ∨ 9 < q) → q ≠ 12 → B'.1 q = B.1 q) ∧ B'.2 = B.2 := by
  unfold flX5_town_47
  obtain ⟨s', k', hI, hk'⟩ := lp_inv (body := fun kk w => fX5_town_47 N x kk w.1 w.2) (fun k s => s.1 = nI k ∧ (∀ j, j < k → s.2.1 6 j = B.1 13 j ∧ s.2.1 7 j = B.1 14 j ∧ s.2.1 8 j = B.1 15 j) ∧ (∀ q, (q < 6 ∨ 8 < q) → s.2.1 q = B.1 q) ∧ s.2.2 = B.2) 6 (fun k s hk hI => by
    obtain ⟨q1, q2, q3, q4⟩ := hI
    refine ⟨(nI (k + 1), bw_pI (bw_pI (bw_pI s.2 6 k (B.1 13 k)) 7 k (B.1 14 k)) 8 k (B.1 15 k)), ⟨rfl, fun j hj => ?_, fun q a => ?_, q4⟩, fun kk => ?_⟩
    · have r1 : (bw_pI (bw_pI (bw_pI s.2 6 k (B.1 13 k)) 7 k (B.1 14 k)) 8 k (B.1 15 k)).1 6 j = if j = k then B.1 13 k else s.2.1 6 j := by rw [pI_ne (by decide), pI_ne (by decide), pI_rd]
      have r2 : (bw_pI (bw_pI (bw_pI s.2 6 k (B.1 13 k)) 7 k (B.1 14 k)) 8 k (B.1 15 k)).1 7 j = if j = k then B.1 14 k else s.2.1 7 j := by rw [pI_ne (by decide), pI_rd, pI_ne (by decide)]
      have r3 : (bw_pI (bw_pI (bw_pI s.2 6 k (B.1 13 k)) 7 k (B.1 14 k)) 8 k (B.1 15 k)).1 8 j = if j = k then B.1 15 k else s.2.1 8 j := by rw [pI_rd, pI_ne (by decide), pI_ne (by decide)]
      show (bw_pI (bw_pI (bw_pI s.2 6 k (B.1 13 k)) 7 k (B.1 14 k)) 8 k (B.1 15 k)).1 6 j = _ ∧ (bw_pI (bw_pI (bw_pI s.2 6 k (B.1 13 k)) 7 k (B.1 14 k)) 8 k (B.1 15 k)).1 7 j = _ ∧ (bw_pI (bw_pI (bw_pI s.2 6 k (B.1 13 k)) 7 k (B.1 14 k)) 8 k (B.1 15 k)).1 8 j = _
      rw [r1, r2, r3]
      by_cases e : j = k
      · rw [if_pos e, if_pos e, if_pos e, e]; exact ⟨rfl, rfl, rfl⟩
      · rw [if_neg e, if_neg e, if_neg e]; exact q2 j (by omega)
    · show (bw_pI (bw_pI (bw_pI s.2 6 k (B.1 13 k)) 7 k (B.1 14 k)) 8 k (B.1 15 k)).1 q = _
      rw [pI_ne (by omega), pI_ne (by omega), pI_ne (by omega)]; exact q3 q a
    · show fX5_town_47 N x kk s.1 s.2 = _
      unfold fX5_town_47
      rw [q1, if_neg (show ¬ (6 : Int32) ≤ nI k from nI_ge (b := 6) hk (by decide)), rd_ok hk (by decide), wr_ok hk (by decide), rd_ok hk (by decide), wr_ok hk (by decide), rd_ok hk (by decide), wr_ok hk (by decide), mv_eq, nI_1, pI_ne (by decide), pI_ne (by decide), pI_ne (by decide), q3 13 (by decide), q3 14 (by decide), q3 15 (by decide)]) 6 N 0 (0, B) (by omega) (by omega) ⟨rfl, fun j hj => by omega, fun _ _ => rfl, rfl⟩
  obtain ⟨q1, q2, q3, q4⟩ := hI
  have e0 : fX5_town_47 N x k' s'.1 s'.2 = flX5_town_97 N x N (0, s'.2) := by
    unfold fX5_town_47
    rw [q1, if_pos (show (6 : Int32) ≤ nI 6 by decide), mv_eq]
  obtain ⟨t', l', hJ, hl'⟩ := lp_inv (body := fun kk w => fX5_town_97 N x kk w.1 w.2) (fun k s => s.1 = nI k ∧ (∀ j, j < k → s.2.1 9 j = 0) ∧ (∀ q, q ≠ 9 → s.2.1 q = s'.2.1 q) ∧ s.2.2 = B.2) 17 (fun k s hk hI => by
    obtain ⟨q1, q2, q3, q4⟩ := hI
    refine ⟨(nI (k + 1), bw_pI s.2 9 k 0), ⟨rfl, fun j hj => ?_, fun q a => ?_, q4⟩, fun kk => ?_⟩
    · show (bw_pI s.2 9 k 0).1 9 j = 0
      rw [pI_rd]
      by_cases e : j = k
      · rw [if_pos e]
      · rw [if_neg e]; exact q2 j (by omega)
    · show (bw_pI s.2 9 k 0).1 q = _
      rw [pI_ne a]; exact q3 q a
    · show fX5_town_97 N x kk s.1 s.2 = _
      unfold fX5_town_97
      rw [q1, if_neg (show ¬ (17 : Int32) ≤ nI k from nI_ge (b := 17) hk (by decide)), wr_ok hk (by decide), mv_eq, nI_1]) 17 N 0 (0, s'.2) (by omega) (by omega) ⟨rfl, fun j hj => by omega, fun _ _ => rfl, q4⟩
  obtain ⟨p1, p2, p3, p4⟩ := hJ
  obtain ⟨B1, f1, f2, f3, f4, f5, f6⟩ := m_forget hN (bw_pI (bw_pI t'.2 9 0 (t'.2.1 0 22)) 9 1 (t'.2.1 0 23))
  have z0 : ∀ f, t'.2.1 0 f = B.1 0 f := fun f => by rw [p3 0 (by decide), q3 0 (by decide)]
  refine ⟨B1, ?_, fun j hj => ?_, ?_, ?_, fun j a b => ?_, f2, f3, fun f hf => ?_, fun q a b c => ?_, ?_⟩
  · refine (show _ = _ from hk').trans ?_
    show fX5_town_47 N x k' s'.1 s'.2 = _
    rw [e0]
    unfold flX5_town_97
    refine (show _ = _ from hl').trans ?_
    show fX5_town_97 N x l' t'.1 t'.2 = _
    unfold fX5_town_97
    rw [p1, if_pos (show (17 : Int32) ≤ nI 17 by decide), w17_0, w17_1, show (bw_pI t'.2 9 0 (t'.2.1 0 22)).1 0 23 = t'.2.1 0 23 by rw [pI_ne (by decide)], f1, cl_some]
  · rw [f5 6 (by decide) (by decide), f5 7 (by decide) (by decide), f5 8 (by decide) (by decide), pI_ne (by decide), pI_ne (by decide), pI_ne (by decide), pI_ne (by decide), pI_ne (by decide), pI_ne (by decide), p3 6 (by decide), p3 7 (by decide), p3 8 (by decide)]; exact q2 j hj
  · rw [f5 9 (by decide) (by decide), pI_n (by decide), pI_s, z0]
  · rw [f5 9 (by decide) (by decide), pI_s, z0]
  · rw [f5 9 (by decide) (by decide), pI_n (by omega), pI_n (by omega)]; exact p2 j b
  · rw [f4 f hf, pI_ne (by decide), pI_ne (by decide), z0]
  · rw [f5 q a c, pI_ne (by omega), pI_ne (by omega), p3 q (by omega), q3 q (by omega)]
  · rw [f6]; exact p4
theorem ok_town {N : Nat} (hN : 2000 ≤ N) {A B : bw_M} (h : Rel A B) (x : Int32) : OkI (fX4_town N x A) (fX5_town N x B) := by
  have h2 := h.2.1
  unfold fX4_town fX5_town
  rcases ix_cases x (n := 4) (by decide) (by decide) with ⟨t, ht, rfl⟩ | ⟨g1, g2⟩
  · rw [(isText_ok ht).1, (isText_ok ht).2, cl_some, cl_some, if_neg i10, if_neg i10, rd_ok ht (by decide), rd_ok ht (by decide), ra_ok ht (by decide), rd_ok ht (by decide), ← (h2 t ht).1]
    rcases (h2 t ht).2.1 with e | ⟨n, hn, e⟩
    · rw [e, if_pos rfl, if_neg m1n]
      obtain ⟨A', B', hR, e1, e2⟩ := fnd h (j := 1) (by decide) (x := 1) rfl
      rw [e1, e2, c2_some, c2_some]
      exact OkI.same hR _
    · rw [e, if_neg (nI_m1 (by omega)), if_pos (nI_pos' (by omega))]
      obtain ⟨r, A', B', e1, e2, k1, k2, k3⟩ := rd_all hN h2 ht hn e
      rw [e1, e2, c2_some, c2_some]
      have hR := h.kp k1 k2
      by_cases hr : r = -9
      · obtain ⟨T, hT, hp, ⟨u1, u2⟩, w1, w2, w3, w4⟩ := k3 hr
        rw [if_pos hr, if_pos hr]
        obtain ⟨A1, f1, f2, f3, f4, f5⟩ := become_rep (x0 := 16) (x1 := 22) hN (by omega) hT.1 u1 u2
        obtain ⟨A2, g1, g2, g3, g4⟩ := c_forget hN (nI t) (bw_pI A1 28 2 0)
        obtain ⟨B2, m1, m2, m3, m4, m5, m6, m7, m8, m9, m10⟩ := m_settle hN (nI t) (bw_pI B' 0 9 (B'.1 0 24))
        rw [f1, cl_some, mv_eq, mv_eq, g1, mv_eq, mv_eq, m1]
        obtain ⟨h1, h2, ⟨t1, t2, t3, t4, t5⟩, -⟩ := hR
        have c : ∀ q, (q < 16 ∨ 21 < q) → q ≠ 28 → q ≠ 32 → q ≠ 35 → q ≠ 38 → A2.1 q = A'.1 q := fun q a b c d e => by rw [g3 q c d e, pI_ne b, f4 q (by omega)]
        have c16 : ∀ q, 16 ≤ q → q ≤ 21 → A2.1 q = A1.1 q := fun q a b => by rw [g3 q (by omega) (by omega) (by omega), pI_ne (by omega)]
        have d : ∀ q, q ≠ 0 → (q < 6 ∨ 9 < q) → q ≠ 12 → B2.1 q = B'.1 q := fun q a b c => by rw [m9 q a b c, pI_ne a]
        have d0 : ∀ f, f ≠ 9 → f ≠ 16 → B2.1 0 f = B'.1 0 f := fun f a b => by rw [m8 f b, pI_n a]
        have d9 : B2.1 0 9 = nI T.1 := by rw [m8 9 (by decide), pI_s]; exact w1
        have z16 : A2.1 16 0 = nI T.1 := by rw [c16 16 (by decide) (by decide)]; exact f2.1
        rw [d9, z16]
        refine OkI.same ⟨h1.of (fun q _ _ => c q (by omega) (by omega) (by omega) (by omega) (by omega)) (d 1 (by decide) (by decide) (by decide)) (d 2 (by decide) (by decide) (by decide)), h2.of (fun q _ _ => c q (by omega) (by omega) (by omega) (by omega) (by omega)) (d 3 (by decide) (by decide) (by decide)) (d 4 (by decide) (by decide) (by decide)), ⟨?_, ?_, ?_, ?_, ?_⟩, T, [], (fun _ => none), hT, ⟨f2.of (fun q a b => c16 q a (by omega)), f3.of (c16 _ (by decide) (by decide)) (c16 _ (by decide) (by decide)) (c16 _ (by decide) (by decide)), ⟨?_, by decide, fun k d hk => by cases hk⟩⟩, fun d hd => (by cases hd), ⟨⟨d9, fun j hj => ?_⟩, ⟨?_, ?_, ?_, ?_, ?_, fun j hj => ⟨?_, ?_⟩⟩, by rw [m7]; rfl, fun k hk => absurd hk (Nat.not_lt_zero k)⟩, fun j hj => ⟨g2 j hj, m6 j hj⟩⟩ _
        · rw [c 0 (by omega) (by decide) (by decide) (by decide) (by decide), d0 4 (by decide) (by decide)]; exact t1
        · rw [show A2.2.1 = A'.2.1 by rw [g4]; show A1.2.1 = _; rw [f5], show B2.2.1 = B'.2.1 by rw [m10]; rfl]; exact t2
        · rw [show A2.2.1 = A'.2.1 by rw [g4]; show A1.2.1 = _; rw [f5], show B2.2.1 = B'.2.1 by rw [m10]; rfl]; exact t3
        · rw [c 0 (by omega) (by decide) (by decide) (by decide) (by decide), d0 7 (by decide) (by decide)]; exact t4
        · intro f hf
          rw [c 44 (by omega) (by decide) (by decide) (by decide) (by decide), d 5 (by decide) (by decide) (by decide)]; exact t5 f hf
        · rw [g3 28 (by decide) (by decide) (by decide), pI_s]; rfl
        · obtain ⟨x1, x2, x3⟩ := m2 j (by have := hT.1; omega)
          rw [x1, x2, x3, pI_ne (by decide), pI_ne (by decide), pI_ne (by decide)]; exact w4 j hj
        · rw [m3, pI_n (by decide)]; exact w2
        · rw [m4, pI_n (by decide)]; exact w3
        · exact m5 _ (by decide) (by decide)
        · exact m5 _ (by decide) (by decide)
        · exact m5 _ (by decide) (by decide)
        · exact m5 _ (by omega) (by omega)
        · exact m5 _ (by omega) (by omega)
      · rw [if_neg hr, if_neg hr]
        exact OkI.same hR _
  · rw [(isText_no g1 g2).1, (isText_no g1 g2).2, cl_some, cl_some, if_pos i00, if_pos i00]
    exact OkI.same h _
