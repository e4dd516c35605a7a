/-! odds, mid -/
def s_vl (T : Tw) (S : Sd) (o : Option Nat) (k : Nat) : Nat := match o with
  | none => (s_blow T (S.1, S.2.1, S.2.2.1, S.2.2.2.1, S.2.2.2.2.1 ||| k, S.2.2.2.2.2)).1
  | some i => if (s_who T (S.1, S.2.1, S.2.2.1, S.2.2.2.1, S.2.2.2.2.1 ||| k, S.2.2.2.2.2)).testBit i = true then 1 else 0
def s_ox : Option Nat → Int32
  | none => -9
  | some i => nI i
theorem tr_leaks {N : Nat} (hN : 2000 ≤ N) {A B : bw_M} {T : Tw} {ds : List Dd} {ks : Nat → Option (List Dd)} (h : Rl A B T ds ks) {k : Nat} (hk : k < 2 ^ T.1) : ∃ A' B' A1 B1, fX3_become N 22 16 A = some A1 ∧ A1.1 16 7 = nI (s_rep T ds).2.2.2.2.1 ∧ fX5_layAside N B = some B1 ∧ B1.1 10 4 = nI (s_rep T ds).2.2.2.2.1 ∧ fX3_blow N 22 (bw_pI A1 22 7 (nI ((s_rep T ds).2.2.2.2.1 ||| k))) = some (nI (s_who T ((s_rep T ds).1, (s_rep T ds).2.1, (s_rep T ds).2.2.1, (s_rep T ds).2.2.2.1, (s_rep T ds).2.2.2.2.1 ||| k, (s_rep T ds).2.2.2.2.2)), A') ∧ fX5_goes N 10 17 (bw_pI B1 10 4 (nI ((s_rep T ds).2.2.2.2.1 ||| k))) = some (nI (s_who T ((s_rep T ds).1, (s_rep T ds).2.1, (s_rep T ds).2.2.1, (s_rep T ds).2.2.2.1, (s_rep T ds).2.2.2.2.1 ||| k, (s_rep T ds).2.2.2.2.2)), B') ∧ A'.1 22 3 = nI (s_vl T (s_rep T ds) none k) ∧ B'.1 10 0 = nI (s_vl T (s_rep T ds) none k) ∧ kqC A A' ∧ kqM B B' := by
  obtain ⟨A1, B1, e1, e2, tr, k1, k2⟩ := tr_start_q hN h
  have hT := h.2.2.2.1
  have tr2 := tr_leak tr ((s_rep T ds).2.2.2.2.1 ||| k)
  obtain ⟨A2, B2, e3, e4, tr3, k3, k4⟩ := tr_blow_q hN (Bn := 40) (by decide) hT (leak_ok h.sok (Nat.or_lt_two_pow h.sok.2.2.2.2.1 hk)) tr2
  refine ⟨A2, B2, A1, B1, e1, ?_, e2, ?_, e3, e4, tr3.2.1.1, tr3.2.2.2.1, (k1.tr kqC_22).tr k3, (k2.tr kqM_10).tr k4⟩
  · rw [k1.1 16 (by omega)]; exact h.2.2.2.2.1.2.1.2.2.2.2.1
  · obtain ⟨-, -, -, c1, c2, c3, c4, c5, c6⟩ := tr
    exact c5
theorem vl_60 {T : Tw} {S : Sd} {B : Nat} (hs : s_ok T.1 B S) {k : Nat} (hk : k < 2 ^ T.1) (o : Option Nat) : s_vl T S o k ≤ 60 := by
  cases o with
  | none => exact (s_hr_ok (leak_ok hs (Nat.or_lt_two_pow hs.2.2.2.2.1 hk))).2.1
  | some i => unfold s_vl; show (if _ then 1 else 0) ≤ 60; split <;> omega
theorem tw_le (l : Nat) : ∀ p, p ≤ 6 → 1 ≤ s_tw l p ∧ s_tw l p ≤ 12 ^ p := by
  intro p
  induction p with
  | zero => intro _; exact ⟨Nat.le_refl _, Nat.le_refl _⟩
  | succ p ih =>
    intro hp
    obtain ⟨h1, h2⟩ := ih (by omega)
    show 1 ≤ s_tw l p * (if l.testBit p = true then 1 else 12) ∧ s_tw l p * (if l.testBit p = true then 1 else 12) ≤ 12 ^ (p + 1)
    rw [Nat.pow_succ]
    split <;> omega
theorem means {N : Nat} (hN : 2000 ≤ N) {A B : bw_M} {T : Tw} {ds : List Dd} {ks : Nat → Option (List Dd)} (h : Rl A B T ds ks) {x : Nat} (hx : x ≤ 12) (o : Option Nat) (ho : ∀ i, o = some i → i < T.1) : ∃ A' B' B1 a b, fX4_tellMeanOfNextHour N (s_ox o) (nI x) A = some A' ∧ fX5_ways N (s_ox o) (nI x) B = some (a, B1) ∧ fX5_allWays N B1 = some b ∧ fX5_fraction N a b B1 = some (1, B') ∧ Rl A' B' T ds ks := by
  have hp6 := h.p6
  obtain ⟨-, -, -, hT, ⟨b1, b2, b3⟩, hds, ⟨m1, m2, m3, m4⟩, hk⟩ := id h
  have hs := h.sok
  obtain ⟨w1, w2⟩ := pw6 hp6
  have tl := fun (A1 B1 : bw_M) (k : Nat) (q1 : kqC A A1) (q2 : kqM B B1) (hk : k < 2 ^ T.1) => tr_leaks hN (h.kp q1.kp q2.kp) hk
  have hm4 : B.1 9 4 = nI (s_rep T ds).2.2.2.2.1 := m2.2.2.2.2.1
  have ha7 : A.1 16 7 = nI (s_rep T ds).2.2.2.2.1 := b2.2.2.2.2.1
  generalize hS : s_rep T ds = S at *
  have hl : S.2.2.2.2.1 < 2 ^ T.1 := hs.2.2.2.2.1
  have hl64 := p64 hp6 hl
  have who31 : ∀ k, k < 2 ^ T.1 → s_who T (S.1, S.2.1, S.2.2.1, S.2.2.2.1, S.2.2.2.2.1 ||| k, S.2.2.2.2.2) < 2 ^ 31 := fun k hk => p31 hp6 (s_hr_ok (leak_ok hs (Nat.or_lt_two_pow hl hk))).1
  have hv60 : ∀ k, k < 2 ^ T.1 → s_vl T S o k ≤ 60 := fun k hk => vl_60 hs hk o
  have ht : (2 ^ T.1 - 1) ^^^ S.2.2.2.2.1 < 2 ^ T.1 := Nat.xor_lt_two_pow (by omega) hl
  have hbg : ∀ j, ((2 ^ T.1 - 1) ^^^ S.2.2.2.2.1) < j → j < 2 ^ T.1 → ¬ j &&& S.2.2.2.2.1 = 0 := fun j a b q => by
    have := (cmpl b).mp q
    have h2 := Nat.and_le_right (n := j) (m := (2 ^ T.1 - 1) ^^^ S.2.2.2.2.1)
    omega
  have dis : ∀ k, k < 2 ^ T.1 → ((nI k &&& (nI ((2 ^ T.1 - 1) ^^^ S.2.2.2.2.1) ^^^ (-1)) = 0) ↔ k &&& S.2.2.2.2.1 = 0) := fun k hk => by
    rw [subI k (p64 hp6 hk) _ (p64 hp6 ht), cmpl hk]
  have wtC : ∀ k, k < 2 ^ T.1 → k &&& S.2.2.2.2.1 = 0 → x ^ s_cn k * (12 - x) ^ s_cn (((2 ^ T.1 - 1) ^^^ S.2.2.2.2.1) &&& (63 ^^^ k)) = s_wt x S.2.2.2.2.1 k T.1 := fun k hk q => wt_C hp6 hl hk ((dj_and hk).mpr q)
  have less : ∀ k, k < 2 ^ T.1 → nI ((2 ^ T.1 - 1) ^^^ S.2.2.2.2.1) &&& (nI k ^^^ (-1)) = nI (((2 ^ T.1 - 1) ^^^ S.2.2.2.2.1) &&& (63 ^^^ k)) ∧ ((2 ^ T.1 - 1) ^^^ S.2.2.2.2.1) &&& (63 ^^^ k) < 64 := fun k hk => ⟨lessI _ (p64 hp6 ht) k (p64 hp6 hk), Nat.lt_of_le_of_lt Nat.and_le_left (p64 hp6 ht)⟩
  have tgt := tightI T.1 hp6 S.2.2.2.2.1 hl
  generalize hod : (2 ^ T.1 - 1) ^^^ S.2.2.2.2.1 = t at *
  generalize hle : S.2.2.2.2.1 = l at *
  -- the sums
  obtain ⟨fS, hfS⟩ : ∃ fS : Nat → Nat, fS = fun s => if s &&& l = 0 then s_wt x l s T.1 * s_vl T S o s else 0 := ⟨_, rfl⟩
  obtain ⟨fW, hfW⟩ : ∃ fW : Nat → Nat, fW = fun s => if s &&& l = 0 then s_wt x l s T.1 else 0 := ⟨_, rfl⟩
  have sW : sumN fW (2 ^ T.1) = s_tw l T.1 := by
    rw [← wt_sum hx T.1, hfW]
    refine sumN_cg _ (fun s hs => ?_)
    by_cases q : s &&& l = 0
    · rw [if_pos ((dj_and hs).mpr q)]; exact if_pos q
    · rw [if_neg (fun z => q ((dj_and hs).mp z))]; exact if_neg q
  have tS : sumN fS (2 ^ T.1) = sumN fS (t + 1) := sumN_tail (by omega) (fun j a b => by rw [hfS]; exact if_neg (hbg j (by omega) b))
  have tW : sumN fW (2 ^ T.1) = sumN fW (t + 1) := sumN_tail (by omega) (fun j a b => by rw [hfW]; exact if_neg (hbg j (by omega) b))
  have leS : sumN fS (2 ^ T.1) ≤ s_tw l T.1 * 60 := by
    rw [← sW, ← sumN_mul]
    refine sumN_le _ (fun s hs => ?_)
    rw [hfS, hfW]
    show (if s &&& l = 0 then s_wt x l s T.1 * s_vl T S o s else 0) ≤ (if s &&& l = 0 then s_wt x l s T.1 else 0) * 60
    split
    · exact Nat.mul_le_mul_left _ (hv60 s hs)
    · omega
  obtain ⟨tw1, tw2⟩ := tw_le l T.1 hp6
  have tw3 : s_tw l T.1 < 2 ^ 22 := Nat.lt_of_le_of_lt tw2 (Nat.lt_of_le_of_lt (Nat.pow_le_pow_right (by decide) hp6) (by decide))
  have x64 : (nI x).toInt64 = lN x := nI_l (by omega)
  have x12 : ((12 : Int32) - nI x).toInt64 = lN (12 - x) := by rw [show (12 : Int32) - nI x = nI (12 - x) from pk_sub (a := 12) hx]; exact nI_l (by omega)
  have xL12 : (12 : Int64) - (nI x).toInt64 = lN (12 - x) := by rw [x64]; exact lN_sub (a := 12) hx
  have ox9 : ∀ i, o = some i → ¬ s_ox o = (-9 : Int32) := fun i e => by subst e; exact nI_m9 (by have := ho i rfl; omega)
  -- the class
  have cls : ∃ A1, kqC A A1 ∧ fX4_tellMeanOfNextHour N (s_ox o) (nI x) A = fX4_tellShare N (lN (sumN fS (t + 1))) (lN (sumN fW (t + 1))) A1 := by
    unfold fX4_tellMeanOfNextHour flX4_tellMeanOfNextHour_27
    rw [all_eq hp6 h.eA, cl_some, ha7, tgt]
    simp only [mv_eq]
    obtain ⟨s', k', hI, hk'⟩ := lp_inv (body := fun kk w => fX4_tellMeanOfNextHour_27 N (s_ox o) (nI x) kk (nI t) w.1 w.2.1 w.2.2.1 w.2.2.2) (fun k s => s.1 = lN (sumN fS k) ∧ s.2.1 = lN (sumN fW k) ∧ s.2.2.1 = nI k ∧ kqC A s.2.2.2) (t + 1) (fun k s hk hI => by
      obtain ⟨q1, q2, q3, q4⟩ := hI
      have hk2 : k < 2 ^ T.1 := by omega
      have hk64 := p64 hp6 hk2
      obtain ⟨A', B', A2, B2, e1, e1', e2, e2', e3, e4, v1, v2, k1, k2⟩ := tl s.2.2.2 B k q4 (kqM.rf B) hk2
      by_cases c1 : k &&& l = 0
      · refine ⟨(lN (sumN fS (k + 1)), lN (sumN fW (k + 1)), nI (k + 1), A'), ⟨rfl, rfl, rfl, q4.tr k1⟩, fun kk => ?_⟩
        obtain ⟨l1, l2⟩ := less k hk2
        have hck := cn_6 k hk64
        have hcl := cn_6 _ l2
        have efS : sumN fS (k + 1) = sumN fS k + s_wt x l k T.1 * s_vl T S o k := by
          show sumN fS k + fS k = _
          rw [hfS]; exact congrArg _ (if_pos c1)
        have efW : sumN fW (k + 1) = sumN fW k + s_wt x l k T.1 := by
          show sumN fW k + fW k = _
          rw [hfW]; exact congrArg _ (if_pos c1)
        have fin : fX4_tellMeanOfNextHour_139 N (s_ox o) (nI x) kk (nI t) (lN (sumN fS k)) (lN (sumN fW k)) (nI k) (lN (s_wt x l k T.1)) (nI (s_vl T S o k)) A' = kk (lN (sumN fS (k + 1)), lN (sumN fW (k + 1)), nI (k + 1), A') := by
          unfold fX4_tellMeanOfNextHour_139 fX4_tellMeanOfNextHour_159
          have := hv60 k hk2
          rw [mv_eq, mv_eq, mv_eq, nI_1, nI_l (by omega), lN_mul, lN_add, lN_add, efS, efW]
        show fX4_tellMeanOfNextHour_27 N (s_ox o) (nI x) kk (nI t) s.1 s.2.1 s.2.2.1 s.2.2.2 = _
        unfold fX4_tellMeanOfNextHour_27
        rw [q1, q2, q3, if_neg (nI_nlt (by omega) (by omega)), if_pos ((dis k hk2).mpr c1), cn_C k hk64, cl_some, x64, x12, pow_C hN hck, cl_some, l1, cn_C _ l2, cl_some, pow_C hN hcl, cl_some, mv_eq, lN_mul, wtC k hk2 c1, e1, cl_some, mv_eq, e1', orN l hl64 k hk64, e3, c2_some]
        cases o with
        | none =>
          rw [if_pos (show s_ox none = (-9 : Int32) from rfl), v1]
          exact fin
        | some i =>
          have hi := ho i rfl
          rw [if_neg (ox9 i rfl), show s_ox (some i) = nI i from rfl, isIn_eq (who31 k hk2) (by omega), cl_some]
          cases hb : (s_who T (S.1, S.2.1, S.2.2.1, S.2.2.2.1, l ||| k, S.2.2.2.2.2)).testBit i with
          | false =>
            rw [if_pos bI_f]
            rw [show s_vl T S (some i) k = 0 by show (if (s_who T (S.1, S.2.1, S.2.2.1, S.2.2.2.1, S.2.2.2.2.1 ||| k, S.2.2.2.2.2)).testBit i = true then 1 else 0) = 0; rw [hle, hb]; rfl] at fin
            exact fin
          | true =>
            rw [if_neg (show ¬ bI true = 0 by decide)]
            rw [show s_vl T S (some i) k = 1 by show (if (s_who T (S.1, S.2.1, S.2.2.1, S.2.2.2.1, S.2.2.2.2.1 ||| k, S.2.2.2.2.2)).testBit i = true then 1 else 0) = 1; rw [hle, hb]; rfl] at fin
            exact fin
      · refine ⟨(lN (sumN fS (k + 1)), lN (sumN fW (k + 1)), nI (k + 1), s.2.2.2), ⟨rfl, rfl, rfl, q4⟩, fun kk => ?_⟩
        have efS : sumN fS (k + 1) = sumN fS k := by
          show sumN fS k + fS k = _
          rw [hfS, show (fun s => if s &&& l = 0 then s_wt x l s T.1 * s_vl T S o s else 0) k = 0 from if_neg c1]; rfl
        have efW : sumN fW (k + 1) = sumN fW k := by
          show sumN fW k + fW k = _
          rw [hfW, show (fun s => if s &&& l = 0 then s_wt x l s T.1 else 0) k = 0 from if_neg c1]; rfl
        show fX4_tellMeanOfNextHour_27 N (s_ox o) (nI x) kk (nI t) s.1 s.2.1 s.2.2.1 s.2.2.2 = _
        unfold fX4_tellMeanOfNextHour_27 fX4_tellMeanOfNextHour_159
        rw [q1, q2, q3, if_neg (nI_nlt (by omega) (by omega)), if_neg (fun q => c1 ((dis k hk2).mp q)), mv_eq, nI_1, efS, efW]) (t + 1) N 0 (0, 0, 0, A) (by omega) (by omega) ⟨rfl, rfl, rfl, kqC.rf A⟩
    obtain ⟨q1, q2, q3, q4⟩ := hI
    refine ⟨s'.2.2.2, q4, ?_⟩
    rw [hk']
    show fX4_tellMeanOfNextHour_27 N (s_ox o) (nI x) k' (nI t) s'.1 s'.2.1 s'.2.2.1 s'.2.2.2 = _
    unfold fX4_tellMeanOfNextHour_27
    rw [q1, q2, q3, if_pos (nI_lt (by omega) (by omega)), cl_id]
  have mdl : ∃ B1, kqM B B1 ∧ fX5_ways N (s_ox o) (nI x) B = some (lN (sumN fS (2 ^ T.1)), B1) := by
    unfold fX5_ways flX5_ways_5
    simp only [mv_eq]
    obtain ⟨s', k', hI, hk'⟩ := lp_inv (body := fun kk w => fX5_ways_5 N (s_ox o) (nI x) kk w.1 w.2.1 w.2.2) (fun k s => s.1 = lN (sumN fS k) ∧ s.2.1 = nI k ∧ kqM B s.2.2) (2 ^ T.1) (fun k s hk2 hI => by
      obtain ⟨q1, q3, q4⟩ := hI
      have hk64 := p64 hp6 hk2
      obtain ⟨A', B', A2, B2, e1, e1', e2, e2', e3, e4, v1, v2, k1, k2⟩ := tl A s.2.2 k (kqC.rf A) q4 hk2
      have s04 : s.2.2.1 9 4 = nI l := by rw [q4.1 9 (by decide)]; exact hm4
      have s09 : s.2.2.1 0 9 = nI T.1 := by rw [q4.1 0 (by decide)]; exact h.eB
      by_cases c1 : k &&& l = 0
      · refine ⟨(lN (sumN fS (k + 1)), nI (k + 1), B'), ⟨rfl, rfl, q4.tr k2⟩, fun kk => ?_⟩
        have efS : sumN fS (k + 1) = sumN fS k + s_wt x l k T.1 * s_vl T S o k := by
          show sumN fS k + fS k = _
          rw [hfS]; exact congrArg _ (if_pos c1)
        have fin : fX5_ways_142 N (s_ox o) (nI x) kk (nI k) (lN (sumN fS k)) (lN (s_wt x l k T.1)) (nI (s_vl T S o k)) B' = kk (lN (sumN fS (k + 1)), nI (k + 1), B') := by
          unfold fX5_ways_142 fX5_ways_146
          have := hv60 k hk2
          rw [mv_eq, mv_eq, nI_1, nI_l (by omega), lN_mul, lN_add, efS]
        show fX5_ways_5 N (s_ox o) (nI x) kk s.1 s.2.1 s.2.2 = _
        unfold fX5_ways_5 flX5_ways_34
        rw [q1, q3, s09, shlI _ hp6, if_neg (nI_ge hk2 (by omega)), r17_4, s04, if_pos ((disI k hk64 l hl64).mpr c1), mv_eq, mv_eq]
        obtain ⟨k', hk'⟩ := lp_for (body := fun k34 w => fX5_ways_34 N (s_ox o) (nI x) kk k34 (lN (sumN fS k)) (nI k) w.1 w.2 s.2.2) (fun j => (lN (s_wt x l k j), nI j)) T.1 (fun j hj k34 => by
          show fX5_ways_34 N (s_ox o) (nI x) kk k34 (lN (sumN fS k)) (nI k) (lN (s_wt x l k j)) (nI j) s.2.2 = k34 (lN (s_wt x l k j * (if l.testBit j = true then 1 else if k.testBit j = true then x else 12 - x)), nI (j + 1))
          unfold fX5_ways_34 fX5_ways_84
          rw [s09, if_neg (nI_ge hj (by omega)), r17_4, s04, has_eq (by omega) (by omega), cl_some, has_eq (by omega) (by omega), cl_some, x64, ← x64, xL12, x64]
          simp only [mv_eq, nI_1]
          cases l.testBit j with
          | true => rw [if_neg (show ¬ bI true = 0 by decide), if_pos rfl, show (1 : Int64) = lN 1 from rfl, lN_mul]
          | false =>
            rw [if_pos bI_f, if_neg (show ¬ (false = true) by decide)]
            cases k.testBit j with
            | true => rw [if_neg (show ¬ bI true = 0 by decide), if_pos rfl, lN_mul]
            | false => rw [if_pos bI_f, if_neg (show ¬ (false = true) by decide), lN_mul]) T.1 N 0 (by omega) (by omega)
        refine (show _ = _ from hk').trans ?_
        show fX5_ways_34 N (s_ox o) (nI x) kk k' (lN (sumN fS k)) (nI k) (lN (s_wt x l k T.1)) (nI T.1) s.2.2 = _
        unfold fX5_ways_34
        rw [s09, if_pos (nI_le (Nat.le_refl _) (by omega)), e2, cl_some, r17_4, w17_4, e2', orN l hl64 k hk64, e4, c2_some]
        cases o with
        | none =>
          rw [if_pos (show s_ox none = (-9 : Int32) from rfl), r17_0, v2]
          exact fin
        | some i =>
          have hi := ho i rfl
          rw [if_neg (ox9 i rfl), show s_ox (some i) = nI i from rfl, bitB (who31 k hk2) (by omega)]
          cases hb : (s_who T (S.1, S.2.1, S.2.2.1, S.2.2.2.1, l ||| k, S.2.2.2.2.2)).testBit i with
          | false =>
            rw [show s_vl T S (some i) k = 0 by show (if (s_who T (S.1, S.2.1, S.2.2.1, S.2.2.2.1, S.2.2.2.2.1 ||| k, S.2.2.2.2.2)).testBit i = true then 1 else 0) = 0; rw [hle, hb]; rfl] at fin
            exact fin
          | true =>
            rw [show s_vl T S (some i) k = 1 by show (if (s_who T (S.1, S.2.1, S.2.2.1, S.2.2.2.1, S.2.2.2.2.1 ||| k, S.2.2.2.2.2)).testBit i = true then 1 else 0) = 1; rw [hle, hb]; rfl] at fin
            exact fin
      · refine ⟨(lN (sumN fS (k + 1)), nI (k + 1), s.2.2), ⟨rfl, rfl, q4⟩, fun kk => ?_⟩
        have efS : sumN fS (k + 1) = sumN fS k := by
          show sumN fS k + fS k = _
          rw [hfS, show (fun s => if s &&& l = 0 then s_wt x l s T.1 * s_vl T S o s else 0) k = 0 from if_neg c1]; rfl
        show fX5_ways_5 N (s_ox o) (nI x) kk s.1 s.2.1 s.2.2 = _
        unfold fX5_ways_5 fX5_ways_146
        rw [q1, q3, s09, shlI _ hp6, if_neg (nI_ge hk2 (by omega)), r17_4, s04, if_neg (fun q => c1 ((disI k hk64 l hl64).mp q)), mv_eq, nI_1, efS]) (2 ^ T.1) N 0 (0, 0, B) (by omega) (by omega) ⟨rfl, rfl, kqM.rf B⟩
    obtain ⟨q1, q3, q4⟩ := hI
    refine ⟨s'.2.2, q4, ?_⟩
    rw [hk']
    show fX5_ways_5 N (s_ox o) (nI x) k' s'.1 s'.2.1 s'.2.2 = _
    unfold fX5_ways_5
    rw [q1, q3, q4.1 0 (by decide), h.eB, shlI _ hp6, if_pos (nI_le (Nat.le_refl _) (by omega))]
  obtain ⟨A1, kA, eA⟩ := cls
  obtain ⟨B1, kB, eB⟩ := mdl
  rw [← tS, ← tW, sW, share_C hN (by omega) tw3 tw1] at eA
  refine ⟨_, _, B1, _, lN (s_tw l T.1), eA, eB, all_M hN hp6 hl (by rw [kB.1 0 (by decide)]; exact h.eB) (by rw [kB.1 9 (by decide)]; exact hm4), share_M hN (by omega) tw3 tw1 B1, ?_⟩
  exact (h.kp kA.kp kB.kp).shr _ _
theorem ok_odds {N : Nat} (hN : 2000 ≤ N) {A B : bw_M} (h : Rel A B) (x y : Int32) : OkI (fX4_odds N x y A) (fX5_odds N x y B) := by
  obtain ⟨T, ds, ks, h⟩ := h.rl
  unfold fX4_odds fX4_odds_21 fX5_odds fX5_odds_37 fX5_odds_38
  rw [in_I y 0 12 (by decide) (by decide), cl_some]
  rcases pipe_cases h x with ⟨i, hi, rfl, p1, p2⟩ | ⟨p1, p2⟩
  · rw [p1, p2, cl_some, cl_some, if_neg i10, if_neg i10]
    rcases rng y 12 (by decide) with ⟨n, hn, rfl⟩ | hy
    · rw [if_neg (nI_pos (by omega)), if_pos (show nI n ≤ (12 : Int32) from nI_le (b := 12) hn (by decide)), if_pos (show (0 : Int32) ≤ nI n ∧ nI n ≤ 12 from ⟨nI_pos' (by omega), nI_le (b := 12) hn (by decide)⟩), if_neg i10]
      obtain ⟨A', B', B1, a, b, e1, e2, e3, e4, hR⟩ := means hN h hn (some i) (fun j e => by cases e; exact hi)
      rw [show fX4_tellMeanOfNextHour N (nI i) (nI n) A = some A' from e1, show fX5_ways N (nI i) (nI n) B = some (a, B1) from e2, cl_some, c2_some, e3, cl_some, e4, c2_some]
      exact OkI.same hR.rel _
    · rw [if_neg (show ¬ ((0 : Int32) ≤ y ∧ y ≤ 12) from hy), if_pos i00]
      by_cases q : y < 0
      · rw [if_pos q]; exact OkI.same h.rel _
      · rw [if_neg q, if_neg (show ¬ y ≤ (12 : Int32) from fun q2 => hy ⟨Int32.not_lt.mp q, q2⟩)]; exact OkI.same h.rel _
  · rw [p1, p2, cl_some, cl_some, if_pos i00, if_pos i00]
    exact OkI.same h.rel _
theorem ok_mid {N : Nat} (hN : 2000 ≤ N) {A B : bw_M} (h : Rel A B) (y : Int32) : OkI (fX4_mid N y A) (fX5_mid N y B) := by
  obtain ⟨T, ds, ks, h⟩ := h.rl
  have hp6 := h.p6
  unfold fX4_mid fX4_mid_10 fX5_mid fX5_mid_41
  rw [in_I y 0 12 (by decide) (by decide), cl_some]
  rcases rng y 12 (by decide) with ⟨n, hn, rfl⟩ | hy
  · rw [if_neg (nI_pos (by omega)), if_pos (show nI n ≤ (12 : Int32) from nI_le (b := 12) hn (by decide)), if_pos (show (0 : Int32) ≤ nI n ∧ nI n ≤ 12 from ⟨nI_pos' (by omega), nI_le (b := 12) hn (by decide)⟩), if_neg i10, h.eA, h.eB]
    by_cases hp : T.1 = 0
    · rw [if_pos ((nI_0' (by omega)).mpr hp), if_pos ((nI_0' (by omega)).mpr hp)]
      exact OkI.same h.rel _
    · rw [if_neg (fun q => hp ((nI_0' (by omega)).mp q)), if_neg (fun q => hp ((nI_0' (by omega)).mp q))]
      obtain ⟨A', B', B1, a, b, e1, e2, e3, e4, hR⟩ := means hN h hn none (fun j e => by cases e)
      rw [show fX4_tellMeanOfNextHour N (-9) (nI n) A = some A' from e1, show fX5_ways N (-9) (nI n) B = some (a, B1) from e2, cl_some, c2_some, e3, cl_some, e4, c2_some]
      exact OkI.same hR.rel _
  · rw [if_neg (show ¬ ((0 : Int32) ≤ y ∧ y ≤ 12) from hy), if_pos i00]
    by_cases q : y < 0
    · rw [if_pos q]; exact OkI.same h.rel _
    · rw [if_neg q, if_neg (show ¬ y ≤ (12 : Int32) from fun q2 => hy ⟨Int32.not_lt.mp q, q2⟩)]; exact OkI.same h.rel _
