/-! hard; hearing rows -/
theorem alw {N : Nat} (hN : 2000 ≤ N) {T : Tw} (hT : t_ok T) (x y z : Int32) {n : Nat} (hn : n ≤ 20) (hy : y = nI n) : ∀ (d k Bn : Nat) (A B : bw_M) (S : Sd) (fu fu' : Nat), k + d = n → d + 1 < fu → d < fu' → Bn + d < 2 ^ 20 → s_ok T.1 Bn S → Tr A B T S → ∃ b A' B', kpC A A' ∧ kpM B B' ∧ bw_lp (fun kk w => fX4_speakAlways_25 N x y z kk w.1 w.2.1 w.2.2) fu (1, nI k, A) = some (bI b, A') ∧ ∀ k34, bw_lp (fun kk w => fX5_hard_57 N x y k34 kk z w.1 w.2.1 w.2.2) fu' (1, nI k, B) = if b = true then some (z, B') else k34 (z + 1, B') := by
  subst hy
  intro d
  induction d with
  | zero =>
    intro k Bn A B S fu fu' hk hf hf' hB hS tr
    rw [Nat.add_zero] at hk
    subst hk
    match fu, fu', hf, hf' with
    | fu + 1, fu' + 1, _, _ =>
      refine ⟨true, A, B, kpC.rf A, kpM.rf B, ?_, fun k34 => ?_⟩
      · rw [bw_lp_s]
        show fX4_speakAlways_25 N x (nI k) z _ 1 (nI k) A = _
        unfold fX4_speakAlways_25 fX4_speakAlways_63
        rw [if_neg i10, if_pos (nI_le (Nat.le_refl _) (by omega)), isb_1, ck_true]; rfl
      · rw [bw_lp_s]
        show fX5_hard_57 N x (nI k) k34 _ z 1 (nI k) B = _
        unfold fX5_hard_57
        rw [if_pos (nI_le (Nat.le_refl _) (by omega)), if_neg i10, if_pos rfl]
  | succ d ih =>
    intro k Bn A B S fu fu' hk hf hf' hB hS tr
    match fu, fu', hf, hf' with
    | fu + 1, fu' + 1, hf, hf' =>
      obtain ⟨A2, B2, e3, e4, tr2, k3, k4⟩ := tr_blow hN (by omega) hT hS tr
      have eC : ∀ kk, fX4_speakAlways_25 N x (nI n) z kk 1 (nI k) A = if (x &&& (nI (s_who T S) ^^^ (-1))) = 0 then kk (1, nI (k + 1), A2) else kk (0, nI (k + 1), A2) := by
        intro kk
        unfold fX4_speakAlways_25 fX4_speakAlways_55
        rw [if_neg i10, if_neg (nI_ge (by omega) (by omega)), e3, c2_some, mv_eq, mv_eq, nI_1]
      have eM : ∀ k34 kk, fX5_hard_57 N x (nI n) k34 kk z 1 (nI k) B = if (x &&& (nI (s_who T S) ^^^ (-1))) = 0 then kk (1, nI (k + 1), B2) else kk (0, nI (k + 1), B2) := by
        intro k34 kk
        unfold fX5_hard_57 fX5_hard_87 fX5_hard_88
        rw [if_neg (nI_ge (by omega) (by omega)), if_neg i10, e4, c2_some, mv_eq, mv_eq, nI_1]
      by_cases hc : (x &&& (nI (s_who T S) ^^^ (-1))) = 0
      · obtain ⟨b, A', B', g1, g2, g3, g4⟩ := ih (k + 1) (Bn + 1) A2 B2 (s_blow T S) fu fu' (by omega) (by omega) (by omega) (by omega) (s_hr_ok hS).2 tr2
        refine ⟨b, A', B', k3.tr g1, k4.tr g2, ?_, fun k34 => ?_⟩
        · rw [bw_lp_s]
          show fX4_speakAlways_25 N x (nI n) z _ 1 (nI k) A = _
          rw [eC, if_pos hc]; exact g3
        · rw [bw_lp_s]
          show fX5_hard_57 N x (nI n) k34 _ z 1 (nI k) B = _
          rw [eM, if_pos hc]; exact g4 k34
      · refine ⟨false, A2, B2, k3, k4, ?_, fun k34 => ?_⟩
        · rw [bw_lp_s]
          show fX4_speakAlways_25 N x (nI n) z _ 1 (nI k) A = _
          rw [eC, if_neg hc]
          match fu, hf with
          | fu + 1, _ =>
            rw [bw_lp_s]
            show fX4_speakAlways_25 N x (nI n) z _ 0 (nI (k + 1)) A2 = _
            unfold fX4_speakAlways_25 fX4_speakAlways_63
            rw [if_pos i00, isb_0, ck_true]; rfl
        · rw [bw_lp_s]
          show fX5_hard_57 N x (nI n) k34 _ z 1 (nI k) B = _
          rw [eM, if_neg hc]
          obtain ⟨kq, hkq⟩ := lp_for (body := fun kk w => fX5_hard_57 N x (nI n) k34 kk z w.1 w.2.1 w.2.2) (fun j => ((0 : Int32), nI j, B2)) n (fun j hj kk => by
            show fX5_hard_57 N x (nI n) k34 kk z 0 (nI j) B2 = _
            unfold fX5_hard_57 fX5_hard_87 fX5_hard_88
            rw [if_neg (nI_ge hj (by omega)), if_pos i00, mv_eq, nI_1]) d fu' (k + 1) (by omega) (by omega)
          rw [hkq]
          show fX5_hard_57 N x (nI n) k34 kq z 0 (nI n) B2 = _
          unfold fX5_hard_57
          rw [if_pos (nI_le (Nat.le_refl _) (by omega)), if_pos i00, mv_eq, if_neg (by decide)]
theorem stroke_ok {p B v : Nat} {S : Sd} (h : s_ok p B S) (hv : v ≤ 9) : s_ok p B (S.1, v, S.2.2) := ⟨h.1, hv, h.2.2⟩
theorem leak_ok {p B v : Nat} {S : Sd} (h : s_ok p B S) (hv : v < 2 ^ p) : s_ok p B (S.1, S.2.1, S.2.2.1, S.2.2.2.1, v, S.2.2.2.2.2) := ⟨h.1, h.2.1, h.2.2.1, h.2.2.2.1, hv, h.2.2.2.2.2⟩
theorem cut_ok {p B v : Nat} {S : Sd} (h : s_ok p B S) (hv : v < 2 ^ p) : s_ok p B (S.1, S.2.1, S.2.2.1, v, S.2.2.2.2) := ⟨h.1, h.2.1, h.2.2.1, hv, h.2.2.2.2⟩
theorem ok_hard {N : Nat} (hN : 2000 ≤ N) {A B : bw_M} (h : Rel A B) (x y : Int32) : OkI (fX4_hard N x y A) (fX5_hard N x y B) := by
  obtain ⟨T, ds, ks, h⟩ := h.rl
  unfold fX4_hard fX4_hard_22 fX5_hard fX5_hard_20
  have hp6 := h.p6
  rcases set_q hp6 h.eA h.eB x with ⟨s, hs, rfl, p1, p2⟩ | ⟨p1, p2⟩
  · rw [p1, p2, cl_some, cl_some, if_neg i10, if_neg i10, in_I y 1 20 (by decide) (by decide), cl_some]
    by_cases hy : (1 : Int32) ≤ y ∧ y ≤ 20
    · rw [if_neg (Int32.not_lt.mpr hy.1), if_pos hy.2, if_pos hy, if_neg i10, h.eA, h.eB]
      obtain ⟨n, hn, rfl⟩ := nI_of2 (x := y) (M := 20) (n := 20) rfl (fun q => Int32.not_lt.mpr hy.1 (lt0_1 q)) hy.2
      by_cases hp : T.1 = 0
      · rw [if_pos ((nI_0' (by omega)).mpr hp), if_pos ((nI_0' (by omega)).mpr hp)]
        exact OkI.same h.rel _
      · rw [if_neg (fun q => hp ((nI_0' (by omega)).mp q)), if_neg (fun q => hp ((nI_0' (by omega)).mp q)), mv_eq, mv_eq]
        unfold flX4_hard_39 flX5_hard_34
        refine lp_two (fun k s t => s.1 = nI k ∧ t.1 = nI k ∧ kpC A s.2 ∧ kpM B t.2) OkI 10 ?_ ?_ 10 N N 0 _ _ (by omega) (by omega) (by omega) ⟨rfl, rfl, kpC.rf _, kpM.rf _⟩
        · intro k u t hk ⟨q1, q2, q4, q5⟩
          obtain ⟨A1, B1, e1, e2, tr, k1, k2⟩ := tr_start hN (h.kp q4 q5)
          obtain ⟨b, A2, B2, k3, k4, e3, e4⟩ := alw hN h.2.2.2.1 (nI s) (nI n) (nI k) hn rfl n 0 40 _ _ _ N N (by omega) (by omega) (by omega) (by omega) (stroke_ok h.sok (show k ≤ 9 by omega)) (tr_stroke tr k)
          have eC : ∀ kk, fX4_hard_39 N (nI s) (nI n) kk u.1 u.2 = if b = true then some (nI k, A2) else kk (nI (k + 1), A2) := by
            intro kk
            unfold fX4_hard_39 fX4_speakAlways flX4_speakAlways_25
            rw [q1, if_neg (show ¬ (10 : Int32) ≤ nI k from nI_ge (b := 10) hk (by decide)), e1, cl_some, mv_eq, mv_eq, mv_eq]
            rw [show (0 : Int32) = nI 0 from rfl, e3, c2_some, mv_eq, nI_1]
            cases b with
            | true => rw [if_neg (show ¬ bI true = nI 0 by decide), if_pos rfl]
            | false => rw [if_pos (show bI false = nI 0 from rfl), if_neg (by decide)]
          have eM : ∀ kk, fX5_hard_34 N (nI s) (nI n) kk t.1 t.2 = if b = true then some (nI k, B2) else kk (nI (k + 1), B2) := by
            intro kk
            unfold fX5_hard_34 flX5_hard_57
            rw [q2, if_neg (show ¬ (10 : Int32) ≤ nI k from nI_ge (b := 10) hk (by decide)), e2, cl_some, w17_1, mv_eq, mv_eq]
            rw [show (0 : Int32) = nI 0 from rfl, e4, nI_1]
          cases b with
          | true =>
            right
            exact ⟨some (nI k, A2), some (nI k, B2), ⟨_, _, _, rfl, rfl, (h.kp (((q4.tr k1).tr kpC_22).tr k3) (((q5.tr k2).tr kpM_10).tr k4)).rel⟩, fun kk => (eC kk).trans (if_pos rfl), fun kk => (eM kk).trans (if_pos rfl)⟩
          | false =>
            left
            exact ⟨(nI (k + 1), A2), (nI (k + 1), B2), ⟨rfl, rfl, ((q4.tr k1).tr kpC_22).tr k3, ((q5.tr k2).tr kpM_10).tr k4⟩, fun kk => (eC kk).trans (if_neg (by decide)), fun kk => (eM kk).trans (if_neg (by decide))⟩
        · intro u t ⟨q1, q2, q4, q5⟩
          refine ⟨some (-9, u.2), some (-9, t.2), ⟨_, _, _, rfl, rfl, (h.kp q4 q5).rel⟩, fun kk => ?_, fun kk => ?_⟩
          · show fX4_hard_39 N (nI s) (nI n) kk u.1 u.2 = _
            unfold fX4_hard_39
            rw [q1, if_pos (show (10 : Int32) ≤ nI 10 by decide)]
          · show fX5_hard_34 N (nI s) (nI n) kk t.1 t.2 = _
            unfold fX5_hard_34
            rw [q2, if_pos (show (10 : Int32) ≤ nI 10 by decide)]
    · rw [if_neg hy, if_pos i00]
      by_cases q : y < 1
      · rw [if_pos q]; exact OkI.same h.rel _
      · rw [if_neg q, if_neg (fun q2 => hy ⟨Int32.not_lt.mp q, q2⟩)]; exact OkI.same h.rel _
  · rw [p1, p2, cl_some, cl_some, if_pos i00, if_pos i00]
    exact OkI.same h.rel _
/-- found, and what it answers -/
theorem fnd {A B : bw_M} (h : Rel A B) {j : Nat} (hj : j < 6) {x : Int32} (hx : x = nI j) : ∃ A' B', Rel A' B' ∧ fX4_found x A = some (-3, A') ∧ fX5_found x B = some (-3, B') := by
  obtain ⟨z, A', B', e1, e2, hR⟩ := ok_found h hj hx
  have hz : z = -3 := by
    subst hx
    unfold fX4_found at e1
    simp only [mv_eq] at e1
    rw [rd_ok hj (by decide), wr_ok hj (by decide)] at e1
    cases e1; rfl
  subst hz
  exact ⟨A', B', hR, e1, e2⟩
/-- a row to be heard: there is one, or both refuse it alike -/
def Zh (A B : bw_M) (x y : Option (Int32 × bw_M)) : Prop := (x = some (0, A) ∧ y = some (0, B)) ∨ ∃ z A' B', ¬ z = 0 ∧ Rel A' B' ∧ x = some (z, A') ∧ y = some (z, B')
theorem hear_row {N : Nat} (hN : 2000 ≤ N) {A B : bw_M} {T : Tw} {ds : List Dd} {ks : Nat → Option (List Dd)} (h : Rl A B T ds ks) {r : Nat} (hr : r < 6) (hp : ¬ T.1 = 0) : (∃ n, 1 ≤ n ∧ n ≤ 10 ∧ A.1 8 r = nI n ∧ fX4_refusedHearing N (nI r) A = some (0, A) ∧ fX5_refusesRow N (nI r) B = some (0, B)) ∨ ∃ z A' B', ¬ z = 0 ∧ Rel A' B' ∧ fX4_refusedHearing N (nI r) A = some (z, A') ∧ fX5_refusesRow N (nI r) B = some (z, B') := by
  have hp6 := h.p6
  obtain ⟨a1, a2, a3⟩ := h.1 r hr
  unfold fX4_refusedHearing fX4_refusedHearing_51 fX5_refusesRow
  simp only [(isRow_ok hr).1, cl_some, if_neg i10, h.eA, if_neg (fun q => hp ((nI_0' (show T.1 < 2 ^ 31 by omega)).mp q)), rd_ok hr (show 6 < 2 ^ 31 by decide), c2_id, mv_eq]
  rw [← a1]
  rcases a2 with e | ⟨n, hn, e⟩
  · right
    rw [e, if_pos rfl, if_neg m1n]
    obtain ⟨A', B', hR, e1, e2⟩ := fnd h.rel (j := 1) (by decide) (x := 1) rfl
    exact ⟨-3, A', B', by decide, hR, e1, e2⟩
  · rw [e, if_neg (nI_m1 (by omega)), if_pos (nI_pos' (by omega)), in_I (nI n) 1 10 (by decide) (by decide), cl_some]
    by_cases h1 : 1 ≤ n ∧ n ≤ 10
    · rw [if_neg (show ¬ nI n < (1 : Int32) from nI_nlt (b := 1) h1.1 (by omega)), if_pos (show nI n ≤ (10 : Int32) from nI_le (b := 10) h1.2 (by decide)), if_pos (show (1 : Int32) ≤ nI n ∧ nI n ≤ 10 from ⟨nI_le (a := 1) h1.1 (by omega), nI_le (b := 10) h1.2 (by decide)⟩), if_neg i10]
      have hz : Zh A B (flX4_refusedHearing_59 N (nI r) (nI n) A N 0) (flX5_refusesRow_40 N (nI r) B N 0) := by
        unfold flX4_refusedHearing_59 flX5_refusesRow_40
        refine lp_two (fun k s t => s = nI k ∧ t = nI k) (Zh A B) n ?_ ?_ n N N 0 _ _ (by omega) (by omega) (by omega) ⟨rfl, rfl⟩
        · intro k s t hk ⟨q1, q2⟩
          subst q1; subst q2
          have ev := a3 k (by omega)
          rcases set_q hp6 h.eA h.eB (A.1 (2 + r) k) with ⟨s, hs, es, p1, p2⟩ | ⟨p1, p2⟩
          · left
            refine ⟨nI (k + 1), nI (k + 1), ⟨rfl, rfl⟩, fun kk => ?_, fun kk => ?_⟩
            · unfold fX4_refusedHearing_59
              rw [if_neg (nI_ge hk (by omega)), ra_ok hr (by decide), rd_ok (by omega) (by decide), p1, cl_some, if_neg i10, mv_eq, nI_1]
            · unfold fX5_refusesRow_40
              rw [rd_ok hr (by decide), ← a1, e, if_neg (nI_ge hk (by omega)), show (40 : Int32) = nI 40 from rfl, pk_mul, nI_add, rd_ok (by omega) (by decide), ← ev, p2, cl_some, if_neg i10, mv_eq, nI_1]
          · right
            obtain ⟨A', B', hR, e1, e2⟩ := fnd h.rel (j := 3) (by decide) (x := 3) rfl
            refine ⟨some (-3, A'), some (-3, B'), Or.inr ⟨-3, A', B', by decide, hR, rfl, rfl⟩, fun kk => ?_, fun kk => ?_⟩
            · unfold fX4_refusedHearing_59
              rw [if_neg (nI_ge hk (by omega)), ra_ok hr (by decide), rd_ok (by omega) (by decide), p1, cl_some, if_pos i00, c2_id, e1]
            · unfold fX5_refusesRow_40
              rw [rd_ok hr (by decide), ← a1, e, if_neg (nI_ge hk (by omega)), show (40 : Int32) = nI 40 from rfl, pk_mul, nI_add, rd_ok (by omega) (by decide), ← ev, p2, cl_some, if_pos i00, c2_id, e2]
        · intro s t ⟨q1, q2⟩
          subst q1; subst q2
          refine ⟨some (0, A), some (0, B), Or.inl ⟨rfl, rfl⟩, fun kk => ?_, fun kk => ?_⟩
          · unfold fX4_refusedHearing_59
            rw [if_pos (nI_le (Nat.le_refl _) (by omega))]
          · unfold fX5_refusesRow_40
            rw [rd_ok hr (by decide), ← a1, e, if_pos (nI_le (Nat.le_refl _) (by omega))]
      rcases hz with ⟨z1, z2⟩ | ⟨z, A', B', z1, z2, z3, z4⟩
      · exact Or.inl ⟨n, h1.1, h1.2, rfl, z1, z2⟩
      · exact Or.inr ⟨z, A', B', z1, z2, z3, z4⟩
    · right
      obtain ⟨A', B', hR, e1, e2⟩ := fnd h.rel (j := 5) (by decide) (x := 5) rfl
      refine ⟨-3, A', B', by decide, hR, ?_, ?_⟩
      · by_cases q : nI n < (1 : Int32)
        · rw [if_pos q]; exact e1
        · rw [if_neg q, if_neg (show ¬ nI n ≤ (10 : Int32) from nI_ge (a := 10) (by
            have : 1 ≤ n := Nat.not_lt.mp fun q2 => q (nI_lt (b := 1) q2 (by decide))
            omega) (by omega))]; exact e1
      · rw [if_neg (show ¬ ((1 : Int32) ≤ nI n ∧ nI n ≤ 10) from fun q => h1 ⟨(nI_leI (a := 1) (by decide) (by omega)).mp q.1, (nI_leI (b := 10) (by omega) (by decide)).mp q.2⟩), if_pos i00]; exact e2
theorem hear_all {N : Nat} (hN : 2000 ≤ N) {A B : bw_M} {T : Tw} {ds : List Dd} {ks : Nat → Option (List Dd)} (h : Rl A B T ds ks) (x : Int32) : (∃ r n, r < 6 ∧ 1 ≤ n ∧ n ≤ 10 ∧ x = nI r ∧ ¬ T.1 = 0 ∧ A.1 8 r = nI n ∧ fX4_refusedHearing N x A = some (0, A) ∧ fX5_refusesAll N x B = some (0, B)) ∨ ∃ z A' B', ¬ z = 0 ∧ Rel A' B' ∧ fX4_refusedHearing N x A = some (z, A') ∧ fX5_refusesAll N x B = some (z, B') := by
  have hp6 := h.p6
  rcases ix_cases x (n := 6) (by decide) (by decide) with ⟨r, hr, rfl⟩ | ⟨g1, g2⟩
  · by_cases hp : T.1 = 0
    · right
      refine ⟨-4, A, B, by decide, h.rel, ?_, ?_⟩
      · unfold fX4_refusedHearing
        rw [(isRow_ok hr).1, cl_some, if_neg i10, h.eA, if_pos ((nI_0' (by omega)).mpr hp)]
      · unfold fX5_refusesAll fX5_refusesAll_26
        rw [(isRow_ok hr).2, cl_some, if_neg i10, h.eB, if_pos ((nI_0' (by omega)).mpr hp)]
    · have eM : fX5_refusesAll N (nI r) B = fX5_refusesRow N (nI r) B := by
        unfold fX5_refusesAll fX5_refusesAll_26
        rw [(isRow_ok hr).2, cl_some, if_neg i10, h.eB, if_neg (fun q => hp ((nI_0' (by omega)).mp q)), c2_id]
      rw [eM]
      rcases hear_row hN h hr hp with ⟨n, n1, n2, e, z1, z2⟩ | ⟨z, A', B', z1, z2, z3, z4⟩
      · exact Or.inl ⟨r, n, hr, n1, n2, rfl, hp, e, z1, z2⟩
      · exact Or.inr ⟨z, A', B', z1, z2, z3, z4⟩
  · right
    refine ⟨-1, A, B, by decide, h.rel, ?_, ?_⟩
    · unfold fX4_refusedHearing
      rw [(isRow_no g1 g2).1, cl_some, if_pos i00]
    · unfold fX5_refusesAll
      rw [(isRow_no g1 g2).2, cl_some, if_pos i00]
/-- the trial speaks like a row -/
theorem like {N : Nat} (hN : 2000 ≤ N) {T : Tw} (hT : t_ok T) {r n : Nat} (hr : r < 6) (hn : n ≤ 10) (f : Nat → Int32) : ∀ (d k Bn : Nat) (A B : bw_M) (S : Sd) (fu fu' : Nat), k + d = n → d + 1 < fu → d < fu' → Bn + d < 2 ^ 20 → A.1 8 r = nI n → B.1 2 r = nI n → (∀ j, j < n → A.1 (2 + r) j = f j) → (∀ j, j < n → B.1 1 (40 * r + j) = f j) → s_ok T.1 Bn S → Tr A B T S → ∃ b A' B', kpC A A' ∧ kpM B B' ∧ bw_lp (fun kk w => fX4_trialSpeaksLike_4 N (nI r) kk w.1 w.2.1 w.2.2) fu (1, nI k, A) = some (bI b, A') ∧ bw_lp (fun kk w => fX5_goesAs_4 N (nI r) kk w.1 w.2.1 w.2.2) fu' (1, nI k, B) = some (bI b, B') ∧ (b = true → ∃ S', Tr A' B' T S' ∧ s_ok T.1 (Bn + d) S') := by
  intro d
  induction d with
  | zero =>
    intro k Bn A B S fu fu' hk hf hf' hB eA eB fA fB hS tr
    rw [Nat.add_zero] at hk
    subst hk
    match fu, fu', hf, hf' with
    | fu + 1, fu' + 1, _, _ =>
      refine ⟨true, A, B, kpC.rf A, kpM.rf B, ?_, ?_, fun _ => ⟨S, tr, hS⟩⟩
      · rw [bw_lp_s]
        show fX4_trialSpeaksLike_4 N (nI r) _ 1 (nI k) A = _
        unfold fX4_trialSpeaksLike_4 fX4_trialSpeaksLike_48
        rw [if_neg i10, rd_ok hr (by decide), eA, if_pos (nI_le (Nat.le_refl _) (by omega)), isb_1, ck_true]; rfl
      · rw [bw_lp_s]
        show fX5_goesAs_4 N (nI r) _ 1 (nI k) B = _
        unfold fX5_goesAs_4
        rw [rd_ok hr (by decide), eB, if_pos (nI_le (Nat.le_refl _) (by omega)), isb_1, ck_true]; rfl
  | succ d ih =>
    intro k Bn A B S fu fu' hk hf hf' hB eA eB fA fB hS tr
    match fu, fu', hf, hf' with
    | fu + 1, fu' + 1, hf, hf' =>
      obtain ⟨A2, B2, e3, e4, tr2, k3, k4⟩ := tr_blow hN (by omega) hT hS tr
      have gA : A2.1 8 = A.1 8 := k3.1 8 (by decide) (by decide) (by decide)
      have gA2 : A2.1 (2 + r) = A.1 (2 + r) := k3.1 (2 + r) (by omega) (by omega) (by omega)
      have gB : B2.1 2 = B.1 2 := k4.1 2 (by decide) (by decide) (by decide)
      have gB1 : B2.1 1 = B.1 1 := k4.1 1 (by decide) (by decide) (by decide)
      have eC : ∀ kk, fX4_trialSpeaksLike_4 N (nI r) kk 1 (nI k) A = if nI (s_who T S) = f k then kk (1, nI (k + 1), A2) else kk (0, nI (k + 1), A2) := by
        intro kk
        unfold fX4_trialSpeaksLike_4 fX4_trialSpeaksLike_41
        rw [if_neg i10, rd_ok hr (by decide), eA, if_neg (nI_ge (by omega) (by omega)), e3, c2_some, ra_ok hr (by decide), rd_ok (by omega) (by decide), gA2, fA k (by omega), mv_eq, mv_eq, nI_1]
      have eM : ∀ kk, fX5_goesAs_4 N (nI r) kk 1 (nI k) B = if nI (s_who T S) = f k then kk (1, nI (k + 1), B2) else kk (0, nI (k + 1), B2) := by
        intro kk
        unfold fX5_goesAs_4 fX5_goesAs_44 fX5_goesAs_45
        rw [rd_ok hr (by decide), eB, if_neg (nI_ge (by omega) (by omega)), if_neg i10, e4, c2_some, show (40 : Int32) = nI 40 from rfl, pk_mul, nI_add, rd_ok (by omega) (by decide), gB1, fB k (by omega), mv_eq, mv_eq, nI_1]
      by_cases hc : nI (s_who T S) = f k
      · obtain ⟨b, A', B', g1, g2, g3, g4, g5⟩ := ih (k + 1) (Bn + 1) A2 B2 (s_blow T S) fu fu' (by omega) (by omega) (by omega) (by omega) (by rw [gA]; exact eA) (by rw [gB]; exact eB) (fun j hj => by rw [gA2]; exact fA j hj) (fun j hj => by rw [gB1]; exact fB j hj) (s_hr_ok hS).2 tr2
        refine ⟨b, A', B', k3.tr g1, k4.tr g2, ?_, ?_, fun hb => ?_⟩
        · rw [bw_lp_s]
          show fX4_trialSpeaksLike_4 N (nI r) _ 1 (nI k) A = _
          rw [eC, if_pos hc]; exact g3
        · rw [bw_lp_s]
          show fX5_goesAs_4 N (nI r) _ 1 (nI k) B = _
          rw [eM, if_pos hc]; exact g4
        · obtain ⟨S', t1, t2⟩ := g5 hb
          exact ⟨S', t1, t2.mono (by omega)⟩
      · refine ⟨false, A2, B2, k3, k4, ?_, ?_, fun q => by cases q⟩
        · rw [bw_lp_s]
          show fX4_trialSpeaksLike_4 N (nI r) _ 1 (nI k) A = _
          rw [eC, if_neg hc]
          match fu, hf with
          | fu + 1, _ =>
            rw [bw_lp_s]
            show fX4_trialSpeaksLike_4 N (nI r) _ 0 (nI (k + 1)) A2 = _
            unfold fX4_trialSpeaksLike_4 fX4_trialSpeaksLike_48
            rw [if_pos i00, isb_0, ck_true]; rfl
        · rw [bw_lp_s]
          show fX5_goesAs_4 N (nI r) _ 1 (nI k) B = _
          rw [eM, if_neg hc]
          obtain ⟨kq, hkq⟩ := lp_for (body := fun kk w => fX5_goesAs_4 N (nI r) kk w.1 w.2.1 w.2.2) (fun j => ((0 : Int32), nI j, B2)) n (fun j hj kk => by
            show fX5_goesAs_4 N (nI r) kk 0 (nI j) B2 = _
            unfold fX5_goesAs_4 fX5_goesAs_44 fX5_goesAs_45
            rw [rd_ok hr (by decide), gB, eB, if_neg (nI_ge hj (by omega)), if_pos i00, mv_eq, nI_1]) d fu' (k + 1) (by omega) (by omega)
          rw [hkq]
          show fX5_goesAs_4 N (nI r) kq 0 (nI n) B2 = _
          unfold fX5_goesAs_4
          rw [rd_ok hr (by decide), gB, eB, if_pos (nI_le (Nat.le_refl _) (by omega)), isb_0, ck_true]; rfl
theorem like_row {N : Nat} (hN : 2000 ≤ N) {T : Tw} (hT : t_ok T) {r n Bn : Nat} (hr : r < 6) (hn : n ≤ 10) {A B : bw_M} {S : Sd} (hB : Bn < 2 ^ 19) (eA : A.1 8 r = nI n) (eB : B.1 2 r = nI n) (hf : ∀ j, j < 40 → A.1 (2 + r) j = B.1 1 (40 * r + j)) (hS : s_ok T.1 Bn S) (tr : Tr A B T S) : ∃ b A' B', kpC A A' ∧ kpM B B' ∧ fX4_trialSpeaksLike N (nI r) A = some (bI b, A') ∧ fX5_goesAs N (nI r) B = some (bI b, B') ∧ (b = true → ∃ S', Tr A' B' T S' ∧ s_ok T.1 (Bn + n) S') := by
  obtain ⟨b, A', B', g1, g2, g3, g4, g5⟩ := like hN hT hr hn (fun j => A.1 (2 + r) j) n 0 Bn A B S N N (by omega) (by omega) (by omega) (by omega) eA eB (fun j _ => rfl) (fun j hj => (hf j (by omega)).symm) hS tr
  exact ⟨b, A', B', g1, g2, g3, g4, g5⟩
