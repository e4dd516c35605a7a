/-! Laying aside: both have a town to try with -/
theorem cpy_0 (f g : Nat → Int32) (a b : Nat) : va_cpy f g a b 0 = g := by
  funext j; exact pk_cpy_out (by omega)
theorem cpy_s (f g : Nat → Int32) (a b k : Nat) : upd (va_cpy f g a b k) (b + k) (f (a + k)) = va_cpy f g a b (k + 1) := by
  funext j
  unfold upd
  by_cases e : j = b + k
  · rw [if_pos e, pk_cpy_in (by omega) (by omega), e]
    congr 1; omega
  · rw [if_neg e]
    by_cases e2 : b ≤ j ∧ j < b + k
    · rw [pk_cpy_in e2.1 e2.2, pk_cpy_in (by omega) (by omega)]
    · rw [pk_cpy_out (by omega), pk_cpy_out (by omega)]
theorem copies_eq {N q n a q' n' b m : Nat} {M : bw_M} {x y z : Int32} (hx : x = nI a) (hy : y = nI b) (hz : z = nI m) (hq : q ≠ q') (h1 : a + m ≤ n) (h2 : b + m ≤ n') (hn : n < 2 ^ 31) (hn' : n' < 2 ^ 31) (hN : m < N) : fX5_copies N q n x q' n' y z M = some (bw_pA M q' (va_cpy (M.1 q) (M.1 q') a b m)) := by
  subst hx; subst hy; subst hz
  unfold fX5_copies flX5_copies_3
  rw [mv_eq]
  obtain ⟨k, hk⟩ := lp_for (body := fun kk w => fX5_copies_3 N q n (nI a) q' n' (nI b) (nI m) kk w.1 w.2) (fun k => (nI k, bw_pA M q' (va_cpy (M.1 q) (M.1 q') a b k))) m (fun k hk kk => by
    unfold fX5_copies_3
    show (if nI m ≤ nI k then _ else _) = _
    rw [if_neg (nI_ge hk (by omega)), nI_add, nI_add, rd_ok (by omega) hn, wr_ok (by omega) hn', mv_eq, nI_1, bw_pA_ne _ _ hq, pI_pA, cpy_s]) m N 0 (by omega) hN
  have e0 : (nI 0, bw_pA M q' (va_cpy (M.1 q) (M.1 q') a b 0)) = ((0 : Int32), M) := by rw [cpy_0, pA_id]; rfl
  simp only [e0] at hk
  rw [hk]
  unfold fX5_copies_3
  show (if nI m ≤ nI m then _ else _) = _
  rw [if_pos (nI_le (Nat.le_refl _) (by omega))]
theorem aside_eq {N : Nat} (hN : 2000 ≤ N) (M : bw_M) : fX5_layAside N M = some (bw_pA M 10 (va_cpy (M.1 9) (M.1 10) 0 0 17)) := by
  unfold fX5_layAside
  rw [copies_eq (x := 0) (y := 0) (z := 17) (a := 0) (b := 0) (m := 17) rfl rfl rfl (by decide) (by decide) (by decide) (by decide) (by decide) (by omega), cl_some]
theorem aside_rd {M : bw_M} {i : Nat} (hi : i < 17) : (bw_pA M 10 (va_cpy (M.1 9) (M.1 10) 0 0 17)).1 10 i = M.1 9 i := by
  rw [bw_pA_self, pk_cpy_in (by omega) (by omega), show 0 + (i - 0) = i by omega]
/-- become: town x0 is as x1 -/
theorem become_eq {N x0 x1 : Nat} {M : bw_M} (hN : 2000 ≤ N) (hd : x0 + 6 ≤ x1 ∨ x1 + 6 ≤ x0) : ∃ M', fX3_become N x0 x1 M = some M' ∧ (∀ f, f < 8 → M'.1 x0 f = M.1 x1 f) ∧ (∀ k, 1 ≤ k → k ≤ 5 → ∀ i, i < 6 → M'.1 (x0 + k) i = M.1 (x1 + k) i) ∧ (∀ q, (q < x0 ∨ x0 + 5 < q) → M'.1 q = M.1 q) ∧ M'.2 = M.2 := by
  unfold fX3_become flX3_become_66
  simp only [mv_eq]
  generalize hM8 : bw_pI (bw_pI (bw_pI (bw_pI (bw_pI (bw_pI (bw_pI (bw_pI M x0 0 (M.1 x1 0)) x0 1 ((bw_pI M x0 0 (M.1 x1 0)).1 x1 1)) x0 2 _) x0 3 _) x0 4 _) x0 5 _) x0 6 _) x0 7 _ = M8
  have f0 : (∀ f, f < 8 → M8.1 x0 f = M.1 x1 f) ∧ (∀ q, q ≠ x0 → M8.1 q = M.1 q) ∧ M8.2 = M.2 := by
    subst hM8
    have hne : x1 ≠ x0 := by omega
    refine ⟨fun f hf => ?_, fun q hq => ?_, rfl⟩
    · match f, hf with
      | 0, _ => simp [pI_rd, pI_ne hne]
      | 1, _ => simp [pI_rd, pI_ne hne]
      | 2, _ => simp [pI_rd, pI_ne hne]
      | 3, _ => simp [pI_rd, pI_ne hne]
      | 4, _ => simp [pI_rd, pI_ne hne]
      | 5, _ => simp [pI_rd, pI_ne hne]
      | 6, _ => simp [pI_rd, pI_ne hne]
      | 7, _ => simp [pI_rd, pI_ne hne]
      | f + 8, hf => omega
    · simp only [pI_ne hq]
  obtain ⟨f1, f2, f3⟩ := f0
  clear hM8
  obtain ⟨s', k, hI, hk⟩ := lp_inv (body := fun kk w => fX3_become_66 N x0 x1 kk w.1 w.2) (fun i s => s.1 = nI i ∧ s.2.1 x0 = M8.1 x0 ∧ (∀ k, 1 ≤ k → k ≤ 5 → ∀ j, j < i → s.2.1 (x0 + k) j = M.1 (x1 + k) j) ∧ (∀ q, (q < x0 ∨ x0 + 5 < q) → s.2.1 q = M.1 q) ∧ s.2.2 = M.2) 6 (fun i s hi hI => by
    obtain ⟨s1, M'⟩ := s
    obtain ⟨q1, q2, q3, q4, q5⟩ := hI
    simp only at q1 q2 q3 q4 q5
    subst q1
    have rdx : ∀ k, 1 ≤ k → k ≤ 5 → M'.1 (x1 + k) i = M.1 (x1 + k) i := fun k a b => by rw [q4 _ (by omega)]
    refine ⟨(nI (i + 1), bw_pI (bw_pI (bw_pI (bw_pI (bw_pI M' (x0 + 1) i (M.1 (x1 + 1) i)) (x0 + 2) i (M.1 (x1 + 2) i)) (x0 + 3) i (M.1 (x1 + 3) i)) (x0 + 4) i (M.1 (x1 + 4) i)) (x0 + 5) i (M.1 (x1 + 5) i)), ⟨rfl, ?_, fun k a b j hj => ?_, fun q hq => ?_, q5⟩, fun k => ?_⟩
    · simp only
      rw [pI_ne (by omega), pI_ne (by omega), pI_ne (by omega), pI_ne (by omega), pI_ne (by omega)]; exact q2
    · simp only
      have hj' : j = i ∨ j < i := by omega
      match k, a, b with
      | 1, _, _ =>
        rw [pI_ne (by omega), pI_ne (by omega), pI_ne (by omega), pI_ne (by omega), pI_rd]
        by_cases e : j = i
        · rw [if_pos e, e]
        · rw [if_neg e]; exact q3 1 (by omega) (by omega) j (by omega)
      | 2, _, _ =>
        rw [pI_ne (by omega), pI_ne (by omega), pI_ne (by omega), pI_rd, pI_ne (by omega)]
        by_cases e : j = i
        · rw [if_pos e, e]
        · rw [if_neg e]; exact q3 2 (by omega) (by omega) j (by omega)
      | 3, _, _ =>
        rw [pI_ne (by omega), pI_ne (by omega), pI_rd, pI_ne (by omega), pI_ne (by omega)]
        by_cases e : j = i
        · rw [if_pos e, e]
        · rw [if_neg e]; exact q3 3 (by omega) (by omega) j (by omega)
      | 4, _, _ =>
        rw [pI_ne (by omega), pI_rd, pI_ne (by omega), pI_ne (by omega), pI_ne (by omega)]
        by_cases e : j = i
        · rw [if_pos e, e]
        · rw [if_neg e]; exact q3 4 (by omega) (by omega) j (by omega)
      | 5, _, _ =>
        rw [pI_rd, pI_ne (by omega), pI_ne (by omega), pI_ne (by omega), pI_ne (by omega)]
        by_cases e : j = i
        · rw [if_pos e, e]
        · rw [if_neg e]; exact q3 5 (by omega) (by omega) j (by omega)
      | k + 6, _, b => omega
    · simp only
      rw [pI_ne (by omega), pI_ne (by omega), pI_ne (by omega), pI_ne (by omega), pI_ne (by omega)]; exact q4 q hq
    · show fX3_become_66 N x0 x1 k (nI i) M' = _
      unfold fX3_become_66
      have h6 : (6 : Nat) < 2 ^ 31 := by decide
      rw [if_neg (show ¬ (6 : Int32) ≤ nI i from nI_ge (b := 6) hi (by decide))]
      simp only [rd_ok hi h6, wr_ok hi h6, mv_eq, nI_1]
      rw [rdx 1 (by omega) (by omega)]
      rw [show (bw_pI M' (x0 + 1) i (M.1 (x1 + 1) i)).1 (x1 + 2) i = M.1 (x1 + 2) i by rw [pI_ne (by omega)]; exact rdx 2 (by omega) (by omega)]
      rw [show (bw_pI (bw_pI M' (x0 + 1) i (M.1 (x1 + 1) i)) (x0 + 2) i (M.1 (x1 + 2) i)).1 (x1 + 3) i = M.1 (x1 + 3) i by rw [pI_ne (by omega), pI_ne (by omega)]; exact rdx 3 (by omega) (by omega)]
      rw [show (bw_pI (bw_pI (bw_pI M' (x0 + 1) i (M.1 (x1 + 1) i)) (x0 + 2) i (M.1 (x1 + 2) i)) (x0 + 3) i (M.1 (x1 + 3) i)).1 (x1 + 4) i = M.1 (x1 + 4) i by rw [pI_ne (by omega), pI_ne (by omega), pI_ne (by omega)]; exact rdx 4 (by omega) (by omega)]
      rw [show (bw_pI (bw_pI (bw_pI (bw_pI M' (x0 + 1) i (M.1 (x1 + 1) i)) (x0 + 2) i (M.1 (x1 + 2) i)) (x0 + 3) i (M.1 (x1 + 3) i)) (x0 + 4) i (M.1 (x1 + 4) i)).1 (x1 + 5) i = M.1 (x1 + 5) i by rw [pI_ne (by omega), pI_ne (by omega), pI_ne (by omega), pI_ne (by omega)]; exact rdx 5 (by omega) (by omega)]) 6 N 0 (0, M8) (by omega) (by omega) ⟨rfl, rfl, fun k _ _ j hj => by omega, fun q hq => f2 q (by omega), f3⟩
  obtain ⟨s1, M'⟩ := s'
  obtain ⟨q1, q2, q3, q4, q5⟩ := hI
  simp only at q1 q2 q3 q4 q5
  subst q1
  refine ⟨M', ?_, fun f hf => by rw [q2]; exact f1 f hf, q3, q4, q5⟩
  rw [hk]
  unfold fX3_become_66
  rw [if_pos (show (6 : Int32) ≤ nI 6 by decide)]
theorem become_rep {N x0 x1 : Nat} {M : bw_M} {T : Tw} {S : Sd} (hN : 2000 ≤ N) (hd : x0 + 6 ≤ x1 ∨ x1 + 6 ≤ x0) (hp : T.1 ≤ 6) (h1 : c_tw M x1 T) (h2 : c_st M x1 S) : ∃ M', fX3_become N x0 x1 M = some M' ∧ c_tw M' x0 T ∧ c_st M' x0 S ∧ (∀ q, (q < x0 ∨ x0 + 5 < q) → M'.1 q = M.1 q) ∧ M'.2 = M.2 := by
  obtain ⟨M', e, g1, g2, g3, g4⟩ := become_eq (M := M) hN hd
  obtain ⟨a1, a2, a3, a4⟩ := h1
  obtain ⟨b1, b2, b3, b4, b5, b6⟩ := h2
  refine ⟨M', e, ⟨by rw [g1 0 (by omega)]; exact a1, by rw [g1 1 (by omega)]; exact a2, by rw [g1 2 (by omega)]; exact a3, fun i hi => ?_⟩, ⟨by rw [g1 3 (by omega)]; exact b1, by rw [g1 4 (by omega)]; exact b2, by rw [g1 5 (by omega)]; exact b3, by rw [g1 6 (by omega)]; exact b4, by rw [g1 7 (by omega)]; exact b5, fun i hi => ?_⟩, g3, g4⟩
  · rw [g2 1 (by omega) (by omega) i (by omega), g2 2 (by omega) (by omega) i (by omega), g2 3 (by omega) (by omega) i (by omega)]
    exact a4 i hi
  · rw [g2 4 (by omega) (by omega) i hi, g2 5 (by omega) (by omega) i hi]
    exact b6 i hi
/-- deeds keep the bounds -/
theorem und_ok {T : Tw} {S : Sd} {B : Nat} {d : Dd} (hT : t_ok T) (hS : s_ok T.1 B S) (hd : d_ok T.1 d) : s_ok T.1 (B + 1) (s_und T S d) := by
  obtain ⟨a1, a2, a3, a4, a5, a6⟩ := id hS
  have a6' : ∀ i, i < 6 → S.2.2.2.2.2.1 i ≤ 20 ∧ S.2.2.2.2.2.2 i ≤ B + 1 := fun i hi => ⟨(a6 i hi).1, Nat.le_succ_of_le (a6 i hi).2⟩
  obtain ⟨w, b⟩ := d
  obtain ⟨d1, d2, d3, d4⟩ := hd
  simp only at d1 d2 d3 d4
  unfold s_und
  simp only
  have hb : ∀ {b : Int}, 0 ≤ b → b < T.1 → 2 ^ b.toNat < 2 ^ T.1 := fun {b} h1 h2 => Nat.pow_lt_pow_right (by decide) (by omega)
  match w, d1, d2, d3, d4 with
  | 0, _, _, _, _ => exact (s_hr_ok hS).2
  | 1, _, d2, _, _ => exact ⟨by show (min 60 (max 0 ((S.1 : Int) + b))).toNat ≤ 60; omega, a2, by show S.2.2.1 ≤ B + 1; omega, a4, a5, a6'⟩
  | 2, _, _, d3, _ => exact ⟨a1, a2, by show S.2.2.1 ≤ B + 1; omega, Nat.xor_lt_two_pow a4 (hb (d3 (Or.inl rfl)).1 (d3 (Or.inl rfl)).2), a5, a6'⟩
  | 3, _, _, d3, _ => exact ⟨a1, a2, by show S.2.2.1 ≤ B + 1; omega, a4, Nat.xor_lt_two_pow a5 (hb (d3 (Or.inr rfl)).1 (d3 (Or.inr rfl)).2), a6'⟩
  | 4, _, _, _, d4 => exact ⟨a1, by show b.toNat ≤ 9; have := d4 rfl; omega, by show S.2.2.1 ≤ B + 1; omega, a4, a5, a6'⟩
  | w + 5, d1, _, _, _ => omega
theorem ini_ok {T : Tw} (hT : t_ok T) : s_ok T.1 0 (s_ini T) := ⟨hT.2.1, hT.2.2.1, Nat.le_refl _, Nat.two_pow_pos _, Nat.two_pow_pos _, fun _ _ => ⟨Nat.zero_le _, Nat.le_refl _⟩⟩
theorem rep_ok {T : Tw} (hT : t_ok T) : ∀ (ds : List Dd), (∀ d, d ∈ ds → d_ok T.1 d) → s_ok T.1 ds.length (s_rep T ds) := by
  have key : ∀ (ds : List Dd) (B : Nat) (S : Sd), s_ok T.1 B S → (∀ d, d ∈ ds → d_ok T.1 d) → s_ok T.1 (B + ds.length) (ds.foldl (s_und T) S) := by
    intro ds
    induction ds with
    | nil => intro B S h _; exact h
    | cons d ds ih =>
      intro B S h hd
      have := ih (B + 1) (s_und T S d) (und_ok hT h (hd d List.mem_cons_self)) (fun e he => hd e (List.mem_cons_of_mem _ he))
      rw [List.foldl_cons, List.length_cons, show B + (ds.length + 1) = B + 1 + ds.length by omega]
      exact this
  intro ds hd
  have := key ds 0 _ (ini_ok hT) hd
  rw [Nat.zero_add] at this
  exact this
theorem s_ok.mono {p B B' : Nat} {S : Sd} (h : s_ok p B S) (hb : B ≤ B') : s_ok p B' S := by
  obtain ⟨a1, a2, a3, a4, a5, a6⟩ := h
  exact ⟨a1, a2, by omega, a4, a5, fun i hi => ⟨(a6 i hi).1, by have := (a6 i hi).2; omega⟩⟩
/-- the relation, with the town named -/
def Rl (A B : bw_M) (T : Tw) (ds : List Dd) (ks : Nat → Option (List Dd)) : Prop := rl_rows A B ∧ rl_txts A B ∧ rl_told A B ∧ rl_town A B T ds ks
theorem Rl.rel {A B : bw_M} {T : Tw} {ds : List Dd} {ks : Nat → Option (List Dd)} (h : Rl A B T ds ks) : Rel A B := ⟨h.1, h.2.1, h.2.2.1, T, ds, ks, h.2.2.2⟩
theorem Rel.rl {A B : bw_M} (h : Rel A B) : ∃ T ds ks, Rl A B T ds ks := by
  obtain ⟨h1, h2, h3, T, ds, ks, h4⟩ := h
  exact ⟨T, ds, ks, h1, h2, h3, h4⟩
theorem Rl.kp {A A' B B' : bw_M} {T : Tw} {ds : List Dd} {ks : Nat → Option (List Dd)} (h : Rl A B T ds ks) (hC : kpC A A') (hM : kpM B B') : Rl A' B' T ds ks := by
  obtain ⟨h1, h2, ⟨t1, t2, t3, t4, t5⟩, h4⟩ := h
  have c : ∀ q, q ≠ 15 → (q < 22 ∨ 27 < q) → (q < 41 ∨ 43 < q) → A'.1 q = A.1 q := hC.1
  have m : ∀ q, q ≠ 0 → q ≠ 10 → (q < 13 ∨ 18 < q) → B'.1 q = B.1 q := hM.1
  refine ⟨h1.of (fun q _ _ => c q (by omega) (by omega) (by omega)) (m 1 (by omega) (by omega) (by omega)) (m 2 (by omega) (by omega) (by omega)), h2.of (fun q _ _ => c q (by omega) (by omega) (by omega)) (m 3 (by omega) (by omega) (by omega)) (m 4 (by omega) (by omega) (by omega)), ⟨?_, ?_, ?_, ?_, ?_⟩, h4.of (fun q _ _ => c q (by omega) (by omega) (by omega)) (fun q _ _ => c q (by omega) (by omega) (by omega)) (hM.2.1 9 (by omega)) (hM.2.1 16 (by omega)) (fun q _ _ => m q (by omega) (by omega) (by omega)) (m 11 (by omega) (by omega) (by omega)) (m 12 (by omega) (by omega) (by omega))⟩
  · rw [c 0 (by omega) (by omega) (by omega), hM.2.1 4 (by omega)]; exact t1
  · rw [hC.2, hM.2.2]; exact t2
  · rw [hC.2, hM.2.2]; exact t3
  · rw [c 0 (by omega) (by omega) (by omega), hM.2.1 7 (by omega)]; exact t4
  · intro f hf
    rw [c 44 (by omega) (by omega) (by omega), m 5 (by omega) (by omega) (by omega)]; exact t5 f hf
theorem Rl.told {A B : bw_M} {T : Tw} {ds : List Dd} {ks : Nat → Option (List Dd)} (h : Rl A B T ds ks) (v : Int32) : Rl (bw_pI A 0 14 v) (bw_pI B 0 4 v) T ds ks := by
  obtain ⟨h1, h2, h3, h4⟩ := h
  obtain ⟨g1, g2, g3, -⟩ := ok_told ⟨h1, h2, h3, T, ds, ks, h4⟩ v
  exact ⟨g1, g2, g3, h4.of (fun q _ _ => pI_ne (by omega)) (fun q _ _ => pI_ne (by omega)) (pI_n (by decide)) (pI_n (by decide)) (fun q _ _ => pI_ne (by omega)) (pI_ne (by omega)) (pI_ne (by omega))⟩
/-- both try with town T in state S -/
def Tr (A B : bw_M) (T : Tw) (S : Sd) : Prop := c_tw A 22 T ∧ c_st A 22 S ∧ m_tw B T ∧ m_st B 10 0 S
theorem tr_start {N : Nat} {A B : bw_M} {T : Tw} {ds : List Dd} {ks : Nat → Option (List Dd)} (hN : 2000 ≤ N) (h : Rl A B T ds ks) : ∃ A' B', fX3_become N 22 16 A = some A' ∧ fX5_layAside N B = some B' ∧ Tr A' B' T (s_rep T ds) ∧ kpC A A' ∧ kpM B B' := by
  obtain ⟨-, -, -, hT, ⟨b1, b2, b3⟩, -, ⟨m1, m2, m3, m4⟩, -⟩ := h
  obtain ⟨A', e, g1, g2, g3, g4⟩ := become_rep (x0 := 22) (x1 := 16) hN (by omega) hT.1 b1 b2
  refine ⟨A', _, e, aside_eq hN B, ⟨g1, g2, ?_, ?_⟩, ⟨fun q _ a _ => g3 q (by omega), by rw [g4]⟩, ⟨fun q _ a _ => bw_pA_ne _ _ a, fun f _ => by rw [bw_pA_ne _ _ (by decide)], rfl⟩⟩
  · exact m1.of (by rw [bw_pA_ne _ _ (by decide)]) (fun q _ _ => bw_pA_ne _ _ (by omega))
  · obtain ⟨c1, c2, c3, c4, c5, c6⟩ := m2
    simp only [Nat.zero_add] at c1 c2 c3 c4 c5 c6
    unfold m_st
    simp only [Nat.zero_add]
    refine ⟨?_, ?_, ?_, ?_, ?_, fun i hi => ⟨?_, ?_⟩⟩
    · rw [aside_rd (by decide)]; exact c1
    · rw [aside_rd (by decide)]; exact c2
    · rw [aside_rd (by decide)]; exact c3
    · rw [aside_rd (by decide)]; exact c4
    · rw [aside_rd (by decide)]; exact c5
    · rw [aside_rd (by omega)]; exact (c6 i hi).1
    · rw [aside_rd (by omega)]; exact (c6 i hi).2
theorem tr_blow {N Bn : Nat} {A B : bw_M} {T : Tw} {S : Sd} (hN : 2000 ≤ N) (hB : Bn < 2 ^ 20) (hT : t_ok T) (hS : s_ok T.1 Bn S) (h : Tr A B T S) : ∃ A' B', fX3_blow N 22 A = some (nI (s_who T S), A') ∧ fX5_goes N 10 17 B = some (nI (s_who T S), B') ∧ Tr A' B' T (s_blow T S) ∧ kpC A A' ∧ kpM B B' := by
  obtain ⟨h1, h2, h3, h4⟩ := h
  obtain ⟨A', e1, g1, g2, g3, g4, g5⟩ := c_blow hN hB hT hS h1 h2
  obtain ⟨B', e2, k1, k2, k3⟩ := m_goes (q := 10) hN hB (by decide) hT hS h3 h4
  exact ⟨A', B', e1, e2, ⟨g1, g2, h3.of (by rw [k2 0 (by decide)]) (fun q _ _ => k2 q (by omega)), k1⟩, ⟨fun q _ a _ => g3 q (by omega) (by omega) (by omega), by rw [g5]⟩, ⟨fun q _ a _ => k2 q a, fun f _ => by rw [k2 0 (by decide)], by rw [k3]⟩⟩
