/-! Deeds -/
def s_ans (T : Tw) (S : Sd) (d : Dd) : Int32 :=
  if d.1 = 0 then nI (s_who T S)
  else if d.1 = 1 then nI (min 60 (max 0 ((S.1 : Int) + d.2))).toNat
  else if d.1 = 2 then bI ((S.2.2.2.1 ^^^ 2 ^ d.2.toNat).testBit d.2.toNat)
  else if d.1 = 3 then bI ((S.2.2.2.2.1 ^^^ 2 ^ d.2.toNat).testBit d.2.toNat)
  else nI S.2.1
theorem ofI_nn {b : Int} (h : 0 ≤ b) : Int32.ofInt b = nI b.toNat := by
  obtain ⟨n, rfl⟩ := Int.eq_ofNat_of_zero_le h
  exact Int32.ofInt_eq_ofNat
theorem airC : ∀ a : Nat, a < 61 → ∀ j : Nat, j < 19 → (if (0 : Int32) < (if nI a + Int32.ofInt ((j : Int) - 9) < 60 then nI a + Int32.ofInt ((j : Int) - 9) else 60) then (if nI a + Int32.ofInt ((j : Int) - 9) < 60 then nI a + Int32.ofInt ((j : Int) - 9) else 60) else 0) = nI (min 60 (max 0 ((a : Int) + ((j : Int) - 9)))).toNat := by decide +kernel
theorem airC' {a : Nat} {b : Int} (ha : a ≤ 60) (h1 : -9 ≤ b) (h2 : b ≤ 9) : (if (0 : Int32) < (if nI a + Int32.ofInt b < 60 then nI a + Int32.ofInt b else 60) then (if nI a + Int32.ofInt b < 60 then nI a + Int32.ofInt b else 60) else 0) = nI (min 60 (max 0 ((a : Int) + b))).toNat := by
  have := airC a (by omega) (b + 9).toNat (by omega)
  rw [show (((b + 9).toNat : Nat) : Int) - 9 = b by omega] at this
  exact this
theorem c_und {N Bn : Nat} {A : bw_M} {T : Tw} {S : Sd} {d : Dd} (hN : 2000 ≤ N) (hB : Bn < 2 ^ 20) (hT : t_ok T) (hS : s_ok T.1 Bn S) (hd : d_ok T.1 d) (h1 : c_tw A 16 T) (h2 : c_st A 16 S) : ∃ A', fX3_undergo N 16 (nI d.1) (Int32.ofInt d.2) A = some (s_ans T S d, A') ∧ c_tw A' 16 T ∧ c_st A' 16 (s_und T S d) ∧ (∀ q, q ≠ 16 → q ≠ 20 → q ≠ 21 → A'.1 q = A.1 q) ∧ A'.2 = A.2 := by
  have hp6 := hT.1
  obtain ⟨w, b⟩ := d
  obtain ⟨d1, d2, d3, d4⟩ := hd
  simp only at d1 d2 d3 d4
  obtain ⟨a1, a2, a3, a4, a5, a6⟩ := id hS
  obtain ⟨g1, g2, g3, g4⟩ := id h1
  obtain ⟨e3, e4, e5, e6, e7, e8⟩ := id h2
  have tw : ∀ f v, 3 ≤ f → c_tw (bw_pI A 16 f v) 16 T := fun f v hf => ⟨by rw [pI_n (by omega)]; exact g1, by rw [pI_n (by omega)]; exact g2, by rw [pI_n (by omega)]; exact g3, fun i hi => by rw [pI_ne (by decide), pI_ne (by decide), pI_ne (by decide)]; exact g4 i hi⟩
  unfold fX3_undergo s_und s_ans
  simp only
  match w, d1, d2, d3, d4 with
  | 0, _, _, _, _ =>
    obtain ⟨A', e, f1, f2, f3, f4, f5⟩ := c_blow hN hB hT hS h1 h2
    refine ⟨A', ?_, f1, f2, f3, f5⟩
    rw [if_pos (show nI 0 = (0 : Int32) from rfl), e, c2_some, if_pos rfl]
  | 1, _, d2, _, _ =>
    have d2 := d2 rfl
    refine ⟨bw_pI A 16 3 (nI (min 60 (max 0 ((S.1 : Int) + b))).toNat), ?_, tw 3 _ (by omega), ⟨pI_s, by rw [pI_n (by decide)]; exact e4, by rw [pI_n (by decide)]; exact e5, by rw [pI_n (by decide)]; exact e6, by rw [pI_n (by decide)]; exact e7, fun i hi => by rw [pI_ne (by decide), pI_ne (by decide)]; exact e8 i hi⟩, fun q x _ _ => pI_ne x, rfl⟩
    rw [if_neg (show ¬ nI 1 = (0 : Int32) by decide), if_pos (show nI 1 = (1 : Int32) from rfl), e3, airC' a1 d2.1 d2.2, mv_eq, pI_s, if_neg (by decide), if_pos rfl]
  | 2, _, _, d3, _ =>
    have d3 := d3 (Or.inl rfl)
    have hx := Nat.xor_lt_two_pow a4 (show 2 ^ b.toNat < 2 ^ T.1 from Nat.pow_lt_pow_right (by decide) (by omega))
    refine ⟨bw_pI A 16 6 (nI (S.2.2.2.1 ^^^ 2 ^ b.toNat)), ?_, tw 6 _ (by omega), ⟨by rw [pI_n (by decide)]; exact e3, by rw [pI_n (by decide)]; exact e4, by rw [pI_n (by decide)]; exact e5, pI_s, by rw [pI_n (by decide)]; exact e7, fun i hi => by rw [pI_ne (by decide), pI_ne (by decide)]; exact e8 i hi⟩, fun q x _ _ => pI_ne x, rfl⟩
    rw [if_neg (show ¬ nI 2 = (0 : Int32) by decide), if_neg (show ¬ nI 2 = (1 : Int32) by decide), if_pos (show nI 2 = (2 : Int32) from rfl), e6, ofI_nn d3.1, xorI _ (p64 hp6 a4) _ (by omega), mv_eq, pI_s, bitB (p31 hp6 hx) (by omega), if_neg (by decide), if_neg (by decide), if_pos rfl]
  | 3, _, _, d3, _ =>
    have d3 := d3 (Or.inr rfl)
    have hx := Nat.xor_lt_two_pow a5 (show 2 ^ b.toNat < 2 ^ T.1 from Nat.pow_lt_pow_right (by decide) (by omega))
    refine ⟨bw_pI A 16 7 (nI (S.2.2.2.2.1 ^^^ 2 ^ b.toNat)), ?_, tw 7 _ (by omega), ⟨by rw [pI_n (by decide)]; exact e3, by rw [pI_n (by decide)]; exact e4, by rw [pI_n (by decide)]; exact e5, by rw [pI_n (by decide)]; exact e6, pI_s, fun i hi => by rw [pI_ne (by decide), pI_ne (by decide)]; exact e8 i hi⟩, fun q x _ _ => pI_ne x, rfl⟩
    rw [if_neg (show ¬ nI 3 = (0 : Int32) by decide), if_neg (show ¬ nI 3 = (1 : Int32) by decide), if_neg (show ¬ nI 3 = (2 : Int32) by decide), if_pos (show nI 3 = (3 : Int32) from rfl), e7, ofI_nn d3.1, xorI _ (p64 hp6 a5) _ (by omega), mv_eq, pI_s, bitB (p31 hp6 hx) (by omega), if_neg (by decide), if_neg (by decide), if_neg (by decide), if_pos rfl]
  | 4, _, _, _, d4 =>
    have d4 := d4 rfl
    refine ⟨bw_pI A 16 4 (nI b.toNat), ?_, tw 4 _ (by omega), ⟨by rw [pI_n (by decide)]; exact e3, pI_s, by rw [pI_n (by decide)]; exact e5, by rw [pI_n (by decide)]; exact e6, by rw [pI_n (by decide)]; exact e7, fun i hi => by rw [pI_ne (by decide), pI_ne (by decide)]; exact e8 i hi⟩, fun q x _ _ => pI_ne x, rfl⟩
    rw [if_neg (show ¬ nI 4 = (0 : Int32) by decide), if_neg (show ¬ nI 4 = (1 : Int32) by decide), if_neg (show ¬ nI 4 = (2 : Int32) by decide), if_neg (show ¬ nI 4 = (3 : Int32) by decide), e4, mv_eq, ofI_nn d4.1, mv_eq, if_neg (by decide), if_neg (by decide), if_neg (by decide), if_neg (by decide)]
  | w + 5, d1, _, _, _ => omega
theorem c_add {A : bw_M} {ds : List Dd} (h : c_ds A 28 ds) (hl : ds.length < 40) (d : Dd) : ∃ A', fX0_add 28 (nI d.1) (Int32.ofInt d.2) A = some (1, A') ∧ c_ds A' 28 (ds ++ [d]) ∧ (∀ q, q ≠ 28 → q ≠ 29 → q ≠ 30 → A'.1 q = A.1 q) ∧ A'.2 = A.2 := by
  obtain ⟨g1, g2, g3⟩ := h
  refine ⟨bw_pI (bw_pI (bw_pI A 29 ds.length (nI d.1)) 30 ds.length (Int32.ofInt d.2)) 28 2 (nI (ds.length + 1)), ?_, ⟨?_, ?_, ?_⟩, fun q a b c => by rw [pI_ne a, pI_ne c, pI_ne b], rfl⟩
  · unfold fX0_add
    rw [g1, if_neg (nI_pos (by omega)), if_pos (show nI ds.length < (40 : Int32) from nI_lt (b := 40) hl (by decide)), wr_ok hl (by decide), pI_ne (by decide), g1, wr_ok hl (by decide), mv_eq, pI_ne (by decide), pI_ne (by decide), g1, nI_1]
  · rw [pI_s, List.length_append]; rfl
  · rw [List.length_append]; show ds.length + 1 ≤ 40; omega
  · intro k e hk
    have r1 : (bw_pI (bw_pI (bw_pI A 29 ds.length (nI d.1)) 30 ds.length (Int32.ofInt d.2)) 28 2 (nI (ds.length + 1))).1 29 k = if k = ds.length then nI d.1 else A.1 29 k := by rw [pI_ne (by decide), pI_ne (by decide), pI_rd]
    have r2 : (bw_pI (bw_pI (bw_pI A 29 ds.length (nI d.1)) 30 ds.length (Int32.ofInt d.2)) 28 2 (nI (ds.length + 1))).1 30 k = if k = ds.length then Int32.ofInt d.2 else A.1 30 k := by rw [pI_ne (by decide), pI_rd, pI_ne (by decide)]
    show _ = _ ∧ _ = _
    rw [show 28 + 1 = 29 from rfl, show 28 + 2 = 30 from rfl, r1, r2]
    by_cases e9 : k = ds.length
    · subst e9
      rw [List.getElem?_append_right (Nat.le_refl _), Nat.sub_self] at hk
      cases hk
      rw [if_pos rfl, if_pos rfl]; exact ⟨rfl, rfl⟩
    · have hkl : k < ds.length := by
        have := (List.getElem?_eq_some_iff.mp hk).1
        rw [List.length_append] at this
        have : k < ds.length + 1 := this
        omega
      rw [List.getElem?_append_left hkl] at hk
      rw [if_neg e9, if_neg e9]
      exact g3 k e hk
theorem c_full {A : bw_M} {ds : List Dd} (h : c_ds A 28 ds) (hl : ¬ ds.length < 40) (x y : Int32) : fX0_add 28 x y A = some (0, A) := by
  obtain ⟨g1, g2, g3⟩ := h
  unfold fX0_add fX0_add_16
  rw [g1, if_neg (nI_pos (by omega)), if_neg (show ¬ nI ds.length < (40 : Int32) from nI_nlt (b := 40) (by omega) (by omega))]
theorem m_rem {N : Nat} (hN : 2000 ≤ N) {B : bw_M} {n : Nat} (hn : n < 40) (e : B.1 0 16 = nI n) : ∃ B', fX5_remember N B = some B' ∧ B'.1 0 16 = nI (n + 1) ∧ (∀ f, f ≠ 16 → B'.1 0 f = B.1 0 f) ∧ (∀ q, q ≠ 0 → q ≠ 11 → B'.1 q = B.1 q) ∧ (∀ i, i < 17 → B'.1 11 (17 * n + i) = B.1 9 i) ∧ (∀ j, j < 17 * n → B'.1 11 j = B.1 11 j) ∧ B'.2 = B.2 := by
  refine ⟨bw_pI (bw_pA B 11 (va_cpy (B.1 9) (B.1 11) 0 (17 * n) 17)) 0 16 (nI (n + 1)), ?_, pI_s, fun f hf => by rw [pI_n hf, bw_pA_ne _ _ (by decide)], fun q a b => by rw [pI_ne a, bw_pA_ne _ _ b], fun i hi => ?_, fun j hj => ?_, rfl⟩
  · unfold fX5_remember
    rw [e, show (17 : Int32) * nI n = nI (17 * n) from pk_mul 17 n, copies_eq (x := 0) (z := 17) (a := 0) (b := 17 * n) (m := 17) rfl rfl rfl (by decide) (by decide) (by omega) (by decide) (by decide) (by omega), cl_some, mv_eq, bw_pA_ne _ _ (by decide), e, nI_1]
  · rw [pI_ne (by decide), bw_pA_self, pk_cpy_in (by omega) (by omega), show 0 + (17 * n + i - 17 * n) = i by omega]
  · rw [pI_ne (by decide), bw_pA_self, pk_cpy_out (by omega)]
theorem m_st.at {B B' : bw_M} {q q' o o' : Nat} {S : Sd} (h : m_st B q o S) (h1 : ∀ i, i < 17 → B'.1 q' (o' + i) = B.1 q (o + i)) : m_st B' q' o' S := by
  obtain ⟨c1, c2, c3, c4, c5, c6⟩ := h
  refine ⟨by rw [← Nat.add_zero o', h1 0 (by decide)]; exact c1, by rw [h1 1 (by decide)]; exact c2, by rw [h1 2 (by decide)]; exact c3, by rw [h1 3 (by decide)]; exact c4, by rw [h1 4 (by decide)]; exact c5, fun i hi => ⟨?_, ?_⟩⟩
  · rw [Nat.add_assoc, h1 (5 + i) (by omega), ← Nat.add_assoc]; exact (c6 i hi).1
  · rw [Nat.add_assoc, h1 (11 + i) (by omega), ← Nat.add_assoc]; exact (c6 i hi).2
/-- a deed befalls both -/
theorem deed {N : Nat} (hN : 2000 ≤ N) {A B : bw_M} {T : Tw} {ds : List Dd} {ks : Nat → Option (List Dd)} (h : Rl A B T ds ks) {d : Dd} (hd : d_ok T.1 d) (hl : ds.length < 40) : ∃ A' B1, fX4_perform N (nI d.1) (Int32.ofInt d.2) A = some (s_ans T (s_rep T ds) d, A') ∧ fX5_remember N B = some B1 ∧ m_tw B1 T ∧ m_st B1 9 0 (s_rep T ds) ∧ A'.1 16 3 = nI (s_und T (s_rep T ds) d).1 ∧ ∀ B2, m_st B2 9 0 (s_und T (s_rep T ds) d) → (∀ q, q ≠ 9 → B2.1 q = B1.1 q) → B2.2 = B1.2 → Rl A' B2 T (ds ++ [d]) ks := by
  obtain ⟨h1, h2, ⟨t1, t2, t3, t4, t5⟩, hT, ⟨b1, b2, b3⟩, hds, ⟨m1, m2, m3, m4⟩, hk⟩ := id h
  obtain ⟨A1, e1, f1, f2, f3⟩ := c_add b3 hl d
  obtain ⟨A2, e2, g1, g2, g3, g4⟩ := c_und hN (Bn := 40) (by decide) hT h.sok hd (A := A1) (b1.of (fun q _ _ => f2 q (by omega) (by omega) (by omega))) (b2.of (f2 _ (by decide) (by decide) (by decide)) (f2 _ (by decide) (by decide) (by decide)) (f2 _ (by decide) (by decide) (by decide)))
  obtain ⟨B1, e3, r1, r2, r3, r4, r5, r6⟩ := m_rem hN hl m3
  have hrep : s_rep T (ds ++ [d]) = s_und T (s_rep T ds) d := by unfold s_rep; rw [List.foldl_append]; rfl
  have c : ∀ q, (q < 16 ∨ 21 < q) → (q < 28 ∨ 30 < q) → A2.1 q = A.1 q := fun q a b => by rw [g3 q (by omega) (by omega) (by omega), f2 q (by omega) (by omega) (by omega)]
  refine ⟨A2, B1, ?_, e3, m1.of (r2 9 (by decide)) (fun q _ _ => r3 q (by omega) (by omega)), m2.of (r3 9 (by decide) (by decide)), g2.1, fun B2 s1 s2 s3 => ?_⟩
  · unfold fX4_perform fX4_perform_26
    rw [e1, c2_some, if_neg i10, e2, c2_some]
  · have m : ∀ q, q ≠ 0 → q ≠ 9 → q ≠ 11 → B2.1 q = B.1 q := fun q a b c => by rw [s2 q b, r3 q a c]
    have m0 : ∀ f, f ≠ 16 → B2.1 0 f = B.1 0 f := fun f a => by rw [s2 0 (by decide), r2 f a]
    have a2 : A2.2 = A.2 := g4.trans f3
    refine ⟨h1.of (fun q _ _ => c q (by omega) (by omega)) (m 1 (by decide) (by decide) (by decide)) (m 2 (by decide) (by decide) (by decide)), h2.of (fun q _ _ => c q (by omega) (by omega)) (m 3 (by decide) (by decide) (by decide)) (m 4 (by decide) (by decide) (by decide)), ⟨?_, ?_, ?_, ?_, ?_⟩, hT, ⟨g1, by rw [hrep]; exact g2, ?_⟩, ?_, ⟨m1.of (m0 9 (by decide)) (fun q _ _ => m q (by omega) (by omega) (by omega)), by rw [hrep]; exact s1, ?_, ?_⟩, fun j hj => (hk j hj).of hj (fun q _ _ => c q (by omega) (by omega)) (m 12 (by decide) (by decide) (by decide))⟩
    · rw [c 0 (by omega) (by omega), m0 4 (by decide)]; exact t1
    · rw [a2, s3, r6]; exact t2
    · rw [a2, s3, r6]; exact t3
    · rw [c 0 (by omega) (by omega), m0 7 (by decide)]; exact t4
    · intro f hf
      rw [c 44 (by omega) (by omega), m 5 (by decide) (by decide) (by decide)]; exact t5 f hf
    · exact f1.of (g3 _ (by decide) (by decide) (by decide)) (g3 _ (by decide) (by decide) (by decide)) (g3 _ (by decide) (by decide) (by decide))
    · intro e he
      rcases List.mem_append.mp he with he | he
      · exact hds e he
      · rw [List.mem_singleton.mp he]; exact hd
    · rw [s2 0 (by decide), r1, List.length_append]; rfl
    · intro k hk
      rw [List.length_append] at hk
      have hk : k < ds.length + 1 := hk
      by_cases e9 : k = ds.length
      · subst e9
        rw [show (ds ++ [d]).take ds.length = ds from List.take_left]
        exact m2.at (fun i hi => by rw [s2 11 (by decide), r4 i hi, Nat.zero_add])
      · rw [List.take_append_of_le_length (by omega)]
        exact (m4 k (by omega)).at (fun i hi => by rw [s2 11 (by decide), r5 _ (by omega)])
theorem ok_hour {N : Nat} (hN : 2000 ≤ N) {A B : bw_M} (h : Rel A B) : OkI (fX4_hour N A) (fX5_hour N B) := by
  obtain ⟨T, ds, ks, h⟩ := h.rl
  have hp6 := h.p6
  obtain ⟨-, -, -, hT, ⟨b1, b2, b3⟩, hds, ⟨m1, m2, m3, m4⟩, hk⟩ := id h
  have h40 := b3.2.1
  unfold fX4_hour fX5_hour fX5_refuses fX5_refuses_29
  rw [h.eA, h.eB, m3, nI_1, c2_id]
  by_cases hp : T.1 = 0
  · rw [if_pos ((nI_0' (by omega)).mpr hp), if_pos ((nI_0' (by omega)).mpr hp), cl_some, if_neg (show ¬ (-4 : Int32) = 0 by decide)]
    exact OkI.same h.rel _
  · rw [if_neg (fun q => hp ((nI_0' (by omega)).mp q)), if_neg (fun q => hp ((nI_0' (by omega)).mp q))]
    by_cases hl : ds.length < 40
    · rw [if_pos (show nI (ds.length + 1) ≤ (40 : Int32) from nI_le (b := 40) hl (by decide)), cl_some, if_pos i00]
      have hd : d_ok T.1 (0, 0) := ⟨Nat.zero_le _, (fun q => by cases q), (fun q => by rcases q with q | q <;> cases q), (fun q => by cases q)⟩
      obtain ⟨A', B1, e1, e2, e3, e4, -, e5⟩ := deed hN h hd hl
      obtain ⟨B2, f1, f2, f3, f4⟩ := m_goes (q := 9) hN (B := 40) (by decide) (by decide) hT h.sok e3 e4
      rw [show fX4_perform N 0 0 A = some (s_ans T (s_rep T ds) (0, 0), A') from e1, e2, cl_some, f1, c2_some]
      exact ⟨_, _, _, rfl, rfl, (e5 B2 f2 f3 f4).rel⟩
    · rw [if_neg (show ¬ nI (ds.length + 1) ≤ (40 : Int32) from nI_ge (a := 40) (by omega) (by omega)), cl_some, if_neg (show ¬ (-2 : Int32) = 0 by decide)]
      unfold fX4_perform fX4_perform_26
      rw [c_full b3 hl, c2_some, if_pos i00]
      exact OkI.same h.rel _
