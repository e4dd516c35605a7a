/-! Rows and texts: class and model alike -/
theorem i10 : ¬ (1 : Int32) = 0 := by decide
theorem i00 : (0 : Int32) = 0 := rfl
theorem ok_found {A B : bw_M} (h : Rel A B) {j : Nat} (hj : j < 6) {x : Int32} (hx : x = nI j) : OkI (fX4_found x A) (fX5_found x B) := by
  subst hx
  obtain ⟨h1, h2, ⟨t1, t2, t3, t4, t5⟩, T, ds, ks, h4⟩ := h
  unfold fX4_found fX5_found
  simp only [mv_eq]
  rw [rd_ok hj (by decide), wr_ok hj (by decide), rd_ok hj (by decide), wr_ok hj (by decide), pI_ne (by decide), pI_ne (by decide), t5 j hj]
  refine ⟨_, _, _, rfl, rfl, ?_⟩
  have c : ∀ q, q ≠ 0 → q ≠ 44 → (bw_pI (bw_pI A 0 13 (nI j)) 44 j (B.1 5 j + 1)).1 q = A.1 q := fun q a b => by rw [pI_ne b, pI_ne a]
  have m : ∀ q, q ≠ 0 → q ≠ 5 → (bw_pI (bw_pI B 0 7 (nI j)) 5 j (B.1 5 j + 1)).1 q = B.1 q := fun q a b => by rw [pI_ne b, pI_ne a]
  have m0 : ∀ f, f ≠ 7 → (bw_pI (bw_pI B 0 7 (nI j)) 5 j (B.1 5 j + 1)).1 0 f = B.1 0 f := fun f a => by rw [pI_ne (by decide), pI_n a]
  refine ⟨h1.of (fun q _ _ => c q (by omega) (by omega)) (m 1 (by omega) (by omega)) (m 2 (by omega) (by omega)), h2.of (fun q _ _ => c q (by omega) (by omega)) (m 3 (by omega) (by omega)) (m 4 (by omega) (by omega)), ⟨?_, t2, t3, ?_, ?_⟩, T, ds, ks, h4.of (fun q _ _ => c q (by omega) (by omega)) (fun q _ _ => c q (by omega) (by omega)) (m0 9 (by omega)) (m0 16 (by omega)) (fun q _ _ => m q (by omega) (by omega)) (m 11 (by omega) (by omega)) (m 12 (by omega) (by omega))⟩
  · rw [m0 4 (by omega), pI_ne (by decide), pI_n (by decide)]; exact t1
  · rw [pI_ne (by decide), pI_s, pI_ne (by decide), pI_s]
  · intro f hf
    rw [pI_rd, pI_rd, pI_ne (by decide), pI_ne (by decide), t5 f hf]
theorem ok_told {A B : bw_M} (h : Rel A B) (v : Int32) : Rel (bw_pI A 0 14 v) (bw_pI B 0 4 v) := by
  obtain ⟨h1, h2, ⟨t1, t2, t3, t4, t5⟩, T, ds, ks, h4⟩ := h
  refine ⟨h1.of (fun q _ _ => pI_ne (by omega)) (pI_ne (by omega)) (pI_ne (by omega)), h2.of (fun q _ _ => pI_ne (by omega)) (pI_ne (by omega)) (pI_ne (by omega)), ⟨?_, t2, t3, ?_, ?_⟩, T, ds, ks, h4.of (fun q _ _ => pI_ne (by omega)) (fun q _ _ => pI_ne (by omega)) (pI_n (by decide)) (pI_n (by decide)) (fun q _ _ => pI_ne (by omega)) (pI_ne (by omega)) (pI_ne (by omega))⟩
  · rw [pI_s, pI_s]
  · rw [pI_n (by decide), pI_n (by decide)]; exact t4
  · intro f hf
    rw [pI_ne (by decide), pI_ne (by decide)]; exact t5 f hf
theorem ok_tell {A B : bw_M} (h : Rel A B) (v : Int32) : OkI (fX4_tell v A) (fX5_tell v B) := ⟨1, _, _, rfl, rfl, ok_told h v⟩
theorem isRow_ok {j : Nat} (h : j < 6) : fX4_isRow (nI j) = some 1 ∧ fX5_isRow (nI j) = some 1 := by
  constructor
  · unfold fX4_isRow fX4_isRow_15
    rw [if_neg (nI_pos (by omega)), if_neg (show ¬ (6 : Int32) ≤ nI j from nI_ge h (by decide)), isb_1, ck_true]
  · unfold fX5_isRow
    rw [in_I (nI j) 0 (nI 5) (by decide) (by decide), if_pos (nI_rng h (by decide)), cl_some, isb_1, ck_true]
theorem isRow_no {x : Int32} (h : ¬ (0 ≤ x ∧ x ≤ nI 5)) (h2 : x < 0 ∨ nI 6 ≤ x) : fX4_isRow x = some 0 ∧ fX5_isRow x = some 0 := by
  constructor
  · unfold fX4_isRow fX4_isRow_14 fX4_isRow_15
    rw [isb_0, ck_true]
    by_cases q : x < 0
    · rw [if_pos q]
    · rw [if_neg q, if_pos (show (6 : Int32) ≤ x from h2.resolve_left q)]
  · unfold fX5_isRow
    rw [in_I x 0 (nI 5) (by decide) (by decide), if_neg h, cl_some, isb_0, ck_true]
theorem isText_ok {j : Nat} (h : j < 4) : fX4_isText (nI j) = some 1 ∧ fX5_isText (nI j) = some 1 := by
  constructor
  · unfold fX4_isText fX4_isText_14
    rw [if_neg (nI_pos (by omega)), if_neg (show ¬ (4 : Int32) ≤ nI j from nI_ge h (by decide)), isb_1, ck_true]
  · unfold fX5_isText
    rw [in_I (nI j) 0 (nI 3) (by decide) (by decide), if_pos (nI_rng h (by decide)), cl_some, isb_1, ck_true]
theorem isText_no {x : Int32} (h : ¬ (0 ≤ x ∧ x ≤ nI 3)) (h2 : x < 0 ∨ nI 4 ≤ x) : fX4_isText x = some 0 ∧ fX5_isText x = some 0 := by
  constructor
  · unfold fX4_isText fX4_isText_13 fX4_isText_14
    rw [isb_0, ck_true]
    by_cases q : x < 0
    · rw [if_pos q]
    · rw [if_neg q, if_pos (show (4 : Int32) ≤ x from h2.resolve_left q)]
  · unfold fX5_isText
    rw [in_I x 0 (nI 3) (by decide) (by decide), if_neg h, cl_some, isb_0, ck_true]
/-- Arrays.fill -/
theorem fillI_eq {N : Nat} {M : bw_M} {q n : Nat} {v : Int32} (hn : n < 2 ^ 31) (hN : n < N) : fJ7_fill_53178 N q n v M = some (bw_pA M q (flF (M.1 q) 0 n v)) := by
  unfold fJ7_fill_53178 flJ7_fill_53178_5
  simp only [mv_eq]
  obtain ⟨k, hk⟩ := lp_for (body := fun kk w => fJ7_fill_53178_5 N q n v kk w.1 (Int32.ofNat n) w.2) (fun i => (nI i, bw_pA M q (flF (M.1 q) 0 i v))) n (fun i hi k => by
    unfold fJ7_fill_53178_5
    show (if nI n ≤ nI i then _ else _) = _
    rw [if_neg (nI_ge hi (by omega)), wr_ok hi hn, mv_eq, pI_pA, nI_1]
    rw [show upd (flF (M.1 q) 0 i v) i v = flF (M.1 q) 0 (i + 1) v by rw [← flF_s, Nat.zero_add]]) n N 0 (by omega) (by omega)
  have e0 : (nI 0, bw_pA M q (flF (M.1 q) 0 0 v)) = ((0 : Int32), M) := by rw [flF_0, pA_id]; rfl
  simp only [e0] at hk
  rw [hk]
  unfold fJ7_fill_53178_5
  show (if nI n ≤ nI n then _ else _) = _
  rw [if_pos (nI_le (Nat.le_refl _) hn)]
theorem fillB_eq {N : Nat} {M : bw_M} {q n : Nat} {v : Int32} (hn : n < 2 ^ 31) (hN : n < N) : fJ7_fill_031fb N q n v M = some (bw_pA M q (flF (M.1 q) 0 n (Int8.toInt32 (Int32.toInt8 v)))) := by
  unfold fJ7_fill_031fb flJ7_fill_031fb_5
  simp only [mv_eq]
  obtain ⟨k, hk⟩ := lp_for (body := fun kk w => fJ7_fill_031fb_5 N q n v kk w.1 (Int32.ofNat n) w.2) (fun i => (nI i, bw_pA M q (flF (M.1 q) 0 i (Int8.toInt32 (Int32.toInt8 v))))) n (fun i hi k => by
    unfold fJ7_fill_031fb_5
    show (if nI n ≤ nI i then _ else _) = _
    rw [if_neg (nI_ge hi (by omega)), wr_ok hi hn, mv_eq, pI_pA, nI_1]
    rw [show ∀ w, upd (flF (M.1 q) 0 i w) i w = flF (M.1 q) 0 (i + 1) w from fun w => by rw [← flF_s, Nat.zero_add]]) n N 0 (by omega) (by omega)
  have e0 : (nI 0, bw_pA M q (flF (M.1 q) 0 0 (Int8.toInt32 (Int32.toInt8 v)))) = ((0 : Int32), M) := by rw [flF_0, pA_id]; rfl
  simp only [e0] at hk
  rw [hk]
  unfold fJ7_fill_031fb_5
  show (if nI n ≤ nI n then _ else _) = _
  rw [if_pos (nI_le (Nat.le_refl _) hn)]
theorem ok_row {N : Nat} (hN : 2000 ≤ N) {A B : bw_M} (h : Rel A B) (x y : Int32) : OkI (fX4_row N x y A) (fX5_row N x y B) := by
  unfold fX4_row fX5_row fX4_row_13 fX5_row_13
  rcases ix_cases x (n := 6) (by decide) (by decide) with ⟨r, hr, rfl⟩ | ⟨g1, g2⟩
  · rw [(isRow_ok hr).1, (isRow_ok hr).2, cl_some, cl_some, if_neg i10, if_neg i10]
    by_cases hy : y ≤ 40
    · rw [if_pos hy, if_pos hy]
      by_cases hy0 : (0 : Int32) ≤ y
      · rw [if_pos hy0, if_pos hy0, ra_ok hr (by decide), fillI_eq (by decide) (by omega), cl_some, wr_ok hr (by decide), wr_ok hr (by decide), mv_eq]
        obtain ⟨m, hm, rfl⟩ := nI_of2 (M := 40) (n := 40) rfl (Int32.not_lt.mpr hy0) hy
        unfold flX5_row_34
        obtain ⟨k, hk⟩ := lp_for (body := fun kk w => fX5_row_34 N (nI r) (nI m) kk w.1 w.2) (fun i => (nI i, bw_pA (bw_pI B 2 r (nI m)) 1 (flF (B.1 1) (40 * r) i 0))) 40 (fun i hi k => by
          unfold fX5_row_34
          show (if nI 40 ≤ nI i then _ else _) = _
          rw [if_neg (nI_ge hi (by omega)), show (40 : Int32) = nI 40 from rfl, pk_mul, nI_add, wr_ok (by omega) (by decide), mv_eq, pI_pA, nI_1, flF_s]) 40 N 0 (by omega) (by omega)
        have e0 : (nI 0, bw_pA (bw_pI B 2 r (nI m)) 1 (flF (B.1 1) (40 * r) 0 0)) = ((0 : Int32), bw_pI B 2 r (nI m)) := by
          rw [flF_0, show B.1 1 = (bw_pI B 2 r (nI m)).1 1 from (pI_ne (by decide)).symm, pA_id]; rfl
        simp only [e0] at hk
        rw [hk]
        unfold fX5_row_34
        rw [if_pos (show (40 : Int32) ≤ nI 40 from nI_le (Nat.le_refl _) (by decide))]
        refine ⟨_, _, _, rfl, rfl, ?_⟩
        obtain ⟨h1, h2, ⟨t1, t2, t3, t4, t5⟩, T, ds, ks, h4⟩ := h
        have c : ∀ q, q ≠ 8 → q ≠ 2 + r → (bw_pI (bw_pA A (2 + r) (flF (A.1 (2 + r)) 0 40 0)) 8 r (nI m)).1 q = A.1 q := fun q a b => by rw [pI_ne a, bw_pA_ne _ _ b]
        have m' : ∀ q, q ≠ 1 → q ≠ 2 → (bw_pA (bw_pI B 2 r (nI m)) 1 (flF (B.1 1) (40 * r) 40 0)).1 q = B.1 q := fun q a b => by rw [bw_pA_ne _ _ a, pI_ne b]
        refine ⟨?_, h2.of (fun q _ _ => c q (by omega) (by omega)) (m' 3 (by omega) (by omega)) (m' 4 (by omega) (by omega)), ⟨?_, t2, t3, ?_, ?_⟩, T, ds, ks, h4.of (fun q _ _ => c q (by omega) (by omega)) (fun q _ _ => c q (by omega) (by omega)) (by rw [m' 0 (by omega) (by omega)]) (by rw [m' 0 (by omega) (by omega)]) (fun q _ _ => m' q (by omega) (by omega)) (m' 11 (by omega) (by omega)) (m' 12 (by omega) (by omega))⟩
        · intro r' hr'
          obtain ⟨a1, a2, a3⟩ := h1 r' hr'
          rw [pI_rd, bw_pA_ne _ _ (show (2 : Nat) ≠ 1 by decide), pI_rd, bw_pA_ne _ _ (show (8 : Nat) ≠ 2 + r by omega)]
          refine ⟨by rw [a1], ?_, fun i hi => ?_⟩
          · by_cases e : r' = r
            · rw [if_pos e]; exact Or.inr ⟨m, hm, rfl⟩
            · rw [if_neg e]; exact a2
          · rw [bw_pA_self, pI_ne (by omega)]
            by_cases e : r' = r
            · subst e
              rw [bw_pA_self, flF_in (by omega), flF_in (by omega)]
            · rw [bw_pA_ne _ _ (by omega), flF_out (by omega)]
              exact a3 i hi
        · rw [c 0 (by omega) (by omega), m' 0 (by omega) (by omega)]; exact t1
        · rw [c 0 (by omega) (by omega), m' 0 (by omega) (by omega)]; exact t4
        · intro f hf
          rw [c 44 (by omega) (by omega), m' 5 (by omega) (by omega)]; exact t5 f hf
      · rw [if_neg hy0, if_neg hy0, c2_id, c2_id]
        exact ok_found h (j := 5) (by decide) rfl
    · rw [if_neg hy, if_neg hy]
      exact OkI.same h _
  · rw [(isRow_no g1 g2).1, (isRow_no g1 g2).2, cl_some, cl_some, if_pos i00, if_pos i00]
    exact OkI.same h _
