/-! Rows and texts, further -/
theorem ix3 (x : Int32) {n : Nat} (hn : n < 2 ^ 31) : (∃ j, j < n ∧ x = nI j) ∨ (x < 0 ∨ nI n ≤ x) := by
  rcases pk_ix x hn with h | h | h
  · exact Or.inr (Or.inl h)
  · exact Or.inr (Or.inr h)
  · exact Or.inl h
theorem i32lt (a b : Int32) : a < b ↔ a.toInt < b.toInt := Int32.lt_iff_toInt_lt
theorem i32le (a b : Int32) : a ≤ b ↔ a.toInt ≤ b.toInt := Int32.le_iff_toInt_le
theorem plc (x : Int32) {n : Nat} (hn : n ≤ 60) : (∃ i, i < n ∧ x = nI i ∧ fX4_hasPlaces (nI n) x 1 = some 1 ∧ fX5_in x.toInt64 0 (Int32.toInt64 (nI n - 1)) = some 1) ∨ (fX4_hasPlaces (nI n) x 1 = some 0 ∧ fX5_in x.toInt64 0 (Int32.toInt64 (nI n - 1)) = some 0) := by
  have e0 : (0 : Int64) = Int32.toInt64 0 := by decide
  rw [in_I x 0 (nI n - 1) e0 rfl]
  unfold fX4_hasPlaces fX4_hasPlaces_20 fX4_hasPlaces_21
  rw [isb_0, isb_1, ck_true, ck_true]
  rcases Nat.eq_zero_or_pos n with rfl | h0
  · right
    have e1 : nI 0 - 1 = (-1 : Int32) := by decide
    rw [e1]
    constructor
    · by_cases q : x < 0
      · rw [if_pos q]
      · rw [if_neg q, if_pos (show nI 0 < 1 by decide)]
    · rw [if_neg (fun q => ?_)]
      have q1 := (i32le _ _).mp q.1
      have q2 := (i32le _ _).mp q.2
      have z0 : (0 : Int32).toInt = 0 := by decide
      have z1 : (-1 : Int32).toInt = -1 := by decide
      omega
  · have e1 : nI n - 1 = nI (n - 1) := pk_sub (a := n) (b := 1) h0
    rw [e1]
    rcases ix3 x (n := n) (by omega) with ⟨i, hi, rfl⟩ | g
    · left
      refine ⟨i, hi, rfl, ?_, ?_⟩
      · rw [if_neg (nI_pos (by omega)), if_neg (show ¬ nI n < (1 : Int32) from nI_nlt (b := 1) (by omega) (by omega)), if_neg (nI_nlt (by omega) (by omega))]
      · rw [if_pos ⟨nI_pos' (by omega), nI_le (by omega) (by omega)⟩]
    · right
      constructor
      · rcases g with g | g
        · rw [if_pos g]
        · by_cases q : x < 0
          · rw [if_pos q]
          · rw [if_neg q, if_neg (show ¬ nI n < (1 : Int32) from nI_nlt (b := 1) (by omega) (by omega)), if_pos ?_]
            rw [i32lt]; rw [i32le] at g
            rw [nI_toInt (by omega)] at g ⊢
            omega
      · rw [if_neg (fun q => ?_)]
        have q1 := (i32le _ _).mp q.1
        have q2 := (i32le _ _).mp q.2
        have z0 : (0 : Int32).toInt = 0 := by decide
        rw [nI_toInt (by omega)] at q2
        rcases g with g | g
        · rw [i32lt] at g; omega
        · rw [i32le, nI_toInt (by omega)] at g; omega
theorem m1n : ¬ (0 : Int32) ≤ -1 := by decide
theorem ok_tear {A B : bw_M} (h : Rel A B) (x : Int32) : OkI (fX4_tear x A) (fX5_tear x B) := by
  unfold fX4_tear fX5_tear
  rcases ix_cases x (n := 6) (by decide) (by decide) with ⟨r, hr, rfl⟩ | ⟨g1, g2⟩
  · rw [(isRow_ok hr).1, (isRow_ok hr).2, cl_some, cl_some, if_neg i10, if_neg i10, rd_ok hr (by decide), rd_ok hr (by decide), wr_ok hr (by decide), wr_ok hr (by decide), c2_id, c2_id]
    obtain ⟨a1, a2, a3⟩ := h.1 r hr
    rw [← a1]
    rcases a2 with e | ⟨n, hn, e⟩
    · rw [e, if_pos rfl, if_neg m1n]
      exact ok_found h (j := 1) (by decide) rfl
    · rw [e, if_neg (nI_m1 (by omega)), if_pos (nI_pos' (by omega))]
      refine ⟨_, _, _, rfl, rfl, ?_⟩
      obtain ⟨h1, h2, ⟨t1, t2, t3, t4, t5⟩, T, ds, ks, h4⟩ := h
      refine ⟨?_, h2.of (fun q _ _ => pI_ne (by omega)) (pI_ne (by omega)) (pI_ne (by omega)), ⟨?_, t2, t3, ?_, ?_⟩, T, ds, ks, h4.of (fun q _ _ => pI_ne (by omega)) (fun q _ _ => pI_ne (by omega)) (by rw [pI_ne (by decide)]) (by rw [pI_ne (by decide)]) (fun q _ _ => pI_ne (by omega)) (pI_ne (by omega)) (pI_ne (by omega))⟩
      · intro r' hr'
        obtain ⟨b1, b2, b3⟩ := h1 r' hr'
        rw [pI_rd, pI_rd, b1, pI_ne (show 2 + r' ≠ 8 by omega), pI_ne (show 1 ≠ 2 by omega)]
        refine ⟨rfl, ?_, b3⟩
        by_cases e : r' = r
        · rw [if_pos e]; exact Or.inl rfl
        · rw [if_neg e, ← b1]; exact b2
      · rw [pI_ne (by decide), pI_ne (by decide)]; exact t1
      · rw [pI_ne (by decide), pI_ne (by decide)]; exact t4
      · intro f hf
        rw [pI_ne (by decide), pI_ne (by decide)]; exact t5 f hf
  · rw [(isRow_no g1 g2).1, (isRow_no g1 g2).2, cl_some, cl_some, if_pos i00, if_pos i00]
    exact OkI.same h _
/-- lay, at: the place is refused, or there is one -/
theorem rfp {A B : bw_M} (h : Rel A B) (x y : Int32) : (∃ r i n, r < 6 ∧ i < n ∧ n ≤ 40 ∧ x = nI r ∧ y = nI i ∧ A.1 8 r = nI n ∧ fX4_refusedPlace x y A = some (0, A)) ∨ (∃ z A' B', ¬ z = 0 ∧ Rel A' B' ∧ fX4_refusedPlace x y A = some (z, A') ∧ ((∀ v, fX5_lay x y v B = some (z, B')) ∧ fX5_at x y B = some (z, B'))) := by
  unfold fX4_refusedPlace fX4_refusedPlace_48 fX5_lay fX5_at fX5_at_65
  rcases ix_cases x (n := 6) (by decide) (by decide) with ⟨r, hr, rfl⟩ | ⟨g1, g2⟩
  · simp only [(isRow_ok hr).1, (isRow_ok hr).2, cl_some, if_neg i10, rd_ok hr (show 6 < 2 ^ 31 by decide), c2_id]
    obtain ⟨a1, a2, a3⟩ := h.1 r hr
    rw [← a1]
    rcases a2 with e | ⟨n, hn, e⟩
    · right
      obtain ⟨z, A', B', e1, e2, hR⟩ := ok_found h (j := 1) (by decide) (x := 1) rfl
      have hz : z = -3 := by
        unfold fX4_found at e1
        simp only [mv_eq] at e1
        rw [show (1 : Int32) = nI 1 from rfl, rd_ok (by decide) (by decide), wr_ok (by decide) (by decide)] at e1
        cases e1; rfl
      refine ⟨z, A', B', by rw [hz]; decide, hR, ?_, ?_, ?_⟩
      · rw [e, if_pos rfl]; exact e1
      · intro v; rw [e, if_neg m1n]; exact e2
      · rw [e, if_neg m1n]; exact e2
    · simp only [e, if_neg (nI_m1 (show n < 2 ^ 31 by omega)), if_pos (nI_pos' (show n < 2 ^ 31 by omega))]
      rcases plc y (n := n) (by omega) with ⟨i, hi, rfl, p1, p2⟩ | ⟨p1, p2⟩
      · left
        refine ⟨r, i, n, hr, hi, hn, rfl, rfl, e, ?_⟩
        rw [p1, cl_some, if_neg i10]
      · right
        obtain ⟨z, A', B', e1, e2, hR⟩ := ok_found h (j := 2) (by decide) (x := 2) rfl
        have hz : z = -3 := by
          unfold fX4_found at e1
          simp only [mv_eq] at e1
          rw [show (2 : Int32) = nI 2 from rfl, rd_ok (by decide) (by decide), wr_ok (by decide) (by decide)] at e1
          cases e1; rfl
        refine ⟨z, A', B', by rw [hz]; decide, hR, ?_, ?_, ?_⟩
        · rw [p1, cl_some, if_pos i00]; exact e1
        · intro v; rw [p2, cl_some, if_pos i00]; exact e2
        · rw [p2, cl_some, if_pos i00]; exact e2
  · right
    refine ⟨-1, A, B, by decide, h, ?_, ?_, ?_⟩
    · rw [(isRow_no g1 g2).1, cl_some, if_pos i00]
    · intro v; rw [(isRow_no g1 g2).2, cl_some, if_pos i00]
    · rw [(isRow_no g1 g2).2, cl_some, if_pos i00]
theorem ok_at {A B : bw_M} (h : Rel A B) (x y : Int32) : OkI (fX4_at x y A) (fX5_at x y B) := by
  rcases rfp h x y with ⟨r, i, n, hr, hi, hn, rfl, rfl, e, e1⟩ | ⟨z, A', B', hz, hR, e1, -, e2⟩
  · obtain ⟨a1, a2, a3⟩ := h.1 r hr
    have e2 : fX5_at (nI r) (nI i) B = fX5_tell (B.1 1 (40 * r + i)) B := by
      rcases plc (nI i) (n := n) (by omega) with ⟨i', hi', ei, p1, p2⟩ | ⟨p1, p2⟩
      · unfold fX5_at fX5_at_65
        rw [(isRow_ok hr).2, cl_some, if_neg i10, rd_ok hr (by decide), rd_ok hr (by decide), ← a1, e, if_pos (nI_pos' (by omega)), p2, cl_some, if_neg i10, show (40 : Int32) = nI 40 from rfl, pk_mul, nI_add, rd_ok (by omega) (by decide), c2_id]
      · exfalso
        unfold fX4_hasPlaces fX4_hasPlaces_20 fX4_hasPlaces_21 at p1
        rw [if_neg (nI_pos (by omega)), if_neg (show ¬ nI n < (1 : Int32) from nI_nlt (b := 1) (by omega) (by omega)), show nI n - 1 = nI (n - 1) from pk_sub (b := 1) (by omega), if_neg (nI_nlt (by omega) (by omega)), isb_1, ck_true] at p1
        exact absurd (Option.some.inj p1) (by decide)
    rw [e2]
    unfold fX4_at fX4_at_27
    rw [e1, c2_some, if_pos i00, ra_ok hr (by decide), rd_ok (by omega) (by decide), c2_id, a3 i (by omega)]
    exact ok_tell h _
  · unfold fX4_at fX4_at_27
    rw [e1, e2, c2_some, if_neg hz]
    exact OkI.same hR _
theorem ok_lay {A B : bw_M} (h : Rel A B) (x y v : Int32) : OkI (fX4_lay x y v A) (fX5_lay x y v B) := by
  rcases rfp h x y with ⟨r, i, n, hr, hi, hn, rfl, rfl, e, e1⟩ | ⟨z, A', B', hz, hR, e1, e2, -⟩
  · obtain ⟨a1, a2, a3⟩ := h.1 r hr
    have e2 : fX5_lay (nI r) (nI i) v B = fX5_tell (B.1 1 (40 * r + i)) (bw_pI B 1 (40 * r + i) v) := by
      rcases plc (nI i) (n := n) (by omega) with ⟨i', hi', ei, p1, p2⟩ | ⟨p1, p2⟩
      · unfold fX5_lay
        rw [(isRow_ok hr).2, cl_some, if_neg i10, rd_ok hr (by decide), rd_ok hr (by decide), ← a1, e, if_pos (nI_pos' (by omega)), p2, cl_some, if_neg i10, show (40 : Int32) = nI 40 from rfl, pk_mul, nI_add, rd_ok (by omega) (by decide), wr_ok (by omega) (by decide), c2_id]
      · exfalso
        unfold fX4_hasPlaces fX4_hasPlaces_20 fX4_hasPlaces_21 at p1
        rw [if_neg (nI_pos (by omega)), if_neg (show ¬ nI n < (1 : Int32) from nI_nlt (b := 1) (by omega) (by omega)), show nI n - 1 = nI (n - 1) from pk_sub (b := 1) (by omega), if_neg (nI_nlt (by omega) (by omega)), isb_1, ck_true] at p1
        exact absurd (Option.some.inj p1) (by decide)
    rw [e2]
    unfold fX4_lay
    rw [e1, c2_some, if_pos i00, ra_ok hr (by decide), rd_ok (by omega) (by decide), ra_ok hr (by decide), wr_ok (by omega) (by decide), c2_id, a3 i (by omega)]
    refine ok_tell ?_ _
    obtain ⟨h1, h2, ⟨t1, t2, t3, t4, t5⟩, T, ds, ks, h4⟩ := h
    refine ⟨?_, h2.of (fun q _ _ => pI_ne (by omega)) (pI_ne (by omega)) (pI_ne (by omega)), ⟨?_, t2, t3, ?_, ?_⟩, T, ds, ks, h4.of (fun q _ _ => pI_ne (by omega)) (fun q _ _ => pI_ne (by omega)) (by rw [pI_ne (by decide)]) (by rw [pI_ne (by decide)]) (fun q _ _ => pI_ne (by omega)) (pI_ne (by omega)) (pI_ne (by omega))⟩
    · intro r' hr'
      obtain ⟨b1, b2, b3⟩ := h1 r' hr'
      rw [pI_ne (show 8 ≠ 2 + r by omega), pI_ne (show 2 ≠ 1 by omega)]
      refine ⟨b1, b2, fun j hj => ?_⟩
      rw [pI_rd]
      by_cases e9 : r' = r
      · subst e9
        rw [pI_rd, b3 j hj]
        by_cases e8 : j = i
        · rw [if_pos e8, if_pos (by omega)]
        · rw [if_neg e8, if_neg (by omega)]
      · rw [pI_ne (by omega), if_neg (by omega)]
        exact b3 j hj
    · rw [pI_ne (by omega), pI_ne (by decide)]; exact t1
    · rw [pI_ne (by omega), pI_ne (by decide)]; exact t4
    · intro f hf
      rw [pI_ne (by omega), pI_ne (by decide)]; exact t5 f hf
  · unfold fX4_lay
    rw [e1, e2, c2_some, if_neg hz]
    exact OkI.same hR _
theorem ok_text {N : Nat} (hN : 2000 ≤ N) {A B : bw_M} (h : Rel A B) (x y : Int32) : OkI (fX4_text N x y A) (fX5_text N x y B) := by
  unfold fX4_text fX5_text fX4_text_13 fX5_text_13
  rcases ix_cases x (n := 4) (by decide) (by decide) with ⟨r, hr, rfl⟩ | ⟨g1, g2⟩
  · rw [(isText_ok hr).1, (isText_ok hr).2, cl_some, cl_some, if_neg i10, if_neg i10]
    by_cases hy : y ≤ 60
    · rw [if_pos hy, if_pos hy]
      by_cases hy0 : (0 : Int32) ≤ y
      · rw [if_pos hy0, if_pos hy0, ra_ok hr (by decide), fillB_eq (by decide) (by omega), cl_some, wr_ok hr (by decide), wr_ok hr (by decide), mv_eq, show Int8.toInt32 (Int32.toInt8 32) = 32 by decide]
        obtain ⟨m, hm, rfl⟩ := nI_of2 (M := 60) (n := 60) rfl (Int32.not_lt.mpr hy0) hy
        unfold flX5_text_34
        obtain ⟨k, hk⟩ := lp_for (body := fun kk w => fX5_text_34 N (nI r) (nI m) kk w.1 w.2) (fun i => (nI i, bw_pA (bw_pI B 4 r (nI m)) 3 (flF (B.1 3) (60 * r) i 32))) 60 (fun i hi k => by
          unfold fX5_text_34
          show (if nI 60 ≤ nI i then _ else _) = _
          rw [if_neg (nI_ge hi (by omega)), show (60 : Int32) = nI 60 from rfl, pk_mul, nI_add, wr_ok (by omega) (by decide), mv_eq, pI_pA, nI_1, flF_s]) 60 N 0 (by omega) (by omega)
        have e0 : (nI 0, bw_pA (bw_pI B 4 r (nI m)) 3 (flF (B.1 3) (60 * r) 0 32)) = ((0 : Int32), bw_pI B 4 r (nI m)) := by
          rw [flF_0, show B.1 3 = (bw_pI B 4 r (nI m)).1 3 from (pI_ne (by decide)).symm, pA_id]; rfl
        simp only [e0] at hk
        rw [hk]
        unfold fX5_text_34
        rw [if_pos (show (60 : Int32) ≤ nI 60 from nI_le (Nat.le_refl _) (by decide))]
        refine ⟨_, _, _, rfl, rfl, ?_⟩
        obtain ⟨h1, h2, ⟨t1, t2, t3, t4, t5⟩, T, ds, ks, h4⟩ := h
        have c : ∀ q, q ≠ 14 → q ≠ 10 + r → (bw_pI (bw_pA A (10 + r) (flF (A.1 (10 + r)) 0 60 32)) 14 r (nI m)).1 q = A.1 q := fun q a b => by rw [pI_ne a, bw_pA_ne _ _ b]
        have m' : ∀ q, q ≠ 3 → q ≠ 4 → (bw_pA (bw_pI B 4 r (nI m)) 3 (flF (B.1 3) (60 * r) 60 32)).1 q = B.1 q := fun q a b => by rw [bw_pA_ne _ _ a, pI_ne b]
        refine ⟨h1.of (fun q _ _ => c q (by omega) (by omega)) (m' 1 (by omega) (by omega)) (m' 2 (by omega) (by omega)), ?_, ⟨?_, t2, t3, ?_, ?_⟩, T, ds, ks, h4.of (fun q _ _ => c q (by omega) (by omega)) (fun q _ _ => c q (by omega) (by omega)) (by rw [m' 0 (by omega) (by omega)]) (by rw [m' 0 (by omega) (by omega)]) (fun q _ _ => m' q (by omega) (by omega)) (m' 11 (by omega) (by omega)) (m' 12 (by omega) (by omega))⟩
        · intro r' hr'
          obtain ⟨a1, a2, a3⟩ := h2 r' hr'
          rw [pI_rd, bw_pA_ne _ _ (show (4 : Nat) ≠ 3 by decide), pI_rd, bw_pA_ne _ _ (show (14 : Nat) ≠ 10 + r by omega)]
          refine ⟨by rw [a1], ?_, fun i hi => ?_⟩
          · by_cases e : r' = r
            · rw [if_pos e]; exact Or.inr ⟨m, hm, rfl⟩
            · rw [if_neg e]; exact a2
          · rw [bw_pA_self, pI_ne (by omega)]
            by_cases e : r' = r
            · subst e
              rw [bw_pA_self, flF_in (by omega), flF_in (by omega)]
            · rw [bw_pA_ne _ _ (by omega), flF_out (by omega)]
              exact a3 i hi
        · rw [c 0 (by omega) (by omega), m' 0 (by omega) (by omega)]; exact t1
        · rw [c 0 (by omega) (by omega), m' 0 (by omega) (by omega)]; exact t4
        · intro f hf
          rw [c 44 (by omega) (by omega), m' 5 (by omega) (by omega)]; exact t5 f hf
      · rw [if_neg hy0, if_neg hy0, c2_id, c2_id]
        exact ok_found h (j := 5) (by decide) rfl
    · rw [if_neg hy, if_neg hy]
      exact OkI.same h _
  · rw [(isText_no g1 g2).1, (isText_no g1 g2).2, cl_some, cl_some, if_pos i00, if_pos i00]
    exact OkI.same h _
theorem b8b8 (x : Int32) : Int8.toInt32 (Int32.toInt8 (Int8.toInt32 (Int32.toInt8 x))) = Int8.toInt32 (Int32.toInt8 x) := by simp
theorem ok_put {A B : bw_M} (h : Rel A B) (x y v : Int32) : OkI (fX4_put x y v A) (fX5_put x y v B) := by
  unfold fX4_put fX5_put
  rcases ix_cases x (n := 4) (by decide) (by decide) with ⟨r, hr, rfl⟩ | ⟨g1, g2⟩
  · simp only [(isText_ok hr).1, (isText_ok hr).2, cl_some, if_neg i10, rd_ok hr (show 4 < 2 ^ 31 by decide), ra_ok hr (show 4 < 2 ^ 31 by decide), c2_id, b8b8]
    obtain ⟨a1, a2, a3⟩ := h.2.1 r hr
    rw [← a1]
    rcases a2 with e | ⟨n, hn, e⟩
    · rw [e, if_pos rfl, if_neg m1n]
      exact ok_found h (j := 1) (by decide) rfl
    · rw [e, if_neg (nI_m1 (by omega)), if_pos (nI_pos' (by omega))]
      rcases plc y (n := n) (by omega) with ⟨i, hi, rfl, p1, p2⟩ | ⟨p1, p2⟩
      · rw [p1, p2, cl_some, cl_some, if_neg i10, if_neg i10, rd_ok (by omega) (by decide), wr_ok (by omega) (by decide), show (60 : Int32) = nI 60 from rfl, pk_mul, nI_add, rd_ok (by omega) (by decide), wr_ok (by omega) (by decide), a3 i (by omega)]
        refine ⟨_, _, _, rfl, rfl, ?_⟩
        obtain ⟨h1, h2, ⟨t1, t2, t3, t4, t5⟩, T, ds, ks, h4⟩ := h
        refine ⟨h1.of (fun q _ _ => pI_ne (by omega)) (pI_ne (by omega)) (pI_ne (by omega)), ?_, ⟨?_, t2, t3, ?_, ?_⟩, T, ds, ks, h4.of (fun q _ _ => pI_ne (by omega)) (fun q _ _ => pI_ne (by omega)) (by rw [pI_ne (by decide)]) (by rw [pI_ne (by decide)]) (fun q _ _ => pI_ne (by omega)) (pI_ne (by omega)) (pI_ne (by omega))⟩
        · intro r' hr'
          obtain ⟨b1, b2, b3⟩ := h2 r' hr'
          rw [pI_ne (show 14 ≠ 10 + r by omega), pI_ne (show 4 ≠ 3 by omega)]
          refine ⟨b1, b2, fun j hj => ?_⟩
          rw [pI_rd]
          by_cases e9 : r' = r
          · subst e9
            rw [pI_rd, b3 j hj]
            by_cases e8 : j = i
            · rw [if_pos e8, if_pos (by omega)]
            · rw [if_neg e8, if_neg (by omega)]
          · rw [pI_ne (by omega), if_neg (by omega)]
            exact b3 j hj
        · rw [pI_ne (by omega), pI_ne (by decide)]; exact t1
        · rw [pI_ne (by omega), pI_ne (by decide)]; exact t4
        · intro f hf
          rw [pI_ne (by omega), pI_ne (by decide)]; exact t5 f hf
      · rw [p1, p2, cl_some, cl_some, if_pos i00, if_pos i00]
        exact ok_found h (j := 2) (by decide) rfl
  · rw [(isText_no g1 g2).1, (isText_no g1 g2).2, cl_some, cl_some, if_pos i00, if_pos i00]
    exact OkI.same h _
theorem lt0_1 {x : Int32} (h : x < 0) : x < 1 := by
  rw [i32lt] at h ⊢
  have z0 : (0 : Int32).toInt = 0 := by decide
  have z1 : (1 : Int32).toInt = 1 := by decide
  omega
theorem ok_findings {A B : bw_M} (h : Rel A B) (x : Int32) : ∃ r, fX4_findings x A = some r ∧ fX5_findings x B = some r := by
  unfold fX4_findings fX4_findings_10 fX4_findings_20 fX5_findings fX5_findings_22
  rw [in_I x 1 5 (by decide) (by decide)]
  by_cases h1 : x < 1
  · rw [if_pos h1, if_neg (fun q => Int32.not_lt.mpr q.1 h1), cl_some, if_pos i00]
    exact ⟨_, rfl, rfl⟩
  · rw [if_neg h1]
    by_cases h2 : x ≤ 5
    · rw [if_pos h2, if_pos ⟨Int32.not_lt.mp h1, h2⟩, cl_some, if_neg i10]
      obtain ⟨j, hj, rfl⟩ := nI_of2 (x := x) (M := 5) (n := 5) rfl (fun q => h1 (lt0_1 q)) h2
      rw [rd_ok (by omega) (by decide), rd_ok (by omega) (by decide), h.2.2.1.2.2.2.2 j (by omega)]
      exact ⟨_, rfl, rfl⟩
    · rw [if_neg h2, if_neg (fun q => h2 q.2), cl_some, if_pos i00]
      exact ⟨_, rfl, rfl⟩
