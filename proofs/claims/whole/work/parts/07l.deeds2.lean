/-! pump, cut, leak, stroke, lots -/
theorem perf_full {N : Nat} {A : bw_M} {ds : List Dd} (b3 : c_ds A 28 ds) (hl : ¬ ds.length < 40) (x y : Int32) : fX4_perform N x y A = some (-2, A) := by
  unfold fX4_perform fX4_perform_26
  rw [c_full b3 hl, c2_some, if_pos i00]
theorem ms_0 {B : bw_M} {q : Nat} {S : Sd} (h : m_st B q 0 S) (v : Nat) : m_st (bw_pI B q 0 (nI v)) q 0 (v, S.2) := by
  obtain ⟨c1, c2, c3, c4, c5, c6⟩ := h
  simp only [Nat.zero_add] at c1 c2 c3 c4 c5 c6
  unfold m_st
  simp only [Nat.zero_add]
  exact ⟨pI_s, by rw [pI_n (by decide)]; exact c2, by rw [pI_n (by decide)]; exact c3, by rw [pI_n (by decide)]; exact c4, by rw [pI_n (by decide)]; exact c5, fun i hi => by rw [pI_n (by omega), pI_n (by omega)]; exact c6 i hi⟩
theorem ms_1 {B : bw_M} {q : Nat} {S : Sd} (h : m_st B q 0 S) (v : Nat) : m_st (bw_pI B q 1 (nI v)) q 0 (S.1, v, S.2.2) := by
  obtain ⟨c1, c2, c3, c4, c5, c6⟩ := h
  simp only [Nat.zero_add] at c1 c2 c3 c4 c5 c6
  unfold m_st
  simp only [Nat.zero_add]
  exact ⟨by rw [pI_n (by decide)]; exact c1, pI_s, by rw [pI_n (by decide)]; exact c3, by rw [pI_n (by decide)]; exact c4, by rw [pI_n (by decide)]; exact c5, fun i hi => by rw [pI_n (by omega), pI_n (by omega)]; exact c6 i hi⟩
theorem ms_3 {B : bw_M} {q : Nat} {S : Sd} (h : m_st B q 0 S) (v : Nat) : m_st (bw_pI B q 3 (nI v)) q 0 (S.1, S.2.1, S.2.2.1, v, S.2.2.2.2) := by
  obtain ⟨c1, c2, c3, c4, c5, c6⟩ := h
  simp only [Nat.zero_add] at c1 c2 c3 c4 c5 c6
  unfold m_st
  simp only [Nat.zero_add]
  exact ⟨by rw [pI_n (by decide)]; exact c1, by rw [pI_n (by decide)]; exact c2, by rw [pI_n (by decide)]; exact c3, pI_s, by rw [pI_n (by decide)]; exact c5, fun i hi => by rw [pI_n (by omega), pI_n (by omega)]; exact c6 i hi⟩
theorem ms_4 {B : bw_M} {q : Nat} {S : Sd} (h : m_st B q 0 S) (v : Nat) : m_st (bw_pI B q 4 (nI v)) q 0 (S.1, S.2.1, S.2.2.1, S.2.2.2.1, v, S.2.2.2.2.2) := by
  obtain ⟨c1, c2, c3, c4, c5, c6⟩ := h
  simp only [Nat.zero_add] at c1 c2 c3 c4 c5 c6
  unfold m_st
  simp only [Nat.zero_add]
  exact ⟨by rw [pI_n (by decide)]; exact c1, by rw [pI_n (by decide)]; exact c2, by rw [pI_n (by decide)]; exact c3, by rw [pI_n (by decide)]; exact c4, pI_s, fun i hi => by rw [pI_n (by omega), pI_n (by omega)]; exact c6 i hi⟩
theorem airP : ∀ a : Nat, a < 61 → ∀ j : Nat, j < 19 → ((60 : Int32) < nI a + Int32.ofInt ((j : Int) - 9) ↔ (60 : Int) < a + ((j : Int) - 9)) ∧ ((0 : Int32) ≤ nI a + Int32.ofInt ((j : Int) - 9) ↔ (0 : Int) ≤ a + ((j : Int) - 9)) ∧ (0 ≤ (a : Int) + ((j : Int) - 9) → nI a + Int32.ofInt ((j : Int) - 9) = nI ((a : Int) + ((j : Int) - 9)).toNat) := by decide +kernel
theorem airP' {a : Nat} {b : Int} (ha : a ≤ 60) (h1 : -9 ≤ b) (h2 : b ≤ 9) : ((60 : Int32) < nI a + Int32.ofInt b ↔ (60 : Int) < a + b) ∧ ((0 : Int32) ≤ nI a + Int32.ofInt b ↔ (0 : Int) ≤ a + b) ∧ (0 ≤ (a : Int) + b → nI a + Int32.ofInt b = nI ((a : Int) + b).toNat) := by
  have := airP a (by omega) (b + 9).toNat (by omega)
  rw [show (((b + 9).toNat : Nat) : Int) - 9 = b by omega] at this
  exact this
theorem len40 {n : Nat} (h : n ≤ 40) : (nI n = (40 : Int32)) ↔ ¬ n < 40 := by
  have := nI_eq (a := n) (b := 40) (by omega) (by decide)
  constructor
  · intro q
    have := this.mp q
    omega
  · intro q
    exact this.mpr (by omega)
theorem ok_pump {N : Nat} (hN : 2000 ≤ N) {A B : bw_M} (h : Rel A B) (x : Int32) : OkI (fX4_pump N x A) (fX5_pump N x B) := by
  obtain ⟨T, ds, ks, h⟩ := h.rl
  have hp6 := h.p6
  obtain ⟨-, -, -, hT, ⟨b1, b2, b3⟩, hds, ⟨m1, m2, m3, m4⟩, hk⟩ := id h
  have h40 := b3.2.1
  have hs := h.sok
  unfold fX4_pump fX4_pump_16 fX4_pump_54 fX5_pump fX5_pump_18 fX5_pump_46
  rw [in_I x (-9) 9 (by decide) (by decide), cl_some]
  by_cases hr : (-9 : Int32) ≤ x ∧ x ≤ 9
  · rw [if_pos hr, if_neg i10]
    by_cases h0 : x = 0
    · rw [if_pos h0, if_pos h0]; exact OkI.same h.rel _
    · rw [if_neg h0, if_neg h0, if_neg (Int32.not_lt.mpr hr.1), if_pos hr.2, h.eA, h.eB]
      by_cases hp : T.1 = 0
      · rw [if_pos ((nI_0' (by omega)).mpr hp), if_pos ((nI_0' (by omega)).mpr hp)]
        exact OkI.same h.rel _
      · obtain ⟨b, hb1, hb2, rfl⟩ : ∃ b : Int, -9 ≤ b ∧ b ≤ 9 ∧ x = Int32.ofInt b := by
          have z1 : (-9 : Int32).toInt = -9 := by decide
          have z2 : (9 : Int32).toInt = 9 := by decide
          have r1 := (i32le _ _).mp hr.1
          have r2 := (i32le _ _).mp hr.2
          exact ⟨x.toInt, by omega, by omega, (Int32.ofInt_toInt x).symm⟩
        obtain ⟨c1, c2, c3⟩ := airP' hs.1 hb1 hb2
        rw [if_neg (fun q => hp ((nI_0' (by omega)).mp q)), if_neg (fun q => hp ((nI_0' (by omega)).mp q)), r17_0, b2.1, m2.1, in_I _ 0 60 (by decide) (by decide), cl_some]
        by_cases hv : 0 ≤ ((s_rep T ds).1 : Int) + b ∧ ((s_rep T ds).1 : Int) + b ≤ 60
        · rw [if_neg (fun q => by have := c1.mp q; omega), if_pos (c2.mpr hv.1), if_pos (show (0 : Int32) ≤ nI (s_rep T ds).1 + Int32.ofInt b ∧ nI (s_rep T ds).1 + Int32.ofInt b ≤ 60 from ⟨c2.mpr hv.1, Int32.not_lt.mp (fun q => by have := c1.mp q; omega)⟩), if_neg i10, m3]
          by_cases hl : ds.length < 40
          · rw [if_neg (fun q => (len40 h40).mp q hl)]
            have hd : d_ok T.1 (1, b) := ⟨show 1 ≤ 4 by decide, fun _ => ⟨hb1, hb2⟩, (fun q => by rcases q with q | q <;> cases q), (fun q => by cases q)⟩
            obtain ⟨A', B1, e1, e2, e3, e4, -, e5⟩ := deed hN h hd hl
            rw [show fX4_perform N 1 (Int32.ofInt b) A = some (s_ans T (s_rep T ds) (1, b), A') from e1, e2, cl_some, c2_some, r17_0, w17_0, r17_0, pI_s, e4.1, c3 hv.1]
            have ev : (min 60 (max 0 (((s_rep T ds).1 : Int) + b))) = ((s_rep T ds).1 : Int) + b := by omega
            have ea : s_ans T (s_rep T ds) (1, b) = nI (((s_rep T ds).1 : Int) + b).toNat := by
              show nI (min 60 (max 0 (((s_rep T ds).1 : Int) + b))).toNat = _
              rw [ev]
            have eu : s_und T (s_rep T ds) (1, b) = ((((s_rep T ds).1 : Int) + b).toNat, (s_rep T ds).2) := by
              show ((min 60 (max 0 (((s_rep T ds).1 : Int) + b))).toNat, (s_rep T ds).2) = _
              rw [ev]
            refine ⟨_, _, _, rfl, by rw [ea], (e5 _ (by rw [eu]; exact ms_0 e4 _) (fun q hq => pI_ne hq) rfl).rel⟩
          · rw [if_pos ((len40 h40).mpr hl), perf_full b3 hl, c2_some]
            exact OkI.same h.rel _
        · rw [if_neg (show ¬ ((0 : Int32) ≤ nI (s_rep T ds).1 + Int32.ofInt b ∧ nI (s_rep T ds).1 + Int32.ofInt b ≤ 60) from fun q => hv ⟨c2.mp q.1, Int.not_lt.mp (fun q2 => Int32.not_lt.mpr q.2 (c1.mpr q2))⟩), if_pos i00]
          by_cases q : (60 : Int32) < nI (s_rep T ds).1 + Int32.ofInt b
          · rw [if_pos q]; exact OkI.same h.rel _
          · rw [if_neg q, if_neg (fun q2 => hv ⟨c2.mp q2, Int.not_lt.mp (fun q3 => q (c1.mpr q3))⟩)]
            exact OkI.same h.rel _
  · rw [if_neg hr, if_pos i00]
    by_cases h0 : x = 0
    · rw [if_pos h0]; exact OkI.same h.rel _
    · rw [if_neg h0]
      by_cases h1 : x < -9
      · rw [if_pos h1]; exact OkI.same h.rel _
      · rw [if_neg h1, if_neg (fun q => hr ⟨Int32.not_lt.mp h1, q⟩)]; exact OkI.same h.rel _
theorem deedN {N : Nat} (hN : 2000 ≤ N) {A B : bw_M} {T : Tw} {ds : List Dd} {ks : Nat → Option (List Dd)} (h : Rl A B T ds ks) {w n : Nat} (hd : d_ok T.1 (w, (n : Int))) (hl : ds.length < 40) : ∃ A' B1, fX4_perform N (nI w) (nI n) A = some (s_ans T (s_rep T ds) (w, (n : Int)), A') ∧ fX5_remember N B = some B1 ∧ m_tw B1 T ∧ m_st B1 9 0 (s_rep T ds) ∧ ∀ B2, m_st B2 9 0 (s_und T (s_rep T ds) (w, (n : Int))) → (∀ q, q ≠ 9 → B2.1 q = B1.1 q) → B2.2 = B1.2 → Rl A' B2 T (ds ++ [(w, (n : Int))]) ks := by
  obtain ⟨A', B1, e1, e2, e3, e4, -, e5⟩ := deed hN h hd hl
  exact ⟨A', B1, by rw [← e1]; show _ = fX4_perform N (nI w) (Int32.ofInt (n : Int)) A; rw [ofI_nn (Int.natCast_nonneg n), Int.toNat_natCast], e2, e3, e4, e5⟩
theorem bl_cut {p i : Nat} (h : i < p) : d_ok p (2, (i : Int)) := ⟨show 2 ≤ 4 by decide, (fun q => by cases q), (fun _ => ⟨by show (0 : Int) ≤ i; omega, by show (i : Int) < p; omega⟩), (fun q => by cases q)⟩
theorem bl_leak {p i : Nat} (h : i < p) : d_ok p (3, (i : Int)) := ⟨show 3 ≤ 4 by decide, (fun q => by cases q), (fun _ => ⟨by show (0 : Int) ≤ i; omega, by show (i : Int) < p; omega⟩), (fun q => by cases q)⟩
theorem bl_stroke {p i : Nat} (h : i ≤ 9) : d_ok p (4, (i : Int)) := ⟨show 4 ≤ 4 by decide, (fun q => by cases q), (fun q => by rcases q with q | q <;> cases q), fun _ => ⟨by show (0 : Int) ≤ i; omega, by show (i : Int) ≤ 9; omega⟩⟩
theorem bl_air {p i : Nat} (h : i ≤ 9) : d_ok p (1, (i : Int)) := ⟨show 1 ≤ 4 by decide, fun _ => ⟨by show (-9 : Int) ≤ i; omega, by show (i : Int) ≤ 9; omega⟩, (fun q => by rcases q with q | q <;> cases q), (fun q => by cases q)⟩
theorem bl_hour {p : Nat} : d_ok p (0, (0 : Nat)) := ⟨Nat.zero_le _, (fun q => by cases q), (fun q => by rcases q with q | q <;> cases q), (fun q => by cases q)⟩
theorem ok_cut {N : Nat} (hN : 2000 ≤ N) {A B : bw_M} (h : Rel A B) (x : Int32) : OkI (fX4_cut N x A) (fX5_cut N x B) := by
  obtain ⟨T, ds, ks, h⟩ := h.rl
  have hp6 := h.p6
  obtain ⟨-, -, -, hT, ⟨b1, b2, b3⟩, hds, ⟨m1, m2, m3, m4⟩, hk⟩ := id h
  have h40 := b3.2.1
  have hs := h.sok
  unfold fX4_cut fX4_cut_21 fX5_cut fX5_turns
  rcases pipe_cases h x with ⟨i, hi, rfl, p1, p2⟩ | ⟨p1, p2⟩
  · rw [p1, p2, cl_some, cl_some, if_neg i10, if_neg i10, m3, c2_id, c2_id]
    by_cases hl : ds.length < 40
    · rw [if_neg (fun q => (len40 h40).mp q hl)]
      obtain ⟨A', B1, e1, e2, e3, e4, e5⟩ := deedN hN h (bl_cut hi) hl
      have hx := Nat.xor_lt_two_pow hs.2.2.2.1 (show 2 ^ i < 2 ^ T.1 from Nat.pow_lt_pow_right (by decide) hi)
      rw [show fX4_perform N 2 (nI i) A = some (s_ans T (s_rep T ds) (2, (i : Int)), A') from e1, e2, cl_some, r17_3, w17_3, r17_3, pI_s, e4.2.2.2.1, xorI _ (p64 hp6 hs.2.2.2.1) _ (by omega), bitB (p31 hp6 hx) (by omega)]
      exact ⟨_, _, _, rfl, rfl, (e5 _ (ms_3 e4 _) (fun q hq => pI_ne hq) rfl).rel⟩
    · rw [if_pos ((len40 h40).mpr hl), perf_full b3 hl]
      exact OkI.same h.rel _
  · rw [p1, p2, cl_some, cl_some, if_pos i00, if_pos i00, c2_some]
    exact OkI.same h.rel _
theorem ok_leak {N : Nat} (hN : 2000 ≤ N) {A B : bw_M} (h : Rel A B) (x : Int32) : OkI (fX4_leak N x A) (fX5_leak N x B) := by
  obtain ⟨T, ds, ks, h⟩ := h.rl
  have hp6 := h.p6
  obtain ⟨-, -, -, hT, ⟨b1, b2, b3⟩, hds, ⟨m1, m2, m3, m4⟩, hk⟩ := id h
  have h40 := b3.2.1
  have hs := h.sok
  unfold fX4_leak fX4_leak_21 fX5_leak fX5_turns
  rcases pipe_cases h x with ⟨i, hi, rfl, p1, p2⟩ | ⟨p1, p2⟩
  · rw [p1, p2, cl_some, cl_some, if_neg i10, if_neg i10, m3, c2_id, c2_id]
    by_cases hl : ds.length < 40
    · rw [if_neg (fun q => (len40 h40).mp q hl)]
      obtain ⟨A', B1, e1, e2, e3, e4, e5⟩ := deedN hN h (bl_leak hi) hl
      have hx := Nat.xor_lt_two_pow hs.2.2.2.2.1 (show 2 ^ i < 2 ^ T.1 from Nat.pow_lt_pow_right (by decide) hi)
      rw [show fX4_perform N 3 (nI i) A = some (s_ans T (s_rep T ds) (3, (i : Int)), A') from e1, e2, cl_some, r17_4, w17_4, r17_4, pI_s, e4.2.2.2.2.1, xorI _ (p64 hp6 hs.2.2.2.2.1) _ (by omega), bitB (p31 hp6 hx) (by omega)]
      exact ⟨_, _, _, rfl, rfl, (e5 _ (ms_4 e4 _) (fun q hq => pI_ne hq) rfl).rel⟩
    · rw [if_pos ((len40 h40).mpr hl), perf_full b3 hl]
      exact OkI.same h.rel _
  · rw [p1, p2, cl_some, cl_some, if_pos i00, if_pos i00, c2_some]
    exact OkI.same h.rel _
theorem ok_stroke {N : Nat} (hN : 2000 ≤ N) {A B : bw_M} (h : Rel A B) (x : Int32) : OkI (fX4_stroke N x A) (fX5_stroke N x B) := by
  obtain ⟨T, ds, ks, h⟩ := h.rl
  have hp6 := h.p6
  obtain ⟨-, -, -, hT, ⟨b1, b2, b3⟩, hds, ⟨m1, m2, m3, m4⟩, hk⟩ := id h
  have h40 := b3.2.1
  have hs := h.sok
  unfold fX4_stroke fX4_stroke_10 fX4_stroke_33 fX5_stroke fX5_stroke_31
  rw [in_I x 0 9 (by decide) (by decide), cl_some]
  rcases ix_cases x (n := 10) (by decide) (by decide) with ⟨v, hv, rfl⟩ | ⟨g1, g2⟩
  · rw [if_neg (nI_pos (by omega)), if_pos (show nI v < (10 : Int32) from nI_lt (b := 10) hv (by decide)), if_pos (show (0 : Int32) ≤ nI v ∧ nI v ≤ 9 from nI_rng (n := 10) hv (by decide)), if_neg i10, h.eA, h.eB]
    by_cases hp : T.1 = 0
    · rw [if_pos ((nI_0' (by omega)).mpr hp), if_pos ((nI_0' (by omega)).mpr hp)]
      exact OkI.same h.rel _
    · rw [if_neg (fun q => hp ((nI_0' (by omega)).mp q)), if_neg (fun q => hp ((nI_0' (by omega)).mp q)), r17_1, b2.2.1, m2.2.1]
      by_cases hq : nI (s_rep T ds).2.1 = nI v
      · rw [if_pos hq, if_pos hq]; exact OkI.same h.rel _
      · rw [if_neg hq, if_neg hq, m3]
        by_cases hl : ds.length < 40
        · rw [if_neg (fun q => (len40 h40).mp q hl)]
          obtain ⟨A', B1, e1, e2, e3, e4, e5⟩ := deedN hN h (bl_stroke (show v ≤ 9 by omega)) hl
          rw [show fX4_perform N 4 (nI v) A = some (s_ans T (s_rep T ds) (4, (v : Int)), A') from e1, e2, cl_some, c2_some, r17_1, w17_1, e4.2.1]
          exact ⟨_, _, _, rfl, rfl, (e5 _ (ms_1 e4 _) (fun q hq => pI_ne hq) rfl).rel⟩
        · rw [if_pos ((len40 h40).mpr hl), perf_full b3 hl, c2_some]
          exact OkI.same h.rel _
  · rw [if_neg (show ¬ ((0 : Int32) ≤ x ∧ x ≤ 9) from g1), if_pos i00]
    by_cases q : x < 0
    · rw [if_pos q]; exact OkI.same h.rel _
    · rw [if_neg q, if_neg (show ¬ x < (10 : Int32) from Int32.not_lt.mpr (g2.resolve_left q))]; exact OkI.same h.rel _
