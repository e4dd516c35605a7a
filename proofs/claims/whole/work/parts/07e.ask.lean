/-! What both ask first; trying -/
theorem lt0n {x : Int32} {n : Nat} (hn : n < 2 ^ 31) (h : x < 0 ∨ nI n ≤ x) : ¬ (0 ≤ x.toInt ∧ x.toInt < n) := by
  have z0 : (0 : Int32).toInt = 0 := by decide
  rcases h with h | h
  · rw [i32lt] at h; omega
  · rw [i32le, nI_toInt hn] at h; omega
theorem pipe_q {A B : bw_M} {p : Nat} (hp : p ≤ 6) (eA : A.1 16 0 = nI p) (eB : B.1 0 9 = nI p) (x : Int32) : (∃ i, i < p ∧ x = nI i ∧ fX3_hasPipe 16 x A = some 1 ∧ fX5_isPipe x B = some 1) ∨ (fX3_hasPipe 16 x A = some 0 ∧ fX5_isPipe x B = some 0) := by
  have e0 : (0 : Int64) = Int32.toInt64 0 := by decide
  have z0 : (0 : Int32).toInt = 0 := by decide
  unfold fX3_hasPipe fX3_hasPipe_16 fX3_hasPipe_17 fX5_isPipe
  rw [eA, eB, in_I x 0 (nI p - 1) e0 rfl, cl_some, isb_0, isb_1, ck_true, ck_true]
  rcases ix3 x (n := p) (by omega) with ⟨i, hi, rfl⟩ | g
  · left
    refine ⟨i, hi, rfl, ?_, ?_⟩
    · rw [if_neg (nI_pos (by omega)), if_neg (nI_ge hi (by omega))]
    · rw [show nI p - 1 = nI (p - 1) from pk_sub (b := 1) (by omega), if_pos ⟨nI_pos' (by omega), nI_le (by omega) (by omega)⟩, isb_1, ck_true]
  · right
    constructor
    · by_cases q : x < 0
      · rw [if_pos q]
      · rw [if_neg q, if_pos (g.resolve_left q)]
    · have : ¬ (0 ≤ x ∧ x ≤ nI p - 1) := by
        intro q
        have q1 := (i32le _ _).mp q.1
        have q2 := (i32le _ _).mp q.2
        have es : (nI p - 1).toInt = (p : Int) - 1 := by
          have := pk_sub_toInt (a := p) (b := 1) (by omega) (by decide)
          exact this
        exact lt0n (by omega) g ⟨by omega, by omega⟩
      rw [if_neg this, isb_0, ck_true]
theorem pipe_cases {A B : bw_M} {T : Tw} {ds : List Dd} {ks : Nat → Option (List Dd)} (h : Rl A B T ds ks) (x : Int32) : (∃ i, i < T.1 ∧ x = nI i ∧ fX3_hasPipe 16 x A = some 1 ∧ fX5_isPipe x B = some 1) ∨ (fX3_hasPipe 16 x A = some 0 ∧ fX5_isPipe x B = some 0) :=
  pipe_q h.2.2.2.1.1 h.2.2.2.2.1.1.1 h.2.2.2.2.2.2.1.1.1 x
/-- bits of ints -/
def bt (x : Int32) (i : Nat) : Bool := x.toBitVec.getLsbD i
theorem and_not {x m : Int32} (h : x &&& (m ^^^ (-1)) = 0) : x = x &&& m := by
  apply Int32.toBitVec_inj.mp
  have h1 := congrArg Int32.toBitVec h
  simp only [Int32.toBitVec_and, Int32.toBitVec_xor] at h1 ⊢
  have em : (-1 : Int32).toBitVec = BitVec.allOnes 32 := by decide
  rw [em] at h1
  apply BitVec.eq_of_getLsbD_eq
  intro i hi
  have h2 := congrArg (fun b => b.getLsbD i) h1
  simp only [BitVec.getLsbD_and, BitVec.getLsbD_xor, BitVec.getLsbD_allOnes] at h2 ⊢
  have h3 : (0 : Int32).toBitVec.getLsbD i = false := by simp
  rw [h3] at h2
  simp only [hi, decide_true] at h2
  cases hx : x.toBitVec.getLsbD i <;> cases hm : m.toBitVec.getLsbD i <;> simp_all
theorem msk : ∀ p, p ≤ 6 → (nI (2 ^ p - 1)).toBitVec.toNat = 2 ^ p - 1 := by decide +kernel
theorem sub0 : ∀ p, p ≤ 6 → ∀ s, s < 64 → s < 2 ^ p → nI s &&& (nI (2 ^ p - 1) ^^^ (-1)) = 0 := by decide +kernel
theorem all_eq {A : bw_M} {c p : Nat} (hp : p ≤ 6) (e : A.1 c 0 = nI p) : fX3_allPipes c A = some (nI (2 ^ p - 1)) := by
  unfold fX3_allPipes
  rw [e, shlI p hp, show (1 : Int32) = nI 1 from rfl, pk_sub Nat.one_le_two_pow]
theorem pw6 {p : Nat} (hp : p ≤ 6) : 1 ≤ 2 ^ p ∧ 2 ^ p ≤ 64 := ⟨Nat.one_le_two_pow, Nat.pow_le_pow_right (by decide) hp⟩
theorem set_q {A B : bw_M} {p : Nat} (hp : p ≤ 6) (eA : A.1 16 0 = nI p) (eB : B.1 0 9 = nI p) (x : Int32) : (∃ s, s < 2 ^ p ∧ x = nI s ∧ fX3_isSet 16 x A = some 1 ∧ fX5_arePipes x B = some 1) ∨ (fX3_isSet 16 x A = some 0 ∧ fX5_arePipes x B = some 0) := by
  obtain ⟨w1, w2⟩ := pw6 hp
  have e0 : (0 : Int64) = Int32.toInt64 0 := by decide
  unfold fX3_isSet fX3_isSet_16 fX5_arePipes
  rw [all_eq hp eA, cl_some, eB, shlI p hp, show nI (2 ^ p) - 1 = nI (2 ^ p - 1) from pk_sub (b := 1) w1, in_I x 0 (nI (2 ^ p - 1)) e0 rfl, cl_some, isb_0, isb_1, ck_true, ck_true]
  rcases ix3 x (n := 2 ^ p) (by omega) with ⟨s, hs, rfl⟩ | g
  · left
    refine ⟨s, hs, rfl, ?_, ?_⟩
    · rw [if_pos (sub0 p hp s (by omega) hs)]
    · rw [if_pos ⟨nI_pos' (by omega), nI_le (by omega) (by omega)⟩, isb_1, ck_true]
  · right
    have hno : ¬ ∃ s, s < 2 ^ p ∧ x = nI s := by
      rintro ⟨s, hs, rfl⟩
      exact lt0n (by omega) g (by rw [nI_toInt (by omega)]; omega)
    constructor
    · rw [if_neg]
      intro q
      apply hno
      refine ⟨x.toBitVec.toNat % 2 ^ p, Nat.mod_lt _ (by omega), ?_⟩
      rw [← pk_and x p (msk p hp)]
      exact and_not q
    · rw [if_neg, isb_0, ck_true]
      intro q
      obtain ⟨j, hj, e⟩ := nI_of2 (M := nI (2 ^ p - 1)) (n := 2 ^ p - 1) (nI_toInt (by omega)) (Int32.not_lt.mpr q.1) q.2
      exact hno ⟨j, by omega, e⟩
/-- the trial changed -/
theorem kpC_22 {A : bw_M} {f : Nat} {v : Int32} : kpC A (bw_pI A 22 f v) := ⟨fun q _ a _ => pI_ne (by omega), rfl⟩
theorem kpM_10 {B : bw_M} {f : Nat} {v : Int32} : kpM B (bw_pI B 10 f v) := ⟨fun q _ a _ => pI_ne a, fun f _ => by rw [pI_ne (by decide)], rfl⟩
theorem tr_air {A B : bw_M} {T : Tw} {S : Sd} (h : Tr A B T S) (v : Nat) : Tr (bw_pI A 22 3 (nI v)) (bw_pI B 10 0 (nI v)) T (v, S.2) := by
  obtain ⟨⟨a1, a2, a3, a4⟩, ⟨b1, b2, b3, b4, b5, b6⟩, h3, ⟨c1, c2, c3, c4, c5, c6⟩⟩ := h
  simp only [Nat.zero_add] at c1 c2 c3 c4 c5 c6
  refine ⟨⟨by rw [pI_n (by decide)]; exact a1, by rw [pI_n (by decide)]; exact a2, by rw [pI_n (by decide)]; exact a3, fun i hi => by rw [pI_ne (by decide), pI_ne (by decide), pI_ne (by decide)]; exact a4 i hi⟩, ⟨pI_s, by rw [pI_n (by decide)]; exact b2, by rw [pI_n (by decide)]; exact b3, by rw [pI_n (by decide)]; exact b4, by rw [pI_n (by decide)]; exact b5, fun i hi => by rw [pI_ne (by decide), pI_ne (by decide)]; exact b6 i hi⟩, h3.of (by rw [pI_ne (by decide)]) (fun q _ _ => pI_ne (by omega)), ?_⟩
  unfold m_st
  simp only [Nat.zero_add]
  exact ⟨pI_s, by rw [pI_n (by decide)]; exact c2, by rw [pI_n (by decide)]; exact c3, by rw [pI_n (by decide)]; exact c4, by rw [pI_n (by decide)]; exact c5, fun i hi => by rw [pI_n (by omega), pI_n (by omega)]; exact c6 i hi⟩
theorem tr_stroke {A B : bw_M} {T : Tw} {S : Sd} (h : Tr A B T S) (v : Nat) : Tr (bw_pI A 22 4 (nI v)) (bw_pI B 10 1 (nI v)) T (S.1, v, S.2.2) := by
  obtain ⟨⟨a1, a2, a3, a4⟩, ⟨b1, b2, b3, b4, b5, b6⟩, h3, ⟨c1, c2, c3, c4, c5, c6⟩⟩ := h
  simp only [Nat.zero_add] at c1 c2 c3 c4 c5 c6
  refine ⟨⟨by rw [pI_n (by decide)]; exact a1, by rw [pI_n (by decide)]; exact a2, by rw [pI_n (by decide)]; exact a3, fun i hi => by rw [pI_ne (by decide), pI_ne (by decide), pI_ne (by decide)]; exact a4 i hi⟩, ⟨by rw [pI_n (by decide)]; exact b1, pI_s, by rw [pI_n (by decide)]; exact b3, by rw [pI_n (by decide)]; exact b4, by rw [pI_n (by decide)]; exact b5, fun i hi => by rw [pI_ne (by decide), pI_ne (by decide)]; exact b6 i hi⟩, h3.of (by rw [pI_ne (by decide)]) (fun q _ _ => pI_ne (by omega)), ?_⟩
  unfold m_st
  simp only [Nat.zero_add]
  exact ⟨by rw [pI_n (by decide)]; exact c1, pI_s, by rw [pI_n (by decide)]; exact c3, by rw [pI_n (by decide)]; exact c4, by rw [pI_n (by decide)]; exact c5, fun i hi => by rw [pI_n (by omega), pI_n (by omega)]; exact c6 i hi⟩
theorem tr_cut {A B : bw_M} {T : Tw} {S : Sd} (h : Tr A B T S) (v : Nat) : Tr (bw_pI A 22 6 (nI v)) (bw_pI B 10 3 (nI v)) T (S.1, S.2.1, S.2.2.1, v, S.2.2.2.2) := by
  obtain ⟨⟨a1, a2, a3, a4⟩, ⟨b1, b2, b3, b4, b5, b6⟩, h3, ⟨c1, c2, c3, c4, c5, c6⟩⟩ := h
  simp only [Nat.zero_add] at c1 c2 c3 c4 c5 c6
  refine ⟨⟨by rw [pI_n (by decide)]; exact a1, by rw [pI_n (by decide)]; exact a2, by rw [pI_n (by decide)]; exact a3, fun i hi => by rw [pI_ne (by decide), pI_ne (by decide), pI_ne (by decide)]; exact a4 i hi⟩, ⟨by rw [pI_n (by decide)]; exact b1, by rw [pI_n (by decide)]; exact b2, by rw [pI_n (by decide)]; exact b3, pI_s, by rw [pI_n (by decide)]; exact b5, fun i hi => by rw [pI_ne (by decide), pI_ne (by decide)]; exact b6 i hi⟩, h3.of (by rw [pI_ne (by decide)]) (fun q _ _ => pI_ne (by omega)), ?_⟩
  unfold m_st
  simp only [Nat.zero_add]
  exact ⟨by rw [pI_n (by decide)]; exact c1, by rw [pI_n (by decide)]; exact c2, by rw [pI_n (by decide)]; exact c3, pI_s, by rw [pI_n (by decide)]; exact c5, fun i hi => by rw [pI_n (by omega), pI_n (by omega)]; exact c6 i hi⟩
theorem tr_leak {A B : bw_M} {T : Tw} {S : Sd} (h : Tr A B T S) (v : Nat) : Tr (bw_pI A 22 7 (nI v)) (bw_pI B 10 4 (nI v)) T (S.1, S.2.1, S.2.2.1, S.2.2.2.1, v, S.2.2.2.2.2) := by
  obtain ⟨⟨a1, a2, a3, a4⟩, ⟨b1, b2, b3, b4, b5, b6⟩, h3, ⟨c1, c2, c3, c4, c5, c6⟩⟩ := h
  simp only [Nat.zero_add] at c1 c2 c3 c4 c5 c6
  refine ⟨⟨by rw [pI_n (by decide)]; exact a1, by rw [pI_n (by decide)]; exact a2, by rw [pI_n (by decide)]; exact a3, fun i hi => by rw [pI_ne (by decide), pI_ne (by decide), pI_ne (by decide)]; exact a4 i hi⟩, ⟨by rw [pI_n (by decide)]; exact b1, by rw [pI_n (by decide)]; exact b2, by rw [pI_n (by decide)]; exact b3, by rw [pI_n (by decide)]; exact b4, pI_s, fun i hi => by rw [pI_ne (by decide), pI_ne (by decide)]; exact b6 i hi⟩, h3.of (by rw [pI_ne (by decide)]) (fun q _ _ => pI_ne (by omega)), ?_⟩
  unfold m_st
  simp only [Nat.zero_add]
  exact ⟨by rw [pI_n (by decide)]; exact c1, by rw [pI_n (by decide)]; exact c2, by rw [pI_n (by decide)]; exact c3, by rw [pI_n (by decide)]; exact c4, pI_s, fun i hi => by rw [pI_n (by omega), pI_n (by omega)]; exact c6 i hi⟩
theorem Rl.sok {A B : bw_M} {T : Tw} {ds : List Dd} {ks : Nat → Option (List Dd)} (h : Rl A B T ds ks) : s_ok T.1 40 (s_rep T ds) := (rep_ok h.2.2.2.1 ds h.2.2.2.2.2.1).mono h.2.2.2.2.1.2.2.2.1
theorem Rl.p6 {A B : bw_M} {T : Tw} {ds : List Dd} {ks : Nat → Option (List Dd)} (h : Rl A B T ds ks) : T.1 ≤ 6 := h.2.2.2.1.1
theorem Rl.eA {A B : bw_M} {T : Tw} {ds : List Dd} {ks : Nat → Option (List Dd)} (h : Rl A B T ds ks) : A.1 16 0 = nI T.1 := h.2.2.2.2.1.1.1
theorem Rl.eB {A B : bw_M} {T : Tw} {ds : List Dd} {ks : Nat → Option (List Dd)} (h : Rl A B T ds ks) : B.1 0 9 = nI T.1 := h.2.2.2.2.2.2.1.1.1
/-- hours one behind the other -/
def s_it (T : Tw) (S : Sd) : Nat → Sd
  | 0 => S
  | k + 1 => s_blow T (s_it T S k)
theorem it_ok {T : Tw} {S : Sd} {B : Nat} (h : s_ok T.1 B S) : ∀ k, s_ok T.1 (B + k) (s_it T S k)
  | 0 => h
  | k + 1 => (s_hr_ok (it_ok h k)).2
theorem nI_0' {p : Nat} (hp : p < 2 ^ 31) : (nI p = (0 : Int32)) ↔ p = 0 := nI_eq (b := 0) hp (by decide)
theorem rng (x : Int32) (n : Nat) (hn : n < 2 ^ 31) : (∃ k, k ≤ n ∧ x = nI k) ∨ ¬ (0 ≤ x ∧ x ≤ nI n) := by
  by_cases h : 0 ≤ x ∧ x ≤ nI n
  · left
    exact nI_of2 (nI_toInt hn) (Int32.not_lt.mpr h.1) h.2
  · exact Or.inr h
theorem ok_air {N : Nat} (hN : 2000 ≤ N) {A B : bw_M} (h : Rel A B) (x : Int32) : OkI (fX4_air N x A) (fX5_air N x B) := by
  obtain ⟨T, ds, ks, h⟩ := h.rl
  unfold fX4_air fX4_air_10 fX5_air
  rw [in_I x 0 40 (by decide) (by decide), cl_some]
  rcases rng x 40 (by decide) with ⟨n, hn, rfl⟩ | hx
  · rw [if_neg (nI_pos (by omega)), if_pos (show nI n ≤ (40 : Int32) from nI_le (b := 40) hn (by decide)), if_pos (show (0 : Int32) ≤ nI n ∧ nI n ≤ 40 from ⟨nI_pos' (by omega), nI_le (b := 40) hn (by decide)⟩), if_neg i10, h.eA, h.eB]
    have hp6 := h.p6
    by_cases hp : T.1 = 0
    · rw [if_pos ((nI_0' (by omega)).mpr hp), if_pos ((nI_0' (by omega)).mpr hp)]
      exact OkI.same h.rel _
    · rw [if_neg (fun q => hp ((nI_0' (by omega)).mp q)), if_neg (fun q => hp ((nI_0' (by omega)).mp q))]
      obtain ⟨A1, B1, e1, e2, tr, k1, k2⟩ := tr_start hN h
      rw [e1, e2, cl_some, cl_some, mv_eq, mv_eq, mv_eq, mv_eq]
      unfold flX4_air_40 flX5_air_32
      refine lp_two (fun k s t => s.2.1 = nI k ∧ t.2.1 = nI k ∧ s.1 = t.1 ∧ kpC A s.2.2 ∧ kpM B t.2.2 ∧ Tr s.2.2 t.2.2 T (s_it T (s_rep T ds) k)) OkI n ?_ ?_ n N N 0 _ _ (by omega) (by omega) (by omega) ⟨rfl, rfl, rfl, k1, k2, tr⟩
      · intro k s t hk ⟨q1, q2, q3, q4, q5, q6⟩
        left
        obtain ⟨A2, B2, e3, e4, tr2, k3, k4⟩ := tr_blow hN (by omega) h.2.2.2.1 (it_ok h.sok k) q6
        refine ⟨(nI (s_who T (s_it T (s_rep T ds) k)), nI (k + 1), A2), (nI (s_who T (s_it T (s_rep T ds) k)), nI (k + 1), B2), ⟨rfl, rfl, rfl, q4.tr k3, q5.tr k4, tr2⟩, fun kk => ?_, fun kk => ?_⟩
        · show fX4_air_40 N (nI n) kk s.1 s.2.1 s.2.2 = _
          unfold fX4_air_40
          rw [q1, if_neg (nI_ge hk (by omega)), e3, c2_some, mv_eq, nI_1]
        · show fX5_air_32 N (nI n) kk t.1 t.2.1 t.2.2 = _
          unfold fX5_air_32
          rw [q2, if_neg (nI_ge hk (by omega)), e4, c2_some, mv_eq, nI_1]
      · intro s t ⟨q1, q2, q3, q4, q5, q6⟩
        refine ⟨some (s.2.2.1 22 3, bw_pI s.2.2 0 14 s.1), some (t.2.2.1 10 0, bw_pI t.2.2 0 4 t.1), ?_, fun kk => ?_, fun kk => ?_⟩
        · obtain ⟨-, ⟨g1, -⟩, -, ⟨g2, -⟩⟩ := q6
          rw [g1, g2, q3]
          exact ⟨_, _, _, rfl, rfl, ((h.kp q4 q5).told _).rel⟩
        · show fX4_air_40 N (nI n) kk s.1 s.2.1 s.2.2 = _
          unfold fX4_air_40 fX4_tell
          rw [q1, if_pos (nI_le (Nat.le_refl _) (by omega)), mv_eq, c2_some, pI_ne (by decide)]
        · show fX5_air_32 N (nI n) kk t.1 t.2.1 t.2.2 = _
          unfold fX5_air_32 fX5_answer
          rw [q2, if_pos (nI_le (Nat.le_refl _) (by omega)), r17_0, mv_eq, c2_some]
  · rw [if_neg (show ¬ ((0 : Int32) ≤ x ∧ x ≤ 40) from hx), if_pos i00]
    by_cases q : x < 0
    · rw [if_pos q]; exact OkI.same h.rel _
    · rw [if_neg q, if_neg (show ¬ x ≤ (40 : Int32) from fun q2 => hx ⟨Int32.not_lt.mp q, q2⟩)]; exact OkI.same h.rel _
