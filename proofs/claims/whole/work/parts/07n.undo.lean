/-! undo, keep, on -/
theorem c_restart {N : Nat} (hN : 2000 ≤ N) {A : bw_M} {c : Nat} {T : Tw} (h1 : c_tw A c T) : ∃ A', fX3_restart N c A = some A' ∧ c_tw A' c T ∧ c_st A' c (s_ini T) ∧ (∀ q, q ≠ c → q ≠ c + 4 → q ≠ c + 5 → A'.1 q = A.1 q) ∧ A'.2 = A.2 := by
  obtain ⟨g1, g2, g3, g4⟩ := h1
  unfold fX3_restart
  simp only [mv_eq]
  rw [g2, show (bw_pI A c 3 (nI T.2.2.2.2.1)).1 c 2 = nI T.2.2.2.2.2 by rw [pI_n (by decide)]; exact g3]
  generalize hM : bw_pI (bw_pI (bw_pI (bw_pI (bw_pI A c 3 (nI T.2.2.2.2.1)) c 4 (nI T.2.2.2.2.2)) c 5 0) c 6 0) c 7 0 = M
  have f0 : M.1 c 0 = nI T.1 ∧ M.1 c 1 = nI T.2.2.2.2.1 ∧ M.1 c 2 = nI T.2.2.2.2.2 ∧ M.1 c 3 = nI T.2.2.2.2.1 ∧ M.1 c 4 = nI T.2.2.2.2.2 ∧ M.1 c 5 = nI 0 ∧ M.1 c 6 = nI 0 ∧ M.1 c 7 = nI 0 := by
    subst hM
    refine ⟨?_, ?_, ?_, ?_, ?_, ?_, ?_, ?_⟩
    · rw [pI_n (by decide), pI_n (by decide), pI_n (by decide), pI_n (by decide), pI_n (by decide)]; exact g1
    · rw [pI_n (by decide), pI_n (by decide), pI_n (by decide), pI_n (by decide), pI_n (by decide)]; exact g2
    · rw [pI_n (by decide), pI_n (by decide), pI_n (by decide), pI_n (by decide), pI_n (by decide)]; exact g3
    · rw [pI_n (by decide), pI_n (by decide), pI_n (by decide), pI_n (by decide), pI_s]
    · rw [pI_n (by decide), pI_n (by decide), pI_n (by decide), pI_s]
    · rw [pI_n (by decide), pI_n (by decide), pI_s]; rfl
    · rw [pI_n (by decide), pI_s]; rfl
    · rw [pI_s]; rfl
  have f1 : ∀ q, q ≠ c → M.1 q = A.1 q := fun q hq => by subst hM; simp only [pI_ne hq]
  have f2 : M.2 = A.2 := by subst hM; rfl
  clear hM
  rw [fillI_eq (by decide) (by omega), cl_some, fillI_eq (by decide) (by omega), cl_some]
  obtain ⟨a0, a1, a2, a3, a4, a5, a6, a7⟩ := f0
  refine ⟨_, rfl, ⟨?_, ?_, ?_, fun i hi => ?_⟩, ⟨?_, ?_, ?_, ?_, ?_, fun i hi => ⟨?_, ?_⟩⟩, fun q x y z => ?_, f2⟩
  · rw [bw_pA_ne _ _ (by omega), bw_pA_ne _ _ (by omega)]; exact a0
  · rw [bw_pA_ne _ _ (by omega), bw_pA_ne _ _ (by omega)]; exact a1
  · rw [bw_pA_ne _ _ (by omega), bw_pA_ne _ _ (by omega)]; exact a2
  · rw [bw_pA_ne _ _ (by omega), bw_pA_ne _ _ (by omega), bw_pA_ne _ _ (by omega), bw_pA_ne _ _ (by omega), bw_pA_ne _ _ (by omega), bw_pA_ne _ _ (by omega), f1 _ (by omega), f1 _ (by omega), f1 _ (by omega)]; exact g4 i hi
  · rw [bw_pA_ne _ _ (by omega), bw_pA_ne _ _ (by omega)]; exact a3
  · rw [bw_pA_ne _ _ (by omega), bw_pA_ne _ _ (by omega)]; exact a4
  · rw [bw_pA_ne _ _ (by omega), bw_pA_ne _ _ (by omega)]; exact a5
  · rw [bw_pA_ne _ _ (by omega), bw_pA_ne _ _ (by omega)]; exact a6
  · rw [bw_pA_ne _ _ (by omega), bw_pA_ne _ _ (by omega)]; exact a7
  · rw [bw_pA_ne _ _ (by omega), bw_pA_self, flF_in (by omega)]; rfl
  · rw [bw_pA_self, flF_in (by omega)]; rfl
  · rw [bw_pA_ne _ _ z, bw_pA_ne _ _ y, f1 q x]
theorem take_s {ds : List Dd} {k : Nat} {d : Dd} (h : ds[k]? = some d) : ds.take (k + 1) = ds.take k ++ [d] := by
  rw [List.take_add_one, h]; rfl
theorem rep_s {T : Tw} {ds : List Dd} {k : Nat} {d : Dd} (h : ds[k]? = some d) : s_rep T (ds.take (k + 1)) = s_und T (s_rep T (ds.take k)) d := by
  rw [take_s h]
  unfold s_rep
  rw [List.foldl_append]
  rfl
theorem c_relive {N : Nat} (hN : 2000 ≤ N) {A : bw_M} {T : Tw} {ds : List Dd} (hT : t_ok T) (hds : ∀ d, d ∈ ds → d_ok T.1 d) (h1 : c_tw A 16 T) (h3 : c_ds A 28 ds) : ∃ A', fX3_relive N 16 28 A = some A' ∧ c_tw A' 16 T ∧ c_st A' 16 (s_rep T ds) ∧ (∀ q, q ≠ 16 → q ≠ 20 → q ≠ 21 → A'.1 q = A.1 q) ∧ A'.2 = A.2 := by
  obtain ⟨A1, e1, g1, g2, g3, g4⟩ := c_restart hN h1
  obtain ⟨d1, d2, d3⟩ := h3
  unfold fX3_relive flX3_relive_6
  rw [e1, cl_some, mv_eq]
  obtain ⟨s', k, hI, hk⟩ := lp_inv (body := fun kk w => fX3_relive_6 N 16 28 kk w.1 w.2) (fun k s => s.1 = nI k ∧ c_tw s.2 16 T ∧ c_st s.2 16 (s_rep T (ds.take k)) ∧ (∀ q, q ≠ 16 → q ≠ 20 → q ≠ 21 → s.2.1 q = A.1 q) ∧ s.2.2 = A.2) ds.length (fun k s hk hI => by
    obtain ⟨q1, q2, q3, q4, q5⟩ := hI
    have hg : ds[k]? = some ds[k] := List.getElem?_eq_getElem hk
    have hok : s_ok T.1 40 (s_rep T (ds.take k)) := (rep_ok hT (ds.take k) (fun d hd => hds d (List.mem_of_mem_take hd))).mono (by rw [List.length_take]; omega)
    obtain ⟨A2, e2, p1, p2, p3, p4⟩ := c_und hN (Bn := 40) (by decide) hT hok (hds ds[k] (List.getElem_mem hk)) q2 q3
    refine ⟨(nI (k + 1), A2), ⟨rfl, p1, by rw [rep_s hg]; exact p2, fun q x y z => by rw [p3 q x y z]; exact q4 q x y z, p4.trans q5⟩, fun kk => ?_⟩
    show fX3_relive_6 N 16 28 kk s.1 s.2 = _
    unfold fX3_relive_6
    rw [q1, q4 28 (by decide) (by decide) (by decide), d1, if_neg (nI_ge hk (by omega)), if_neg (show ¬ (40 : Int32) ≤ nI k from nI_ge (b := 40) (by omega) (by decide)), rd_ok (by omega) (by decide), rd_ok (by omega) (by decide), q4 _ (by decide) (by decide) (by decide), q4 _ (by decide) (by decide) (by decide), (d3 k _ hg).1, (d3 k _ hg).2, e2, c2_some, mv_eq, nI_1]) ds.length N 0 (0, A1) (by omega) (by omega) ⟨rfl, g1, g2, g3, g4⟩
  obtain ⟨q1, q2, q3, q4, q5⟩ := hI
  rw [List.take_length] at q3
  refine ⟨s'.2, ?_, q2, q3, q4, q5⟩
  rw [hk]
  unfold fX3_relive_6 fX3_relive_43
  rw [q1, q4 28 (by decide) (by decide) (by decide), d1, if_pos (nI_le (Nat.le_refl _) (by omega))]
/-- the town of another run of deeds -/
theorem Rl.re {A B A' B' : bw_M} {T : Tw} {ds es : List Dd} {ks : Nat → Option (List Dd)} (h : Rl A B T ds ks) (c : ∀ q, (q < 16 ∨ 21 < q) → (q < 28 ∨ 30 < q) → A'.1 q = A.1 q) (a2 : A'.2.1 = A.2.1) (m : ∀ q, q ≠ 0 → q ≠ 9 → q ≠ 11 → B'.1 q = B.1 q) (m0 : ∀ f, f ≠ 16 → B'.1 0 f = B.1 0 f) (s3 : B'.2.1 = B.2.1) (g1 : c_tw A' 16 T) (g2 : c_st A' 16 (s_rep T es)) (g3 : c_ds A' 28 es) (hes : ∀ d, d ∈ es → d_ok T.1 d) (s1 : m_st B' 9 0 (s_rep T es)) (s2 : B'.1 0 16 = nI es.length) (s4 : ∀ k, k < es.length → m_st B' 11 (17 * k) (s_rep T (es.take k))) : Rl A' B' T es ks := by
  obtain ⟨h1, h2, ⟨t1, t2, t3, t4, t5⟩, hT, ⟨b1, b2, b3⟩, hds, ⟨m1, m2, m3, m4⟩, hk⟩ := h
  refine ⟨h1.of (fun q _ _ => c q (by omega) (by omega)) (m 1 (by decide) (by decide) (by decide)) (m 2 (by decide) (by decide) (by decide)), h2.of (fun q _ _ => c q (by omega) (by omega)) (m 3 (by decide) (by decide) (by decide)) (m 4 (by decide) (by decide) (by decide)), ⟨?_, ?_, ?_, ?_, ?_⟩, hT, ⟨g1, g2, g3⟩, hes, ⟨m1.of (m0 9 (by decide)) (fun q _ _ => m q (by omega) (by omega) (by omega)), s1, s2, s4⟩, fun j hj => (hk j hj).of hj (fun q _ _ => c q (by omega) (by omega)) (m 12 (by decide) (by decide) (by decide))⟩
  · rw [c 0 (by omega) (by omega), m0 4 (by decide)]; exact t1
  · rw [a2, s3]; exact t2
  · rw [a2, s3]; exact t3
  · rw [c 0 (by omega) (by omega), m0 7 (by decide)]; exact t4
  · intro f hf
    rw [c 44 (by omega) (by omega), m 5 (by decide) (by decide) (by decide)]; exact t5 f hf
theorem ok_undo {N : Nat} (hN : 2000 ≤ N) {A B : bw_M} (h : Rel A B) (x : Int32) : OkI (fX4_undo N x A) (fX5_undo N x B) := by
  obtain ⟨T, ds, ks, h⟩ := h.rl
  have hp6 := h.p6
  obtain ⟨-, -, -, hT, ⟨b1, b2, b3⟩, hds, ⟨m1, m2, m3, m4⟩, hk⟩ := id h
  have h40 := b3.2.1
  unfold fX4_undo fX4_undo_15 fX5_undo fX5_undo_45
  rw [b3.1, m3, in_I x 0 (nI ds.length) (by decide) rfl, cl_some]
  rcases rng x ds.length (by omega) with ⟨n, hn, rfl⟩ | hx
  · rw [if_neg (nI_pos (by omega)), if_pos (nI_le hn (by omega)), if_pos (show (0 : Int32) ≤ nI n ∧ nI n ≤ nI ds.length from ⟨nI_pos' (by omega), nI_le hn (by omega)⟩), if_neg i10, mv_eq, mv_eq, mv_eq, pk_sub hn]
    have c3 : c_ds (bw_pI A 28 2 (nI n)) 28 (ds.take n) := by
      obtain ⟨d1, d2, d3⟩ := b3
      refine ⟨by rw [pI_s, List.length_take, Nat.min_eq_left hn], by rw [List.length_take]; omega, fun k d hk => ?_⟩
      rw [pI_ne (by decide), pI_ne (by decide)]
      rw [List.getElem?_take] at hk
      by_cases q : k < n
      · rw [if_pos q] at hk; exact d3 k d hk
      · rw [if_neg q] at hk; cases hk
    have hes : ∀ d, d ∈ ds.take n → d_ok T.1 d := fun d hd => hds d (List.mem_of_mem_take hd)
    obtain ⟨A1, e1, g1, g2, g3, g4⟩ := c_relive hN (A := bw_pI A 28 2 (nI n)) hT hes ⟨by rw [pI_ne (by decide)]; exact b1.1, by rw [pI_ne (by decide)]; exact b1.2.1, by rw [pI_ne (by decide)]; exact b1.2.2.1, fun i hi => by rw [pI_ne (by decide), pI_ne (by decide), pI_ne (by decide)]; exact b1.2.2.2 i hi⟩ c3
    rw [e1, cl_some]
    have cc : ∀ q, (q < 16 ∨ 21 < q) → (q < 28 ∨ 30 < q) → A1.1 q = A.1 q := fun q a b => by rw [g3 q (by omega) (by omega) (by omega), pI_ne (by omega)]
    have c3' : c_ds A1 28 (ds.take n) := c3.of (g3 _ (by decide) (by decide) (by decide)) (g3 _ (by decide) (by decide) (by decide)) (g3 _ (by decide) (by decide) (by decide))
    have hlen : (ds.take n).length = n := by rw [List.length_take, Nat.min_eq_left hn]
    have hm4 : ∀ k, k < n → m_st B 11 (17 * k) (s_rep T ((ds.take n).take k)) := fun k hk => by
      rw [List.take_take, Nat.min_eq_left (by omega)]; exact m4 k (by omega)
    by_cases hq : n = ds.length
    · rw [if_pos (show nI (ds.length - n) ≤ 0 from nI_le (b := 0) (by omega) (by decide))]
      have htk : ds.take n = ds := by rw [hq, List.take_length]
      refine ⟨_, _, _, rfl, rfl, ?_⟩
      refine Rl.rel (h.re cc (by rw [g4]; rfl) (fun q a _ _ => pI_ne a) (fun f hf => pI_n hf) rfl g1 g2 c3' hes ?_ (by rw [pI_s, hlen]) (fun k hk => (hm4 k (by omega)).of (pI_ne (by decide))))
      rw [htk]
      exact m2.of (pI_ne (by decide))
    · rw [if_neg (show ¬ nI (ds.length - n) ≤ 0 from nI_nle (by omega) (by omega)), show (17 : Int32) * nI n = nI (17 * n) from pk_mul 17 n, copies_eq (x := nI (17 * n)) (y := 0) (z := 17) (a := 17 * n) (b := 0) (m := 17) rfl rfl rfl (by decide) (by omega) (by decide) (by decide) (by decide) (by omega), cl_some]
      refine ⟨_, _, _, rfl, rfl, ?_⟩
      refine Rl.rel (h.re cc (by rw [g4]; rfl) (fun q a b _ => by rw [pI_ne a, bw_pA_ne _ _ b]) (fun f hf => by rw [pI_n hf, bw_pA_ne _ _ (by decide)]) rfl g1 g2 c3' hes ?_ (by rw [pI_s, hlen]) (fun k hk => (hm4 k (by omega)).of (by rw [pI_ne (by decide), bw_pA_ne _ _ (by decide)])))
      exact (m4 n (by omega)).at (fun i hi => by rw [pI_ne (by decide), bw_pA_self, pk_cpy_in (by omega) (by omega)]; exact congrArg _ (by omega))
  · rw [if_neg hx, if_pos i00]
    by_cases q : x < 0
    · rw [if_pos q]; exact OkI.same h.rel _
    · rw [if_neg q, if_neg (fun q2 => hx ⟨Int32.not_lt.mp q, q2⟩)]; exact OkI.same h.rel _
/-- deeds copied -/
theorem c_deeds {A : bw_M} {x0 x1 : Nat} {es : List Dd} (hd : x0 + 3 ≤ x1 ∨ x1 + 3 ≤ x0) (h : c_ds A x1 es) : ∃ A', fX0_become x0 x1 A = some A' ∧ c_ds A' x0 es ∧ (∀ q, (q < x0 ∨ x0 + 2 < q) → A'.1 q = A.1 q) ∧ A'.2 = A.2 := by
  obtain ⟨d1, d2, d3⟩ := h
  have hcp : ∀ (M : bw_M) (a b : Nat) (z : bw_M → Option bw_M), bw_cp M a 40 0 b 40 0 40 z = z (bw_pA M b (va_cpy (M.1 a) (M.1 b) 0 0 40)) := fun M a b z => by
    unfold bw_cp
    rw [if_pos (by decide)]
    rfl
  unfold fX0_become
  rw [mv_eq, hcp, hcp, d1]
  refine ⟨_, rfl, ⟨?_, d2, fun k d hk => ?_⟩, fun q hq => ?_, rfl⟩
  · rw [bw_pA_ne _ _ (by omega), bw_pA_ne _ _ (by omega), pI_s]
  · have hk2 : k < 40 := by have := (List.getElem?_eq_some_iff.mp hk).1; omega
    obtain ⟨u1, u2⟩ := d3 k d hk
    refine ⟨?_, ?_⟩
    · rw [bw_pA_ne _ _ (by omega), bw_pA_self, pk_cpy_in (by omega) (by omega), pI_ne (by omega), show 0 + (k - 0) = k by omega]; exact u1
    · rw [bw_pA_self, pk_cpy_in (by omega) (by omega), bw_pA_ne _ _ (by omega), pI_ne (by omega), show 0 + (k - 0) = k by omega]; exact u2
  · rw [bw_pA_ne _ _ (by omega), bw_pA_ne _ _ (by omega), pI_ne (by omega)]
theorem isKp_ok {j : Nat} (h : j < 3) : fX4_isKeepingPlace (nI j) = some 1 ∧ fX5_in (nI j).toInt64 0 2 = some 1 := by
  constructor
  · unfold fX4_isKeepingPlace fX4_isKeepingPlace_14
    rw [if_neg (nI_pos (by omega)), if_neg (show ¬ (3 : Int32) ≤ nI j from nI_ge (b := 3) h (by decide)), isb_1, ck_true]
  · rw [in_I _ 0 2 (by decide) (by decide), if_pos (show (0 : Int32) ≤ nI j ∧ nI j ≤ 2 from nI_rng (n := 3) h (by decide))]
theorem isKp_no {x : Int32} (h : ¬ (0 ≤ x ∧ x ≤ nI 2)) (h2 : x < 0 ∨ nI 3 ≤ x) : fX4_isKeepingPlace x = some 0 ∧ fX5_in x.toInt64 0 2 = some 0 := by
  constructor
  · unfold fX4_isKeepingPlace fX4_isKeepingPlace_13 fX4_isKeepingPlace_14
    rw [isb_0, ck_true]
    by_cases q : x < 0
    · rw [if_pos q]
    · rw [if_neg q, if_pos (show (3 : Int32) ≤ x from h2.resolve_left q)]
  · rw [in_I _ 0 2 (by decide) (by decide), if_neg (show ¬ ((0 : Int32) ≤ x ∧ x ≤ 2) from h)]
theorem ok_on {N : Nat} (hN : 2000 ≤ N) {A B : bw_M} (h : Rel A B) (x : Int32) : OkI (fX4_on N x A) (fX5_on N x B) := by
  obtain ⟨T, ds, ks, h⟩ := h.rl
  have hp6 := h.p6
  obtain ⟨-, -, -, hT, ⟨b1, b2, b3⟩, hds, ⟨m1, m2, m3, m4⟩, hk⟩ := id h
  unfold fX4_on fX5_on
  rcases ix_cases x (n := 3) (by decide) (by decide) with ⟨j, hj, rfl⟩ | ⟨g1, g2⟩
  · rw [(isKp_ok hj).1, (isKp_ok hj).2, cl_some, cl_some, if_neg i10, if_neg i10, ra_ok hj (by decide), ra_ok hj (by decide), show (698 : Int32) * nI j = nI (698 * j) from pk_mul 698 j, rd_ok (by omega) (by decide), rd_ok (by omega) (by decide)]
    have hkj := hk j hj
    cases ho : ks j with
    | none =>
      rw [ho] at hkj
      obtain ⟨k1, k2⟩ := hkj
      rw [k1, k2, if_pos rfl, if_neg (show ¬ (0 : Int32) ≤ -1 by decide)]
      obtain ⟨A', B', hR, e1, e2⟩ := fnd h.rel (j := 1) (by decide) (x := 1) rfl
      rw [e1, e2, c2_some, c2_some]
      exact OkI.same hR _
    | some es =>
      rw [ho] at hkj
      obtain ⟨k1, k2, k3, k4, k5⟩ := hkj
      have h40 := k1.2.1
      rw [k1.1, k3, if_neg (nI_m1 (by omega)), if_pos (nI_pos' (by omega)), mv_eq]
      obtain ⟨A1, e1, f1, f2, f3⟩ := c_deeds (x0 := 28) (x1 := 32 + 3 * j) (by omega) k1
      obtain ⟨A2, e2, p1, p2, p3, p4⟩ := c_relive hN (A := A1) hT k2 (b1.of (fun q _ _ => f2 q (by omega))) f1
      rw [e1, cl_some, e2, cl_some, p3 28 (by decide) (by decide) (by decide), f1.1, show nI (698 * j) + 1 = nI (698 * j + 1) from nI_1 _, copies_eq (x := nI (698 * j + 1)) (y := 0) (z := 17) (a := 698 * j + 1) (b := 0) (m := 17) rfl rfl rfl (by decide) (by omega) (by decide) (by decide) (by decide) (by omega), cl_some, show nI (698 * j + 1) + 17 = nI (698 * j + 1 + 17) from nI_add _ 17, copies_eq (x := nI (698 * j + 1 + 17)) (y := 0) (z := 680) (a := 698 * j + 1 + 17) (b := 0) (m := 680) rfl rfl rfl (by decide) (by omega) (by decide) (by decide) (by decide) (by omega), cl_some, bw_pA_ne _ _ (by decide), bw_pA_ne _ _ (by decide), pI_s]
      refine ⟨_, _, _, rfl, rfl, ?_⟩
      refine Rl.rel (h.re (fun q a b => by rw [p3 q (by omega) (by omega) (by omega), f2 q (by omega)]) (by rw [p4, f3]) (fun q a b c => by rw [bw_pA_ne _ _ c, bw_pA_ne _ _ b, pI_ne a]) (fun f hf => by rw [bw_pA_ne _ _ (by decide), bw_pA_ne _ _ (by decide), pI_n hf]) rfl p1 p2 (f1.of (p3 _ (by decide) (by decide) (by decide)) (p3 _ (by decide) (by decide) (by decide)) (p3 _ (by decide) (by decide) (by decide))) k2 ?_ ?_ ?_)
      · exact k4.at (fun i hi => by rw [bw_pA_ne _ _ (by decide), bw_pA_self, pk_cpy_in (by omega) (by omega), pI_ne (by decide)]; exact congrArg _ (by omega))
      · rw [bw_pA_ne _ _ (by decide), bw_pA_ne _ _ (by decide), pI_s]
      · intro k hk
        exact (k5 k hk).at (fun i hi => by rw [bw_pA_self, pk_cpy_in (by omega) (by omega), bw_pA_ne _ _ (by decide), pI_ne (by decide)]; exact congrArg _ (by omega))
  · rw [(isKp_no g1 g2).1, (isKp_no g1 g2).2, cl_some, cl_some, if_pos i00, if_pos i00]
    exact OkI.same h.rel _
theorem rl_kept.of2 {A A' B B' : bw_M} {T : Tw} {j : Nat} {o : Option (List Dd)} (h : rl_kept A B T j o) (h1 : ∀ q, 32 + 3 * j ≤ q → q ≤ 34 + 3 * j → A'.1 q = A.1 q) (h2 : ∀ i, i < 698 → B'.1 12 (698 * j + i) = B.1 12 (698 * j + i)) : rl_kept A' B' T j o := by
  have h0 := h2 0 (by decide)
  rw [Nat.add_zero] at h0
  cases o with
  | none =>
    unfold rl_kept at h ⊢
    rw [h1 (32 + 3 * j) (by omega) (by omega), h0]
    exact h
  | some es =>
    obtain ⟨a, b, c, d, e⟩ := h
    have h40 := a.2.1
    exact ⟨a.of (h1 _ (by omega) (by omega)) (h1 _ (by omega) (by omega)) (h1 _ (by omega) (by omega)), b, by rw [h0]; exact c, d.at (fun i hi => by rw [show 698 * j + 1 + i = 698 * j + (1 + i) by omega]; exact h2 _ (by omega)), fun k hk => (e k hk).at (fun i hi => by rw [show 698 * j + 18 + 17 * k + i = 698 * j + (18 + 17 * k + i) by omega]; exact h2 _ (by omega))⟩
theorem ok_keep {N : Nat} (hN : 2000 ≤ N) {A B : bw_M} (h : Rel A B) (x : Int32) : OkI (fX4_keep x A) (fX5_keep N x B) := by
  obtain ⟨T, ds, ks, h⟩ := h.rl
  have hp6 := h.p6
  obtain ⟨h1, h2, ⟨t1, t2, t3, t4, t5⟩, hT, ⟨b1, b2, b3⟩, hds, ⟨m1, m2, m3, m4⟩, hk⟩ := id h
  have h40 := b3.2.1
  unfold fX4_keep fX5_keep
  rcases ix_cases x (n := 3) (by decide) (by decide) with ⟨j, hj, rfl⟩ | ⟨g1, g2⟩
  · rw [(isKp_ok hj).1, (isKp_ok hj).2, cl_some, cl_some, if_neg i10, if_neg i10, h.eA, h.eB]
    by_cases hp : T.1 = 0
    · rw [if_pos ((nI_0' (by omega)).mpr hp), if_pos ((nI_0' (by omega)).mpr hp)]
      exact OkI.same h.rel _
    · obtain ⟨A1, e1, f1, f2, f3⟩ := c_deeds (x0 := 32 + 3 * j) (x1 := 28) (by omega) b3
      rw [if_neg (fun q => hp ((nI_0' (by omega)).mp q)), if_neg (fun q => hp ((nI_0' (by omega)).mp q)), ra_ok hj (by decide), e1, cl_some, f2 28 (by omega), b3.1, show (698 : Int32) * nI j = nI (698 * j) from pk_mul 698 j, wr_ok (by omega) (by decide), m3, show nI (698 * j) + 1 = nI (698 * j + 1) from nI_1 _, copies_eq (x := 0) (z := 17) (a := 0) (b := 698 * j + 1) (m := 17) rfl rfl rfl (by decide) (by decide) (by omega) (by decide) (by decide) (by omega), cl_some, show nI (698 * j + 1) + 17 = nI (698 * j + 1 + 17) from nI_add _ 17, copies_eq (x := 0) (z := 680) (a := 0) (b := 698 * j + 1 + 17) (m := 680) rfl rfl rfl (by decide) (by decide) (by omega) (by decide) (by decide) (by omega), cl_some, bw_pA_ne _ _ (by decide), bw_pA_ne _ _ (by decide), pI_ne (by decide), m3]
      refine ⟨_, _, _, rfl, rfl, ?_⟩
      generalize hB2 : bw_pA (bw_pA (bw_pI B 12 (698 * j) (nI ds.length)) 12 _) 12 _ = B2
      have n1 : ∀ q, q ≠ 12 → B2.1 q = B.1 q := fun q a => by subst hB2; rw [bw_pA_ne _ _ a, bw_pA_ne _ _ a, pI_ne a]
      have n2 : B2.2 = B.2 := by subst hB2; rfl
      have n3 : B2.1 12 (698 * j) = nI ds.length := by
        subst hB2
        rw [bw_pA_self, pk_cpy_out (by omega), bw_pA_self, pk_cpy_out (by omega), pI_s]
      have n4 : ∀ i, i < 17 → B2.1 12 (698 * j + 1 + i) = B.1 9 i := fun i hi => by
        subst hB2
        rw [bw_pA_self, pk_cpy_out (by omega), bw_pA_self, pk_cpy_in (by omega) (by omega), pI_ne (by decide)]
        exact congrArg _ (by omega)
      have n5 : ∀ i, i < 680 → B2.1 12 (698 * j + 18 + i) = B.1 11 i := fun i hi => by
        subst hB2
        rw [bw_pA_self, pk_cpy_in (by omega) (by omega), bw_pA_ne _ _ (by decide), pI_ne (by decide)]
        exact congrArg _ (by omega)
      have n6 : ∀ i, (i < 698 * j ∨ 698 * j + 698 ≤ i) → B2.1 12 i = B.1 12 i := fun i hi => by
        subst hB2
        rw [bw_pA_self, pk_cpy_out (by omega), bw_pA_self, pk_cpy_out (by omega), pI_n (by omega)]
      clear hB2
      have c : ∀ q, (q < 32 ∨ 40 < q) → A1.1 q = A.1 q := fun q hq => f2 q (by omega)
      refine ⟨h1.of (fun q _ _ => c q (by omega)) (n1 1 (by decide)) (n1 2 (by decide)), h2.of (fun q _ _ => c q (by omega)) (n1 3 (by decide)) (n1 4 (by decide)), ⟨?_, ?_, ?_, ?_, ?_⟩, T, ds, (fun i => if i = j then some ds else ks i), hT, ⟨b1.of (fun q _ _ => c q (by omega)), b2.of (c _ (by omega)) (c _ (by omega)) (c _ (by omega)), b3.of (c _ (by omega)) (c _ (by omega)) (c _ (by omega))⟩, hds, ⟨m1.of (by rw [n1 0 (by decide)]) (fun q _ _ => n1 q (by omega)), m2.of (n1 9 (by decide)), by rw [n1 0 (by decide)]; exact m3, fun k hk => (m4 k hk).of (n1 11 (by decide))⟩, fun i hi => ?_⟩
      · rw [c 0 (by omega), n1 0 (by decide)]; exact t1
      · rw [f3, n2]; exact t2
      · rw [f3, n2]; exact t3
      · rw [c 0 (by omega), n1 0 (by decide)]; exact t4
      · intro f hf
        rw [c 44 (by omega), n1 5 (by decide)]; exact t5 f hf
      · by_cases e : i = j
        · subst e
          show rl_kept A1 B2 T i (if i = i then some ds else ks i)
          rw [if_pos rfl]
          exact ⟨f1, hds, n3, m2.at (fun k hk => by rw [n4 k hk, Nat.zero_add]), fun k hk => (m4 k hk).at (fun k' hk' => by rw [Nat.add_assoc, n5 _ (by omega)])⟩
        · show rl_kept A1 B2 T i (if i = j then some ds else ks i)
          rw [if_neg e]
          exact (hk i hi).of2 (fun q a b => f2 q (by omega)) (fun k hk => n6 _ (by omega))
  · rw [(isKp_no g1 g2).1, (isKp_no g1 g2).2, cl_some, cl_some, if_pos i00, if_pos i00]
    exact OkI.same h.rel _
