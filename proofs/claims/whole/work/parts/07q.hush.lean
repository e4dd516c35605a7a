/-! hush -/
def s_cb (s : Nat) : Nat → Nat
  | 0 => 0
  | j + 1 => s_cb s j + (if s.testBit j = true then 1 else 0)
def s_cn (s : Nat) : Nat := s_cb s 6
theorem cn_C : ∀ s, s < 64 → fJ6_bitCount_0f7a4 (nI s) = some (nI (s_cn s)) := by decide +kernel
theorem cn_cl : ∀ s, s < 64 → 0 < s → nI s &&& (nI s - 1) = nI (s &&& (s - 1)) ∧ s &&& (s - 1) < 64 ∧ s_cn s = s_cn (s &&& (s - 1)) + 1 := by decide +kernel
theorem cn_0 : s_cn 0 = 0 := by decide
theorem cn_6 : ∀ s, s < 64 → s_cn s ≤ 6 := by decide +kernel
theorem cn_M {N : Nat} (hN : 2000 ≤ N) {s : Nat} (hs : s < 64) : fX5_bits N (nI s) = some (nI (s_cn s)) := by
  have key : ∀ (c fu a s : Nat), s < 64 → s_cn s = c → c < fu → bw_lp (fun kk w => fX5_bits_4 N (nI s) kk w.1 w.2) fu (nI a, nI s) = some (nI (a + c)) := by
    have gen : ∀ (c fu a s : Nat) (z : Int32), s < 64 → s_cn s = c → c < fu → bw_lp (fun kk w => fX5_bits_4 N z kk w.1 w.2) fu (nI a, nI s) = some (nI (a + c)) := by
      intro c
      induction c with
      | zero =>
        intro fu a s z hs hc hf
        have h0 : s = 0 := by
          by_cases q : s = 0
          · exact q
          · have := (cn_cl s hs (by omega)).2.2
            omega
        subst h0
        match fu, hf with
        | fu + 1, _ =>
          rw [bw_lp_s]
          show fX5_bits_4 N z _ (nI a) (nI 0) = _
          unfold fX5_bits_4
          rw [if_pos (show nI 0 = (0 : Int32) from rfl)]; rfl
      | succ c ih =>
        intro fu a s z hs hc hf
        have h0 : 0 < s := by
          by_cases q : s = 0
          · rw [q, cn_0] at hc; omega
          · omega
        obtain ⟨e1, e2, e3⟩ := cn_cl s hs h0
        match fu, hf with
        | fu + 1, hf =>
          have st : ∀ kk, fX5_bits_4 N z kk (nI a) (nI s) = kk (nI (a + 1), nI (s &&& (s - 1))) := fun kk => by
            unfold fX5_bits_4
            rw [if_neg (nI_ne0 h0 (by omega)), mv_eq, mv_eq, nI_1, e1]
          rw [bw_lp_s]
          show fX5_bits_4 N z _ (nI a) (nI s) = _
          rw [st, ih fu (a + 1) _ z e2 (by omega) (by omega), show a + 1 + c = a + (c + 1) by omega]
    exact fun c fu a s h1 h2 h3 => gen c fu a s _ h1 h2 h3
  have h6 := cn_6 s hs
  unfold fX5_bits flX5_bits_4
  rw [mv_eq]
  have := key (s_cn s) N 0 s hs rfl (by omega)
  rw [Nat.zero_add] at this
  exact this
theorem othI : ∀ p, p ≤ 6 → ∀ c, c < 2 ^ p → ∀ i, i < p → (nI (2 ^ p - 1) &&& (nI c ^^^ (-1))) &&& ((1 : Int32) <<< (nI i &&& 31) ^^^ (-1)) = nI ((2 ^ p - 1) ^^^ (c ||| 2 ^ i)) := by decide +kernel
theorem subI : ∀ s, s < 64 → ∀ o, o < 64 → (nI s &&& (nI o ^^^ (-1)) = 0 ↔ s &&& o = s) := by decide +kernel
theorem disI : ∀ s, s < 64 → ∀ o, o < 64 → (nI s &&& nI o = 0 ↔ s &&& o = 0) := by decide +kernel
theorem orN : ∀ s, s < 64 → ∀ o, o < 64 → nI s ||| nI o = nI (s ||| o) := by decide +kernel
theorem cmpl {p s d : Nat} (hs : s < 2 ^ p) : (s &&& d = 0) ↔ s &&& ((2 ^ p - 1) ^^^ d) = s := by
  constructor
  · intro h
    apply Nat.eq_of_testBit_eq
    intro j
    have hj := congrArg (fun z => z.testBit j) h
    simp only [Nat.testBit_and, Nat.zero_testBit] at hj
    simp only [Nat.testBit_and, Nat.testBit_xor, Nat.testBit_two_pow_sub_one]
    by_cases q : j < p
    · simp only [q, decide_true]
      cases h1 : s.testBit j <;> cases h2 : d.testBit j <;> simp_all
    · rw [Nat.testBit_lt_two_pow (Nat.lt_of_lt_of_le hs (Nat.pow_le_pow_right (by decide) (by omega)))]
      rfl
  · intro h
    apply Nat.eq_of_testBit_eq
    intro j
    have hj := congrArg (fun z => z.testBit j) h
    simp only [Nat.testBit_and, Nat.testBit_xor, Nat.testBit_two_pow_sub_one] at hj
    simp only [Nat.testBit_and, Nat.zero_testBit]
    by_cases q : j < p
    · simp only [q, decide_true] at hj
      cases h1 : s.testBit j <;> cases h2 : d.testBit j <;> simp_all
    · rw [Nat.testBit_lt_two_pow (Nat.lt_of_lt_of_le hs (Nat.pow_le_pow_right (by decide) (by omega)))]
      rfl
/-- a set cut off for the trial, and it blown -/
theorem tr_try {N : Nat} (hN : 2000 ≤ N) {A B A0 B0 : bw_M} {T : Tw} {ds : List Dd} {ks : Nat → Option (List Dd)} (h : Rl A0 B0 T ds ks) (hA : Rl A B T ds ks) {v : Nat} (hv : v < 2 ^ T.1) : ∃ A' B' A1 B1, fX3_become N 22 16 A = some A1 ∧ fX5_layAside N B = some B1 ∧ B1.1 10 3 = nI (s_rep T ds).2.2.2.1 ∧ fX3_blow N 22 (bw_pI A1 22 6 (nI v)) = some (nI (s_who T ((s_rep T ds).1, (s_rep T ds).2.1, (s_rep T ds).2.2.1, v, (s_rep T ds).2.2.2.2)), A') ∧ fX5_goes N 10 17 (bw_pI B1 10 3 (nI v)) = some (nI (s_who T ((s_rep T ds).1, (s_rep T ds).2.1, (s_rep T ds).2.2.1, v, (s_rep T ds).2.2.2.2)), B') ∧ kqC A A' ∧ kqM B B' := by
  obtain ⟨A1, B1, e1, e2, tr, k1, k2⟩ := tr_start_q hN hA
  have hT := h.2.2.2.1
  have tr2 := tr_cut tr v
  obtain ⟨A2, B2, e3, e4, -, k3, k4⟩ := tr_blow_q hN (Bn := 40) (by decide) hT (cut_ok h.sok hv) tr2
  refine ⟨A2, B2, A1, B1, e1, e2, ?_, e3, e4, (k1.tr kqC_22).tr k3, (k2.tr kqM_10).tr k4⟩
  obtain ⟨-, -, -, c1, c2, c3, c4, c5, c6⟩ := tr
  exact c4
def s_sp (T : Tw) (S : Sd) (i k : Nat) : Bool := (s_who T (S.1, S.2.1, S.2.2.1, S.2.2.2.1 ||| k, S.2.2.2.2)).testBit i
def s_fr (k : Nat) : Option Nat → Bool
  | none => true
  | some s => decide (s_cn k < s_cn s)
/-- the best set to be cut off among the first ones -/
def s_hb (T : Tw) (S : Sd) (i : Nat) : Nat → Option Nat
  | 0 => none
  | k + 1 => if k &&& (S.2.2.2.1 ||| 2 ^ i) = 0 ∧ s_fr k (s_hb T S i k) = true ∧ s_sp T S i k = true then some k else s_hb T S i k
theorem hb_lt {T : Tw} {S : Sd} {i : Nat} : ∀ k s, s_hb T S i k = some s → s < k := by
  intro k
  induction k with
  | zero => intro s h; cases h
  | succ k ih =>
    intro s h
    unfold s_hb at h
    split at h
    · cases h; omega
    · have := ih s h; omega
def s_fw : Option Nat → Int32
  | none => -9
  | some s => nI (s_cn s)
def s_ls : Option Nat → Int32
  | none => -9
  | some s => nI s
theorem hb_ge {T : Tw} {S : Sd} {i o : Nat} : ∀ d k, (∀ j, k ≤ j → j < k + d → ¬ j &&& (S.2.2.2.1 ||| 2 ^ i) = 0) → s_hb T S i (k + d) = s_hb T S i k := by
  intro d
  induction d with
  | zero => intro k _; rfl
  | succ d ih =>
    intro k h
    show (if (k + d) &&& (S.2.2.2.1 ||| 2 ^ i) = 0 ∧ _ ∧ _ then _ else _) = _
    rw [if_neg (fun q => h (k + d) (by omega) (by omega) q.1)]
    exact ih k (fun j a b => h j a (by omega))
theorem ok_hush {N : Nat} (hN : 2000 ≤ N) {A B : bw_M} (h : Rel A B) (x : Int32) : OkI (fX4_hush N x A) (fX5_hush N x B) := by
  obtain ⟨T, ds, ks, h⟩ := h.rl
  have hp6 := h.p6
  obtain ⟨-, -, -, hT, ⟨b1, b2, b3⟩, hds, ⟨m1, m2, m3, m4⟩, hk⟩ := id h
  have hs := h.sok
  obtain ⟨w1, w2⟩ := pw6 hp6
  unfold fX4_hush fX5_hush
  rcases pipe_cases h x with ⟨i, hi, rfl, p1, p2⟩ | ⟨p1, p2⟩
  · rw [p1, p2, cl_some, cl_some, if_neg i10, if_neg i10, all_eq hp6 h.eA, cl_some, b2.2.2.2.1, othI _ hp6 _ hs.2.2.2.1 i hi]
    simp only [mv_eq]
    generalize hS : s_rep T ds = S at *
    have hc : S.2.2.2.1 < 2 ^ T.1 := hs.2.2.2.1
    have hc64 := p64 hp6 hc
    have hi2 : 2 ^ i < 2 ^ T.1 := Nat.pow_lt_pow_right (by decide) hi
    have hd : S.2.2.2.1 ||| 2 ^ i < 2 ^ T.1 := Nat.or_lt_two_pow hc hi2
    generalize hd' : S.2.2.2.1 ||| 2 ^ i = d at *
    have ho : (2 ^ T.1 - 1) ^^^ d < 2 ^ T.1 := Nat.xor_lt_two_pow (by omega) hd
    have hbg : ∀ j, ((2 ^ T.1 - 1) ^^^ d) < j → j < 2 ^ T.1 → ¬ j &&& d = 0 := fun j a b q => by
      have := (cmpl b).mp q
      have h2 := Nat.and_le_right (n := j) (m := (2 ^ T.1 - 1) ^^^ d)
      omega
    generalize hod : (2 ^ T.1 - 1) ^^^ d = o at *
    have dis : ∀ k, k < 2 ^ T.1 → ((nI k &&& (nI o ^^^ (-1)) = 0) ↔ k &&& d = 0) := fun k hk => by
      rw [subI k (p64 hp6 hk) o (p64 hp6 ho), cmpl hk, hod]
    have try1 : ∀ (A1 B1 : bw_M) (k : Nat), kqC A A1 → kqM B B1 → k < 2 ^ T.1 → ∃ A' B' A2 B2, fX3_become N 22 16 A1 = some A2 ∧ fX5_layAside N B1 = some B2 ∧ B2.1 10 3 = nI S.2.2.2.1 ∧ fX3_blow N 22 (bw_pI A2 22 6 (nI (S.2.2.2.1 ||| k))) = some (nI (s_who T (S.1, S.2.1, S.2.2.1, S.2.2.2.1 ||| k, S.2.2.2.2)), A') ∧ fX5_goes N 10 17 (bw_pI B2 10 3 (nI (S.2.2.2.1 ||| k))) = some (nI (s_who T (S.1, S.2.1, S.2.2.1, S.2.2.2.1 ||| k, S.2.2.2.2)), B') ∧ kqC A A' ∧ kqM B B' := fun A1 B1 k q1 q2 hk => by
      obtain ⟨A', B', A2, B2, e1, e2, e3, e4, e5, k1, k2⟩ := tr_try hN h (h.kp q1.kp q2.kp) (v := S.2.2.2.1 ||| k) (Nat.or_lt_two_pow hc hk)
      rw [hS] at e3 e4 e5
      exact ⟨A', B', A2, B2, e1, e2, e3, e4, e5, q1.tr k1, q2.tr k2⟩
    have who31 : ∀ k, k < 2 ^ T.1 → s_who T (S.1, S.2.1, S.2.2.1, S.2.2.2.1 ||| k, S.2.2.2.2) < 2 ^ 31 := fun k hk => p31 hp6 (s_hr_ok (cut_ok hs (Nat.or_lt_two_pow hc hk))).1
    -- the class
    have cls : ∃ A', kqC A A' ∧ flX4_hush_47 N (nI i) (nI o) N (-9, -9, 0, A) = if s_hb T S i (o + 1) = none then some (-9, A') else some (s_fw (s_hb T S i (o + 1)), bw_pI A' 0 14 (s_ls (s_hb T S i (o + 1)))) := by
      unfold flX4_hush_47
      obtain ⟨s', k', hI, hk'⟩ := lp_inv (body := fun kk w => fX4_hush_47 N (nI i) kk (nI o) w.1 w.2.1 w.2.2.1 w.2.2.2) (fun k s => s.1 = s_fw (s_hb T S i k) ∧ s.2.1 = s_ls (s_hb T S i k) ∧ s.2.2.1 = nI k ∧ kqC A s.2.2.2) (o + 1) (fun k s hk hI => by
        obtain ⟨q1, q2, q3, q4⟩ := hI
        have hk2 : k < 2 ^ T.1 := by omega
        have hk64 := p64 hp6 hk2
        obtain ⟨A', B', A2, B2, e1, e2, e3, e4, e5, k1, k2⟩ := try1 s.2.2.2 B k q4 (kqM.rf B) hk2
        have step0 : ∀ kk, fX4_hush_47 N (nI i) kk (nI o) s.1 s.2.1 s.2.2.1 s.2.2.2 = fX4_hush_77 N (nI i) kk (nI o) s.1 s.2.1 (nI k) (nI (s_cn k)) (bI (s_fr k (s_hb T S i k))) s.2.2.2 := fun kk => by
          unfold fX4_hush_47 fX4_hush_72
          rw [q3, if_neg (nI_nlt (by omega) (by omega)), cn_C k hk64, cl_some, q1]
          have hck := cn_6 k hk64
          cases hb : s_hb T S i k with
          | none => rw [if_pos (show s_fw none = (-9 : Int32) from rfl)]; rfl
          | some s0 =>
            have hs0 := hb_lt k s0 hb
            have hcs := cn_6 s0 (by omega)
            show (if nI (s_cn s0) = (-9 : Int32) then _ else _) = _
            rw [if_neg (nI_m9 (by omega))]
            by_cases q : s_cn k < s_cn s0
            · rw [if_neg (show ¬ s_fw (some s0) ≤ nI (s_cn k) from nI_ge q (by omega)), show s_fr k (some s0) = true from decide_eq_true q]; rfl
            · rw [if_pos (show s_fw (some s0) ≤ nI (s_cn k) from nI_le (by omega) (by omega)), show s_fr k (some s0) = false from decide_eq_false q]; rfl
        by_cases c1 : k &&& d = 0
        · by_cases c2 : s_fr k (s_hb T S i k) = true
          · have hsp : s_sp T S i k = (s_who T (S.1, S.2.1, S.2.2.1, S.2.2.2.1 ||| k, S.2.2.2.2)).testBit i := rfl
            have step1 : ∀ kk, fX4_hush_47 N (nI i) kk (nI o) s.1 s.2.1 s.2.2.1 s.2.2.2 = if bI (s_sp T S i k) = 0 then kk (s.1, s.2.1, nI (k + 1), A') else kk (nI (s_cn k), nI k, nI (k + 1), A') := fun kk => by
              rw [step0, c2]
              unfold fX4_hush_77 fX4_hush_121 fX4_spokenIfCut
              rw [if_pos ((dis k hk2).mpr c1), if_neg (show ¬ bI true = 0 by decide), e1, cl_some, q4.1 16 (by decide), b2.2.2.2.1, orN _ hc64 k hk64, mv_eq, e4, c2_some, c2_some, isIn_eq (who31 k hk2) (by omega), cl_some, mv_eq, nI_1, hsp, mv_eq]
            by_cases c3 : s_sp T S i k = true
            · have hb1 : s_hb T S i (k + 1) = some k := by
                show (if k &&& (S.2.2.2.1 ||| 2 ^ i) = 0 ∧ _ ∧ _ then _ else _) = _
                rw [if_pos ⟨by rw [hd']; exact c1, c2, c3⟩]
              refine ⟨(nI (s_cn k), nI k, nI (k + 1), A'), ⟨by rw [hb1]; rfl, by rw [hb1]; rfl, rfl, k1⟩, fun kk => ?_⟩
              show fX4_hush_47 N (nI i) kk (nI o) s.1 s.2.1 s.2.2.1 s.2.2.2 = _
              rw [step1, c3, if_neg (show ¬ bI true = 0 by decide)]
            · have hb1 : s_hb T S i (k + 1) = s_hb T S i k := by
                show (if k &&& (S.2.2.2.1 ||| 2 ^ i) = 0 ∧ _ ∧ _ then _ else _) = _
                rw [if_neg (fun q => c3 q.2.2)]
              refine ⟨(s.1, s.2.1, nI (k + 1), A'), ⟨by rw [hb1]; exact q1, by rw [hb1]; exact q2, rfl, k1⟩, fun kk => ?_⟩
              show fX4_hush_47 N (nI i) kk (nI o) s.1 s.2.1 s.2.2.1 s.2.2.2 = _
              rw [step1, show s_sp T S i k = false by simpa using c3, if_pos bI_f]
          · have hb1 : s_hb T S i (k + 1) = s_hb T S i k := by
              show (if k &&& (S.2.2.2.1 ||| 2 ^ i) = 0 ∧ _ ∧ _ then _ else _) = _
              rw [if_neg (fun q => c2 q.2.1)]
            refine ⟨(s.1, s.2.1, nI (k + 1), s.2.2.2), ⟨by rw [hb1]; exact q1, by rw [hb1]; exact q2, rfl, q4⟩, fun kk => ?_⟩
            show fX4_hush_47 N (nI i) kk (nI o) s.1 s.2.1 s.2.2.1 s.2.2.2 = _
            rw [step0, show s_fr k (s_hb T S i k) = false by simpa using c2]
            unfold fX4_hush_77 fX4_hush_121
            rw [if_pos ((dis k hk2).mpr c1), if_pos bI_f, mv_eq, nI_1]
        · have hb1 : s_hb T S i (k + 1) = s_hb T S i k := by
            show (if k &&& (S.2.2.2.1 ||| 2 ^ i) = 0 ∧ _ ∧ _ then _ else _) = _
            rw [if_neg (fun q => c1 (by rw [← hd']; exact q.1))]
          refine ⟨(s.1, s.2.1, nI (k + 1), s.2.2.2), ⟨by rw [hb1]; exact q1, by rw [hb1]; exact q2, rfl, q4⟩, fun kk => ?_⟩
          show fX4_hush_47 N (nI i) kk (nI o) s.1 s.2.1 s.2.2.1 s.2.2.2 = _
          rw [step0]
          unfold fX4_hush_77 fX4_hush_121
          rw [if_neg (fun q => c1 ((dis k hk2).mp q)), mv_eq, nI_1]) (o + 1) N 0 (-9, -9, 0, A) (by omega) (by omega) ⟨rfl, rfl, rfl, kqC.rf A⟩
      obtain ⟨q1, q2, q3, q4⟩ := hI
      refine ⟨s'.2.2.2, q4, ?_⟩
      rw [hk']
      show fX4_hush_47 N (nI i) k' (nI o) s'.1 s'.2.1 s'.2.2.1 s'.2.2.2 = _
      unfold fX4_hush_47 fX4_hush_140 fX4_tell
      rw [q3, if_pos (nI_lt (by omega) (by omega)), q1, q2]
      cases hb : s_hb T S i (o + 1) with
      | none => rw [if_pos (show s_fw none = (-9 : Int32) from rfl), if_pos rfl]; rfl
      | some s0 =>
        have hs0 := hb_lt (o + 1) s0 hb
        have hcs := cn_6 s0 (by omega)
        rw [if_neg (show ¬ s_fw (some s0) = (-9 : Int32) from nI_m9 (by omega)), mv_eq, c2_some, if_neg (by intro q; cases q)]
    have mdl : ∃ B', kqM B B' ∧ flX5_hush_15 N (nI i) N (-9, 0, B) = if s_hb T S i (2 ^ T.1) = none then some (-9, B') else some (s_fw (s_hb T S i (2 ^ T.1)), bw_pI B' 0 4 (s_ls (s_hb T S i (2 ^ T.1)))) := by
      unfold flX5_hush_15
      obtain ⟨s', k', hI, hk'⟩ := lp_inv (body := fun kk w => fX5_hush_15 N (nI i) kk w.1 w.2.1 w.2.2) (fun k s => s.1 = s_ls (s_hb T S i k) ∧ s.2.1 = nI k ∧ kqM B s.2.2) (2 ^ T.1) (fun k s hk2 hI => by
        obtain ⟨q2, q3, q4⟩ := hI
        have hk64 := p64 hp6 hk2
        obtain ⟨A', B', A2, B2, e1, e2, e3, e4, e5, k1, k2⟩ := try1 A s.2.2 k (kqC.rf A) q4 hk2
        have hsp : s_sp T S i k = (s_who T (S.1, S.2.1, S.2.2.1, S.2.2.2.1 ||| k, S.2.2.2.2)).testBit i := rfl
        have stepT : ∀ kk, fX5_hush_57 N (nI i) kk s.1 (nI k) s.2.2 = if bI (s_sp T S i k) = 0 then kk (s.1, nI (k + 1), B') else kk (nI k, nI (k + 1), B') := fun kk => by
          unfold fX5_hush_57 fX5_hush_91 fX5_hush_92
          rw [e2, cl_some, r17_3, w17_3, e3, orN _ hc64 k hk64, e5, c2_some, has_eq (who31 k hk2) (by omega), cl_some, hsp, mv_eq, mv_eq, nI_1]
        have step0 : ∀ kk, fX5_hush_15 N (nI i) kk s.1 s.2.1 s.2.2 = if k &&& d = 0 then (if s_fr k (s_hb T S i k) = true then fX5_hush_57 N (nI i) kk s.1 (nI k) s.2.2 else kk (s.1, nI (k + 1), s.2.2)) else kk (s.1, nI (k + 1), s.2.2) := fun kk => by
          unfold fX5_hush_15 fX5_hush_92
          rw [q3, q4.1 0 (by decide), h.eB, shlI _ hp6, if_neg (nI_ge hk2 (by omega)), r17_3, q4.1 9 (by decide), show B.1 9 3 = nI S.2.2.2.1 from m2.2.2.2.1, orI _ hc64 i (by omega), hd', mv_eq, nI_1]
          by_cases c1 : k &&& d = 0
          · rw [if_pos ((disI k hk64 d (p64 hp6 hd)).mpr c1), if_pos c1, q2]
            cases hb : s_hb T S i k with
            | none => rw [if_pos (show s_ls none = (-9 : Int32) from rfl), if_pos (show s_fr k none = true from rfl)]
            | some s0 =>
              have hs0 := hb_lt k s0 hb
              have hcs := cn_6 s0 (by omega)
              have hck := cn_6 k hk64
              rw [if_neg (show ¬ s_ls (some s0) = (-9 : Int32) from nI_m9 (by omega)), cn_M hN hk64, cl_some, show fX5_bits N (s_ls (some s0)) = some (nI (s_cn s0)) from cn_M hN (by omega), cl_some]
              by_cases q : s_cn k < s_cn s0
              · rw [if_neg (nI_ge q (by omega)), if_pos (show s_fr k (some s0) = true from decide_eq_true q)]
              · rw [if_pos (nI_le (by omega) (by omega)), if_neg (show ¬ s_fr k (some s0) = true from fun e => q (of_decide_eq_true e))]
          · rw [if_neg (fun q => c1 ((disI k hk64 d (p64 hp6 hd)).mp q)), if_neg c1]
        by_cases c1 : k &&& d = 0
        · by_cases c2 : s_fr k (s_hb T S i k) = true
          · by_cases c3 : s_sp T S i k = true
            · have hb1 : s_hb T S i (k + 1) = some k := by
                show (if k &&& (S.2.2.2.1 ||| 2 ^ i) = 0 ∧ _ ∧ _ then _ else _) = _
                rw [if_pos ⟨by rw [hd']; exact c1, c2, c3⟩]
              refine ⟨(nI k, nI (k + 1), B'), ⟨by rw [hb1]; rfl, rfl, k2⟩, fun kk => ?_⟩
              show fX5_hush_15 N (nI i) kk s.1 s.2.1 s.2.2 = _
              rw [step0, if_pos c1, if_pos c2, stepT, c3, if_neg (show ¬ bI true = 0 by decide)]
            · have hb1 : s_hb T S i (k + 1) = s_hb T S i k := by
                show (if k &&& (S.2.2.2.1 ||| 2 ^ i) = 0 ∧ _ ∧ _ then _ else _) = _
                rw [if_neg (fun q => c3 q.2.2)]
              refine ⟨(s.1, nI (k + 1), B'), ⟨by rw [hb1]; exact q2, rfl, k2⟩, fun kk => ?_⟩
              show fX5_hush_15 N (nI i) kk s.1 s.2.1 s.2.2 = _
              rw [step0, if_pos c1, if_pos c2, stepT, show s_sp T S i k = false by simpa using c3, if_pos bI_f]
          · have hb1 : s_hb T S i (k + 1) = s_hb T S i k := by
              show (if k &&& (S.2.2.2.1 ||| 2 ^ i) = 0 ∧ _ ∧ _ then _ else _) = _
              rw [if_neg (fun q => c2 q.2.1)]
            refine ⟨(s.1, nI (k + 1), s.2.2), ⟨by rw [hb1]; exact q2, rfl, q4⟩, fun kk => ?_⟩
            show fX5_hush_15 N (nI i) kk s.1 s.2.1 s.2.2 = _
            rw [step0, if_pos c1, if_neg c2]
        · have hb1 : s_hb T S i (k + 1) = s_hb T S i k := by
            show (if k &&& (S.2.2.2.1 ||| 2 ^ i) = 0 ∧ _ ∧ _ then _ else _) = _
            rw [if_neg (fun q => c1 (by rw [← hd']; exact q.1))]
          refine ⟨(s.1, nI (k + 1), s.2.2), ⟨by rw [hb1]; exact q2, rfl, q4⟩, fun kk => ?_⟩
          show fX5_hush_15 N (nI i) kk s.1 s.2.1 s.2.2 = _
          rw [step0, if_neg c1]) (2 ^ T.1) N 0 (-9, 0, B) (by omega) (by omega) ⟨rfl, rfl, kqM.rf B⟩
      obtain ⟨q2, q3, q4⟩ := hI
      refine ⟨s'.2.2, q4, ?_⟩
      rw [hk']
      show fX5_hush_15 N (nI i) k' s'.1 s'.2.1 s'.2.2 = _
      unfold fX5_hush_15 fX5_hush_118 fX5_answer
      rw [q3, q4.1 0 (by decide), h.eB, shlI _ hp6, if_pos (nI_le (Nat.le_refl _) (by omega)), q2]
      cases hb : s_hb T S i (2 ^ T.1) with
      | none => rw [if_pos (show s_ls none = (-9 : Int32) from rfl), if_pos rfl]
      | some s0 =>
        have hs0 := hb_lt (2 ^ T.1) s0 hb
        rw [if_neg (show ¬ s_ls (some s0) = (-9 : Int32) from nI_m9 (by omega)), show fX5_bits N (s_ls (some s0)) = some (nI (s_cn s0)) from cn_M hN (by omega), cl_some, mv_eq, c2_some, if_neg (by intro q; cases q)]
        rfl
    have hbe : s_hb T S i (2 ^ T.1) = s_hb T S i (o + 1) := by
      have := hb_ge (T := T) (S := S) (i := i) (o := o) (2 ^ T.1 - (o + 1)) (o + 1) (fun j a b => by rw [hd']; exact hbg j (by omega) (by omega))
      rw [show o + 1 + (2 ^ T.1 - (o + 1)) = 2 ^ T.1 by omega] at this
      exact this
    obtain ⟨A', kA, eA⟩ := cls
    obtain ⟨B', kB, eB⟩ := mdl
    rw [eA, eB, hbe]
    have hR := h.kp kA.kp kB.kp
    by_cases hn : s_hb T S i (o + 1) = none
    · rw [if_pos hn, if_pos hn]; exact OkI.same hR.rel _
    · rw [if_neg hn, if_neg hn]; exact OkI.same (hR.told _).rel _
  · rw [p1, p2, cl_some, cl_some, if_pos i00, if_pos i00]
    exact OkI.same h.rel _
