/-! Reading -/
def rdC (A : bw_M) (t n i : Nat) : Prop := A.2.2 = some (10 + t) ∧ A.1 15 1 = nI n ∧ A.1 15 2 = nI i
def rdM (B : bw_M) (t n i : Nat) : Prop := B.1 0 20 = nI t ∧ B.1 0 19 = nI n ∧ B.1 0 18 = nI i
def krC (A A' : bw_M) : Prop := (∀ q, q ≠ 15 → (q < 22 ∨ 27 < q) → A'.1 q = A.1 q) ∧ A'.1 15 1 = A.1 15 1 ∧ A'.2 = A.2
def krM (B B' : bw_M) : Prop := (∀ q, q ≠ 0 → (q < 13 ∨ 15 < q) → B'.1 q = B.1 q) ∧ (∀ f, f < 18 ∨ f = 19 ∨ f = 20 → B'.1 0 f = B.1 0 f) ∧ B'.2 = B.2
theorem krC.rf (A : bw_M) : krC A A := ⟨fun _ _ _ => rfl, rfl, rfl⟩
theorem krM.rf (B : bw_M) : krM B B := ⟨fun _ _ _ => rfl, fun _ _ => rfl, rfl⟩
theorem krC.tr {A B C : bw_M} (h : krC A B) (g : krC B C) : krC A C := ⟨fun q a b => (g.1 q a b).trans (h.1 q a b), g.2.1.trans h.2.1, g.2.2.trans h.2.2⟩
theorem krM.tr {A B C : bw_M} (h : krM A B) (g : krM B C) : krM A C := ⟨fun q a b => (g.1 q a b).trans (h.1 q a b), fun f a => (g.2.1 f a).trans (h.2.1 f a), g.2.2.trans h.2.2⟩
theorem krC_p {A : bw_M} {v : Int32} : krC A (bw_pI A 15 2 v) := ⟨fun q a _ => pI_ne a, pI_n (by decide), rfl⟩
theorem krM_f {B : bw_M} {f : Nat} {v : Int32} (hf : 18 ≤ f) (h1 : f ≠ 19) (h2 : f ≠ 20) : krM B (bw_pI B 0 f v) := ⟨fun q a _ => pI_ne a, fun g hg => pI_n (by omega), rfl⟩
theorem krM_c {B : bw_M} {q f : Nat} {v : Int32} (h1 : 13 ≤ q) (h2 : q ≤ 15) : krM B (bw_pI B q f v) := ⟨fun q a b => pI_ne (by omega), fun g hg => by rw [pI_ne (by omega)], rfl⟩
theorem cr_some {τ : Type} (b : Nat) (x : Option τ) (k : Nat → Option τ) : bw_cr (some b) x k = k b := rfl
theorem sg_C {A : bw_M} {t n i0 i : Nat} (ht : t < 4) (hn : n ≤ 60) (h : rdC A t n i0) (hi : i < 2 ^ 20) : fX2_signAt (nI i) A = some (if i < n then A.1 (10 + t) i else 1000) := by
  obtain ⟨h1, h2, h3⟩ := h
  unfold fX2_signAt fX2_signAt_28
  rw [h1, cr_some, h2, show bw_isB (10 + t) = true from decide_eq_true ⟨by omega, by omega⟩, ck_true, if_neg (nI_pos (by omega))]
  by_cases q : i < n
  · rw [if_neg (nI_ge q (by omega)), cr_some, show bw_isB (10 + t) = true from decide_eq_true ⟨by omega, by omega⟩, ck_true, if_pos (show nI i < Int32.ofNat 60 from nI_lt (b := 60) (by omega) (by decide)), cr_some, show bw_isB (10 + t) = true from decide_eq_true ⟨by omega, by omega⟩, ck_true, rd_ok (by omega) (by decide), if_pos q]
  · rw [if_pos (nI_le (by omega) (by omega)), if_neg q]
theorem sg_M {B : bw_M} {t n i : Nat} (ht : t < 4) (hn : n ≤ 60) (h : rdM B t n i) (hi : i < 2 ^ 20) : fX5_here B = some (if i < n then B.1 3 (60 * t + i) else -1) := by
  obtain ⟨h1, h2, h3⟩ := h
  unfold fX5_here fX5_here_32
  rw [h1, h2, h3, show (60 : Int32) * nI t = nI (60 * t) from pk_mul 60 t, nI_add]
  by_cases q : i < n
  · rw [if_neg (nI_ge q (by omega)), rd_ok (by omega) (by decide), if_pos q]
  · rw [if_pos (nI_le (by omega) (by omega)), if_neg q]
def s_sk (v : Nat → Int32) (n : Nat) : Nat → Nat → Nat
  | 0, i => i
  | f + 1, i => if v i = 32 then s_sk v n f (i + 1) else i
theorem sk_le {v : Nat → Int32} {n : Nat} : ∀ f i, i + f = n → i ≤ s_sk v n f i ∧ s_sk v n f i ≤ n := by
  intro f
  induction f with
  | zero => intro i hi; exact ⟨Nat.le_refl _, by show i ≤ n; omega⟩
  | succ f ih =>
    intro i hi
    have := ih (i + 1) (by omega)
    show i ≤ (if v i = 32 then s_sk v n f (i + 1) else i) ∧ (if v i = 32 then s_sk v n f (i + 1) else i) ≤ n
    split <;> omega
theorem pass_C {N : Nat} {v : Nat → Int32} {t n : Nat} (ht : t < 4) (hn : n ≤ 60) : ∀ f i k fu A, i + f = n → k + f ≤ 60 → f < fu → rdC A t n i → (∀ j, j < 60 → A.1 (10 + t) j = v j) → bw_lp (fun kk w => fX2_passBlanks_2 N kk w.1 w.2) fu (nI k, A) = some (bw_pI A 15 2 (nI (s_sk v n f i))) := by
  intro f
  induction f with
  | zero =>
    intro i k fu A hi hk hf h hv
    match fu, hf with
    | fu + 1, _ =>
      rw [bw_lp_s]
      show fX2_passBlanks_2 N _ (nI k) A = some (bw_pI A 15 2 (nI i))
      rw [pI_id A 15 2 h.2.2]
      unfold fX2_passBlanks_2 fX2_passBlanks_37
      by_cases q : (60 : Int32) ≤ nI k
      · rw [if_pos q]
      · rw [if_neg q, h.2.2, sg_C ht hn h (by omega), cl_some, if_neg (show ¬ i < n by omega), if_neg (by decide)]
  | succ f ih =>
    intro i k fu A hi hk hf h hv
    match fu, hf with
    | fu + 1, hf =>
      rw [bw_lp_s]
      show fX2_passBlanks_2 N _ (nI k) A = some (bw_pI A 15 2 (nI (if v i = 32 then s_sk v n f (i + 1) else i)))
      have e0 : ∀ kk, fX2_passBlanks_2 N kk (nI k) A = if v i = 32 then kk (nI (k + 1), bw_pI A 15 2 (nI (i + 1))) else some A := fun kk => by
        unfold fX2_passBlanks_2 fX2_passBlanks_37
        rw [if_neg (show ¬ (60 : Int32) ≤ nI k from nI_ge (b := 60) (by omega) (by decide)), h.2.2, sg_C ht hn h (by omega), cl_some, if_pos (show i < n by omega), hv i (by omega), mv_eq, mv_eq, nI_1, nI_1]
      rw [e0]
      by_cases q : v i = 32
      · rw [if_pos q, if_pos q, ih (i + 1) (k + 1) fu (bw_pI A 15 2 (nI (i + 1))) (by omega) (by omega) (by omega) ⟨h.1, by rw [pI_n (by decide)]; exact h.2.1, pI_s⟩ (fun j hj => by rw [pI_ne (by omega)]; exact hv j hj), pI_pI]
      · rw [if_neg q, if_neg q, pI_id A 15 2 h.2.2]
theorem pass_M {N : Nat} {v : Nat → Int32} {t n : Nat} (ht : t < 4) (hn : n ≤ 60) : ∀ f i fu B, i + f = n → f < fu → rdM B t n i → (∀ j, j < 60 → B.1 3 (60 * t + j) = v j) → bw_lp (fun kk w => fX5_skips_0 N kk w) fu B = some (bw_pI B 0 18 (nI (s_sk v n f i))) := by
  intro f
  induction f with
  | zero =>
    intro i fu B hi hf h hv
    match fu, hf with
    | fu + 1, _ =>
      rw [bw_lp_s]
      show fX5_skips_0 N _ B = some (bw_pI B 0 18 (nI i))
      rw [pI_id B 0 18 h.2.2]
      unfold fX5_skips_0
      rw [sg_M ht hn h (by omega), cl_some, if_neg (show ¬ i < n by omega), if_neg (by decide)]
  | succ f ih =>
    intro i fu B hi hf h hv
    match fu, hf with
    | fu + 1, hf =>
      rw [bw_lp_s]
      show fX5_skips_0 N _ B = some (bw_pI B 0 18 (nI (if v i = 32 then s_sk v n f (i + 1) else i)))
      have e0 : ∀ kk, fX5_skips_0 N kk B = if v i = 32 then kk (bw_pI B 0 18 (nI (i + 1))) else some B := fun kk => by
        unfold fX5_skips_0
        rw [sg_M ht hn h (by omega), cl_some, if_pos (show i < n by omega), hv i (by omega), mv_eq, h.2.2, nI_1]
      rw [e0]
      by_cases q : v i = 32
      · rw [if_pos q, if_pos q, ih (i + 1) fu (bw_pI B 0 18 (nI (i + 1))) (by omega) (by omega) ⟨by rw [pI_n (by decide)]; exact h.1, by rw [pI_n (by decide)]; exact h.2.1, pI_s⟩ (fun j hj => by rw [pI_ne (by omega)]; exact hv j hj), pI_pI]
      · rw [if_neg q, if_neg q, pI_id B 0 18 h.2.2]
/-- a figure stands at i -/
def isFg (v : Nat → Int32) (n i d : Nat) : Prop := d ≤ 9 ∧ i < n ∧ v i = nI (48 + d)
theorem fg_or (v : Nat → Int32) (n i : Nat) : (∃ d, isFg v n i d) ∨ ¬ ∃ d, isFg v n i d := Classical.em _
theorem fg_at {x : Int32} (h1 : ¬ x < 48) (h2 : ¬ (57 : Int32) < x) : ∃ d, d ≤ 9 ∧ x = nI (48 + d) := by
  have z1 : (48 : Int32).toInt = 48 := by decide
  have z2 : (57 : Int32).toInt = 57 := by decide
  rw [i32lt] at h1 h2
  obtain ⟨j, e, e2, -⟩ := nI_of_toInt (x := x) (by omega)
  exact ⟨j - 48, by omega, by rw [e]; congr 1; omega⟩
theorem fg_C {A : bw_M} {v : Nat → Int32} {t n i0 i d : Nat} (ht : t < 4) (hn : n ≤ 60) (h : rdC A t n i0) (hi : i < 2 ^ 20) (hv : ∀ j, j < 60 → A.1 (10 + t) j = v j) (hf : isFg v n i d) : fX2_figureAt (nI i) A = some (nI d) := by
  obtain ⟨f1, f2, f3⟩ := hf
  unfold fX2_figureAt fX2_figureAt_27
  rw [sg_C ht hn h hi, cl_some, if_pos f2, hv i (by omega), f3, if_neg (show ¬ nI (48 + d) < (48 : Int32) from nI_nlt (b := 48) (by omega) (by omega)), if_neg (show ¬ (57 : Int32) < nI (48 + d) from nI_nlt (a := 57) (by omega) (by decide)), show nI (48 + d) - 48 = nI (48 + d - 48) from pk_sub (b := 48) (by omega), show 48 + d - 48 = d by omega]
theorem fg_C' {A : bw_M} {v : Nat → Int32} {t n i0 i : Nat} (ht : t < 4) (hn : n ≤ 60) (h : rdC A t n i0) (hi : i < 2 ^ 20) (hv : ∀ j, j < 60 → A.1 (10 + t) j = v j) (hf : ¬ ∃ d, isFg v n i d) : fX2_figureAt (nI i) A = some (-9) := by
  unfold fX2_figureAt fX2_figureAt_25 fX2_figureAt_27
  rw [sg_C ht hn h hi, cl_some]
  by_cases q : i < n
  · rw [if_pos q, hv i (by omega)]
    by_cases q1 : v i < 48
    · rw [if_pos q1]
    · rw [if_neg q1]
      by_cases q2 : (57 : Int32) < v i
      · rw [if_pos q2]
      · obtain ⟨d, e1, e2⟩ := fg_at q1 q2
        exact absurd ⟨d, e1, q, e2⟩ hf
  · rw [if_neg q, if_neg (by decide), if_pos (by decide)]
theorem fg_M {B : bw_M} {v : Nat → Int32} {t n i d lo hi : Nat} (ht : t < 4) (hn : n ≤ 60) (h : rdM B t n i) (hi' : i < 2 ^ 20) (hv : ∀ j, j < 60 → B.1 3 (60 * t + j) = v j) (hf : isFg v n i d) (hhi : hi ≤ 9) {x y : Int32} (hx : x = nI lo) (hy : y = nI hi) (hlo : lo ≤ 9) : fX5_isFigure x y B = if lo ≤ d ∧ d ≤ hi then some (1, bw_pI (bw_pI B 0 21 (nI d)) 0 18 (nI (i + 1))) else some (0, B) := by
  subst hx; subst hy
  obtain ⟨f1, f2, f3⟩ := hf
  unfold fX5_isFigure
  rw [sg_M ht hn h hi', cl_some, if_pos f2, hv i (by omega), f3, show (48 : Int32) + nI lo = nI (48 + lo) from nI_add 48 lo, show (48 : Int32) + nI hi = nI (48 + hi) from nI_add 48 hi, in_I _ _ _ rfl rfl, cl_some, cl_some, mv_eq, mv_eq, pI_n (by decide), h.2.2, nI_1, show nI (48 + d) - 48 = nI (48 + d - 48) from pk_sub (b := 48) (by omega), show 48 + d - 48 = d by omega]
  by_cases q : lo ≤ d ∧ d ≤ hi
  · rw [if_pos (show nI (48 + lo) ≤ nI (48 + d) ∧ nI (48 + d) ≤ nI (48 + hi) from ⟨nI_le (by omega) (by omega), nI_le (by omega) (by omega)⟩), if_neg i10, if_pos q]
  · rw [if_neg (show ¬ (nI (48 + lo) ≤ nI (48 + d) ∧ nI (48 + d) ≤ nI (48 + hi)) from fun z => q ⟨by have := (nI_leI (by omega) (by omega)).mp z.1; omega, by have := (nI_leI (by omega) (by omega)).mp z.2; omega⟩), if_pos i00, if_neg q]
theorem fg_M' {B : bw_M} {v : Nat → Int32} {t n i lo hi : Nat} (ht : t < 4) (hn : n ≤ 60) (h : rdM B t n i) (hi' : i < 2 ^ 20) (hv : ∀ j, j < 60 → B.1 3 (60 * t + j) = v j) (hf : ¬ ∃ d, isFg v n i d) (hhi : hi ≤ 9) {x y : Int32} (hx : x = nI lo) (hy : y = nI hi) (hlo : lo ≤ 9) : fX5_isFigure x y B = some (0, B) := by
  subst hx; subst hy
  unfold fX5_isFigure
  rw [sg_M ht hn h hi', cl_some, show (48 : Int32) + nI lo = nI (48 + lo) from nI_add 48 lo, show (48 : Int32) + nI hi = nI (48 + hi) from nI_add 48 hi, in_I _ _ _ rfl rfl, cl_some, if_pos]
  rw [if_neg]
  rintro ⟨z1, z2⟩
  by_cases q : i < n
  · rw [if_pos q, hv i (by omega)] at z1 z2
    have y1 := (i32le _ _).mp z1
    have y2 := (i32le _ _).mp z2
    rw [nI_toInt (by omega)] at y1 y2
    obtain ⟨j, e, e2, -⟩ := nI_of_toInt (x := v i) (by omega)
    exact hf ⟨j - 48, by omega, q, by rw [e]; congr 1; omega⟩
  · rw [if_neg q] at z1
    have y1 := (i32le _ _).mp z1
    rw [nI_toInt (by omega)] at y1
    have : (-1 : Int32).toInt = -1 := by decide
    omega
def twC (A : bw_M) (T : Tw) : Prop := c_tw A 22 T ∧ c_st A 22 (s_ini T)
def twM (B : bw_M) (T : Tw) : Prop := B.1 0 24 = nI T.1 ∧ B.1 0 22 = nI T.2.2.2.2.1 ∧ B.1 0 23 = nI T.2.2.2.2.2 ∧ ∀ j, j < T.1 → B.1 13 j = nI (T.2.1 j) ∧ B.1 14 j = eF (T.2.2.1 j) ∧ B.1 15 j = nI (T.2.2.2.1 j)
/-- the bellows -/
theorem rd_head {N : Nat} (hN : 2000 ≤ N) {A B B0 : bw_M} {v : Nat → Int32} {t n i : Nat} (ht : t < 4) (hn : n ≤ 60) (hin : i ≤ n) (hA : rdC A t n i) (hB : rdM B t n i) (hvA : ∀ j, j < 60 → A.1 (10 + t) j = v j) (hvB : ∀ j, j < 60 → B.1 3 (60 * t + j) = v j) (h24 : B.1 0 24 = nI 0) (hsk : fX5_skips N B0 = some B) : (∃ j B', j < 1000 ∧ fX2_readBellows N 22 A = some (nI j, A) ∧ fX5_readsHead N B0 = some (0, B') ∧ B'.1 0 18 = nI j ∧ krM B B') ∨ (∃ A' B' T, fX2_readBellows N 22 A = some (-9, A') ∧ fX5_readsHead N B0 = some (1, B') ∧ T.1 = 0 ∧ t_ok T ∧ twC A' T ∧ twM B' T ∧ i + 4 ≤ n ∧ rdC A' t n (i + 4) ∧ rdM B' t n (i + 4) ∧ krC A A' ∧ krM B B') := by
  have a2 := hA.2.2
  have an : ∀ k, k < 2 ^ 20 → ∃ z, fX2_figureAt (nI k) A = some z ∧ ((∃ d, isFg v n k d ∧ z = nI d) ∨ ((¬ ∃ d, isFg v n k d) ∧ z = -9)) := fun k hk => by
    rcases fg_or v n k with ⟨d3, f3⟩ | f3
    · exact ⟨_, fg_C ht hn hA hk hvA f3, Or.inl ⟨d3, f3, rfl⟩⟩
    · exact ⟨_, fg_C' ht hn hA hk hvA f3, Or.inr ⟨f3, rfl⟩⟩
  obtain ⟨z1, hz1, y1⟩ := an (i + 1) (by omega)
  obtain ⟨z2, hz2, y2⟩ := an (i + 2) (by omega)
  obtain ⟨z3, hz3, y3⟩ := an (i + 3) (by omega)
  unfold fX2_readBellows fX5_readsHead
  rw [a2, hsk, cl_some, sg_M ht hn hB (by omega), cl_some, show nI i + 2 = nI (i + 2) from nI_add i 2, show nI i + 3 = nI (i + 3) from nI_add i 3, nI_1, hz1, cl_some, hz2, cl_some, hz3, cl_some, sg_C ht hn hA (by omega), cl_some]
  by_cases ha : i < n ∧ v i = 97
  · obtain ⟨ha1, ha2⟩ := ha
    have hB1 : rdM (bw_pI B 0 18 (nI (i + 1))) t n (i + 1) := ⟨by rw [pI_n (by decide)]; exact hB.1, by rw [pI_n (by decide)]; exact hB.2.1, pI_s⟩
    have hv1 : ∀ j, j < 60 → (bw_pI B 0 18 (nI (i + 1))).1 3 (60 * t + j) = v j := fun j hj => by rw [pI_ne (by decide)]; exact hvB j hj
    rw [if_pos ha1, if_pos ha1, hvA i (by omega), hvB i (by omega), ha2, if_pos rfl, if_pos rfl, mv_eq, mv_eq, hB.2.2, nI_1, pI_s]
    rcases y1 with ⟨d1, f1, rfl⟩ | ⟨f1, rfl⟩
    · rw [if_neg (nI_m9 (by have := f1.1; omega)), fg_M ht hn hB1 (by omega) hv1 f1 (hi := 9) (by decide) (lo := 0) (x := 0) (y := 9) rfl rfl (by decide), if_pos (show 0 ≤ d1 ∧ d1 ≤ 9 from ⟨Nat.zero_le _, f1.1⟩), c2_some, if_neg i10, mv_eq, show (bw_pI (bw_pI (bw_pI B 0 18 (nI (i + 1))) 0 21 (nI d1)) 0 18 (nI (i + 1 + 1))).1 0 21 = nI d1 by rw [pI_n (by decide), pI_s], show (10 : Int32) * nI d1 = nI (10 * d1) from pk_mul 10 d1]
      generalize hM2 : bw_pI (bw_pI (bw_pI (bw_pI B 0 18 (nI (i + 1))) 0 21 (nI d1)) 0 18 (nI (i + 1 + 1))) 0 22 (nI (10 * d1)) = B2
      have k2 : krM B B2 := by
        subst hM2
        exact ((((krM_f (by decide) (by decide) (by decide)).tr (krM_f (by decide) (by decide) (by decide))).tr (krM_f (by decide) (by decide) (by decide))).tr (krM_f (by decide) (by decide) (by decide)))
      have g2 : rdM B2 t n (i + 2) ∧ B2.1 0 22 = nI (10 * d1) ∧ B2.1 0 24 = nI 0 := by
        subst hM2
        exact ⟨⟨by rw [pI_n (by decide), pI_n (by decide), pI_n (by decide), pI_n (by decide)]; exact hB.1, by rw [pI_n (by decide), pI_n (by decide), pI_n (by decide), pI_n (by decide)]; exact hB.2.1, by rw [pI_n (by decide), pI_s]⟩, pI_s, by rw [pI_n (by decide), pI_n (by decide), pI_n (by decide), pI_n (by decide)]; exact h24⟩
      have hv2 : ∀ j, j < 60 → B2.1 3 (60 * t + j) = v j := fun j hj => by rw [k2.1 3 (by decide) (by omega)]; exact hvB j hj
      clear hM2
      have hd1 := f1.1
      have hi1 := f1.2.1
      rcases y2 with ⟨d2, f2, rfl⟩ | ⟨f2, rfl⟩
      · have hd2 := f2.1
        have hi2 := f2.2.1
        rw [if_neg (nI_m9 (by omega)), nI_add, fg_M ht hn g2.1 (by omega) hv2 f2 (hi := 9) (by decide) (lo := 0) (x := 0) (y := 9) rfl rfl (by decide), if_pos (show 0 ≤ d2 ∧ d2 ≤ 9 from ⟨Nat.zero_le _, f2.1⟩), c2_some, if_neg i10, mv_eq, show (bw_pI (bw_pI B2 0 21 (nI d2)) 0 18 (nI (i + 2 + 1))).1 0 22 = nI (10 * d1) by rw [pI_n (by decide), pI_n (by decide)]; exact g2.2.1, show (bw_pI (bw_pI B2 0 21 (nI d2)) 0 18 (nI (i + 2 + 1))).1 0 21 = nI d2 by rw [pI_n (by decide), pI_s], nI_add, pI_s]
        generalize hM3 : bw_pI (bw_pI (bw_pI B2 0 21 (nI d2)) 0 18 (nI (i + 2 + 1))) 0 22 (nI (10 * d1 + d2)) = B3
        have k3 : krM B2 B3 := by
          subst hM3
          exact ((krM_f (by decide) (by decide) (by decide)).tr (krM_f (by decide) (by decide) (by decide))).tr (krM_f (by decide) (by decide) (by decide))
        have g3 : rdM B3 t n (i + 3) ∧ B3.1 0 22 = nI (10 * d1 + d2) ∧ B3.1 0 24 = nI 0 := by
          subst hM3
          exact ⟨⟨by rw [pI_n (by decide), pI_n (by decide), pI_n (by decide)]; exact g2.1.1, by rw [pI_n (by decide), pI_n (by decide), pI_n (by decide)]; exact g2.1.2.1, by rw [pI_n (by decide), pI_s]⟩, pI_s, by rw [pI_n (by decide), pI_n (by decide), pI_n (by decide)]; exact g2.2.2⟩
        have hv3 : ∀ j, j < 60 → B3.1 3 (60 * t + j) = v j := fun j hj => by rw [k3.1 3 (by decide) (by omega)]; exact hv2 j hj
        clear hM3
        by_cases h60 : 10 * d1 + d2 ≤ 60
        · rw [if_pos (show nI (10 * d1 + d2) ≤ (60 : Int32) from nI_le (b := 60) h60 (by decide)), if_pos (show nI (10 * d1 + d2) ≤ (60 : Int32) from nI_le (b := 60) h60 (by decide))]
          rcases y3 with ⟨d3, f3, rfl⟩ | ⟨f3, rfl⟩
          · right
            have hd3 := f3.1
            have hi3 := f3.2.1
            rw [if_neg (nI_m9 (by omega)), fg_M ht hn g3.1 (by omega) hv3 f3 (hi := 9) (by decide) (lo := 0) (x := 0) (y := 9) rfl rfl (by decide), if_pos (show 0 ≤ d3 ∧ d3 ≤ 9 from ⟨Nat.zero_le _, f3.1⟩), c2_some, if_neg i10, mv_eq, show (bw_pI (bw_pI B3 0 21 (nI d3)) 0 18 (nI (i + 3 + 1))).1 0 21 = nI d3 by rw [pI_n (by decide), pI_s]]
            unfold fX3_found
            simp only [mv_eq]
            obtain ⟨A1, e1, p1, p2, p3, p4⟩ := c_restart hN (A := bw_pI (bw_pI (bw_pI A 22 0 0) 22 1 (nI (10 * d1 + d2))) 22 2 (nI d3)) (c := 22) (T := (0, (fun _ => 0), (fun _ => 0), (fun _ => 0), 10 * d1 + d2, d3)) ⟨by rw [pI_n (by decide), pI_n (by decide), pI_s]; rfl, by rw [pI_n (by decide), pI_s], pI_s, fun j hj => absurd hj (Nat.not_lt_zero j)⟩
            rw [e1, cl_some, cl_some]
            have q15 : A1.1 15 = A.1 15 := by rw [p3 15 (by decide) (by decide) (by decide), pI_ne (by decide), pI_ne (by decide), pI_ne (by decide)]
            refine ⟨bw_pI A1 15 2 (nI (i + 4)), _, (0, (fun _ => 0), (fun _ => 0), (fun _ => 0), 10 * d1 + d2, d3), ?_, rfl, rfl, ⟨show 0 ≤ 6 by decide, h60, hd3, fun j hj => absurd hj (Nat.not_lt_zero j)⟩, ⟨p1.of (fun q _ _ => pI_ne (by omega)), p2.of (pI_ne (by decide)) (pI_ne (by decide)) (pI_ne (by decide))⟩, ⟨?_, ?_, pI_s, fun j hj => absurd hj (Nat.not_lt_zero j)⟩, by omega, ⟨?_, ?_, pI_s⟩, ⟨?_, ?_, ?_⟩, ?_, ?_⟩
            · rw [q15, a2, show nI i + 4 = nI (i + 4) from nI_add i 4]
            · rw [pI_n (by decide), pI_n (by decide), pI_n (by decide)]; exact g3.2.2
            · rw [pI_n (by decide), pI_n (by decide), pI_n (by decide)]; exact g3.2.1
            · show A1.2.2 = _
              rw [p4]; exact hA.1
            · rw [pI_n (by decide), q15]; exact hA.2.1
            · rw [pI_n (by decide), pI_n (by decide), pI_n (by decide)]; exact g3.1.1
            · rw [pI_n (by decide), pI_n (by decide), pI_n (by decide)]; exact g3.1.2.1
            · rw [pI_n (by decide), pI_s]
            · exact ⟨fun q a b => by rw [pI_ne a, p3 q (by omega) (by omega) (by omega), pI_ne (by omega), pI_ne (by omega), pI_ne (by omega)], by rw [pI_n (by decide), q15], by show A1.2 = _; rw [p4]; rfl⟩
            · exact (k2.tr k3).tr (((krM_f (by decide) (by decide) (by decide)).tr (krM_f (by decide) (by decide) (by decide))).tr (krM_f (by decide) (by decide) (by decide)))
          · left
            rw [if_pos rfl, fg_M' ht hn g3.1 (by omega) hv3 f3 (hi := 9) (by decide) (lo := 0) (x := 0) (y := 9) rfl rfl (by decide), c2_some, if_pos i00]
            exact ⟨i + 3, _, by omega, rfl, rfl, g3.1.2.2, k2.tr k3⟩
        · left
          rw [if_neg (show ¬ nI (10 * d1 + d2) ≤ (60 : Int32) from nI_ge (a := 60) (by omega) (by omega)), if_neg (show ¬ nI (10 * d1 + d2) ≤ (60 : Int32) from nI_ge (a := 60) (by omega) (by omega)), mv_eq]
          exact ⟨i + 1, _, by omega, rfl, rfl, pI_s, (k2.tr k3).tr (krM_f (by decide) (by decide) (by decide))⟩
      · left
        rw [if_pos rfl, fg_M' ht hn g2.1 (by omega) hv2 f2 (hi := 9) (by decide) (lo := 0) (x := 0) (y := 9) rfl rfl (by decide), c2_some, if_pos i00]
        exact ⟨i + 2, _, by omega, rfl, rfl, g2.1.2.2, k2⟩
    · left
      rw [if_pos rfl, fg_M' ht hn hB1 (by omega) hv1 f1 (hi := 9) (by decide) (lo := 0) (x := 0) (y := 9) rfl rfl (by decide), c2_some, if_pos i00]
      exact ⟨i + 1, _, by omega, rfl, rfl, pI_s, krM_f (by decide) (by decide) (by decide)⟩
  · left
    rw [if_neg, if_neg]
    · exact ⟨i, B, by omega, rfl, rfl, hB.2.2, krM.rf B⟩
    · by_cases q : i < n
      · rw [if_pos q, hvB i (by omega)]; exact fun e => ha ⟨q, e⟩
      · rw [if_neg q]; decide
    · by_cases q : i < n
      · rw [if_pos q, hvA i (by omega)]; exact fun e => ha ⟨q, e⟩
      · rw [if_neg q]; decide
