/-! mean and copy -/
theorem ok_mean {N : Nat} (hN : 2000 ≤ N) {A B : bw_M} (h : Rel A B) (x : Int32) : OkI (fX4_mean N x A) (fX5_mean N x B) := by
  unfold fX4_mean fX5_mean
  rcases ix_cases x (n := 6) (by decide) (by decide) with ⟨r, hr, rfl⟩ | ⟨g1, g2⟩
  · simp only [(isRow_ok hr).1, (isRow_ok hr).2, cl_some, if_neg i10, rd_ok hr (show 6 < 2 ^ 31 by decide), c2_id, mv_eq]
    obtain ⟨a1, a2, a3⟩ := h.1 r hr
    rw [← a1]
    rcases a2 with e | ⟨n, hn, e⟩
    · rw [e, if_pos rfl, if_neg m1n]
      exact ok_found h (j := 1) (by decide) rfl
    · rw [e, if_neg (nI_m1 (by omega)), if_pos (nI_pos' (by omega))]
      by_cases hn0 : n = 0
      · subst hn0
        rw [if_pos (show nI 0 = 0 from rfl), if_pos (show nI 0 = 0 from rfl)]
        exact ok_found h (j := 4) (by decide) rfl
      · have hz : ¬ nI n = (0 : Int32) := nI_ne0 (by omega) (by omega)
        rw [if_neg hz, if_neg hz]
        unfold flX4_mean_42 flX5_mean_44
        refine lp_two (fun i s t => s.2 = nI i ∧ t.2 = nI i ∧ s.1 = t.1) OkI n ?_ ?_ n N N 0 _ _ (by omega) (by omega) (by omega) ⟨rfl, rfl, rfl⟩
        · intro i s t hi ⟨e1, e2, e3⟩
          left
          refine ⟨(s.1 + Int32.toInt64 (A.1 (2 + r) i), nI (i + 1)), (t.1 + Int32.toInt64 (B.1 1 (40 * r + i)), nI (i + 1)), ⟨rfl, rfl, ?_⟩, ?_, ?_⟩
          · show s.1 + _ = t.1 + _
            rw [e3, a3 i (by omega)]
          · intro k
            show fX4_mean_42 N (nI r) k (nI n) s.1 s.2 A = _
            unfold fX4_mean_42
            rw [e1, if_neg (nI_ge hi (by omega)), ra_ok hr (by decide), rd_ok (by omega) (by decide), mv_eq, mv_eq, nI_1]
          · intro k
            show fX5_mean_44 N (nI r) k t.1 t.2 B = _
            unfold fX5_mean_44
            rw [e2, rd_ok hr (by decide), ← a1, e, if_neg (nI_ge hi (by omega)), show (40 : Int32) = nI 40 from rfl, pk_mul, nI_add, rd_ok (by omega) (by decide), mv_eq, mv_eq, nI_1]
        · intro s t ⟨e1, e2, e3⟩
          have hd : decide (¬ (Int32.toInt64 (nI n)) = 0) = true := by
            rw [decide_eq_true_eq, nI_l (by omega)]
            intro q
            have := (lN_eq (a := n) (b := 0) (by omega) (by decide)).mp q
            omega
          refine ⟨fX4_tell (Int64.toInt32 (s.1 / Int32.toInt64 (nI n))) A, fX5_tell (Int64.toInt32 (t.1 / Int32.toInt64 (nI n))) B, ?_, ?_, ?_⟩
          · rw [e3]; exact ok_tell h _
          · intro k
            show fX4_mean_42 N (nI r) k (nI n) s.1 s.2 A = _
            unfold fX4_mean_42
            rw [e1, if_pos (nI_le (Nat.le_refl _) (by omega)), hd, ck_true, c2_id]
          · intro k
            show fX5_mean_44 N (nI r) k t.1 t.2 B = _
            unfold fX5_mean_44
            rw [e2, rd_ok hr (by decide), rd_ok hr (by decide), ← a1, e, if_pos (nI_le (Nat.le_refl _) (by omega)), hd, ck_true, c2_id]
  · rw [(isRow_no g1 g2).1, (isRow_no g1 g2).2, cl_some, cl_some, if_pos i00, if_pos i00]
    exact OkI.same h _
/-- n places from i on, in a row of size m: what both ask -/
theorem i64s {a b c : Int32} (ha : 0 ≤ a.toInt) (hb : 0 ≤ b.toInt) : (0 < lg_cmp (a.toInt64 + b.toInt64) c.toInt64 ↔ c.toInt < a.toInt + b.toInt) ∧ (lg_cmp (a.toInt64 + b.toInt64) c.toInt64 ≤ 0 ↔ a.toInt + b.toInt ≤ c.toInt) := by
  have l1 := a.toInt_lt
  have l2 := b.toInt_lt
  have l3 := c.toInt_lt
  have l4 := c.le_toInt
  have es : (a.toInt64 + b.toInt64).toInt = a.toInt + b.toInt := by
    rw [Int64.toInt_add, Int32.toInt_toInt64, Int32.toInt_toInt64]
    exact Int.bmod_eq_of_le (by omega) (by omega)
  have e1 : a.toInt64 + b.toInt64 > c.toInt64 ↔ c.toInt < a.toInt + b.toInt := by
    rw [gt_iff_lt, Int64.lt_iff_toInt_lt, es, Int32.toInt_toInt64]
  have e2 : a.toInt64 + b.toInt64 = c.toInt64 ↔ a.toInt + b.toInt = c.toInt := by
    rw [← Int64.toInt_inj, es, Int32.toInt_toInt64]
  unfold lg_cmp
  by_cases h : c.toInt < a.toInt + b.toInt
  · rw [if_pos (e1.mpr h)]
    exact ⟨iff_of_true (by decide) h, iff_of_false (by decide) (by omega)⟩
  · rw [if_neg (fun q => h (e1.mp q))]
    by_cases h2 : a.toInt + b.toInt = c.toInt
    · rw [if_pos (e2.mpr h2)]
      exact ⟨iff_of_false (by decide) h, iff_of_true (by decide) (by omega)⟩
    · rw [if_neg (fun q => h2 (e2.mp q))]
      exact ⟨iff_of_false (by decide) h, iff_of_true (by decide) (by omega)⟩
theorem hpl {m : Nat} (hm : m ≤ 40) {i k : Int32} (hk : 0 ≤ k.toInt) : fX4_hasPlaces (nI m) i k = some (if 0 ≤ i.toInt ∧ i.toInt + k.toInt ≤ m then 1 else 0) := by
  unfold fX4_hasPlaces fX4_hasPlaces_20 fX4_hasPlaces_21
  rw [isb_0, isb_1, ck_true, ck_true]
  have z0 : (0 : Int32).toInt = 0 := by decide
  have hmI : (nI m).toInt = m := nI_toInt (by omega)
  have l1 := k.toInt_lt
  by_cases h1 : i < 0
  · rw [if_pos h1, if_neg]
    rw [i32lt] at h1; omega
  · rw [if_neg h1]
    rw [i32lt] at h1
    by_cases h2 : nI m < k
    · rw [if_pos h2, if_neg]
      rw [i32lt] at h2; omega
    · rw [if_neg h2]
      rw [i32lt] at h2
      have es : (nI m - k).toInt = m - k.toInt := by
        rw [Int32.toInt_sub, hmI]
        exact Int.bmod_eq_of_le (by omega) (by omega)
      by_cases h3 : nI m - k < i
      · rw [if_pos h3, if_neg]
        rw [i32lt, es] at h3; omega
      · rw [if_neg h3, if_pos]
        rw [i32lt, es] at h3; omega
/-- a stretch moved within one row: f's places a.. to b.., k of them, of n; in the order that both keep it does what arraycopy does -/
def mvF (f : Nat → Int32) (a b n : Nat) (up : Bool) : Nat → Nat → Int32
  | 0 => f
  | k + 1 => let p := if up = true then k else n - 1 - k
    upd (mvF f a b n up k) (b + p) (mvF f a b n up k (a + p))
theorem mvF_up {f : Nat → Int32} {a b n : Nat} (hab : b ≤ a ∨ a + n ≤ b) : ∀ k, k ≤ n → ∀ j, mvF f a b n true k j = if b ≤ j ∧ j < b + k then f (a + (j - b)) else f j := by
  intro k
  induction k with
  | zero =>
    intro _ j
    rw [if_neg (by omega)]; rfl
  | succ k ih =>
    intro hk j
    have ih := ih (by omega)
    show upd (mvF f a b n true k) (b + k) (mvF f a b n true k (a + k)) j = _
    rw [upd]
    by_cases e : j = b + k
    · rw [if_pos e, if_pos (by omega), ih, if_neg (by omega)]
      congr 1
      omega
    · rw [if_neg e, ih]
      by_cases e2 : b ≤ j ∧ j < b + k
      · rw [if_pos e2, if_pos (by omega)]
      · rw [if_neg e2, if_neg (by omega)]
theorem mvF_dn {f : Nat → Int32} {a b n : Nat} (hab : a < b ∨ b + n ≤ a) : ∀ k, k ≤ n → ∀ j, mvF f a b n false k j = if b + n - k ≤ j ∧ j < b + n then f (a + (j - b)) else f j := by
  intro k
  induction k with
  | zero =>
    intro _ j
    rw [if_neg (by omega)]; rfl
  | succ k ih =>
    intro hk j
    have ih := ih (by omega)
    show upd (mvF f a b n false k) (b + (n - 1 - k)) (mvF f a b n false k (a + (n - 1 - k))) j = _
    rw [upd]
    by_cases e : j = b + (n - 1 - k)
    · rw [if_pos e, if_pos (by omega), ih, if_neg (by omega)]
      congr 1
      omega
    · rw [if_neg e, ih]
      by_cases e2 : b + n - k ≤ j ∧ j < b + n
      · rw [if_pos e2, if_pos (by omega)]
      · rw [if_neg e2, if_neg (by omega)]
theorem nI_of_toInt {x : Int32} (h : 0 ≤ x.toInt) : ∃ j : Nat, x = nI j ∧ (j : Int) = x.toInt ∧ j < 2 ^ 31 := by
  have z0 : (0 : Int32).toInt = 0 := by decide
  obtain ⟨j, hj, rfl⟩ := nI_of (x := x) (fun q => by rw [i32lt] at q; omega)
  exact ⟨j, rfl, (nI_toInt hj).symm, hj⟩
theorem ok_copy {N : Nat} (hN : 2000 ≤ N) {A B : bw_M} (h : Rel A B) (x i y j n : Int32) : OkI (fX4_copy x i y j n A) (fX5_copy N x i y j n B) := by
  unfold fX4_copy fX5_copy fX4_copy_14 fX4_copy_47 fX4_copy_84 fX5_copy_14 fX5_copy_45 fX5_copy_95
  rcases ix_cases x (n := 6) (by decide) (by decide) with ⟨r, hr, rfl⟩ | ⟨g1, g2⟩
  · rcases ix_cases y (n := 6) (by decide) (by decide) with ⟨t, ht, rfl⟩ | ⟨g1, g2⟩
    · simp only [(isRow_ok hr).1, (isRow_ok hr).2, (isRow_ok ht).1, (isRow_ok ht).2, cl_some, if_neg i10, rd_ok hr (show 6 < 2 ^ 31 by decide), rd_ok ht (show 6 < 2 ^ 31 by decide), ra_ok hr (show 6 < 2 ^ 31 by decide), ra_ok ht (show 6 < 2 ^ 31 by decide), c2_id]
      have z0 : (0 : Int32).toInt = 0 := by decide
      by_cases hn0 : (0 : Int32) ≤ n
      · rw [if_pos hn0, if_pos hn0]
        rw [i32le] at hn0
        obtain ⟨a1, a2, a3⟩ := h.1 r hr
        obtain ⟨b1, b2, b3⟩ := h.1 t ht
        rw [← a1, ← b1]
        rcases a2 with e | ⟨m, hm, e⟩
        · rw [e, if_pos rfl, if_pos m1_lt]
          exact ok_found h (j := 1) (by decide) rfl
        · rw [e, if_neg (nI_m1 (by omega)), if_neg (nI_pos (by omega))]
          rcases b2 with e' | ⟨m', hm', e'⟩
          · rw [e', if_pos rfl, if_neg m1n]
            exact ok_found h (j := 1) (by decide) rfl
          · rw [e', if_neg (nI_m1 (by omega)), if_pos (nI_pos' (by omega)), hpl hm (by omega), hpl hm' (by omega), cl_some, cl_some]
            have eC : ∀ (P Q : Prop) [Decidable P] [Decidable Q] (X Y Z : Option (Int32 × bw_M)), (if (if P then (1 : Int32) else 0) = 0 then X else if (if Q then (1 : Int32) else 0) = 0 then X else Z) = if P ∧ Q then Z else X := by
              intro P Q _ _ X Y Z
              by_cases hP : P <;> by_cases hQ : Q <;> simp [hP, hQ]
            rw [eC _ _ _ none]
            by_cases hok : (0 ≤ i.toInt ∧ i.toInt + n.toInt ≤ m) ∧ 0 ≤ j.toInt ∧ j.toInt + n.toInt ≤ m'
            · rw [if_pos hok, if_neg (fun q => by rw [i32lt] at q; omega), if_neg (fun q => by rw [i32lt] at q; omega)]
              have l1 := (i64s (a := i) (b := n) (c := nI m) (by omega) (by omega)).1
              have l2 := (i64s (a := j) (b := n) (c := nI m') (by omega) (by omega)).2
              rw [nI_toInt (by omega)] at l1 l2
              rw [if_neg (fun q => by have := l1.mp q; omega), if_pos (l2.mpr (by omega)), mv_eq]
              obtain ⟨i, rfl, hi, hi2⟩ := nI_of_toInt (x := i) (by omega)
              obtain ⟨j, rfl, hj, hj2⟩ := nI_of_toInt (x := j) (by omega)
              obtain ⟨n, rfl, hn, hn2⟩ := nI_of_toInt (x := n) (by omega)
              rw [← hi, ← hj, ← hn] at hok
              have eCp : bw_cp A (2 + r) 40 (nI i) (2 + t) 40 (nI j) (nI n) (fun M15 => some ((1 : Int32), M15)) = some ((1 : Int32), bw_pA A (2 + t) (va_cpy (A.1 (2 + r)) (A.1 (2 + t)) i j n)) := by
                unfold bw_cp
                rw [nI_clamp hi2, nI_clamp hj2, nI_clamp hn2, if_pos ⟨nI_pos' hi2, nI_pos' hj2, nI_pos' hn2, by omega, by omega⟩]
              rw [eCp]
              have hup : ∃ up : Bool, (up = true → j ≤ i) ∧ (up = false → i < j) := by
                by_cases q : j ≤ i
                · exact ⟨true, fun _ => q, (fun q => by cases q)⟩
                · exact ⟨false, (fun q => by cases q), (fun _ => by omega)⟩
              obtain ⟨up, u1, u2⟩ := hup
              have hb : (b : Nat) → b < n → (if up = true then b else n - 1 - b) < n := fun b hb => by split <;> omega
              unfold flX5_copy_104
              obtain ⟨k, hk⟩ := lp_for (body := fun kk w => fX5_copy_104 N (nI r) (nI i) (nI t) (nI j) (nI n) kk w.1 w.2) (fun k => (nI k, bw_pA B 1 (mvF (B.1 1) (40 * r + i) (40 * t + j) n up k))) n (fun k hk kk => by
                unfold fX5_copy_104 fX5_copy_129
                show (if nI n ≤ nI k then _ else _) = _
                rw [if_neg (nI_ge hk (by omega))]
                have ep : (if nI j ≤ nI i then nI k else nI n - 1 - nI k) = nI (if up = true then k else n - 1 - k) := by
                  cases up with
                  | true => rw [if_pos (nI_le (u1 rfl) (by omega)), if_pos rfl]
                  | false => rw [if_neg (nI_ge (u2 rfl) (by omega)), if_neg (by decide), show (1 : Int32) = nI 1 from rfl, pk_sub (by omega), pk_sub (by omega)]
                have ec : ∀ (X : Int32 → Option (Int32 × bw_M)) (a b : Int32), (if nI j ≤ nI i then X a else X b) = X (if nI j ≤ nI i then a else b) := fun X a b => by split <;> rfl
                rw [ec (fun s0 => bw_rd (bw_pA B 1 (mvF (B.1 1) (40 * r + i) (40 * t + j) n up k)) 1 240 (40 * nI r + nI i + s0) fun v12 => bw_wr (bw_pA B 1 (mvF (B.1 1) (40 * r + i) (40 * t + j) n up k)) 1 240 (40 * nI t + nI j + s0) v12 fun M13 => bw_mv (nI k + 1) fun v14 => kk (v14, M13)), ep]
                have hp := hb k hk
                rw [show (40 : Int32) = nI 40 from rfl, pk_mul, pk_mul, nI_add, nI_add, nI_add, nI_add, rd_ok (by omega) (by decide), wr_ok (by omega) (by decide), mv_eq, nI_1, bw_pA_self, pI_pA]
                rfl) n N 0 (by omega) (by omega)
              have e0 : (nI 0, bw_pA B 1 (mvF (B.1 1) (40 * r + i) (40 * t + j) n up 0)) = ((0 : Int32), B) := by
                show (nI 0, bw_pA B 1 (B.1 1)) = _
                rw [pA_id]; rfl
              simp only [e0] at hk
              rw [hk]
              unfold fX5_copy_104
              show OkI _ (if nI n ≤ nI n then _ else _)
              rw [if_pos (nI_le (Nat.le_refl _) (by omega))]
              have fin : ∀ q, mvF (B.1 1) (40 * r + i) (40 * t + j) n up n q = if 40 * t + j ≤ q ∧ q < 40 * t + j + n then B.1 1 (40 * r + i + (q - (40 * t + j))) else B.1 1 q := by
                intro q
                cases up with
                | true =>
                  have u1 := u1 rfl
                  exact mvF_up (by rcases Nat.lt_trichotomy r t with c | c | c <;> omega) n (Nat.le_refl _) q
                | false =>
                  have u2 := u2 rfl
                  have := mvF_dn (f := B.1 1) (a := 40 * r + i) (b := 40 * t + j) (n := n) (by rcases Nat.lt_trichotomy r t with c | c | c <;> omega) n (Nat.le_refl _) q
                  rw [this, show 40 * t + j + n - n = 40 * t + j by omega]
              refine ⟨_, _, _, rfl, rfl, ?_⟩
              obtain ⟨h1, h2, ⟨t1, t2, t3, t4, t5⟩, T, ds, ks, h4⟩ := h
              refine ⟨?_, h2.of (fun q _ _ => bw_pA_ne _ _ (by omega)) (bw_pA_ne _ _ (by omega)) (bw_pA_ne _ _ (by omega)), ⟨?_, t2, t3, ?_, ?_⟩, T, ds, ks, h4.of (fun q _ _ => bw_pA_ne _ _ (by omega)) (fun q _ _ => bw_pA_ne _ _ (by omega)) (by rw [bw_pA_ne _ _ (by decide)]) (by rw [bw_pA_ne _ _ (by decide)]) (fun q _ _ => bw_pA_ne _ _ (by omega)) (bw_pA_ne _ _ (by omega)) (bw_pA_ne _ _ (by omega))⟩
              · intro r' hr'
                obtain ⟨c1, c2, c3⟩ := h1 r' hr'
                rw [bw_pA_ne _ _ (show 8 ≠ 2 + t by omega), bw_pA_ne _ _ (show 2 ≠ 1 by decide), bw_pA_self]
                refine ⟨c1, c2, fun q hq => ?_⟩
                rw [fin]
                by_cases e9 : r' = t
                · subst e9
                  rw [bw_pA_self]
                  by_cases e8 : j ≤ q ∧ q < j + n
                  · rw [pk_cpy_in e8.1 e8.2, if_pos (by omega), a3 _ (by omega), show 40 * r + i + (40 * r' + q - (40 * r' + j)) = 40 * r + (i + (q - j)) by omega]
                  · rw [pk_cpy_out (by omega), if_neg (by omega)]
                    exact c3 q hq
                · rw [bw_pA_ne _ _ (by omega), if_neg (by omega)]
                  exact c3 q hq
              · rw [bw_pA_ne _ _ (by omega), bw_pA_ne _ _ (by decide)]; exact t1
              · rw [bw_pA_ne _ _ (by omega), bw_pA_ne _ _ (by decide)]; exact t4
              · intro f hf
                rw [bw_pA_ne _ _ (by omega), bw_pA_ne _ _ (by decide)]; exact t5 f hf
            · rw [if_neg hok]
              have fM : OkI (fX4_found 2 A) (fX5_found 2 B) := ok_found h (j := 2) (by decide) rfl
              by_cases c1 : i < 0
              · rw [if_pos c1]; exact fM
              · rw [if_neg c1]
                by_cases c2 : j < 0
                · rw [if_pos c2]; exact fM
                · rw [if_neg c2]
                  rw [i32lt] at c1 c2
                  have l1 := (i64s (a := i) (b := n) (c := nI m) (by omega) (by omega)).1
                  have l2 := (i64s (a := j) (b := n) (c := nI m') (by omega) (by omega)).2
                  rw [nI_toInt (by omega)] at l1 l2
                  by_cases c3 : (m : Int) < i.toInt + n.toInt
                  · rw [if_pos (l1.mpr c3)]; exact fM
                  · rw [if_neg (fun q => c3 (l1.mp q)), if_neg (fun q => by have := l2.mp q; omega)]; exact fM
      · rw [if_neg hn0, if_neg hn0]
        exact ok_found h (j := 5) (by decide) rfl
    · simp only [(isRow_ok hr).1, (isRow_ok hr).2, (isRow_no g1 g2).1, (isRow_no g1 g2).2, cl_some, if_neg i10, if_pos i00]
      exact OkI.same h _
  · simp only [(isRow_no g1 g2).1, (isRow_no g1 g2).2, cl_some, if_pos i00]
    exact OkI.same h _
