/-! duel -/
def kdC (A A' : bw_M) : Prop := (∀ q, (q < 22 ∨ 27 < q) → q ≠ 42 → q ≠ 43 → A'.1 q = A.1 q) ∧ A'.2 = A.2
def kdM (B B' : bw_M) : Prop := (∀ q, q ≠ 10 → q ≠ 17 → q ≠ 18 → B'.1 q = B.1 q) ∧ B'.2 = B.2
theorem kdC.kp {A A' : bw_M} (h : kdC A A') : kpC A A' := ⟨fun q _ a b => h.1 q a (by omega) (by omega), by rw [h.2]⟩
theorem kdM.kp {B B' : bw_M} (h : kdM B B') : kpM B B' := ⟨fun q _ a b => h.1 q a (by omega) (by omega), fun f _ => by rw [h.1 0 (by decide) (by decide) (by decide)], by rw [h.2]⟩
theorem kdC.tr {A B C : bw_M} (h : kdC A B) (g : kdC B C) : kdC A C := ⟨fun q a b c => (g.1 q a b c).trans (h.1 q a b c), g.2.trans h.2⟩
theorem kdM.tr {A B C : bw_M} (h : kdM A B) (g : kdM B C) : kdM A C := ⟨fun q a b c => (g.1 q a b c).trans (h.1 q a b c), g.2.trans h.2⟩
theorem kdC.rf (A : bw_M) : kdC A A := ⟨fun _ _ _ _ => rfl, rfl⟩
theorem kdM.rf (B : bw_M) : kdM B B := ⟨fun _ _ _ _ => rfl, rfl⟩
theorem kqC.kd {A A' : bw_M} (h : kqC A A') : kdC A A' := ⟨fun q a _ _ => h.1 q a, h.2⟩
theorem kqM.kd {B B' : bw_M} (h : kqM B B') : kdM B B' := ⟨fun q a _ _ => h.1 q a, h.2⟩
def s_bst (g : Nat → Int32) (fl : Bool) (c : Nat) : Nat → Int32
  | 0 => g c
  | i + 1 => if fl = true then (if s_bst g fl c i < g (c ^^^ 2 ^ i) then g (c ^^^ 2 ^ i) else s_bst g fl c i) else (if g (c ^^^ 2 ^ i) < s_bst g fl c i then g (c ^^^ 2 ^ i) else s_bst g fl c i)
theorem bst_cg {g g' : Nat → Int32} {fl : Bool} {c p : Nat} (hc : c < 2 ^ p) (h : ∀ j, j < 2 ^ p → g j = g' j) : ∀ i, i ≤ p → s_bst g fl c i = s_bst g' fl c i := by
  intro i
  induction i with
  | zero => intro _; exact h c hc
  | succ i ih =>
    intro hi
    have hx : c ^^^ 2 ^ i < 2 ^ p := Nat.xor_lt_two_pow hc (Nat.pow_lt_pow_right (by decide) (by omega))
    show (if fl = true then _ else _) = (if fl = true then _ else _)
    rw [ih (by omega), h _ hx]
theorem best_C {N : Nat} (hN : 2000 ≤ N) {A : bw_M} {p : Nat} (hp : p ≤ 6) (eA : A.1 16 0 = nI p) {c : Nat} (hc : c < 2 ^ p) (fl : Bool) : fX4_bestGain N (nI c) (bI fl) A = some (s_bst (A.1 42) fl c p) := by
  have hc64 := p64 hp hc
  unfold fX4_bestGain flX4_bestGain_10
  rw [rd_ok hc64 (by decide), mv_eq]
  obtain ⟨k, hk⟩ := lp_for (body := fun kk w => fX4_bestGain_10 N (nI c) (bI fl) kk w.1 w.2 A) (fun i => (s_bst (A.1 42) fl c i, nI i)) p (fun i hi kk => by
    show fX4_bestGain_10 N (nI c) (bI fl) kk (s_bst (A.1 42) fl c i) (nI i) A = _
    have hx : c ^^^ 2 ^ i < 2 ^ p := Nat.xor_lt_two_pow hc (Nat.pow_lt_pow_right (by decide) (by omega))
    unfold fX4_bestGain_10 fX4_bestGain_54
    rw [eA, if_neg (nI_ge hi (by omega)), xorI c hc64 i (by omega), rd_ok (p64 hp hx) (by decide), mv_eq, mv_eq, nI_1]
    cases fl with
    | true => rw [if_neg (show ¬ bI true = 0 by decide)]; rfl
    | false => rw [if_pos bI_f]; rfl) p N 0 (by omega) (by omega)
  refine (show _ = _ from hk).trans ?_
  show fX4_bestGain_10 N (nI c) (bI fl) k (s_bst (A.1 42) fl c p) (nI p) A = _
  unfold fX4_bestGain_10
  rw [eA, if_pos (nI_le (Nat.le_refl _) (by omega))]
theorem mn_eq (a b : Int32) : (if b < a then b else a) = if b ≤ a then b else a := by
  by_cases h : b < a
  · rw [if_pos h, if_pos (by rw [i32le]; have := (i32lt _ _).mp h; omega)]
  · rw [if_neg h]
    by_cases h2 : b ≤ a
    · rw [if_pos h2]
      have h3 := (i32le _ _).mp h2
      have h4 : ¬ b.toInt < a.toInt := fun q => h ((i32lt _ _).mpr q)
      exact Int32.toInt_inj.mp (by omega)
    · rw [if_neg h2]
theorem best_M {N : Nat} (hN : 2000 ≤ N) {B : bw_M} {p : Nat} (hp : p ≤ 6) (eB : B.1 0 9 = nI p) {c : Nat} (hc : c < 2 ^ p) (fl : Bool) : fX5_weighs N (nI c) (bI fl) B = some (s_bst (B.1 17) fl c p) := by
  have hc64 := p64 hp hc
  unfold fX5_weighs flX5_weighs_10
  rw [rd_ok hc64 (by decide), mv_eq]
  obtain ⟨k, hk⟩ := lp_for (body := fun kk w => fX5_weighs_10 N (nI c) (bI fl) kk w.1 w.2 B) (fun i => (s_bst (B.1 17) fl c i, nI i)) p (fun i hi kk => by
    show fX5_weighs_10 N (nI c) (bI fl) kk (s_bst (B.1 17) fl c i) (nI i) B = _
    have hx : c ^^^ 2 ^ i < 2 ^ p := Nat.xor_lt_two_pow hc (Nat.pow_lt_pow_right (by decide) (by omega))
    unfold fX5_weighs_10 fX5_weighs_44 fX5_weighs_53
    rw [eB, if_neg (nI_ge hi (by omega)), xorI c hc64 i (by omega), rd_ok (p64 hp hx) (by decide), mv_eq, mv_eq, nI_1]
    cases fl with
    | true =>
      rw [if_neg (show ¬ bI true = 0 by decide), if_pos (show bI true = 1 from rfl)]
      show _ = kk ((if s_bst (B.1 17) true c i < B.1 17 (c ^^^ 2 ^ i) then B.1 17 (c ^^^ 2 ^ i) else s_bst (B.1 17) true c i), nI (i + 1))
      by_cases q : B.1 17 (c ^^^ 2 ^ i) ≤ s_bst (B.1 17) true c i
      · rw [if_pos q, if_neg (Int32.not_lt.mpr q)]
      · rw [if_neg q, if_pos (Int32.not_le.mp q)]
    | false =>
      rw [if_pos bI_f, if_neg (show ¬ bI false = 1 by decide)]
      show _ = kk ((if B.1 17 (c ^^^ 2 ^ i) < s_bst (B.1 17) false c i then B.1 17 (c ^^^ 2 ^ i) else s_bst (B.1 17) false c i), nI (i + 1))
      rw [mn_eq]
      by_cases q : B.1 17 (c ^^^ 2 ^ i) ≤ s_bst (B.1 17) false c i
      · rw [if_pos q, if_pos q]
      · rw [if_neg q, if_neg q]) p N 0 (by omega) (by omega)
  refine (show _ = _ from hk).trans ?_
  show fX5_weighs_10 N (nI c) (bI fl) k (s_bst (B.1 17) fl c p) (nI p) B = _
  unfold fX5_weighs_10
  rw [eB, if_pos (nI_le (Nat.le_refl _) (by omega))]
/-- the first k, told anew -/
def nwF (f g : Nat → Int32) (k : Nat) : Nat → Int32 := fun j => if j < k then g j else f j
theorem nwF_0 (f g : Nat → Int32) : nwF f g 0 = f := by funext j; exact if_neg (by omega)
theorem nwF_s (f g : Nat → Int32) (k : Nat) : upd (nwF f g k) k (g k) = nwF f g (k + 1) := by
  funext j
  unfold upd nwF
  by_cases e : j = k
  · rw [if_pos e, if_pos (by omega), e]
  · rw [if_neg e]
    by_cases q : j < k
    · rw [if_pos q, if_pos (by omega)]
    · rw [if_neg q, if_neg (by omega)]
theorem turn_C {N : Nat} (hN : 2000 ≤ N) {A : bw_M} {p : Nat} (hp : p ≤ 6) (eA : A.1 16 0 = nI p) (x y : Int32) (fl : Bool) (hy : (y - y / 2 * 2 = 0) ↔ fl = true) : ∃ A', (∀ k, flX4_duel_74 N x k (nI (2 ^ p)) y N (0, A) = k (y + Int32.ofInt (-1), A')) ∧ (∀ j, j < 2 ^ p → A'.1 42 j = s_bst (A.1 42) fl j p) ∧ kdC A A' := by
  obtain ⟨w1, w2⟩ := pw6 hp
  refine ⟨bw_pA (bw_pA A 43 (nwF (A.1 43) (fun c => s_bst (A.1 42) fl c p) (2 ^ p))) 42 (va_cpy (nwF (A.1 43) (fun c => s_bst (A.1 42) fl c p) (2 ^ p)) (A.1 42) 0 0 (2 ^ p)), fun k => ?_, fun j hj => ?_, ⟨fun q _ a b => by rw [bw_pA_ne _ _ a, bw_pA_ne _ _ b], rfl⟩⟩
  · unfold flX4_duel_74
    obtain ⟨k', hk⟩ := lp_for (body := fun kk w => fX4_duel_74 N x k kk (nI (2 ^ p)) y w.1 w.2) (fun i => (nI i, bw_pA A 43 (nwF (A.1 43) (fun c => s_bst (A.1 42) fl c p) i))) (2 ^ p) (fun i hi kk => by
      show fX4_duel_74 N x k kk (nI (2 ^ p)) y (nI i) (bw_pA A 43 (nwF (A.1 43) (fun c => s_bst (A.1 42) fl c p) i)) = _
      have hb : ∀ z, z = bI fl → fX4_duel_100 N x k kk (nI (2 ^ p)) y (nI i) (nI i) (nI i) z (bw_pA A 43 (nwF (A.1 43) (fun c => s_bst (A.1 42) fl c p) i)) = kk (nI (i + 1), bw_pA A 43 (nwF (A.1 43) (fun c => s_bst (A.1 42) fl c p) (i + 1))) := fun z hz => by
        subst hz
        unfold fX4_duel_100
        rw [best_C hN hp (by rw [bw_pA_ne _ _ (by decide)]; exact eA) hi fl, cl_some, wr_ok (p64 hp hi) (by decide), mv_eq, nI_1, bw_pA_ne _ _ (by decide), pI_pA, show s_bst (A.1 42) fl i p = (fun c => s_bst (A.1 42) fl c p) i from rfl, nwF_s]
      unfold fX4_duel_74
      rw [if_neg (nI_ge hi (by omega))]
      by_cases q : y - y / 2 * 2 = 0
      · rw [if_pos q]; exact hb 1 (by rw [hy.mp q]; rfl)
      · rw [if_neg q]; exact hb 0 (by rw [show fl = false by cases fl; rfl; exact absurd (hy.mpr rfl) q]; rfl)) (2 ^ p) N 0 (by omega) (by omega)
    have e0 : ((0 : Int32), A) = (nI 0, bw_pA A 43 (nwF (A.1 43) (fun c => s_bst (A.1 42) fl c p) 0)) := by rw [nwF_0, pA_id]; rfl
    rw [e0]
    refine (show _ = _ from hk).trans ?_
    show fX4_duel_74 N x k k' (nI (2 ^ p)) y (nI (2 ^ p)) (bw_pA A 43 (nwF (A.1 43) (fun c => s_bst (A.1 42) fl c p) (2 ^ p))) = _
    unfold fX4_duel_74 bw_cp
    have ez : (0 : Int32).toNatClampNeg = 0 := by decide
    rw [if_pos (nI_le (Nat.le_refl _) (by omega)), if_pos ⟨by decide, by decide, nI_pos' (by omega), by rw [ez, nI_clamp (by omega)]; omega, by rw [ez, nI_clamp (by omega)]; omega⟩]
    show k (_, bw_pA _ 42 (va_cpy _ _ _ _ _)) = _
    rw [ez, nI_clamp (by omega), bw_pA_self, bw_pA_ne _ _ (by decide)]
  · rw [bw_pA_self, pk_cpy_in (by omega) (by omega), show 0 + (j - 0) = j by omega]
    exact if_pos hj
theorem turn_M {N : Nat} (hN : 2000 ≤ N) {B : bw_M} {p : Nat} (hp : p ≤ 6) (eB : B.1 0 9 = nI p) (x y : Int32) (fl : Bool) (hy : (y - y / 2 * 2 = 1) ↔ fl = true) : ∃ B', (∀ k, flX5_duel_99 N x k (nI (2 ^ p)) y N (0, B) = k (y + Int32.ofInt (-1), B')) ∧ (∀ j, j < 2 ^ p → B'.1 17 j = s_bst (B.1 17) fl j p) ∧ kdM B B' := by
  obtain ⟨w1, w2⟩ := pw6 hp
  refine ⟨bw_pA (bw_pA B 18 (nwF (B.1 18) (fun c => s_bst (B.1 17) fl c p) (2 ^ p))) 17 (va_cpy (nwF (B.1 18) (fun c => s_bst (B.1 17) fl c p) (2 ^ p)) (B.1 17) 0 0 (2 ^ p)), fun k => ?_, fun j hj => ?_, ⟨fun q _ a b => by rw [bw_pA_ne _ _ a, bw_pA_ne _ _ b], rfl⟩⟩
  · unfold flX5_duel_99
    obtain ⟨k', hk⟩ := lp_for (body := fun kk w => fX5_duel_99 N x k kk (nI (2 ^ p)) y w.1 w.2) (fun i => (nI i, bw_pA B 18 (nwF (B.1 18) (fun c => s_bst (B.1 17) fl c p) i))) (2 ^ p) (fun i hi kk => by
      show fX5_duel_99 N x k kk (nI (2 ^ p)) y (nI i) (bw_pA B 18 (nwF (B.1 18) (fun c => s_bst (B.1 17) fl c p) i)) = _
      have hb : ∀ z, z = bI fl → fX5_duel_126 N x k kk (nI (2 ^ p)) y (nI i) (nI i) (nI i) z (bw_pA B 18 (nwF (B.1 18) (fun c => s_bst (B.1 17) fl c p) i)) = kk (nI (i + 1), bw_pA B 18 (nwF (B.1 18) (fun c => s_bst (B.1 17) fl c p) (i + 1))) := fun z hz => by
        subst hz
        unfold fX5_duel_126
        rw [best_M hN hp (by rw [bw_pA_ne _ _ (by decide)]; exact eB) hi fl, cl_some, wr_ok (p64 hp hi) (by decide), mv_eq, nI_1, bw_pA_ne _ _ (by decide), pI_pA, show s_bst (B.1 17) fl i p = (fun c => s_bst (B.1 17) fl c p) i from rfl, nwF_s]
      unfold fX5_duel_99
      rw [if_neg (nI_ge hi (by omega))]
      by_cases q : y - y / 2 * 2 = 1
      · rw [if_pos q]; exact hb 1 (by rw [hy.mp q]; rfl)
      · rw [if_neg q]; exact hb 0 (by rw [show fl = false by cases fl; rfl; exact absurd (hy.mpr rfl) q]; rfl)) (2 ^ p) N 0 (by omega) (by omega)
    have e0 : ((0 : Int32), B) = (nI 0, bw_pA B 18 (nwF (B.1 18) (fun c => s_bst (B.1 17) fl c p) 0)) := by rw [nwF_0, pA_id]; rfl
    rw [e0]
    refine (show _ = _ from hk).trans ?_
    show fX5_duel_99 N x k k' (nI (2 ^ p)) y (nI (2 ^ p)) (bw_pA B 18 (nwF (B.1 18) (fun c => s_bst (B.1 17) fl c p) (2 ^ p))) = _
    unfold fX5_duel_99
    rw [if_pos (nI_le (Nat.le_refl _) (by omega)), copies_eq (x := 0) (y := 0) (z := nI (2 ^ p)) (a := 0) (b := 0) (m := 2 ^ p) rfl rfl rfl (by decide) (by omega) (by omega) (by decide) (by decide) (by omega), cl_some, mv_eq, bw_pA_self, bw_pA_ne _ _ (by decide)]
  · rw [bw_pA_self, pk_cpy_in (by omega) (by omega), show 0 + (j - 0) = j by omega]
    exact if_pos hj
def s_tv (m : Nat) : Int32 := if m = 0 then -1 else nI (m - 1)
theorem tv_s : ∀ m, m < 5 → 0 < m → s_tv m + Int32.ofInt (-1) = s_tv (m - 1) ∧ nI m + Int32.ofInt (-1) = nI (m - 1) ∧ (s_tv m - s_tv m / 2 * 2 = 0 ↔ decide (m % 2 = 1) = true) ∧ (nI m - nI m / 2 * 2 = 1 ↔ decide (m % 2 = 1) = true) ∧ ¬ s_tv m < 0 ∧ ¬ nI m ≤ 0 := by decide +kernel
theorem ebu : ∀ w, w < 64 → nI w &&& 21 = nI (w &&& 21) ∧ nI w &&& 42 = nI (w &&& 42) ∧ w &&& 21 < 64 ∧ w &&& 42 < 64 := by decide +kernel
theorem ok_duel {N : Nat} (hN : 2000 ≤ N) {A B : bw_M} (h : Rel A B) (x : Int32) : OkI (fX4_duel N x A) (fX5_duel N x B) := by
  obtain ⟨T, ds, ks, h⟩ := h.rl
  have hp6 := h.p6
  obtain ⟨-, -, -, hT, ⟨b1, b2, b3⟩, hds, ⟨m1, m2, m3, m4⟩, hk⟩ := id h
  have hs := h.sok
  obtain ⟨w1, w2⟩ := pw6 hp6
  unfold fX4_duel fX4_duel_9 fX5_duel
  rw [in_I x 0 2 (by decide) (by decide), cl_some]
  rcases rng x 2 (by decide) with ⟨n, hn, rfl⟩ | hx
  · rw [if_neg (nI_pos (by omega)), if_pos (show nI n ≤ (2 : Int32) from nI_le (b := 2) hn (by decide)), if_pos (show (0 : Int32) ≤ nI n ∧ nI n ≤ 2 from ⟨nI_pos' (by omega), nI_le (b := 2) hn (by decide)⟩), if_neg i10, h.eA, h.eB]
    by_cases hp : T.1 = 0
    · rw [if_pos ((nI_0' (by omega)).mpr hp), if_pos ((nI_0' (by omega)).mpr hp)]
      exact OkI.same h.rel _
    · rw [if_neg (fun q => hp ((nI_0' (by omega)).mp q)), if_neg (fun q => hp ((nI_0' (by omega)).mp q)), all_eq hp6 h.eA, cl_some, shlI _ hp6]
      simp only [mv_eq]
      rw [show nI (2 ^ T.1 - 1) + 1 = nI (2 ^ T.1) by rw [nI_1, show 2 ^ T.1 - 1 + 1 = 2 ^ T.1 by omega]]
      -- the turns
      have trn : ∀ (d : Nat), d ≤ 4 → ∀ (fu fu' : Nat) (A1 B1 : bw_M), d < fu → d < fu' → kdC A A1 → kdM B B1 → (∀ j, j < 2 ^ T.1 → A1.1 42 j = B1.1 17 j) → OkI (bw_lp (fun kk w => fX4_duel_67 N (nI n) kk (nI (2 ^ T.1)) w.1 w.2) fu (s_tv d, A1)) (bw_lp (fun kk w => fX5_duel_92 N (nI n) kk (nI (2 ^ T.1)) w.1 w.2) fu' (nI d, B1)) := by
        intro d
        induction d with
        | zero =>
          intro _ fu fu' A1 B1 hf hf' kA kB hg
          match fu, fu', hf, hf' with
          | fu + 1, fu' + 1, _, _ =>
            rw [bw_lp_s, bw_lp_s]
            show OkI (fX4_duel_67 N (nI n) _ (nI (2 ^ T.1)) (s_tv 0) A1) (fX5_duel_92 N (nI n) _ (nI (2 ^ T.1)) (nI 0) B1)
            unfold fX4_duel_67 fX5_duel_92
            rw [if_pos (show s_tv 0 < 0 by decide), if_pos (show nI 0 ≤ 0 by decide), kA.1 16 (by omega) (by decide) (by decide), b2.2.2.2.1, rd_ok (p64 hp6 hs.2.2.2.1) (by decide), r17_3, kB.1 9 (by decide) (by decide) (by decide), show B.1 9 3 = nI (s_rep T ds).2.2.2.1 from m2.2.2.2.1, rd_ok (p64 hp6 hs.2.2.2.1) (by decide), hg _ hs.2.2.2.1, c2_id, c2_id]
            exact ok_tell (h.kp kA.kp kB.kp).rel _
        | succ d ih =>
          intro hd fu fu' A1 B1 hf hf' kA kB hg
          obtain ⟨v1, v2, v3, v4, v5, v6⟩ := tv_s (d + 1) (by omega) (by omega)
          obtain ⟨A2, e1, e2, e3⟩ := turn_C hN hp6 (A := A1) (by rw [kA.1 16 (by omega) (by decide) (by decide)]; exact h.eA) (nI n) (s_tv (d + 1)) (decide ((d + 1) % 2 = 1)) v3
          obtain ⟨B2, f1, f2, f3⟩ := turn_M hN hp6 (B := B1) (by rw [kB.1 0 (by decide) (by decide) (by decide)]; exact h.eB) (nI n) (nI (d + 1)) (decide ((d + 1) % 2 = 1)) v4
          match fu, fu', hf, hf' with
          | fu + 1, fu' + 1, hf, hf' =>
            rw [bw_lp_s, bw_lp_s]
            show OkI (fX4_duel_67 N (nI n) _ (nI (2 ^ T.1)) (s_tv (d + 1)) A1) (fX5_duel_92 N (nI n) _ (nI (2 ^ T.1)) (nI (d + 1)) B1)
            have g1 : ∀ kk, fX4_duel_67 N (nI n) kk (nI (2 ^ T.1)) (s_tv (d + 1)) A1 = kk (s_tv d, A2) := fun kk => by
              unfold fX4_duel_67
              rw [if_neg v5, mv_eq, e1, v1]; rfl
            have g2 : ∀ kk, fX5_duel_92 N (nI n) kk (nI (2 ^ T.1)) (nI (d + 1)) B1 = kk (nI d, B2) := fun kk => by
              unfold fX5_duel_92
              rw [if_neg v6, mv_eq, f1, v2]; rfl
            rw [g1, g2]
            refine ih (by omega) fu fu' A2 B2 (by omega) (by omega) (kA.tr e3) (kB.tr f3) (fun j hj => ?_)
            rw [e2 j hj, f2 j hj]
            exact bst_cg hj hg T.1 (Nat.le_refl _)
      unfold flX4_duel_36 flX5_duel_33
      refine lp_two (fun k s t => s.1 = nI k ∧ t.1 = nI k ∧ kdC A s.2 ∧ kdM B t.2 ∧ ∀ j, j < k → s.2.1 42 j = t.2.1 17 j) OkI (2 ^ T.1) ?_ ?_ (2 ^ T.1) N N 0 _ _ (by omega) (by omega) (by omega) ⟨rfl, rfl, kdC.rf A, kdM.rf B, fun j hj => by omega⟩
      · intro k s t hk ⟨q1, q2, q3, q4, q5⟩
        left
        obtain ⟨A', B', A2, B2, e1, e2, e3, e4, e5, k1, k2⟩ := tr_try hN h (h.kp q3.kp q4.kp) (v := k) hk
        have hw : s_who T ((s_rep T ds).1, (s_rep T ds).2.1, (s_rep T ds).2.2.1, k, (s_rep T ds).2.2.2.2) < 64 := p64 hp6 (s_hr_ok (cut_ok hs hk)).1
        generalize s_who T ((s_rep T ds).1, (s_rep T ds).2.1, (s_rep T ds).2.2.1, k, (s_rep T ds).2.2.2.2) = w at *
        obtain ⟨u1, u2, u3, u4⟩ := ebu w hw
        refine ⟨(nI (k + 1), bw_pI A' 42 k (nI (s_cn (w &&& 21)) - nI (s_cn (w &&& 42)))), (nI (k + 1), bw_pI B' 17 k (nI (s_cn (w &&& 21)) - nI (s_cn (w &&& 42)))), ⟨rfl, rfl, (q3.tr k1.kd).tr ⟨fun q _ a _ => pI_ne a, rfl⟩, (q4.tr k2.kd).tr ⟨fun q _ a _ => pI_ne a, rfl⟩, fun j hj => ?_⟩, fun kk => ?_, fun kk => ?_⟩
        · show (bw_pI A' 42 k _).1 42 j = (bw_pI B' 17 k _).1 17 j
          rw [pI_rd, pI_rd]
          by_cases e : j = k
          · rw [if_pos e, if_pos e]
          · rw [if_neg e, if_neg e, k1.1 42 (by omega), k2.1 17 (by decide)]; exact q5 j (by omega)
        · show fX4_duel_36 N (nI n) kk (nI (2 ^ T.1)) s.1 s.2 = _
          unfold fX4_duel_36 fX4_spokenIfCut fX4_evenBeyondUneven
          rw [q1, if_neg (nI_ge hk (by omega)), e1, cl_some, mv_eq, e4, c2_some, c2_some, u1, u2, cn_C _ u3, cn_C _ u4, cl_some, cl_some, cl_some, wr_ok (p64 hp6 hk) (by decide), mv_eq, nI_1]
        · show fX5_duel_33 N (nI n) kk (nI (2 ^ T.1)) t.1 t.2 = _
          unfold fX5_duel_33
          rw [q2, if_neg (nI_ge hk (by omega)), e2, cl_some, w17_3, e5, c2_some, u1, u2, cn_M hN u3, cn_M hN u4, cl_some, cl_some, wr_ok (p64 hp6 hk) (by decide), mv_eq, nI_1]
      · intro s t ⟨q1, q2, q3, q4, q5⟩
        have hm := trn (2 * n) (by omega) N N s.2 t.2 (by omega) (by omega) q3 q4 q5
        refine ⟨_, _, hm, fun kk => ?_, fun kk => ?_⟩
        · show fX4_duel_36 N (nI n) kk (nI (2 ^ T.1)) s.1 s.2 = _
          unfold fX4_duel_36
          rw [q1, if_pos (nI_le (Nat.le_refl _) (by omega)), mv_eq, show (2 : Int32) * nI n - 1 = s_tv (2 * n) from (show ∀ n, n ≤ 2 → (2 : Int32) * nI n - 1 = s_tv (2 * n) by decide) n hn]
          rfl
        · show fX5_duel_33 N (nI n) kk (nI (2 ^ T.1)) t.1 t.2 = _
          unfold fX5_duel_33
          rw [q2, if_pos (nI_le (Nat.le_refl _) (by omega)), mv_eq, show (2 : Int32) * nI n = nI (2 * n) from pk_mul 2 n]
          rfl
  · rw [if_neg (show ¬ ((0 : Int32) ≤ x ∧ x ≤ 2) from hx), if_pos i00]
    by_cases q : x < 0
    · rw [if_pos q]; exact OkI.same h.rel _
    · rw [if_neg q, if_neg (show ¬ x ≤ (2 : Int32) from fun q2 => hx ⟨Int32.not_lt.mp q, q2⟩)]; exact OkI.same h.rel _
