/-! The towns in numbers, and how class and model hold them -/
def updN (f : Nat → Nat) (i v : Nat) : Nat → Nat := fun j => if j = i then v else f j
def s_want (k n h : Nat) : Nat := if k = 3 then n + 1 else if k = 4 then (if h % 3 = 2 then 0 else n) else if k = 5 then 2 * (n + 1) else n
def s_kp (k : Nat) : Bool := decide (k = 1 ∨ k = 4)
/-- a pipe in an hour: does it speak, the air and its saving behind it -/
def s_br (k n : Nat) (lk : Bool) (h air sv : Nat) : Bool × Nat × Nat :=
  let a := if lk = true then air - 1 else air
  let w := s_want k n h
  if w = 0 then (false, a, sv)
  else if w ≤ a then (if s_kp k = true ∧ 0 < a - w then (true, a - w - 1, min 20 (sv + 1)) else (true, a - w, sv))
  else if w ≤ a + sv then (true, 0, sv - (w - a))
  else (false, if k = 2 then 0 else a, sv)
def s_cf (cut : Nat) (fr : Nat → Nat) : Nat → Nat → Bool
  | 0, _ => false
  | f + 1, i => cut.testBit i || (decide (fr i ≠ 0) && s_cf cut fr f (fr i - 1))
def s_co (cut : Nat) (fr : Nat → Nat) (i : Nat) : Bool := s_cf cut fr (i + 1) i
abbrev Tw : Type := Nat × (Nat → Nat) × (Nat → Nat) × (Nat → Nat) × Nat × Nat
abbrev Sd : Type := Nat × Nat × Nat × Nat × Nat × (Nat → Nat) × (Nat → Nat)
def s_step (kd nd : Nat → Nat) (co : Nat → Bool) (h lk i : Nat) (st : Nat × Nat × (Nat → Nat) × (Nat → Nat)) : Nat × Nat × (Nat → Nat) × (Nat → Nat) :=
  if co i = true then st else
    let r := s_br (kd i) (nd i) (lk.testBit i) h st.2.1 (st.2.2.1 i)
    (if r.1 = true then st.1 ||| 2 ^ i else st.1, r.2.1, updN st.2.2.1 i r.2.2, if r.1 = true then updN st.2.2.2 i (st.2.2.2 i + 1) else st.2.2.2)
def s_run (kd nd : Nat → Nat) (co : Nat → Bool) (h lk : Nat) (st : Nat × Nat × (Nat → Nat) × (Nat → Nat)) : Nat → Nat × Nat × (Nat → Nat) × (Nat → Nat)
  | 0 => st
  | i + 1 => s_step kd nd co h lk i (s_run kd nd co h lk st i)
/-- an hour: who spoke, and how it stands then -/
def s_hr (T : Tw) (S : Sd) : Nat × Nat × (Nat → Nat) × (Nat → Nat) := s_run T.2.1 T.2.2.2.1 (s_co S.2.2.2.1 T.2.2.1) S.2.2.1 S.2.2.2.2.1 (0, min 60 (S.1 + S.2.1), S.2.2.2.2.2.1, S.2.2.2.2.2.2) T.1
def s_who (T : Tw) (S : Sd) : Nat := (s_hr T S).1
def s_blow (T : Tw) (S : Sd) : Sd := ((s_hr T S).2.1, S.2.1, S.2.2.1 + 1, S.2.2.2.1, S.2.2.2.2.1, (s_hr T S).2.2.1, (s_hr T S).2.2.2)
def s_ini (T : Tw) : Sd := (T.2.2.2.2.1, T.2.2.2.2.2, 0, 0, 0, fun _ => 0, fun _ => 0)
abbrev Dd : Type := Nat × Int
def s_und (T : Tw) (S : Sd) (d : Dd) : Sd :=
  if d.1 = 0 then s_blow T S
  else if d.1 = 1 then ((min 60 (max 0 ((S.1 : Int) + d.2))).toNat, S.2)
  else if d.1 = 2 then (S.1, S.2.1, S.2.2.1, S.2.2.2.1 ^^^ 2 ^ d.2.toNat, S.2.2.2.2)
  else if d.1 = 3 then (S.1, S.2.1, S.2.2.1, S.2.2.2.1, S.2.2.2.2.1 ^^^ 2 ^ d.2.toNat, S.2.2.2.2.2)
  else (S.1, d.2.toNat, S.2.2)
def s_rep (T : Tw) (ds : List Dd) : Sd := ds.foldl (s_und T) (s_ini T)
def eF (b : Nat) : Int32 := if b = 0 then (-9 : Int32) else nI (b - 1)
def t_ok (T : Tw) : Prop := T.1 ≤ 6 ∧ T.2.2.2.2.1 ≤ 60 ∧ T.2.2.2.2.2 ≤ 9 ∧ ∀ i, i < T.1 → T.2.1 i ≤ 5 ∧ T.2.2.1 i ≤ i ∧ 1 ≤ T.2.2.2.1 i ∧ T.2.2.2.1 i ≤ 9
def s_ok (p B : Nat) (S : Sd) : Prop := S.1 ≤ 60 ∧ S.2.1 ≤ 9 ∧ S.2.2.1 ≤ B ∧ S.2.2.2.1 < 2 ^ p ∧ S.2.2.2.2.1 < 2 ^ p ∧ ∀ i, i < 6 → S.2.2.2.2.2.1 i ≤ 20 ∧ S.2.2.2.2.2.2 i ≤ B
def d_ok (p : Nat) (d : Dd) : Prop := d.1 ≤ 4 ∧ (d.1 = 1 → -9 ≤ d.2 ∧ d.2 ≤ 9) ∧ (d.1 = 2 ∨ d.1 = 3 → 0 ≤ d.2 ∧ d.2 < p) ∧ (d.1 = 4 → 0 ≤ d.2 ∧ d.2 ≤ 9)
def c_tw (M : bw_M) (c : Nat) (T : Tw) : Prop := M.1 c 0 = nI T.1 ∧ M.1 c 1 = nI T.2.2.2.2.1 ∧ M.1 c 2 = nI T.2.2.2.2.2 ∧ ∀ i, i < T.1 → M.1 (c + 1) i = nI (T.2.1 i) ∧ M.1 (c + 2) i = eF (T.2.2.1 i) ∧ M.1 (c + 3) i = nI (T.2.2.2.1 i)
def c_st (M : bw_M) (c : Nat) (S : Sd) : Prop := M.1 c 3 = nI S.1 ∧ M.1 c 4 = nI S.2.1 ∧ M.1 c 5 = nI S.2.2.1 ∧ M.1 c 6 = nI S.2.2.2.1 ∧ M.1 c 7 = nI S.2.2.2.2.1 ∧ ∀ i, i < 6 → M.1 (c + 4) i = nI (S.2.2.2.2.2.1 i) ∧ M.1 (c + 5) i = nI (S.2.2.2.2.2.2 i)
def m_tw (M : bw_M) (T : Tw) : Prop := M.1 0 9 = nI T.1 ∧ ∀ i, i < T.1 → M.1 6 i = nI (T.2.1 i) ∧ M.1 7 i = eF (T.2.2.1 i) ∧ M.1 8 i = nI (T.2.2.2.1 i)
def m_st (M : bw_M) (q o : Nat) (S : Sd) : Prop := M.1 q o = nI S.1 ∧ M.1 q (o + 1) = nI S.2.1 ∧ M.1 q (o + 2) = nI S.2.2.1 ∧ M.1 q (o + 3) = nI S.2.2.2.1 ∧ M.1 q (o + 4) = nI S.2.2.2.2.1 ∧ ∀ i, i < 6 → M.1 q (o + 5 + i) = nI (S.2.2.2.2.2.1 i) ∧ M.1 q (o + 11 + i) = nI (S.2.2.2.2.2.2 i)
def c_ds (M : bw_M) (c : Nat) (ds : List Dd) : Prop := M.1 c 2 = nI ds.length ∧ ds.length ≤ 40 ∧ ∀ k d, ds[k]? = some d → M.1 (c + 1) k = nI d.1 ∧ M.1 (c + 2) k = Int32.ofInt d.2
def rl_rows (A B : bw_M) : Prop := ∀ r, r < 6 → A.1 8 r = B.1 2 r ∧ (A.1 8 r = -1 ∨ ∃ n, n ≤ 40 ∧ A.1 8 r = nI n) ∧ ∀ i, i < 40 → A.1 (2 + r) i = B.1 1 (40 * r + i)
def rl_txts (A B : bw_M) : Prop := ∀ t, t < 4 → A.1 14 t = B.1 4 t ∧ (A.1 14 t = -1 ∨ ∃ n, n ≤ 60 ∧ A.1 14 t = nI n) ∧ ∀ i, i < 60 → A.1 (10 + t) i = B.1 3 (60 * t + i)
def rl_told (A B : bw_M) : Prop := A.1 0 14 = B.1 0 4 ∧ A.2.1 15 = B.2.1 5 ∧ A.2.1 16 = B.2.1 6 ∧ A.1 0 13 = B.1 0 7 ∧ ∀ f, f < 6 → A.1 44 f = B.1 5 f
def rl_kept (A B : bw_M) (T : Tw) (j : Nat) : Option (List Dd) → Prop
  | none => A.1 (32 + 3 * j) 2 = -1 ∧ B.1 12 (698 * j) = -1
  | some es => c_ds A (32 + 3 * j) es ∧ (∀ d, d ∈ es → d_ok T.1 d) ∧ B.1 12 (698 * j) = nI es.length ∧ m_st B 12 (698 * j + 1) (s_rep T es) ∧ ∀ k, k < es.length → m_st B 12 (698 * j + 18 + 17 * k) (s_rep T (es.take k))
def rl_town (A B : bw_M) (T : Tw) (ds : List Dd) (ks : Nat → Option (List Dd)) : Prop :=
  t_ok T ∧ (c_tw A 16 T ∧ c_st A 16 (s_rep T ds) ∧ c_ds A 28 ds) ∧ (∀ d, d ∈ ds → d_ok T.1 d) ∧ (m_tw B T ∧ m_st B 9 0 (s_rep T ds) ∧ B.1 0 16 = nI ds.length ∧ ∀ k, k < ds.length → m_st B 11 (17 * k) (s_rep T (ds.take k))) ∧ ∀ j, j < 3 → rl_kept A B T j (ks j)
def Rel (A B : bw_M) : Prop := rl_rows A B ∧ rl_txts A B ∧ rl_told A B ∧ ∃ T ds ks, rl_town A B T ds ks
/-- what is laid aside may change -/
def kpC (A A' : bw_M) : Prop := (∀ q, q ≠ 15 → (q < 22 ∨ 27 < q) → (q < 41 ∨ 43 < q) → A'.1 q = A.1 q) ∧ A'.2.1 = A.2.1
def kpM (B B' : bw_M) : Prop := (∀ q, q ≠ 0 → q ≠ 10 → (q < 13 ∨ 18 < q) → B'.1 q = B.1 q) ∧ (∀ f, f < 18 → B'.1 0 f = B.1 0 f) ∧ B'.2.1 = B.2.1
theorem kpC.rf (A : bw_M) : kpC A A := ⟨fun _ _ _ _ => rfl, rfl⟩
theorem kpM.rf (B : bw_M) : kpM B B := ⟨fun _ _ _ _ => rfl, fun _ _ => rfl, rfl⟩
theorem kpC.tr {A B C : bw_M} (h : kpC A B) (g : kpC B C) : kpC A C := ⟨fun q a b c => (g.1 q a b c).trans (h.1 q a b c), g.2.trans h.2⟩
theorem kpM.tr {A B C : bw_M} (h : kpM A B) (g : kpM B C) : kpM A C := ⟨fun q a b c => (g.1 q a b c).trans (h.1 q a b c), fun f a => (g.2.1 f a).trans (h.2.1 f a), g.2.2.trans h.2.2⟩
theorem rl_rows.of {A A' B B' : bw_M} (h : rl_rows A B) (h1 : ∀ q, 2 ≤ q → q ≤ 8 → A'.1 q = A.1 q) (h2 : B'.1 1 = B.1 1) (h3 : B'.1 2 = B.1 2) : rl_rows A' B' := by
  intro r hr
  rw [h1 8 (by omega) (by omega), h1 (2 + r) (by omega) (by omega), h2, h3]
  exact h r hr
theorem rl_txts.of {A A' B B' : bw_M} (h : rl_txts A B) (h1 : ∀ q, 10 ≤ q → q ≤ 14 → A'.1 q = A.1 q) (h2 : B'.1 3 = B.1 3) (h3 : B'.1 4 = B.1 4) : rl_txts A' B' := by
  intro r hr
  rw [h1 14 (by omega) (by omega), h1 (10 + r) (by omega) (by omega), h2, h3]
  exact h r hr
theorem c_tw.of {A A' : bw_M} {c : Nat} {T : Tw} (h : c_tw A c T) (h1 : ∀ q, c ≤ q → q ≤ c + 3 → A'.1 q = A.1 q) : c_tw A' c T := by
  unfold c_tw
  rw [h1 c (by omega) (by omega), h1 (c + 1) (by omega) (by omega), h1 (c + 2) (by omega) (by omega), h1 (c + 3) (by omega) (by omega)]
  exact h
theorem c_st.of {A A' : bw_M} {c : Nat} {S : Sd} (h : c_st A c S) (h1 : A'.1 c = A.1 c) (h2 : A'.1 (c + 4) = A.1 (c + 4)) (h3 : A'.1 (c + 5) = A.1 (c + 5)) : c_st A' c S := by
  unfold c_st
  rw [h1, h2, h3]
  exact h
theorem c_ds.of {A A' : bw_M} {c : Nat} {ds : List Dd} (h : c_ds A c ds) (h1 : A'.1 c = A.1 c) (h2 : A'.1 (c + 1) = A.1 (c + 1)) (h3 : A'.1 (c + 2) = A.1 (c + 2)) : c_ds A' c ds := by
  unfold c_ds
  rw [h1, h2, h3]
  exact h
theorem m_st.of {B B' : bw_M} {q o : Nat} {S : Sd} (h : m_st B q o S) (h1 : B'.1 q = B.1 q) : m_st B' q o S := by
  unfold m_st
  rw [h1]
  exact h
theorem rl_kept.of {A A' B B' : bw_M} {T : Tw} {j : Nat} {o : Option (List Dd)} (h : rl_kept A B T j o) (hj : j < 3) (h1 : ∀ q, 32 ≤ q → q ≤ 40 → A'.1 q = A.1 q) (h2 : B'.1 12 = B.1 12) : rl_kept A' B' T j o := by
  cases o with
  | none =>
    unfold rl_kept at h ⊢
    rw [h1 (32 + 3 * j) (by omega) (by omega), h2]
    exact h
  | some es =>
    obtain ⟨a, b, c, d, e⟩ := h
    exact ⟨a.of (h1 _ (by omega) (by omega)) (h1 _ (by omega) (by omega)) (h1 _ (by omega) (by omega)), b, by rw [h2]; exact c, d.of h2, fun k hk => (e k hk).of h2⟩
theorem m_tw.of {B B' : bw_M} {T : Tw} (h : m_tw B T) (h1 : B'.1 0 9 = B.1 0 9) (h2 : ∀ q, 6 ≤ q → q ≤ 8 → B'.1 q = B.1 q) : m_tw B' T := by
  unfold m_tw
  rw [h1, h2 6 (by omega) (by omega), h2 7 (by omega) (by omega), h2 8 (by omega) (by omega)]
  exact h
theorem rl_town.of {A A' B B' : bw_M} {T : Tw} {ds : List Dd} {ks : Nat → Option (List Dd)} (h : rl_town A B T ds ks) (h1 : ∀ q, 16 ≤ q → q ≤ 21 → A'.1 q = A.1 q) (h2 : ∀ q, 28 ≤ q → q ≤ 40 → A'.1 q = A.1 q) (g0 : B'.1 0 9 = B.1 0 9) (g1 : B'.1 0 16 = B.1 0 16) (g2 : ∀ q, 6 ≤ q → q ≤ 9 → B'.1 q = B.1 q) (g3 : B'.1 11 = B.1 11) (g4 : B'.1 12 = B.1 12) : rl_town A' B' T ds ks := by
  obtain ⟨a, ⟨b, c, d⟩, e, ⟨f, g, i, j⟩, k⟩ := h
  exact ⟨a, ⟨b.of (fun q x y => h1 q x (by omega)), c.of (h1 _ (by omega) (by omega)) (h1 _ (by omega) (by omega)) (h1 _ (by omega) (by omega)), d.of (h2 _ (by omega) (by omega)) (h2 _ (by omega) (by omega)) (h2 _ (by omega) (by omega))⟩, e, ⟨f.of g0 (fun q x y => g2 q x (by omega)), g.of (g2 _ (by omega) (by omega)), by rw [g1]; exact i, fun k hk => (j k hk).of g3⟩, fun j' hj => (k j' hj).of hj (fun q x y => h2 q (by omega) y) g4⟩
theorem Rel.kp {A A' B B' : bw_M} (h : Rel A B) (hC : kpC A A') (hM : kpM B B') : Rel A' B' := by
  obtain ⟨h1, h2, ⟨t1, t2, t3, t4, t5⟩, T, ds, ks, h4⟩ := h
  have c : ∀ q, q ≠ 15 → (q < 22 ∨ 27 < q) → (q < 41 ∨ 43 < q) → A'.1 q = A.1 q := hC.1
  have m : ∀ q, q ≠ 0 → q ≠ 10 → (q < 13 ∨ 18 < q) → B'.1 q = B.1 q := hM.1
  refine ⟨h1.of (fun q _ _ => c q (by omega) (by omega) (by omega)) (m 1 (by omega) (by omega) (by omega)) (m 2 (by omega) (by omega) (by omega)), h2.of (fun q _ _ => c q (by omega) (by omega) (by omega)) (m 3 (by omega) (by omega) (by omega)) (m 4 (by omega) (by omega) (by omega)), ⟨?_, ?_, ?_, ?_, ?_⟩, T, ds, ks, h4.of (fun q _ _ => c q (by omega) (by omega) (by omega)) (fun q _ _ => c q (by omega) (by omega) (by omega)) (hM.2.1 9 (by omega)) (hM.2.1 16 (by omega)) (fun q _ _ => m q (by omega) (by omega) (by omega)) (m 11 (by omega) (by omega) (by omega)) (m 12 (by omega) (by omega) (by omega))⟩
  · rw [c 0 (by omega) (by omega) (by omega), hM.2.1 4 (by omega)]; exact t1
  · rw [hC.2, hM.2.2]; exact t2
  · rw [hC.2, hM.2.2]; exact t3
  · rw [c 0 (by omega) (by omega) (by omega), hM.2.1 7 (by omega)]; exact t4
  · intro f hf
    rw [c 44 (by omega) (by omega) (by omega), m 5 (by omega) (by omega) (by omega)]; exact t5 f hf
/-- both answer, alike, and stand alike -/
def OkI (x y : Option (Int32 × bw_M)) : Prop := ∃ r A B, x = some (r, A) ∧ y = some (r, B) ∧ Rel A B
theorem OkI.same {A B : bw_M} (h : Rel A B) (r : Int32) : OkI (some (r, A)) (some (r, B)) := ⟨r, A, B, rfl, rfl, h⟩
