/-! BEST: those that none other beats. le a j: a is no farther than j by any of the lamps. -/
def NB (le : Nat → Nat → Prop) (t j : Nat) : Prop := ∀ a, a < t → le a j → le j a
theorem NB_s {le : Nat → Nat → Prop} {t j : Nat} : NB le (t + 1) j ↔ NB le t j ∧ (le t j → le j t) := by
  constructor
  · intro h
    exact ⟨fun a ha => h a (by omega), h t (by omega)⟩
  · intro ⟨h1, h2⟩ a ha
    by_cases e : a = t
    · rw [e]; exact h2
    · exact h1 a (by omega)
section
variable {le : Nat → Nat → Prop} {t : Nat}
theorem par_c {r j : Nat} (tr : ∀ a b c, le a b → le b c → le a c) (r2 : r < t) (r3 : le r t) (hj : NB le t j) : NB le (t + 1) j := NB_s.mpr ⟨hj, fun h => tr j r t (hj r r2 (tr r t j r3 h)) r3⟩
theorem par_b {r : Nat} (tr : ∀ a b c, le a b → le b c → le a c) (r1 : NB le t r) (r3 : le r t) (r4 : le t r) : NB le (t + 1) t := NB_s.mpr ⟨fun a ha h => tr t r a r4 (r1 a ha (tr a t r h r4)), fun h => h⟩
theorem par_c2 {r : Nat} (r2 : r < t) (r3 : le r t) (r4 : ¬ le t r) : ¬ NB le (t + 1) t := fun h => r4 (h r (by omega) r3)
theorem cov (rf : ∀ a, le a a) (tr : ∀ a b c, le a b → le b c → le a c) : ∀ t a, a < t → ∃ r, r < t ∧ NB le t r ∧ le r a := by
  intro t
  induction t with
  | zero => intro a ha; omega
  | succ t ih =>
    intro a ha
    by_cases c : ∃ r, r < t ∧ NB le t r ∧ le r t
    · obtain ⟨r, r1, r2, r3⟩ := c
      by_cases e : a = t
      · subst e
        exact ⟨r, by omega, par_c tr r1 r3 r2, r3⟩
      · obtain ⟨s, s1, s2, s3⟩ := ih a (by omega)
        exact ⟨s, by omega, par_c tr r1 r3 s2, s3⟩
    · have hno : ∀ a, a < t → ¬ le a t := fun a ha h => by
        obtain ⟨s, s1, s2, s3⟩ := ih a ha
        exact c ⟨s, s1, s2, tr s a t s3 h⟩
      have hn : NB le (t + 1) t := NB_s.mpr ⟨fun a ha h => absurd h (hno a ha), fun h => h⟩
      by_cases e : a = t
      · subst e
        exact ⟨a, by omega, hn, rf a⟩
      · obtain ⟨s, s1, s2, s3⟩ := ih a (by omega)
        by_cases c2 : le t s
        · exact ⟨t, by omega, hn, tr t s a c2 s3⟩
        · exact ⟨s, by omega, NB_s.mpr ⟨s2, fun h => absurd h c2⟩, s3⟩
theorem par_a1 (rf : ∀ a, le a a) (tr : ∀ a b c, le a b → le b c → le a c) (h : ∀ j, j < t → NB le t j → ¬ le j t) : NB le (t + 1) t := NB_s.mpr ⟨fun a ha q => by
    obtain ⟨s, s1, s2, s3⟩ := cov rf tr t a ha
    exact absurd (tr s a t s3 q) (h s s1 s2), fun q => q⟩
theorem par_a2 {j : Nat} (h : ∀ j, j < t → NB le t j → ¬ le j t) (hj : j < t) : NB le (t + 1) j ↔ NB le t j ∧ ¬ le t j := by
  rw [NB_s]
  constructor
  · intro ⟨h1, h2⟩
    exact ⟨h1, fun q => h j hj h1 (h2 q)⟩
  · intro ⟨h1, h2⟩
    exact ⟨h1, fun q => absurd q h2⟩
end
noncomputable def ch (p : Prop) : Int32 := @ite Int32 p (Classical.propDecidable p) 1 0
theorem ch_t {p : Prop} (h : p) : ch p = 1 := @if_pos p (Classical.propDecidable p) h Int32 1 0
theorem ch_f {p : Prop} (h : ¬ p) : ch p = 0 := @if_neg p (Classical.propDecidable p) h Int32 1 0
theorem ch_ne {p : Prop} : ch p ≠ 0 ↔ p := by
  constructor
  · intro h
    exact Classical.byContradiction fun q => h (ch_f q)
  · intro h
    rw [ch_t h]
    decide
theorem ch_congr {p q : Prop} (h : p ↔ q) : ch p = ch q := by rw [propext h]
/-- which of the first ones are best among t -/
noncomputable def bst' (le : Nat → Nat → Prop) (t j : Nat) : Int32 := ch (NB le t j)
theorem cn_congr {f g : Nat → Int32} : ∀ {o : Nat}, (∀ j, j < o → (f j ≠ 0 ↔ g j ≠ 0)) → cn f o = cn g o
  | 0, _ => rfl
  | o + 1, h => by
    have h1 := cn_congr (f := f) (g := g) (o := o) (fun j hj => h j (by omega))
    have h2 := h o (by omega)
    rw [cn, cn, h1]
    by_cases c : f o = 0
    · have : g o = 0 := Classical.byContradiction fun q => h2.mpr q c
      rw [if_pos c, if_pos this]
    · rw [if_neg c, if_neg (h2.mp c)]
theorem cn_sub {f g : Nat → Int32} : ∀ {o : Nat}, (∀ j, j < o → f j ≠ 0 → g j ≠ 0) → cn f o ≤ cn g o
  | 0, _ => Nat.le_refl _
  | o + 1, h => by
    have h1 := cn_sub (f := f) (g := g) (o := o) (fun j hj => h j (by omega))
    have h2 := h o (by omega)
    rw [cn, cn]
    by_cases c : f o = 0
    · rw [if_pos c]; omega
    · rw [if_neg c, if_neg (h2 c)]; omega
theorem cn_lt {f : Nat → Int32} {j o : Nat} (hj : j < o) (h : f j ≠ 0) : cn f j < cn f o := by
  have := cn_mono (ag := f) (i := j + 1) (o := o) (by omega)
  rw [cn, if_neg h] at this
  omega
theorem cn_inj {f : Nat → Int32} {i j : Nat} (hi : f i ≠ 0) (hj : f j ≠ 0) (h : cn f i = cn f j) : i = j := by
  rcases Nat.lt_trichotomy i j with c | c | c
  · have := cn_lt c hi; omega
  · exact c
  · have := cn_lt c hj; omega
theorem cn_s1 {f : Nat → Int32} {o : Nat} (h : f o ≠ 0) : cn f (o + 1) = cn f o + 1 := by rw [cn, if_neg h]
theorem cn_s0 {f : Nat → Int32} {o : Nat} (h : f o = 0) : cn f (o + 1) = cn f o := by rw [cn, if_pos h, Nat.add_zero]
/-- the mixes as a row -/
def sq (m u nd : Nat) : Nat → Nat → Nat
  | 0 => fun _ => 0
  | i + 1 => (adv m u (sq m u nd i) nd).getD (fun _ => 0)
theorem sq_run {m u nd : Nat} {pe : Nat → Nat} : ∀ {k i : Nat}, Run m u nd k (sq m u nd i) pe → (∀ i', i ≤ i' → i' < i + k → adv m u (sq m u nd i') nd = some (sq m u nd (i' + 1))) ∧ pe = sq m u nd (i + k)
  | 0, i, h => ⟨fun i' h1 h2 => by omega, by have h : sq m u nd i = pe := h; rw [← h]; rfl⟩
  | k + 1, i, h => by
    obtain ⟨r, r1, r2⟩ := h
    have e : sq m u nd (i + 1) = r := by rw [sq, r1]; rfl
    rw [← e] at r1 r2
    obtain ⟨h1, h2⟩ := sq_run r2
    refine ⟨fun i' q1 q2 => ?_, by rw [h2]; congr 1; omega⟩
    by_cases c : i' = i
    · rw [c]; exact r1
    · exact h1 i' (by omega) (by omega)
theorem sq_all {m u nd : Nat} : (∀ i, i + 1 < mixN nd m u → adv m u (sq m u nd i) nd = some (sq m u nd (i + 1))) ∧ adv m u (sq m u nd (mixN nd m u - 1)) nd = none := by
  obtain ⟨p, p1, p2⟩ := run_all m u nd
  have h := sq_run (i := 0) (show Run m u nd (mixN nd m u - 1) (sq m u nd 0) p from p1)
  refine ⟨fun i hi => h.1 i (by omega) (by omega), ?_⟩
  rw [h.2, Nat.zero_add] at p2
  exact p2
