def iSum (f : Nat → Int) : Nat → Int
  | 0 => 0
  | k + 1 => iSum f k + f k
theorem iSum_abs {f : Nat → Int} {C : Nat} : ∀ {k : Nat}, (∀ l, l < k → (f l).natAbs ≤ C) → (iSum f k).natAbs ≤ k * C
  | 0, _ => by rw [iSum]; simp
  | k + 1, h => by
    have h1 := iSum_abs (f := f) (C := C) (k := k) (fun l hl => h l (by omega))
    have h2 := h k (by omega)
    rw [iSum, Nat.add_mul]
    omega
theorem sSum_int {g : Nat → Int64} {C : Nat} : ∀ {k : Nat}, (∀ l, l < k → (g l).toInt.natAbs ≤ C) → k * C < 2 ^ 62 → (sSum g k).toInt = iSum (fun l => (g l).toInt) k
  | 0, _, _ => rfl
  | k + 1, h, hC => by
    rw [Nat.add_mul] at hC
    have e1 := sSum_int (g := g) (C := C) (k := k) (fun l hl => h l (by omega)) (by omega)
    have e2 := iSum_abs (f := fun l => (g l).toInt) (C := C) (k := k) (fun l hl => h l (by omega))
    have e3 := h k (by omega)
    rw [sSum, iSum, Int64.toInt_add, e1]
    exact Int.bmod_eq_of_le (by omega) (by omega)
theorem mul_int {x y : Int64} {a b : Nat} (hx : x.toInt.natAbs ≤ a) (hy : y.toInt.natAbs ≤ b) (h : a * b < 2 ^ 62) : (x * y).toInt = x.toInt * y.toInt := by
  have e : (x.toInt * y.toInt).natAbs ≤ a * b := by rw [Int.natAbs_mul]; exact Nat.mul_le_mul hx hy
  rw [Int64.toInt_mul]
  generalize x.toInt * y.toInt = z at e ⊢
  exact Int.bmod_eq_of_le (by omega) (by omega)
theorem dfV_abs {B : Bd} {ra rb : Nat → Int32} {l e : Nat} (hB : Bok B) (ha : okR B ra) (hb : okR B rb) (hl : l < b_nl B) (he : e < b_ne B) : (dfV B ra rb l e).toInt.natAbs ≤ 1411344000 := by
  have h16 : b_nb B ≤ 16 := hB.1.2
  have key : ∀ j, j < b_nb B → ((ra j - rb j).toInt64 * (ltE B l e j).toInt64).toInt.natAbs ≤ 88209000 := by
    intro j hj
    obtain ⟨v, v1, v2⟩ := ha j hj
    obtain ⟨u, u1, u2⟩ := hb j hj
    obtain ⟨x, x1, x2⟩ := hB.2.2.2.2.2.2.2.2.2.2.2.2.1 l hl j hj
    obtain ⟨y, y1, y2⟩ := hB.2.2.2.2.2.2.2.2.2.2.2.2.2.1 e he j hj
    have xy : x * y ≤ 99 * 9 := Nat.mul_le_mul x1 y1
    have e1 : (ra j - rb j).toInt64.toInt = (v : Int) - u := by
      rw [v2, u2, Int32.toInt_toInt64, Int32.toInt_sub, nI_toInt (by omega), nI_toInt (by omega)]
      exact Int.bmod_eq_of_le (by omega) (by omega)
    have e2 : (ltE B l e j).toInt64.toInt = ((x * y : Nat) : Int) := by
      unfold ltE
      rw [x2, y2, pk_mul, Int32.toInt_toInt64, nI_toInt (by omega)]
    have a1 : (ra j - rb j).toInt64.toInt.natAbs ≤ 99000 := by rw [e1]; omega
    have a2 : (ltE B l e j).toInt64.toInt.natAbs ≤ 891 := by rw [e2]; omega
    rw [mul_int a1 a2 (by decide), Int.natAbs_mul]
    exact Nat.mul_le_mul a1 a2
  unfold dfV
  rw [sSum_int key (by omega)]
  have := iSum_abs (f := fun j => ((ra j - rb j).toInt64 * (ltE B l e j).toInt64).toInt) key
  omega
theorem abL_int {z : Int64} {C : Nat} (h : z.toInt.natAbs ≤ C) (hC : C < 2 ^ 62) : (abL z).toInt = z.toInt.natAbs := by
  unfold abL
  have e0 : (0 : Int64).toInt = 0 := rfl
  by_cases c : 0 < z
  · rw [if_pos c]
    rw [Int64.lt_iff_toInt_lt] at c
    omega
  · rw [if_neg c]
    rw [Int64.lt_iff_toInt_lt] at c
    rw [Int64.toInt_neg, Int.bmod_eq_of_le (by omega) (by omega)]
    omega
/-- what the weights make of the eyes' differences -/
def mxd (d : Nat → Nat → Int64) (w : Nat → Nat) (L e : Nat) : Int64 := sSum (fun l => (nI (w l)).toInt64 * d l e) L
def amS (d : Nat → Nat → Int64) (w : Nat → Nat) (L u : Nat) : Nat → Int64
  | 0 => 0
  | e + 1 => if e = u then amS d w L u e else mxL (amS d w L u e) (abL (mxd d w L e))
/-- the farthest of one lamp -/
def d1S (d : Nat → Nat → Int64) (l u : Nat) : Nat → Int64
  | 0 => 0
  | e + 1 => if e = u then d1S d l u e else mxL (d1S d l u e) (abL (d l e))
theorem apS_d1S {B : Bd} {ra rb : Nat → Int32} {l u : Nat} : ∀ e, apS B ra rb l u e = d1S (dfV B ra rb) l u e
  | 0 => rfl
  | e + 1 => by rw [apS, d1S, apS_d1S e]
/-- weighted sums of numbers -/
def wS (w : Nat → Nat) (f : Nat → Int) : Nat → Int := iSum (fun l => (w l : Int) * f l)
section
variable {d : Nat → Nat → Int64} {w : Nat → Nat} {L E u : Nat}
theorem mxd_int {e : Nat} (hd : ∀ l, l < L → (d l e).toInt.natAbs ≤ 1411344000) (hw : ∀ l, l < L → w l ≤ 10) (hL : L ≤ 6) : (mxd d w L e).toInt = iSum (fun l => (w l : Int) * (d l e).toInt) L ∧ (mxd d w L e).toInt.natAbs ≤ 84680640000 := by
  have key : ∀ l, l < L → ((nI (w l)).toInt64 * d l e).toInt = (w l : Int) * (d l e).toInt ∧ ((nI (w l)).toInt64 * d l e).toInt.natAbs ≤ 14113440000 := by
    intro l hl
    have h1 := hd l hl
    have h2 := hw l hl
    have e1 : (nI (w l)).toInt64.toInt = (w l : Int) := by rw [Int32.toInt_toInt64, nI_toInt (by omega)]
    have a1 : (nI (w l)).toInt64.toInt.natAbs ≤ 10 := by rw [e1]; omega
    refine ⟨by rw [mul_int a1 h1 (by decide), e1], ?_⟩
    rw [mul_int a1 h1 (by decide), Int.natAbs_mul]
    exact Nat.mul_le_mul a1 h1
  have e2 := sSum_int (g := fun l => (nI (w l)).toInt64 * d l e) (C := 14113440000) (k := L) (fun l hl => (key l hl).2) (by omega)
  have e3 := iSum_abs (f := fun l => ((nI (w l)).toInt64 * d l e).toInt) (C := 14113440000) (k := L) (fun l hl => (key l hl).2)
  have e4 : ∀ {f g : Nat → Int} {k : Nat}, (∀ l, l < k → f l = g l) → iSum f k = iSum g k := by
    intro f g k
    induction k with
    | zero => intro _; rfl
    | succ k ih => intro h; rw [iSum, iSum, ih (fun l hl => h l (by omega)), h k (by omega)]
  unfold mxd
  rw [e2]
  exact ⟨e4 (fun l hl => (key l hl).1), by omega⟩
theorem d1S_nn {l : Nat} : ∀ e, 0 ≤ (d1S d l u e).toInt
  | 0 => by rw [d1S]; decide
  | e + 1 => by
    have := d1S_nn (l := l) e
    rw [d1S]
    split
    · exact this
    · rw [mxL_int]; omega
theorem d1S_ge {l : Nat} (hd : ∀ e, e < E → (d l e).toInt.natAbs ≤ 1411344000) : ∀ {e' : Nat}, e' ≤ E → ∀ e, e < e' → e ≠ u → ((d l e).toInt.natAbs : Int) ≤ (d1S d l u e').toInt
  | 0, _, e, h, _ => by omega
  | e' + 1, hE, e, h, hu => by
    rw [d1S]
    by_cases c : e' = u
    · rw [if_pos c]
      exact d1S_ge hd (by omega) e (by omega) hu
    · rw [if_neg c, mxL_int, abL_int (hd e' (by omega)) (by decide)]
      by_cases q : e = e'
      · subst q; omega
      · have := d1S_ge hd (e' := e') (by omega) e (by omega) hu
        omega
theorem iSum_le {f g : Nat → Int} : ∀ {k : Nat}, (∀ l, l < k → f l ≤ g l) → iSum f k ≤ iSum g k
  | 0, _ => Int.le_refl _
  | k + 1, h => by
    have h1 := iSum_le (f := f) (g := g) (k := k) (fun l hl => h l (by omega))
    have h2 := h k (by omega)
    rw [iSum, iSum]
    omega
theorem iSum_natAbs {f : Nat → Int} : ∀ {k : Nat}, ((iSum f k).natAbs : Int) ≤ iSum (fun l => ((f l).natAbs : Int)) k
  | 0 => Int.le_refl _
  | k + 1 => by
    have h1 := iSum_natAbs (f := f) (k := k)
    rw [iSum, iSum]
    omega
theorem iSum_nn {f : Nat → Int} : ∀ {k : Nat}, (∀ l, l < k → 0 ≤ f l) → 0 ≤ iSum f k
  | 0, _ => Int.le_refl _
  | k + 1, h => by
    have h1 := iSum_nn (f := f) (k := k) (fun l hl => h l (by omega))
    have h2 := h k (by omega)
    rw [iSum]
    omega
theorem amS_le (hd : ∀ l, l < L → ∀ e, e < E → (d l e).toInt.natAbs ≤ 1411344000) (hw : ∀ l, l < L → w l ≤ 10) (hL : L ≤ 6) : ∀ e, e ≤ E → (amS d w L u e).toInt ≤ wS w (fun l => (d1S d l u E).toInt) L
  | 0, _ => by
    rw [amS]
    exact iSum_nn (fun l _ => Int.mul_nonneg (by omega) (d1S_nn E))
  | e + 1, h => by
    have ih := amS_le hd hw hL e (by omega)
    rw [amS]
    by_cases c : e = u
    · rw [if_pos c]; exact ih
    · rw [if_neg c, mxL_int]
      obtain ⟨m1, m2⟩ := mxd_int (d := d) (w := w) (e := e) (fun l hl => hd l hl e (by omega)) hw hL
      rw [abL_int m2 (by decide), m1]
      have h1 := iSum_natAbs (f := fun l => (w l : Int) * (d l e).toInt) (k := L)
      have h2 : iSum (fun l => (((w l : Int) * (d l e).toInt).natAbs : Int)) L ≤ wS w (fun l => (d1S d l u E).toInt) L := by
        refine iSum_le fun l hl => ?_
        have h3 := d1S_ge (u := u) (hd l hl) (Nat.le_refl E) e (by omega) c
        rw [Int.natAbs_mul]
        show (((w l : Int).natAbs * (d l e).toInt.natAbs : Nat) : Int) ≤ (w l : Int) * (d1S d l u E).toInt
        rw [Int.natCast_mul, show ((w l : Int).natAbs : Int) = (w l : Int) by omega]
        exact Int.mul_le_mul_of_nonneg_left h3 (by omega)
      omega
/-- all the weight on one lamp -/
theorem iSum_one {f : Nat → Int} {q : Nat} : ∀ {k : Nat}, q < k → (∀ l, l < k → l ≠ q → f l = 0) → iSum f k = f q := by
  have h0 : ∀ k, k ≤ q → (∀ l, l < k → f l = 0) → iSum f k = 0 := by
    intro k
    induction k with
    | zero => intro _ _; rfl
    | succ k ih => intro h1 h2; rw [iSum, ih (by omega) (fun l hl => h2 l (by omega)), h2 k (by omega)]; rfl
  intro k
  induction k with
  | zero => intro h; omega
  | succ k ih =>
    intro h hz
    rw [iSum]
    by_cases c : q = k
    · subst c
      rw [h0 q (Nat.le_refl q) (fun l hl => hz l (by omega) (by omega))]
      omega
    · rw [ih (by omega) (fun l hl hq => hz l (by omega) hq), hz k (by omega) (by omega)]
      omega
theorem amS_one {q : Nat} (hq : q < L) (hd : ∀ l, l < L → ∀ e, e < E → (d l e).toInt.natAbs ≤ 1411344000) (h10 : w q = 10) (h0 : ∀ l, l < L → l ≠ q → w l = 0) (hL : L ≤ 6) : ∀ e, e ≤ E → (amS d w L u e).toInt = 10 * (d1S d q u e).toInt
  | 0, _ => by rw [amS, d1S]; rfl
  | e + 1, h => by
    have ih := amS_one hq hd h10 h0 hL e (by omega)
    rw [amS, d1S]
    by_cases c : e = u
    · rw [if_pos c, if_pos c]; exact ih
    · have hw : ∀ l, l < L → w l ≤ 10 := fun l hl => by
        by_cases z : l = q
        · subst z; omega
        · rw [h0 l hl z]; omega
      obtain ⟨m1, m2⟩ := mxd_int (d := d) (w := w) (e := e) (fun l hl => hd l hl e (by omega)) hw hL
      rw [if_neg c, if_neg c, mxL_int, mxL_int, abL_int m2 (by decide), abL_int (hd q hq e (by omega)) (by decide), m1, iSum_one hq (fun l hl z => by rw [h0 l hl z]; exact Int.zero_mul _), h10, ih]
      have : (((10 : Nat) : Int) * (d q e).toInt).natAbs = 10 * (d q e).toInt.natAbs := by rw [Int.natAbs_mul]; rfl
      omega
theorem wS_le {f : Nat → Int} {F : Int} (hF : 0 ≤ F) : ∀ {k : Nat}, (∀ l, l < k → f l ≤ F) → wS w f k ≤ (sumN w k : Int) * F
  | 0, _ => by
    show (0 : Int) ≤ (0 : Nat) * F
    simp
  | k + 1, h => by
    have h1 := wS_le (f := f) hF (k := k) (fun l hl => h l (by omega))
    have h2 : (w k : Int) * f k ≤ (w k : Int) * F := Int.mul_le_mul_of_nonneg_left (h k (by omega)) (by omega)
    have e1 : wS w f (k + 1) = wS w f k + (w k : Int) * f k := rfl
    rw [sumN, Int.natCast_add, Int.add_mul]
    omega
theorem wS_lt {f : Nat → Int} {F : Int} {i : Nat} (hF : 0 ≤ F) : ∀ {k : Nat}, i < k → (∀ l, l < k → f l ≤ F) → f i < F → 0 < w i → wS w f k < (sumN w k : Int) * F := by
  intro k
  induction k with
  | zero => intro h; omega
  | succ k ih =>
    intro h h1 h2 h3
    have e1 : wS w f (k + 1) = wS w f k + (w k : Int) * f k := rfl
    rw [sumN, Int.natCast_add, Int.add_mul]
    by_cases c : i = k
    · subst c
      have g1 := wS_le (w := w) (f := f) hF (k := i) (fun l hl => h1 l (by omega))
      have g2 : (w i : Int) * f i < (w i : Int) * F := Int.mul_lt_mul_of_pos_left h2 (by omega)
      omega
    · have g1 := ih (by omega) (fun l hl => h1 l (by omega)) h2 h3
      have g2 : (w k : Int) * f k ≤ (w k : Int) * F := Int.mul_le_mul_of_nonneg_left (h1 k (by omega)) (by omega)
      omega
end
