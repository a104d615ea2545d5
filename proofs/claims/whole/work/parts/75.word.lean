/-! THE TEXT: words, numbers, tokens. x: a word by eight bits a letter (the reference); y: by five (the class). -/
def WR : Nat → Nat → Nat → Prop
  | 0, x, y => x = 0 ∧ y = 0
  | k + 1, x, y => ∃ x' y' c, WR k x' y' ∧ (1 ≤ c ∧ c ≤ 26) ∧ x = x' * 256 + (96 + c) ∧ y = y' * 32 + c
theorem WR_x : ∀ {k k' x y x' y' : Nat}, WR k x y → WR k' x' y' → x = x' → y = y'
  | 0, 0, x, y, x', y', h, h', e => by rw [h.2, h'.2]
  | 0, k' + 1, x, y, x', y', h, h', e => by
    obtain ⟨a, b, c, -, h1, h2, h3⟩ := h'
    have := h.1
    omega
  | k + 1, 0, x, y, x', y', h, h', e => by
    obtain ⟨a, b, c, -, h1, h2, h3⟩ := h
    have := h'.1
    omega
  | k + 1, k' + 1, x, y, x', y', h, h', e => by
    obtain ⟨a, b, c, g0, g1, g2, g3⟩ := h
    obtain ⟨a', b', c', g0', g1', g2', g3'⟩ := h'
    have e1 : a = a' := by omega
    have e2 : c = c' := by omega
    have e3 := WR_x g0 g0' e1
    rw [g3, g3', e2, e3]
theorem WR_y : ∀ {k k' x y x' y' : Nat}, WR k x y → WR k' x' y' → y = y' → x = x'
  | 0, 0, x, y, x', y', h, h', e => by rw [h.1, h'.1]
  | 0, k' + 1, x, y, x', y', h, h', e => by
    obtain ⟨a, b, c, -, h1, h2, h3⟩ := h'
    have := h.2
    omega
  | k + 1, 0, x, y, x', y', h, h', e => by
    obtain ⟨a, b, c, -, h1, h2, h3⟩ := h
    have := h'.2
    omega
  | k + 1, k' + 1, x, y, x', y', h, h', e => by
    obtain ⟨a, b, c, g0, g1, g2, g3⟩ := h
    obtain ⟨a', b', c', g0', g1', g2', g3'⟩ := h'
    have e1 : b = b' := by omega
    have e2 : c = c' := by omega
    have e3 := WR_y g0 g0' e1
    rw [g2, g2', e2, e3]
theorem WR_b : ∀ {k x y : Nat}, WR k x y → 2 * x < 256 ^ k ∧ y < 32 ^ k
  | 0, x, y, h => by rw [h.1, h.2]; decide
  | k + 1, x, y, h => by
    obtain ⟨a, b, c, g0, g1, g2, g3⟩ := h
    obtain ⟨h1, h2⟩ := WR_b g0
    rw [Nat.pow_succ, Nat.pow_succ]
    omega
theorem WR_8 {k x y : Nat} (h : WR k x y) (hk : k ≤ 8) : x < 2 ^ 63 ∧ y < 2 ^ 63 := by
  obtain ⟨h1, h2⟩ := WR_b h
  have e1 : 256 ^ k ≤ 256 ^ 8 := Nat.pow_le_pow_right (by decide) hk
  have e2 : 32 ^ k ≤ 32 ^ 8 := Nat.pow_le_pow_right (by decide) hk
  have e3 : 256 ^ 8 = 2 ^ 64 := by decide
  have e4 : 32 ^ 8 = 2 ^ 40 := by decide
  omega
/-- the words that stand for themselves, last letter first -/
def kwL : List (List Nat) := [[19, 4, 14, 1, 2], [5, 25, 4], [4, 14, 21, 15, 18, 7], [16, 13, 1, 12], [5, 25, 5], [4, 15, 15, 7], [20, 19, 15, 13], [5, 11, 9, 12, 1], [18, 5, 22, 15], [16, 9, 12, 19], [5, 3, 9, 18, 16], [20, 19, 1, 6], [6, 15], [14, 15]]
def w8 : List Nat → Nat
  | [] => 0
  | c :: l => w8 l * 256 + (96 + c)
def w5 : List Nat → Nat
  | [] => 0
  | c :: l => w5 l * 32 + c
theorem WR_of : ∀ (l : List Nat), (∀ c, c ∈ l → 1 ≤ c ∧ c ≤ 26) → WR l.length (w8 l) (w5 l)
  | [], _ => ⟨rfl, rfl⟩
  | c :: l, h => ⟨w8 l, w5 l, c, WR_of l (fun d hd => h d (List.mem_cons_of_mem c hd)), h c List.mem_cons_self, rfl, rfl⟩
def kw (i : Nat) : List Nat := kwL.getD i []
theorem kw_ok : ∀ i, i < 14 → (∀ c, c ∈ kw i → 1 ≤ c ∧ c ≤ 26) ∧ (kw i).length ≤ 8 := by decide +kernel
theorem kw_inj : ∀ i, i < 14 → ∀ j, j < 14 → w8 (kw i) = w8 (kw j) → i = j := by decide +kernel
theorem kw_pk : ∀ i, i < 14 → pkS i = lN (w5 (kw i)) := by decide +kernel
/-- the kind of a word -/
def KW (x kd : Nat) : Prop := (∃ i, i < 14 ∧ x = w8 (kw i) ∧ kd = 5 + i) ∨ (kd = 4 ∧ ∀ i, i < 14 → x ≠ w8 (kw i))
theorem KW_ex (x : Nat) : ∃ kd, KW x kd := by
  by_cases c : ∃ i, i < 14 ∧ x = w8 (kw i)
  · obtain ⟨i, h1, h2⟩ := c
    exact ⟨5 + i, Or.inl ⟨i, h1, h2, rfl⟩⟩
  · exact ⟨4, Or.inr ⟨rfl, fun i h1 h2 => c ⟨i, h1, h2⟩⟩⟩
theorem KW_b {x kd : Nat} (h : KW x kd) : 4 ≤ kd ∧ kd ≤ 18 := by
  rcases h with ⟨i, h1, -, h3⟩ | ⟨h1, -⟩ <;> omega
theorem KW_i {x kd i : Nat} (h : KW x kd) (hi : i < 14) : x = w8 (kw i) ↔ kd = 5 + i := by
  rcases h with ⟨j, h1, h2, h3⟩ | ⟨h1, h2⟩
  · constructor
    · intro e
      have := kw_inj j h1 i hi (h2.symm.trans e)
      omega
    · intro e
      have : j = i := by omega
      rw [← this]; exact h2
  · constructor
    · intro e; exact absurd e (h2 i hi)
    · intro e; omega
-- signs
def isL (v : Nat) : Prop := 97 ≤ v ∧ v ≤ 122
def isD (v : Nat) : Prop := 48 ≤ v ∧ v ≤ 57
def isB (v : Nat) : Prop := v = 32 ∨ v = 10
def sgn (v : Nat) : Int32 := (nI v).toInt8.toInt32
def blL (x : Int32) : Int32 := if x < 97 then 0 else if 122 < x then 0 else 1
def blD (x : Int32) : Int32 := if x < 48 then 0 else if 57 < x then 0 else 1
theorem sg_L : ∀ v, v < 256 → blL (sgn v) = (if 97 ≤ v ∧ v ≤ 122 then 1 else 0) ∧ blL (nI v) = (if 97 ≤ v ∧ v ≤ 122 then 1 else 0) := by decide +kernel
theorem sg_D : ∀ v, v < 256 → blD (sgn v) = (if 48 ≤ v ∧ v ≤ 57 then 1 else 0) ∧ blD (nI v) = (if 48 ≤ v ∧ v ≤ 57 then 1 else 0) := by decide +kernel
theorem sg_e : ∀ v, v < 256 → (sgn v = 32 ↔ v = 32) ∧ (sgn v = 10 ↔ v = 10) ∧ (sgn v = 59 ↔ v = 59) ∧ (nI v = 32 ↔ v = 32) ∧ (nI v = 10 ↔ v = 10) ∧ (nI v = 59 ↔ v = 59) ∧ (v < 128 → sgn v = nI v) := by decide +kernel
theorem fL_X {n : Nat} {S : St} {x : Int32} : fX7_isLetter n S x = some (S, blL x) := by
  unfold fX7_isLetter blL
  split
  · rfl
  · split <;> rfl
theorem fD_X {n : Nat} {S : St} {x : Int32} : fX7_isDigit n S x = some (S, blD x) := by
  unfold fX7_isDigit blD
  split
  · rfl
  · split <;> rfl
theorem fL_M {n : Nat} {S : St} {x : Int32} : fX11_isLetter n S x = some (S, blL x) := by
  unfold fX11_isLetter blL
  split
  · rfl
  · split <;> rfl
theorem fD_M {n : Nat} {S : St} {x : Int32} : fX11_isDigit n S x = some (S, blD x) := by
  unfold fX11_isDigit blD
  split
  · rfl
  · split <;> rfl
theorem bl_t {v : Nat} (hv : v < 256) (h : isL v) : blL (sgn v) = 1 ∧ blL (nI v) = 1 := by
  unfold isL at h
  obtain ⟨h1, h2⟩ := sg_L v hv
  rw [if_pos h] at h1 h2
  exact ⟨h1, h2⟩
theorem bl_f {v : Nat} (hv : v < 256) (h : ¬ isL v) : blL (sgn v) = 0 ∧ blL (nI v) = 0 := by
  unfold isL at h
  obtain ⟨h1, h2⟩ := sg_L v hv
  rw [if_neg h] at h1 h2
  exact ⟨h1, h2⟩
theorem bd_t {v : Nat} (hv : v < 256) (h : isD v) : blD (sgn v) = 1 ∧ blD (nI v) = 1 := by
  unfold isD at h
  obtain ⟨h1, h2⟩ := sg_D v hv
  rw [if_pos h] at h1 h2
  exact ⟨h1, h2⟩
theorem bd_f {v : Nat} (hv : v < 256) (h : ¬ isD v) : blD (sgn v) = 0 ∧ blD (nI v) = 0 := by
  unfold isD at h
  obtain ⟨h1, h2⟩ := sg_D v hv
  rw [if_neg h] at h1 h2
  exact ⟨h1, h2⟩
/-- the end of a row of signs of one sort -/
theorem run_ex (P : Nat → Prop) (t : Nat) : ∀ w s, s + w = t → ∃ e, s ≤ e ∧ e ≤ t ∧ (∀ i, s ≤ i → i < e → P i) ∧ (e < t → ¬ P e) := by
  intro w
  induction w with
  | zero => intro s h; exact ⟨s, Nat.le_refl _, by omega, fun i h1 h2 => by omega, fun h => by omega⟩
  | succ w ih =>
    intro s h
    by_cases c : P s
    · obtain ⟨e, e1, e2, e3, e4⟩ := ih (s + 1) (by omega)
      refine ⟨e, by omega, e2, fun i h1 h2 => ?_, e4⟩
      by_cases q : i = s
      · rw [q]; exact c
      · exact e3 i (by omega) h2
    · exact ⟨s, Nat.le_refl _, by omega, fun i h1 h2 => by omega, fun _ => c⟩
def wv (T : Nat → Nat) (a : Nat) : Nat → Nat
  | 0 => 0
  | k + 1 => wv T a k * 256 + T (a + k)
def wq (T : Nat → Nat) (a : Nat) : Nat → Nat
  | 0 => 0
  | k + 1 => wq T a k * 32 + (T (a + k) - 96)
def dv (T : Nat → Nat) (a : Nat) : Nat → Nat
  | 0 => 0
  | k + 1 => dv T a k * 10 + (T (a + k) - 48)
theorem wv_WR {T : Nat → Nat} {a : Nat} : ∀ {k : Nat}, (∀ i, i < k → isL (T (a + i))) → WR k (wv T a k) (wq T a k)
  | 0, _ => ⟨rfl, rfl⟩
  | k + 1, h => by
    have h1 := h k (by omega)
    unfold isL at h1
    exact ⟨wv T a k, wq T a k, T (a + k) - 96, wv_WR (fun i hi => h i (by omega)), by omega, by rw [wv]; omega, rfl⟩
theorem dv_lt {T : Nat → Nat} {a : Nat} : ∀ {k : Nat}, (∀ i, i < k → isD (T (a + i))) → dv T a k < 10 ^ k
  | 0, _ => by rw [dv]; decide
  | k + 1, h => by
    have h1 := h k (by omega)
    have h2 := dv_lt (T := T) (a := a) (k := k) (fun i hi => h i (by omega))
    unfold isD at h1
    rw [dv, Nat.pow_succ]
    omega
/-- the token behind a place: its kind (the class's), its place, where it ends, its word or number -/
def TkC (T : Nat → Nat) (t a kd pl nx x y v : Nat) : Prop :=
  a ≤ pl ∧ pl ≤ t ∧ (∀ i, a ≤ i → i < pl → isB (T i)) ∧ (pl < t → ¬ isB (T pl)) ∧
  ((pl = t ∧ kd = 0 ∧ nx = t) ∨
   (pl < t ∧ isL (T pl) ∧ ∃ e, pl < e ∧ e ≤ t ∧ (∀ i, pl ≤ i → i < e → isL (T i)) ∧ (e < t → ¬ isL (T e)) ∧ ((e - pl ≤ 8 ∧ KW x kd ∧ nx = e ∧ x = wv T pl (e - pl) ∧ y = wq T pl (e - pl)) ∨ (8 < e - pl ∧ kd = 1))) ∨
   (pl < t ∧ ¬ isL (T pl) ∧ isD (T pl) ∧ ∃ e, pl < e ∧ e ≤ t ∧ (∀ i, pl ≤ i → i < e → isD (T i)) ∧ (e < t → ¬ isD (T e)) ∧ ((e - pl ≤ 4 ∧ (e < t → ¬ isL (T e)) ∧ kd = 2 ∧ nx = e ∧ v = dv T pl (e - pl)) ∨ (4 < e - pl ∧ kd = 1) ∨ (e - pl ≤ 4 ∧ e < t ∧ isL (T e) ∧ kd = 1))) ∨
   (pl < t ∧ ¬ isL (T pl) ∧ ¬ isD (T pl) ∧ ((T pl = 59 ∧ kd = 3 ∧ nx = pl + 1) ∨ (T pl ≠ 59 ∧ kd = 1))))
theorem tk_ex (T : Nat → Nat) {t a : Nat} (ha : a ≤ t) : ∃ kd pl nx x y v, TkC T t a kd pl nx x y v := by
  obtain ⟨pl, p1, p2, p3, p4⟩ := run_ex (fun i => isB (T i)) t (t - a) a (by omega)
  by_cases c0 : pl = t
  · exact ⟨0, pl, t, 0, 0, 0, p1, p2, p3, p4, Or.inl ⟨c0, rfl, rfl⟩⟩
  have c0' : pl < t := by omega
  by_cases c1 : isL (T pl)
  · obtain ⟨e, e1, e2, e3, e4⟩ := run_ex (fun i => isL (T i)) t (t - (pl + 1)) (pl + 1) (by omega)
    have e3' : ∀ i, pl ≤ i → i < e → isL (T i) := fun i h1 h2 => by
      by_cases q : i = pl
      · rw [q]; exact c1
      · exact e3 i (by omega) h2
    by_cases c2 : e - pl ≤ 8
    · obtain ⟨kd, hk⟩ := KW_ex (wv T pl (e - pl))
      exact ⟨kd, pl, e, wv T pl (e - pl), wq T pl (e - pl), 0, p1, p2, p3, p4, Or.inr (Or.inl ⟨c0', c1, e, by omega, e2, e3', e4, Or.inl ⟨c2, hk, rfl, rfl, rfl⟩⟩)⟩
    · exact ⟨1, pl, e, 0, 0, 0, p1, p2, p3, p4, Or.inr (Or.inl ⟨c0', c1, e, by omega, e2, e3', e4, Or.inr ⟨by omega, rfl⟩⟩)⟩
  by_cases c3 : isD (T pl)
  · obtain ⟨e, e1, e2, e3, e4⟩ := run_ex (fun i => isD (T i)) t (t - (pl + 1)) (pl + 1) (by omega)
    have e3' : ∀ i, pl ≤ i → i < e → isD (T i) := fun i h1 h2 => by
      by_cases q : i = pl
      · rw [q]; exact c3
      · exact e3 i (by omega) h2
    by_cases c4 : e - pl ≤ 4
    · by_cases c5 : e < t ∧ isL (T e)
      · exact ⟨1, pl, e, 0, 0, 0, p1, p2, p3, p4, Or.inr (Or.inr (Or.inl ⟨c0', c1, c3, e, by omega, e2, e3', e4, Or.inr (Or.inr ⟨c4, c5.1, c5.2, rfl⟩)⟩))⟩
      · exact ⟨2, pl, e, 0, 0, dv T pl (e - pl), p1, p2, p3, p4, Or.inr (Or.inr (Or.inl ⟨c0', c1, c3, e, by omega, e2, e3', e4, Or.inl ⟨c4, fun h1 h2 => c5 ⟨h1, h2⟩, rfl, rfl, rfl⟩⟩))⟩
    · exact ⟨1, pl, e, 0, 0, 0, p1, p2, p3, p4, Or.inr (Or.inr (Or.inl ⟨c0', c1, c3, e, by omega, e2, e3', e4, Or.inr (Or.inl ⟨by omega, rfl⟩)⟩))⟩
  by_cases c6 : T pl = 59
  · exact ⟨3, pl, pl + 1, 0, 0, 0, p1, p2, p3, p4, Or.inr (Or.inr (Or.inr ⟨c0', c1, c3, Or.inl ⟨c6, rfl, rfl⟩⟩))⟩
  · exact ⟨1, pl, pl + 1, 0, 0, 0, p1, p2, p3, p4, Or.inr (Or.inr (Or.inr ⟨c0', c1, c3, Or.inr ⟨c6, rfl⟩⟩))⟩
