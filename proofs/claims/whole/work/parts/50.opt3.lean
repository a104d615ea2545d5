def rL (S : St) (a : Nat) (f : Nat → Int64) : St := (S.1, va_up S.2.1 a f, S.2.2)
theorem rL_ext {S : St} {a : Nat} {f g : Nat → Int64} (h : ∀ i, f i = g i) : rL S a f = rL S a g := by rw [show f = g from funext h]
theorem rL_row {S : St} {a : Nat} {f : Nat → Int64} : (rL S a f).2.1 a = f := up_same _ _ _
theorem rL_ne {S : St} {a b : Nat} {f : Nat → Int64} (h : b ≠ a) : (rL S a f).2.1 b = S.2.1 b := up_other _ _ h
theorem rL_1 {S : St} {a : Nat} {f : Nat → Int64} : (rL S a f).1 = S.1 := rfl
theorem rL_id {S : St} {a : Nat} {f : Nat → Int64} (h : ∀ i, f i = S.2.1 a i) : rL S a f = S := by
  have : va_up S.2.1 a f = S.2.1 := by
    funext q
    unfold va_up
    by_cases e : q = a
    · rw [if_pos e, e]; exact funext h
    · rw [if_neg e]
  unfold rL
  rw [this]
theorem rL_rL {S : St} {a : Nat} {f g : Nat → Int64} : rL (rL S a f) a g = rL S a g := by
  unfold rL
  refine Prod.ext rfl (Prod.ext ?_ rfl)
  funext q
  show va_up (va_up S.2.1 a f) a g q = va_up S.2.1 a g q
  unfold va_up
  by_cases h : q = a
  · rw [if_pos h, if_pos h]
  · rw [if_neg h, if_neg h, if_neg h]
theorem fillL {S : St} {a o k : Nat} (f : Nat → Int64) (g : Nat → Int64) : sL (rL S a (fun i => if o ≤ i ∧ i < o + k then f (i - o) else g i)) a (o + k) (f k) = rL S a (fun i => if o ≤ i ∧ i < o + (k + 1) then f (i - o) else g i) := by
  rw [show ∀ (S : St) v, sL S a (o + k) v = rL S a (vp_updL (S.2.1 a) (o + k) v) from fun _ _ => rfl, rL_rL, rL_row]
  refine rL_ext fun i => ?_
  show (if i = o + k then f k else if o ≤ i ∧ i < o + k then f (i - o) else g i) = _
  by_cases q : i = o + k
  · subst q; rw [if_pos rfl, if_pos (by omega), show o + k - o = k by omega]
  · rw [if_neg q]
    by_cases q2 : o ≤ i ∧ i < o + k
    · rw [if_pos q2, if_pos (by omega)]
    · rw [if_neg q2, if_neg (by omega)]
theorem fillL0 {S : St} {a o : Nat} {f : Nat → Int64} : rL S a (fun i => if o ≤ i ∧ i < o + 0 then f (i - o) else S.2.1 a i) = S := rL_id (fun i => if_neg (by omega))
theorem fillO {S : St} {a o k : Nat} (f : Nat → Int32) (g : Nat → Int32) : sI (rI S a (fun i => if o ≤ i ∧ i < o + k then f (i - o) else g i)) a (o + k) (f k) = rI S a (fun i => if o ≤ i ∧ i < o + (k + 1) then f (i - o) else g i) := by
  rw [sI_rI, rI_rI, rI_row]
  refine rI_ext fun i => ?_
  show (if i = o + k then f k else if o ≤ i ∧ i < o + k then f (i - o) else g i) = _
  by_cases q : i = o + k
  · subst q; rw [if_pos rfl, if_pos (by omega), show o + k - o = k by omega]
  · rw [if_neg q]
    by_cases q2 : o ≤ i ∧ i < o + k
    · rw [if_pos q2, if_pos (by omega)]
    · rw [if_neg q2, if_neg (by omega)]
theorem fillO0 {S : St} {a o : Nat} {f : Nat → Int32} : rI S a (fun i => if o ≤ i ∧ i < o + 0 then f (i - o) else S.1 a i) = S := rI_id (fun i => if_neg (by omega))
theorem dyes_spec {B : Bd} {n : Nat} {S : St} (hM : RMb B S.1) : fX11_dyes n S = some (S, nI (b_nd B)) := by
  unfold fX11_dyes
  rw [gd_pos (by decide)]
  exact some_snd hM.2.2.2.2.2.1
theorem lamps_spec {B : Bd} {n : Nat} {S : St} (hM : RMb B S.1) : fX11_lamps n S = some (S, nI (b_nl B)) := by
  unfold fX11_lamps
  rw [gd_pos (by decide)]
  exact some_snd hM.2.2.2.2.2.2.2.1
theorem eyes_spec {B : Bd} {n : Nat} {S : St} (hM : RMb B S.1) : fX11_eyes n S = some (S, nI (b_ne B)) := by
  unfold fX11_eyes
  rw [gd_pos (by decide)]
  exact some_snd hM.2.2.2.2.2.2.2.2.1
theorem thrB_sum {B : Bd} {g j : Nat} {p : Nat → Nat} : ∀ d, (nI (b_most B) - sumI (fun i => nI (p i)) d) * b_grd B g j + sumI (fun i => nI (p i) * b_dye B i j) d = thrB B g p j d
  | 0 => by
    rw [sumI, sumI, thrB]
    grind
  | d + 1 => by
    have := thrB_sum (B := B) (g := g) (j := j) (p := p) d
    rw [sumI, sumI, thrB]
    grind
section
variable {n : Nat} {B : Bd} {S : St} {w k : Nat} {p : Nat → Nat}
theorem beside_loop (hM : RMb B S.1) (hB : Bok B) (hw : w < 2) (hp : ∀ d, d < b_nd B → S.1 21 (8 * w + d) = nI (p d)) {j : Nat} (hj : j < b_nb B) {x0 : Int32} : ∀ (m d f : Nat), d + m = b_nd B → m < f → fX11_laidBeside_l23 n f S (nI w) (nI j) (x0 + sumI (fun i => nI (p i) * b_dye B i j) d) (nI d) = some (S, ((x0 + sumI (fun i => nI (p i) * b_dye B i j) (b_nd B)) * 1000 / nI (b_most B)).toInt64) := by
  have h8 : b_nd B ≤ 8 := hB.2.2.2.2.2.1
  have h16 : b_nb B ≤ 16 := hB.1.2
  have hm := hB.2.1
  have h3 : ¬ nI (b_most B) = 0 := by
    show ¬ nI (b_most B) = nI 0
    rw [nI_eq (by omega) (by decide)]
    omega
  intro m
  induction m with
  | zero =>
    intro d f h hf
    obtain ⟨f, rfl⟩ := suc_of hf
    rw [fX11_laidBeside_l23, dyes_spec hM, bd_go, if_pos (nI_le (by omega) (by omega))]
    unfold fX11_laidBeside_j68
    rw [hM.2.1, gd_pos h3, show d = b_nd B by omega]
  | succ m ih =>
    intro d f h hf
    obtain ⟨f, rfl⟩ := suc_of hf
    have e1 : ib (nI (8 * w + d)) 16 := ib_nI (by omega) (by decide)
    have e2 : ib (nI (16 * d + j)) 128 := ib_nI (by omega) (by decide)
    rw [fX11_laidBeside_l23, dyes_spec hM, bd_go, if_neg (nI_ge (by omega) (by omega))]
    simp only [ix8, ix16, gd_pos e1, gd_pos e2, bn_go, nI_1, cl_nI (show 8 * w + d < 2 ^ 31 by omega), cl_nI (show 16 * d + j < 2 ^ 31 by omega)]
    rw [hp d (by omega), hM.2.2.2.2.2.2.2.2.2.2.1 d (by omega) j hj, Int32.add_assoc]
    exact ih (d + 1) f (by omega) (by omega)
theorem over_in (k24 : St → Int32 → Int32 → Int32 → Int32 → Option (St × Int64)) (hM : RMb B S.1) (hB : Bok B) (hw : w < 2) {d : Nat} (hd : d < b_nd B) (hp : S.1 21 (8 * w + d) = nI (p d)) (hP : p d < 100000) {j : Nat} (hj : j < b_nb B) {x0 : Int32} : ∀ (m i f : Nat), i + m = p d → m < f → fX11_laidOver_l36 n k24 f S (nI w) (nI j) (overN x0 (b_dye B d j) i) (nI d) (nI i) = k24 S (nI w) (nI j) (overN x0 (b_dye B d j) (p d)) (nI (d + 1)) := by
  have h8 : b_nd B ≤ 8 := hB.2.2.2.2.2.1
  have h16 : b_nb B ≤ 16 := hB.1.2
  have e1 : ib (nI (8 * w + d)) 16 := ib_nI (by omega) (by decide)
  have e2 : ib (nI (16 * d + j)) 128 := ib_nI (by omega) (by decide)
  intro m
  induction m with
  | zero =>
    intro i f h hf
    obtain ⟨f, rfl⟩ := suc_of hf
    rw [fX11_laidOver_l36]
    simp only [ix8, ix16, gd_pos e1, gd_pos e2, cl_nI (show 8 * w + d < 2 ^ 31 by omega), hp]
    rw [if_pos (nI_le (by omega) (by omega)), show i = p d by omega]
    unfold fX11_laidOver_j77
    rw [bn_go, nI_1]
  | succ m ih =>
    intro i f h hf
    obtain ⟨f, rfl⟩ := suc_of hf
    rw [fX11_laidOver_l36]
    simp only [ix8, ix16, gd_pos e1, gd_pos e2, cl_nI (show 8 * w + d < 2 ^ 31 by omega), hp]
    rw [if_neg (nI_ge (by omega) (by omega))]
    simp only [bn_go, nI_1, cl_nI (show 16 * d + j < 2 ^ 31 by omega)]
    rw [hM.2.2.2.2.2.2.2.2.2.2.1 d (by omega) j hj]
    exact ih (i + 1) f (by omega) (by omega)
theorem over_loop (hn : 200000 ≤ n) (hM : RMb B S.1) (hB : Bok B) (hw : w < 2) (hp : ∀ d, d < b_nd B → S.1 21 (8 * w + d) = nI (p d)) (hP : ∀ d, d < b_nd B → p d < 100000) {j : Nat} (hj : j < b_nb B) : ∀ (m d f : Nat), d + m = b_nd B → m < f → fX11_laidOver_l24 n f S (nI w) (nI j) (thrO B k p j d) (nI d) = some (S, (thrO B k p j (b_nd B)).toInt64) := by
  have h8 : b_nd B ≤ 8 := hB.2.2.2.2.2.1
  intro m
  induction m with
  | zero =>
    intro d f h hf
    obtain ⟨f, rfl⟩ := suc_of hf
    rw [fX11_laidOver_l24, dyes_spec hM, bd_go, if_pos (nI_le (by omega) (by omega)), show d = b_nd B by omega]
  | succ m ih =>
    intro d f h hf
    obtain ⟨f, rfl⟩ := suc_of hf
    have := hP d (by omega)
    rw [fX11_laidOver_l24, dyes_spec hM, bd_go, if_neg (nI_ge (by omega) (by omega)), show (0 : Int32) = nI 0 from rfl]
    have e := over_in (n := n) (fX11_laidOver_l24 n f) hM hB hw (show d < b_nd B by omega) (hp d (by omega)) (hP d (by omega)) hj (x0 := thrO B k p j d) (p d) 0 n (by omega) (by omega)
    rw [overN] at e
    rw [e]
    exact ih (d + 1) f (by omega) (by omega)
theorem lay_loop (hn : 200000 ≤ n) (hM : RMb B S.1) (hB : Bok B) (hw : w < 2) (hk : k < 4) (hG : ∀ j, j < b_nb B → S.1 14 (16 * k + j) = b_grd B k j) (hg : S.1 22 w = nI k) (hp : ∀ d, d < b_nd B → S.1 21 (8 * w + d) = nI (p d)) (hP : ∀ d, d < b_nd B → p d < 100000) : ∀ (m j f : Nat), j + m = b_nb B → m < f → fX11_lay_l34 n f (rL S 23 (fun i => if 16 * w ≤ i ∧ i < 16 * w + j then (thr B k p (i - 16 * w)).toInt64 else S.2.1 23 i)) (nI w) (sumI (fun i => nI (p i)) (b_nd B)) (nI j) = some (rL S 23 (fun i => if 16 * w ≤ i ∧ i < 16 * w + b_nb B then (thr B k p (i - 16 * w)).toInt64 else S.2.1 23 i), ()) := by
  have h8 : b_nd B ≤ 8 := hB.2.2.2.2.2.1
  have h16 : b_nb B ≤ 16 := hB.1.2
  have ho : b_over B ≤ 1 := hB.2.2.2.2.1
  intro m
  induction m with
  | zero =>
    intro j f h hf
    obtain ⟨f, rfl⟩ := suc_of hf
    rw [fX11_lay_l34, rL_1, hM.1, if_pos (nI_le (by omega) (by omega)), show j = b_nb B by omega]
  | succ m ih =>
    intro j f h hf
    obtain ⟨f, rfl⟩ := suc_of hf
    have e1 : ib (nI w) 2 := ib_nI (by omega) (by decide)
    have e2 : ib (nI (16 * k + j)) 64 := ib_nI (by omega) (by decide)
    have e3 : ib (nI (16 * w + j)) 32 := ib_nI (by omega) (by decide)
    have key : ∀ y, y = thr B k p j → (∀ T : St, T = rL S 23 (fun i => if 16 * w ≤ i ∧ i < 16 * w + j then (thr B k p (i - 16 * w)).toInt64 else S.2.1 23 i) → fX11_lay_j80 n (fX11_lay_l34 n f) T (nI w) (sumI (fun i => nI (p i)) (b_nd B)) (nI j) (nI (16 * w + j)) y.toInt64 = some (rL S 23 (fun i => if 16 * w ≤ i ∧ i < 16 * w + b_nb B then (thr B k p (i - 16 * w)).toInt64 else S.2.1 23 i), ())) := by
      intro y hy T hT
      subst hy
      unfold fX11_lay_j80
      simp only [ix16, gd_pos e3, bn_go, nI_1, cl_nI (show 16 * w + j < 2 ^ 31 by omega)]
      rw [hT, fillL (fun i => (thr B k p i).toInt64) (S.2.1 23)]
      exact ih (j + 1) f (by omega) (by omega)
    rw [fX11_lay_l34, rL_1, hM.1, if_neg (nI_ge (by omega) (by omega)), hM.2.2.2.2.1, hM.2.1]
    generalize hT : rL S 23 (fun i => if 16 * w ≤ i ∧ i < 16 * w + j then (thr B k p (i - 16 * w)).toInt64 else S.2.1 23 i) = T at key
    have t1 : T.1 = S.1 := by rw [← hT]; rfl
    have hM' : RMb B T.1 := by rw [t1]; exact hM
    have hp' : ∀ d, d < b_nd B → T.1 21 (8 * w + d) = nI (p d) := by rw [t1]; exact hp
    by_cases q : b_over B = 0
    · rw [if_pos (show nI (b_over B) = 0 by rw [q]; rfl)]
      unfold fX11_laidBeside
      simp only [gd_pos e1, cl_nI (show w < 2 ^ 31 by omega), t1, hg, ix16, gd_pos e2, bn_go, cl_nI (show 16 * k + j < 2 ^ 31 by omega)]
      have e := beside_loop (n := n) hM' hB hw hp' (show j < b_nb B by omega) (x0 := (nI (b_most B) - sumI (fun i => nI (p i)) (b_nd B)) * S.1 14 (16 * k + j)) (b_nd B) 0 n (by omega) (by omega)
      rw [sumI, Int32.add_zero] at e
      rw [show (0 : Int32) = nI 0 from rfl, e, bd_go, hG j (by omega)]
      refine key _ ?_ T rfl
      rw [thrB_sum, thr, if_pos q]
    · have q1 : b_over B = 1 := by omega
      rw [if_neg (show ¬ nI (b_over B) = 0 by rw [q1]; decide)]
      unfold fX11_laidOver
      simp only [gd_pos e1, cl_nI (show w < 2 ^ 31 by omega), t1, hg, ix16, gd_pos e2, bn_go, cl_nI (show 16 * k + j < 2 ^ 31 by omega)]
      rw [hG j (by omega), Int32.mul_comm, show b_grd B k j * 1000 = thrO B k p j 0 from rfl, show (0 : Int32) = nI 0 from rfl, over_loop hn hM' hB hw hp' hP (by omega) (b_nd B) 0 n (by omega) (by omega), bd_go]
      refine key _ ?_ T rfl
      rw [thr, if_neg q]
theorem lay_sum (hM : RMb B S.1) (hB : Bok B) (hw : w < 2) (hp : ∀ d, d < b_nd B → S.1 21 (8 * w + d) = nI (p d)) : ∀ (m d f : Nat), d + m = b_nd B → m < f → fX11_lay_l4 n f S (nI w) (sumI (fun i => nI (p i)) d) (nI d) = fX11_lay_j32 n S (nI w) (sumI (fun i => nI (p i)) (b_nd B)) := by
  have h8 : b_nd B ≤ 8 := hB.2.2.2.2.2.1
  intro m
  induction m with
  | zero =>
    intro d f h hf
    obtain ⟨f, rfl⟩ := suc_of hf
    rw [fX11_lay_l4, dyes_spec hM, bd_go, if_pos (nI_le (by omega) (by omega)), show d = b_nd B by omega]
  | succ m ih =>
    intro d f h hf
    obtain ⟨f, rfl⟩ := suc_of hf
    have e1 : ib (nI (8 * w + d)) 16 := ib_nI (by omega) (by decide)
    rw [fX11_lay_l4, dyes_spec hM, bd_go, if_neg (nI_ge (by omega) (by omega))]
    simp only [ix8, gd_pos e1, bn_go, nI_1, cl_nI (show 8 * w + d < 2 ^ 31 by omega), hp d (show d < b_nd B by omega)]
    exact ih (d + 1) f (by omega) (by omega)
theorem lay_spec (hn : 200000 ≤ n) (hM : RMb B S.1) (hB : Bok B) (hw : w < 2) (hk : k < 4) (hG : ∀ j, j < b_nb B → S.1 14 (16 * k + j) = b_grd B k j) (hg : S.1 22 w = nI k) (hp : ∀ d, d < b_nd B → S.1 21 (8 * w + d) = nI (p d)) (hP : ∀ d, d < b_nd B → p d < 100000) : fX11_lay n S (nI w) = some (rL S 23 (fun i => if 16 * w ≤ i ∧ i < 16 * w + b_nb B then (thr B k p (i - 16 * w)).toInt64 else S.2.1 23 i), ()) := by
  have h8 : b_nd B ≤ 8 := hB.2.2.2.2.2.1
  have h16 : b_nb B ≤ 16 := hB.1.2
  have e1 := lay_sum (n := n) hM hB hw hp (b_nd B) 0 n (by omega) (by omega)
  have e2 := lay_loop hn hM hB hw hk hG hg hp hP (b_nb B) 0 n (by omega) (by omega)
  rw [rL_id (fun i => if_neg (by omega))] at e2
  exact e1.trans e2
/-- the parts that become is to lay down -/
def Pv (B : Bd) (M : Nat → Nat → Int32) (x2 x3 : Int32) (d : Nat) : Int32 := if b_nd B ≤ d then 0 else if nI d = x3 then 0 else if 0 ≤ x2 then M 20 (8 * x2.toNatClampNeg + d) else M 31 d
def bec (B : Bd) (S : St) (w k : Nat) (p : Nat → Nat) : St := rL (rI (sI S 22 w (nI k)) 21 (fun i => if 8 * w ≤ i ∧ i < 8 * w + 8 then nI (p (i - 8 * w)) else S.1 21 i)) 23 (fun i => if 16 * w ≤ i ∧ i < 16 * w + b_nb B then (thr B k p (i - 16 * w)).toInt64 else S.2.1 23 i)
theorem bec_loop {x2 x3 : Int32} (hn : 200000 ≤ n) (hM : RMb B S.1) (hB : Bok B) (hw : w < 2) (hx : (∃ g, g < 8 ∧ x2 = nI g) ∨ x2 < 0) (hp : ∀ d, d < 8 → Pv B S.1 x2 x3 d = nI (p d)) : ∀ (m d f : Nat), d + m = 8 → m < f → fX11_become_l26 n f (rI S 21 (fun i => if 8 * w ≤ i ∧ i < 8 * w + d then nI (p (i - 8 * w)) else S.1 21 i)) (nI w) x2 x3 (nI d) = fX11_become_j96 n (rI S 21 (fun i => if 8 * w ≤ i ∧ i < 8 * w + 8 then nI (p (i - 8 * w)) else S.1 21 i)) (nI w) := by
  have h8 : b_nd B ≤ 8 := hB.2.2.2.2.2.1
  intro m
  induction m with
  | zero =>
    intro d f h hf
    obtain ⟨f, rfl⟩ := suc_of hf
    rw [fX11_become_l26, if_pos (le8 (k := d) (by omega) (by omega)), show d = 8 by omega]
  | succ m ih =>
    intro d f h hf
    obtain ⟨f, rfl⟩ := suc_of hf
    have e1 : ib (nI (8 * w + d)) 16 := ib_nI (by omega) (by decide)
    have e8 : ib (nI d) 8 := ib_nI (by omega) (by decide)
    have key : ∀ y, y = Pv B S.1 x2 x3 d → fX11_become_j89 n (fX11_become_l26 n f) (rI S 21 (fun i => if 8 * w ≤ i ∧ i < 8 * w + d then nI (p (i - 8 * w)) else S.1 21 i)) (nI w) x2 x3 (nI d) (8 * nI w + nI d) y = fX11_become_j96 n (rI S 21 (fun i => if 8 * w ≤ i ∧ i < 8 * w + 8 then nI (p (i - 8 * w)) else S.1 21 i)) (nI w) := by
      intro y hy
      rw [hy, hp d (by omega)]
      unfold fX11_become_j89
      simp only [ix8, gd_pos e1, bn_go, nI_1, cl_nI (show 8 * w + d < 2 ^ 31 by omega)]
      rw [fillO (fun i => nI (p i)) (S.1 21)]
      exact ih (d + 1) f (by omega) (by omega)
    have hM' : RMb B (rI S 21 (fun i => if 8 * w ≤ i ∧ i < 8 * w + d then nI (p (i - 8 * w)) else S.1 21 i)).1 := RMb_frame hM (fun a q => rI_ne (by unfold coreM at q; omega)) (fun k _ => by rw [rI_ne (by decide)])
    rw [fX11_become_l26, if_neg (nle8 (k := d) (by omega)), dyes_spec hM', bd_go]
    unfold fX11_become_j59
    unfold Pv at key
    by_cases c1 : b_nd B ≤ d
    · rw [if_pos (nI_le c1 (by omega))]
      refine key _ ?_
      rw [if_pos c1]
    · rw [if_neg (nI_ge (by omega) (by omega))]
      simp only [if_neg c1] at key
      by_cases c2 : nI d = x3
      · rw [if_pos c2]
        refine key _ ?_
        rw [if_pos c2]
      · rw [if_neg c2]
        simp only [if_neg c2] at key
        rcases hx with ⟨g, hg, rfl⟩ | hx
        · have c3 : (0 : Int32) ≤ nI g := nI_le (a := 0) (by omega) (by omega)
          have e64 : ib (nI (8 * g + d)) 64 := ib_nI (by omega) (by decide)
          rw [if_pos c3]
          simp only [gd_pos e64, ix8, cl_nI (show 8 * g + d < 2 ^ 31 by omega), rI_ne (show (20 : Nat) ≠ 21 by decide)]
          simp only [if_pos c3, cl_nI (show g < 2 ^ 31 by omega), ix8] at key
          exact key _ rfl
        · have c3 : ¬ (0 : Int32) ≤ x2 := by
            rw [Int32.lt_iff_toInt_lt] at hx
            rw [Int32.le_iff_toInt_le]
            omega
          rw [if_neg c3]
          simp only [gd_pos e8, cl_nI (show d < 2 ^ 31 by omega), rI_ne (show (31 : Nat) ≠ 21 by decide)]
          simp only [if_neg c3] at key
          exact key _ rfl
theorem become_j22 {x2 x3 : Int32} (hn : 200000 ≤ n) (hM : RMb B S.1) (hB : Bok B) (hw : w < 2) (hk : k < 4) (hG : ∀ j, j < b_nb B → S.1 14 (16 * k + j) = b_grd B k j) (hx : (∃ g, g < 8 ∧ x2 = nI g) ∨ x2 < 0) (hp : ∀ d, d < 8 → Pv B S.1 x2 x3 d = nI (p d)) (hP : ∀ d, d < b_nd B → p d < 100000) : fX11_become_j22 n S (nI w) x2 x3 (nI w) (nI k) = some (bec B S w k p, ()) := by
  have h8 : b_nd B ≤ 8 := hB.2.2.2.2.2.1
  have e1 : ib (nI w) 2 := ib_nI (by omega) (by decide)
  unfold fX11_become_j22
  simp only [gd_pos e1, bn_go, cl_nI (show w < 2 ^ 31 by omega)]
  have hM' : RMb B (sI S 22 w (nI k)).1 := RMb_frame hM (fun a q => sI_ne (by unfold coreM at q; omega)) (fun k _ => by rw [sI_ne (by decide)])
  have e := bec_loop (n := n) (S := sI S 22 w (nI k)) (x2 := x2) (x3 := x3) hn hM' hB hw hx hp 8 0 n (by omega) (by omega)
  rw [rI_id (fun i => if_neg (by omega))] at e
  rw [show (0 : Int32) = nI 0 from rfl, e]
  unfold fX11_become_j96
  have hM2 : ∀ f, RMb B (rI (sI S 22 w (nI k)) 21 f).1 := fun f => RMb_frame hM' (fun a q => rI_ne (by unfold coreM at q; omega)) (fun k _ => by rw [rI_ne (by decide)])
  rw [lay_spec (p := p) (k := k) hn (hM2 _) hB hw hk (fun j hj => hG j hj) (by rw [rI_ne (by decide), sI_row, upd_eq]) (fun d hd => by rw [rI_row, if_pos (by omega), show 8 * w + d - 8 * w = d by omega]) hP, bd_go]
  rfl
end
