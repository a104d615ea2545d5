theorem rI_rI {S : St} {a : Nat} {f g : Nat → Int32} : rI (rI S a f) a g = rI S a g := by
  unfold rI
  refine Prod.ext ?_ rfl
  funext q
  show va_up (va_up S.1 a f) a g q = va_up S.1 a g q
  unfold va_up
  by_cases h : q = a
  · rw [if_pos h, if_pos h]
  · rw [if_neg h, if_neg h, if_neg h]
theorem sI_rI {S : St} {a k : Nat} {v : Int32} : sI S a k v = rI S a (upd (S.1 a) k v) := rfl
theorem fillI {S : St} {a k : Nat} (f g : Nat → Int32) : sI (rI S a (fun i => if i < k then f i else g i)) a k (f k) = rI S a (fun i => if i < k + 1 then f i else g i) := by
  rw [sI_rI, rI_rI, rI_row]
  refine rI_ext fun i => ?_
  show (if i = k then f k else if i < k then f i else g i) = _
  by_cases q : i = k
  · subst q; rw [if_pos rfl, if_pos (by omega)]
  · rw [if_neg q]
    by_cases q2 : i < k
    · rw [if_pos q2, if_pos (by omega)]
    · rw [if_neg q2, if_neg (by omega)]
theorem fill0 {S : St} {a : Nat} {f : Nat → Int32} : rI S a (fun i => if i < 0 then f i else S.1 a i) = S := rI_id (fun i => if_neg (by omega))
/-- one part more, as a number -/
def stp (B : Bd) (g d j : Nat) (x : Int32) : Int32 := if b_over B = 0 then x + b_dye B d j - b_grd B g j else x * b_dye B d j / 100
def itS (B : Bd) (g d j : Nat) (x : Int32) : Nat → Int32
  | 0 => x
  | k + 1 => stp B g d j (itS B g d j x k)
def lyr (B : Bd) (g : Nat) (p : Nat → Nat) (j : Nat) : Nat → Int32
  | 0 => if b_over B = 0 then b_grd B g j * nI (b_most B) else b_grd B g j * 1000
  | d + 1 => itS B g d j (lyr B g p j d) (p d)
def setl (B : Bd) (x : Int32) : Int32 := if b_over B = 0 then x * 1000 / nI (b_most B) else x
theorem itS_0 {B : Bd} {g d j : Nat} {x : Int32} (h : b_over B = 0) : ∀ k, itS B g d j x k = x + nI k * (b_dye B d j - b_grd B g j)
  | 0 => by
    rw [itS, show nI 0 = 0 from rfl]
    grind
  | k + 1 => by
    rw [itS, itS_0 h k, stp, if_pos h, ← nI_1]
    grind
theorem itS_1 {B : Bd} {g d j : Nat} {x : Int32} (h : ¬ b_over B = 0) : ∀ k, itS B g d j x k = overN x (b_dye B d j) k
  | 0 => rfl
  | k + 1 => by rw [itS, itS_1 h k, stp, if_neg h, overN]
theorem lyr_0 {B : Bd} {g j : Nat} {p : Nat → Nat} (h : b_over B = 0) : ∀ d, lyr B g p j d = thrB B g p j d
  | 0 => by rw [lyr, if_pos h, thrB]
  | d + 1 => by rw [lyr, lyr_0 h d, itS_0 h, thrB]
theorem lyr_1 {B : Bd} {g j : Nat} {p : Nat → Nat} (h : ¬ b_over B = 0) : ∀ d, lyr B g p j d = thrO B g p j d
  | 0 => by rw [lyr, if_neg h, thrO]
  | d + 1 => by rw [lyr, lyr_1 h d, itS_1 h, thrO]
theorem thr_lyr {B : Bd} {g j : Nat} {p : Nat → Nat} : thr B g p j = setl B (lyr B g p j (b_nd B)) := by
  unfold thr setl
  by_cases h : b_over B = 0
  · rw [if_pos h, if_pos h, lyr_0 h]
  · rw [if_neg h, if_neg h, lyr_1 h]
theorem bk3 {b : Nat} (hb : b = 3 ∨ b = 77) : (srX (b + 1) 2 = b + 3 ∧ isK sdX (b + 3) 17 ∧ lnX (b + 3) = 8 ∧ ∀ d, d < 8 → srX (b + 3) d = b + 4 + d ∧ isK sdX (b + 4 + d) 13 ∧ lnX (b + 4 + d) = 16) ∧ (srX (b + 12) 2 = b + 14 ∧ isK sdX (b + 14) 17 ∧ lnX (b + 14) = 4 ∧ ∀ d, d < 4 → srX (b + 14) d = b + 15 + d ∧ isK sdX (b + 15 + d) 13 ∧ lnX (b + 15 + d) = 16) ∧ (srX (b + 19) 2 = b + 21 ∧ isK sdX (b + 21) 17 ∧ lnX (b + 21) = 6 ∧ ∀ d, d < 6 → srX (b + 21) d = b + 22 + d ∧ isK sdX (b + 22 + d) 13 ∧ lnX (b + 22 + d) = 16) ∧ (srX (b + 28) 2 = b + 30 ∧ isK sdX (b + 30) 17 ∧ lnX (b + 30) = 4 ∧ ∀ d, d < 4 → srX (b + 30) d = b + 31 + d ∧ isK sdX (b + 31 + d) 13 ∧ lnX (b + 31 + d) = 16) ∧ (srX (b + 35) 2 = b + 37 ∧ isK sdX (b + 37) 17 ∧ lnX (b + 37) = 8 ∧ ∀ d, d < 8 → srX (b + 37) d = b + 38 + d ∧ isK sdX (b + 38 + d) 13 ∧ lnX (b + 38 + d) = 8) ∧ (srX b 8 = b + 49 ∧ isK sdX (b + 49) 17 ∧ lnX (b + 49) = 24 ∧ ∀ d, d < 24 → srX (b + 49) d = b + 50 + d ∧ isK sdX (b + 50 + d) 13 ∧ lnX (b + 50 + d) = 16) := by
  rcases hb with rfl | rfl
  · exact ⟨⟨by decide, by decide, by decide, by decide⟩, ⟨by decide, by decide, by decide, by decide⟩, ⟨by decide, by decide, by decide, by decide⟩, ⟨by decide, by decide, by decide, by decide⟩, ⟨by decide, by decide, by decide, by decide⟩, ⟨by decide, by decide, by decide, by decide⟩⟩
  · exact ⟨⟨by decide, by decide, by decide, by decide⟩, ⟨by decide, by decide, by decide, by decide⟩, ⟨by decide, by decide, by decide, by decide⟩, ⟨by decide, by decide, by decide, by decide⟩, ⟨by decide, by decide, by decide, by decide⟩, ⟨by decide, by decide, by decide, by decide⟩⟩
/-- a row of bands outside the bench -/
def oRow (b a : Nat) : Prop := isK sdX a 13 ∧ lnX a = 16 ∧ ∀ c, b ≤ c → c < b + 74 → c ≠ a
theorem sd_sr {a k : Nat} : sdX.2.2.2 a k = srX a k := rfl
theorem sd_ln {a : Nat} : sdX.2.2.1 a = lnX a := rfl
theorem ext_some {α : Type} {a b : St} {r : α} (h : a = b) : some (a, r) = some (b, r) := by rw [h]
theorem layGround_loop {n b a g : Nat} {B : Bd} {S : St} {sc : Int32} (hb : b = 3 ∨ b = 77) (hB : Bok B) (hX : RXb B S.1 b) (ha : oRow b a) (hg : g < b_ng B) : ∀ (m k j : Nat), k + m = b_nb B → m < j → fX0_layGround_l21 sdX n j (rI S a (fun i => if i < k then b_grd B g i * sc else S.1 a i)) b (nI g) a sc (nI k) = some (rI S a (fun i => if i < b_nb B then b_grd B g i * sc else S.1 a i), ()) := by
  obtain ⟨k1, ⟨-, k2, -⟩, -, k3, -⟩ := bk hb
  obtain ⟨-, ⟨s1, s2, s3, s4⟩, -⟩ := bk3 hb
  obtain ⟨a1, a2, a3⟩ := ha
  have h16 : b_nb B ≤ 16 := hB.1.2
  have hg4 : b_ng B ≤ 4 := hB.2.2.2.2.2.2.1
  obtain ⟨u1, u2, u3⟩ := s4 g (by omega)
  intro m
  induction m with
  | zero =>
    intro k j h hj
    obtain ⟨j, rfl⟩ := suc_of hj
    rw [fX0_layGround_l21, gd_pos k1, rI_ne (a3 b (by omega) (by omega)), hX.1, if_pos (nI_le (by omega) (by omega)), show k = b_nb B by omega]
  | succ m ih =>
    intro k j h hj
    obtain ⟨j, rfl⟩ := suc_of hj
    have e4 : ib (nI g) 4 := ib_nI (by omega) (by decide)
    have e16 : ib (nI k) 16 := ib_nI (by omega) (by decide)
    rw [fX0_layGround_l21, gd_pos k1, rI_ne (a3 b (by omega) (by omega)), hX.1, if_neg (nI_ge (by omega) (by omega))]
    simp only [sd_sr, sd_ln, k2, s1, s3, cl_nI (show g < 2 ^ 31 by omega), u1, u3, a2, gd_pos k3, gd_pos s2, gd_pos e4, gd_pos u2, gd_pos e16, gd_pos a1, bn_go, nI_1, cl_nI (show k < 2 ^ 31 by omega)]
    rw [rI_ne (a3 _ (by omega) (by omega)), hX.2.2.2.2.2.2.2.2.2.2.2.1 g hg k (by omega)]
    rw [fillI (fun i => b_grd B g i * sc) (S.1 a)]
    exact ih (k + 1) j (by omega) (by omega)
theorem layGround_spec {n b a g : Nat} {B : Bd} {S : St} (hn : 200000 ≤ n) (hb : b = 3 ∨ b = 77) (hB : Bok B) (hX : RXb B S.1 b) (ha : oRow b a) (hg : g < b_ng B) (p : Nat → Nat) : fX0_layGround sdX n S b (nI g) a = some (rI S a (fun i => if i < b_nb B then lyr B g p i 0 else S.1 a i), ()) := by
  obtain ⟨k1, -⟩ := bk hb
  have ho : b_over B ≤ 1 := hB.2.2.2.2.1
  have h16 : b_nb B ≤ 16 := hB.1.2
  have key : ∀ sc, fX0_layGround_j17 sdX n S b (nI g) a sc = some (rI S a (fun i => if i < b_nb B then b_grd B g i * sc else S.1 a i), ()) := fun sc => by
    unfold fX0_layGround_j17
    have := layGround_loop (n := n) (sc := sc) hb hB hX ha hg (b_nb B) 0 n (by omega) (by omega)
    rw [fill0] at this
    exact this
  unfold fX0_layGround
  rw [gd_pos k1, hX.2.2.2.2.1, hX.2.1, key, key]
  simp only [lyr]
  by_cases q : b_over B = 0
  · rw [q, if_pos (show nI 0 = 0 from rfl)]
    simp only [if_pos]
  · have : b_over B = 1 := by omega
    rw [this, if_neg (show ¬ nI 1 = 0 by decide)]
    simp only [show ¬ (1 : Nat) = 0 by decide, if_false]
theorem addPart_loop {n b c a g d : Nat} {B : Bd} {S : St} (hb : b = 3 ∨ b = 77) (hB : Bok B) (hX : RXb B S.1 b) (ha : oRow b a) (hc : oRow b c) (hg : g < b_ng B) (hd : d < b_nd B) : ∀ (m k j : Nat), k + m = b_nb B → m < j → fX0_addPart_l25 sdX n j (rI S a (fun i => if i < k then stp B g d i (S.1 c i) else S.1 a i)) b c a (b + 4 + d) (b + 15 + g) (nI k) = some (rI S a (fun i => if i < b_nb B then stp B g d i (S.1 c i) else S.1 a i), ()) := by
  obtain ⟨k1, -⟩ := bk hb
  obtain ⟨⟨-, -, -, t4⟩, ⟨-, -, -, s4⟩, -⟩ := bk3 hb
  obtain ⟨a1, a2, a3⟩ := ha
  obtain ⟨c1, c2, c3⟩ := hc
  have h16 : b_nb B ≤ 16 := hB.1.2
  have hg4 : b_ng B ≤ 4 := hB.2.2.2.2.2.2.1
  have h8 : b_nd B ≤ 8 := hB.2.2.2.2.2.1
  have ho : b_over B ≤ 1 := hB.2.2.2.2.1
  obtain ⟨-, u2, u3⟩ := s4 g (by omega)
  obtain ⟨-, v2, v3⟩ := t4 d (by omega)
  intro m
  induction m with
  | zero =>
    intro k j h hj
    obtain ⟨j, rfl⟩ := suc_of hj
    rw [fX0_addPart_l25, gd_pos k1, rI_ne (a3 b (by omega) (by omega)), hX.1, if_pos (nI_le (by omega) (by omega)), show k = b_nb B by omega]
  | succ m ih =>
    intro k j h hj
    obtain ⟨j, rfl⟩ := suc_of hj
    have e16 : ib (nI k) 16 := ib_nI (by omega) (by decide)
    have ec : (rI S a (fun i => if i < k then stp B g d i (S.1 c i) else S.1 a i)).1 c k = S.1 c k := by
      by_cases q : c = a
      · subst q; rw [rI_row, if_neg (by omega)]
      · rw [rI_ne q]
    rw [fX0_addPart_l25, gd_pos k1, rI_ne (a3 b (by omega) (by omega)), hX.1, if_neg (nI_ge (by omega) (by omega)), hX.2.2.2.2.1]
    unfold fX0_addPart_j77
    simp only [sd_sr, sd_ln, u3, v3, a2, c2, gd_pos u2, gd_pos v2, gd_pos e16, gd_pos a1, gd_pos c1, bn_go, nI_1, cl_nI (show k < 2 ^ 31 by omega), ec]
    rw [rI_ne (a3 (b + 4 + d) (by omega) (by omega)), hX.2.2.2.2.2.2.2.2.2.2.1 d hd k (by omega), rI_ne (a3 (b + 15 + g) (by omega) (by omega)), hX.2.2.2.2.2.2.2.2.2.2.2.1 g hg k (by omega)]
    rw [← ih (k + 1) j (by omega) (by omega), ← fillI (fun i => stp B g d i (S.1 c i)) (S.1 a)]
    show _ = fX0_addPart_l25 sdX n j (sI _ a k (stp B g d k (S.1 c k))) b c a (b + 4 + d) (b + 15 + g) (nI (k + 1))
    unfold stp
    by_cases q : b_over B = 0
    · rw [if_pos (show nI (b_over B) = 0 by rw [q]; rfl), if_pos q]
    · have q1 : b_over B = 1 := by omega
      rw [if_neg (show ¬ nI (b_over B) = 0 by rw [q1]; decide), if_neg q]
theorem addPart_spec {n b c a g d : Nat} {B : Bd} {S : St} (hn : 200000 ≤ n) (hb : b = 3 ∨ b = 77) (hB : Bok B) (hX : RXb B S.1 b) (ha : oRow b a) (hc : oRow b c) (hg : g < b_ng B) (hd : d < b_nd B) : fX0_addPart sdX n S b (nI g) (nI d) c a = some (rI S a (fun i => if i < b_nb B then stp B g d i (S.1 c i) else S.1 a i), ()) := by
  obtain ⟨k1, ⟨k0, k2, -⟩, k0', k3, -⟩ := bk hb
  obtain ⟨⟨t1, t2, t3, t4⟩, ⟨s1, s2, s3, s4⟩, -⟩ := bk3 hb
  have h16 : b_nb B ≤ 16 := hB.1.2
  have hg4 : b_ng B ≤ 4 := hB.2.2.2.2.2.2.1
  have h8 : b_nd B ≤ 8 := hB.2.2.2.2.2.1
  obtain ⟨u1, u2, u3⟩ := s4 g (by omega)
  obtain ⟨v1, v2, v3⟩ := t4 d (by omega)
  have e4 : ib (nI g) 4 := ib_nI (by omega) (by decide)
  have e8 : ib (nI d) 8 := ib_nI (by omega) (by decide)
  unfold fX0_addPart
  simp only [sd_sr, sd_ln, k0, k2, s1, s3, t1, t3, cl_nI (show g < 2 ^ 31 by omega), cl_nI (show d < 2 ^ 31 by omega), u1, v1, gd_pos k1, gd_pos k0', gd_pos k3, gd_pos s2, gd_pos t2, gd_pos e4, gd_pos e8, gd_pos u2, gd_pos v2, bn_go]
  have := addPart_loop (n := n) hb hB hX ha hc hg hd (b_nb B) 0 n (by omega) (by omega)
  rw [fill0] at this
  exact this
theorem settle_loop {n b c a : Nat} {B : Bd} {S : St} {x3 x4 : Int32} (h3 : ¬ x3 = 0) (hb : b = 3 ∨ b = 77) (hB : Bok B) (hX : RXb B S.1 b) (ha : oRow b a) (hc : oRow b c) : ∀ (m k j : Nat), k + m = b_nb B → m < j → fX0_settle_l41 sdX n j (rI S a (fun i => if i < k then S.1 c i * x4 / x3 else S.1 a i)) b c a x3 x4 (nI k) = some (rI S a (fun i => if i < b_nb B then S.1 c i * x4 / x3 else S.1 a i), ()) := by
  obtain ⟨k1, -⟩ := bk hb
  obtain ⟨a1, a2, a3⟩ := ha
  obtain ⟨c1, c2, c3⟩ := hc
  have h16 : b_nb B ≤ 16 := hB.1.2
  intro m
  induction m with
  | zero =>
    intro k j h hj
    obtain ⟨j, rfl⟩ := suc_of hj
    rw [fX0_settle_l41, gd_pos k1, rI_ne (a3 b (by omega) (by omega)), hX.1, if_pos (nI_le (by omega) (by omega)), show k = b_nb B by omega]
  | succ m ih =>
    intro k j h hj
    obtain ⟨j, rfl⟩ := suc_of hj
    have e16 : ib (nI k) 16 := ib_nI (by omega) (by decide)
    have ec : (rI S a (fun i => if i < k then S.1 c i * x4 / x3 else S.1 a i)).1 c k = S.1 c k := by
      by_cases q : c = a
      · subst q; rw [rI_row, if_neg (by omega)]
      · rw [rI_ne q]
    rw [fX0_settle_l41, gd_pos k1, rI_ne (a3 b (by omega) (by omega)), hX.1, if_neg (nI_ge (by omega) (by omega))]
    simp only [sd_sr, sd_ln, a2, c2, gd_pos e16, gd_pos a1, gd_pos c1, gd_pos h3, bn_go, nI_1, cl_nI (show k < 2 ^ 31 by omega), ec]
    rw [fillI (fun i => S.1 c i * x4 / x3) (S.1 a)]
    exact ih (k + 1) j (by omega) (by omega)
theorem settle_spec {n b c a : Nat} {B : Bd} {S : St} (hn : 200000 ≤ n) (hb : b = 3 ∨ b = 77) (hB : Bok B) (hX : RXb B S.1 b) (ha : oRow b a) (hc : oRow b c) : fX0_settle sdX n S b c a = some (rI S a (fun i => if i < b_nb B then setl B (S.1 c i) else S.1 a i), ()) := by
  obtain ⟨k1, -⟩ := bk hb
  have h16 : b_nb B ≤ 16 := hB.1.2
  have ho : b_over B ≤ 1 := hB.2.2.2.2.1
  have hm := hB.2.1
  unfold fX0_settle fX0_settle_j15 fX0_settle_j30
  simp only [gd_pos k1, hX.2.2.2.2.1, hX.2.1]
  unfold setl
  by_cases q : b_over B = 0
  · have h3 : ¬ nI (b_most B) = 0 := by
      show ¬ nI (b_most B) = nI 0
      rw [nI_eq (by omega) (by decide)]
      omega
    have h1 : (1 : Int32) ≤ nI (b_most B) := nI_le (a := 1) (by omega) (by omega)
    rw [if_pos (show nI (b_over B) = 0 by rw [q]; rfl), if_pos (show nI (b_over B) = 0 by rw [q]; rfl), if_pos h1]
    have := settle_loop (n := n) (x3 := nI (b_most B)) (x4 := 1000) h3 hb hB hX ha hc (b_nb B) 0 n (by omega) (by omega)
    rw [fill0] at this
    rw [show (0 : Int32) = nI 0 from rfl, this]
    simp only [if_pos q]
  · have q1 : b_over B = 1 := by omega
    have hov : ¬ nI (b_over B) = 0 := by rw [q1]; decide
    rw [if_neg hov, if_neg hov, if_pos (by decide)]
    have := settle_loop (n := n) (x3 := 1) (x4 := 1) (by decide) hb hB hX ha hc (b_nb B) 0 n (by omega) (by omega)
    rw [fill0] at this
    rw [show (0 : Int32) = nI 0 from rfl, this]
    simp only [if_neg q, Int32.mul_one, Int32.div_one]
theorem oRow_frame {b a : Nat} {B : Bd} {S : St} {f : Nat → Int32} (hB : Bok B) (hX : RXb B S.1 b) (ha : oRow b a) : RXb B (rI S a f).1 b := RXb_frame hX (fun c h1 h2 => rI_ne (ha.2.2 c h1 h2)) hB
theorem throw_in {n b a q g d P : Nat} {B : Bd} {S : St} (k9 : St → Nat → Int32 → Nat → Nat → Int32 → Option (St × Unit)) (hn : 200000 ≤ n) (hb : b = 3 ∨ b = 77) (hB : Bok B) (hX : RXb B S.1 b) (ha : oRow b a) (hq : isK sdX q 13 ∧ lnX q = 8 ∧ q ≠ a) (hg : g < b_ng B) (hd : d < b_nd B) (hp : S.1 q d = nI P) (hP : P < 2 ^ 31) : ∀ (m k j : Nat) (f : Nat → Int32), k + m = P → m < j → fX0_throwBack_l24 sdX n k9 j (rI S a (fun i => if i < b_nb B then itS B g d i (f i) k else S.1 a i)) b (nI g) q a (nI d) (nI k) = k9 (rI S a (fun i => if i < b_nb B then itS B g d i (f i) P else S.1 a i)) b (nI g) q a (nI (d + 1)) := by
  obtain ⟨k1, -⟩ := bk hb
  obtain ⟨q1, q2, q3⟩ := hq
  have h8 : b_nd B ≤ 8 := hB.2.2.2.2.2.1
  have e8 : ib (nI d) 8 := ib_nI (by omega) (by decide)
  intro m
  induction m with
  | zero =>
    intro k j f h hj
    obtain ⟨j, rfl⟩ := suc_of hj
    rw [fX0_throwBack_l24]
    simp only [sd_sr, sd_ln, q2, gd_pos q1, gd_pos e8, cl_nI (show d < 2 ^ 31 by omega), rI_ne q3, hp]
    rw [if_pos (nI_le (by omega) (by omega)), show k = P by omega]
    unfold fX0_throwBack_j48
    rw [bn_go, nI_1]
  | succ m ih =>
    intro k j f h hj
    obtain ⟨j, rfl⟩ := suc_of hj
    rw [fX0_throwBack_l24]
    simp only [sd_sr, sd_ln, q2, gd_pos q1, gd_pos e8, cl_nI (show d < 2 ^ 31 by omega), rI_ne q3, hp]
    rw [if_neg (nI_ge (by omega) hP), gd_pos k1, addPart_spec hn hb hB (oRow_frame hB hX ha) ha ha hg hd, bd_go, bn_go, nI_1, rI_rI, rI_row]
    rw [← ih (k + 1) j f (by omega) (by omega)]
    congr 1
    refine rI_ext fun i => ?_
    by_cases z : i < b_nb B
    · rw [if_pos z, if_pos z, if_pos z, itS]
    · rw [if_neg z, if_neg z, if_neg z]
theorem throw_loop {n b a q g : Nat} {B : Bd} {S : St} {p : Nat → Nat} (hn : 200000 ≤ n) (hb : b = 3 ∨ b = 77) (hB : Bok B) (hX : RXb B S.1 b) (ha : oRow b a) (hq : isK sdX q 13 ∧ lnX q = 8 ∧ q ≠ a) (hg : g < b_ng B) (hp : ∀ d, d < b_nd B → S.1 q d = nI (p d)) (hP : ∀ d, d < b_nd B → p d < 100000) : ∀ (m d j : Nat), d + m = b_nd B → m < j → fX0_throwBack_l9 sdX n j (rI S a (fun i => if i < b_nb B then lyr B g p i d else S.1 a i)) b (nI g) q a (nI d) = some (rI S a (fun i => if i < b_nb B then thr B g p i else S.1 a i), ()) := by
  obtain ⟨k1, ⟨k2, -⟩, k3, -⟩ := bk hb
  have h8 : b_nd B ≤ 8 := hB.2.2.2.2.2.1
  intro m
  induction m with
  | zero =>
    intro d j h hj
    obtain ⟨j, rfl⟩ := suc_of hj
    rw [fX0_throwBack_l9, gd_pos k1]
    simp only [sd_sr, k2, gd_pos k3]
    rw [rI_ne (ha.2.2 _ (by omega) (by omega)), hX.2.2.2.2.2.1, if_pos (nI_le (by omega) (by omega))]
    unfold fX0_throwBack_j54
    rw [gd_pos k1, settle_spec hn hb hB (oRow_frame hB hX ha) ha ha, bd_go, rI_rI, rI_row]
    refine ext_some (rI_ext fun i => ?_)
    by_cases z : i < b_nb B
    · rw [if_pos z, if_pos z, if_pos z, thr_lyr, show d = b_nd B by omega]
    · rw [if_neg z, if_neg z, if_neg z]
  | succ m ih =>
    intro d j h hj
    obtain ⟨j, rfl⟩ := suc_of hj
    rw [fX0_throwBack_l9, gd_pos k1]
    simp only [sd_sr, k2, gd_pos k3]
    rw [rI_ne (ha.2.2 _ (by omega) (by omega)), hX.2.2.2.2.2.1, if_neg (nI_ge (by omega) (by omega))]
    have hpd := hP d (by omega)
    have := throw_in (n := n) (fX0_throwBack_l9 sdX n j) hn hb hB hX ha hq hg (show d < b_nd B by omega) (hp d (by omega)) (by omega) (p d) 0 n (fun i => lyr B g p i d) (by omega) (by omega)
    simp only [itS] at this
    rw [show (0 : Int32) = nI 0 from rfl, this]
    exact ih (d + 1) j (by omega) (by omega)
theorem throwBack_spec {n b a q g : Nat} {B : Bd} {S : St} {p : Nat → Nat} (hn : 200000 ≤ n) (hb : b = 3 ∨ b = 77) (hB : Bok B) (hX : RXb B S.1 b) (ha : oRow b a) (hq : isK sdX q 13 ∧ lnX q = 8 ∧ q ≠ a) (hg : g < b_ng B) (hp : ∀ d, d < b_nd B → S.1 q d = nI (p d)) (hP : ∀ d, d < b_nd B → p d < 100000) : fX0_throwBack sdX n S b (nI g) q a = some (rI S a (fun i => if i < b_nb B then thr B g p i else S.1 a i), ()) := by
  obtain ⟨k1, -⟩ := bk hb
  have h8 : b_nd B ≤ 8 := hB.2.2.2.2.2.1
  unfold fX0_throwBack
  rw [gd_pos k1, layGround_spec hn hb hB hX ha hg p, bd_go]
  exact throw_loop hn hb hB hX ha hq hg hp hP (b_nd B) 0 n (by omega) (by omega)
