/-! the class's light; the old mixes -/
def kLt (s : Nat) (X X' : St) : Prop := (∀ a, (a < s + 50 ∨ s + 74 ≤ a) → X'.1 a = X.1 a) ∧ X'.2 = X.2
def LtX (s nb l e : Nat) (X : St) : Prop := ∀ j, j < nb → X.1 (s + 50 + (4 * l + e)) j = X.1 (s + 22 + l) j * X.1 (s + 31 + e) j
section
variable {n s nb nl ne : Nat}
theorem lt_band {k2 : St → Nat → Int32 → Option (St × Unit)} {k15 : St → Nat → Int32 → Int32 → Option (St × Unit)} {l e : Nat} (hs : s = 3 ∨ s = 77) (hb : nb ≤ 16) (hl : l < 6) (he : e < 4) : ∀ (w k j : Nat) (X : St), k + w = nb → w < j → X.1 s 9 = nI nb → (∀ i, i < k → X.1 (s + 50 + (4 * l + e)) i = X.1 (s + 22 + l) i * X.1 (s + 31 + e) i) → ∃ X', fX0_mixLight_l40 sdX n k2 k15 j X s (nI l) (nI e) (s + 50 + (4 * l + e)) (nI k) = fX0_mixLight_j84 sdX n k2 k15 X' s (nI l) (nI e) ∧ (∀ a, a ≠ s + 50 + (4 * l + e) → X'.1 a = X.1 a) ∧ X'.2 = X.2 ∧ LtX s nb l e X' := by
  obtain ⟨kk, ⟨s0, s1, s2, s3, s4⟩, k0, k1, kl, ke, k4⟩ := bk hs
  obtain ⟨-, -, ⟨l1, l2, l3, l4⟩, ⟨e1, e2, e3, e4⟩, -, g1, g2, g3, g4⟩ := bk3 hs
  obtain ⟨l5, l6, l7⟩ := l4 l hl
  obtain ⟨e5, e6, e7⟩ := e4 e he
  obtain ⟨g5, g6, g7⟩ := g4 (4 * l + e) (by omega)
  intro w
  induction w with
  | zero =>
    intro k j X h hj h9 hp
    obtain ⟨j, rfl⟩ := suc_of hj
    rw [fX0_mixLight_l40, gd_pos kk, h9, if_pos (nI_le (by omega) (by omega))]
    exact ⟨X, rfl, fun _ _ => rfl, rfl, fun i hi => hp i (by omega)⟩
  | succ w ih =>
    intro k j X h hj h9 hp
    obtain ⟨j, rfl⟩ := suc_of hj
    rw [fX0_mixLight_l40, gd_pos kk, h9, if_neg (nI_ge (by omega) (by omega))]
    simp only [sd_sr, sd_ln, s2, s3, l1, l3, e1, e3, cl_nI (show l < 2 ^ 31 by omega), cl_nI (show e < 2 ^ 31 by omega), cl_nI (show k < 2 ^ 31 by omega), l5, l7, e5, e7, g7]
    rw [gd_pos kl, gd_pos l2, gd_pos (ib_nI hl (by decide)), gd_pos l6, gd_pos (ib_nI (by omega) (by decide)), gd_pos ke, gd_pos e2, gd_pos (ib_nI he (by decide)), gd_pos e6, gd_pos (ib_nI (by omega) (by decide)), gd_pos g6, gd_pos (ib_nI (by omega) (by decide)), bn_go, bn_go, nI_1]
    obtain ⟨X', f1, f2, f3, f4⟩ := ih (k + 1) j (sI X (s + 50 + (4 * l + e)) k (X.1 (s + 22 + l) k * X.1 (s + 31 + e) k)) (by omega) (by omega) (by rw [sI_ne (by omega)]; exact h9) (fun i hi => by
      rw [sI_row, sI_ne (show s + 22 + l ≠ s + 50 + (4 * l + e) by omega), sI_ne (show s + 31 + e ≠ s + 50 + (4 * l + e) by omega)]
      by_cases z : i = k
      · rw [z, upd_eq]
      · rw [upd_ne z]; exact hp i (by omega))
    exact ⟨X', f1, fun a q => by rw [f2 a q, sI_ne q], f3, f4⟩
theorem lt_eye {k2 : St → Nat → Int32 → Option (St × Unit)} {l : Nat} (hn : 200000 ≤ n) (hs : s = 3 ∨ s = 77) (hb : nb ≤ 16) (hl : l < 6) (hne : ne ≤ 4) : ∀ (w e j : Nat) (X : St), e + w = ne → w < j → X.1 s 9 = nI nb → X.1 (s + 28) 3 = nI ne → (∀ l' e', e' < ne → (l' < l ∨ (l' = l ∧ e' < e)) → LtX s nb l' e' X) → ∃ X', fX0_mixLight_l15 sdX n k2 j X s (nI l) (nI e) = k2 X' s (nI (l + 1)) ∧ kLt s X X' ∧ (∀ l' e', e' < ne → l' < l + 1 → LtX s nb l' e' X') := by
  obtain ⟨kk, ⟨s0, s1, s2, s3, s4⟩, k0, k1, kl, ke, k4⟩ := bk hs
  obtain ⟨-, -, -, -, -, g1, g2, g3, g4⟩ := bk3 hs
  intro w
  induction w with
  | zero =>
    intro e j X h hj h9 h3 hp
    obtain ⟨j, rfl⟩ := suc_of hj
    rw [fX0_mixLight_l15, gd_pos kk]
    simp only [sd_sr, s3]
    rw [gd_pos ke, h3, if_pos (nI_le (by omega) (by omega))]
    unfold fX0_mixLight_j90
    rw [bn_go, nI_1]
    exact ⟨X, rfl, ⟨fun _ _ => rfl, rfl⟩, fun l' e' q1 q2 => hp l' e' q1 (by omega)⟩
  | succ w ih =>
    intro e j X h hj h9 h3 hp
    obtain ⟨j, rfl⟩ := suc_of hj
    obtain ⟨g5, g6, g7⟩ := g4 (4 * l + e) (by omega)
    obtain ⟨X1, f1, f2, f3, f4⟩ := lt_band (n := n) (k2 := k2) (k15 := fX0_mixLight_l15 sdX n k2 j) hs hb hl (show e < 4 by omega) nb 0 n X (by omega) (by omega) h9 (fun i hi => by omega)
    have f1 : fX0_mixLight_l40 sdX n k2 (fX0_mixLight_l15 sdX n k2 j) n X s (nI l) (nI e) (s + 50 + (4 * l + e)) 0 = _ := f1
    rw [fX0_mixLight_l15, gd_pos kk]
    simp only [sd_sr, sd_ln, s3, g1, g3, ix4, cl_nI (show 4 * l + e < 2 ^ 31 by omega), g5]
    rw [gd_pos ke, h3, if_neg (nI_ge (by omega) (by omega)), gd_pos g2, gd_pos (ib_nI (by omega) (by decide)), gd_pos g6, bn_go, f1]
    unfold fX0_mixLight_j84
    rw [bn_go, nI_1]
    obtain ⟨X', d1, d2, d3⟩ := ih (e + 1) j X1 (by omega) (by omega) (by rw [f2 s (by omega)]; exact h9) (by rw [f2 _ (by omega)]; exact h3) (fun l' e' q1 q2 i hi => by
      by_cases z : l' = l ∧ e' = e
      · rw [z.1, z.2]; exact f4 i hi
      · rw [f2 _ (by omega), f2 _ (by omega), f2 _ (by omega)]
        exact hp l' e' q1 (by omega) i hi)
    exact ⟨X', d1, ⟨fun a q => by rw [d2.1 a q, f2 a (by omega)], by rw [d2.2, f3]⟩, d3⟩
theorem lt_lamp (hn : 200000 ≤ n) (hs : s = 3 ∨ s = 77) (hb : nb ≤ 16) (hnl : nl ≤ 6) (hne : ne ≤ 4) : ∀ (w l j : Nat) (X : St), l + w = nl → w < j → X.1 s 9 = nI nb → X.1 (s + 28) 3 = nI ne → X.1 (s + 19) 3 = nI nl → (∀ l' e', e' < ne → l' < l → LtX s nb l' e' X) → ∃ X', fX0_mixLight_l2 sdX n j X s (nI l) = some (X', ()) ∧ kLt s X X' ∧ (∀ l' e', e' < ne → l' < nl → LtX s nb l' e' X') := by
  obtain ⟨kk, ⟨s0, s1, s2, s3, s4⟩, k0, k1, kl, ke, k4⟩ := bk hs
  intro w
  induction w with
  | zero =>
    intro l j X h hj h9 h3 h19 hp
    obtain ⟨j, rfl⟩ := suc_of hj
    rw [fX0_mixLight_l2, gd_pos kk]
    simp only [sd_sr, s2]
    rw [gd_pos kl, h19, if_pos (nI_le (by omega) (by omega))]
    exact ⟨X, rfl, ⟨fun _ _ => rfl, rfl⟩, fun l' e' q1 q2 => hp l' e' q1 (by omega)⟩
  | succ w ih =>
    intro l j X h hj h9 h3 h19 hp
    obtain ⟨j, rfl⟩ := suc_of hj
    obtain ⟨X1, f1, f2, f3⟩ := lt_eye (n := n) (k2 := fX0_mixLight_l2 sdX n j) hn hs hb (show l < 6 by omega) hne ne 0 n X (by omega) (by omega) h9 h3 (fun l' e' q1 q2 => hp l' e' q1 (by omega))
    have f1 : fX0_mixLight_l15 sdX n (fX0_mixLight_l2 sdX n j) n X s (nI l) 0 = _ := f1
    rw [fX0_mixLight_l2, gd_pos kk]
    simp only [sd_sr, s2]
    rw [gd_pos kl, h19, if_neg (nI_ge (by omega) (by omega)), f1]
    obtain ⟨X', d1, d2, d3⟩ := ih (l + 1) j X1 (by omega) (by omega) (by rw [f2.1 s (by omega)]; exact h9) (by rw [f2.1 _ (by omega)]; exact h3) (by rw [f2.1 _ (by omega)]; exact h19) f3
    exact ⟨X', d1, ⟨fun a q => by rw [d2.1 a q, f2.1 a q], by rw [d2.2, f2.2]⟩, d3⟩
end
/-- one old mix, as both sides have it -/
def OI (B : Bd) (X M : St) (i : Nat) : Prop := X.1 158 i = M.1 32 i ∧ X.1 159 i = M.1 33 i ∧ ∃ g k : Nat, ∃ p : Nat → Nat, g < b_no B ∧ k < b_ng B ∧ M.1 32 i = nI g ∧ b_on B g = nI k ∧ (M.1 33 i = -1 ∨ ∃ d, d < b_nd B ∧ M.1 33 i = nI d) ∧ (∀ d, d < b_nd B → nI (p d) = if M.1 33 i = nI d then 0 else b_par B g d) ∧ sumN p (b_nd B) ≤ b_most B ∧ ∀ j, j < b_nb B → X.1 (161 + i) j = thr B k p j
/-- the old mixes so far -/
def OA (B : Bd) (o : Nat) (X M : St) : Prop := X.1 157 4 = nI o ∧ M.1 0 70 = nI o ∧ (∀ i, i < o → OI B X M i) ∧ (∀ g, g < b_no B → g < o → M.1 32 g = nI g ∧ M.1 33 g = -1)
def kOX (X X' : St) : Prop := (∀ a, (a < 157 ∨ 233 < a) → X'.1 a = X.1 a) ∧ X'.2 = X.2
def kOM (M M' : St) : Prop := (∀ a, a ≠ 0 → a ≠ 32 → a ≠ 33 → M'.1 a = M.1 a) ∧ (∀ k, k ≠ 70 → M'.1 0 k = M.1 0 k) ∧ M'.2 = M.2
theorem kOX_rf {X : St} : kOX X X := ⟨fun _ _ => rfl, rfl⟩
theorem kOM_rf {M : St} : kOM M M := ⟨fun _ _ _ _ => rfl, fun _ _ => rfl, rfl⟩
theorem kOX_tr {A B C : St} (h : kOX A B) (g : kOX B C) : kOX A C := ⟨fun a q => (g.1 a q).trans (h.1 a q), g.2.trans h.2⟩
theorem kOM_tr {A B C : St} (h : kOM A B) (g : kOM B C) : kOM A C := ⟨fun a q r s => (g.1 a q r s).trans (h.1 a q r s), fun k q => (g.2.1 k q).trans (h.2.1 k q), g.2.2.trans h.2.2⟩
section
variable {n s : Nat} {B : Bd}
theorem kOX_X {X X' : St} (hs : s = 3 ∨ s = 77) (hB : Bok B) (hX : RXb B X.1 s) (h : kOX X X') : RXb B X'.1 s := RXb_frame hX (fun a h1 h2 => h.1 a (by rcases hs with z | z <;> omega)) hB
theorem kOM_M {M M' : St} (hM : ∀ g, g < b_no B → ∀ d, d < b_nd B → M.1 20 (8 * g + d) = b_par B g d) (h : kOM M M') : ∀ g, g < b_no B → ∀ d, d < b_nd B → M'.1 20 (8 * g + d) = b_par B g d := fun g hg d hd => by rw [h.1 20 (by decide) (by decide) (by decide)]; exact hM g hg d hd
theorem rest_loop {g : Nat} {x : Int32} (hs : s = 3 ∨ s = 77) (hB : Bok B) (hg : g < b_no B) : ∀ (w d j : Nat) (X : St), d + w = b_nd B → w < j → RXb B X.1 s → (∀ d', d' < d → X.1 233 d' = if nI d' = x then 0 else b_par B g d') → ∃ X', fX2_add_l13 n j X s (nI g) x (nI d) = fX2_add_j60 n X' s (nI g) x ∧ (∀ a, a ≠ 233 → X'.1 a = X.1 a) ∧ X'.2 = X.2 ∧ (∀ d', d' < b_nd B → X'.1 233 d' = if nI d' = x then 0 else b_par B g d') := by
  have hd8 : b_nd B ≤ 8 := hB.2.2.2.2.2.1
  have hno : b_no B ≤ 8 := hB.2.2.2.2.2.2.2.2.2.1
  obtain ⟨kk, ⟨s0, s1, s2, s3, s4⟩, k0, k1, k2, k3, k4⟩ := bk hs
  obtain ⟨-, -, -, -, ⟨p1, p2, p3, p4⟩, -⟩ := bk3 hs
  obtain ⟨p5, p6, p7⟩ := p4 g (by omega)
  intro w
  induction w with
  | zero =>
    intro d j X h hj hX hp
    obtain ⟨j, rfl⟩ := suc_of hj
    rw [fX2_add_l13, gd_pos kk, s0, gd_pos k0, hX.2.2.2.2.2.1, if_pos (nI_le (by omega) (by omega))]
    exact ⟨X, rfl, fun _ _ => rfl, rfl, fun d' h1 => hp d' (by omega)⟩
  | succ w ih =>
    intro d j X h hj hX hp
    obtain ⟨j, rfl⟩ := suc_of hj
    have go : ∀ y : Int32, y = (if nI d = x then 0 else b_par B g d) → ∃ X', fX2_add_j53 n (fX2_add_l13 n j) X s (nI g) x (nI d) (nI d) y = fX2_add_j60 n X' s (nI g) x ∧ (∀ a, a ≠ 233 → X'.1 a = X.1 a) ∧ X'.2 = X.2 ∧ (∀ d', d' < b_nd B → X'.1 233 d' = if nI d' = x then 0 else b_par B g d') := fun y hy => by
      unfold fX2_add_j53
      rw [gd_pos (ib_nI (by omega) (by decide)), bn_go, bn_go, nI_1, cl_nI (by omega)]
      obtain ⟨X', f1, f2, f3, f4⟩ := ih (d + 1) j (sI X 233 d y) (by omega) (by omega) (RXb_frame hX (fun a h1 h2 => sI_ne (by rcases hs with z | z <;> omega)) hB) (fun d' hd' => by
        rw [sI_row]
        by_cases e : d' = d
        · rw [e, upd_eq, hy]
        · rw [upd_ne e]; exact hp d' (by omega))
      exact ⟨X', f1, fun a q => by rw [f2 a q, sI_ne q], f3, f4⟩
    rw [fX2_add_l13, gd_pos kk, s0, gd_pos k0, hX.2.2.2.2.2.1, if_neg (nI_ge (by omega) (by omega))]
    by_cases c : nI d = x
    · rw [if_pos c]
      exact go 0 (by rw [if_pos c])
    · rw [if_neg c, s4, gd_pos k4]
      simp only [sd_ln, p1, p3, cl_nI (show g < 2 ^ 31 by omega), p5, p7, cl_nI (show d < 2 ^ 31 by omega)]
      rw [gd_pos p2, gd_pos (ib_nI (by omega) (by decide)), gd_pos p6, gd_pos (ib_nI (by omega) (by decide))]
      exact go _ (by rw [if_neg c]; exact hX.2.2.2.2.2.2.2.2.2.2.2.2.2.2.1 g hg d (by omega))
theorem both_add {X M : St} {o g : Nat} {x : Int32} (hn : 200000 ≤ n) (hs : s = 3 ∨ s = 77) (hB : Bok B) (hX : RXb B X.1 s) (ho : o < 72) (hg : g < b_no B) (hx : x = -1 ∨ ∃ d, d < b_nd B ∧ x = nI d) (h : OA B o X M) (hgo : o < b_no B → g = o ∧ x = -1) : ∃ X' M', fX2_add n X s (nI g) x = some (X', ()) ∧ fX11_addOld n M (nI g) x = some (M', ()) ∧ kOX X X' ∧ kOM M M' ∧ OA B (o + 1) X' M' := by
  have hd8 : b_nd B ≤ 8 := hB.2.2.2.2.2.1
  have hno : b_no B ≤ 8 := hB.2.2.2.2.2.2.2.2.2.1
  have hng : b_ng B ≤ 4 := hB.2.2.2.2.2.2.1
  have hmo := hB.2.1
  obtain ⟨kk, -⟩ := bk hs
  obtain ⟨⟨-, -, s7, -⟩, ⟨-, -, t7⟩, -, -, l7⟩ := bk2 hs
  obtain ⟨h1, h2, h3, h4⟩ := h
  obtain ⟨k, hk, hon⟩ := hB.2.2.2.2.2.2.2.2.2.2.2.2.2.2.2.1 g hg
  obtain ⟨p0, hp0, hp1⟩ := hB.2.2.2.2.2.2.2.2.2.2.2.2.2.2.2.2 g hg
  obtain ⟨ro, ri⟩ := rowK ho
  -- the parts
  have hp : ∃ p : Nat → Nat, (∀ d, d < b_nd B → nI (p d) = if nI d = x then 0 else b_par B g d) ∧ (∀ d, p d ≤ p0 d) := by
    refine ⟨fun d => if nI d = x then 0 else p0 d, fun d hd => ?_, fun d => ?_⟩
    · show nI (if nI d = x then 0 else p0 d) = _
      by_cases c : nI d = x
      · rw [if_pos c, if_pos c]; rfl
      · rw [if_neg c, if_neg c]; exact (hp0 d hd).symm
    · show (if nI d = x then 0 else p0 d) ≤ p0 d
      split <;> omega
  obtain ⟨p, p1, p2⟩ := hp
  have psum : ∀ m, sumN p m ≤ sumN p0 m := fun m => by
    induction m with
    | zero => exact Nat.le_refl _
    | succ m ih =>
      have := p2 m
      rw [sumN, sumN]; omega
  obtain ⟨X1, a1, a2, a3, a4⟩ := rest_loop (n := n) (x := x) hs hB hg (b_nd B) 0 n X (by omega) (by omega) hX (fun d' h => by omega)
  have a1 : fX2_add_l13 n n X s (nI g) x 0 = _ := a1
  have e157 : X1.1 157 4 = nI o := by rw [a2 157 (by decide)]; exact h1
  generalize hX2 : sI (sI X1 158 o (nI g)) 159 o x = X2
  have b1 : ∀ a, a ≠ 158 → a ≠ 159 → X2.1 a = X1.1 a := fun a q1 q2 => by rw [← hX2, sI_ne q2, sI_ne q1]
  have hXX2 : RXb B X2.1 s := RXb_frame hX (fun a q1 q2 => by rw [b1 a (by rcases hs with z | z <;> omega) (by rcases hs with z | z <;> omega), a2 a (by rcases hs with z | z <;> omega)]) hB
  have e2 : X2.1 157 4 = nI o := by rw [b1 157 (by decide) (by decide)]; exact e157
  have hor : oRow s (161 + o) := ⟨ri.1, ri.2, fun c q1 q2 => by rcases hs with z | z <;> omega⟩
  have htb := throwBack_spec (n := n) (S := X2) (p := p) (q := 233) hn hs hB hXX2 hor ⟨by decide, by decide, by omega⟩ hk (fun d hd => by rw [b1 233 (by decide) (by decide), a4 d hd, p1 d hd]) (fun d hd => by
    have := sumN_ge (p := p) hd
    have := psum (b_nd B)
    omega)
  have e48 : X2.1 (s + 48) g = nI k := (hXX2.2.2.2.2.2.2.2.2.2.2.2.2.2.2.2.2.1 g hg).trans hon
  generalize hX3 : rI X2 (161 + o) (fun i => if i < b_nb B then thr B k p i else X2.1 (161 + o) i) = X3 at htb
  have c1 : ∀ a, a ≠ 161 + o → X3.1 a = X2.1 a := fun a q => by rw [← hX3, rI_ne q]
  have e3 : X3.1 157 4 = nI o := by rw [c1 157 (by omega)]; exact e2
  have eX : fX2_add n X s (nI g) x = some (sI X3 157 4 (nI (o + 1)), ()) := by
    unfold fX2_add
    rw [h1, if_pos (show nI o < (72 : Int32) from nI_lt (b := 72) ho (by decide)), a1]
    unfold fX2_add_j60
    rw [e157, gd_pos (ib_nI ho (by decide)), bn_go]
    have e157' : (sI X1 158 o (nI g)).1 157 4 = nI o := by rw [sI_ne (by decide)]; exact e157
    simp only [cl_nI (show o < 2 ^ 31 by omega), e157']
    rw [gd_pos (ib_nI ho (by decide)), bn_go, hX2, gd_pos kk, s7, gd_pos t7]
    have l7' : ib (nI g) (lnX (s + 48)) := by
      rw [show lnX (s + 48) = 8 from l7]
      exact ib_nI (by omega) (by decide)
    simp only [sd_ln, e2, cl_nI (show o < 2 ^ 31 by omega), cl_nI (show g < 2 ^ 31 by omega), ro, e48]
    rw [gd_pos l7', gd_pos (ib_nI ho (by decide)), gd_pos ri.1, htb, bd_go, bn_go, e3, nI_1]
  have eM : fX11_addOld n M (nI g) x = some (sI (sI (sI M 32 o (nI g)) 33 o x) 0 70 (nI (o + 1)), ()) := by
    unfold fX11_addOld
    have f1 : (sI M 32 o (nI g)).1 0 70 = nI o := by rw [sI_ne (by decide)]; exact h2
    have f2 : (sI (sI M 32 o (nI g)) 33 o x).1 0 70 = nI o := by rw [sI_ne (by decide)]; exact f1
    rw [h2, gd_pos (ib_nI ho (by decide)), bn_go]
    simp only [cl_nI (show o < 2 ^ 31 by omega), f1]
    rw [gd_pos (ib_nI ho (by decide)), bn_go, f2, bn_go, nI_1]
  refine ⟨_, _, eX, eM, ⟨fun a q => ?_, ?_⟩, ⟨fun a q1 q2 q3 => ?_, fun k q => ?_, rfl⟩, ?_, ?_, fun i hi => ?_, fun g' q1 q2 => ?_⟩
  · rw [sI_ne (by omega), c1 a (by omega), b1 a (by omega) (by omega), a2 a (by omega)]
  · show X3.2 = X.2
    rw [← hX3]
    show X2.2 = X.2
    rw [← hX2]
    exact a3
  · rw [sI_ne q1, sI_ne q3, sI_ne q2]
  · rw [sI_row, upd_ne q, sI_ne (by decide), sI_ne (by decide)]
  · rw [sI_row, upd_eq]
  · rw [sI_row, upd_eq]
  · have m32 : ∀ i, (sI (sI (sI M 32 o (nI g)) 33 o x) 0 70 (nI (o + 1))).1 32 i = if i = o then nI g else M.1 32 i := fun i => by rw [sI_ne (by decide), sI_ne (by decide), sI_row]; rfl
    have m33 : ∀ i, (sI (sI (sI M 32 o (nI g)) 33 o x) 0 70 (nI (o + 1))).1 33 i = if i = o then x else M.1 33 i := fun i => by rw [sI_ne (by decide), sI_row, sI_ne (by decide)]; rfl
    have x158 : ∀ i, (sI X3 157 4 (nI (o + 1))).1 158 i = if i = o then nI g else X.1 158 i := fun i => by
      rw [sI_ne (by decide), c1 158 (by omega), ← hX2, sI_ne (by decide), sI_row, a2 158 (by decide)]; rfl
    have x159 : ∀ i, (sI X3 157 4 (nI (o + 1))).1 159 i = if i = o then x else X.1 159 i := fun i => by
      rw [sI_ne (by decide), c1 159 (by omega), ← hX2, sI_row, sI_ne (by decide), a2 159 (by decide)]; rfl
    unfold OI
    rw [m32, m33, x158, x159]
    by_cases e : i = o
    · rw [if_pos e, if_pos e, if_pos e, if_pos e, e]
      refine ⟨rfl, rfl, g, k, p, hg, hk, rfl, hon, hx, fun d hd => ?_, Nat.le_trans (psum _) hp1, fun j hj => ?_⟩
      · rw [p1 d hd]
        by_cases z : nI d = x
        · rw [if_pos z, if_pos z.symm]
        · rw [if_neg z, if_neg (fun w => z w.symm)]
      · rw [sI_ne (by omega), ← hX3, rI_row, if_pos hj]
    · rw [if_neg e, if_neg e, if_neg e, if_neg e]
      have hi' := h3 i (by omega)
      unfold OI at hi'
      rw [sI_ne (show 161 + i ≠ 157 by omega), c1 (161 + i) (by omega), b1 (161 + i) (by omega) (by omega), a2 (161 + i) (by omega)]
      exact hi'
  · rw [sI_ne (by decide), sI_ne (by decide), sI_row, sI_ne (by decide), sI_row, sI_ne (by decide)]
    by_cases e : g' = o
    · subst e
      obtain ⟨z1, z2⟩ := hgo q1
      rw [upd_eq, upd_eq, z1, z2]
      exact ⟨rfl, rfl⟩
    · rw [upd_ne e, upd_ne e]
      exact h4 g' q1 (by omega)
end
