theorem rel_scr {B : Bd} {b : Nat} {Sx Sm Sx' Sm' : St} (h : RelB B b Sx Sm) (k1 : ∀ a, a ≠ 270 → Sx'.1 a = Sx.1 a) (k2 : Sx'.2 = Sx.2) (k3 : ∀ a, a ≠ 21 → a ≠ 22 → Sm'.1 a = Sm.1 a) : RelB B b Sx' Sm' := by
  obtain ⟨hB, hr, hX, hlim, hM, ht, hv, hbx, hl, ho, ha, hnn, hs, hw⟩ := id h
  refine rel_core h (fun a q => k1 a ?_) ?_ ?_ (fun a q => k3 a ?_ ?_) (fun k q => ?_) ?_ ?_ ?_ ?_ ?_ ?_
  · intro e; subst e; unfold coreF at q; omega
  · rw [k1 0 (by decide)]
  · rw [k2]; exact ⟨rfl, rfl⟩
  · intro e; subst e; unfold coreM at q; omega
  · intro e; subst e; unfold coreM at q; omega
  · rw [k3 0 (by decide) (by decide)]
  · exact Gt_frame ht (k1 1 (by decide)) (k1 2 (by decide)) (k1 151 (by decide)) (by rw [k2]) (k3 1 (by decide) (by decide)) (fun k hk => by rw [k3 0 (by decide) (by decide)])
  · unfold Gv Vok at hv ⊢
    rw [k1 261 (by decide), k1 262 (by decide), k3 0 (by decide) (by decide), k3 31 (by decide) (by decide)]; exact hv
  · unfold Ga at ha ⊢
    rw [k1 243 (by decide), k3 0 (by decide) (by decide)]; exact ha
  · unfold Gn at hnn ⊢
    rw [k1 243 (by decide), k1 260 (by decide), k3 0 (by decide) (by decide), k3 24 (by decide) (by decide)]; exact hnn
  · unfold Gs at hs ⊢
    rw [k1 243 (by decide), k2, k3 0 (by decide) (by decide), k3 27 (by decide) (by decide), k3 26 (by decide) (by decide)]; exact hs
  · unfold Gw at hw ⊢
    rw [k1 0 (by decide), k1 271 (by decide), k3 0 (by decide) (by decide), k3 29 (by decide) (by decide)]; exact hw
theorem bec_ne {B : Bd} {S : St} {w k a : Nat} {p : Nat → Nat} (h1 : a ≠ 21) (h2 : a ≠ 22) : (bec B S w k p).1 a = S.1 a := by
  unfold bec
  rw [rL_1, rI_ne h1, sI_ne h2]
theorem bec_M {B : Bd} {S : St} {w k : Nat} {p : Nat → Nat} (h : RMb B S.1) : RMb B (bec B S w k p).1 := RMb_frame h (fun a q => bec_ne (by unfold coreM at q; omega) (by unfold coreM at q; omega)) (fun k _ => by rw [bec_ne (by decide) (by decide)])
theorem bec_thr {B : Bd} {S : St} {w k : Nat} {p : Nat → Nat} {j : Nat} (hj : j < b_nb B) : (bec B S w k p).2.1 23 (16 * w + j) = (thr B k p j).toInt64 := by
  unfold bec
  rw [rL_row, if_pos (by omega), show 16 * w + j - 16 * w = j by omega]
/-- what can be looked at -/
def goodX (B : Bd) (x : Int32) : Prop := (x = -1 ∧ 0 < b_ng B) ∨ ∃ g, g < b_no B ∧ x = nI g
/-- what lies there: ground and parts -/
def Vw (B : Bd) (M : Nat → Nat → Int32) (x : Int32) (k : Nat) (p : Nat → Nat) : Prop :=
  k < b_ng B ∧ sumN p (b_nd B) ≤ b_most B ∧ (∀ d, b_nd B ≤ d → p d = 0) ∧ ((x = -1 ∧ M 0 65 = nI k ∧ ∀ d, d < 8 → M 31 d = nI (p d)) ∨ ∃ g, g < b_no B ∧ x = nI g ∧ b_on B g = nI k ∧ ∀ d, d < b_nd B → b_par B g d = nI (p d))
theorem sumN_cut {p : Nat → Nat} {a : Nat} : ∀ {b : Nat}, a ≤ b → (∀ d, a ≤ d → p d = 0) → sumN p b = sumN p a
  | 0, h, _ => by rw [show a = 0 by omega]
  | b + 1, h, hz => by
    by_cases q : a = b + 1
    · rw [q]
    · rw [sumN, sumN_cut (b := b) (by omega) hz, hz b (by omega), Nat.add_zero]
theorem sumN_congr {p q : Nat → Nat} : ∀ {k : Nat}, (∀ d, d < k → p d = q d) → sumN p k = sumN q k
  | 0, _ => rfl
  | k + 1, h => by rw [sumN, sumN, sumN_congr (fun d hd => h d (by omega)), h k (by omega)]
theorem nI_m1 {k : Nat} (h : k < 2 ^ 31) : nI k ≠ -1 := fun q => by
  have := nI_pos h
  rw [q] at this
  exact this (by decide)
theorem goodX_inR {B : Bd} {x : Int32} (hB : Bok B) (h : x ≠ -1) : (goodX B x ∧ inR x (b_no B) = 1) ∨ (¬ goodX B x ∧ inR x (b_no B) = 0) := by
  have h8 : b_no B ≤ 8 := hB.2.2.2.2.2.2.2.2.2.1
  rcases inR_01 x (b_no B) with q | q
  · refine Or.inr ⟨fun z => ?_, q⟩
    rcases z with ⟨z, -⟩ | ⟨g, g1, rfl⟩
    · exact h z
    · rw [inR_nI g1 (by omega)] at q
      exact absurd q (by decide)
  · obtain ⟨j, hj, e⟩ := inR_of (x := x) (k := b_no B) (by omega) (by rw [q]; decide)
    exact Or.inl ⟨Or.inr ⟨j, hj, e⟩, q⟩
theorem isGood_t {B : Bd} {n : Nat} {S : St} {x : Int32} (hM : RMb B S.1) (hB : Bok B) (h : goodX B x) : fX11_isGood n S x = some (S, 1) := by
  have h8 : b_no B ≤ 8 := hB.2.2.2.2.2.2.2.2.2.1
  have hg4 : b_ng B ≤ 4 := hB.2.2.2.2.2.2.1
  unfold fX11_isGood
  by_cases q : x = -1
  · rw [if_pos q, gd_pos (show ib 1 5 by decide), show Int32.toNatClampNeg 1 = 1 from rfl, hM.2.2.2.2.2.2.1]
    rcases h with ⟨-, h⟩ | ⟨g, g1, rfl⟩
    · rw [if_neg (show ¬ nI (b_ng B) ≤ 0 by show ¬ nI (b_ng B) ≤ nI 0; rw [nI_leI (by omega) (by decide)]; omega)]
    · exact absurd q (nI_m1 (by omega))
  · rw [if_neg q, gd_pos (show ib 4 5 by decide), show Int32.toNatClampNeg 4 = 4 from rfl, hM.2.2.2.2.2.2.2.2.2.1, isIn_spec (by omega), bd_go]
    rcases goodX_inR hB q with ⟨-, e⟩ | ⟨e, -⟩
    · rw [e, gd_pos (by decide)]
    · exact absurd h e
theorem isGood_f {B : Bd} {n : Nat} {S : St} {x : Int32} (hM : RMb B S.1) (hB : Bok B) (h : ¬ goodX B x) : fX11_isGood n S x = some (S, 0) := by
  have h8 : b_no B ≤ 8 := hB.2.2.2.2.2.2.2.2.2.1
  have hg4 : b_ng B ≤ 4 := hB.2.2.2.2.2.2.1
  unfold fX11_isGood
  by_cases q : x = -1
  · rw [if_pos q, gd_pos (show ib 1 5 by decide), show Int32.toNatClampNeg 1 = 1 from rfl, hM.2.2.2.2.2.2.1]
    rw [if_pos (show nI (b_ng B) ≤ 0 by show nI (b_ng B) ≤ nI 0; rw [nI_leI (by omega) (by decide)]; exact Nat.le_of_not_lt (fun z => h (Or.inl ⟨q, z⟩)))]
  · rw [if_neg q, gd_pos (show ib 4 5 by decide), show Int32.toNatClampNeg 4 = 4 from rfl, hM.2.2.2.2.2.2.2.2.2.1, isIn_spec (by omega), bd_go]
    rcases goodX_inR hB q with ⟨e, -⟩ | ⟨-, e⟩
    · exact absurd e h
    · rw [e, gd_pos (by decide)]
theorem can_t {B : Bd} {n b : Nat} {S : St} {x : Int32} (hb : b = 3 ∨ b = 77) (hr : S.2.2 0 2 = b) (hX : RXb B S.1 b) (hB : Bok B) (h : goodX B x) : fX10_canBeLookedAt n S x = some (S, 1) := by
  obtain ⟨k1, ⟨-, s1, -, -, s4⟩, -, q1, -, -, q4⟩ := bk hb
  have h8 : b_no B ≤ 8 := hB.2.2.2.2.2.2.2.2.2.1
  have hg4 : b_ng B ≤ 4 := hB.2.2.2.2.2.2.1
  unfold fX10_canBeLookedAt
  rw [hr]
  by_cases q : x = -1
  · rw [if_pos q, gd_pos k1, s1, gd_pos q1, hX.2.2.2.2.2.2.1]
    rcases h with ⟨-, h⟩ | ⟨g, g1, rfl⟩
    · rw [if_neg (show ¬ nI (b_ng B) ≤ 0 by show ¬ nI (b_ng B) ≤ nI 0; rw [nI_leI (by omega) (by decide)]; omega)]
    · exact absurd q (nI_m1 (by omega))
  · rw [if_neg q, gd_pos k1, s4, gd_pos q4, has_spec q4 hX.2.2.2.2.2.2.2.2.2.1, bd_go]
    rcases goodX_inR hB q with ⟨-, e⟩ | ⟨e, -⟩
    · rw [e, gd_pos (by decide)]
    · exact absurd h e
theorem can_f {B : Bd} {n b : Nat} {S : St} {x : Int32} (hb : b = 3 ∨ b = 77) (hr : S.2.2 0 2 = b) (hX : RXb B S.1 b) (hB : Bok B) (h : ¬ goodX B x) : fX10_canBeLookedAt n S x = some (S, 0) := by
  obtain ⟨k1, ⟨-, s1, -, -, s4⟩, -, q1, -, -, q4⟩ := bk hb
  have h8 : b_no B ≤ 8 := hB.2.2.2.2.2.2.2.2.2.1
  have hg4 : b_ng B ≤ 4 := hB.2.2.2.2.2.2.1
  unfold fX10_canBeLookedAt
  rw [hr]
  by_cases q : x = -1
  · rw [if_pos q, gd_pos k1, s1, gd_pos q1, hX.2.2.2.2.2.2.1]
    rw [if_pos (show nI (b_ng B) ≤ 0 by show nI (b_ng B) ≤ nI 0; rw [nI_leI (by omega) (by decide)]; exact Nat.le_of_not_lt (fun z => h (Or.inl ⟨q, z⟩)))]
  · rw [if_neg q, gd_pos k1, s4, gd_pos q4, has_spec q4 hX.2.2.2.2.2.2.2.2.2.1, bd_go]
    rcases goodX_inR hB q with ⟨e, -⟩ | ⟨-, e⟩
    · exact absurd e h
    · rw [e, gd_pos (by decide)]
theorem vw_of {B : Bd} {b : Nat} {Sx Sm : St} {x : Int32} (hR : RelB B b Sx Sm) (h : goodX B x) : ∃ k p, Vw B Sm.1 x k p := by
  obtain ⟨hB, hr, hX, hlim, hM, ht, hv, hbx, hl, ho, ha, hnn, hs, hw⟩ := hR
  have h8 : b_nd B ≤ 8 := hB.2.2.2.2.2.1
  rcases h with ⟨h1, h2⟩ | ⟨g, g1, g2⟩
  · obtain ⟨-, -, -, -, ⟨p, p1, p2, p3⟩, k, k1, k2⟩ := hv
    exact ⟨k, p, by omega, by rw [← sumN_cut h8 p2]; exact p3, p2, Or.inl ⟨h1, k1, p1⟩⟩
  · obtain ⟨k, k1, k2⟩ := hB.2.2.2.2.2.2.2.2.2.2.2.2.2.2.2.1 g g1
    obtain ⟨p, p1, p2⟩ := hB.2.2.2.2.2.2.2.2.2.2.2.2.2.2.2.2 g g1
    refine ⟨k, fun d => if d < b_nd B then p d else 0, k1, ?_, fun d hd => if_neg (by omega), Or.inr ⟨g, g1, g2, k2, fun d hd => ?_⟩⟩
    · rw [sumN_congr (q := p) (fun d hd => if_pos hd)]; exact p2
    · show _ = nI (if d < b_nd B then p d else 0)
      rw [if_pos hd]; exact p1 d hd
theorem Vw_P {B : Bd} {M : Nat → Nat → Int32} {x : Int32} {k : Nat} {p : Nat → Nat} (hB : Bok B) (h : Vw B M x k p) : ∀ d, d < b_nd B → p d < 100000 := fun d hd => by
  have h1 := h.2.1
  have h2 : p d ≤ sumN p (b_nd B) := sumN_ge hd
  have := hB.2.1
  omega
theorem thr_congr {B : Bd} {k : Nat} {p q : Nat → Nat} {j : Nat} (h : ∀ d, d < b_nd B → p d = q d) : thr B k p j = thr B k q j := by
  have e1 : ∀ d, d ≤ b_nd B → thrB B k p j d = thrB B k q j d := by
    intro d
    induction d with
    | zero => intro _; rfl
    | succ d ih => intro hd; rw [thrB, thrB, ih (by omega), h d (by omega)]
  have e2 : ∀ d, d ≤ b_nd B → thrO B k p j d = thrO B k q j d := by
    intro d
    induction d with
    | zero => intro _; rfl
    | succ d ih => intro hd; rw [thrO, thrO, ih (by omega), h d (by omega)]
  unfold thr
  rw [e1 _ (Nat.le_refl _), e2 _ (Nat.le_refl _)]
theorem rowK {i : Nat} (h : i < 72) : srX 160 i = 161 + i ∧ iRow (161 + i) := by
  have : ∀ i, i < 72 → srX 160 i = 161 + i ∧ (isK sdX (161 + i) 13 ∧ lnX (161 + i) = 16) := by decide
  exact this i h
theorem oRow270 {b : Nat} (hb : b = 3 ∨ b = 77) : oRow b 270 := ⟨by decide, by decide, fun c h1 h2 => by rcases hb with q | q <;> omega⟩
theorem rowOf_f {B : Bd} {n b : Nat} {S Sm : St} {x : Int32} (hR : RelB B b S Sm) (h : ¬ goodX B x) : fX10_rowOf n S x = some (S, none) := by
  obtain ⟨hB, ⟨hb, hr, hr2⟩, hX, -⟩ := hR
  unfold fX10_rowOf
  rw [can_f hb hr hX hB h, bd_go, if_pos rfl]
theorem rowOf_t {B : Bd} {n b : Nat} {S Sm : St} {x : Int32} {k : Nat} {p : Nat → Nat} (hn : 200000 ≤ n) (hR : RelB B b S Sm) (h : Vw B Sm.1 x k p) : ∃ f a, fX10_rowOf n S x = some (rI S 270 f, some a) ∧ iRow a ∧ (∀ j, j < b_nb B → (rI S 270 f).1 a j = thr B k p j) ∧ (x = -1 → a = 270) ∧ (x ≠ -1 → a ≠ 270 ∧ rI S 270 f = S) := by
  obtain ⟨hB, ⟨hb, hr, hr2⟩, hX, hlim, hM, ht, hv, hbx, hl, ho, -⟩ := id hR
  obtain ⟨k1, -⟩ := bk hb
  have h8 : b_no B ≤ 8 := hB.2.2.2.2.2.2.2.2.2.1
  have hd8 : b_nd B ≤ 8 := hB.2.2.2.2.2.1
  have hg4 : b_ng B ≤ 4 := hB.2.2.2.2.2.2.1
  have hg : goodX B x := by
    obtain ⟨a1, -, -, a2⟩ := id h
    rcases a2 with ⟨a2, -⟩ | ⟨g, g1, g2, -⟩
    · exact Or.inl ⟨a2, by omega⟩
    · exact Or.inr ⟨g, g1, g2⟩
  unfold fX10_rowOf
  rw [can_t hb hr hX hB hg, bd_go, if_neg (by decide)]
  by_cases q : x = -1
  · obtain ⟨a1, a2, a3, a4⟩ := id h
    have hP := Vw_P hB h
    rcases a4 with ⟨-, b1, b2⟩ | ⟨g, g1, rfl, -⟩
    · rw [if_pos q, hr, gd_pos k1, hv.2.1, b1, throwBack_spec (p := p) hn hb hB hX (oRow270 hb) ⟨by decide, by decide, by decide⟩ a1 (fun d hd => by rw [hv.1 d (by omega), b2 d (by omega)]) hP, bd_go]
      refine ⟨_, 270, rfl, ⟨by decide, by decide⟩, fun j hj => ?_, fun _ => rfl, fun z => absurd q z⟩
      rw [rI_row, if_pos hj]
    · exact absurd q (nI_m1 (by omega))
  · obtain ⟨a1, a2, a3, a4⟩ := id h
    rcases a4 with ⟨z, -⟩ | ⟨g, g1, rfl, c1, c2⟩
    · exact absurd z q
    obtain ⟨e1, e2⟩ := rowK (i := g) (by omega)
    rw [if_neg q, gd_pos (ib_nI (by omega) (by decide))]
    simp only [cl_nI (show g < 2 ^ 31 by omega), e1, gd_pos e2.1]
    refine ⟨S.1 270, 161 + g, ?_, e2, fun j hj => ?_, fun z => absurd z q, fun _ => ⟨by omega, rI_id (fun i => rfl)⟩⟩
    · rw [rI_id (fun i => rfl)]
    · rw [rI_id (fun i => rfl)]
      obtain ⟨o, o1, o2, o3, o4, o5, o6⟩ := ho
      obtain ⟨-, -, g', k', p', w1, w2, w3, w4, w5, w6, w7, w8⟩ := o6 g (by omega)
      obtain ⟨v1, v2⟩ := o5 g g1
      have eg : g' = g := ((nI_eq (by omega) (by omega)).mp (v1.symm.trans w3)).symm
      subst eg
      have ek : k' = k := (nI_eq (by omega) (by omega)).mp (w4.symm.trans c1)
      subst ek
      rw [w8 j hj]
      refine thr_congr fun d hd => ?_
      have z1 := w6 d hd
      rw [v2, if_neg (fun z => nI_m1 (show d < 2 ^ 31 by omega) z.symm), c2 d hd] at z1
      have z2 : p d ≤ sumN p (b_nd B) := sumN_ge hd
      have z3 : p' d ≤ sumN p' (b_nd B) := sumN_ge hd
      have z4 := hB.2.1
      exact (nI_eq (by omega) (by omega)).mp z1
theorem become_spec {B : Bd} {n b : Nat} {S Sx M0 : St} {x : Int32} {w k : Nat} {p : Nat → Nat} (hn : 200000 ≤ n) (hR : RelB B b Sx M0) (k3 : ∀ a, a ≠ 21 → a ≠ 22 → S.1 a = M0.1 a) (hw : w < 2) (h : Vw B M0.1 x k p) : fX11_become n S (nI w) x (-1) = some (bec B S w k p, ()) := by
  obtain ⟨hB, hr, hX, hlim, hM0, -⟩ := id hR
  have hM : RMb B S.1 := RMb_frame hM0 (fun a q => k3 a (by unfold coreM at q; omega) (by unfold coreM at q; omega)) (fun k _ => by rw [k3 0 (by decide) (by decide)])
  have h8 : b_no B ≤ 8 := hB.2.2.2.2.2.2.2.2.2.1
  have hd8 : b_nd B ≤ 8 := hB.2.2.2.2.2.1
  have hg4 : b_ng B ≤ 4 := hB.2.2.2.2.2.2.1
  have hP := Vw_P hB h
  obtain ⟨a1, a2, a3, a4⟩ := h
  have hG : ∀ j, j < b_nb B → S.1 14 (16 * k + j) = b_grd B k j := fun j hj => hM.2.2.2.2.2.2.2.2.2.2.2.1 k a1 j hj
  unfold fX11_become
  rcases a4 with ⟨rfl, b1, b2⟩ | ⟨g, g1, rfl, c1, c2⟩
  · rw [if_neg (by decide), k3 0 (by decide) (by decide), b1]
    refine become_j22 hn hM hB hw (by omega) hG (Or.inr (by decide)) (fun d hd => ?_) hP
    unfold Pv
    by_cases z : b_nd B ≤ d
    · rw [if_pos z, a3 d z]; rfl
    · rw [if_neg z, if_neg (nI_m1 (by omega)), if_neg (by decide), k3 31 (by decide) (by decide)]; exact b2 d hd
  · rw [if_pos (show (0 : Int32) ≤ nI g from nI_le (a := 0) (by omega) (by omega)), gd_pos (ib_nI (by omega) (by decide)), cl_nI (by omega), hM.2.2.2.2.2.2.2.2.2.2.2.2.2.2.2.1 g g1, c1]
    refine become_j22 hn hM hB hw (by omega) hG (Or.inl ⟨g, by omega, rfl⟩) (fun d hd => ?_) hP
    unfold Pv
    by_cases z : b_nd B ≤ d
    · rw [if_pos z, a3 d z]; rfl
    · rw [if_neg z, if_neg (nI_m1 (by omega)), if_pos (show (0 : Int32) ≤ nI g from nI_le (a := 0) (by omega) (by omega)), cl_nI (by omega), hM.2.2.2.2.2.2.2.2.2.2.2.2.2.2.2.2 g g1 d (by omega)]; exact c2 d (by omega)
theorem sSum_cg {f g : Nat → Int64} {k : Nat} (h : ∀ j, j < k → f j = g j) : sSum f k = sSum g k := sSum_congr h
theorem seV_congr {B : Bd} {r q : Nat → Int32} {l e : Nat} (h : ∀ j, j < b_nb B → r j = q j) : seV B r l e = seV B q l e := sSum_congr fun j hj => by rw [h j hj]
theorem dfV_congr {B : Bd} {ra rb qa qb : Nat → Int32} {l e : Nat} (h : ∀ j, j < b_nb B → ra j = qa j) (h' : ∀ j, j < b_nb B → rb j = qb j) : dfV B ra rb l e = dfV B qa qb l e := sSum_congr fun j hj => by rw [h j hj, h' j hj]
theorem apS_congr {B : Bd} {ra rb qa qb : Nat → Int32} {l u : Nat} (h : ∀ j, j < b_nb B → ra j = qa j) (h' : ∀ j, j < b_nb B → rb j = qb j) : ∀ e, apS B ra rb l u e = apS B qa qb l u e
  | 0 => rfl
  | e + 1 => by rw [apS, apS, apS_congr h h' e, dfV_congr h h']
theorem apV_congr {B : Bd} {ra rb qa qb : Nat → Int32} {l : Nat} {odd : Int32} (h : ∀ j, j < b_nb B → ra j = qa j) (h' : ∀ j, j < b_nb B → rb j = qb j) : apV B ra rb l odd = apV B qa qb l odd := apS_congr h h' _
theorem alV_congr {B : Bd} {ra rb qa qb : Nat → Int32} {l : Nat} {odd : Int32} (h : ∀ j, j < b_nb B → ra j = qa j) (h' : ∀ j, j < b_nb B → rb j = qb j) : alV B ra rb l odd = alV B qa qb l odd := by
  unfold alV
  rw [apV_congr h h']
theorem faS_congr {B : Bd} {ra rb qa qb : Nat → Int32} {odd : Int32} (h : ∀ j, j < b_nb B → ra j = qa j) (h' : ∀ j, j < b_nb B → rb j = qb j) : ∀ l, faS B ra rb odd l = faS B qa qb odd l
  | 0 => rfl
  | l + 1 => by rw [faS, faS, faS_congr h h' l, apV_congr h h']
/-- both rows at once -/
theorem two_t {B : Bd} {n b : Nat} {Sx Sm : St} {x1 x2 : Int32} (hn : 200000 ≤ n) (hR : RelB B b Sx Sm) (h1 : goodX B x1) (h2 : goodX B x2) : ∃ (k1 k2 : Nat) (p1 p2 : Nat → Nat) (S1 S2 : St) (a1 a2 : Nat), Vw B Sm.1 x1 k1 p1 ∧ Vw B Sm.1 x2 k2 p2 ∧ fX10_rowOf n Sx x1 = some (S1, some a1) ∧ fX10_rowOf n S1 x2 = some (S2, some a2) ∧ iRow a1 ∧ iRow a2 ∧ (∀ j, j < b_nb B → S2.1 a1 j = thr B k1 p1 j) ∧ (∀ j, j < b_nb B → S2.1 a2 j = thr B k2 p2 j) ∧ (∀ a, a ≠ 270 → S2.1 a = Sx.1 a) ∧ S2.2 = Sx.2 ∧ fX11_layTwo n Sm x1 x2 = some (bec B (bec B Sm 0 k1 p1) 1 k2 p2, 1) := by
  obtain ⟨k1, p1, v1⟩ := vw_of hR h1
  obtain ⟨k2, p2, v2, e12⟩ : ∃ k2 p2, Vw B Sm.1 x2 k2 p2 ∧ (x1 = x2 → k2 = k1 ∧ p2 = p1) := by
    by_cases q : x1 = x2
    · subst q; exact ⟨k1, p1, v1, fun _ => ⟨rfl, rfl⟩⟩
    · obtain ⟨k2, p2, v2⟩ := vw_of hR h2
      exact ⟨k2, p2, v2, fun z => absurd z q⟩
  obtain ⟨f1, a1, u1, u2, u3, u4, u5⟩ := rowOf_t hn hR v1
  have hR1 : RelB B b (rI Sx 270 f1) Sm := rel_scr hR (fun a ha => rI_ne ha) rfl (fun _ _ _ => rfl)
  obtain ⟨f2, a2, w1, w2, w3, w4, w5⟩ := rowOf_t hn hR1 v2
  obtain ⟨hB, hr, hX, hlim, hM, -⟩ := id hR
  refine ⟨k1, k2, p1, p2, _, _, a1, a2, v1, v2, u1, w1, u2, w2, fun j hj => ?_, w3, fun a ha => by rw [rI_ne ha, rI_ne ha], rfl, ?_⟩
  · by_cases q : a1 = 270
    · by_cases q2 : x2 = -1
      · have q1 : x1 = -1 := Classical.byContradiction fun z => (u5 z).1 q
        obtain ⟨z1, z2⟩ := e12 (by rw [q1, q2])
        have := w3 j hj
        rw [w4 q2, z1, z2] at this
        rw [q]; exact this
      · rw [(w5 q2).2]; exact u3 j hj
    · rw [rI_ne q]; exact u3 j hj
  · unfold fX11_layTwo
    have hM1 : RMb B (bec B Sm 0 k1 p1).1 := bec_M hM
    have b1 : fX11_become n Sm 0 x1 (-1) = some (bec B Sm 0 k1 p1, ()) := become_spec (S := Sm) (w := 0) hn hR (fun _ _ _ => rfl) (by decide) v1
    have b2 : fX11_become n (bec B Sm 0 k1 p1) 1 x2 (-1) = some (bec B (bec B Sm 0 k1 p1) 1 k2 p2, ()) := become_spec (S := bec B Sm 0 k1 p1) (w := 1) hn hR (fun a q1 q2 => bec_ne q1 q2) (by decide) v2
    rw [isGood_t hM hB h1, bd_go, if_neg (by decide), isGood_t hM hB h2, bd_go, if_neg (by decide), b1, bd_go, b2, bd_go]
theorem layTwo_f {B : Bd} {n : Nat} {S : St} {x1 x2 : Int32} (hM : RMb B S.1) (hB : Bok B) (h : ¬ (goodX B x1 ∧ goodX B x2)) : fX11_layTwo n S x1 x2 = some (S, 0) := by
  unfold fX11_layTwo
  by_cases q : goodX B x1
  · rw [isGood_t hM hB q, bd_go, if_neg (by decide), isGood_f hM hB (fun z => h ⟨q, z⟩), bd_go, if_pos rfl]
  · rw [isGood_f hM hB q, bd_go, if_pos rfl]
/-- one of them can't be looked at: both are asked all the same -/
theorem two_f {B : Bd} {n b : Nat} {Sx Sm : St} {x1 x2 : Int32} (hn : 200000 ≤ n) (hR : RelB B b Sx Sm) (h : ¬ (goodX B x1 ∧ goodX B x2)) : ∃ (S1 S2 : St) (o1 o2 : Option Nat), fX10_rowOf n Sx x1 = some (S1, o1) ∧ fX10_rowOf n S1 x2 = some (S2, o2) ∧ (o1 = none ∨ o2 = none) ∧ RelB B b S2 Sm := by
  by_cases q1 : goodX B x1
  · obtain ⟨k1, p1, v1⟩ := vw_of hR q1
    obtain ⟨f1, a1, u1, -⟩ := rowOf_t hn hR v1
    have hR1 : RelB B b (rI Sx 270 f1) Sm := rel_scr hR (fun a ha => rI_ne ha) rfl (fun _ _ _ => rfl)
    exact ⟨_, _, _, _, u1, rowOf_f hR1 (fun z => h ⟨q1, z⟩), Or.inr rfl, hR1⟩
  · by_cases q2 : goodX B x2
    · obtain ⟨k1, p1, v1⟩ := vw_of hR q2
      obtain ⟨f1, a1, u1, -⟩ := rowOf_t hn hR v1
      exact ⟨_, _, _, _, rowOf_f hR q1, u1, Or.inl rfl, rel_scr hR (fun a ha => rI_ne ha) rfl (fun _ _ _ => rfl)⟩
    · exact ⟨_, _, _, _, rowOf_f hR q1, rowOf_f hR q2, Or.inl rfl, hR⟩
