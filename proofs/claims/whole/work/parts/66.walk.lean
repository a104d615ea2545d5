/-! THE CLASS'S WALK through the mixes. -/
theorem lyr_congr {B : Bd} {g j : Nat} {p q : Nat → Nat} : ∀ {d : Nat}, (∀ i, i < d → p i = q i) → lyr B g p j d = lyr B g q j d
  | 0, _ => rfl
  | d + 1, h => by rw [lyr, lyr, lyr_congr (fun i hi => h i (by omega)), h d (by omega)]
theorem lyr_cut {B : Bd} {g j a : Nat} {p : Nat → Nat} : ∀ {d : Nat}, a ≤ d → (∀ i, a ≤ i → p i = 0) → lyr B g p j d = lyr B g p j a
  | 0, h, _ => by rw [show a = 0 by omega]
  | d + 1, h, hz => by
    by_cases e : a = d + 1
    · rw [e]
    · rw [lyr, hz d (by omega), itS, lyr_cut (by omega) hz]
def prS (B : Bd) (p : Nat → Nat) (k : Nat) : Int32 := sumI (fun i => nI (p i) * b_prc B i) k
theorem prS_s {B : Bd} {p : Nat → Nat} {k : Nat} : prS B p (k + 1) = prS B p k + nI (p k) * b_prc B k := rfl
theorem prS_congr {B : Bd} {p q : Nat → Nat} {k : Nat} (h : ∀ i, i < k → p i = q i) : prS B p k = prS B q k := sumI_congr fun i hi => by rw [h i hi]
theorem prS_cut {B : Bd} {a : Nat} {p : Nat → Nat} : ∀ {d : Nat}, a ≤ d → (∀ i, a ≤ i → p i = 0) → prS B p d = prS B p a
  | 0, h, _ => by rw [show a = 0 by omega]
  | d + 1, h, hz => by
    by_cases e : a = d + 1
    · rw [e]
    · rw [prS_s, hz d (by omega), show nI 0 = 0 from rfl, Int32.zero_mul, Int32.add_zero, prS_cut (by omega) hz]
def Lay (B : Bd) (g : Nat) (p : Nat → Nat) (F : Nat → Nat → Int32) : Prop := ∀ d, d ≤ b_nd B → ∀ j, j < b_nb B → F (246 + supp p d) j = lyr B g p j d
theorem Lay_cut {B : Bd} {g d : Nat} {p q : Nat → Nat} {F : Nat → Nat → Int32} (h : Lay B g p F) (hd : d ≤ b_nd B) (h1 : ∀ i, i < d → q i = p i) (h2 : ∀ i, d ≤ i → q i = 0) : Lay B g q F := by
  intro d' hd' j hj
  by_cases c : d' ≤ d
  · rw [supp_congr (q := p) (fun i hi => h1 i (by omega)), lyr_congr (q := p) (fun i hi => h1 i (by omega))]
    exact h d' hd' j hj
  · rw [supp_cut (a := d) (by omega) h2, lyr_cut (a := d) (by omega) h2, supp_congr (q := p) h1, lyr_congr (q := p) h1]
    exact h d hd j hj
def WX (B : Bd) (b g m u : Nat) (p : Nat → Nat) (X : St) : Prop :=
  X.2.2 244 2 = b ∧ X.1 244 3 = nI g ∧ X.1 244 4 = nI m ∧ X.1 244 5 = nI u ∧ X.1 244 6 = nI (supp p (b_nd B)) ∧ X.1 244 8 = nI (sumN p (b_nd B)) ∧ X.1 244 9 = prS B p (b_nd B) ∧ (∀ d, d < 8 → X.1 256 d = nI (p d)) ∧ Lay B g p X.1
/-- what the walk changes -/
def kW (X X' : St) : Prop := (∀ a, (a < 244 ∨ 256 < a) → X'.1 a = X.1 a) ∧ X'.2.1 = X.2.1 ∧ (∀ a, a ≠ 244 → X'.2.2 a = X.2.2 a)
theorem kW_rf {S : St} : kW S S := ⟨fun _ _ => rfl, rfl, fun _ _ => rfl⟩
theorem kW_tr {A B C : St} (h : kW A B) (g : kW B C) : kW A C := ⟨fun a q => (g.1 a q).trans (h.1 a q), g.2.1.trans h.2.1, fun a q => (g.2.2 a q).trans (h.2.2 a q)⟩
theorem kW_S {X X' : St} (h : kW X X') : kSX X X' := ⟨fun a q => h.1 a (by omega), fun a q => by rw [h.2.1], fun k q => by rw [h.1 243 (by omega)], fun a q => h.2.2 a q⟩
theorem kW_I {X : St} {a k : Nat} {v : Int32} (h : 244 ≤ a ∧ a ≤ 256) : kW X (sI X a k v) := ⟨fun c q => sI_ne (by omega), rfl, fun _ _ => rfl⟩
theorem kW_rI {X : St} {a : Nat} {f : Nat → Int32} (h : 244 ≤ a ∧ a ≤ 256) : kW X (rI X a f) := ⟨fun c q => rI_ne (by omega), rfl, fun _ _ => rfl⟩
theorem kW_X {B : Bd} {b : Nat} {X X' : St} (hb : b = 3 ∨ b = 77) (hB : Bok B) (hX : RXb B X.1 b) (h : kW X X') : RXb B X'.1 b := kSX_X hb hB hX (kW_S h)
theorem lrow {k : Nat} (h : k < 9) : srX 245 k = 246 + k ∧ isK sdX (246 + k) 13 ∧ lnX (246 + k) = 16 := by
  have key : ∀ k, k < 9 → srX 245 k = 246 + k ∧ isK sdX (246 + k) 13 ∧ lnX (246 + k) = 16 := by decide
  exact key k h
theorem oRowL {b k : Nat} (hb : b = 3 ∨ b = 77) (h : k < 9) : oRow b (246 + k) := ⟨(lrow h).2.1, (lrow h).2.2, fun c h1 h2 => by rcases hb with z | z <;> omega⟩
theorem sI_r {S : St} {a k : Nat} {v : Int32} : (sI S a k v).2.2 = S.2.2 := rfl
theorem cut_s {p : Nat → Nat} {d : Nat} (h : p d = 0) : cut p (d + 1) = cut p d := by
  funext i
  unfold cut
  by_cases c : i < d
  · rw [if_pos c, if_pos (by omega)]
  · rw [if_neg c]
    by_cases e : i = d
    · rw [if_pos (by omega), e, h]
    · rw [if_neg (by omega)]
section
variable {n : Nat} {B : Bd} {b g m u : Nat} {X : St}
theorem cut_lo {p : Nat → Nat} {k i : Nat} (h : i < k) : cut p k i = p i := if_pos h
theorem cut_hi {p : Nat → Nat} {k i : Nat} (h : k ≤ i) : cut p k i = 0 := if_neg (by omega)
theorem cut_sum {p : Nat → Nat} {k : Nat} (h : k ≤ b_nd B) : sumN (cut p k) (b_nd B) = sumN p k ∧ supp (cut p k) (b_nd B) = supp p k ∧ prS B (cut p k) (b_nd B) = prS B p k := by
  rw [sumN_cut (a := k) h (fun i hi => cut_hi hi), supp_cut (a := k) h (fun i hi => cut_hi hi), prS_cut (a := k) h (fun i hi => cut_hi hi)]
  exact ⟨sumN_congr fun i hi => cut_lo hi, supp_congr fun i hi => cut_lo hi, prS_congr fun i hi => cut_lo hi⟩
theorem takeOut_spec {p : Nat → Nat} {d : Nat} (hb : b = 3 ∨ b = 77) (hB : Bok B) (hX : RXb B X.1 b) (hd : d < b_nd B) (hm : sumN p (d + 1) ≤ 24) (h : WX B b g m u (cut p (d + 1)) X) : ∃ X', fX9_takeOut n X (nI d) = some (X', ()) ∧ WX B b g m u (cut p d) X' ∧ kW X X' := by
  obtain ⟨h1, h2, h3, h4, h5, h6, h7, h8, h9⟩ := h
  have hd8 : b_nd B ≤ 8 := hB.2.2.2.2.2.1
  obtain ⟨⟨s5, -⟩, ⟨t5, -⟩, l5, -⟩ := bk2 hb
  obtain ⟨kk, -⟩ := bk hb
  have hp := h8 d (by omega)
  rw [cut_lo (by omega)] at hp
  have hs : sumN p (d + 1) = sumN p d + p d := rfl
  unfold fX9_takeOut
  rw [gd_pos (ib_nI (by omega) (by decide))]
  simp only [cl_nI (show d < 2 ^ 31 by omega)]
  rw [hp]
  by_cases c : p d = 0
  · rw [c, if_pos (show nI 0 ≤ 0 by decide)]
    rw [cut_s c] at h5 h6 h7 h8 h9
    exact ⟨X, rfl, ⟨h1, h2, h3, h4, h5, h6, h7, h8, h9⟩, kW_rf⟩
  · obtain ⟨e1, e2, e3⟩ := cut_sum (B := B) (p := p) (k := d + 1) (by omega)
    obtain ⟨f1, f2, f3⟩ := cut_sum (B := B) (p := p) (k := d) (by omega)
    have hprc : X.1 (b + 46) d = b_prc B d := (hX.2.2.2.2.2.2.2.2.2.2.2.2.2.2.2.1 d hd).1
    have b46 : b + 46 ≠ 244 := by rcases hb with z | z <;> omega
    rw [if_neg (nI_nle (by omega) (by omega))]
    simp only [bn_go, gd_pos (show ib (nI d) 8 from ib_nI (by omega) (by decide))]
    show ∃ X', gd (isK sdX (X.2.2 244 2) 0) _ = some (X', ()) ∧ _
    rw [h1, gd_pos kk]
    show ∃ X', gd (isK sdX (srX (X.2.2 244 2) 5) 13) _ = some (X', ()) ∧ _
    rw [h1, s5, gd_pos t5]
    show ∃ X', gd (ib (nI d) (sdX.2.2.1 (srX (X.2.2 244 2) 5))) _ = some (X', ()) ∧ _
    rw [h1, s5, l5, gd_pos (ib_nI (by omega) (by decide))]
    refine ⟨_, rfl, ⟨h1, ?_, ?_, ?_, ?_, ?_, ?_, ?_, ?_⟩, ?_⟩
    · rw [sI_ne (by decide), sI_row, upd_ne (by decide), sI_row, upd_ne (by decide), sI_row, upd_ne (by decide)]; exact h2
    · rw [sI_ne (by decide), sI_row, upd_ne (by decide), sI_row, upd_ne (by decide), sI_row, upd_ne (by decide)]; exact h3
    · rw [sI_ne (by decide), sI_row, upd_ne (by decide), sI_row, upd_ne (by decide), sI_row, upd_ne (by decide)]; exact h4
    · rw [sI_ne (by decide), sI_row, upd_ne (by decide), sI_row, upd_ne (by decide), sI_row, upd_eq, h5, e2, f2, supp_s, if_neg c]
      exact nI_pred _
    · rw [sI_ne (by decide), sI_row, upd_ne (by decide), sI_row, upd_eq, sI_row, upd_ne (by decide), sI_ne (by decide), h6, hp, e1, f1, hs, nI_subN (by omega), Nat.add_sub_cancel]
    · rw [sI_ne (by decide), sI_row, upd_eq, sI_row, upd_ne (by decide), sI_row, upd_ne (by decide), sI_r, sI_r, h1, s5, sI_ne b46, sI_ne b46, sI_ne (by decide), sI_ne (by decide), h7, hp, hprc, e3, f3, prS_s]
      generalize prS B p d = x
      generalize nI (p d) * b_prc B d = y
      grind
    · intro i hi
      rw [sI_row]
      by_cases e : i = d
      · rw [e, upd_eq, cut_hi (Nat.le_refl _)]; rfl
      · rw [upd_ne e, sI_ne (by decide), sI_ne (by decide), sI_ne (by decide), h8 i hi]
        by_cases c2 : i < d
        · rw [cut_lo c2, cut_lo (by omega)]
        · rw [cut_hi (by omega), cut_hi (by omega)]
    · have hl := Lay_cut (q := cut p d) h9 (show d ≤ b_nd B by omega) (fun i hi => by rw [cut_lo hi, cut_lo (by omega)]) (fun i hi => cut_hi hi)
      intro d' hd' j hj
      have := supp_le (p := cut p d) d'
      rw [sI_ne (by omega), sI_ne (by omega), sI_ne (by omega), sI_ne (by omega)]
      exact hl d' hd' j hj
    · exact kW_tr (kW_I (by decide)) (kW_tr (kW_I (by decide)) (kW_tr (kW_I (by decide)) (kW_I (by decide))))
theorem raise_spec {p : Nat → Nat} {d : Nat} (hn : 200000 ≤ n) (hb : b = 3 ∨ b = 77) (hB : Bok B) (hX : RXb B X.1 b) (hg : g < b_ng B) (hd : d < b_nd B) (hm : sumN p (d + 1) ≤ 24) (h : WX B b g m u (cut p (d + 1)) X) : ∃ X', fX9_raise n X (nI d) = some (X', ()) ∧ WX B b g m u (inc p d) X' ∧ kW X X' := by
  obtain ⟨h1, h2, h3, h4, h5, h6, h7, h8, h9⟩ := h
  have hd8 : b_nd B ≤ 8 := hB.2.2.2.2.2.1
  obtain ⟨⟨s5, -⟩, ⟨t5, -⟩, l5, -⟩ := bk2 hb
  obtain ⟨kk, -⟩ := bk hb
  have hp := h8 d (by omega)
  rw [cut_lo (by omega)] at hp
  obtain ⟨e1, e2, e3⟩ := cut_sum (B := B) (p := p) (k := d + 1) (by omega)
  rw [e2] at h5
  rw [e1] at h6
  rw [e3] at h7
  have hsd := supp_le (p := p) d
  have hss := supp_s p d
  obtain ⟨i1, i2⟩ := inc_sum (p := p) hd
  have ilo : ∀ i, i < d → inc p d i = p i := fun i hi => by unfold inc; rw [if_pos hi]
  have iat : inc p d d = p d + 1 := by unfold inc; rw [if_neg (by omega), if_pos rfl]
  have ihi : ∀ i, d + 1 ≤ i → inc p d i = 0 := fun i hi => by unfold inc; rw [if_neg (by omega), if_neg (by omega)]
  have i3 : prS B (inc p d) (b_nd B) = prS B p (d + 1) + b_prc B d := by
    rw [prS_cut (a := d + 1) hd ihi, prS_s, iat, prS_congr ilo, prS_s, ← nI_1]
    generalize prS B p d = x
    generalize nI (p d) = y
    grind
  have hprc : X.1 (b + 46) d = b_prc B d := (hX.2.2.2.2.2.2.2.2.2.2.2.2.2.2.2.1 d hd).1
  have b46 : b + 46 < 244 := by rcases hb with z | z <;> omega
  -- behind the number of kinds
  have key : ∀ Y : St, (∀ a, a ≠ 244 → Y.1 a = X.1 a) → (∀ k, k ≠ 6 → Y.1 244 k = X.1 244 k) → Y.1 244 6 = nI (supp p d + 1) → Y.2 = X.2 → ∃ X', fX9_raise_j33 n Y (nI d) (nI (supp p (d + 1))) = some (X', ()) ∧ WX B b g m u (inc p d) X' ∧ kW X X' := by
    intro Y y1 y2 y3 y4
    have hXY : RXb B Y.1 b := RXb_frame hX (fun a q1 q2 => y1 a (by rcases hb with z | z <;> omega)) hB
    have hL9 : supp p (d + 1) < 9 := by have := supp_le (p := p) (d + 1); omega
    obtain ⟨ra1, ra2, ra3⟩ := lrow hL9
    obtain ⟨rb1, rb2, rb3⟩ := lrow (show supp p d + 1 < 9 by omega)
    have hr2 : Y.2.2 244 2 = b := by rw [y4]; exact h1
    have hadd := addPart_spec (n := n) (d := d) (S := Y) hn hb hB hXY (oRowL hb (show supp p d + 1 < 9 by omega)) (oRowL hb hL9) hg hd
    unfold fX9_raise_j33
    rw [hr2, gd_pos kk, gd_pos (ib_nI hL9 (by decide)), cl_nI (by omega), ra1, gd_pos ra2, y3, gd_pos (ib_nI (show supp p d + 1 < 9 by omega) (by decide)), cl_nI (by omega), rb1, gd_pos rb2, y2 3 (by decide), h2, hadd, bd_go, gd_pos (ib_nI (show d < 8 by omega) (by decide)), gd_pos (ib_nI (show d < 8 by omega) (by decide)), bn_go, bn_go]
    simp only [cl_nI (show d < 2 ^ 31 by omega)]
    generalize hZ : rI Y (246 + (supp p d + 1)) (fun i => if i < b_nb B then stp B g d i (Y.1 (246 + supp p (d + 1)) i) else Y.1 (246 + (supp p d + 1)) i) = Z
    have z1 : ∀ a, a ≠ 246 + (supp p d + 1) → Z.1 a = Y.1 a := fun a q => by rw [← hZ, rI_ne q]
    have z2 : Z.2 = X.2 := by rw [← hZ]; exact y4
    have z3 : ∀ j, j < b_nb B → Z.1 (246 + (supp p d + 1)) j = stp B g d j (Y.1 (246 + supp p (d + 1)) j) := fun j hj => by rw [← hZ, rI_row, if_pos hj]
    have z256 : Z.1 256 = X.1 256 := by rw [z1 256 (by omega), y1 256 (by decide)]
    have z244 : Z.1 244 = Y.1 244 := z1 244 (by omega)
    have hzr : Z.2.2 244 2 = b := by rw [z2]; exact h1
    show ∃ X', gd (isK sdX (Z.2.2 244 2) 0) _ = some (X', ()) ∧ _
    rw [hzr, gd_pos kk]
    show ∃ X', gd (isK sdX (srX (Z.2.2 244 2) 5) 13) _ = some (X', ()) ∧ _
    rw [hzr, s5, gd_pos t5]
    show ∃ X', gd (ib (nI d) (sdX.2.2.1 (srX (Z.2.2 244 2) 5))) _ = some (X', ()) ∧ _
    rw [hzr, s5, l5, gd_pos (ib_nI (by omega) (by decide)), bn_go]
    refine ⟨_, rfl, ⟨hzr, ?_, ?_, ?_, ?_, ?_, ?_, ?_, ?_⟩, ?_⟩
    · rw [sI_row, upd_ne (by decide), sI_row, upd_ne (by decide), sI_ne (by decide), z244, y2 3 (by decide)]; exact h2
    · rw [sI_row, upd_ne (by decide), sI_row, upd_ne (by decide), sI_ne (by decide), z244, y2 4 (by decide)]; exact h3
    · rw [sI_row, upd_ne (by decide), sI_row, upd_ne (by decide), sI_ne (by decide), z244, y2 5 (by decide)]; exact h4
    · rw [sI_row, upd_ne (by decide), sI_row, upd_ne (by decide), sI_ne (by decide), z244, y3, i2]
    · rw [sI_row, upd_ne (by decide), sI_row, upd_eq, sI_ne (by decide), z244, y2 8 (by decide), h6, nI_1, i1]
    · rw [sI_row, upd_eq, sI_row, upd_ne (by decide), sI_ne (by decide), sI_r, sI_r, hzr, s5, sI_ne (show b + 46 ≠ 244 by omega), sI_ne (show b + 46 ≠ 256 by omega), z244, z1 (b + 46) (by omega), y1 (b + 46) (by omega), y2 9 (by decide), h7, hprc, i3]
    · intro i hi
      rw [sI_ne (by decide), sI_ne (by decide), sI_row]
      by_cases e : i = d
      · rw [e, upd_eq, z256, hp, nI_1, iat]
      · rw [upd_ne e, z256, h8 i hi]
        by_cases c2 : i < d
        · rw [cut_lo (by omega), ilo i c2]
        · rw [cut_hi (by omega), ihi i (by omega)]
    · intro d' hd' j hj
      by_cases c : d' ≤ d
      · have e : supp (inc p d) d' = supp p d' := supp_congr fun i hi => ilo i (by omega)
        have := supp_up (p := p) c
        rw [e, sI_ne (by omega), sI_ne (by omega), sI_ne (by omega), z1 _ (by omega), y1 _ (by omega), lyr_congr (q := p) (fun i hi => ilo i (by omega))]
        have := h9 d' hd' j hj
        rw [supp_congr (q := p) (fun i hi => cut_lo (by omega)), lyr_congr (q := p) (fun i hi => cut_lo (by omega))] at this
        exact this
      · have e : supp (inc p d) d' = supp p d + 1 := by rw [supp_cut (a := d + 1) (by omega) ihi, supp_s, iat, if_neg (by omega), supp_congr ilo]
        rw [e, sI_ne (by omega), sI_ne (by omega), sI_ne (by omega), z3 j hj, y1 _ (by omega), lyr_cut (a := d + 1) (by omega) ihi, lyr, iat, itS, lyr_congr (q := p) ilo]
        have := h9 (d + 1) (by omega) j hj
        rw [supp_congr (q := p) (fun i hi => cut_lo (by omega)), lyr_congr (q := p) (fun i hi => cut_lo (by omega)), lyr] at this
        rw [this]
    · refine kW_tr ?_ (kW_tr (kW_I (by decide)) (kW_tr (kW_I (by decide)) (kW_I (by decide))))
      exact ⟨fun a q => by rw [z1 a (by omega), y1 a (by omega)], by rw [z2], fun a q => by rw [z2]⟩
  unfold fX9_raise
  rw [bn_go, gd_pos (ib_nI (show d < 8 by omega) (by decide)), cl_nI (by omega), hp, h5]
  by_cases c : p d = 0
  · rw [if_pos c, Nat.add_zero] at hss
    rw [c, if_pos (show nI 0 = 0 from rfl), hss, if_neg (nle8 (by omega)), bn_go, nI_1, ← hss]
    refine key _ (fun a q => sI_ne q) (fun k q => by rw [sI_row, upd_ne q]) (by rw [sI_row, upd_eq, hss]) rfl
  · rw [if_neg c] at hss
    have hs24 : ¬ nI (p d) = 0 := nI_ne0 (by omega) (by have := sumN_s p d; omega)
    rw [if_neg hs24]
    exact key X (fun _ _ => rfl) (fun _ _ => rfl) (by rw [h5, hss]) rfl
theorem add_m1 (x : Int32) : x + (-1) = x - 1 := by grind
theorem advX_loop {p : Nat → Nat} (hn : 200000 ≤ n) (hb : b = 3 ∨ b = 77) (hB : Bok B) (hg : g < b_ng B) (hm24 : m ≤ 24) (hu8 : u ≤ 8) (hp : sumN p (b_nd B) ≤ m) : ∀ (k j : Nat) (X : St), k ≤ b_nd B → k < j → RXb B X.1 b → WX B b g m u (cut p k) X → ∃ X', fX9_advance_l13 n j X (nI k - 1) = some (X', ()) ∧ kW X X' ∧ ∀ q, adv m u p k = some q → WX B b g m u q X' := by
  have hd8 : b_nd B ≤ 8 := hB.2.2.2.2.2.1
  intro k
  induction k with
  | zero =>
    intro j X hk hj hX h
    obtain ⟨j, rfl⟩ := suc_of hj
    rw [fX9_advance_l13, if_pos (show nI 0 - 1 < 0 by decide)]
    exact ⟨X, rfl, kW_rf, fun q hq => by rw [adv] at hq; exact absurd hq (by simp)⟩
  | succ d ih =>
    intro j X hk hj hX h
    obtain ⟨j, rfl⟩ := suc_of hj
    obtain ⟨e1, e2, e3⟩ := cut_sum (B := B) (p := p) (k := d + 1) hk
    have hs := sumN_up (p := p) hk
    have hsu := supp_le (p := p) (d + 1)
    have hpd := sumN_s p d
    have h8 := h.2.2.2.2.2.2.2.1 d (by omega)
    rw [cut_lo (by omega)] at h8
    have out : ¬ (sumN p (d + 1) < m ∧ (0 < p d ∨ supp p (d + 1) < u)) → ∃ X', fX9_advance_j54 n (fX9_advance_l13 n j) X (nI d) = some (X', ()) ∧ kW X X' ∧ ∀ q, adv m u p (d + 1) = some q → WX B b g m u q X' := fun c => by
      obtain ⟨X1, t1, t2, t3⟩ := takeOut_spec (n := n) hb hB hX (show d < b_nd B by omega) (by omega) h
      obtain ⟨X2, a1, a2, a3⟩ := ih j X1 (by omega) (by omega) (kW_X hb hB hX t3) t2
      unfold fX9_advance_j54
      rw [t1, bd_go, bn_go, add_m1]
      refine ⟨X2, a1, kW_tr t3 a2, fun q hq => a3 q ?_⟩
      rw [adv, if_neg c] at hq
      exact hq
    have up : sumN p (d + 1) < m ∧ (0 < p d ∨ supp p (d + 1) < u) → ∃ X', fX9_advance_j48 n X (nI d) = some (X', ()) ∧ kW X X' ∧ ∀ q, adv m u p (d + 1) = some q → WX B b g m u q X' := fun c => by
      obtain ⟨X1, t1, t2, t3⟩ := raise_spec (n := n) hn hb hB hX hg (show d < b_nd B by omega) (by omega) h
      unfold fX9_advance_j48
      rw [t1, bd_go]
      refine ⟨X1, rfl, t3, fun q hq => ?_⟩
      rw [adv, if_pos c] at hq
      rw [← Option.some.inj hq]
      exact t2
    rw [nI_pred, fX9_advance_l13, if_neg (nI_pos (by omega)), h.2.2.1, h.2.2.2.2.2.1, e1]
    by_cases c1 : m ≤ sumN p (d + 1)
    · rw [if_pos (nI_le c1 (by omega))]
      exact out (by omega)
    rw [if_neg (nI_ge (by omega) (by omega)), gd_pos (ib_nI (by omega) (by decide)), cl_nI (by omega), h8]
    by_cases c2 : 0 < p d
    · rw [if_pos (show (0 : Int32) < nI (p d) from nI_lt (a := 0) c2 (by omega))]
      exact up ⟨by omega, Or.inl c2⟩
    rw [if_neg (show ¬ (0 : Int32) < nI (p d) from nI_nlt (b := p d) (a := 0) (by omega) (by omega)), h.2.2.2.1, h.2.2.2.2.1, e2]
    by_cases c3 : u ≤ supp p (d + 1)
    · rw [if_pos (nI_le c3 (by omega))]
      exact out (by omega)
    · rw [if_neg (nI_ge (by omega) (by omega))]
      exact up ⟨by omega, Or.inr (by omega)⟩
theorem advX_spec {p : Nat → Nat} (hn : 200000 ≤ n) (hb : b = 3 ∨ b = 77) (hB : Bok B) (hg : g < b_ng B) (hm24 : m ≤ 24) (hu8 : u ≤ 8) (hp : Adm m u (b_nd B) p) (hX : RXb B X.1 b) (h : WX B b g m u p X) : ∃ X', fX9_advance n X = some (X', ()) ∧ kW X X' ∧ ∀ q, adv m u p (b_nd B) = some q → WX B b g m u q X' := by
  have hd8 : b_nd B ≤ 8 := hB.2.2.2.2.2.1
  obtain ⟨kk, ⟨s0, -⟩, k0, -⟩ := bk hb
  have ec : cut p (b_nd B) = p := by
    funext i
    unfold cut
    by_cases c : i < b_nd B
    · rw [if_pos c]
    · rw [if_neg c, hp.2.2 i (by omega)]
  unfold fX9_advance
  rw [h.1, gd_pos kk, s0, gd_pos k0, bn_go, hX.2.2.2.2.2.1]
  exact advX_loop hn hb hB hg hm24 hu8 hp.1 (b_nd B) n X (Nat.le_refl _) (by omega) hX (by rw [ec]; exact h)
theorem prS_z {B : Bd} {k : Nat} : prS B (fun _ => 0) k = 0 := by
  rw [prS_cut (a := 0) (Nat.zero_le _) (fun _ _ => rfl)]
  rfl
theorem startX_spec {S : St} (hn : 200000 ≤ n) (hn2 : n < 2 ^ 31) (hb : b = 3 ∨ b = 77) (hB : Bok B) (hX : RXb B S.1 b) (hg : g < b_ng B) : ∃ X', fX9_start n S b (nI g) (nI m) (nI u) = some (X', ()) ∧ kW S X' ∧ WX B b g m u (fun _ => 0) X' := by
  obtain ⟨kk, -⟩ := bk hb
  obtain ⟨r1, r2, r3⟩ := lrow (k := 0) (by decide)
  generalize hT : sI (sI (sI (sI (sI (sI (sR S 244 2 b) 244 3 (nI g)) 244 4 (nI m)) 244 5 (nI u)) 244 6 0) 244 8 0) 244 9 0 = T
  have t244 : ∀ k, T.1 244 k = if k = 9 then 0 else if k = 8 then 0 else if k = 6 then 0 else if k = 5 then nI u else if k = 4 then nI m else if k = 3 then nI g else S.1 244 k := fun k => by
    rw [← hT]
    simp only [sI_row]
    unfold upd
    rfl
  have tne : ∀ a, a ≠ 244 → T.1 a = S.1 a := fun a q => by
    rw [← hT, sI_ne q, sI_ne q, sI_ne q, sI_ne q, sI_ne q, sI_ne q]
    rfl
  have tr : T.2.2 244 2 = b := by
    rw [← hT]
    show va_up S.2.2 244 (va_up (S.2.2 244) 2 b) 244 2 = b
    rw [up_same, up_same]
  have trn : ∀ a, a ≠ 244 → T.2.2 a = S.2.2 a := fun a q => by
    rw [← hT]
    show va_up S.2.2 244 (va_up (S.2.2 244) 2 b) a = S.2.2 a
    rw [up_other _ _ q]
  have t2 : T.2.1 = S.2.1 := by rw [← hT]; rfl
  have hXT : RXb B (rI T 256 (fun i => if i < 8 then 0 else T.1 256 i)).1 b := RXb_frame hX (fun a q1 q2 => by rw [rI_ne (by rcases hb with z | z <;> omega), tne a (by rcases hb with z | z <;> omega)]) hB
  unfold fX9_start
  rw [gd_pos kk]
  simp only [bn_go]
  rw [hT, fill_spec (L := 8) (by decide) (by decide) (by omega) hn2, bd_go]
  show ∃ X', gd (isK sdX (T.2.2 244 2) 0) _ = some (X', ()) ∧ _
  rw [tr, gd_pos kk, gd_pos (show ib 0 9 by decide), show srX 245 (Int32.toNatClampNeg 0) = 246 + 0 from r1, gd_pos r2]
  have e3 : (rI T 256 (fun i => if i < 8 then 0 else T.1 256 i)).1 244 3 = nI g := by rw [rI_ne (by decide), t244, if_neg (by decide), if_neg (by decide), if_neg (by decide), if_neg (by decide), if_neg (by decide), if_pos rfl]
  have e4 : (rI T 256 (fun i => if i < 8 then 0 else T.1 256 i)).2.2 244 2 = b := tr
  rw [e3, e4, layGround_spec (p := fun _ => 0) hn hb hB hXT (oRowL hb (show 0 < 9 by decide)) hg, bd_go]
  refine ⟨_, rfl, ?_, e4, ?_, ?_, ?_, ?_, ?_, ?_, ?_, ?_⟩
  · refine kW_tr (B := T) ⟨fun a q => tne a (by omega), t2, trn⟩ (kW_tr (kW_rI (by decide)) (kW_rI (by decide)))
  · rw [rI_ne (by decide)]; exact e3
  · rw [rI_ne (by decide), rI_ne (by decide), t244, if_neg (by decide), if_neg (by decide), if_neg (by decide), if_neg (by decide), if_pos rfl]
  · rw [rI_ne (by decide), rI_ne (by decide), t244, if_neg (by decide), if_neg (by decide), if_neg (by decide), if_pos rfl]
  · rw [rI_ne (by decide), rI_ne (by decide), t244, if_neg (by decide), if_neg (by decide), if_pos rfl, supp_z]; rfl
  · rw [rI_ne (by decide), rI_ne (by decide), t244, if_neg (by decide), if_pos rfl, sumN_z]; rfl
  · rw [rI_ne (by decide), rI_ne (by decide), t244, if_pos rfl, prS_z]
  · intro d hd
    rw [rI_ne (by decide), rI_row, if_pos hd]; rfl
  · intro d hd j hj
    rw [supp_z, rI_row, if_pos hj, lyr_cut (d := d) (a := 0) (Nat.zero_le _) (fun _ _ => rfl)]
theorem thrown_spec {p : Nat → Nat} (hn : 200000 ≤ n) (hb : b = 3 ∨ b = 77) (hB : Bok B) (hX : RXb B X.1 b) (h : WX B b g m u p X) : ∃ f, fX9_thrownBack n X = some (rI X 255 f, 255) ∧ WX B b g m u p (rI X 255 f) ∧ (∀ j, j < b_nb B → f j = thr B g p j) := by
  have hd8 : b_nd B ≤ 8 := hB.2.2.2.2.2.1
  obtain ⟨kk, -⟩ := bk hb
  have hs := supp_le (p := p) (b_nd B)
  obtain ⟨r1, r2, r3⟩ := lrow (k := supp p (b_nd B)) (by omega)
  have o255 : oRow b 255 := ⟨by decide, by decide, fun c h1 h2 => by rcases hb with z | z <;> omega⟩
  obtain ⟨h1, h2, h3, h4, h5, h6, h7, h8, h9⟩ := h
  unfold fX9_thrownBack
  rw [h1, gd_pos kk, h5, gd_pos (ib_nI (by omega) (by decide)), cl_nI (by omega), r1, gd_pos r2, settle_spec hn hb hB hX o255 (oRowL hb (by omega)), bd_go]
  refine ⟨_, rfl, ⟨h1, ?_, ?_, ?_, ?_, ?_, ?_, ?_, ?_⟩, fun j hj => ?_⟩
  · rw [rI_ne (by decide)]; exact h2
  · rw [rI_ne (by decide)]; exact h3
  · rw [rI_ne (by decide)]; exact h4
  · rw [rI_ne (by decide)]; exact h5
  · rw [rI_ne (by decide)]; exact h6
  · rw [rI_ne (by decide)]; exact h7
  · rw [rI_ne (by decide)]; exact h8
  · intro d hd j hj
    have := supp_le (p := p) d
    rw [rI_ne (by omega)]
    exact h9 d hd j hj
  · rw [if_pos hj, thr_lyr, h9 (b_nd B) (Nat.le_refl _) j hj]
/-- what keeping a mix changes -/
def kK (X X' : St) : Prop := (∀ a, a ≠ 243 → a ≠ 260 → X'.1 a = X.1 a) ∧ (∀ k, k ≠ 7 → k ≠ 8 → k ≠ 15 → X'.1 243 k = X.1 243 k) ∧ X'.2 = X.2
theorem kK_S {X X' : St} (h : kK X X') : kSX X X' := ⟨fun a q => h.1 a (by omega) (by omega), fun a q => by rw [h.2.2], fun k q => h.2.1 k (by omega) (by omega) (by omega), fun a q => by rw [h.2.2]⟩
theorem WX_fr {p : Nat → Nat} {X' : St} (h : WX B b g m u p X) (hB : Bok B) (hf : ∀ a, 244 ≤ a → a ≤ 256 → X'.1 a = X.1 a) (hr : X'.2.2 244 2 = X.2.2 244 2) : WX B b g m u p X' := by
  have hd8 : b_nd B ≤ 8 := hB.2.2.2.2.2.1
  obtain ⟨h1, h2, h3, h4, h5, h6, h7, h8, h9⟩ := h
  unfold WX
  rw [hf 244 (by decide) (by decide), hf 256 (by decide) (by decide), hr]
  refine ⟨h1, h2, h3, h4, h5, h6, h7, h8, fun d hd j hj => ?_⟩
  have := supp_le (p := p) d
  rw [hf _ (by omega) (by omega)]
  exact h9 d hd j hj
theorem keep_spec {p : Nat → Nat} (hB : Bok B) (h : WX B b g m u p X) : ∃ X', fX4_keep n X = some (X', ()) ∧ kK X X' ∧ WX B b g m u p X' ∧ X'.1 243 15 = 1 ∧ X'.1 243 7 = prS B p (b_nd B) ∧ X'.1 243 8 = nI (sumN p (b_nd B)) ∧ ∀ d, d < 8 → X'.1 260 d = nI (p d) := by
  unfold fX4_keep
  simp only [bn_go]
  rw [gd_pos (by decide)]
  have fr : ∀ a, a ≠ 243 → a ≠ 260 → (cI (sI (sI (sI X 243 15 1) 243 7 ((sI X 243 15 1).1 244 9)) 243 8 ((sI (sI X 243 15 1) 243 7 ((sI X 243 15 1).1 244 9)).1 244 8)) 256 260 (Int32.toNatClampNeg 0) (Int32.toNatClampNeg 0) (Int32.toNatClampNeg 8)).1 a = X.1 a := fun a q1 q2 => by rw [cI_ne q2, sI_ne q1, sI_ne q1, sI_ne q1]
  refine ⟨_, rfl, ⟨fr, fun k q1 q2 q3 => ?_, rfl⟩, WX_fr h hB (fun a q1 q2 => fr a (by omega) (by omega)) rfl, ?_, ?_, ?_, fun d hd => ?_⟩
  · rw [cI_ne (by decide), sI_row, upd_ne q2, sI_row, upd_ne q1, sI_row, upd_ne q3]
  · rw [cI_ne (by decide), sI_row, upd_ne (by decide), sI_row, upd_ne (by decide), sI_row, upd_eq]
  · rw [cI_ne (by decide), sI_row, upd_ne (by decide), sI_row, upd_eq, sI_ne (by decide)]; exact h.2.2.2.2.2.2.1
  · rw [cI_ne (by decide), sI_row, upd_eq, sI_ne (by decide), sI_ne (by decide)]; exact h.2.2.2.2.2.1
  · rw [cI_row]
    have e : ∀ f g : Nat → Int32, va_cpy f g (Int32.toNatClampNeg 0) (Int32.toNatClampNeg 0) (Int32.toNatClampNeg 8) d = f d := fun f g => cpy8 hd
    rw [e, sI_ne (by decide), sI_ne (by decide), sI_ne (by decide)]
    exact h.2.2.2.2.2.2.2.1 d hd
end
