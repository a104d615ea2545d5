def fam (f : Nat → Int64) : Nat → Int64
  | 0 => 0
  | l + 1 => mxL (fam f l) (f l)
def bst (f : Nat → Int64) : Nat → Nat
  | 0 => 0
  | l + 1 => if f (bst f l) < f l then l else bst f l
theorem mxL_int {x y : Int64} : (mxL x y).toInt = max x.toInt y.toInt := by
  unfold mxL
  by_cases h : y < x
  · rw [if_pos h]; rw [Int64.lt_iff_toInt_lt] at h; omega
  · rw [if_neg h]; rw [Int64.lt_iff_toInt_lt] at h; omega
theorem fam_nn {f : Nat → Int64} : ∀ l, 0 ≤ (fam f l).toInt
  | 0 => by rw [fam]; decide
  | l + 1 => by
    have := fam_nn (f := f) l
    rw [fam, mxL_int]
    omega
theorem fam_ge {f : Nat → Int64} : ∀ {l i : Nat}, i < l → (f i).toInt ≤ (fam f l).toInt
  | 0, _, h => by omega
  | l + 1, i, h => by
    rw [fam, mxL_int]
    by_cases q : i = l
    · subst q; omega
    · have := fam_ge (f := f) (l := l) (i := i) (by omega); omega
theorem bst_spec {f : Nat → Int64} (hf : ∀ i, 0 ≤ (f i).toInt) : ∀ l, bst f (l + 1) < l + 1 ∧ f (bst f (l + 1)) = fam f (l + 1) ∧ ∀ i, i < bst f (l + 1) → (f i).toInt < (fam f (l + 1)).toInt
  | 0 => by
    have e0 : bst f 1 = 0 := by rw [bst, bst]; split <;> rfl
    rw [e0]
    refine ⟨by omega, ?_, fun i hi => by omega⟩
    apply Int64.toInt_inj.mp
    rw [fam, fam, mxL_int]
    have := hf 0
    have e : (0 : Int64).toInt = 0 := rfl
    omega
  | l + 1 => by
    obtain ⟨h1, h2, h3⟩ := bst_spec hf l
    rw [bst, fam]
    by_cases c : f (bst f (l + 1)) < f (l + 1)
    · rw [if_pos c]
      rw [h2, Int64.lt_iff_toInt_lt] at c
      refine ⟨by omega, Int64.toInt_inj.mp (by rw [mxL_int]; omega), fun i hi => ?_⟩
      have := fam_ge (f := f) hi
      rw [mxL_int]
      omega
    · rw [if_neg c]
      rw [h2, Int64.lt_iff_toInt_lt] at c
      refine ⟨by omega, Int64.toInt_inj.mp (by rw [mxL_int, h2]; omega), fun i hi => ?_⟩
      have := h3 i hi
      rw [mxL_int]
      omega
theorem faS_fam {B : Bd} {ra rb : Nat → Int32} {odd : Int32} : ∀ l, faS B ra rb odd l = fam (fun l => apV B ra rb l odd) l
  | 0 => rfl
  | l + 1 => by rw [faS, fam, faS_fam l]
theorem apS_nn {B : Bd} {ra rb : Nat → Int32} {l u : Nat} : ∀ e, 0 ≤ (apS B ra rb l u e).toInt
  | 0 => by rw [apS]; decide
  | e + 1 => by
    have := apS_nn (B := B) (ra := ra) (rb := rb) (l := l) (u := u) e
    rw [apS]
    split
    · exact this
    · rw [mxL_int]; omega
section
variable {n : Nat} {Sx Sm : St}
theorem lampX_loop {B : Bd} {b a1 a2 : Nat} {X M : St} {odd : Int32} {f : Nat → Int64} (hn : 200000 ≤ n) (hR : RelB B b X M) (i1 : iRow a1) (i2 : iRow a2) (hf : ∀ l, apV B (X.1 a1) (X.1 a2) l odd = f l) (hpos : 0 < b_nl B) (hf0 : ∀ i, 0 ≤ (f i).toInt) : ∀ (m l j : Nat), l + m = bst f (b_nl B) → m < j → fX10_lamp_l43 n j X odd a1 a2 (fam f (b_nl B)) (nI l) = some (X, nI (bst f (b_nl B))) := by
  obtain ⟨hB, ⟨hb, hr, hr2⟩, hX, hlim, hM, -⟩ := id hR
  obtain ⟨kk, ⟨-, -, s2, -⟩, -, -, q2, -⟩ := bk hb
  have hl6 : b_nl B ≤ 6 := hB.2.2.2.2.2.2.2.1
  obtain ⟨L, hL⟩ : ∃ L, b_nl B = L + 1 := ⟨b_nl B - 1, by omega⟩
  obtain ⟨g1, g2, g3⟩ := bst_spec hf0 L
  rw [← hL] at g1 g2 g3
  intro m
  induction m with
  | zero =>
    intro l j h hj
    obtain ⟨j, rfl⟩ := suc_of hj
    rw [fX10_lamp_l43, hr, gd_pos kk, s2, gd_pos q2, hX.2.2.2.2.2.2.2.1, if_neg (nI_ge (by omega) (by omega)), apartOf_spec hn hb hB hX i1 i2 (by omega), bd_go, hf, show l = bst f (b_nl B) by omega, g2, if_pos (lg_eq.mpr rfl)]
  | succ m ih =>
    intro l j h hj
    obtain ⟨j, rfl⟩ := suc_of hj
    rw [fX10_lamp_l43, hr, gd_pos kk, s2, gd_pos q2, hX.2.2.2.2.2.2.2.1, if_neg (nI_ge (by omega) (by omega)), apartOf_spec hn hb hB hX i1 i2 (by omega), bd_go, hf, if_neg, bn_go, nI_1]
    · exact ih (l + 1) j (by omega) (by omega)
    · intro z
      have := g3 l (by omega)
      rw [lg_eq.mp z] at this
      omega
theorem lampM_loop {B : Bd} {b : Nat} {X M : St} {odd : Int32} {ra rb : Nat → Int32} {f : Nat → Int64} (hn : 200000 ≤ n) (hR : RelB B b X M) (t1 : ∀ j, j < b_nb B → M.2.1 23 j = (ra j).toInt64) (t2 : ∀ j, j < b_nb B → M.2.1 23 (16 + j) = (rb j).toInt64) (o1 : okR B ra) (o2 : okR B rb) (hf : ∀ l, apV B ra rb l odd = f l) (hf0 : ∀ i, 0 ≤ (f i).toInt) : ∀ (m l j : Nat), 1 ≤ l → l + m = b_nl B → m < j → fX11_lamp_l24 n j M odd (nI (bst f l)) (nI l) = some (M, nI (bst f (b_nl B))) := by
  obtain ⟨hB, ⟨hb, hr, hr2⟩, hX, hlim, hM, -⟩ := id hR
  have hl6 : b_nl B ≤ 6 := hB.2.2.2.2.2.2.2.1
  intro m
  induction m with
  | zero =>
    intro l j h1 h hj
    obtain ⟨j, rfl⟩ := suc_of hj
    rw [fX11_lamp_l24, lamps_spec hM, bd_go, if_pos (nI_le (by omega) (by omega)), show l = b_nl B by omega]
  | succ m ih =>
    intro l j h1 h hj
    obtain ⟨j, rfl⟩ := suc_of hj
    obtain ⟨L, rfl⟩ : ∃ L, l = L + 1 := ⟨l - 1, by omega⟩
    obtain ⟨g1, g2, g3⟩ := bst_spec hf0 L
    rw [fX11_lamp_l24, lamps_spec hM, bd_go, if_neg (nI_ge (by omega) (by omega)), apartBy_spec hn hM hB (by omega) t1 t2 o1 o2, bd_go, apartBy_spec hn hM hB (by omega) t1 t2 o1 o2, bd_go, hf, hf]
    have e := ih (L + 1 + 1) j (by omega) (by omega) (by omega)
    rw [bst] at e
    unfold fX11_lamp_j55
    by_cases c : f (bst f (L + 1)) < f (L + 1)
    · rw [if_pos c] at e
      rw [if_neg (fun z => by have := lg_np.mp z; rw [Int64.lt_iff_toInt_lt] at c; rw [Int64.le_iff_toInt_le] at this; omega), bn_go, nI_1]
      exact e
    · rw [if_neg c] at e
      rw [if_pos (lg_np.mpr (by rw [Int64.lt_iff_toInt_lt] at c; rw [Int64.le_iff_toInt_le]; omega)), bn_go, nI_1]
      exact e
theorem ok_lamp (hn : 200000 ≤ n) (h : Rel Sx Sm) : Ok_lamp n Rel Sx Sm := by
  intro x1 x2 x3 _
  obtain ⟨B, b, hR⟩ := id h
  obtain ⟨hB, ⟨hb, hr, hr2⟩, hX, hlim, hM, -⟩ := id hR
  obtain ⟨kk, ⟨-, -, s2, -⟩, -, -, q2, -⟩ := bk hb
  have hl6 : b_nl B ≤ 6 := hB.2.2.2.2.2.2.2.1
  unfold fX10_lamp fX11_lamp
  rw [lamps_spec hM, bd_go]
  by_cases c : goodX B x1 ∧ goodX B x2
  · obtain ⟨k1, k2, p1, p2, S1, S2, a1, a2, v1, v2, r1, r2, i1, i2, w1, w2, f1, f2, lt⟩ := two_t hn hR c.1 c.2
    have hR3 : RelB B b S2 (bec B (bec B Sm 0 k1 p1) 1 k2 p2) := rel_scr hR f1 f2 (fun _ h1 h2 => by rw [bec_ne h1 h2, bec_ne h1 h2])
    have hR2 : RelB B b S2 Sm := rel_scr hR f1 f2 (fun _ _ _ => rfl)
    obtain ⟨-, ⟨-, hr', -⟩, hX2, -⟩ := id hR2
    rw [bq_go1 r1, bq_go1 r2, hr', gd_pos kk, farthestOf_spec hn hb hB hX2 i1 i2, bd_go]
    by_cases z : b_nl B = 0
    · refine ⟨S2, Sm, -1, ?_, by rw [z, if_pos (show nI 0 = 0 from rfl)], B, b, hR2⟩
      obtain ⟨m, rfl⟩ : ∃ m, n = m + 1 := ⟨n - 1, by omega⟩
      rw [fX10_lamp_l43, hr', gd_pos kk, s2, gd_pos q2, hX2.2.2.2.2.2.2.2.1, z, if_pos (by decide)]
    · have e0 : ¬ nI (b_nl B) = 0 := by
        show ¬ nI (b_nl B) = nI 0
        rw [nI_eq (by omega) (by decide)]
        exact z
      rw [if_neg e0, lt, bd_go, if_neg one_ne]
      have hf : ∀ l, apV B (S2.1 a1) (S2.1 a2) l x3 = (fun l => apV B (thr B k1 p1) (thr B k2 p2) l x3) l := fun l => apV_congr w1 w2
      have hf0 : ∀ i, 0 ≤ ((fun l => apV B (thr B k1 p1) (thr B k2 p2) l x3) i).toInt := fun i => apS_nn _
      have m1 := lampM_loop (odd := x3) hn hR3 (fun j hj => bec2_1 hB hj) (fun j hj => bec2_2 hj) (Vw_ok hB v1) (Vw_ok hB v2) (fun l => rfl) hf0 (b_nl B - 1) 1 n (by omega) (by omega) (by omega)
      have eb : bst (fun l => apV B (thr B k1 p1) (thr B k2 p2) l x3) 1 = 0 := by rw [bst, bst]; split <;> rfl
      rw [eb] at m1
      obtain ⟨L, hL⟩ : ∃ L, b_nl B = L + 1 := ⟨b_nl B - 1, by omega⟩
      have g1 := (bst_spec hf0 L).1
      rw [← hL] at g1
      have x1' := lampX_loop (odd := x3) hn hR3 i1 i2 hf (by omega) hf0 (bst (fun l => apV B (thr B k1 p1) (thr B k2 p2) l x3) (b_nl B)) 0 n (by omega) (by omega)
      rw [faS_congr w1 w2, faS_fam]
      exact ⟨_, _, _, x1', m1, B, b, hR3⟩
  · obtain ⟨S1, S2, o1, o2, r1, r2, e, hR2⟩ := two_f hn hR c
    rw [layTwo_f hM hB c, bd_go, if_pos rfl]
    refine ⟨S2, Sm, -1, ?_, by split <;> rfl, B, b, hR2⟩
    rcases e with rfl | rfl
    · rw [bq_go0 r1]
      cases o2 with
      | none => rw [bq_go0 r2]
      | some a => rw [bq_go1 r2]
    · cases o1 with
      | none => rw [bq_go0 r1, bq_go0 r2]
      | some a => rw [bq_go1 r1, bq_go0 r2]
end
