section
variable {n s : Nat} {B : Bd}
/-- what the reference must hold while it lays the old mixes -/
def HM (B : Bd) (M : St) : Prop := M.1 4 0 = nI (b_nd B) ∧ M.1 4 4 = nI (b_no B) ∧ ∀ g, g < b_no B → ∀ d, d < b_nd B → M.1 20 (8 * g + d) = b_par B g d
theorem HM_fr {M M' : St} (h : HM B M) (k : kOM M M') : HM B M' := by
  unfold HM
  rw [k.1 4 (by decide) (by decide) (by decide), k.1 20 (by decide) (by decide) (by decide)]
  exact h
theorem dyes_H {M : St} (h : HM B M) : fX11_dyes n M = some (M, nI (b_nd B)) := by
  unfold fX11_dyes
  rw [gd_pos (show ib 0 5 by decide)]
  exact some_snd h.1
theorem fill_in {k33 : St → Nat → Int32 → Option (St × Unit)} {k31 : St → Int32 → Option (St × Unit)} {g : Nat} (hn : 200000 ≤ n) (hs : s = 3 ∨ s = 77) (hB : Bok B) (hg : g < b_no B) : ∀ (w d j j' o : Nat) (X M : St), d + w = b_nd B → w < j → w < j' → RXb B X.1 s → HM B M → OA B o X M → b_no B ≤ o → o ≤ b_no B + 8 * g + d → ∃ X' M' o', fX2_fill_l46 n k33 j X s (nI g) (nI d) = k33 X' s (nI (g + 1)) ∧ fX11_layOld_l43 n k31 j' M (nI g) (nI d) = k31 M' (nI (g + 1)) ∧ kOX X X' ∧ kOM M M' ∧ OA B o' X' M' ∧ b_no B ≤ o' ∧ o' ≤ b_no B + 8 * (g + 1) := by
  have hd8 : b_nd B ≤ 8 := hB.2.2.2.2.2.1
  have hno : b_no B ≤ 8 := hB.2.2.2.2.2.2.2.2.2.1
  obtain ⟨kk, ⟨s0, s1, s2, s3, s4⟩, k0, k1, k2, k3, k4⟩ := bk hs
  obtain ⟨-, -, -, -, ⟨p1, p2, p3, p4⟩, -⟩ := bk3 hs
  obtain ⟨p5, p6, p7⟩ := p4 g (by omega)
  intro w
  induction w with
  | zero =>
    intro d j j' o X M h hj hj' hX hM hO ho1 ho2
    obtain ⟨j, rfl⟩ := suc_of hj
    obtain ⟨j', rfl⟩ := suc_of hj'
    refine ⟨X, M, o, ?_, ?_, kOX_rf, kOM_rf, hO, ho1, by omega⟩
    · rw [fX2_fill_l46, gd_pos kk, s0, gd_pos k0, hX.2.2.2.2.2.1, if_pos (nI_le (by omega) (by omega))]
      unfold fX2_fill_j84
      rw [bn_go, nI_1]
    · rw [fX11_layOld_l43, dyes_H hM, bd_go, if_pos (nI_le (by omega) (by omega))]
      unfold fX11_layOld_j77
      rw [bn_go, nI_1]
  | succ w ih =>
    intro d j j' o X M h hj hj' hX hM hO ho1 ho2
    obtain ⟨j, rfl⟩ := suc_of hj
    obtain ⟨j', rfl⟩ := suc_of hj'
    have ex : X.1 (s + 38 + g) d = b_par B g d := hX.2.2.2.2.2.2.2.2.2.2.2.2.2.2.1 g hg d (by omega)
    have em : M.1 20 (8 * g + d) = b_par B g d := hM.2.2 g hg d (by omega)
    have eX : fX2_fill_l46 n k33 (j + 1) X s (nI g) (nI d) = if b_par B g d ≤ 0 then fX2_fill_l46 n k33 j X s (nI g) (nI (d + 1)) else bd (fX2_add n X s (nI g) (nI d)) (fun S8 _ => fX2_fill_l46 n k33 j S8 s (nI g) (nI (d + 1))) := by
      rw [fX2_fill_l46, gd_pos kk, s0, gd_pos k0, hX.2.2.2.2.2.1, if_neg (nI_ge (by omega) (by omega)), s4, gd_pos k4]
      simp only [sd_ln, p1, p3, cl_nI (show g < 2 ^ 31 by omega), p5, p7, cl_nI (show d < 2 ^ 31 by omega), ex]
      rw [gd_pos p2, gd_pos (ib_nI (by omega) (by decide)), gd_pos p6, gd_pos (ib_nI (by omega) (by decide))]
      unfold fX2_fill_j78
      simp only [bn_go, nI_1]
    have eM : fX11_layOld_l43 n k31 (j' + 1) M (nI g) (nI d) = if b_par B g d ≤ 0 then fX11_layOld_l43 n k31 j' M (nI g) (nI (d + 1)) else bd (fX11_addOld n M (nI g) (nI d)) (fun S4 _ => fX11_layOld_l43 n k31 j' S4 (nI g) (nI (d + 1))) := by
      rw [fX11_layOld_l43, dyes_H hM, bd_go, if_neg (nI_ge (by omega) (by omega)), ix8, gd_pos (ib_nI (by omega) (by decide)), cl_nI (by omega), em]
      unfold fX11_layOld_j71
      simp only [bn_go, nI_1]
    rw [eX, eM]
    by_cases c : b_par B g d ≤ 0
    · rw [if_pos c, if_pos c]
      exact ih (d + 1) j j' o X M (by omega) (by omega) (by omega) hX hM hO ho1 (by omega)
    · rw [if_neg c, if_neg c]
      obtain ⟨X1, M1, a1, a2, a3, a4, a5⟩ := both_add (x := nI d) hn hs hB hX (show o < 72 by omega) hg (Or.inr ⟨d, by omega, rfl⟩) hO (fun z => by omega)
      rw [a1, bd_go, a2, bd_go]
      obtain ⟨X', M', o', f1, f2, f3, f4, f5, f6⟩ := ih (d + 1) j j' (o + 1) X1 M1 (by omega) (by omega) (by omega) (kOX_X hs hB hX a3) (HM_fr hM a4) a5 (by omega) (by omega)
      exact ⟨X', M', o', f1, f2, kOX_tr a3 f3, kOM_tr a4 f4, f5, f6⟩
theorem fill_two (hn : 200000 ≤ n) (hs : s = 3 ∨ s = 77) (hB : Bok B) : ∀ (w g j j' o : Nat) (X M : St), g + w = b_no B → w < j → w < j' → RXb B X.1 s → HM B M → OA B o X M → b_no B ≤ o → o ≤ b_no B + 8 * g → ∃ X' M' o', fX2_fill_l33 n j X s (nI g) = some (X', ()) ∧ fX11_layOld_l31 n j' M (nI g) = some (M', ()) ∧ kOX X X' ∧ kOM M M' ∧ OA B o' X' M' ∧ b_no B ≤ o' ∧ o' ≤ 72 := by
  have hd8 : b_nd B ≤ 8 := hB.2.2.2.2.2.1
  have hno : b_no B ≤ 8 := hB.2.2.2.2.2.2.2.2.2.1
  obtain ⟨kk, ⟨s0, s1, s2, s3, s4⟩, k0, k1, k2, k3, k4⟩ := bk hs
  have c4 : Int32.toNatClampNeg 4 = 4 := by decide
  intro w
  induction w with
  | zero =>
    intro g j j' o X M h hj hj' hX hM hO ho1 ho2
    obtain ⟨j, rfl⟩ := suc_of hj
    obtain ⟨j', rfl⟩ := suc_of hj'
    refine ⟨X, M, o, ?_, ?_, kOX_rf, kOM_rf, hO, ho1, by omega⟩
    · rw [fX2_fill_l33, gd_pos kk, s4, gd_pos k4, hX.2.2.2.2.2.2.2.2.2.1, if_pos (nI_le (by omega) (by omega))]
    · rw [fX11_layOld_l31, gd_pos (show ib 4 5 by decide), c4, hM.2.1, if_pos (nI_le (by omega) (by omega))]
  | succ w ih =>
    intro g j j' o X M h hj hj' hX hM hO ho1 ho2
    obtain ⟨j, rfl⟩ := suc_of hj
    obtain ⟨j', rfl⟩ := suc_of hj'
    obtain ⟨X1, M1, o1, a1, a2, a3, a4, a5, a6, a7⟩ := fill_in (n := n) (k33 := fX2_fill_l33 n j) (k31 := fX11_layOld_l31 n j') hn hs hB (show g < b_no B by omega) (b_nd B) 0 n n o X M (by omega) (by omega) (by omega) hX hM hO ho1 (by omega)
    have a1 : fX2_fill_l46 n (fX2_fill_l33 n j) n X s (nI g) 0 = _ := a1
    have a2 : fX11_layOld_l43 n (fX11_layOld_l31 n j') n M (nI g) 0 = _ := a2
    obtain ⟨X', M', o', f1, f2, f3, f4, f5, f6⟩ := ih (g + 1) j j' o1 X1 M1 (by omega) (by omega) (by omega) (kOX_X hs hB hX a3) (HM_fr hM a4) a5 a6 a7
    refine ⟨X', M', o', ?_, ?_, kOX_tr a3 f3, kOM_tr a4 f4, f5, f6⟩
    · rw [fX2_fill_l33, gd_pos kk, s4, gd_pos k4, hX.2.2.2.2.2.2.2.2.2.1, if_neg (nI_ge (by omega) (by omega)), a1, f1]
    · rw [fX11_layOld_l31, gd_pos (show ib 4 5 by decide), c4, hM.2.1, if_neg (nI_ge (by omega) (by omega)), a2, f2]
theorem fill_one (hn : 200000 ≤ n) (hs : s = 3 ∨ s = 77) (hB : Bok B) : ∀ (w g j j' : Nat) (X M : St), g + w = b_no B → w < j → w < j' → RXb B X.1 s → HM B M → OA B g X M → ∃ X' M' o', fX2_fill_l7 n j X s (nI g) = some (X', ()) ∧ fX11_layOld_l7 n j' M (nI g) = some (M', ()) ∧ kOX X X' ∧ kOM M M' ∧ OA B o' X' M' ∧ b_no B ≤ o' ∧ o' ≤ 72 := by
  have hno : b_no B ≤ 8 := hB.2.2.2.2.2.2.2.2.2.1
  obtain ⟨kk, ⟨s0, s1, s2, s3, s4⟩, k0, k1, k2, k3, k4⟩ := bk hs
  have c4 : Int32.toNatClampNeg 4 = 4 := by decide
  intro w
  induction w with
  | zero =>
    intro g j j' X M h hj hj' hX hM hO
    obtain ⟨j, rfl⟩ := suc_of hj
    obtain ⟨j', rfl⟩ := suc_of hj'
    obtain ⟨X', M', o', f1, f2, f3⟩ := fill_two (n := n) hn hs hB (b_no B) 0 n n g X M (by omega) (by omega) (by omega) hX hM hO (by omega) (by omega)
    have f1 : fX2_fill_l33 n n X s 0 = _ := f1
    have f2 : fX11_layOld_l31 n n M 0 = _ := f2
    refine ⟨X', M', o', ?_, ?_, f3⟩
    · rw [fX2_fill_l7, gd_pos kk, s4, gd_pos k4, hX.2.2.2.2.2.2.2.2.2.1, if_pos (nI_le (by omega) (by omega))]
      unfold fX2_fill_j31
      rw [f1]
    · rw [fX11_layOld_l7, gd_pos (show ib 4 5 by decide), c4, hM.2.1, if_pos (nI_le (by omega) (by omega))]
      unfold fX11_layOld_j29
      rw [f2]
  | succ w ih =>
    intro g j j' X M h hj hj' hX hM hO
    obtain ⟨j, rfl⟩ := suc_of hj
    obtain ⟨j', rfl⟩ := suc_of hj'
    obtain ⟨X1, M1, a1, a2, a3, a4, a5⟩ := both_add (x := -1) hn hs hB hX (show g < 72 by omega) (show g < b_no B by omega) (Or.inl rfl) hO (fun _ => ⟨rfl, rfl⟩)
    obtain ⟨X', M', o', f1, f2, f3, f4, f5⟩ := ih (g + 1) j j' X1 M1 (by omega) (by omega) (by omega) (kOX_X hs hB hX a3) (HM_fr hM a4) a5
    refine ⟨X', M', o', ?_, ?_, kOX_tr a3 f3, kOM_tr a4 f4, f5⟩
    · rw [fX2_fill_l7, gd_pos kk, s4, gd_pos k4, hX.2.2.2.2.2.2.2.2.2.1, if_neg (nI_ge (by omega) (by omega)), a1, bd_go, bn_go, nI_1, f1]
    · rw [fX11_layOld_l7, gd_pos (show ib 4 5 by decide), c4, hM.2.1, if_neg (nI_ge (by omega) (by omega)), a2, bd_go, bn_go, nI_1, f2]
theorem both_fill {X M : St} (hn : 200000 ≤ n) (hs : s = 3 ∨ s = 77) (hB : Bok B) (hX : RXb B X.1 s) (hM : HM B M) : ∃ X' M' o, fX2_fill n X s = some (X', ()) ∧ fX11_layOld n M = some (M', ()) ∧ kOX X X' ∧ kOM M M' ∧ OA B o X' M' ∧ b_no B ≤ o ∧ o ≤ 72 := by
  have hno : b_no B ≤ 8 := hB.2.2.2.2.2.2.2.2.2.1
  have kx : kOX X (sI X 157 4 0) := ⟨fun a q => sI_ne (by omega), rfl⟩
  have km : kOM M (sI M 0 70 0) := ⟨fun a q _ _ => sI_ne q, fun k q => by rw [sI_row, upd_ne q], rfl⟩
  obtain ⟨X', M', o', f1, f2, f3, f4, f5⟩ := fill_one (n := n) hn hs hB (b_no B) 0 n n (sI X 157 4 0) (sI M 0 70 0) (by omega) (by omega) (by omega) (kOX_X hs hB hX kx) (HM_fr hM km) ⟨by rw [sI_row, upd_eq]; rfl, by rw [sI_row, upd_eq]; rfl, fun i hi => by omega, fun g _ z => by omega⟩
  exact ⟨X', M', o', f1, f2, kOX_tr kx f3, kOM_tr km f4, f5⟩
/-- the boxes empty -/
theorem boxX_loop : ∀ (w k j : Nat) (X : St), k + w = 3 → w < j → ∃ X', fX10_startAnew_l40 n j X (nI k) = fX10_startAnew_j61 n X' ∧ (∀ a i, (a < 264 ∨ 269 < a ∨ i ≠ 4) → X'.1 a i = X.1 a i) ∧ X'.2 = X.2 ∧ (∀ i, k ≤ i → i < 3 → X'.1 (264 + 2 * i) 4 = 0) ∧ (∀ i, i < k → X'.1 (264 + 2 * i) 4 = X.1 (264 + 2 * i) 4) := by
  have hk : ∀ k, k < 3 → srX 263 k = 264 + 2 * k ∧ isK sdX (264 + 2 * k) 8 := by decide
  intro w
  induction w with
  | zero =>
    intro k j X h hj
    obtain ⟨j, rfl⟩ := suc_of hj
    rw [fX10_startAnew_l40, if_pos (show (3 : Int32) ≤ nI k from nI_le (a := 3) (by omega) (by omega))]
    exact ⟨X, rfl, fun _ _ _ => rfl, rfl, fun i h1 h2 => by omega, fun _ _ => rfl⟩
  | succ w ih =>
    intro k j X h hj
    obtain ⟨j, rfl⟩ := suc_of hj
    obtain ⟨k1, k2⟩ := hk k (by omega)
    rw [fX10_startAnew_l40, if_neg (show ¬ (3 : Int32) ≤ nI k from nI_ge (b := 3) (by omega) (by decide)), gd_pos (ib_nI (by omega) (by decide))]
    simp only [cl_nI (show k < 2 ^ 31 by omega), k1]
    rw [gd_pos k2, bn_go, bn_go, nI_1]
    obtain ⟨X', f1, f2, f3, f4, f5⟩ := ih (k + 1) j (sI X (264 + 2 * k) 4 0) (by omega) (by omega)
    refine ⟨X', f1, fun a i q => by rw [f2 a i q, sI_at, if_neg (by omega)], f3, fun i h1 h2 => ?_, fun i h1 => ?_⟩
    · by_cases e : i = k
      · rw [f5 i (by omega), sI_at, if_pos (by omega)]
      · exact f4 i (by omega) h2
    · rw [f5 i (by omega), sI_at, if_neg (by omega)]
theorem boxM_loop : ∀ (w k j : Nat) (M : St), k + w = 3 → w < j → ∃ M', fX11_bench_l263 n j M (nI k) = fX11_bench_j281 n M' ∧ (∀ a, a ≠ 42 → M'.1 a = M.1 a) ∧ M'.2 = M.2 ∧ (∀ i, M'.1 42 i = if k ≤ i ∧ i < 3 then 0 else M.1 42 i) := by
  have hv : vp_nar .boolean 0 = 0 := by decide
  intro w
  induction w with
  | zero =>
    intro k j M h hj
    obtain ⟨j, rfl⟩ := suc_of hj
    rw [fX11_bench_l263, if_pos (show (3 : Int32) ≤ nI k from nI_le (a := 3) (by omega) (by omega))]
    exact ⟨M, rfl, fun _ _ => rfl, rfl, fun i => by rw [if_neg (by omega)]⟩
  | succ w ih =>
    intro k j M h hj
    obtain ⟨j, rfl⟩ := suc_of hj
    rw [fX11_bench_l263, if_neg (show ¬ (3 : Int32) ≤ nI k from nI_ge (b := 3) (by omega) (by decide)), gd_pos (ib_nI (by omega) (by decide)), bn_go, bn_go, nI_1, cl_nI (by omega), hv]
    obtain ⟨M', m1, m2, m3, m4⟩ := ih (k + 1) j (sI M 42 k 0) (by omega) (by omega)
    refine ⟨M', m1, fun a q => by rw [m2 a q, sI_ne q], m3, fun i => ?_⟩
    rw [m4 i, sI_at]
    by_cases e : i = k
    · rw [if_neg (by omega), if_pos ⟨rfl, e⟩, if_pos (by omega)]
    · by_cases z : k + 1 ≤ i ∧ i < 3
      · rw [if_pos z, if_pos (by omega)]
      · rw [if_neg z, if_neg (fun q => e q.2), if_neg (by omega)]
theorem cp_l15 : ∀ (w k j : Nat) (M : St), k + w = 5 → w < j → ∃ M', fX11_bench_l15 n j M (nI k) = fX11_bench_j38 n M' ∧ (∀ a, a ≠ 4 → M'.1 a = M.1 a) ∧ M'.2 = M.2 ∧ (∀ i, M'.1 4 i = if k ≤ i ∧ i < 5 then M.1 3 i else M.1 4 i) := by
  intro w
  induction w with
  | zero =>
    intro k j M h hj
    obtain ⟨j, rfl⟩ := suc_of hj
    rw [fX11_bench_l15, if_pos (show (5 : Int32) ≤ nI k from nI_le (a := 5) (by omega) (by omega))]
    exact ⟨M, rfl, fun _ _ => rfl, rfl, fun i => by rw [if_neg (by omega)]⟩
  | succ w ih =>
    intro k j M h hj
    obtain ⟨j, rfl⟩ := suc_of hj
    have hk : ib (nI k) 5 := ib_nI (by omega) (by decide)
    rw [fX11_bench_l15, if_neg (show ¬ (5 : Int32) ≤ nI k from nI_ge (b := 5) (by omega) (by decide))]
    simp only [gd_pos hk, bn_go, nI_1, cl_nI (show k < 2 ^ 31 by omega)]
    obtain ⟨M', m1, m2, m3, m4⟩ := ih (k + 1) j (sI M 4 k (M.1 3 k)) (by omega) (by omega)
    refine ⟨M', m1, fun a q0 => ?_, m3, fun i => ?_⟩
    · rw [m2 a q0, sI_ne q0]
    · have eb : (sI M 4 k (M.1 3 k)).1 3 i = M.1 3 i := by rw [sI_ne (show (3 : Nat) ≠ 4 by decide)]
      have ea : (sI M 4 k (M.1 3 k)).1 4 i = if i = k then M.1 3 k else M.1 4 i := by
        rw [sI_row]
        rfl
      rw [m4 i, eb, ea]
      by_cases e : i = k
      · rw [if_neg (by omega), if_pos e, if_pos (by omega), e]
      · by_cases z : k + 1 ≤ i ∧ i < 5
        · rw [if_pos z, if_pos (by omega)]
        · rw [if_neg z, if_neg e, if_neg (by omega)]
theorem cp_l40 : ∀ (w k j : Nat) (M : St), k + w = 128 → w < j → ∃ M', fX11_bench_l40 n j M (nI k) = fX11_bench_j65 n M' ∧ (∀ a, a ≠ 13 → M'.1 a = M.1 a) ∧ M'.2 = M.2 ∧ (∀ i, M'.1 13 i = if k ≤ i ∧ i < 128 then M.1 5 i else M.1 13 i) := by
  intro w
  induction w with
  | zero =>
    intro k j M h hj
    obtain ⟨j, rfl⟩ := suc_of hj
    rw [fX11_bench_l40, if_pos (show (128 : Int32) ≤ nI k from nI_le (a := 128) (by omega) (by omega))]
    exact ⟨M, rfl, fun _ _ => rfl, rfl, fun i => by rw [if_neg (by omega)]⟩
  | succ w ih =>
    intro k j M h hj
    obtain ⟨j, rfl⟩ := suc_of hj
    have hk : ib (nI k) 128 := ib_nI (by omega) (by decide)
    rw [fX11_bench_l40, if_neg (show ¬ (128 : Int32) ≤ nI k from nI_ge (b := 128) (by omega) (by decide))]
    simp only [gd_pos hk, bn_go, nI_1, cl_nI (show k < 2 ^ 31 by omega)]
    obtain ⟨M', m1, m2, m3, m4⟩ := ih (k + 1) j (sI M 13 k (M.1 5 k)) (by omega) (by omega)
    refine ⟨M', m1, fun a q0 => ?_, m3, fun i => ?_⟩
    · rw [m2 a q0, sI_ne q0]
    · have eb : (sI M 13 k (M.1 5 k)).1 5 i = M.1 5 i := by rw [sI_ne (show (5 : Nat) ≠ 13 by decide)]
      have ea : (sI M 13 k (M.1 5 k)).1 13 i = if i = k then M.1 5 k else M.1 13 i := by
        rw [sI_row]
        rfl
      rw [m4 i, eb, ea]
      by_cases e : i = k
      · rw [if_neg (by omega), if_pos e, if_pos (by omega), e]
      · by_cases z : k + 1 ≤ i ∧ i < 128
        · rw [if_pos z, if_pos (by omega)]
        · rw [if_neg z, if_neg e, if_neg (by omega)]
theorem cp_l67 : ∀ (w k j : Nat) (M : St), k + w = 96 → w < j → ∃ M', fX11_bench_l67 n j M (nI k) = fX11_bench_j91 n M' ∧ (∀ a, a ≠ 15 → M'.1 a = M.1 a) ∧ M'.2 = M.2 ∧ (∀ i, M'.1 15 i = if k ≤ i ∧ i < 96 then M.1 7 i else M.1 15 i) := by
  intro w
  induction w with
  | zero =>
    intro k j M h hj
    obtain ⟨j, rfl⟩ := suc_of hj
    rw [fX11_bench_l67, if_pos (show (96 : Int32) ≤ nI k from nI_le (a := 96) (by omega) (by omega))]
    exact ⟨M, rfl, fun _ _ => rfl, rfl, fun i => by rw [if_neg (by omega)]⟩
  | succ w ih =>
    intro k j M h hj
    obtain ⟨j, rfl⟩ := suc_of hj
    have hk : ib (nI k) 96 := ib_nI (by omega) (by decide)
    rw [fX11_bench_l67, if_neg (show ¬ (96 : Int32) ≤ nI k from nI_ge (b := 96) (by omega) (by decide))]
    simp only [gd_pos hk, bn_go, nI_1, cl_nI (show k < 2 ^ 31 by omega)]
    obtain ⟨M', m1, m2, m3, m4⟩ := ih (k + 1) j (sI M 15 k (M.1 7 k)) (by omega) (by omega)
    refine ⟨M', m1, fun a q0 => ?_, m3, fun i => ?_⟩
    · rw [m2 a q0, sI_ne q0]
    · have eb : (sI M 15 k (M.1 7 k)).1 7 i = M.1 7 i := by rw [sI_ne (show (7 : Nat) ≠ 15 by decide)]
      have ea : (sI M 15 k (M.1 7 k)).1 15 i = if i = k then M.1 7 k else M.1 15 i := by
        rw [sI_row]
        rfl
      rw [m4 i, eb, ea]
      by_cases e : i = k
      · rw [if_neg (by omega), if_pos e, if_pos (by omega), e]
      · by_cases z : k + 1 ≤ i ∧ i < 96
        · rw [if_pos z, if_pos (by omega)]
        · rw [if_neg z, if_neg e, if_neg (by omega)]
theorem cp_l93 : ∀ (w k j : Nat) (M : St), k + w = 64 → w < j → ∃ M', fX11_bench_l93 n j M (nI k) = fX11_bench_j141 n M' ∧ (∀ a, a ≠ 14 → a ≠ 16 → a ≠ 20 → M'.1 a = M.1 a) ∧ M'.2 = M.2 ∧ (∀ i, M'.1 14 i = if k ≤ i ∧ i < 64 then M.1 6 i else M.1 14 i) ∧ (∀ i, M'.1 16 i = if k ≤ i ∧ i < 64 then M.1 8 i else M.1 16 i) ∧ (∀ i, M'.1 20 i = if k ≤ i ∧ i < 64 then M.1 12 i else M.1 20 i) := by
  intro w
  induction w with
  | zero =>
    intro k j M h hj
    obtain ⟨j, rfl⟩ := suc_of hj
    rw [fX11_bench_l93, if_pos (show (64 : Int32) ≤ nI k from nI_le (a := 64) (by omega) (by omega))]
    exact ⟨M, rfl, fun _ _ _ _ => rfl, rfl, fun i => by rw [if_neg (by omega)], fun i => by rw [if_neg (by omega)], fun i => by rw [if_neg (by omega)]⟩
  | succ w ih =>
    intro k j M h hj
    obtain ⟨j, rfl⟩ := suc_of hj
    have hk : ib (nI k) 64 := ib_nI (by omega) (by decide)
    rw [fX11_bench_l93, if_neg (show ¬ (64 : Int32) ≤ nI k from nI_ge (b := 64) (by omega) (by decide))]
    simp only [gd_pos hk, bn_go, nI_1, cl_nI (show k < 2 ^ 31 by omega)]
    obtain ⟨M', m1, m2, m3, m4, m5, m6⟩ := ih (k + 1) j (sI (sI (sI M 14 k (M.1 6 k)) 16 k ((sI M 14 k (M.1 6 k)).1 8 k)) 20 k ((sI (sI M 14 k (M.1 6 k)) 16 k ((sI M 14 k (M.1 6 k)).1 8 k)).1 12 k)) (by omega) (by omega)
    refine ⟨M', m1, fun a q0 q1 q2 => ?_, m3, fun i => ?_, fun i => ?_, fun i => ?_⟩
    · rw [m2 a q0 q1 q2, sI_ne q2, sI_ne q1, sI_ne q0]
    · have eb : (sI (sI (sI M 14 k (M.1 6 k)) 16 k ((sI M 14 k (M.1 6 k)).1 8 k)) 20 k ((sI (sI M 14 k (M.1 6 k)) 16 k ((sI M 14 k (M.1 6 k)).1 8 k)).1 12 k)).1 6 i = M.1 6 i := by rw [sI_ne (show (6 : Nat) ≠ 20 by decide), sI_ne (show (6 : Nat) ≠ 16 by decide), sI_ne (show (6 : Nat) ≠ 14 by decide)]
      have ea : (sI (sI (sI M 14 k (M.1 6 k)) 16 k ((sI M 14 k (M.1 6 k)).1 8 k)) 20 k ((sI (sI M 14 k (M.1 6 k)) 16 k ((sI M 14 k (M.1 6 k)).1 8 k)).1 12 k)).1 14 i = if i = k then M.1 6 k else M.1 14 i := by
        rw [sI_ne (show (14 : Nat) ≠ 20 by decide), sI_ne (show (14 : Nat) ≠ 16 by decide), sI_row]
        rfl
      rw [m4 i, eb, ea]
      by_cases e : i = k
      · rw [if_neg (by omega), if_pos e, if_pos (by omega), e]
      · by_cases z : k + 1 ≤ i ∧ i < 64
        · rw [if_pos z, if_pos (by omega)]
        · rw [if_neg z, if_neg e, if_neg (by omega)]
    · have eb : (sI (sI (sI M 14 k (M.1 6 k)) 16 k ((sI M 14 k (M.1 6 k)).1 8 k)) 20 k ((sI (sI M 14 k (M.1 6 k)) 16 k ((sI M 14 k (M.1 6 k)).1 8 k)).1 12 k)).1 8 i = M.1 8 i := by rw [sI_ne (show (8 : Nat) ≠ 20 by decide), sI_ne (show (8 : Nat) ≠ 16 by decide), sI_ne (show (8 : Nat) ≠ 14 by decide)]
      have ea : (sI (sI (sI M 14 k (M.1 6 k)) 16 k ((sI M 14 k (M.1 6 k)).1 8 k)) 20 k ((sI (sI M 14 k (M.1 6 k)) 16 k ((sI M 14 k (M.1 6 k)).1 8 k)).1 12 k)).1 16 i = if i = k then M.1 8 k else M.1 16 i := by
        rw [sI_ne (show (16 : Nat) ≠ 20 by decide), sI_row, sI_ne (show (16 : Nat) ≠ 14 by decide), sI_ne (show (8 : Nat) ≠ 14 by decide)]
        rfl
      rw [m5 i, eb, ea]
      by_cases e : i = k
      · rw [if_neg (by omega), if_pos e, if_pos (by omega), e]
      · by_cases z : k + 1 ≤ i ∧ i < 64
        · rw [if_pos z, if_pos (by omega)]
        · rw [if_neg z, if_neg e, if_neg (by omega)]
    · have eb : (sI (sI (sI M 14 k (M.1 6 k)) 16 k ((sI M 14 k (M.1 6 k)).1 8 k)) 20 k ((sI (sI M 14 k (M.1 6 k)) 16 k ((sI M 14 k (M.1 6 k)).1 8 k)).1 12 k)).1 12 i = M.1 12 i := by rw [sI_ne (show (12 : Nat) ≠ 20 by decide), sI_ne (show (12 : Nat) ≠ 16 by decide), sI_ne (show (12 : Nat) ≠ 14 by decide)]
      have ea : (sI (sI (sI M 14 k (M.1 6 k)) 16 k ((sI M 14 k (M.1 6 k)).1 8 k)) 20 k ((sI (sI M 14 k (M.1 6 k)) 16 k ((sI M 14 k (M.1 6 k)).1 8 k)).1 12 k)).1 20 i = if i = k then M.1 12 k else M.1 20 i := by
        rw [sI_row, sI_ne (show (20 : Nat) ≠ 16 by decide), sI_ne (show (12 : Nat) ≠ 16 by decide), sI_ne (show (20 : Nat) ≠ 14 by decide), sI_ne (show (12 : Nat) ≠ 14 by decide)]
        rfl
      rw [m6 i, eb, ea]
      by_cases e : i = k
      · rw [if_neg (by omega), if_pos e, if_pos (by omega), e]
      · by_cases z : k + 1 ≤ i ∧ i < 64
        · rw [if_pos z, if_pos (by omega)]
        · rw [if_neg z, if_neg e, if_neg (by omega)]
theorem cp_l143 : ∀ (w k j : Nat) (M : St), k + w = 8 → w < j → ∃ M', fX11_bench_l143 n j M (nI k) = fX11_bench_j191 n M' ∧ (∀ a, a ≠ 17 → a ≠ 18 → a ≠ 19 → M'.1 a = M.1 a) ∧ M'.2 = M.2 ∧ (∀ i, M'.1 17 i = if k ≤ i ∧ i < 8 then M.1 9 i else M.1 17 i) ∧ (∀ i, M'.1 18 i = if k ≤ i ∧ i < 8 then M.1 10 i else M.1 18 i) ∧ (∀ i, M'.1 19 i = if k ≤ i ∧ i < 8 then M.1 11 i else M.1 19 i) := by
  intro w
  induction w with
  | zero =>
    intro k j M h hj
    obtain ⟨j, rfl⟩ := suc_of hj
    rw [fX11_bench_l143, if_pos (show (8 : Int32) ≤ nI k from nI_le (a := 8) (by omega) (by omega))]
    exact ⟨M, rfl, fun _ _ _ _ => rfl, rfl, fun i => by rw [if_neg (by omega)], fun i => by rw [if_neg (by omega)], fun i => by rw [if_neg (by omega)]⟩
  | succ w ih =>
    intro k j M h hj
    obtain ⟨j, rfl⟩ := suc_of hj
    have hk : ib (nI k) 8 := ib_nI (by omega) (by decide)
    rw [fX11_bench_l143, if_neg (show ¬ (8 : Int32) ≤ nI k from nI_ge (b := 8) (by omega) (by decide))]
    simp only [gd_pos hk, bn_go, nI_1, cl_nI (show k < 2 ^ 31 by omega)]
    obtain ⟨M', m1, m2, m3, m4, m5, m6⟩ := ih (k + 1) j (sI (sI (sI M 17 k (M.1 9 k)) 18 k ((sI M 17 k (M.1 9 k)).1 10 k)) 19 k ((sI (sI M 17 k (M.1 9 k)) 18 k ((sI M 17 k (M.1 9 k)).1 10 k)).1 11 k)) (by omega) (by omega)
    refine ⟨M', m1, fun a q0 q1 q2 => ?_, m3, fun i => ?_, fun i => ?_, fun i => ?_⟩
    · rw [m2 a q0 q1 q2, sI_ne q2, sI_ne q1, sI_ne q0]
    · have eb : (sI (sI (sI M 17 k (M.1 9 k)) 18 k ((sI M 17 k (M.1 9 k)).1 10 k)) 19 k ((sI (sI M 17 k (M.1 9 k)) 18 k ((sI M 17 k (M.1 9 k)).1 10 k)).1 11 k)).1 9 i = M.1 9 i := by rw [sI_ne (show (9 : Nat) ≠ 19 by decide), sI_ne (show (9 : Nat) ≠ 18 by decide), sI_ne (show (9 : Nat) ≠ 17 by decide)]
      have ea : (sI (sI (sI M 17 k (M.1 9 k)) 18 k ((sI M 17 k (M.1 9 k)).1 10 k)) 19 k ((sI (sI M 17 k (M.1 9 k)) 18 k ((sI M 17 k (M.1 9 k)).1 10 k)).1 11 k)).1 17 i = if i = k then M.1 9 k else M.1 17 i := by
        rw [sI_ne (show (17 : Nat) ≠ 19 by decide), sI_ne (show (17 : Nat) ≠ 18 by decide), sI_row]
        rfl
      rw [m4 i, eb, ea]
      by_cases e : i = k
      · rw [if_neg (by omega), if_pos e, if_pos (by omega), e]
      · by_cases z : k + 1 ≤ i ∧ i < 8
        · rw [if_pos z, if_pos (by omega)]
        · rw [if_neg z, if_neg e, if_neg (by omega)]
    · have eb : (sI (sI (sI M 17 k (M.1 9 k)) 18 k ((sI M 17 k (M.1 9 k)).1 10 k)) 19 k ((sI (sI M 17 k (M.1 9 k)) 18 k ((sI M 17 k (M.1 9 k)).1 10 k)).1 11 k)).1 10 i = M.1 10 i := by rw [sI_ne (show (10 : Nat) ≠ 19 by decide), sI_ne (show (10 : Nat) ≠ 18 by decide), sI_ne (show (10 : Nat) ≠ 17 by decide)]
      have ea : (sI (sI (sI M 17 k (M.1 9 k)) 18 k ((sI M 17 k (M.1 9 k)).1 10 k)) 19 k ((sI (sI M 17 k (M.1 9 k)) 18 k ((sI M 17 k (M.1 9 k)).1 10 k)).1 11 k)).1 18 i = if i = k then M.1 10 k else M.1 18 i := by
        rw [sI_ne (show (18 : Nat) ≠ 19 by decide), sI_row, sI_ne (show (18 : Nat) ≠ 17 by decide), sI_ne (show (10 : Nat) ≠ 17 by decide)]
        rfl
      rw [m5 i, eb, ea]
      by_cases e : i = k
      · rw [if_neg (by omega), if_pos e, if_pos (by omega), e]
      · by_cases z : k + 1 ≤ i ∧ i < 8
        · rw [if_pos z, if_pos (by omega)]
        · rw [if_neg z, if_neg e, if_neg (by omega)]
    · have eb : (sI (sI (sI M 17 k (M.1 9 k)) 18 k ((sI M 17 k (M.1 9 k)).1 10 k)) 19 k ((sI (sI M 17 k (M.1 9 k)) 18 k ((sI M 17 k (M.1 9 k)).1 10 k)).1 11 k)).1 11 i = M.1 11 i := by rw [sI_ne (show (11 : Nat) ≠ 19 by decide), sI_ne (show (11 : Nat) ≠ 18 by decide), sI_ne (show (11 : Nat) ≠ 17 by decide)]
      have ea : (sI (sI (sI M 17 k (M.1 9 k)) 18 k ((sI M 17 k (M.1 9 k)).1 10 k)) 19 k ((sI (sI M 17 k (M.1 9 k)) 18 k ((sI M 17 k (M.1 9 k)).1 10 k)).1 11 k)).1 19 i = if i = k then M.1 11 k else M.1 19 i := by
        rw [sI_row, sI_ne (show (19 : Nat) ≠ 18 by decide), sI_ne (show (11 : Nat) ≠ 18 by decide), sI_ne (show (19 : Nat) ≠ 17 by decide), sI_ne (show (11 : Nat) ≠ 17 by decide)]
        rfl
      rw [m6 i, eb, ea]
      by_cases e : i = k
      · rw [if_neg (by omega), if_pos e, if_pos (by omega), e]
      · by_cases z : k + 1 ≤ i ∧ i < 8
        · rw [if_pos z, if_pos (by omega)]
        · rw [if_neg z, if_neg e, if_neg (by omega)]
end
