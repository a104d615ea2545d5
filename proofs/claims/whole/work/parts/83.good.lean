section
variable {s : Nat} {N H : Nat → Nat} {X M : St}
theorem PB_good (hP : PB s N H X M) (hs : s = 3 ∨ s = 77) (hc : N 9 < 8) (hon : X.1 (s + 48) (N 9) = M.1 11 (N 9) ∧ ∃ k, k < N 6 ∧ M.1 11 (N 9) = nI k) (hpar : ∃ p : Nat → Nat, (∀ d, d < N 5 → M.1 12 (8 * N 9 + d) = nI (p d) ∧ X.1 (s + 38 + N 9) d = nI (p d)) ∧ sumN p (N 5) ≤ N 1) (hnm : ∃ l x y, l ≤ 8 ∧ WR l x y ∧ X.2.1 (s + shA 4 + 1) (N 9) = lN y ∧ M.2.1 2 (10 * 4 + N 9) = lN x ∧ ∀ k, k < N 9 → M.2.1 2 (10 * 4 + k) ≠ lN x) : PB s (up1 N 9) H (sI X (s + shA 4) 3 (nI (N 9 + 1))) (sI M 3 4 (nI (N 9 + 1))) := by
  obtain ⟨⟨a1, a2, a3, a4, a5⟩, ⟨b1, b2, b3, b4⟩, hb, h3, h4, h5, h6, h7, h8, h9, h10⟩ := hP
  have e35 : shA 4 = 35 := rfl
  have hs' : s + 50 < 151 := by rcases hs with z | z <;> omega
  have u : ∀ k, k < 9 → up1 N 9 k = N k := fun k hk => up1_ne (by omega)
  have xs : ∀ k, (sI X (s + shA 4) 3 (nI (N 9 + 1))).1 s k = X.1 s k := fun k => by rw [sI_ne (by omega)]
  have m0 : ∀ k, (sI M 3 4 (nI (N 9 + 1))).1 0 k = M.1 0 k := fun k => by rw [sI_ne (by decide)]
  refine ⟨⟨?_, ?_, ?_, ?_, ?_⟩, ⟨?_, ?_, ?_, ?_⟩, ?_, fun q' hq' => ?_, fun q' hq' d hd j hj => ?_, fun d hd => ?_, fun g hg => ?_, fun q' hq' => ?_, ?_, fun k hk => ?_, ?_⟩
  · rw [xs, u 0 (by decide)]; exact a1
  · rw [xs, u 1 (by decide)]; exact a2
  · rw [xs, u 2 (by decide)]; exact a3
  · rw [xs, u 3 (by decide)]; exact a4
  · rw [xs, u 4 (by decide)]; exact a5
  · rw [m0, u 0 (by decide)]; exact b1
  · rw [m0, u 1 (by decide)]; exact b2
  · rw [m0, u 2 (by decide)]; exact b3
  · rw [m0, u 3 (by decide)]; exact b4
  · rw [u 0 (by decide), u 1 (by decide), u 2 (by decide), u 3 (by decide), u 4 (by decide)]; exact hb
  · by_cases e : q' = 4
    · subst e
      show (sI X (s + shA 4) 3 (nI (N 9 + 1))).1 (s + shA 4) 3 = nI (up1 N 9 9) ∧ (sI X (s + shA 4) 3 (nI (N 9 + 1))).1 (s + shA 4) 0 = nI (lmA 4) ∧ (sI M 3 4 (nI (N 9 + 1))).1 3 4 = nI (up1 N 9 9) ∧ up1 N 9 9 ≤ lmA 4
      rw [up1_eq, sI_row, upd_eq, upd_ne (by decide), sI_row, upd_eq]
      exact ⟨rfl, (h3 4 hq').2.1, rfl, by show N 9 + 1 ≤ 8; omega⟩
    · have := sh_d hq' (show 4 < 5 by decide) e
      have := sh_b hq'
      rw [up1_ne (by omega), sI_ne (by omega), sI_row, upd_ne e]
      exact h3 q' hq'
  · have := sh_d (show q' < 5 by omega) (show 4 < 5 by decide) (by omega)
    have := sh_b (show q' < 5 by omega)
    have := (h3 q' (by omega)).2.2.2
    rw [u 0 (by decide)] at hj
    rw [u (5 + q') (by omega)] at hd
    rw [sI_ne (show 5 + q' ≠ 3 by omega), sI_ne (by omega)]
    exact h4 q' hq' d hd j hj
  · rw [u 5 (by decide)] at hd
    rw [sI_ne (show s + 46 ≠ s + shA 4 by omega), sI_ne (show s + 47 ≠ s + shA 4 by omega), sI_ne (show (9 : Nat) ≠ 3 by decide), sI_ne (show (10 : Nat) ≠ 3 by decide)]
    exact h5 d hd
  · rw [up1_eq] at hg
    rw [sI_ne (show s + 48 ≠ s + shA 4 by omega), sI_ne (show (11 : Nat) ≠ 3 by decide), sI_ne (show (12 : Nat) ≠ 3 by decide), sI_ne (show s + 38 + g ≠ s + shA 4 by omega), u 6 (by decide), u 5 (by decide), u 1 (by decide)]
    by_cases e : g = N 9
    · rw [e]; exact ⟨hon.1, hon.2, hpar⟩
    · exact h6 g (by omega)
  · show (∀ k, k < up1 N 9 (5 + q') → ∃ l x y, l ≤ 8 ∧ WR l x y ∧ X.2.1 (s + shA q' + 1) k = lN y ∧ M.2.1 2 (10 * q' + k) = lN x) ∧ ∀ k k', k < up1 N 9 (5 + q') → k' < up1 N 9 (5 + q') → M.2.1 2 (10 * q' + k) = M.2.1 2 (10 * q' + k') → k = k'
    obtain ⟨n1, n2⟩ := h7 q' hq'
    by_cases e : q' = 4
    · subst e
      have n1 : ∀ k, k < N 9 → _ := n1
      have n2 : ∀ k k', k < N 9 → k' < N 9 → _ := n2
      show (∀ k, k < up1 N 9 9 → ∃ l x y, l ≤ 8 ∧ WR l x y ∧ X.2.1 (s + shA 4 + 1) k = lN y ∧ M.2.1 2 (10 * 4 + k) = lN x) ∧ ∀ k k', k < up1 N 9 9 → k' < up1 N 9 9 → M.2.1 2 (10 * 4 + k) = M.2.1 2 (10 * 4 + k') → k = k'
      rw [up1_eq]
      obtain ⟨l, x, y, w1, w2, w3, w4, w5⟩ := hnm
      refine ⟨fun k hk => ?_, fun k k' hk hk' ek => ?_⟩
      · by_cases e2 : k = N 9
        · rw [e2]; exact ⟨l, x, y, w1, w2, w3, w4⟩
        · exact n1 k (by omega)
      · by_cases e2 : k = N 9
        · by_cases e3 : k' = N 9
          · rw [e2, e3]
          · rw [e2, w4] at ek
            exact absurd ek.symm (w5 k' (by omega))
        · by_cases e3 : k' = N 9
          · rw [e3, w4] at ek
            exact absurd ek (w5 k (by omega))
          · exact n2 k k' (by omega) (by omega) ek
    · rw [up1_ne (by omega)]
      exact ⟨n1, n2⟩
  · rw [sI_ne (by omega)]; exact h8
  · rw [m0]; exact h9 k hk
  · rw [u 4 (by decide)]; exact h10
end
/-- what reading a good's parts changes -/
def kGx (s g : Nat) (X X' : St) : Prop := (∀ a, a ≠ 151 → a ≠ s + 38 + g → X'.1 a = X.1 a) ∧ X'.1 151 5 = X.1 151 5 ∧ (∀ a, a ≠ 151 → X'.2.1 a = X.2.1 a) ∧ X'.2.2 = X.2.2
def kGm (g : Nat) (M M' : St) : Prop := (∀ a, a ≠ 0 → a ≠ 12 → M'.1 a = M.1 a) ∧ (∀ k, k ≠ 2 → k ≠ 3 → k ≠ 4 → k ≠ 6 → k ≠ 7 → k ≠ 8 → M'.1 0 k = M.1 0 k) ∧ (∀ i, i < 8 * g → M'.1 12 i = M.1 12 i) ∧ (∀ a, a ≠ 0 → M'.2.1 a = M.2.1 a)
section
variable {n s c t : Nat} {K P Q R V A : Nat → Nat} {X0 M0 X M : St} {i q : Nat} {N H : Nat → Nat}
theorem kGx_tr {g : Nat} {X X' X'' : St} (h : kGx s g X X') (f : kGx s g X' X'') : kGx s g X X'' := ⟨fun a p r => (f.1 a p r).trans (h.1 a p r), f.2.1.trans h.2.1, fun a p => (f.2.2.1 a p).trans (h.2.2.1 a p), f.2.2.2.trans h.2.2.2⟩
theorem kGm_tr {g : Nat} {M M' M'' : St} (h : kGm g M M') (f : kGm g M' M'') : kGm g M M'' := ⟨fun a p r => (f.1 a p r).trans (h.1 a p r), fun k a b c d e i => (f.2.1 k a b c d e i).trans (h.2.1 k a b c d e i), fun i hi => (f.2.2.1 i hi).trans (h.2.2.1 i hi), fun a p => (f.2.2.2 a p).trans (h.2.2.2 a p)⟩
theorem kT1_Gx {g : Nat} {X X' : St} (h : kT1 X X') : kGx s g X X' := ⟨fun a p _ => h.1 a p, h.2.1 5 (by decide) (by decide) (by decide) (by decide) (by decide), h.2.2.1, h.2.2.2⟩
theorem kU1_Gm {g : Nat} {M M' : St} (h : kU1 M M') : kGm g M M' := ⟨fun a p _ => h.1 a p, h.2.1, fun i _ => by rw [h.1 _ (by decide)], h.2.2⟩
theorem kGx_A {X' : St} (hs : s = 3 ∨ s = 77) (hc : N 9 < 8) (h : kGx s (N 9) X X') : AX s N X X' := by
  have hs' : s + 50 < 151 := by rcases hs with z | z <;> omega
  refine ⟨fun a a1 _ _ _ a5 => h.1 a a1 (a5 4 (by decide) hc), fun k _ => by rw [h.1 _ (by omega) (by omega), h.1 _ (by omega) (by omega)]; exact ⟨rfl, rfl⟩, fun k _ => by rw [h.1 _ (by omega) (by omega)], h.2.1, fun a a1 _ => h.2.2.1 a a1, fun q' hq' k _ => ?_, h.2.2.2⟩
  have := sh_b hq'
  rw [h.2.2.1 _ (by omega)]
theorem kGm_A {M' : St} (h : kGm (N 9) M M') : AM N M M' := ⟨fun a a1 a2 => h.1 a a1 (by omega), h.2.1, fun q' hq' i hi => by rw [h.1 _ (by omega) (by omega)], fun k _ => by rw [h.1 _ (by decide) (by decide), h.1 _ (by decide) (by decide)]; exact ⟨rfl, rfl⟩, fun k _ => by rw [h.1 _ (by decide) (by decide)], h.2.2.1, fun q' _ k _ => by rw [h.2.2.2 _ (by decide)]⟩
theorem Ft_l90 (hn : 200000 ≤ n) (h : Ft X M) {x1 x3 x4 : Int32} {j : Nat} : fX11_readGood_l90 n (j + 1) M x1 x3 x4 = some (M, ()) := by
  have e : fX11_readGood_j141 n M = some (M, ()) := by
    unfold fX11_readGood_j141
    rw [if_neg (Ft_0 h).1]
  rw [fX11_readGood_l90, gd_pos (show ib 0 5 by decide), if_neg (Ft_0 h).1, e]
  split <;> rfl
theorem good_loop (hC : TC n s c t K P Q R V A X0 M0) (hc : N 9 < 8) : ∀ (w k j j' i lf : Nat) (p : Nat → Nat) (X M : St), k + w = N 5 → w < j → w < j' → Sy s c K P Q R V A X0 M0 i X M → PB s N H X M → (∀ d, d < k → M.1 12 (8 * N 9 + d) = nI (p d) ∧ X.1 (s + 38 + N 9) d = nI (p d)) → sumN p k + lf = N 1 → ∃ X' M', kGx s (N 9) X X' ∧ kGm (N 9) M M' ∧ ((∃ i' p', i ≤ i' ∧ fX11_readGood_l90 n j' M (nI (N 9)) (nI lf) (nI k) = fX11_readGood_j141 n M' ∧ fX3_readGood_l82 n j X (nI (N 9)) (nI lf) (nI k) = fX3_readGood_j138 n X' ∧ Sy s c K P Q R V A X0 M0 i' X' M' ∧ (∀ d, d < N 5 → M'.1 12 (8 * N 9 + d) = nI (p' d) ∧ X'.1 (s + 38 + N 9) d = nI (p' d)) ∧ sumN p' (N 5) ≤ N 1) ∨ (fX11_readGood_l90 n j' M (nI (N 9)) (nI lf) (nI k) = some (M', ()) ∧ fX3_readGood_l82 n j X (nI (N 9)) (nI lf) (nI k) = some (X', 0) ∧ Ft X' M')) := by
  obtain ⟨⟨c1, c2, c3⟩, -⟩ := id hC
  have hs' : s + 50 < 151 := by rcases c2 with z | z <;> omega
  obtain ⟨kk, -⟩ := bk c2
  obtain ⟨k1, -, -, -, -, -, -, -, k9⟩ := shf c2 (show 0 < 5 by decide)
  obtain ⟨k1', -, -, -, k5, k6, k7, k8, k9'⟩ := shf c2 (show 4 < 5 by decide)
  obtain ⟨d1, d2, -, d4⟩ := k8 (N 9) hc
  have d4 := d4 rfl
  have e38 : s + shA 4 + 3 + N 9 = s + 38 + N 9 := rfl
  rw [e38] at d1 d2 d4
  have c0 : Int32.toNatClampNeg 0 = 0 := by decide
  intro w
  induction w with
  | zero =>
    intro k j j' i lf p X M h hj hj' hS hP hrow hsum
    obtain ⟨j, rfl⟩ := suc_of hj
    obtain ⟨j', rfl⟩ := suc_of hj'
    have hr : X.2.2 151 1 = s := by rw [hS.1.1.2.2.1]; exact c3
    have e0 := hP.2.2.2.1 0 (by decide)
    have e0x : X.1 (s + shA 0) 3 = nI (N 5) := e0.1
    have e0m : M.1 3 0 = nI (N 5) := e0.2.2.1
    have n8 : N 5 ≤ 8 := e0.2.2.2
    have e : k = N 5 := by omega
    subst e
    refine ⟨X, M, kT1_Gx kT1_rf, kU1_Gm kU1_rf, Or.inl ⟨i, p, Nat.le_refl _, ?_, ?_, hS, hrow, by omega⟩⟩
    · rw [fX11_readGood_l90, gd_pos (show ib 0 5 by decide), c0, e0m, if_pos (nI_le (Nat.le_refl _) (by omega))]
    · rw [fX3_readGood_l82, hr, gd_pos kk, k9, gd_pos k1, e0x, if_pos (nI_le (Nat.le_refl _) (by omega))]
  | succ w ih =>
    intro k j j' i lf p X M h hj hj' hS hP hrow hsum
    obtain ⟨j, rfl⟩ := suc_of hj
    obtain ⟨j', rfl⟩ := suc_of hj'
    have hr : X.2.2 151 1 = s := by rw [hS.1.1.2.2.1]; exact c3
    have e0 := hP.2.2.2.1 0 (by decide)
    have e0x : X.1 (s + shA 0) 3 = nI (N 5) := e0.1
    have e0m : M.1 3 0 = nI (N 5) := e0.2.2.1
    have n8 : N 5 ≤ 8 := e0.2.2.2
    have hmo := hP.2.2.1.2.1.2
    obtain ⟨X1, M1, r, v, a1, a2, a3, a4, a5⟩ := both_num (lo := 0) (hi := lf) hC hS (by decide) (by omega)
    have a1 : fX3_takeNumber n X 0 (nI lf) = _ := a1
    have a2 : fX11_toldNumber n M 0 (nI lf) = _ := a2
    have hP1 : PB s N H X1 M1 := PB_A hP c2 (kT1_A a3 c2) (kU1_A a4)
    have eM : fX11_readGood_l90 n (j' + 1) M (nI (N 9)) (nI lf) (nI k) = fX11_readGood_l90 n j' (sI M1 12 (8 * N 9 + k) v) (nI (N 9)) (nI lf - v) (nI (k + 1)) := by
      rw [fX11_readGood_l90, gd_pos (show ib 0 5 by decide), c0, e0m, if_neg (nI_ge (by omega) (by omega)), hS.2.2.2.2.1, if_pos rfl, a2, bd_go, ix8, gd_pos (ib_nI (by omega) (by decide)), bn_go, bn_go, bn_go, nI_1, cl_nI (by omega)]
    have eX : fX3_readGood_l82 n (j + 1) X (nI (N 9)) (nI lf) (nI k) = (if r = 0 then some (X1, 0) else gd (isK sdX (X1.2.2 151 1) 0) (gd (isK sdX (srX (X1.2.2 151 1) 4) 5) (gd (isK sdX (srX (srX (X1.2.2 151 1) 4) 2) 17) (gd (ib (nI (N 9)) (sdX.2.2.1 (srX (srX (X1.2.2 151 1) 4) 2))) (gd (isK sdX (srX (srX (srX (X1.2.2 151 1) 4) 2) (Int32.toNatClampNeg (nI (N 9)))) 13) (gd (ib (nI k) (sdX.2.2.1 (srX (srX (srX (X1.2.2 151 1) 4) 2) (Int32.toNatClampNeg (nI (N 9)))))) (bn (sI X1 (srX (srX (srX (X1.2.2 151 1) 4) 2) (Int32.toNatClampNeg (nI (N 9)))) (Int32.toNatClampNeg (nI k)) (X1.1 151 6)) (fun S11 : St => bn (nI lf - (S11.1 151 6)) (fun z12 : Int32 => bn (nI k + 1) (fun z13 : Int32 => fX3_readGood_l82 n j S11 (nI (N 9)) z12 z13)))))))))) := by
      rw [fX3_readGood_l82, hr, gd_pos kk, k9, gd_pos k1, e0x, if_neg (nI_ge (by omega) (by omega)), a1, bd_go]
    rw [eM, eX]
    rcases a5 with ⟨rfl, v1, v2, rfl, v4, v5⟩ | ⟨rfl, v1⟩
    · have hr1 : X1.2.2 151 1 = s := by rw [v5.1.1.2.2.1]; exact c3
      have kx : kGx s (N 9) X1 (sI X1 (s + 38 + N 9) k (nI (V i))) := ⟨fun a _ z => sI_ne z, by rw [sI_ne (by omega)], fun _ _ => rfl, rfl⟩
      have km : kGm (N 9) M1 (sI M1 12 (8 * N 9 + k) (nI (V i))) := ⟨fun a _ z => sI_ne z, fun k' _ _ _ _ _ _ => by rw [sI_ne (by decide)], fun i' hi' => by rw [sI_row, upd_ne (by omega)], fun _ _ => rfl⟩
      have hS2 : Sy s c K P Q R V A X0 M0 (i + 1) (sI X1 (s + 38 + N 9) k (nI (V i))) (sI M1 12 (8 * N 9 + k) (nI (V i))) := Sy_M (Sy_X v5 (AX_G (kGx_A c2 hc kx)) (fun k' _ => by rw [sI_ne (by omega)]) rfl) (AM_G (kGm_A km)) (fun k' _ => by rw [sI_ne (by decide)]) rfl
      have hP2 : PB s N H (sI X1 (s + 38 + N 9) k (nI (V i))) (sI M1 12 (8 * N 9 + k) (nI (V i))) := PB_A hP1 c2 (kGx_A c2 hc kx) (kGm_A km)
      have hsum' : sumN (fun d => if d = k then V i else p d) (k + 1) + (lf - V i) = N 1 := by
        rw [sumN_s, if_pos rfl, sumN_congr (q := p) (fun d hd => if_neg (by omega))]
        omega
      obtain ⟨X', M', f1, f2, f3⟩ := ih (k + 1) j j' (i + 1) (lf - V i) (fun d => if d = k then V i else p d) _ _ (by omega) (by omega) (by omega) hS2 hP2 (fun d hd => by
        rw [sI_row, sI_row]
        show upd (M1.1 12) (8 * N 9 + k) (nI (V i)) (8 * N 9 + d) = nI (if d = k then V i else p d) ∧ upd (X1.1 (s + 38 + N 9)) k (nI (V i)) d = nI (if d = k then V i else p d)
        by_cases e : d = k
        · rw [e, upd_eq, upd_eq, if_pos rfl]
          exact ⟨rfl, rfl⟩
        · rw [upd_ne (by omega), upd_ne e, if_neg e, a3.1 _ (by omega), a4.1 _ (by decide)]
          exact hrow d (by omega)) hsum'
      have e6 : (sI X1 (s + 38 + N 9) k (nI (V i))).1 151 6 = nI (V i) := by rw [sI_ne (by omega)]; exact v4
      rw [if_neg one_ne, hr1, gd_pos kk, k9', gd_pos k1', k5, gd_pos k6]
      simp only [sd_ln, k7, cl_nI (show N 9 < 2 ^ 31 by omega), d1, d4, cl_nI (show k < 2 ^ 31 by omega), v4]
      rw [gd_pos (show ib (nI (N 9)) (lmA 4) from ib_nI hc (by decide)), gd_pos d2, gd_pos (ib_nI (by omega) (by decide)), bn_go, bn_go, bn_go, nI_1, e6, nI_subN v2]
      refine ⟨X', M', kGx_tr (kT1_Gx a3) (kGx_tr kx f1), kGm_tr (kU1_Gm a4) (kGm_tr km f2), ?_⟩
      rcases f3 with ⟨i', p', g0, g1⟩ | g1
      · exact Or.inl ⟨i', p', by omega, g1⟩
      · exact Or.inr g1
    · have km : kGm (N 9) M1 (sI M1 12 (8 * N 9 + k) v) := ⟨fun a _ z => sI_ne z, fun k' _ _ _ _ _ _ => by rw [sI_ne (by decide)], fun i' hi' => by rw [sI_row, upd_ne (by omega)], fun _ _ => rfl⟩
      have hF : Ft X1 (sI M1 12 (8 * N 9 + k) v) := Ft_I v1 (by decide)
      rw [if_pos rfl]
      obtain ⟨j', rfl⟩ := suc_of (show 0 < j' by omega)
      rw [Ft_l90 c1 hF]
      exact ⟨X1, _, kT1_Gx a3, kGm_tr (kU1_Gm a4) km, Or.inr ⟨rfl, rfl, hF⟩⟩
/-- of each dye so many parts; then the sign -/
def gdT (n g : Nat) (r : Int32) (S : St) : Option (St × Unit) := bd (fX11_readGood_j68 n S (nI g) r) (fun S _ => fX11_readLine_j220 n S)
theorem gdT_ft (hn : 200000 ≤ n) (h : Ft X M) {g : Nat} (hg : g < 8) {r : Int32} : ∃ M', gdT n g r M = some (M', ()) ∧ GM M M' ∧ Ft X M' := by
  have h' : Ft X (sI M 11 g r) := Ft_I h (by decide)
  unfold gdT fX11_readGood_j68
  rw [gd_pos (ib_nI hg (by decide)), bn_go, cl_nI (by omega), Ft_want h', bd_go, bn_go]
  have e : ∀ z, fX11_readGood_l90 n n (sI M 11 g r) (nI g) z 0 = some (sI M 11 g r, ()) := fun z => by
    obtain ⟨m, hm⟩ := suc_of (show 0 < n by omega)
    have := Ft_l90 (x1 := nI g) (x3 := z) (x4 := 0) (j := m) hn h'
    rw [← hm] at this
    exact this
  rw [e, bd_go, Ft_220 h']
  exact ⟨_, rfl, GM_I (by decide), h'⟩
/-- from the word of on to the sign -/
theorem good_rest (hC : TC n s c t K P Q R V A X0 M0) (h : Sy s c K P Q R V A X0 M0 i X M) (hP : PB s N H X M) (hc : N 9 < 8) {k : Nat} (hk : k < N 6) (hx : X.1 (s + 48) (N 9) = nI k) (hnm : ∃ l x y, l ≤ 8 ∧ WR l x y ∧ X.2.1 (s + shA 4 + 1) (N 9) = lN y ∧ M.2.1 2 (10 * 4 + N 9) = lN x ∧ ∀ k, k < N 9 → M.2.1 2 (10 * 4 + k) ≠ lN x) : ∃ X' M' r, bd (fX3_take n X 17) (fun S11 r12 => if r12 = 0 then some (S11, 0) else gd (isK sdX (S11.2.2 151 1) 0) (bn (S11.1 (S11.2.2 151 1) 10) (fun z14 : Int32 => fX3_readGood_l82 n n S11 (nI (N 9)) z14 0))) = some (X', r) ∧ (r = 0 ∨ r = 1) ∧ gdT n (N 9) (nI k) M = some (M', ()) ∧ LnO s c K P Q R V A X0 M0 i X M X' M' := by
  obtain ⟨⟨c1, c2, c3⟩, -⟩ := id hC
  have hs' : s + 50 < 151 := by rcases c2 with z | z <;> omega
  obtain ⟨kk, -⟩ := bk c2
  obtain ⟨k1', -, -, -, -, -, -, -, k9'⟩ := shf c2 (show 4 < 5 by decide)
  have e35 : shA 4 = 35 := rfl
  have am : AM N M (sI M 11 (N 9) (nI k)) := ⟨fun a _ z => sI_ne (by omega), fun k _ _ _ _ _ _ => by rw [sI_ne (by decide)], fun q _ i _ => by rw [sI_ne (by omega)], fun k _ => ⟨by rw [sI_ne (by decide)], by rw [sI_ne (by decide)]⟩, fun k z => by rw [sI_row, upd_ne z], fun i _ => by rw [sI_ne (by decide)], fun _ _ _ _ => rfl⟩
  have hS : Sy s c K P Q R V A X0 M0 i X (sI M 11 (N 9) (nI k)) := Sy_M h (AM_G am) (fun k _ => by rw [sI_ne (by decide)]) rfl
  have hP0 : PB s N H X (sI M 11 (N 9) (nI k)) := PB_A hP c2 AX_rf am
  obtain ⟨X1, M1, r, a1, a2, a3, a4, a5⟩ := both_want hC hS (j := 12) (w := 17) (x := 28518) (by decide) rfl rfl
  have a1 : fX3_take n X 17 = _ := a1
  unfold gdT fX11_readGood_j68
  rw [a1, bd_go, gd_pos (ib_nI hc (by decide)), bn_go, bn_go, cl_nI (by omega), a2, bd_go, bn_go]
  have gm1 : GM M M1 := GM_tr (AM_G am) (kU1_G a4)
  rcases a5 with ⟨rfl, a5⟩ | ⟨rfl, a5⟩
  · have hP1 : PB s N H X1 M1 := PB_A hP0 c2 (kT1_A a3 c2) (kU1_A a4)
    have hr1 : X1.2.2 151 1 = s := by rw [a5.1.1.2.2.1]; exact c3
    have n8 : N 5 ≤ 8 := (hP1.2.2.2.1 0 (by decide)).2.2.2
    obtain ⟨X2, M2, b1, b2, b3⟩ := good_loop (H := H) hC hc (N 5) 0 n n (i + 1) (N 1) (fun _ => 0) X1 M1 (by omega) (by omega) (by omega) a5 hP1 (fun d hd => by omega) (by rw [sumN]; omega)
    rw [if_neg one_ne, hr1, gd_pos kk, hP1.1.2.1, hP1.2.1.2.1]
    have gx : GX s X X2 := GX_tr (kT1_G a3) (AX_G (kGx_A c2 hc b1))
    have gm : GM M M2 := GM_tr gm1 (AM_G (kGm_A b2))
    rcases b3 with ⟨i', p', g0, g1, g2, g3, g4, g5⟩ | ⟨g1, g2, g3⟩
    · have g1 : fX11_readGood_l90 n n M1 (nI (N 9)) (nI (N 1)) 0 = _ := g1
      have g2 : fX3_readGood_l82 n n X1 (nI (N 9)) (nI (N 1)) 0 = _ := g2
      rw [g1, g2]
      have hP2 : PB s N H X2 M2 := PB_A hP1 c2 (kGx_A c2 hc b1) (kGm_A b2)
      obtain ⟨l, x, y, w1, w2, w3, w4, w5⟩ := hnm
      have e48 : X2.1 (s + 48) (N 9) = nI k := by rw [b1.1 _ (by omega) (by omega), a3.1 _ (by omega)]; exact hx
      have e11 : M2.1 11 (N 9) = nI k := by rw [b2.1 _ (by decide) (by decide), a4.1 _ (by decide), sI_row, upd_eq]
      have hP3 := PB_good hP2 c2 hc ⟨e48.trans e11.symm, k, hk, e11⟩ ⟨p', g4, g5⟩ ⟨l, x, y, w1, w2, by rw [b1.2.2.1 _ (by omega), a3.2.2.1 _ (by omega)]; exact w3, by rw [b2.2.2.2 _ (by decide), a4.2.2 _ (by decide)]; exact w4, fun k hk => by rw [b2.2.2.2 _ (by decide), a4.2.2 _ (by decide)]; exact w5 k hk⟩
      have e4x : X2.1 (s + shA 4) 3 = nI (N 9) := (hP2.2.2.2.1 4 (by decide)).1
      have e4m : M2.1 3 4 = nI (N 9) := (hP2.2.2.2.1 4 (by decide)).2.2.1
      have gx2 : GX s X2 (sI X2 (s + shA 4) 3 (nI (N 9 + 1))) := ⟨fun a _ z => sI_ne (by omega), fun _ _ _ => rfl, rfl, fun _ _ _ => sI_f (by omega)⟩
      have gm2 : GM M2 (sI M2 3 4 (nI (N 9 + 1))) := ⟨fun a _ z _ => sI_ne z, fun k _ => by rw [sI_ne (by decide)]⟩
      have hS' : Sy s c K P Q R V A X0 M0 i' (sI X2 (s + shA 4) 3 (nI (N 9 + 1))) (sI M2 3 4 (nI (N 9 + 1))) := Sy_M (Sy_X g3 gx2 (fun k _ => by rw [sI_ne (by omega)]) rfl) gm2 (fun k _ => by rw [sI_ne (by decide)]) rfl
      obtain ⟨X', M', r, f1, f2, f3, f4, f5⟩ := both_sign hC hS'
      have hr : r = 0 ∨ r = 1 := by
        rcases f5 with ⟨z, -⟩ | ⟨z, -⟩
        · exact Or.inr z
        · exact Or.inl z
      have hr2 : X2.2.2 151 1 = s := by rw [g3.1.1.2.2.1]; exact c3
      have c4 : Int32.toNatClampNeg 4 = 4 := by decide
      unfold fX3_readGood_j138 fX11_readGood_j141
      rw [hr2, gd_pos kk, k9', gd_pos k1', bn_go, e4x, nI_1, f1, bd_go, gd_pos hr, if_pos g3.2.2.2.2.1, gd_pos (show ib 4 5 by decide), gd_pos (show ib 4 5 by decide), bn_go, c4, e4m, nI_1, bd_go, f2]
      refine ⟨X', M', r, rfl, hr, rfl, GX_tr gx (GX_tr gx2 (kT1_G f3)), GM_tr gm (GM_tr gm2 (kU1_G f4)), ?_⟩
      rcases f5 with ⟨-, z⟩ | ⟨-, z⟩
      · exact Or.inl ⟨i' + 1, up1 N 9, H, by omega, z, PB_A hP3 c2 (kT1_A f3 c2) (kU1_A f4)⟩
      · exact Or.inr z
    · have g1 : fX11_readGood_l90 n n M1 (nI (N 9)) (nI (N 1)) 0 = _ := g1
      have g2 : fX3_readGood_l82 n n X1 (nI (N 9)) (nI (N 1)) 0 = _ := g2
      rw [g1, g2, bd_go, Ft_220 g3]
      exact ⟨X2, M2, 0, rfl, Or.inl rfl, rfl, gx, gm, Or.inr g3⟩
  · have e : ∀ z, fX11_readGood_l90 n n M1 (nI (N 9)) z 0 = some (M1, ()) := fun z => by
      obtain ⟨m, hm⟩ := suc_of (show 0 < n by omega)
      have := Ft_l90 (x1 := nI (N 9)) (x3 := z) (x4 := 0) (j := m) c1 a5
      rw [← hm] at this
      exact this
    rw [if_pos rfl, e, bd_go, Ft_220 a5]
    exact ⟨X1, M1, 0, rfl, Or.inl rfl, rfl, kT1_G a3, gm1, Or.inr a5⟩
theorem good_line (hC : TC n s c t K P Q R V A X0 M0) (h : Sy s c K P Q R V A X0 M0 i X M) (hP : PB s N H X M) (hK : 2 ≤ K i) (h5 : 0 < N 5) (hc : N 9 < 8) : ∃ X' M' r, fX3_readGood n X = some (X', r) ∧ (r = 0 ∨ r = 1) ∧ bd (fX11_readGood n M) (fun S _ => fX11_readLine_j220 n S) = some (M', ()) ∧ LnO s c K P Q R V A X0 M0 i X M X' M' := by
  obtain ⟨⟨c1, c2, c3⟩, -, -, -, c9, -⟩ := id hC
  have hs' : s + 50 < 151 := by rcases c2 with z | z <;> omega
  obtain ⟨kk, -⟩ := bk c2
  obtain ⟨⟨-, -, s7, -⟩, ⟨-, -, t7⟩, -, -, l7⟩ := bk2 c2
  obtain ⟨k1, -, -, -, -, -, -, -, k9⟩ := shf c2 (show 0 < 5 by decide)
  obtain ⟨k1g, -, -, -, -, -, -, -, k9g⟩ := shf c2 (show 1 < 5 by decide)
  obtain ⟨k1', -, -, -, -, -, -, -, k9'⟩ := shf c2 (show 4 < 5 by decide)
  have e0 : X.1 (s + shA 0) 3 = nI (N 5) := (hP.2.2.2.1 0 (by decide)).1
  have n8 : N 5 ≤ 8 := (hP.2.2.2.1 0 (by decide)).2.2.2
  have e4x : X.1 (s + shA 4) 3 = nI (N 9) := (hP.2.2.2.1 4 (by decide)).1
  have e4m : M.1 3 4 = nI (N 9) := (hP.2.2.2.1 4 (by decide)).2.2.1
  have e35 : shA 4 = 35 := rfl
  have c4 : Int32.toNatClampNeg 4 = 4 := by decide
  have hr : ∀ {Y : St} {j : Nat} {W : St}, Sy s c K P Q R V A X0 M0 j Y W → Y.2.2 151 1 = s := fun z => by rw [z.1.1.2.2.1]; exact c3
  obtain ⟨X1, M1, r, a1, a2, a3, a4, a5⟩ := both_name hC h hP hK (show 4 < 5 by decide) (show N (5 + 4) < lmA 4 from hc)
  have a2 : fX11_readName n M 4 = _ := a2
  unfold fX3_readGood fX11_readGood
  rw [hr h, gd_pos kk, k9', gd_pos k1', bn_go, k9, gd_pos k1, e0, if_neg (nI_ne0 h5 (by omega)), a1, bd_go, e4x, gd_pos (show ib 4 5 by decide), bn_go, a2, bd_go, c4, e4m]
  unfold fX3_readGood_j38
  have hfin : ∀ {Y W : St}, Ft Y W → fX11_readLine_j220 n W = some (W, ()) := fun z => Ft_220 z
  rcases a5 with ⟨rfl, a5, a6⟩ | ⟨rfl, a5⟩
  case inr =>
    rw [if_pos rfl, Ft_X a5, bd_go, gd_pos (Or.inl rfl), Ft_want a5, bd_go, if_neg (Ft_0 a5).2, bd_go, Ft_220 a5]
    exact ⟨X1, M1, 0, rfl, Or.inl rfl, rfl, AX_G a3, AM_G a4, Or.inr a5⟩
  rw [if_neg one_ne]
  have hP1 : PB s N H X1 M1 := PB_A hP c2 a3 a4
  obtain ⟨X2, M2, r, b1, b2, b3, b4, b5⟩ := both_want hC a5 (j := 13) (w := 18) (x := 28526) (by decide) rfl rfl
  have b1 : fX3_take n X1 18 = _ := b1
  rw [b1, bd_go, b2, bd_go]
  have gx2 : GX s X X2 := GX_tr (AX_G a3) (kT1_G b3)
  have gm2 : GM M M2 := GM_tr (AM_G a4) (kU1_G b4)
  rcases b5 with ⟨rfl, b5⟩ | ⟨rfl, b5⟩
  case inr =>
    rw [if_pos rfl, if_neg (Ft_0 b5).2, bd_go, Ft_220 b5]
    exact ⟨X2, M2, 0, rfl, Or.inl rfl, rfl, gx2, gm2, Or.inr b5⟩
  have hP2 : PB s N H X2 M2 := PB_A hP1 c2 (kT1_A b3 c2) (kU1_A b4)
  have f2 := b5.2.2.2.2.1
  have k18 := (c9 (i + 2 + 1) b5.1.2.2).1
  have x3 := b5.2.1.2.1
  -- the ground's name
  rw [if_neg one_ne, f2, if_pos (show (0 : Int32) ≤ 0 by decide)]
  have hax : ∀ v : Int32, AX s N X2 (sI X2 (s + 48) (N 9) v) := fun v => ⟨fun a _ _ _ z _ => sI_ne z, fun k _ => ⟨by rw [sI_ne (by omega)], by rw [sI_ne (by omega)]⟩, fun k z => by rw [sI_row, upd_ne z], by rw [sI_ne (by omega)], fun _ _ _ => rfl, fun _ _ _ _ => rfl, rfl⟩
  have hSx : ∀ v : Int32, Sy s c K P Q R V A X0 M0 (i + 2 + 1) (sI X2 (s + 48) (N 9) v) M2 := fun v => Sy_X b5 (AX_G (hax v)) (fun k _ => by rw [sI_ne (by omega)]) rfl
  have l7' : ib (nI (N 9)) (lnX (s + 48)) := by
    rw [show lnX (s + 48) = 8 from l7]
    exact ib_nI hc (by decide)
  have h34 : ∀ v r : Int32, ∀ Z : St, fX3_take n (sI X2 (s + 48) (N 9) v) 4 = some (Z, r) → (r = 0 ∨ r = 1) → fX3_takeGround_j34 n X2 (nI (N 9)) v = some (Z, r) := fun v r Z hz hr' => by
    unfold fX3_takeGround_j34
    rw [hr b5, gd_pos kk, s7, gd_pos t7]
    simp only [sd_ln]
    rw [gd_pos l7', bn_go, cl_nI (by omega), hz, bd_go, gd_pos hr']
  by_cases z : K (i + 2 + 1) = 4
  · obtain ⟨r, r1, r2, r3⟩ := both_find hC b5 hP2 (show 1 < 5 by decide) z
    have r2 : fX11_find n M2 1 = _ := r2
    rw [r2, bd_go, isName_spec hC b5, bd_go, if_pos z, if_neg one_ne]
    unfold fX3_takeGround
    rw [hr b5, gd_pos kk, k9g, gd_pos k1g, r1, bd_go, x3, if_pos (show nI (K (i + 2 + 1)) = 4 by rw [z]; rfl)]
    rcases r3 with ⟨rfl, -⟩ | ⟨k, hk, rfl⟩
    · -- no ground has it
      obtain ⟨X3, M3, d1, d2, d3, d4, d5⟩ := both_wrong hC b5 (f := 5) (by decide) (by decide)
      have d1 : fX3_refuse n X2 5 = _ := d1
      have d2 : fX11_wrong n M2 5 = _ := d2
      obtain ⟨M', m1, m2, m3⟩ := gdT_ft (g := N 9) (r := -1) c1 d5 hc
      rw [if_pos rfl, d1, bd_go, gd_pos (Or.inl rfl), bd_go, if_pos rfl, if_neg (show ¬ (0 : Int32) ≤ -1 by decide), d2, bd_go]
      unfold fX11_readGood_j57
      rw [if_neg (Ft_0 d5).1]
      have m1 : bd (fX11_readGood_j68 n M3 (nI (N 9)) (-1)) (fun S _ => fX11_readLine_j220 n S) = _ := m1
      rw [m1]
      exact ⟨X3, M', 0, rfl, Or.inl rfl, rfl, GX_tr gx2 (kT1_G d3), GM_tr gm2 (GM_tr (kU1_G d4) m2), Or.inr m3⟩
    · have hk : k < N 6 := hk
      have n4 : N 6 ≤ 4 := (hP2.2.2.2.1 1 (by decide)).2.2.2
      obtain ⟨X3, M3, d1, d2, d3, d4, d5⟩ := take_t hC (hSx (nI k)) (w := 4) z (by decide)
      have d1 : fX3_take n (sI X2 (s + 48) (N 9) (nI k)) 4 = _ := d1
      have hP3 : PB s N H X3 M3 := PB_A (PB_A hP2 c2 (hax (nI k)) AM_rf) c2 (kT1_A d3 c2) (kU1_A d4)
      obtain ⟨l, x, y, w1, w2, w3, w4, w5⟩ := a6
      obtain ⟨X', M', r', g1, g2, g3, g4, g5, g6⟩ := good_rest hC d5 hP3 hc hk (by rw [d3.1 _ (by omega), sI_row, upd_eq]) ⟨l, x, y, w1, w2, by rw [d3.2.2.1 _ (by omega)]; show X2.2.1 _ _ = _; rw [b3.2.2.1 _ (by omega)]; exact w3, by rw [d4.2.2 _ (by decide), b4.2.2 _ (by decide)]; exact w4, fun k hk => by rw [d4.2.2 _ (by decide), b4.2.2 _ (by decide)]; exact w5 k hk⟩
      rw [if_neg (nI_m1 (by omega)), h34 (nI k) 1 X3 d1 (Or.inr rfl), bd_go, if_neg one_ne, g1, if_pos (show (0 : Int32) ≤ nI k from nI_le (a := 0) (by omega) (by omega))]
      unfold fX11_readGood_j57
      rw [f2, if_pos rfl, d2, bd_go]
      have g3 : bd (fX11_readGood_j68 n M3 (nI (N 9)) (nI k)) (fun S _ => fX11_readLine_j220 n S) = _ := g3
      rw [g3]
      refine ⟨X', M', r', rfl, g2, rfl, GX_tr gx2 (GX_tr (AX_G (hax (nI k))) (GX_tr (kT1_G d3) g4)), GM_tr gm2 (GM_tr (kU1_G d4) g5), ?_⟩
      rcases g6 with ⟨i'', N', H', z1, z2⟩ | z
      · exact Or.inl ⟨i'', N', H', by omega, z2⟩
      · exact Or.inr z
  · -- no name
    obtain ⟨e1, -, e3, e4⟩ := hP2.2.2.2.1 1 (by decide)
    obtain ⟨r, r1, -⟩ := findX_loop (n := n) (v := X2.2.1 151 4) c2 (show 1 < 5 by decide) e1 e4 (N (5 + 1)) 0 n (by omega) (by have := sh_b (show 1 < 5 by decide); omega) (fun k' h1 => by omega)
    obtain ⟨r', r3, -⟩ := findM_loop (n := n) (show 1 < 5 by decide) e3 (by have := sh_b (show 1 < 5 by decide); omega) (N (5 + 1)) 0 n (-1) (by omega) (by have := sh_b (show 1 < 5 by decide); omega) (Or.inl ⟨rfl, fun k' h1 => by omega⟩)
    have r1 : fX5_find sdX n X2 (s + shA 1) (X2.2.1 151 4) = some (X2, r) := r1
    have r3 : fX11_find n M2 1 = some (M2, r') := r3
    obtain ⟨X3, M3, d1, d2, d3, d4, d5⟩ := both_wrong hC (hSx r) (f := 2) (by decide) (by decide)
    have d2 : fX11_wrong n M2 2 = _ := d2
    have d6 : fX3_take n (sI X2 (s + 48) (N 9) r) 4 = some (X3, 0) := take_f (w := 4) hC (hSx r) z (by decide) d1
    obtain ⟨M', m1, m2, m3⟩ := gdT_ft (g := N 9) (r := r') c1 d5 hc
    unfold fX3_takeGround
    rw [hr b5, gd_pos kk, k9g, gd_pos k1g, r1, bd_go, x3, if_neg (show ¬ nI (K (i + 2 + 1)) = 4 from fun w => z ((nI_eq (b := 4) (by omega) (by decide)).mp w)), h34 r 0 X3 d6 (Or.inl rfl), bd_go, if_pos rfl, r3, bd_go, isName_spec hC b5, bd_go, if_neg z, if_pos rfl, d2, bd_go]
    unfold fX11_readGood_j57
    rw [if_neg (Ft_0 d5).1]
    have m1 : bd (fX11_readGood_j68 n M3 (nI (N 9)) r') (fun S _ => fX11_readLine_j220 n S) = _ := m1
    rw [m1]
    exact ⟨X3, M', 0, rfl, Or.inl rfl, rfl, GX_tr gx2 (GX_tr (AX_G (hax r)) (kT1_G d3)), GM_tr gm2 (GM_tr (kU1_G d4) m2), Or.inr m3⟩
end
