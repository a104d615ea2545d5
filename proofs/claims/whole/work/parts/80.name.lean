section
variable {n s c t : Nat} {K P Q R V A : Nat → Nat} {X0 M0 X M : St} {i q : Nat} {N H : Nat → Nat}
theorem findX_loop {v : Int64} {m : Nat} (hs : s = 3 ∨ s = 77) (hq : q < 5) (h3 : X.1 (s + shA q) 3 = nI m) (hm : m ≤ lmA q) : ∀ (w k j : Nat), k + w = m → w < j → (∀ k', k' < k → X.2.1 (s + shA q + 1) k' ≠ v) → ∃ r, fX5_find_l2 sdX n j X (s + shA q) v (nI k) = some (X, r) ∧ ((r = -1 ∧ ∀ k', k' < m → X.2.1 (s + shA q + 1) k' ≠ v) ∨ ∃ k', k' < m ∧ r = nI k' ∧ X.2.1 (s + shA q + 1) k' = v) := by
  obtain ⟨k1, k2, k3, k4, -⟩ := shf hs hq
  have hb := sh_b hq
  intro w
  induction w with
  | zero =>
    intro k j h hj hno
    obtain ⟨j, rfl⟩ := suc_of hj
    rw [fX5_find_l2, gd_pos k1, h3, if_pos (nI_le (by omega) (by omega))]
    exact ⟨-1, rfl, Or.inl ⟨rfl, fun k' h1 => hno k' (by omega)⟩⟩
  | succ w ih =>
    intro k j h hj hno
    obtain ⟨j, rfl⟩ := suc_of hj
    rw [fX5_find_l2, gd_pos k1, h3, if_neg (nI_ge (by omega) (by omega))]
    simp only [sd_sr, sd_ln, k2, k4, cl_nI (show k < 2 ^ 31 by omega)]
    rw [gd_pos k3, gd_pos (ib_nI (by omega) (by omega))]
    by_cases e : X.2.1 (s + shA q + 1) k = v
    · rw [if_pos (lg_eq.mpr e)]
      exact ⟨_, rfl, Or.inr ⟨k, by omega, rfl, e⟩⟩
    · rw [if_neg (fun z => e (lg_eq.mp z)), bn_go, nI_1]
      exact ih (k + 1) j (by omega) (by omega) (fun k' h1 => by
        by_cases z : k' = k
        · rw [z]; exact e
        · exact hno k' (by omega))
theorem ix10 {a k : Nat} : (10 : Int32) * nI a + nI k = nI (10 * a + k) := by rw [show (10 : Int32) = nI 10 from rfl, pk_mul, nI_add]
theorem findM_loop {m : Nat} (hq : q < 5) (h3 : M.1 3 q = nI m) (hm : m ≤ 8) : ∀ (w k j : Nat) (x2 : Int32), k + w = m → w < j → ((x2 = -1 ∧ ∀ k', k' < k → M.2.1 2 (10 * q + k') ≠ M.2.1 0 9) ∨ ∃ k', k' < k ∧ x2 = nI k' ∧ M.2.1 2 (10 * q + k') = M.2.1 0 9) → ∃ r, fX11_find_l4 n j M (nI q) x2 (nI k) = some (M, r) ∧ ((r = -1 ∧ ∀ k', k' < m → M.2.1 2 (10 * q + k') ≠ M.2.1 0 9) ∨ ∃ k', k' < m ∧ r = nI k' ∧ M.2.1 2 (10 * q + k') = M.2.1 0 9) := by
  intro w
  induction w with
  | zero =>
    intro k j x2 h hj hx
    obtain ⟨j, rfl⟩ := suc_of hj
    rw [fX11_find_l4, gd_pos (ib_nI hq (by decide)), cl_nI (by omega), h3, if_pos (nI_le (by omega) (by omega))]
    have e : k = m := by omega
    subst e
    exact ⟨x2, rfl, hx⟩
  | succ w ih =>
    intro k j x2 h hj hx
    obtain ⟨j, rfl⟩ := suc_of hj
    rw [fX11_find_l4, gd_pos (ib_nI hq (by decide)), cl_nI (by omega), h3, if_neg (nI_ge (by omega) (by omega)), ix10, gd_pos (ib_nI (by omega) (by decide)), cl_nI (by omega)]
    unfold fX11_find_j38
    rw [bn_go, bn_go, nI_1]
    by_cases e : M.2.1 2 (10 * q + k) = M.2.1 0 9
    · rw [if_pos (lg_eq.mpr e)]
      exact ih (k + 1) j _ (by omega) (by omega) (Or.inr ⟨k, by omega, rfl, e⟩)
    · rw [if_neg (fun z => e (lg_eq.mp z))]
      refine ih (k + 1) j _ (by omega) (by omega) ?_
      rcases hx with ⟨z1, z2⟩ | ⟨k', z1, z2, z3⟩
      · refine Or.inl ⟨z1, fun k' h1 => ?_⟩
        by_cases z : k' = k
        · rw [z]; exact e
        · exact z2 k' (by omega)
      · exact Or.inr ⟨k', by omega, z2, z3⟩
/-- a name that is told already: the same on both sides -/
theorem both_find (hC : TC n s c t K P Q R V A X0 M0) (h : Sy s c K P Q R V A X0 M0 i X M) (hP : PB s N H X M) (hq : q < 5) (h4 : K i = 4) : ∃ r, fX5_find sdX n X (s + shA q) (X.2.1 151 4) = some (X, r) ∧ fX11_find n M (nI q) = some (M, r) ∧ ((r = -1 ∧ ∀ k, k < N (5 + q) → M.2.1 2 (10 * q + k) ≠ M.2.1 0 9) ∨ ∃ k, k < N (5 + q) ∧ r = nI k) := by
  obtain ⟨⟨c1, c2, c3⟩, -, -, -, c9, -⟩ := id hC
  obtain ⟨x1, x2, x3, x4⟩ := hP.2.2.2.1 q hq
  have hb := sh_b hq
  obtain ⟨-, k, k8, hw⟩ := (c9 i h.1.2.2).2.2.1 (by omega)
  have ev := h.2.1.2.2.2 (by omega)
  have ew := h.2.2.1.2.2.2.1 (by omega)
  obtain ⟨r, r1, r2⟩ := findX_loop (n := n) (v := X.2.1 151 4) c2 hq x1 x4 (N (5 + q)) 0 n (by omega) (by omega) (fun k' h1 => by omega)
  obtain ⟨r', r3, r4⟩ := findM_loop (n := n) hq x3 (by omega) (N (5 + q)) 0 n (-1) (by omega) (by omega) (Or.inl ⟨rfl, fun k' h1 => by omega⟩)
  obtain ⟨n1, n2⟩ := hP.2.2.2.2.2.2.2.1 q hq
  have key : ∀ k', k' < N (5 + q) → (X.2.1 (s + shA q + 1) k' = X.2.1 151 4 ↔ M.2.1 2 (10 * q + k') = M.2.1 0 9) := fun k' hk' => by
    obtain ⟨l, x, y, l8, w, e1, e2⟩ := n1 k' hk'
    rw [e1, e2, ev, ew]
    rw [pk_lEQ (WR_8 w l8).2 (WR_8 hw k8).2, pk_lEQ (WR_8 w l8).1 (WR_8 hw k8).1]
    exact ⟨fun z => WR_y w hw z, fun z => WR_x w hw z⟩
  have r3 : fX11_find n M (nI q) = some (M, r') := r3
  have er : r = r' := by
    rcases r2 with ⟨z1, z2⟩ | ⟨k1, z1, z2, z3⟩
    · rcases r4 with ⟨w1, w2⟩ | ⟨k2, w1, w2, w3⟩
      · rw [z1, w1]
      · exact absurd ((key k2 w1).mpr w3) (z2 k2 w1)
    · rcases r4 with ⟨w1, w2⟩ | ⟨k2, w1, w2, w3⟩
      · exact absurd ((key k1 z1).mp z3) (w2 k1 z1)
      · rw [z2, w2, n2 k1 k2 z1 w1 (((key k1 z1).mp z3).trans w3.symm)]
  refine ⟨r, r1, by rw [er]; exact r3, ?_⟩
  rw [er]
  rcases r4 with z | ⟨k', z1, z2, -⟩
  · exact Or.inl z
  · exact Or.inr ⟨k', z1, z2⟩
theorem Sy_X {X' : St} (h : Sy s c K P Q R V A X0 M0 i X M) (g : GX s X X') (h1 : ∀ k, k ≠ 5 → X'.1 151 k = X.1 151 k) (h2 : X'.2.1 151 = X.2.1 151) : Sy s c K P Q R V A X0 M0 i X' M := by
  obtain ⟨⟨g1, g2, g3⟩, ⟨y1, y2, y3, y4⟩, rr, y5, y6, y7⟩ := h
  refine ⟨⟨GX_tr g1 g, g2, g3⟩, ⟨?_, ?_, ?_, ?_⟩, rr, ?_, y6, ?_⟩
  · rw [h1 2 (by decide)]; exact y1
  · rw [h1 3 (by decide)]; exact y2
  · rw [h2]; exact y3
  · rw [h2]; exact y4
  · rw [h1 7 (by decide)]; exact y5
  · rw [h1 8 (by decide)]; exact y7
theorem Sy_M {M' : St} (h : Sy s c K P Q R V A X0 M0 i X M) (g : GM M M') (h1 : ∀ k, (2 ≤ k ∧ k ≤ 8) → M'.1 0 k = M.1 0 k) (h2 : M'.2.1 0 = M.2.1 0) : Sy s c K P Q R V A X0 M0 i X M' := by
  obtain ⟨⟨g1, g2, g3⟩, y, ⟨r1, r2, r3, r4, r5⟩, y5, y6, y7⟩ := h
  refine ⟨⟨g1, GM_tr g2 g, g3⟩, y, ⟨?_, ?_, ?_, ?_, ?_⟩, y5, ?_, ?_⟩
  · rw [h1 6 (by decide)]; exact r1
  · rw [h1 7 (by decide)]; exact r2
  · rw [h1 8 (by decide)]; exact r3
  · rw [h2]; exact r4
  · rw [h1 4 (by decide)]; exact r5
  · rw [h1 2 (by decide)]; exact y6
  · rw [h1 3 (by decide)]; exact y7
theorem both_name (hC : TC n s c t K P Q R V A X0 M0) (h : Sy s c K P Q R V A X0 M0 i X M) (hP : PB s N H X M) (hK : 2 ≤ K i) (hq : q < 5) (hc : N (5 + q) < lmA q) : ∃ X' M' r, fX3_openThing n X (s + shA q) = some (X', r) ∧ fX11_readName n M (nI q) = some (M', ()) ∧ AX s N X X' ∧ AM N M M' ∧ ((r = 1 ∧ Sy s c K P Q R V A X0 M0 (i + 2) X' M' ∧ ∃ l x y, l ≤ 8 ∧ WR l x y ∧ X'.2.1 (s + shA q + 1) (N (5 + q)) = lN y ∧ M'.2.1 2 (10 * q + N (5 + q)) = lN x ∧ ∀ k, k < N (5 + q) → M'.2.1 2 (10 * q + k) ≠ lN x) ∨ (r = 0 ∧ Ft X' M')) := by
  obtain ⟨⟨c1, c2, c3⟩, -, -, -, c9, -⟩ := id hC
  obtain ⟨e1, e2, e3, e4⟩ := hP.2.2.2.1 q hq
  obtain ⟨k1, k2, k3, k4, -⟩ := shf c2 hq
  have hb := sh_b hq
  have hs' : s + 50 < 151 := by rcases c2 with z | z <;> omega
  obtain ⟨X1, M1, a1, a2, a3, a4, a5, -⟩ := both_step hC h hK
  have hP1 : PB s N H X1 M1 := PB_A hP c2 (kT1_A a3 c2) (kU1_A a4)
  obtain ⟨e1', -, e3', -⟩ := hP1.2.2.2.1 q hq
  have f2 := a5.2.2.2.2.1
  have k18 := (c9 (i + 1) a5.1.2.2).1
  have hfull : fX5_isFull sdX n X (s + shA q) = some (X, 0) := by
    unfold fX5_isFull
    rw [gd_pos k1, e1, e2, if_pos (nI_lt hc (by omega))]
  -- the class's name comes in
  have hin : ∀ v : Int64, AX s N X1 (sL X1 (s + shA q + 1) (N (5 + q)) v) := fun v => by
    refine ⟨fun _ _ _ _ _ _ => rfl, fun _ _ => ⟨rfl, rfl⟩, fun _ _ => rfl, rfl, fun a _ z => sL_ne (z q hq), fun q' hq' k hk => ?_, rfl⟩
    by_cases e : q' = q
    · subst e
      rw [sL_row, pk_uLn hk]
    · have := sh_d hq' hq e
      have := sh_b hq'
      rw [sL_ne (by omega)]
  have hSin : ∀ v : Int64, Sy s c K P Q R V A X0 M0 (i + 1) (sL X1 (s + shA q + 1) (N (5 + q)) v) M1 := fun v => Sy_X a5 (AX_G (hin v)) (fun _ _ => rfl) (sL_ne (by omega))
  have h49 : ∀ Z : St, ∀ r : Int32, fX3_take n (sL X1 (s + shA q + 1) (N (5 + q)) (X1.2.1 151 4)) 4 = some (Z, r) → (r = 0 ∨ r = 1) → fX3_openThing_j49 n X1 (s + shA q) = some (Z, r) := fun Z r hz hr => by
    unfold fX3_openThing_j49
    rw [gd_pos k1, k2, gd_pos k3, sd_ln, k4, e1', gd_pos (ib_nI hc (by omega)), bn_go, cl_nI (by omega), hz, bd_go, gd_pos hr]
  unfold fX3_openThing fX11_readName
  rw [gd_pos k1, hfull, bd_go, if_pos rfl, h.2.1.1, a1, bd_go, a5.2.1.2.1, a2, bd_go, isName_spec hC a5, bd_go]
  by_cases z : K (i + 1) = 4
  · obtain ⟨r, r1, r2, r3⟩ := both_find hC a5 hP1 hq z
    obtain ⟨-, k, k8, hw⟩ := (c9 (i + 1) a5.1.2.2).2.2.1 (by omega)
    rw [if_pos (show nI (K (i + 1)) = 4 by rw [z]; rfl), r1, bd_go, if_pos z, if_neg one_ne, r2, bd_go]
    rcases r3 with ⟨rfl, r4⟩ | ⟨k', r4, rfl⟩
    · rw [if_pos rfl, if_pos (show (-1 : Int32) < 0 by decide)]
      -- a new name
      have ev := a5.2.1.2.2.2 (by omega)
      have ew := a5.2.2.1.2.2.2.1 (by omega)
      have hmM : AM N M1 (sL M1 2 (10 * q + N (5 + q)) (M1.2.1 0 9)) := by
        refine ⟨fun _ _ _ => rfl, fun _ _ _ _ _ _ _ => rfl, fun _ _ _ _ => rfl, fun _ _ => ⟨rfl, rfl⟩, fun _ _ => rfl, fun _ _ => rfl, fun q' hq' k hk => ?_⟩
        have := sh_b hq'
        have := (hP.2.2.2.1 q' hq').2.2.2
        rw [sL_row, pk_uLn (fun z => ?_)]
        by_cases e : q' = q
        · subst e; omega
        · omega
      have hS2 : Sy s c K P Q R V A X0 M0 (i + 1) (sL X1 (s + shA q + 1) (N (5 + q)) (X1.2.1 151 4)) (sL M1 2 (10 * q + N (5 + q)) (M1.2.1 0 9)) := Sy_M (hSin _) (AM_G hmM) (fun _ _ => rfl) (sL_ne (by decide))
      obtain ⟨X', M', b1, b2, b3, b4, b5⟩ := take_t hC hS2 (w := 4) z (by decide)
      have b1 : fX3_take n (sL X1 (s + shA q + 1) (N (5 + q)) (X1.2.1 151 4)) 4 = _ := b1
      rw [h49 X' 1 b1 (Or.inr rfl)]
      unfold fX11_readName_j32
      rw [f2, if_pos (show (0 : Int32) ≤ 0 by decide), gd_pos (ib_nI hq (by decide))]
      simp only [cl_nI (show q < 2 ^ 31 by omega), e3', ix10]
      rw [gd_pos (ib_nI (by omega) (by decide)), bn_go, cl_nI (by omega), b2, bd_go]
      refine ⟨X', M', 1, rfl, rfl, AX_tr (kT1_A a3 c2) (AX_tr (hin _) (kT1_A b3 c2)), AM_tr (kU1_A a4) (AM_tr hmM (kU1_A b4)), Or.inl ⟨rfl, b5, k, Q (i + 1), R (i + 1), k8, hw, ?_, ?_, fun k' hk' => ?_⟩⟩
      · rw [b3.2.2.1 _ (by omega), sL_row, pk_uLs]; exact ev
      · rw [b4.2.2 2 (by decide), sL_row, pk_uLs]; exact ew
      · rw [b4.2.2 2 (by decide), sL_row, pk_uLn (by omega), ← ew]
        exact r4 k' hk'
    · -- told already
      have := (hP1.2.2.2.1 q hq).2.2.2
      obtain ⟨X', M', b1, b2, b3, b4, b5⟩ := both_wrong hC a5 (f := 3) (by decide) (by decide)
      have b1 : fX3_refuse n X1 3 = _ := b1
      have b2 : fX11_wrong n M1 3 = _ := b2
      rw [if_neg (nI_m1 (by omega)), b1, bd_go, gd_pos (Or.inl rfl), if_neg (nI_pos (by omega)), b2, bd_go]
      unfold fX11_readName_j32
      rw [if_neg (Ft_0 b5).2]
      exact ⟨X', M', 0, rfl, rfl, kT1_A (kT1_tr a3 b3) c2, kU1_A (kU1_tr a4 b4), Or.inr ⟨rfl, b5⟩⟩
  · obtain ⟨X', M', b1, b2, b3, b4, b5⟩ := both_wrong hC (hSin (X1.2.1 151 4)) (f := 2) (by decide) (by decide)
    have b2 : fX11_wrong n M1 2 = _ := b2
    have b6 : fX3_take n (sL X1 (s + shA q + 1) (N (5 + q)) (X1.2.1 151 4)) 4 = some (X', 0) := take_f (w := 4) hC (hSin _) z (by decide) b1
    rw [if_neg (show ¬ nI (K (i + 1)) = 4 from fun w => z ((nI_eq (b := 4) (by omega) (by decide)).mp w)), h49 X' 0 b6 (Or.inl rfl), if_neg z, if_pos rfl, b2, bd_go]
    unfold fX11_readName_j32
    rw [if_neg (Ft_0 b5).2]
    exact ⟨X', M', 0, rfl, rfl, AX_tr (kT1_A a3 c2) (AX_tr (hin _) (kT1_A b3 c2)), kU1_A (kU1_tr a4 b4), Or.inr ⟨rfl, b5⟩⟩
/-- what reading a row of bands changes -/
def kRx (s q m : Nat) (X X' : St) : Prop := (∀ a, a ≠ 151 → a ≠ s + shA q + 3 + m → X'.1 a = X.1 a) ∧ X'.1 151 5 = X.1 151 5 ∧ (∀ a, a ≠ 151 → X'.2.1 a = X.2.1 a) ∧ X'.2.2 = X.2.2
def kRm (q m : Nat) (M M' : St) : Prop := (∀ a, a ≠ 0 → a ≠ 5 + q → M'.1 a = M.1 a) ∧ (∀ k, k ≠ 2 → k ≠ 3 → k ≠ 4 → k ≠ 6 → k ≠ 7 → k ≠ 8 → M'.1 0 k = M.1 0 k) ∧ (∀ i, i < 16 * m → M'.1 (5 + q) i = M.1 (5 + q) i) ∧ (∀ a, a ≠ 0 → M'.2.1 a = M.2.1 a)
theorem kRx_tr {s q m : Nat} {X X' X'' : St} (h : kRx s q m X X') (g : kRx s q m X' X'') : kRx s q m X X'' := ⟨fun a p r => (g.1 a p r).trans (h.1 a p r), g.2.1.trans h.2.1, fun a p => (g.2.2.1 a p).trans (h.2.2.1 a p), g.2.2.2.trans h.2.2.2⟩
theorem kRm_tr {q m : Nat} {M M' M'' : St} (h : kRm q m M M') (g : kRm q m M' M'') : kRm q m M M'' := ⟨fun a p r => (g.1 a p r).trans (h.1 a p r), fun k a b c d e f => (g.2.1 k a b c d e f).trans (h.2.1 k a b c d e f), fun i hi => (g.2.2.1 i hi).trans (h.2.2.1 i hi), fun a p => (g.2.2.2 a p).trans (h.2.2.2 a p)⟩
theorem kT1_R {s q m : Nat} {X X' : St} (h : kT1 X X') : kRx s q m X X' := ⟨fun a p _ => h.1 a p, h.2.1 5 (by decide) (by decide) (by decide) (by decide) (by decide), h.2.2.1, h.2.2.2⟩
theorem kU1_R {q m : Nat} {M M' : St} (h : kU1 M M') : kRm q m M M' := ⟨fun a p _ => h.1 a p, h.2.1, fun i _ => by rw [h.1 _ (by omega)], h.2.2⟩
theorem kRx_A {X' : St} (hs : s = 3 ∨ s = 77) (hq : q < 5) (hc : N (5 + q) < lmA q) (h : kRx s q (N (5 + q)) X X') : AX s N X X' := by
  have hb := sh_b hq
  have hs' : s + 50 < 151 := by rcases hs with z | z <;> omega
  refine ⟨fun a a1 _ _ _ a5 => h.1 a a1 (a5 q hq hc), fun k _ => by rw [h.1 _ (by omega) (by omega), h.1 _ (by omega) (by omega)]; exact ⟨rfl, rfl⟩, fun k _ => by rw [h.1 _ (by omega) (by omega)], h.2.1, fun a a1 _ => h.2.2.1 a a1, fun q' hq' k _ => ?_, h.2.2.2⟩
  have := sh_b hq'
  rw [h.2.2.1 _ (by omega)]
theorem kRm_A {M' : St} (hq : q < 4) (h : kRm q (N (5 + q)) M M') : AM N M M' := by
  refine ⟨fun a a1 a2 => h.1 a a1 (by omega), h.2.1, fun q' hq' i hi => ?_, fun k _ => by rw [h.1 _ (by decide) (by omega), h.1 _ (by decide) (by omega)]; exact ⟨rfl, rfl⟩, fun k _ => by rw [h.1 _ (by decide) (by omega)], fun i _ => by rw [h.1 _ (by decide) (by omega)], fun q' _ k _ => by rw [h.2.2.2 _ (by decide)]⟩
  by_cases e : q' = q
  · subst e; exact h.2.2.1 i hi
  · rw [h.1 _ (by omega) (by omega)]
theorem row_loop (hC : TC n s c t K P Q R V A X0 M0) (hq : q < 4) (hc : N (5 + q) < lmA q) : ∀ (w k j j' i : Nat) (X M : St), k + w = N 0 → w < j → w < j' → Sy s c K P Q R V A X0 M0 i X M → PB s N H X M → (∀ b, b < k → X.1 (s + shA q + 3 + N (5 + q)) b = M.1 (5 + q) (16 * N (5 + q) + b) ∧ sm (M.1 (5 + q) (16 * N (5 + q) + b)) (bdA q)) → ∃ X' M', fX11_readBands_l10 n j' M (5 + q) (nI (16 * N (5 + q))) (nI (bdA q)) (nI k) = some (M', ()) ∧ kRx s q (N (5 + q)) X X' ∧ kRm q (N (5 + q)) M M' ∧ ((∃ i', i ≤ i' ∧ fX3_takeRow_l13 n j X (s + shA q) (nI (bdA q)) (nI k) = fX3_takeRow_j56 n X' (s + shA q) ∧ Sy s c K P Q R V A X0 M0 i' X' M' ∧ ∀ b, b < N 0 → X'.1 (s + shA q + 3 + N (5 + q)) b = M'.1 (5 + q) (16 * N (5 + q) + b) ∧ sm (M'.1 (5 + q) (16 * N (5 + q) + b)) (bdA q)) ∨ (fX3_takeRow_l13 n j X (s + shA q) (nI (bdA q)) (nI k) = some (X', 0) ∧ Ft X' M')) := by
  obtain ⟨⟨c1, c2, c3⟩, -, -, -, c9, -⟩ := id hC
  obtain ⟨k1, k2, k3, k4, k5, k6, k7, k8, -⟩ := shf c2 (show q < 5 by omega)
  obtain ⟨d1, d2, d3, -⟩ := k8 _ hc
  have d3 := d3 hq
  obtain ⟨m1, m2⟩ := shM hq
  have hb := sh_b (show q < 5 by omega)
  have hbd : bdA q ≤ 99 := by unfold bdA; split <;> omega
  have hs' : s + 50 < 151 := by rcases c2 with z | z <;> omega
  obtain ⟨kk, -⟩ := bk c2
  intro w
  induction w with
  | zero =>
    intro k j j' i X M h hj hj' hS hP hrow
    obtain ⟨j, rfl⟩ := suc_of hj
    obtain ⟨j', rfl⟩ := suc_of hj'
    have h16 := hP.2.2.1.1.2
    have hr : X.2.2 151 1 = s := by rw [hS.1.1.2.2.1]; exact c3
    have e : k = N 0 := by omega
    subst e
    rw [fX11_readBands_l10, hP.2.1.1, if_pos (nI_le (by omega) (by omega)), fX3_takeRow_l13, hr, gd_pos kk, hP.1.1, if_pos (nI_le (by omega) (by omega))]
    exact ⟨X, M, rfl, kT1_R kT1_rf, kU1_R kU1_rf, Or.inl ⟨i, Nat.le_refl _, rfl, hS, hrow⟩⟩
  | succ w ih =>
    intro k j j' i X M h hj hj' hS hP hrow
    obtain ⟨j, rfl⟩ := suc_of hj
    obtain ⟨j', rfl⟩ := suc_of hj'
    have h16 := hP.2.2.1.1.2
    have hr : X.2.2 151 1 = s := by rw [hS.1.1.2.2.1]; exact c3
    obtain ⟨X1, M1, r, v, a1, a2, a3, a4, a5⟩ := both_num (lo := 0) (hi := bdA q) hC hS (by decide) (by omega)
    have a1 : fX3_takeNumber n X 0 (nI (bdA q)) = _ := a1
    have a2 : fX11_toldNumber n M 0 (nI (bdA q)) = _ := a2
    have hP1 : PB s N H X1 M1 := PB_A hP c2 (kT1_A a3 c2) (kU1_A a4)
    rw [fX11_readBands_l10, hP.2.1.1, if_neg (nI_ge (by omega) (by omega)), hS.2.2.2.2.1, if_pos rfl, a2, bd_go, gd_pos m1, m2, nI_add, gd_pos (ib_nI (by omega) (by omega)), bn_go, bn_go, nI_1, cl_nI (by omega)]
    rw [fX3_takeRow_l13, hr, gd_pos kk, hP.1.1, if_neg (nI_ge (by omega) (by omega)), a1, bd_go]
    rcases a5 with ⟨rfl, v1, v2, rfl, v4, v5⟩ | ⟨rfl, v1⟩
    · have kx : kRx s q (N (5 + q)) X1 (sI X1 (s + shA q + 3 + N (5 + q)) k (nI (V i))) := ⟨fun a _ z => sI_ne z, by rw [sI_ne (by omega)], fun _ _ => rfl, rfl⟩
      have km : kRm q (N (5 + q)) M1 (sI M1 (5 + q) (16 * N (5 + q) + k) (nI (V i))) := ⟨fun a _ z => sI_ne z, fun k' _ _ _ _ _ _ => by rw [sI_ne (by omega)], fun i' hi' => by rw [sI_row, upd_ne (by omega)], fun _ _ => rfl⟩
      have hS2 : Sy s c K P Q R V A X0 M0 (i + 1) (sI X1 (s + shA q + 3 + N (5 + q)) k (nI (V i))) (sI M1 (5 + q) (16 * N (5 + q) + k) (nI (V i))) := Sy_M (Sy_X v5 (AX_G (kRx_A c2 (show q < 5 by omega) hc kx)) (fun k' _ => by rw [sI_ne (by omega)]) rfl) (AM_G (kRm_A hq km)) (fun k' _ => by rw [sI_ne (by omega)]) rfl
      have hP2 : PB s N H (sI X1 (s + shA q + 3 + N (5 + q)) k (nI (V i))) (sI M1 (5 + q) (16 * N (5 + q) + k) (nI (V i))) := PB_A hP1 c2 (kRx_A c2 (show q < 5 by omega) hc kx) (kRm_A hq km)
      obtain ⟨X', M', f1, f2, f3, f4⟩ := ih (k + 1) j j' (i + 1) _ _ (by omega) (by omega) (by omega) hS2 hP2 (fun b hb' => by
        rw [sI_row, sI_row]
        by_cases e : b = k
        · rw [e, upd_eq, upd_eq]
          exact ⟨rfl, V i, v2, rfl⟩
        · rw [upd_ne e, upd_ne (by omega), a3.1 _ (by omega), a4.1 _ (by omega)]
          exact hrow b (by omega))
      have e9 : X1.1 (s + shA q) 3 = nI (N (5 + q)) := (hP1.2.2.2.1 q (by omega)).1
      rw [if_neg one_ne, gd_pos k1, k5, gd_pos k6]
      simp only [e9, sd_ln, k7, cl_nI (show N (5 + q) < 2 ^ 31 by omega), d1, d3, cl_nI (show k < 2 ^ 31 by omega), v4]
      rw [gd_pos (ib_nI hc (by omega)), gd_pos d2, gd_pos (ib_nI (by omega) (by decide)), bn_go, bn_go, nI_1]
      refine ⟨X', M', f1, kRx_tr (kT1_R a3) (kRx_tr kx f2), kRm_tr (kU1_R a4) (kRm_tr km f3), ?_⟩
      rcases f4 with ⟨i', g0, g1, g2, g3⟩ | ⟨g1, g2⟩
      · exact Or.inl ⟨i', by omega, g1, g2, g3⟩
      · exact Or.inr ⟨g1, g2⟩
    · have km : kRm q (N (5 + q)) M1 (sI M1 (5 + q) (16 * N (5 + q) + k) v) := ⟨fun a _ z => sI_ne z, fun k' _ _ _ _ _ _ => by rw [sI_ne (by omega)], fun i' hi' => by rw [sI_row, upd_ne (by omega)], fun _ _ => rfl⟩
      have hF : Ft X1 (sI M1 (5 + q) (16 * N (5 + q) + k) v) := Ft_fr v1 rfl (by rw [sI_ne (by omega)]) (by rw [sI_ne (by omega)])
      rw [if_pos rfl]
      refine ⟨X1, _, ?_, kT1_R a3, kRm_tr (kU1_R a4) km, Or.inr ⟨rfl, hF⟩⟩
      obtain ⟨j', rfl⟩ := suc_of (show 0 < j' by omega)
      rw [fX11_readBands_l10, if_neg (Ft_0 hF).1]
      split <;> rfl
end
