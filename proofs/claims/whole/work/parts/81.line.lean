/-- one more of a sort -/
def up1 (N : Nat → Nat) (k : Nat) : Nat → Nat := fun j => if j = k then N k + 1 else N j
theorem up1_eq {N : Nat → Nat} {k : Nat} : up1 N k k = N k + 1 := if_pos rfl
theorem up1_ne {N : Nat → Nat} {k j : Nat} (h : j ≠ k) : up1 N k j = N j := if_neg h
section
variable {s q : Nat} {N H : Nat → Nat} {X M : St}
theorem PB_row (hP : PB s N H X M) (hs : s = 3 ∨ s = 77) (hq : q < 4) (hc : N (5 + q) < lmA q) (hrow : ∀ b, b < N 0 → X.1 (s + shA q + 3 + N (5 + q)) b = M.1 (5 + q) (16 * N (5 + q) + b) ∧ sm (M.1 (5 + q) (16 * N (5 + q) + b)) (bdA q)) (hnm : ∃ l x y, l ≤ 8 ∧ WR l x y ∧ X.2.1 (s + shA q + 1) (N (5 + q)) = lN y ∧ M.2.1 2 (10 * q + N (5 + q)) = lN x ∧ ∀ k, k < N (5 + q) → M.2.1 2 (10 * q + k) ≠ lN x) (h0 : q = 0 → N 9 = 0 ∧ X.1 (s + 46) (N 5) = M.1 9 (N 5) ∧ sm (M.1 9 (N 5)) 99 ∧ X.1 (s + 47) (N 5) = M.1 10 (N 5) ∧ sm (M.1 10 (N 5)) 99) : PB s (up1 N (5 + q)) H (sI X (s + shA q) 3 (nI (N (5 + q) + 1))) (sI M 3 q (nI (N (5 + q) + 1))) := by
  obtain ⟨⟨a1, a2, a3, a4, a5⟩, ⟨b1, b2, b3, b4⟩, hb, h3, h4, h5, h6, h7, h8, h9, h10⟩ := hP
  have hbq := sh_b (show q < 5 by omega)
  have hs' : s + 50 < 151 := by rcases hs with z | z <;> omega
  have u : ∀ k, k < 5 → up1 N (5 + q) k = N k := fun k hk => up1_ne (by omega)
  have xs : ∀ k, (sI X (s + shA q) 3 (nI (N (5 + q) + 1))).1 s k = X.1 s k := fun k => by rw [sI_ne (by omega)]
  have m0 : ∀ k, (sI M 3 q (nI (N (5 + q) + 1))).1 0 k = M.1 0 k := fun k => by rw [sI_ne (by decide)]
  refine ⟨⟨?_, ?_, ?_, ?_, ?_⟩, ⟨?_, ?_, ?_, ?_⟩, ?_, fun q' hq' => ?_, fun q' hq' d hd j hj => ?_, fun d hd => ?_, fun g hg => ?_, fun q' hq' => ?_, ?_, fun k hk => ?_, ?_⟩
  · rw [xs, u 0 (by decide)]; exact a1
  · rw [xs, u 1 (by decide)]; exact a2
  · rw [xs, u 2 (by decide)]; exact a3
  · rw [xs, u 3 (by decide)]; exact a4
  · rw [xs, u 4 (by decide)]; exact a5
  · rw [m0, u 0 (by decide)]; exact b1
  · rw [m0, u 1 (by decide)]; exact b2
  · rw [m0, u 2 (by decide)]; exact b3
  · rw [m0, u 3 (by decide)]; exact b4
  · rw [u 0 (by decide), u 1 (by decide), u 2 (by decide), u 3 (by decide), u 4 (by decide)]; exact hb
  · by_cases e : q' = q
    · subst e
      rw [up1_eq, sI_row, upd_eq, upd_ne (by decide), sI_row, upd_eq]
      exact ⟨rfl, (h3 q' hq').2.1, rfl, by omega⟩
    · have := sh_d hq' (show q < 5 by omega) e
      rw [up1_ne (by omega), sI_ne (by omega), sI_row, upd_ne e]
      exact h3 q' hq'
  · rw [u 0 (by decide)] at hj
    have hbq' := sh_b (show q' < 5 by omega)
    have hN' := (h3 q' (by omega)).2.2.2
    rw [sI_ne (show 5 + q' ≠ 3 by omega)]
    by_cases e : q' = q
    · subst e
      rw [up1_eq] at hd
      rw [sI_ne (by omega)]
      by_cases e2 : d = N (5 + q')
      · rw [e2]; exact hrow j hj
      · exact h4 q' hq' d (by omega) j hj
    · have := sh_d (show q' < 5 by omega) (show q < 5 by omega) e
      rw [up1_ne (by omega)] at hd
      rw [sI_ne (by omega)]
      exact h4 q' hq' d hd j hj
  · rw [sI_ne (show s + 46 ≠ s + shA q by omega), sI_ne (show s + 47 ≠ s + shA q by omega), sI_ne (show (9 : Nat) ≠ 3 by decide), sI_ne (show (10 : Nat) ≠ 3 by decide)]
    by_cases e : q = 0
    · subst e
      have hd : d < up1 N 5 5 := hd
      rw [up1_eq] at hd
      by_cases e2 : d = N 5
      · rw [e2]; exact (h0 rfl).2
      · exact h5 d (by omega)
    · rw [up1_ne (by omega)] at hd
      exact h5 d hd
  · rw [up1_ne (by omega)] at hg
    have h38 : shA 4 + 3 = 38 := rfl
    have hg8 := (h3 4 (by decide)).2.2.2
    have e8 : lmA 4 = 8 := rfl
    have hg' : g < N (5 + 4) := hg
    have hd4 := sh_d (show q < 5 by omega) (show 4 < 5 by decide) (by omega)
    obtain ⟨g1, ⟨k, g2, g3⟩, p, g4, g5⟩ := h6 g hg
    rw [sI_ne (by omega), sI_ne (by decide), sI_ne (by decide), sI_ne (show s + 38 + g ≠ s + shA q by omega), u 1 (by decide)]
    have hq0 : q ≠ 0 := fun e => by
      have := (h0 e).1
      omega
    rw [up1_ne (show 5 ≠ 5 + q by omega)]
    refine ⟨g1, ⟨k, ?_, g3⟩, p, g4, g5⟩
    by_cases e : q = 1
    · subst e
      show k < up1 N 6 6
      rw [up1_eq]; omega
    · rw [up1_ne (by omega)]; exact g2
  · show (∀ k, k < up1 N (5 + q) (5 + q') → ∃ l x y, l ≤ 8 ∧ WR l x y ∧ X.2.1 (s + shA q' + 1) k = lN y ∧ M.2.1 2 (10 * q' + k) = lN x) ∧ ∀ k k', k < up1 N (5 + q) (5 + q') → k' < up1 N (5 + q) (5 + q') → M.2.1 2 (10 * q' + k) = M.2.1 2 (10 * q' + k') → k = k'
    obtain ⟨n1, n2⟩ := h7 q' hq'
    by_cases e : q' = q
    · subst e
      rw [up1_eq]
      obtain ⟨l, x, y, w1, w2, w3, w4, w5⟩ := hnm
      refine ⟨fun k hk => ?_, fun k k' hk hk' ek => ?_⟩
      · by_cases e2 : k = N (5 + q')
        · rw [e2]; exact ⟨l, x, y, w1, w2, w3, w4⟩
        · exact n1 k (by omega)
      · by_cases e2 : k = N (5 + q')
        · by_cases e3 : k' = N (5 + q')
          · rw [e2, e3]
          · rw [e2, w4] at ek
            exact absurd ek.symm (w5 k' (by omega))
        · by_cases e3 : k' = N (5 + q')
          · rw [e3, w4] at ek
            exact absurd ek (w5 k (by omega))
          · exact n2 k k' (by omega) (by omega) ek
    · rw [up1_ne (by omega)]
      exact ⟨n1, n2⟩
  · rw [sI_ne (by omega)]; exact h8
  · rw [m0]; exact h9 k hk
  · rw [u 4 (by decide)]; exact h10
end
/-- a line was read on both sides -/
def LnO (s c : Nat) (K P Q R V A : Nat → Nat) (X0 M0 : St) (i : Nat) (X M X' M' : St) : Prop := GX s X X' ∧ GM M M' ∧ ((∃ i' N' H', i < i' ∧ Sy s c K P Q R V A X0 M0 i' X' M' ∧ PB s N' H' X' M') ∨ Ft X' M')
section
variable {n s c t : Nat} {K P Q R V A : Nat → Nat} {X0 M0 X M : St} {i q : Nat} {N H : Nat → Nat}
/-- the count of a sort goes up, then the sign -/
theorem fin_row (hC : TC n s c t K P Q R V A X0 M0) (h : Sy s c K P Q R V A X0 M0 i X M) (hP : PB s N H X M) (hq : q < 4) (hc : N (5 + q) < lmA q) (hrow : ∀ b, b < N 0 → X.1 (s + shA q + 3 + N (5 + q)) b = M.1 (5 + q) (16 * N (5 + q) + b) ∧ sm (M.1 (5 + q) (16 * N (5 + q) + b)) (bdA q)) (hnm : ∃ l x y, l ≤ 8 ∧ WR l x y ∧ X.2.1 (s + shA q + 1) (N (5 + q)) = lN y ∧ M.2.1 2 (10 * q + N (5 + q)) = lN x ∧ ∀ k, k < N (5 + q) → M.2.1 2 (10 * q + k) ≠ lN x) (h0 : q = 0 → N 9 = 0 ∧ X.1 (s + 46) (N 5) = M.1 9 (N 5) ∧ sm (M.1 9 (N 5)) 99 ∧ X.1 (s + 47) (N 5) = M.1 10 (N 5) ∧ sm (M.1 10 (N 5)) 99) : ∃ X' M' r, fX3_takeRow_j56 n X (s + shA q) = some (X', r) ∧ (r = 0 ∨ r = 1) ∧ fX11_readLine_j220 n (sI M 3 q (M.1 3 q + 1)) = some (M', ()) ∧ LnO s c K P Q R V A X0 M0 i X M X' M' := by
  obtain ⟨⟨c1, c2, c3⟩, -⟩ := id hC
  obtain ⟨k1, -⟩ := shf c2 (show q < 5 by omega)
  have hb := sh_b (show q < 5 by omega)
  have hs' : s + 50 < 151 := by rcases c2 with z | z <;> omega
  obtain ⟨e1, e2, e3, e4⟩ := hP.2.2.2.1 q (by omega)
  have hP' := PB_row hP c2 hq hc hrow hnm h0
  have gx : GX s X (sI X (s + shA q) 3 (nI (N (5 + q) + 1))) := ⟨fun a _ z => sI_ne (by omega), fun _ _ _ => rfl, rfl, fun _ _ _ => sI_f (by omega)⟩
  have gm : GM M (sI M 3 q (nI (N (5 + q) + 1))) := ⟨fun a _ z _ => sI_ne z, fun k _ => by rw [sI_ne (by decide)]⟩
  have hS' : Sy s c K P Q R V A X0 M0 i (sI X (s + shA q) 3 (nI (N (5 + q) + 1))) (sI M 3 q (nI (N (5 + q) + 1))) := Sy_M (Sy_X h gx (fun k _ => by rw [sI_ne (by omega)]) rfl) gm (fun k _ => by rw [sI_ne (by decide)]) rfl
  obtain ⟨X', M', r, a1, a2, a3, a4, a5⟩ := both_sign hC hS'
  have hr : r = 0 ∨ r = 1 := by
    rcases a5 with ⟨z, -⟩ | ⟨z, -⟩
    · exact Or.inr z
    · exact Or.inl z
  unfold fX3_takeRow_j56
  rw [gd_pos k1, e1, bn_go, nI_1, a1, bd_go, gd_pos hr, e3, nI_1, a2]
  refine ⟨X', M', r, rfl, hr, rfl, GX_tr gx (kT1_G a3), GM_tr gm (kU1_G a4), ?_⟩
  rcases a5 with ⟨-, z⟩ | ⟨-, z⟩
  · exact Or.inl ⟨i + 1, up1 N (5 + q), H, by omega, z, PB_A hP' c2 (kT1_A a3 c2) (kU1_A a4)⟩
  · exact Or.inr z
/-- the row of bands, the count, the sign -/
theorem both_bands (hC : TC n s c t K P Q R V A X0 M0) (h : Sy s c K P Q R V A X0 M0 i X M) (hP : PB s N H X M) (hq : q < 4) (hc : N (5 + q) < lmA q) (hnm : ∃ l x y, l ≤ 8 ∧ WR l x y ∧ X.2.1 (s + shA q + 1) (N (5 + q)) = lN y ∧ M.2.1 2 (10 * q + N (5 + q)) = lN x ∧ ∀ k, k < N (5 + q) → M.2.1 2 (10 * q + k) ≠ lN x) (h0 : q = 0 → N 9 = 0 ∧ X.1 (s + 46) (N 5) = M.1 9 (N 5) ∧ sm (M.1 9 (N 5)) 99 ∧ X.1 (s + 47) (N 5) = M.1 10 (N 5) ∧ sm (M.1 10 (N 5)) 99) : ∃ X' M' r, fX3_takeRow n X (s + shA q) (nI (bdA q)) = some (X', r) ∧ (r = 0 ∨ r = 1) ∧ (bd (fX11_readBands n M (5 + q) (nI (16 * N (5 + q))) (nI (bdA q))) (fun S _ => fX11_readLine_j220 n (if S.1 0 2 = 0 then sI S 3 q (S.1 3 q + 1) else S))) = some (M', ()) ∧ LnO s c K P Q R V A X0 M0 i X M X' M' := by
  obtain ⟨⟨c1, c2, c3⟩, -⟩ := id hC
  have hb := sh_b (show q < 5 by omega)
  have hs' : s + 50 < 151 := by rcases c2 with z | z <;> omega
  obtain ⟨X1, M1, r, a1, a2, a3, a4, a5⟩ := both_want hC h (j := 12) (w := 17) (x := 28518) (by decide) rfl rfl
  have a1 : fX3_take n X 17 = _ := a1
  unfold fX3_takeRow fX11_readBands
  rw [a1, bd_go, a2, bd_go]
  rcases a5 with ⟨rfl, a5⟩ | ⟨rfl, a5⟩
  · have hP1 : PB s N H X1 M1 := PB_A hP c2 (kT1_A a3 c2) (kU1_A a4)
    have h16 := hP.2.2.1.1.2
    obtain ⟨X2, M2, b1, b2, b3, b4⟩ := row_loop (H := H) hC hq hc (N 0) 0 n n (i + 1) X1 M1 (by omega) (by omega) (by omega) a5 hP1 (fun b hb' => by omega)
    have b1 : fX11_readBands_l10 n n M1 (5 + q) (nI (16 * N (5 + q))) (nI (bdA q)) 0 = _ := b1
    rw [if_neg one_ne, b1, bd_go]
    have gx : GX s X X2 := GX_tr (kT1_G a3) (AX_G (kRx_A c2 (show q < 5 by omega) hc b2))
    have gm : GM M M2 := GM_tr (kU1_G a4) (AM_G (kRm_A hq b3))
    rcases b4 with ⟨i', g0, g1, g2, g3⟩ | ⟨g1, g2⟩
    · have g1 : fX3_takeRow_l13 n n X1 (s + shA q) (nI (bdA q)) 0 = _ := g1
      have hP2 : PB s N H X2 M2 := PB_A hP1 c2 (kRx_A c2 (show q < 5 by omega) hc b2) (kRm_A hq b3)
      obtain ⟨l, x, y, w1, w2, w3, w4, w5⟩ := hnm
      obtain ⟨X', M', r', f1, f2, f3, f4, f5, f6⟩ := fin_row hC g2 hP2 hq hc g3 ⟨l, x, y, w1, w2, by rw [b2.2.2.1 _ (by omega), a3.2.2.1 _ (by omega)]; exact w3, by rw [b3.2.2.2 _ (by decide), a4.2.2 _ (by decide)]; exact w4, fun k hk => by rw [b3.2.2.2 _ (by decide), a4.2.2 _ (by decide)]; exact w5 k hk⟩ (fun e => by
        rw [b2.1 (s + 46) (by omega) (by omega), b2.1 (s + 47) (by omega) (by omega), b3.1 9 (by decide) (by omega), b3.1 10 (by decide) (by omega), a3.1 _ (by omega), a3.1 _ (by omega), a4.1 _ (by decide), a4.1 _ (by decide)]
        exact h0 e)
      rw [if_pos g2.2.2.2.2.1, g1, f1, f3]
      refine ⟨X', M', r', rfl, f2, rfl, GX_tr gx f4, GM_tr gm f5, ?_⟩
      rcases f6 with ⟨i'', N', H', z1, z2⟩ | z
      · exact Or.inl ⟨i'', N', H', by omega, z2⟩
      · exact Or.inr z
    · have g1 : fX3_takeRow_l13 n n X1 (s + shA q) (nI (bdA q)) 0 = _ := g1
      rw [if_neg (Ft_0 g2).1, g1, Ft_220 g2]
      exact ⟨X2, M2, 0, rfl, Or.inl rfl, rfl, gx, gm, Or.inr g2⟩
  · have e : fX11_readBands_l10 n n M1 (5 + q) (nI (16 * N (5 + q))) (nI (bdA q)) 0 = some (M1, ()) := by
      obtain ⟨m, hm⟩ := suc_of (show 0 < n by omega)
      have : ∀ f, fX11_readBands_l10 n (f + 1) M1 (5 + q) (nI (16 * N (5 + q))) (nI (bdA q)) 0 = some (M1, ()) := fun f => by
        rw [fX11_readBands_l10, if_neg (Ft_0 a5).1]
        split <;> rfl
      rw [hm]
      rw [hm] at this
      exact this m
    rw [if_pos rfl, e, bd_go, if_neg (Ft_0 a5).1, Ft_220 a5]
    exact ⟨X1, M1, 0, rfl, Or.inl rfl, rfl, kT1_G a3, kU1_G a4, Or.inr a5⟩
/-- a line that can't stand there -/
theorem bad_line (hC : TC n s c t K P Q R V A X0 M0) (h : Sy s c K P Q R V A X0 M0 i X M) : ∃ X' M', fX3_refuse n X 2 = some (X', 0) ∧ fX11_readLine_j215 n M = some (M', ()) ∧ LnO s c K P Q R V A X0 M0 i X M X' M' := by
  obtain ⟨X', M', a1, a2, a3, a4, a5⟩ := both_wrong hC h (f := 2) (by decide) (by decide)
  have a2 : fX11_wrong n M 2 = _ := a2
  refine ⟨X', M', a1, ?_, kT1_G a3, kU1_G a4, Or.inr a5⟩
  unfold fX11_readLine_j215
  rw [a2, bd_go, Ft_220 a5]
/-- a ground, a lamp, an eye -/
theorem thing_line (hC : TC n s c t K P Q R V A X0 M0) (h : Sy s c K P Q R V A X0 M0 i X M) (hP : PB s N H X M) (hK : 2 ≤ K i) (hq : q < 4) (hq0 : q ≠ 0) (hc : N (5 + q) < lmA q) : ∃ X' M' r, fX3_readThing n X (s + shA q) (nI (bdA q)) = some (X', r) ∧ (r = 0 ∨ r = 1) ∧ (bd (fX11_readRow n M (nI q) (5 + q) (nI (bdA q))) (fun S _ => fX11_readLine_j220 n S)) = some (M', ()) ∧ LnO s c K P Q R V A X0 M0 i X M X' M' := by
  obtain ⟨⟨c1, c2, c3⟩, -⟩ := id hC
  have hb := sh_b (show q < 5 by omega)
  obtain ⟨X1, M1, r, a1, a2, a3, a4, a5⟩ := both_name hC h hP hK (show q < 5 by omega) hc
  have hP1 : PB s N H X1 M1 := PB_A hP c2 a3 a4
  have e3 : M1.1 3 q = nI (N (5 + q)) := (hP1.2.2.2.1 q (by omega)).2.2.1
  have e16 : (16 : Int32) * nI (N (5 + q)) = nI (16 * N (5 + q)) := pk_mul 16 _
  unfold fX3_readThing fX11_readRow
  rw [a1, bd_go, a2, bd_go, gd_pos (ib_nI (show q < 5 by omega) (by decide))]
  simp only [cl_nI (show q < 2 ^ 31 by omega), e3, e16]
  rcases a5 with ⟨rfl, a5, a6⟩ | ⟨rfl, a5⟩
  · obtain ⟨X', M', r', b1, b2, b3, b4, b5, b6⟩ := both_bands hC a5 hP1 hq hc a6 (fun e => absurd e hq0)
    rw [if_neg one_ne, b1, bd_go]
    have e : ∀ o : Option (St × Unit), bd (bd o (fun S4 r5 => if S4.1 0 2 = 0 then gd (ib (nI q) 5) (gd (ib (nI q) 5) (bn (sI S4 3 q (S4.1 3 q + 1)) (fun S8 : St => some (S8, ())))) else some (S4, ()))) (fun S _ => fX11_readLine_j220 n S) = bd o (fun S _ => fX11_readLine_j220 n (if S.1 0 2 = 0 then sI S 3 q (S.1 3 q + 1) else S)) := fun o => by
      cases o with
      | none => rfl
      | some z =>
        rw [bd_go, bd_go]
        by_cases c0 : z.1.1 0 2 = 0
        · rw [if_pos c0, if_pos c0, gd_pos (ib_nI (show q < 5 by omega) (by decide)), gd_pos (ib_nI (show q < 5 by omega) (by decide)), bn_go, bd_go]
        · rw [if_neg c0, if_neg c0, bd_go]
    rw [e, b3]
    have fin : ∃ r'', (if r' = 0 then some (X', (0 : Int32)) else some (X', 1)) = some (X', r'') ∧ (r'' = 0 ∨ r'' = 1) := by
      by_cases z : r' = 0
      · rw [if_pos z]; exact ⟨0, rfl, Or.inl rfl⟩
      · rw [if_neg z]; exact ⟨1, rfl, Or.inr rfl⟩
    obtain ⟨r'', g1, g2⟩ := fin
    rw [g1]
    refine ⟨X', M', r'', rfl, g2, rfl, GX_tr (AX_G a3) b4, GM_tr (AM_G a4) b5, ?_⟩
    rcases b6 with ⟨i'', N', H', z1, z2⟩ | z
    · exact Or.inl ⟨i'', N', H', by omega, z2⟩
    · exact Or.inr z
  · have e : fX11_readBands n M1 (5 + q) (nI (16 * N (5 + q))) (nI (bdA q)) = some (M1, ()) := by
      unfold fX11_readBands
      rw [Ft_want a5, bd_go]
      obtain ⟨m, hm⟩ := suc_of (show 0 < n by omega)
      have : ∀ f, fX11_readBands_l10 n (f + 1) M1 (5 + q) (nI (16 * N (5 + q))) (nI (bdA q)) 0 = some (M1, ()) := fun f => by
        rw [fX11_readBands_l10, if_neg (Ft_0 a5).1]
        split <;> rfl
      rw [hm]
      rw [hm] at this
      exact this m
    rw [if_pos rfl, e, bd_go, if_neg (Ft_0 a5).1, bd_go, Ft_220 a5]
    exact ⟨X1, M1, 0, rfl, Or.inl rfl, rfl, AX_G a3, AM_G a4, Or.inr a5⟩
end
