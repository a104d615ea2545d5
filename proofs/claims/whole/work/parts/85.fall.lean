section
variable {n s c t : Nat} {K P Q R V A : Nat → Nat} {X0 M0 X M : St} {i q : Nat} {N H : Nat → Nat}
theorem e191 (hC : TC n s c t K P Q R V A X0 M0) (h : Sy s c K P Q R V A X0 M0 i X M) (hP : PB s N H X M) (hb : K i = 13 → H 3 ≠ 0) : fX11_readLine_j191 n M = fX11_readLine_j215 n M := by
  obtain ⟨h1, h2⟩ := hP.2.2.2.2.2.2.2.2.2.1 3 (by decide)
  have h2 : M.1 0 40 = nI (H 3) := h2
  unfold fX11_readLine_j191
  rw [isWord_spec hC h (show 8 < 14 by decide) (w := 1870030194) rfl, bd_go]
  by_cases z : K i = 5 + 8
  · rw [if_pos z, if_neg one_ne, h2, if_neg (nI_ne0 (by have := hb z; omega) (by omega))]
  · rw [if_neg z, if_pos rfl]
theorem e154 (hC : TC n s c t K P Q R V A X0 M0) (h : Sy s c K P Q R V A X0 M0 i X M) (hP : PB s N H X M) (hb : K i = 10 → 8 ≤ N 9 ∨ N 5 = 0) : fX11_readLine_j154 n M = fX11_readLine_j191 n M := by
  have e4 : M.1 3 4 = nI (N 9) := (hP.2.2.2.1 4 (by decide)).2.2.1
  have e0 : M.1 3 0 = nI (N 5) := (hP.2.2.2.1 0 (by decide)).2.2.1
  have n9 : N 9 ≤ 8 := (hP.2.2.2.1 4 (by decide)).2.2.2
  have c4 : Int32.toNatClampNeg 4 = 4 := by decide
  have c0 : Int32.toNatClampNeg 0 = 0 := by decide
  unfold fX11_readLine_j154
  rw [isWord_spec hC h (show 5 < 14 by decide) (w := 1735356260) rfl, bd_go]
  by_cases z : K i = 5 + 5
  · rw [if_pos z, if_neg one_ne, gd_pos (show ib 4 5 by decide), c4, e4]
    by_cases z2 : 8 ≤ N 9
    · rw [if_pos (le8 z2 (by omega))]
    · rw [if_neg (nle8 (by omega)), gd_pos (show ib 0 5 by decide), c0, e0]
      rcases hb z with z3 | z3
      · omega
      · rw [z3, if_pos (show nI 0 ≤ 0 by decide)]
  · rw [if_neg z, if_pos rfl]
theorem e120 (hC : TC n s c t K P Q R V A X0 M0) (h : Sy s c K P Q R V A X0 M0 i X M) (hP : PB s N H X M) (hb : K i = 9 → 4 ≤ N 8) : fX11_readLine_j120 n M = fX11_readLine_j154 n M := by
  have e4 : M.1 3 3 = nI (N 8) := (hP.2.2.2.1 3 (by decide)).2.2.1
  have n9 : N 8 ≤ 4 := (hP.2.2.2.1 3 (by decide)).2.2.2
  have c4 : Int32.toNatClampNeg 3 = 3 := by decide
  unfold fX11_readLine_j120
  rw [isWord_spec hC h (show 4 < 14 by decide) (w := 6650213) rfl, bd_go]
  by_cases z : K i = 5 + 4
  · rw [if_pos z, if_neg one_ne, gd_pos (show ib 3 5 by decide), c4, e4, if_pos (show (4 : Int32) ≤ nI (N 8) from nI_le (a := 4) (hb z) (by omega))]
  · rw [if_neg z, if_pos rfl]
theorem e85 (hC : TC n s c t K P Q R V A X0 M0) (h : Sy s c K P Q R V A X0 M0 i X M) (hP : PB s N H X M) (hb : K i = 8 → 6 ≤ N 7) : fX11_readLine_j85 n M = fX11_readLine_j120 n M := by
  have e4 : M.1 3 2 = nI (N 7) := (hP.2.2.2.1 2 (by decide)).2.2.1
  have n9 : N 7 ≤ 6 := (hP.2.2.2.1 2 (by decide)).2.2.2
  have c4 : Int32.toNatClampNeg 2 = 2 := by decide
  unfold fX11_readLine_j85
  rw [isWord_spec hC h (show 3 < 14 by decide) (w := 1818324336) rfl, bd_go]
  by_cases z : K i = 5 + 3
  · rw [if_pos z, if_neg one_ne, gd_pos (show ib 2 5 by decide), c4, e4, if_pos (show (6 : Int32) ≤ nI (N 7) from nI_le (a := 6) (hb z) (by omega))]
  · rw [if_neg z, if_pos rfl]
theorem e51 (hC : TC n s c t K P Q R V A X0 M0) (h : Sy s c K P Q R V A X0 M0 i X M) (hP : PB s N H X M) (hb : K i = 7 → 4 ≤ N 6) : fX11_readLine_j51 n M = fX11_readLine_j85 n M := by
  have e4 : M.1 3 1 = nI (N 6) := (hP.2.2.2.1 1 (by decide)).2.2.1
  have n9 : N 6 ≤ 4 := (hP.2.2.2.1 1 (by decide)).2.2.2
  have c4 : Int32.toNatClampNeg 1 = 1 := by decide
  unfold fX11_readLine_j51
  rw [isWord_spec hC h (show 2 < 14 by decide) (w := 113741193899620) rfl, bd_go]
  by_cases z : K i = 5 + 2
  · rw [if_pos z, if_neg one_ne, gd_pos (show ib 1 5 by decide), c4, e4, if_pos (show (4 : Int32) ≤ nI (N 6) from nI_le (a := 4) (hb z) (by omega))]
  · rw [if_neg z, if_pos rfl]
/-- no line that tells a number, or one that can't stand there -/
theorem no_num (hC : TC n s c t K P Q R V A X0 M0) (h : Sy s c K P Q R V A X0 M0 i X M) (hP : PB s N H X M) (h5 : K i = 5 → H 0 ≠ 0 ∨ N 5 + N 6 + N 7 + N 8 ≠ 0) (h11 : K i = 11 → H 1 ≠ 0 ∨ N 9 ≠ 0) (h12 : K i = 12 → H 2 ≠ 0) (h14 : K i = 14 → H 4 ≠ 0) : fX11_isNumberLine n M = some (M, 0) := by
  have hH := hP.2.2.2.2.2.2.2.2.2.1
  have e37 : M.1 0 37 = nI (H 0) := (hH 0 (by decide)).2
  have e38 : M.1 0 38 = nI (H 1) := (hH 1 (by decide)).2
  have e39 : M.1 0 39 = nI (H 2) := (hH 2 (by decide)).2
  have e41 : M.1 0 41 = nI (H 4) := (hH 4 (by decide)).2
  have b0 := (hH 0 (by decide)).1
  have b1 := (hH 1 (by decide)).1
  have b2 := (hH 2 (by decide)).1
  have b4 := (hH 4 (by decide)).1
  have q0 : M.1 3 0 = nI (N 5) := (hP.2.2.2.1 0 (by decide)).2.2.1
  have q1 : M.1 3 1 = nI (N 6) := (hP.2.2.2.1 1 (by decide)).2.2.1
  have q2 : M.1 3 2 = nI (N 7) := (hP.2.2.2.1 2 (by decide)).2.2.1
  have q3 : M.1 3 3 = nI (N 8) := (hP.2.2.2.1 3 (by decide)).2.2.1
  have q4 : M.1 3 4 = nI (N 9) := (hP.2.2.2.1 4 (by decide)).2.2.1
  have l0 : N 5 ≤ 8 := (hP.2.2.2.1 0 (by decide)).2.2.2
  have l1 : N 6 ≤ 4 := (hP.2.2.2.1 1 (by decide)).2.2.2
  have l2 : N 7 ≤ 6 := (hP.2.2.2.1 2 (by decide)).2.2.2
  have l3 : N 8 ≤ 4 := (hP.2.2.2.1 3 (by decide)).2.2.2
  have l4 : N 9 ≤ 8 := (hP.2.2.2.1 4 (by decide)).2.2.2
  have c0 : Int32.toNatClampNeg 0 = 0 := by decide
  have c1 : Int32.toNatClampNeg 1 = 1 := by decide
  have c2 : Int32.toNatClampNeg 2 = 2 := by decide
  have c3 : Int32.toNatClampNeg 3 = 3 := by decide
  have c4 : Int32.toNatClampNeg 4 = 4 := by decide
  have j67 : fX11_isNumberLine_j67 n M = some (M, 0) := by
    unfold fX11_isNumberLine_j67
    rw [isWord_spec hC h (show 9 < 14 by decide) (w := 1936484720) rfl, bd_go]
    by_cases z : K i = 5 + 9
    · rw [if_pos z, if_neg one_ne, e41, if_neg (nI_ne0 (by have := h14 z; omega) (by omega))]
    · rw [if_neg z, if_pos rfl]
  have j50 : fX11_isNumberLine_j50 n M = some (M, 0) := by
    unfold fX11_isNumberLine_j50
    rw [isWord_spec hC h (show 7 < 14 by decide) (w := 418430675813) rfl, bd_go]
    by_cases z : K i = 5 + 7
    · rw [if_pos z, if_neg one_ne, e39, if_neg (nI_ne0 (by have := h12 z; omega) (by omega)), j67]
    · rw [if_neg z, if_pos rfl, j67]
  have j24 : fX11_isNumberLine_j24 n M = some (M, 0) := by
    unfold fX11_isNumberLine_j24
    rw [isWord_spec hC h (show 6 < 14 by decide) (w := 1836020596) rfl, bd_go]
    by_cases z : K i = 5 + 6
    · rw [if_pos z, if_neg one_ne, e38]
      by_cases z2 : H 1 = 0
      · rw [z2, if_pos (show nI 0 = 0 from rfl), gd_pos (show ib 4 5 by decide), c4, q4, if_neg (nI_ne0 (by rcases h11 z with w | w <;> omega) (by omega)), j50]
      · rw [if_neg (nI_ne0 (by omega) (by omega)), j50]
    · rw [if_neg z, if_pos rfl, j50]
  unfold fX11_isNumberLine
  rw [isWord_spec hC h (show 0 < 14 by decide) (w := 422541419635) rfl, bd_go]
  by_cases z : K i = 5 + 0
  · rw [if_pos z, if_neg one_ne, e37]
    by_cases z2 : H 0 = 0
    · rw [z2, if_pos (show nI 0 = 0 from rfl)]
      unfold fX11_hasRows
      rw [gd_pos (show ib 0 5 by decide), gd_pos (show ib 1 5 by decide), gd_pos (show ib 2 5 by decide), gd_pos (show ib 3 5 by decide), c0, c1, c2, c3, q0, q1, q2, q3, nI_add, nI_add, nI_add, if_neg (nI_nle (by rcases h5 z with w | w <;> omega) (by omega)), bd_go, if_neg one_ne, j24]
    · rw [if_neg (nI_ne0 (by omega) (by omega)), j24]
  · rw [if_neg z, if_pos rfl, j24]
/-- the reference's line that can't stand there -/
theorem ref_bad (hC : TC n s c t K P Q R V A X0 M0) (h : Sy s c K P Q R V A X0 M0 i X M) (hP : PB s N H X M) (h5 : K i = 5 → H 0 ≠ 0 ∨ N 5 + N 6 + N 7 + N 8 ≠ 0) (h6 : K i = 6 → 8 ≤ N 5 ∨ N 9 ≠ 0) (h7 : K i = 7 → 4 ≤ N 6) (h8 : K i = 8 → 6 ≤ N 7) (h9 : K i = 9 → 4 ≤ N 8) (h10 : K i = 10 → 8 ≤ N 9 ∨ N 5 = 0) (h11 : K i = 11 → H 1 ≠ 0 ∨ N 9 ≠ 0) (h12 : K i = 12 → H 2 ≠ 0) (h13 : K i = 13 → H 3 ≠ 0) (h14 : K i = 14 → H 4 ≠ 0) : fX11_readLine n M = fX11_readLine_j215 n M := by
  have q0 : M.1 3 0 = nI (N 5) := (hP.2.2.2.1 0 (by decide)).2.2.1
  have q4 : M.1 3 4 = nI (N 9) := (hP.2.2.2.1 4 (by decide)).2.2.1
  have l0 : N 5 ≤ 8 := (hP.2.2.2.1 0 (by decide)).2.2.2
  have l4 : N 9 ≤ 8 := (hP.2.2.2.1 4 (by decide)).2.2.2
  have c0 : Int32.toNatClampNeg 0 = 0 := by decide
  have c4 : Int32.toNatClampNeg 4 = 4 := by decide
  have e : fX11_readLine_j51 n M = fX11_readLine_j215 n M := by rw [e51 hC h hP h7, e85 hC h hP h8, e120 hC h hP h9, e154 hC h hP h10, e191 hC h hP h13]
  unfold fX11_readLine
  rw [no_num hC h hP h5 h11 h12 h14, bd_go, if_pos rfl, isWord_spec hC h (show 1 < 14 by decide) (w := 6584677) rfl, bd_go]
  by_cases z : K i = 5 + 1
  · rw [if_pos z, if_neg one_ne, gd_pos (show ib 0 5 by decide), c0, q0]
    by_cases z2 : 8 ≤ N 5
    · rw [if_pos (le8 z2 (by omega)), e]
    · rw [if_neg (nle8 (by omega)), gd_pos (show ib 4 5 by decide), c4, q4, if_neg (nI_ne0 (by rcases h6 z with w | w <;> omega) (by omega)), e]
  · rw [if_neg z, if_pos rfl, e]
/-- the class's and the reference's line that can't stand there -/
theorem line_bad (hC : TC n s c t K P Q R V A X0 M0) (h : Sy s c K P Q R V A X0 M0 i X M) (hM : fX11_readLine n M = fX11_readLine_j215 n M) (hX : ∀ X' M', fX3_refuse n X 2 = some (X', 0) → Ft X' M' → ∃ r, fX3_readLine n X = some (X', r)) : ∃ X' M' r, fX3_readLine n X = some (X', r) ∧ fX11_readLine n M = some (M', ()) ∧ LnO s c K P Q R V A X0 M0 i X M X' M' := by
  obtain ⟨X', M', a1, a2, a3, a4, a5⟩ := both_wrong hC h (f := 2) (by decide) (by decide)
  have a1 : fX3_refuse n X 2 = _ := a1
  have a2 : fX11_wrong n M 2 = _ := a2
  obtain ⟨r, hr⟩ := hX X' M' a1 a5
  refine ⟨X', M', r, hr, ?_, kT1_G a3, kU1_G a4, Or.inr a5⟩
  rw [hM]
  unfold fX11_readLine_j215
  rw [a2, bd_go, Ft_220 a5]
end
