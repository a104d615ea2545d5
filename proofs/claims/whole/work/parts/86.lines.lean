theorem isWord_n {n s c t : Nat} {K P Q R V A : Nat → Nat} {X0 M0 X M : St} {i : Nat} (hC : TC n s c t K P Q R V A X0 M0) (h : Sy s c K P Q R V A X0 M0 i X M) {j : Nat} (hj : j < 14) {w : Int64} (hw : w = lN (w8 (kw j))) (hk : K i ≠ 5 + j) : fX11_isWord n M w = some (M, 0) := by
  rw [isWord_spec hC h hj hw, if_neg hk]
theorem isWord_y {n s c t : Nat} {K P Q R V A : Nat → Nat} {X0 M0 X M : St} {i : Nat} (hC : TC n s c t K P Q R V A X0 M0) (h : Sy s c K P Q R V A X0 M0 i X M) {j : Nat} (hj : j < 14) {w : Int64} (hw : w = lN (w8 (kw j))) (hk : K i = 5 + j) : fX11_isWord n M w = some (M, 1) := by
  rw [isWord_spec hC h hj hw, if_pos hk]
section
variable {n s c t : Nat} {K P Q R V A : Nat → Nat} {X0 M0 X M : St} {i q : Nat} {N H : Nat → Nat}
theorem line_7 (hC : TC n s c t K P Q R V A X0 M0) (h : Sy s c K P Q R V A X0 M0 i X M) (hP : PB s N H X M) (hk : K i = 7) : ∃ X' M' r, fX3_readLine n X = some (X', r) ∧ fX11_readLine n M = some (M', ()) ∧ LnO s c K P Q R V A X0 M0 i X M X' M' := by
  obtain ⟨⟨c1, c2, c3⟩, -⟩ := id hC
  obtain ⟨kk, -⟩ := bk c2
  obtain ⟨k1, -, -, -, -, -, -, -, k9⟩ := shf c2 (show 1 < 5 by decide)
  have hr : X.2.2 151 1 = s := by rw [h.1.1.2.2.1]; exact c3
  have q4 : M.1 3 1 = nI (N 6) := (hP.2.2.2.1 1 (by decide)).2.2.1
  have x4 : X.1 (s + shA 1) 3 = nI (N 6) := (hP.2.2.2.1 1 (by decide)).1
  have x0 : X.1 (s + shA 1) 0 = nI 4 := (hP.2.2.2.1 1 (by decide)).2.1
  have l4 : N 6 ≤ 4 := (hP.2.2.2.1 1 (by decide)).2.2.2
  have cq : Int32.toNatClampNeg 1 = 1 := by decide
  by_cases z : N 6 < 4
  · obtain ⟨X', M', r, a1, a2, a3, a4⟩ := thing_line hC h hP (by omega) (show 1 < 4 by decide) (by decide) (show N (5 + 1) < lmA 1 from z)
    have a1 : fX3_readThing n X (s + shA 1) 99 = _ := a1
    have a3 : bd (fX11_readRow n M 1 6 99) (fun S _ => fX11_readLine_j220 n S) = _ := a3
    refine ⟨X', M', r, ?_, ?_, a4⟩
    · unfold fX3_readLine
      rw [h.2.1.2.1, hk, if_neg (show ¬ nI 7 = 5 by decide), if_neg (show ¬ nI 7 = 6 by decide), if_pos (show nI 7 = 7 from rfl), hr, gd_pos kk, k9, gd_pos k1, a1, bd_go, gd_pos a2]
    · unfold fX11_readLine
      rw [no_num hC h hP (fun w => by omega) (fun w => by omega) (fun w => by omega) (fun w => by omega), bd_go, if_pos rfl, isWord_n hC h (show 1 < 14 by decide) (w := 6584677) rfl (by omega), bd_go, if_pos rfl]
      unfold fX11_readLine_j51
      rw [isWord_y hC h (show 2 < 14 by decide) (w := 113741193899620) rfl (by omega), bd_go, if_neg one_ne, gd_pos (show ib 1 5 by decide), cq, q4, if_neg (show ¬ (4 : Int32) ≤ nI (N 6) from nI_ge (b := 4) z (by decide)), a3]
  · refine line_bad hC h (ref_bad hC h hP (fun w => by omega) (fun w => by omega) (fun _ => by omega) (fun w => by omega) (fun w => by omega) (fun w => by omega) (fun w => by omega) (fun w => by omega) (fun w => by omega) (fun w => by omega)) (fun X' M' w1 w2 => ⟨0, ?_⟩)
    unfold fX3_readLine fX3_readThing fX3_openThing fX5_isFull
    rw [h.2.1.2.1, hk, if_neg (show ¬ nI 7 = 5 by decide), if_neg (show ¬ nI 7 = 6 by decide), if_pos (show nI 7 = 7 from rfl), hr, gd_pos kk, k9, gd_pos k1, gd_pos k1, gd_pos k1, x4, x0, if_neg (nI_nlt (by omega) (by omega)), bd_go, if_neg one_ne, w1, bd_go, gd_pos (Or.inl rfl), bd_go, if_pos rfl, bd_go, gd_pos (Or.inl rfl)]
theorem line_8 (hC : TC n s c t K P Q R V A X0 M0) (h : Sy s c K P Q R V A X0 M0 i X M) (hP : PB s N H X M) (hk : K i = 8) : ∃ X' M' r, fX3_readLine n X = some (X', r) ∧ fX11_readLine n M = some (M', ()) ∧ LnO s c K P Q R V A X0 M0 i X M X' M' := by
  obtain ⟨⟨c1, c2, c3⟩, -⟩ := id hC
  obtain ⟨kk, -⟩ := bk c2
  obtain ⟨k1, -, -, -, -, -, -, -, k9⟩ := shf c2 (show 2 < 5 by decide)
  have hr : X.2.2 151 1 = s := by rw [h.1.1.2.2.1]; exact c3
  have q4 : M.1 3 2 = nI (N 7) := (hP.2.2.2.1 2 (by decide)).2.2.1
  have x4 : X.1 (s + shA 2) 3 = nI (N 7) := (hP.2.2.2.1 2 (by decide)).1
  have x0 : X.1 (s + shA 2) 0 = nI 6 := (hP.2.2.2.1 2 (by decide)).2.1
  have l4 : N 7 ≤ 6 := (hP.2.2.2.1 2 (by decide)).2.2.2
  have cq : Int32.toNatClampNeg 2 = 2 := by decide
  by_cases z : N 7 < 6
  · obtain ⟨X', M', r, a1, a2, a3, a4⟩ := thing_line hC h hP (by omega) (show 2 < 4 by decide) (by decide) (show N (5 + 2) < lmA 2 from z)
    have a1 : fX3_readThing n X (s + shA 2) 99 = _ := a1
    have a3 : bd (fX11_readRow n M 2 7 99) (fun S _ => fX11_readLine_j220 n S) = _ := a3
    refine ⟨X', M', r, ?_, ?_, a4⟩
    · unfold fX3_readLine
      rw [h.2.1.2.1, hk, if_neg (show ¬ nI 8 = 5 by decide), if_neg (show ¬ nI 8 = 6 by decide), if_neg (show ¬ nI 8 = 7 by decide), if_pos (show nI 8 = 8 from rfl), hr, gd_pos kk, k9, gd_pos k1, a1, bd_go, gd_pos a2]
    · unfold fX11_readLine
      rw [no_num hC h hP (fun w => by omega) (fun w => by omega) (fun w => by omega) (fun w => by omega), bd_go, if_pos rfl, isWord_n hC h (show 1 < 14 by decide) (w := 6584677) rfl (by omega), bd_go, if_pos rfl, e51 hC h hP (fun w => by omega)]
      unfold fX11_readLine_j85
      rw [isWord_y hC h (show 3 < 14 by decide) (w := 1818324336) rfl (by omega), bd_go, if_neg one_ne, gd_pos (show ib 2 5 by decide), cq, q4, if_neg (show ¬ (6 : Int32) ≤ nI (N 7) from nI_ge (b := 6) z (by decide)), a3]
  · refine line_bad hC h (ref_bad hC h hP (fun w => by omega) (fun w => by omega) (fun w => by omega) (fun _ => by omega) (fun w => by omega) (fun w => by omega) (fun w => by omega) (fun w => by omega) (fun w => by omega) (fun w => by omega)) (fun X' M' w1 w2 => ⟨0, ?_⟩)
    unfold fX3_readLine fX3_readThing fX3_openThing fX5_isFull
    rw [h.2.1.2.1, hk, if_neg (show ¬ nI 8 = 5 by decide), if_neg (show ¬ nI 8 = 6 by decide), if_neg (show ¬ nI 8 = 7 by decide), if_pos (show nI 8 = 8 from rfl), hr, gd_pos kk, k9, gd_pos k1, gd_pos k1, gd_pos k1, x4, x0, if_neg (nI_nlt (by omega) (by omega)), bd_go, if_neg one_ne, w1, bd_go, gd_pos (Or.inl rfl), bd_go, if_pos rfl, bd_go, gd_pos (Or.inl rfl)]
theorem line_9 (hC : TC n s c t K P Q R V A X0 M0) (h : Sy s c K P Q R V A X0 M0 i X M) (hP : PB s N H X M) (hk : K i = 9) : ∃ X' M' r, fX3_readLine n X = some (X', r) ∧ fX11_readLine n M = some (M', ()) ∧ LnO s c K P Q R V A X0 M0 i X M X' M' := by
  obtain ⟨⟨c1, c2, c3⟩, -⟩ := id hC
  obtain ⟨kk, -⟩ := bk c2
  obtain ⟨k1, -, -, -, -, -, -, -, k9⟩ := shf c2 (show 3 < 5 by decide)
  have hr : X.2.2 151 1 = s := by rw [h.1.1.2.2.1]; exact c3
  have q4 : M.1 3 3 = nI (N 8) := (hP.2.2.2.1 3 (by decide)).2.2.1
  have x4 : X.1 (s + shA 3) 3 = nI (N 8) := (hP.2.2.2.1 3 (by decide)).1
  have x0 : X.1 (s + shA 3) 0 = nI 4 := (hP.2.2.2.1 3 (by decide)).2.1
  have l4 : N 8 ≤ 4 := (hP.2.2.2.1 3 (by decide)).2.2.2
  have cq : Int32.toNatClampNeg 3 = 3 := by decide
  by_cases z : N 8 < 4
  · obtain ⟨X', M', r, a1, a2, a3, a4⟩ := thing_line hC h hP (by omega) (show 3 < 4 by decide) (by decide) (show N (5 + 3) < lmA 3 from z)
    have a1 : fX3_readThing n X (s + shA 3) 9 = _ := a1
    have a3 : bd (fX11_readRow n M 3 8 9) (fun S _ => fX11_readLine_j220 n S) = _ := a3
    refine ⟨X', M', r, ?_, ?_, a4⟩
    · unfold fX3_readLine
      rw [h.2.1.2.1, hk, if_neg (show ¬ nI 9 = 5 by decide), if_neg (show ¬ nI 9 = 6 by decide), if_neg (show ¬ nI 9 = 7 by decide), if_neg (show ¬ nI 9 = 8 by decide), if_pos (show nI 9 = 9 from rfl), hr, gd_pos kk, k9, gd_pos k1, a1, bd_go, gd_pos a2]
    · unfold fX11_readLine
      rw [no_num hC h hP (fun w => by omega) (fun w => by omega) (fun w => by omega) (fun w => by omega), bd_go, if_pos rfl, isWord_n hC h (show 1 < 14 by decide) (w := 6584677) rfl (by omega), bd_go, if_pos rfl, e51 hC h hP (fun w => by omega), e85 hC h hP (fun w => by omega)]
      unfold fX11_readLine_j120
      rw [isWord_y hC h (show 4 < 14 by decide) (w := 6650213) rfl (by omega), bd_go, if_neg one_ne, gd_pos (show ib 3 5 by decide), cq, q4, if_neg (show ¬ (4 : Int32) ≤ nI (N 8) from nI_ge (b := 4) z (by decide)), a3]
  · refine line_bad hC h (ref_bad hC h hP (fun w => by omega) (fun w => by omega) (fun w => by omega) (fun w => by omega) (fun _ => by omega) (fun w => by omega) (fun w => by omega) (fun w => by omega) (fun w => by omega) (fun w => by omega)) (fun X' M' w1 w2 => ⟨0, ?_⟩)
    unfold fX3_readLine fX3_readThing fX3_openThing fX5_isFull
    rw [h.2.1.2.1, hk, if_neg (show ¬ nI 9 = 5 by decide), if_neg (show ¬ nI 9 = 6 by decide), if_neg (show ¬ nI 9 = 7 by decide), if_neg (show ¬ nI 9 = 8 by decide), if_pos (show nI 9 = 9 from rfl), hr, gd_pos kk, k9, gd_pos k1, gd_pos k1, gd_pos k1, x4, x0, if_neg (nI_nlt (by omega) (by omega)), bd_go, if_neg one_ne, w1, bd_go, gd_pos (Or.inl rfl), bd_go, if_pos rfl, bd_go, gd_pos (Or.inl rfl)]
theorem line_6 (hC : TC n s c t K P Q R V A X0 M0) (h : Sy s c K P Q R V A X0 M0 i X M) (hP : PB s N H X M) (hk : K i = 6) : ∃ X' M' r, fX3_readLine n X = some (X', r) ∧ fX11_readLine n M = some (M', ()) ∧ LnO s c K P Q R V A X0 M0 i X M X' M' := by
  obtain ⟨⟨c1, c2, c3⟩, -⟩ := id hC
  obtain ⟨kk, -⟩ := bk c2
  obtain ⟨k1, -, -, -, -, -, -, -, k9⟩ := shf c2 (show 0 < 5 by decide)
  obtain ⟨k1', -, -, -, -, -, -, -, k9'⟩ := shf c2 (show 4 < 5 by decide)
  have hr : X.2.2 151 1 = s := by rw [h.1.1.2.2.1]; exact c3
  have q0 : M.1 3 0 = nI (N 5) := (hP.2.2.2.1 0 (by decide)).2.2.1
  have q4 : M.1 3 4 = nI (N 9) := (hP.2.2.2.1 4 (by decide)).2.2.1
  have x4 : X.1 (s + shA 4) 3 = nI (N 9) := (hP.2.2.2.1 4 (by decide)).1
  have x3 : X.1 (s + shA 0) 3 = nI (N 5) := (hP.2.2.2.1 0 (by decide)).1
  have x0 : X.1 (s + shA 0) 0 = nI 8 := (hP.2.2.2.1 0 (by decide)).2.1
  have l0 : N 5 ≤ 8 := (hP.2.2.2.1 0 (by decide)).2.2.2
  have l4 : N 9 ≤ 8 := (hP.2.2.2.1 4 (by decide)).2.2.2
  have c0 : Int32.toNatClampNeg 0 = 0 := by decide
  have c4 : Int32.toNatClampNeg 4 = 4 := by decide
  by_cases z : N 5 < 8 ∧ N 9 = 0
  · obtain ⟨X', M', r, a1, a2, a3, a4⟩ := dye_line hC h hP (by omega) z.2 z.1
    refine ⟨X', M', r, ?_, ?_, a4⟩
    · unfold fX3_readLine
      rw [h.2.1.2.1, hk, if_neg (show ¬ nI 6 = 5 by decide), if_pos (show nI 6 = 6 from rfl), a1, bd_go, gd_pos a2]
    · unfold fX11_readLine
      rw [no_num hC h hP (fun w => by omega) (fun w => by omega) (fun w => by omega) (fun w => by omega), bd_go, if_pos rfl, isWord_y hC h (show 1 < 14 by decide) (w := 6584677) rfl (by omega), bd_go, if_neg one_ne, gd_pos (show ib 0 5 by decide), c0, q0, if_neg (nle8 z.1), gd_pos (show ib 4 5 by decide), c4, q4, z.2, if_pos (show nI 0 = 0 from rfl), a3]
  · refine line_bad hC h (ref_bad hC h hP (fun w => by omega) (fun _ => by omega) (fun w => by omega) (fun w => by omega) (fun w => by omega) (fun w => by omega) (fun w => by omega) (fun w => by omega) (fun w => by omega) (fun w => by omega)) (fun X' M' w1 w2 => ⟨0, ?_⟩)
    unfold fX3_readLine fX3_readDye fX3_readDye_j38
    rw [h.2.1.2.1, hk, if_neg (show ¬ nI 6 = 5 by decide), if_pos (show nI 6 = 6 from rfl), hr, gd_pos kk, k9, gd_pos k1, bn_go, k9', gd_pos k1', x4]
    by_cases z2 : N 9 = 0
    · rw [z2, if_neg (show ¬ (0 : Int32) < nI 0 by decide)]
      unfold fX3_openThing fX5_isFull
      rw [gd_pos k1, gd_pos k1, x3, x0, if_neg (nI_nlt (by omega) (by omega)), bd_go, if_neg one_ne, w1, bd_go, gd_pos (Or.inl rfl), bd_go, if_pos rfl, Ft_X w2, bd_go, gd_pos (Or.inl rfl), bd_go, gd_pos (Or.inl rfl)]
    · rw [if_pos (show (0 : Int32) < nI (N 9) from nI_lt (a := 0) (by omega) (by omega)), w1, bd_go, gd_pos (Or.inl rfl), bd_go, gd_pos (Or.inl rfl)]
theorem line_10 (hC : TC n s c t K P Q R V A X0 M0) (h : Sy s c K P Q R V A X0 M0 i X M) (hP : PB s N H X M) (hk : K i = 10) : ∃ X' M' r, fX3_readLine n X = some (X', r) ∧ fX11_readLine n M = some (M', ()) ∧ LnO s c K P Q R V A X0 M0 i X M X' M' := by
  obtain ⟨⟨c1, c2, c3⟩, -⟩ := id hC
  obtain ⟨kk, -⟩ := bk c2
  obtain ⟨k1, -, -, -, -, -, -, -, k9⟩ := shf c2 (show 0 < 5 by decide)
  obtain ⟨k1', -, -, -, -, -, -, -, k9'⟩ := shf c2 (show 4 < 5 by decide)
  have hr : X.2.2 151 1 = s := by rw [h.1.1.2.2.1]; exact c3
  have q0 : M.1 3 0 = nI (N 5) := (hP.2.2.2.1 0 (by decide)).2.2.1
  have q4 : M.1 3 4 = nI (N 9) := (hP.2.2.2.1 4 (by decide)).2.2.1
  have x4 : X.1 (s + shA 4) 3 = nI (N 9) := (hP.2.2.2.1 4 (by decide)).1
  have x0 : X.1 (s + shA 4) 0 = nI 8 := (hP.2.2.2.1 4 (by decide)).2.1
  have x3 : X.1 (s + shA 0) 3 = nI (N 5) := (hP.2.2.2.1 0 (by decide)).1
  have l0 : N 5 ≤ 8 := (hP.2.2.2.1 0 (by decide)).2.2.2
  have l4 : N 9 ≤ 8 := (hP.2.2.2.1 4 (by decide)).2.2.2
  have c0 : Int32.toNatClampNeg 0 = 0 := by decide
  have c4 : Int32.toNatClampNeg 4 = 4 := by decide
  by_cases z : N 9 < 8 ∧ 0 < N 5
  · obtain ⟨X', M', r, a1, a2, a3, a4⟩ := good_line hC h hP (by omega) z.2 z.1
    refine ⟨X', M', r, ?_, ?_, a4⟩
    · unfold fX3_readLine
      rw [h.2.1.2.1, hk, if_neg (show ¬ nI 10 = 5 by decide), if_neg (show ¬ nI 10 = 6 by decide), if_neg (show ¬ nI 10 = 7 by decide), if_neg (show ¬ nI 10 = 8 by decide), if_neg (show ¬ nI 10 = 9 by decide), if_pos (show nI 10 = 10 from rfl), a1, bd_go, gd_pos a2]
    · unfold fX11_readLine
      rw [no_num hC h hP (fun w => by omega) (fun w => by omega) (fun w => by omega) (fun w => by omega), bd_go, if_pos rfl, isWord_n hC h (show 1 < 14 by decide) (w := 6584677) rfl (by omega), bd_go, if_pos rfl, e51 hC h hP (fun w => by omega), e85 hC h hP (fun w => by omega), e120 hC h hP (fun w => by omega)]
      unfold fX11_readLine_j154
      rw [isWord_y hC h (show 5 < 14 by decide) (w := 1735356260) rfl (by omega), bd_go, if_neg one_ne, gd_pos (show ib 4 5 by decide), c4, q4, if_neg (nle8 z.1), gd_pos (show ib 0 5 by decide), c0, q0, if_neg (nI_nle z.2 (by omega)), a3]
  · refine line_bad hC h (ref_bad hC h hP (fun w => by omega) (fun w => by omega) (fun w => by omega) (fun w => by omega) (fun w => by omega) (fun _ => by omega) (fun w => by omega) (fun w => by omega) (fun w => by omega) (fun w => by omega)) (fun X' M' w1 w2 => ⟨0, ?_⟩)
    unfold fX3_readLine fX3_readGood fX3_readGood_j38
    rw [h.2.1.2.1, hk, if_neg (show ¬ nI 10 = 5 by decide), if_neg (show ¬ nI 10 = 6 by decide), if_neg (show ¬ nI 10 = 7 by decide), if_neg (show ¬ nI 10 = 8 by decide), if_neg (show ¬ nI 10 = 9 by decide), if_pos (show nI 10 = 10 from rfl), hr, gd_pos kk, k9', gd_pos k1', bn_go, k9, gd_pos k1, x3]
    by_cases z2 : N 5 = 0
    · rw [z2, if_pos (show nI 0 = 0 from rfl), w1, bd_go, gd_pos (Or.inl rfl), bd_go, gd_pos (Or.inl rfl)]
    · rw [if_neg (nI_ne0 (by omega) (by omega))]
      unfold fX3_openThing fX5_isFull
      rw [gd_pos k1', gd_pos k1', x4, x0, if_neg (nI_nlt (by omega) (by omega)), bd_go, if_neg one_ne, w1, bd_go, gd_pos (Or.inl rfl), bd_go, if_pos rfl, Ft_X w2, bd_go, gd_pos (Or.inl rfl), bd_go, gd_pos (Or.inl rfl)]
theorem line_13 (hC : TC n s c t K P Q R V A X0 M0) (h : Sy s c K P Q R V A X0 M0 i X M) (hP : PB s N H X M) (hk : K i = 13) : ∃ X' M' r, fX3_readLine n X = some (X', r) ∧ fX11_readLine n M = some (M', ()) ∧ LnO s c K P Q R V A X0 M0 i X M X' M' := by
  obtain ⟨h1, h2⟩ := hP.2.2.2.2.2.2.2.2.2.1 3 (by decide)
  have h2 : M.1 0 40 = nI (H 3) := h2
  by_cases z : H 3 = 0
  · obtain ⟨X', M', r, a1, a2, a3, a4⟩ := over_line hC h hP hk z
    refine ⟨X', M', r, ?_, ?_, a4⟩
    · unfold fX3_readLine
      rw [h.2.1.2.1, hk, if_neg (show ¬ nI 13 = 5 by decide), if_neg (show ¬ nI 13 = 6 by decide), if_neg (show ¬ nI 13 = 7 by decide), if_neg (show ¬ nI 13 = 8 by decide), if_neg (show ¬ nI 13 = 9 by decide), if_neg (show ¬ nI 13 = 10 by decide), if_neg (show ¬ nI 13 = 11 by decide), if_neg (show ¬ nI 13 = 12 by decide), if_pos (show nI 13 = 13 from rfl), a1, bd_go, gd_pos a2]
    · unfold fX11_readLine
      rw [no_num hC h hP (fun w => by omega) (fun w => by omega) (fun w => by omega) (fun w => by omega), bd_go, if_pos rfl, isWord_n hC h (show 1 < 14 by decide) (w := 6584677) rfl (by omega), bd_go, if_pos rfl, e51 hC h hP (fun w => by omega), e85 hC h hP (fun w => by omega), e120 hC h hP (fun w => by omega), e154 hC h hP (fun w => by omega)]
      unfold fX11_readLine_j191
      rw [isWord_y hC h (show 8 < 14 by decide) (w := 1870030194) rfl (by omega), bd_go, if_neg one_ne, h2, z, if_pos (show nI 0 = 0 from rfl), a3]
  · refine line_bad hC h (ref_bad hC h hP (fun w => by omega) (fun w => by omega) (fun w => by omega) (fun w => by omega) (fun w => by omega) (fun w => by omega) (fun w => by omega) (fun w => by omega) (fun _ => z) (fun w => by omega)) (fun X' M' w1 w2 => ⟨0, ?_⟩)
    unfold fX3_readLine fX3_readOver
    rw [h.2.1.2.1, hk, if_neg (show ¬ nI 13 = 5 by decide), if_neg (show ¬ nI 13 = 6 by decide), if_neg (show ¬ nI 13 = 7 by decide), if_neg (show ¬ nI 13 = 8 by decide), if_neg (show ¬ nI 13 = 9 by decide), if_neg (show ¬ nI 13 = 10 by decide), if_neg (show ¬ nI 13 = 11 by decide), if_neg (show ¬ nI 13 = 12 by decide), if_pos (show nI 13 = 13 from rfl), once_no hC h hP (show 3 < 5 by decide) hk z w1, bd_go, if_pos rfl, bd_go, gd_pos (Or.inl rfl)]
theorem line_12 (hC : TC n s c t K P Q R V A X0 M0) (h : Sy s c K P Q R V A X0 M0 i X M) (hP : PB s N H X M) (hk : K i = 12) : ∃ X' M' r, fX3_readLine n X = some (X', r) ∧ fX11_readLine n M = some (M', ()) ∧ LnO s c K P Q R V A X0 M0 i X M X' M' := by
  obtain ⟨h1, h2⟩ := hP.2.2.2.2.2.2.2.2.2.1 2 (by decide)
  have h2 : M.1 0 39 = nI (H 2) := h2
  by_cases z : H 2 = 0
  · obtain ⟨X', M', r, a1, a2, a3, a4⟩ := num_line (F := fun S => some (S, 0)) (f := 2) (lo := 0) (hi := 9999) (lo' := 0) (hi' := 9999) hC h hP (show 2 < 5 by decide) (by decide) hk z rfl rfl (by decide) (by decide) (by decide) (fun w => absurd w (by decide)) (fun w => absurd w (by decide)) (fun w => by first | exact absurd w (by decide) | rfl) (fun _ _ _ => rfl)
    have a1 : fX3_readAlike n X = _ := a1
    refine ⟨X', M', r, ?_, ?_, a4⟩
    · unfold fX3_readLine
      rw [h.2.1.2.1, hk, if_neg (show ¬ nI 12 = 5 by decide), if_neg (show ¬ nI 12 = 6 by decide), if_neg (show ¬ nI 12 = 7 by decide), if_neg (show ¬ nI 12 = 8 by decide), if_neg (show ¬ nI 12 = 9 by decide), if_neg (show ¬ nI 12 = 10 by decide), if_neg (show ¬ nI 12 = 11 by decide), if_pos (show nI 12 = 12 from rfl), a1, bd_go, gd_pos a2]
    · have en : fX11_isNumberLine n M = some (M, 1) := by
        unfold fX11_isNumberLine fX11_isNumberLine_j24 fX11_isNumberLine_j50 fX11_isNumberLine_j67 fX11_isNumberLine_j84
        rw [isWord_n hC h (show 0 < 14 by decide) (w := 422541419635) rfl (by omega), bd_go, if_pos rfl, isWord_n hC h (show 6 < 14 by decide) (w := 1836020596) rfl (by omega), bd_go, if_pos rfl, isWord_y hC h (show 7 < 14 by decide) (w := 418430675813) rfl (by omega), bd_go, if_neg one_ne, h2, z, if_pos (show nI 0 = 0 from rfl)]
      unfold fX11_readLine
      rw [en, bd_go, if_neg one_ne, ← a3]
      unfold fX11_readNumberLine
      rw [isWord_n hC h (show 0 < 14 by decide) (w := 422541419635) rfl (by omega), bd_go, if_pos rfl, isWord_n hC h (show 6 < 14 by decide) (w := 1836020596) rfl (by omega), bd_go, if_pos rfl, isWord_y hC h (show 7 < 14 by decide) (w := 418430675813) rfl (by omega), bd_go, if_neg one_ne, bn_go, bd_as]
      rfl
  · refine line_bad hC h (ref_bad hC h hP (fun w => by omega) (fun w => by omega) (fun w => by omega) (fun w => by omega) (fun w => by omega) (fun w => by omega) (fun w => by omega) (fun _ => z) (fun w => by omega) (fun w => by omega)) (fun X' M' w1 w2 => ⟨0, ?_⟩)
    unfold fX3_readLine fX3_readAlike
    rw [h.2.1.2.1, hk, if_neg (show ¬ nI 12 = 5 by decide), if_neg (show ¬ nI 12 = 6 by decide), if_neg (show ¬ nI 12 = 7 by decide), if_neg (show ¬ nI 12 = 8 by decide), if_neg (show ¬ nI 12 = 9 by decide), if_neg (show ¬ nI 12 = 10 by decide), if_neg (show ¬ nI 12 = 11 by decide), if_pos (show nI 12 = 12 from rfl), once_no hC h hP (show 2 < 5 by decide) hk z w1, bd_go, if_pos rfl, bd_go, gd_pos (Or.inl rfl)]
theorem line_14 (hC : TC n s c t K P Q R V A X0 M0) (h : Sy s c K P Q R V A X0 M0 i X M) (hP : PB s N H X M) (hk : K i = 14) : ∃ X' M' r, fX3_readLine n X = some (X', r) ∧ fX11_readLine n M = some (M', ()) ∧ LnO s c K P Q R V A X0 M0 i X M X' M' := by
  obtain ⟨h1, h2⟩ := hP.2.2.2.2.2.2.2.2.2.1 4 (by decide)
  have h2 : M.1 0 41 = nI (H 4) := h2
  by_cases z : H 4 = 0
  · obtain ⟨X', M', r, a1, a2, a3, a4⟩ := num_line (F := fun S => some (S, 0)) (f := 3) (lo := 0) (hi := 9) (lo' := 0) (hi' := 9) hC h hP (show 4 < 5 by decide) (by decide) hk z rfl rfl (by decide) (by decide) (by decide) (fun w => absurd w (by decide)) (fun w => absurd w (by decide)) (fun w => by first | exact absurd w (by decide) | rfl) (fun _ _ _ => rfl)
    have a1 : fX3_readSlip n X = _ := a1
    refine ⟨X', M', r, ?_, ?_, a4⟩
    · unfold fX3_readLine
      rw [h.2.1.2.1, hk, if_neg (show ¬ nI 14 = 5 by decide), if_neg (show ¬ nI 14 = 6 by decide), if_neg (show ¬ nI 14 = 7 by decide), if_neg (show ¬ nI 14 = 8 by decide), if_neg (show ¬ nI 14 = 9 by decide), if_neg (show ¬ nI 14 = 10 by decide), if_neg (show ¬ nI 14 = 11 by decide), if_neg (show ¬ nI 14 = 12 by decide), if_neg (show ¬ nI 14 = 13 by decide), if_pos (show nI 14 = 14 from rfl), a1, bd_go, gd_pos a2]
    · have en : fX11_isNumberLine n M = some (M, 1) := by
        unfold fX11_isNumberLine fX11_isNumberLine_j24 fX11_isNumberLine_j50 fX11_isNumberLine_j67 fX11_isNumberLine_j84
        rw [isWord_n hC h (show 0 < 14 by decide) (w := 422541419635) rfl (by omega), bd_go, if_pos rfl, isWord_n hC h (show 6 < 14 by decide) (w := 1836020596) rfl (by omega), bd_go, if_pos rfl, isWord_n hC h (show 7 < 14 by decide) (w := 418430675813) rfl (by omega), bd_go, if_pos rfl, isWord_y hC h (show 9 < 14 by decide) (w := 1936484720) rfl (by omega), bd_go, if_neg one_ne, h2, z, if_pos (show nI 0 = 0 from rfl)]
      unfold fX11_readLine
      rw [en, bd_go, if_neg one_ne, ← a3]
      unfold fX11_readNumberLine
      rw [isWord_n hC h (show 0 < 14 by decide) (w := 422541419635) rfl (by omega), bd_go, if_pos rfl, isWord_n hC h (show 6 < 14 by decide) (w := 1836020596) rfl (by omega), bd_go, if_pos rfl, isWord_n hC h (show 7 < 14 by decide) (w := 418430675813) rfl (by omega), bd_go, if_pos rfl, bn_go, bd_as]
      rfl
  · refine line_bad hC h (ref_bad hC h hP (fun w => by omega) (fun w => by omega) (fun w => by omega) (fun w => by omega) (fun w => by omega) (fun w => by omega) (fun w => by omega) (fun w => by omega) (fun w => by omega) (fun _ => z)) (fun X' M' w1 w2 => ⟨0, ?_⟩)
    unfold fX3_readLine fX3_readSlip
    rw [h.2.1.2.1, hk, if_neg (show ¬ nI 14 = 5 by decide), if_neg (show ¬ nI 14 = 6 by decide), if_neg (show ¬ nI 14 = 7 by decide), if_neg (show ¬ nI 14 = 8 by decide), if_neg (show ¬ nI 14 = 9 by decide), if_neg (show ¬ nI 14 = 10 by decide), if_neg (show ¬ nI 14 = 11 by decide), if_neg (show ¬ nI 14 = 12 by decide), if_neg (show ¬ nI 14 = 13 by decide), if_pos (show nI 14 = 14 from rfl), once_no hC h hP (show 4 < 5 by decide) hk z w1, bd_go, if_pos rfl, bd_go, gd_pos (Or.inl rfl)]
theorem line_11 (hC : TC n s c t K P Q R V A X0 M0) (h : Sy s c K P Q R V A X0 M0 i X M) (hP : PB s N H X M) (hk : K i = 11) : ∃ X' M' r, fX3_readLine n X = some (X', r) ∧ fX11_readLine n M = some (M', ()) ∧ LnO s c K P Q R V A X0 M0 i X M X' M' := by
  obtain ⟨⟨c1, c2, c3⟩, -⟩ := id hC
  obtain ⟨kk, -⟩ := bk c2
  obtain ⟨k1', -, -, -, -, -, -, -, k9'⟩ := shf c2 (show 4 < 5 by decide)
  have hr : X.2.2 151 1 = s := by rw [h.1.1.2.2.1]; exact c3
  obtain ⟨h1, h2⟩ := hP.2.2.2.2.2.2.2.2.2.1 1 (by decide)
  have h2 : M.1 0 38 = nI (H 1) := h2
  have q4 : M.1 3 4 = nI (N 9) := (hP.2.2.2.1 4 (by decide)).2.2.1
  have x4 : X.1 (s + shA 4) 3 = nI (N 9) := (hP.2.2.2.1 4 (by decide)).1
  have l4 : N 9 ≤ 8 := (hP.2.2.2.1 4 (by decide)).2.2.2
  have c4 : Int32.toNatClampNeg 4 = 4 := by decide
  by_cases z : H 1 = 0 ∧ N 9 = 0
  · obtain ⟨X', M', r, a1, a2, a3, a4⟩ := num_line (F := fX3_readMost_j30 n) (f := 1) (lo := 1) (hi := 24) (lo' := 1) (hi' := 24) hC h hP (show 1 < 5 by decide) (by decide) hk z.1 rfl rfl (by decide) (by decide) (by decide) (fun w => absurd w (by decide)) (fun _ => ⟨⟨rfl, rfl⟩, z.2⟩) (fun w => absurd w (by decide)) (fun Y W w => by
      unfold fX3_readMost_j30
      rw [Ft_X w, bd_go, gd_pos (Or.inl rfl)])
    refine ⟨X', M', r, ?_, ?_, a4⟩
    · unfold fX3_readLine fX3_readMost
      rw [h.2.1.2.1, hk, if_neg (show ¬ nI 11 = 5 by decide), if_neg (show ¬ nI 11 = 6 by decide), if_neg (show ¬ nI 11 = 7 by decide), if_neg (show ¬ nI 11 = 8 by decide), if_neg (show ¬ nI 11 = 9 by decide), if_neg (show ¬ nI 11 = 10 by decide), if_pos (show nI 11 = 11 from rfl), hr, gd_pos kk, k9', gd_pos k1', x4, z.2, if_neg (show ¬ (0 : Int32) < nI 0 by decide)]
      have e := bd_to (k := fun S31 r32 => gd (r32 = 0 ∨ r32 = 1) (some (S31, r32))) a1
      exact e.trans (gd_pos a2)
    · have en : fX11_isNumberLine n M = some (M, 1) := by
        unfold fX11_isNumberLine fX11_isNumberLine_j24 fX11_isNumberLine_j84
        rw [isWord_n hC h (show 0 < 14 by decide) (w := 422541419635) rfl (by omega), bd_go, if_pos rfl, isWord_y hC h (show 6 < 14 by decide) (w := 1836020596) rfl (by omega), bd_go, if_neg one_ne, h2, z.1, if_pos (show nI 0 = 0 from rfl), gd_pos (show ib 4 5 by decide), c4, q4, z.2, if_pos (show nI 0 = 0 from rfl)]
      unfold fX11_readLine
      rw [en, bd_go, if_neg one_ne, ← a3]
      unfold fX11_readNumberLine
      rw [isWord_n hC h (show 0 < 14 by decide) (w := 422541419635) rfl (by omega), bd_go, if_pos rfl, isWord_y hC h (show 6 < 14 by decide) (w := 1836020596) rfl (by omega), bd_go, if_neg one_ne, bn_go, bd_as]
      rfl
  · refine line_bad hC h (ref_bad hC h hP (fun w => by omega) (fun w => by omega) (fun w => by omega) (fun w => by omega) (fun w => by omega) (fun w => by omega) (fun _ => by omega) (fun w => by omega) (fun w => by omega) (fun w => by omega)) (fun X' M' w1 w2 => ⟨0, ?_⟩)
    unfold fX3_readLine fX3_readMost fX3_readMost_j30
    rw [h.2.1.2.1, hk, if_neg (show ¬ nI 11 = 5 by decide), if_neg (show ¬ nI 11 = 6 by decide), if_neg (show ¬ nI 11 = 7 by decide), if_neg (show ¬ nI 11 = 8 by decide), if_neg (show ¬ nI 11 = 9 by decide), if_neg (show ¬ nI 11 = 10 by decide), if_pos (show nI 11 = 11 from rfl), hr, gd_pos kk, k9', gd_pos k1', x4]
    by_cases z2 : N 9 = 0
    · rw [z2, if_neg (show ¬ (0 : Int32) < nI 0 by decide), once_no hC h hP (show 1 < 5 by decide) hk (by omega) w1, bd_go, if_pos rfl, Ft_X w2, bd_go, gd_pos (Or.inl rfl), bd_go, gd_pos (Or.inl rfl)]
    · rw [if_pos (show (0 : Int32) < nI (N 9) from nI_lt (a := 0) (by omega) (by omega)), w1, bd_go, gd_pos (Or.inl rfl), bd_go, gd_pos (Or.inl rfl)]
theorem line_5 (hC : TC n s c t K P Q R V A X0 M0) (h : Sy s c K P Q R V A X0 M0 i X M) (hP : PB s N H X M) (hk : K i = 5) : ∃ X' M' r, fX3_readLine n X = some (X', r) ∧ fX11_readLine n M = some (M', ()) ∧ LnO s c K P Q R V A X0 M0 i X M X' M' := by
  obtain ⟨⟨c1, c2, c3⟩, -⟩ := id hC
  obtain ⟨kk, -⟩ := bk c2
  obtain ⟨k0, -, -, -, -, -, -, -, s0⟩ := shf c2 (show 0 < 5 by decide)
  obtain ⟨k1, -, -, -, -, -, -, -, s1⟩ := shf c2 (show 1 < 5 by decide)
  obtain ⟨k2, -, -, -, -, -, -, -, s2⟩ := shf c2 (show 2 < 5 by decide)
  obtain ⟨k3, -, -, -, -, -, -, -, s3⟩ := shf c2 (show 3 < 5 by decide)
  have hr : X.2.2 151 1 = s := by rw [h.1.1.2.2.1]; exact c3
  obtain ⟨h1, h2⟩ := hP.2.2.2.2.2.2.2.2.2.1 0 (by decide)
  have h2 : M.1 0 37 = nI (H 0) := h2
  have q0 : M.1 3 0 = nI (N 5) := (hP.2.2.2.1 0 (by decide)).2.2.1
  have q1 : M.1 3 1 = nI (N 6) := (hP.2.2.2.1 1 (by decide)).2.2.1
  have q2 : M.1 3 2 = nI (N 7) := (hP.2.2.2.1 2 (by decide)).2.2.1
  have q3 : M.1 3 3 = nI (N 8) := (hP.2.2.2.1 3 (by decide)).2.2.1
  have x0 : X.1 (s + shA 0) 3 = nI (N 5) := (hP.2.2.2.1 0 (by decide)).1
  have x1 : X.1 (s + shA 1) 3 = nI (N 6) := (hP.2.2.2.1 1 (by decide)).1
  have x2 : X.1 (s + shA 2) 3 = nI (N 7) := (hP.2.2.2.1 2 (by decide)).1
  have x3 : X.1 (s + shA 3) 3 = nI (N 8) := (hP.2.2.2.1 3 (by decide)).1
  have l0 : N 5 ≤ 8 := (hP.2.2.2.1 0 (by decide)).2.2.2
  have l1 : N 6 ≤ 4 := (hP.2.2.2.1 1 (by decide)).2.2.2
  have l2 : N 7 ≤ 6 := (hP.2.2.2.1 2 (by decide)).2.2.2
  have l3 : N 8 ≤ 4 := (hP.2.2.2.1 3 (by decide)).2.2.2
  have d0 : Int32.toNatClampNeg 0 = 0 := by decide
  have d1 : Int32.toNatClampNeg 1 = 1 := by decide
  have d2 : Int32.toNatClampNeg 2 = 2 := by decide
  have d3 : Int32.toNatClampNeg 3 = 3 := by decide
  by_cases z : H 0 = 0 ∧ N 5 + N 6 + N 7 + N 8 = 0
  · obtain ⟨X', M', r, a1, a2, a3, a4⟩ := num_line (F := fX3_readBands_j73 n) (f := 0) (lo := 1) (hi := 16) (lo' := 1) (hi' := 16) hC h hP (show 0 < 5 by decide) (by decide) hk z.1 rfl rfl (by decide) (by decide) (by decide) (fun _ => ⟨⟨rfl, rfl⟩, by omega, by omega, by omega, by omega⟩) (fun w => absurd w (by decide)) (fun w => absurd w (by decide)) (fun Y W w => by
      unfold fX3_readBands_j73
      rw [Ft_X w, bd_go, gd_pos (Or.inl rfl)])
    refine ⟨X', M', r, ?_, ?_, a4⟩
    · unfold fX3_readLine fX3_readBands fX3_readBands_j51
      rw [h.2.1.2.1, hk, if_pos (show nI 5 = 5 from rfl), hr, gd_pos kk, s0, gd_pos k0, s1, gd_pos k1, s2, gd_pos k2, s3, gd_pos k3, x0, x1, x2, x3, nI_add, nI_add, nI_add, z.2, if_pos (show nI 0 ≤ 0 by decide), if_pos rfl]
      have e := bd_to (k := fun S1 r2 => gd (r2 = 0 ∨ r2 = 1) (some (S1, r2))) a1
      exact e.trans (gd_pos a2)
    · have en : fX11_isNumberLine n M = some (M, 1) := by
        unfold fX11_isNumberLine fX11_hasRows fX11_isNumberLine_j84
        rw [isWord_y hC h (show 0 < 14 by decide) (w := 422541419635) rfl (by omega), bd_go, if_neg one_ne, h2, z.1, if_pos (show nI 0 = 0 from rfl), gd_pos (show ib 0 5 by decide), gd_pos (show ib 1 5 by decide), gd_pos (show ib 2 5 by decide), gd_pos (show ib 3 5 by decide), d0, d1, d2, d3, q0, q1, q2, q3, nI_add, nI_add, nI_add, z.2, if_pos (show nI 0 ≤ 0 by decide), bd_go, if_pos rfl]
      unfold fX11_readLine
      rw [en, bd_go, if_neg one_ne, ← a3]
      unfold fX11_readNumberLine
      rw [isWord_y hC h (show 0 < 14 by decide) (w := 422541419635) rfl (by omega), bd_go, if_neg one_ne, bn_go, bd_as]
      rfl
  · refine line_bad hC h (ref_bad hC h hP (fun _ => by omega) (fun w => by omega) (fun w => by omega) (fun w => by omega) (fun w => by omega) (fun w => by omega) (fun w => by omega) (fun w => by omega) (fun w => by omega) (fun w => by omega)) (fun X' M' w1 w2 => ⟨0, ?_⟩)
    unfold fX3_readLine fX3_readBands fX3_readBands_j51 fX3_readBands_j73
    rw [h.2.1.2.1, hk, if_pos (show nI 5 = 5 from rfl), hr, gd_pos kk, s0, gd_pos k0, s1, gd_pos k1, s2, gd_pos k2, s3, gd_pos k3, x0, x1, x2, x3, nI_add, nI_add, nI_add]
    by_cases z2 : N 5 + N 6 + N 7 + N 8 = 0
    · rw [z2, if_pos (show nI 0 ≤ 0 by decide), if_pos rfl, once_no hC h hP (show 0 < 5 by decide) hk (by omega) w1, bd_go, if_pos rfl, Ft_X w2, bd_go, gd_pos (Or.inl rfl), bd_go, gd_pos (Or.inl rfl)]
    · rw [if_neg (nI_nle (by omega) (by omega)), if_neg one_ne, w1, bd_go, gd_pos (Or.inl rfl), bd_go, gd_pos (Or.inl rfl)]
theorem any_line (hC : TC n s c t K P Q R V A X0 M0) (h : Sy s c K P Q R V A X0 M0 i X M) (hP : PB s N H X M) (hK : K i ≠ 0) : ∃ X' M' r, fX3_readLine n X = some (X', r) ∧ fX11_readLine n M = some (M', ()) ∧ LnO s c K P Q R V A X0 M0 i X M X' M' := by
  have k18 := (hC.2.2.2.2.1 i h.1.2.2).1
  by_cases z : 5 ≤ K i ∧ K i ≤ 14
  · rcases (show K i = 5 ∨ K i = 6 ∨ K i = 7 ∨ K i = 8 ∨ K i = 9 ∨ K i = 10 ∨ K i = 11 ∨ K i = 12 ∨ K i = 13 ∨ K i = 14 by omega) with w | w | w | w | w | w | w | w | w | w
    · exact line_5 hC h hP w
    · exact line_6 hC h hP w
    · exact line_7 hC h hP w
    · exact line_8 hC h hP w
    · exact line_9 hC h hP w
    · exact line_10 hC h hP w
    · exact line_11 hC h hP w
    · exact line_12 hC h hP w
    · exact line_13 hC h hP w
    · exact line_14 hC h hP w
  · refine line_bad hC h (ref_bad hC h hP (fun w => by omega) (fun w => by omega) (fun w => by omega) (fun w => by omega) (fun w => by omega) (fun w => by omega) (fun w => by omega) (fun w => by omega) (fun w => by omega) (fun w => by omega)) (fun X' M' w1 w2 => ⟨0, ?_⟩)
    have ne : ∀ k : Nat, 5 ≤ k → k ≤ 14 → ¬ nI (K i) = nI k := fun k a b w => by
      have := (nI_eq (by omega) (by omega)).mp w
      omega
    unfold fX3_readLine
    rw [h.2.1.2.1, if_neg (show ¬ nI (K i) = 5 from ne 5 (by decide) (by decide)), if_neg (show ¬ nI (K i) = 6 from ne 6 (by decide) (by decide)), if_neg (show ¬ nI (K i) = 7 from ne 7 (by decide) (by decide)), if_neg (show ¬ nI (K i) = 8 from ne 8 (by decide) (by decide)), if_neg (show ¬ nI (K i) = 9 from ne 9 (by decide) (by decide)), if_neg (show ¬ nI (K i) = 10 from ne 10 (by decide) (by decide)), if_neg (show ¬ nI (K i) = 11 from ne 11 (by decide) (by decide)), if_neg (show ¬ nI (K i) = 12 from ne 12 (by decide) (by decide)), if_neg (show ¬ nI (K i) = 13 from ne 13 (by decide) (by decide)), if_neg (show ¬ nI (K i) = 14 from ne 14 (by decide) (by decide)), w1, bd_go, gd_pos (Or.inl rfl)]
end
