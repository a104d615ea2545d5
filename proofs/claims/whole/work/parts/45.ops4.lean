theorem some_snd {α β : Type} {S : α} {a b : β} (h : a = b) : some (S, a) = some (S, b) := by rw [h]
theorem ix8 {i k : Nat} : (8 : Int32) * nI i + nI k = nI (8 * i + k) := by rw [show (8 : Int32) = nI 8 from rfl, pk_mul, nI_add]
theorem ix16 {i k : Nat} : (16 : Int32) * nI i + nI k = nI (16 * i + k) := by rw [show (16 : Int32) = nI 16 from rfl, pk_mul, nI_add]
theorem image_loop {n i : Nat} (hi : i < 3) : ∀ (m k : Nat) (S : St) (j : Nat), k + m = 8 → m < j → fX11_image_l18 n j S (nI i) (nI k) = fX11_image_j47 n (rI S 43 (fun q => if 8 * i + k ≤ q ∧ q < 8 * i + 8 then S.1 31 (q - 8 * i) else S.1 43 q)) (nI i) := by
  intro m
  induction m with
  | zero =>
    intro k S j h hj
    obtain ⟨j, rfl⟩ := suc_of hj
    rw [fX11_image_l18, if_pos (le8 (k := k) (by omega) (by omega)), rI_id (fun i => if_neg (by omega))]
  | succ m ih =>
    intro k S j h hj
    obtain ⟨j, rfl⟩ := suc_of hj
    rw [fX11_image_l18, if_neg (nle8 (k := k) (by omega)), gd_pos (ib_nI (by omega) (by decide)), ix8, gd_pos (ib_nI (by omega) (by decide)), bn_go, bn_go, nI_1, cl_nI (by omega), cl_nI (by omega), ih (k + 1) _ j (by omega) (by omega), rI_sI]
    refine congrArg (fun z => fX11_image_j47 n z (nI i)) (rI_ext fun q => ?_)
    rw [sI_row, sI_ne (show (31 : Nat) ≠ 43 by decide)]
    unfold upd
    by_cases e : q = 8 * i + k
    · subst e; rw [if_neg (by omega), if_pos rfl, if_pos (by omega), show 8 * i + k - 8 * i = k by omega]
    · rw [if_neg e]
      by_cases q2 : 8 * i + (k + 1) ≤ q ∧ q < 8 * i + 8
      · rw [if_pos q2, if_pos (by omega)]
      · rw [if_neg q2, if_neg (by omega)]
theorem back_loop {n i : Nat} (hi : i < 3) : ∀ (m k : Nat) (S : St) (j : Nat), k + m = 8 → m < j → fX11_back_l20 n j S (nI i) (nI k) = fX11_back_j49 n (rI S 31 (fun q => if k ≤ q ∧ q < 8 then S.1 43 (8 * i + q) else S.1 31 q)) (nI i) := by
  intro m
  induction m with
  | zero =>
    intro k S j h hj
    obtain ⟨j, rfl⟩ := suc_of hj
    rw [fX11_back_l20, if_pos (le8 (k := k) (by omega) (by omega)), rI_id (fun i => if_neg (by omega))]
  | succ m ih =>
    intro k S j h hj
    obtain ⟨j, rfl⟩ := suc_of hj
    rw [fX11_back_l20, if_neg (nle8 (k := k) (by omega)), ix8, gd_pos (ib_nI (by omega) (by decide)), gd_pos (ib_nI (by omega) (by decide)), bn_go, bn_go, nI_1, cl_nI (by omega), cl_nI (by omega), ih (k + 1) _ j (by omega) (by omega), rI_sI]
    refine congrArg (fun z => fX11_back_j49 n z (nI i)) (rI_ext fun q => ?_)
    rw [sI_row, sI_ne (show (43 : Nat) ≠ 31 by decide)]
    unfold upd
    by_cases e : q = k
    · subst e; rw [if_neg (by omega), if_pos rfl, if_pos (by omega)]
    · rw [if_neg e]
      by_cases q2 : k + 1 ≤ q ∧ q < 8
      · rw [if_pos q2, if_pos (by omega)]
      · rw [if_neg q2, if_neg (by omega)]
theorem isBox_spec {n : Nat} {S : St} {x : Int32} : fX11_isBox n S x = some (S, inR x 3) := by
  unfold fX11_isBox inR
  by_cases h0 : x < 0
  · rw [if_pos h0, if_pos h0]
  · rw [if_neg h0, if_neg h0]
    by_cases h1 : (3 : Int32) ≤ x
    · rw [if_pos h1, if_pos (show nI 3 ≤ x from h1)]
    · rw [if_neg h1, if_neg (show ¬ nI 3 ≤ x from h1)]
theorem cpy8 {f g : Nat → Int32} {d : Nat} (h : d < 8) : va_cpy f g 0 0 8 d = f d := by
  rw [pk_cpy_in (by omega) (by omega)]
  congr 1
  omega

theorem copyTo_0 {n : Nat} {S : St} : fX8_copyOf sdX n S 264 261 = some (cI (sI (sI (sI S 264 1 (S.1 261 1)) 264 2 (S.1 261 2)) 264 3 (S.1 261 3)) 262 265 0 0 8, ()) := by
  unfold fX8_copyOf
  rw [gd_pos (by decide), gd_pos (by decide), bn_go, bn_go, bn_go, show sdX.2.2.2 261 0 = 262 from rfl, show sdX.2.2.2 264 0 = 265 from rfl, gd_pos (by decide), gd_pos (by decide), gd_pos (by decide), bn_go]
  rfl
theorem copyFrom_0 {n : Nat} {S : St} : fX8_copyOf sdX n S 261 264 = some (cI (sI (sI (sI S 261 1 (S.1 264 1)) 261 2 (S.1 264 2)) 261 3 (S.1 264 3)) 265 262 0 0 8, ()) := by
  unfold fX8_copyOf
  rw [gd_pos (by decide), gd_pos (by decide), bn_go, bn_go, bn_go, show sdX.2.2.2 261 0 = 262 from rfl, show sdX.2.2.2 264 0 = 265 from rfl, gd_pos (by decide), gd_pos (by decide), gd_pos (by decide), bn_go]
  rfl
theorem copyTo_1 {n : Nat} {S : St} : fX8_copyOf sdX n S 266 261 = some (cI (sI (sI (sI S 266 1 (S.1 261 1)) 266 2 (S.1 261 2)) 266 3 (S.1 261 3)) 262 267 0 0 8, ()) := by
  unfold fX8_copyOf
  rw [gd_pos (by decide), gd_pos (by decide), bn_go, bn_go, bn_go, show sdX.2.2.2 261 0 = 262 from rfl, show sdX.2.2.2 266 0 = 267 from rfl, gd_pos (by decide), gd_pos (by decide), gd_pos (by decide), bn_go]
  rfl
theorem copyFrom_1 {n : Nat} {S : St} : fX8_copyOf sdX n S 261 266 = some (cI (sI (sI (sI S 261 1 (S.1 266 1)) 261 2 (S.1 266 2)) 261 3 (S.1 266 3)) 267 262 0 0 8, ()) := by
  unfold fX8_copyOf
  rw [gd_pos (by decide), gd_pos (by decide), bn_go, bn_go, bn_go, show sdX.2.2.2 261 0 = 262 from rfl, show sdX.2.2.2 266 0 = 267 from rfl, gd_pos (by decide), gd_pos (by decide), gd_pos (by decide), bn_go]
  rfl
theorem copyTo_2 {n : Nat} {S : St} : fX8_copyOf sdX n S 268 261 = some (cI (sI (sI (sI S 268 1 (S.1 261 1)) 268 2 (S.1 261 2)) 268 3 (S.1 261 3)) 262 269 0 0 8, ()) := by
  unfold fX8_copyOf
  rw [gd_pos (by decide), gd_pos (by decide), bn_go, bn_go, bn_go, show sdX.2.2.2 261 0 = 262 from rfl, show sdX.2.2.2 268 0 = 269 from rfl, gd_pos (by decide), gd_pos (by decide), gd_pos (by decide), bn_go]
  rfl
theorem copyFrom_2 {n : Nat} {S : St} : fX8_copyOf sdX n S 261 268 = some (cI (sI (sI (sI S 261 1 (S.1 268 1)) 261 2 (S.1 268 2)) 261 3 (S.1 268 3)) 269 262 0 0 8, ()) := by
  unfold fX8_copyOf
  rw [gd_pos (by decide), gd_pos (by decide), bn_go, bn_go, bn_go, show sdX.2.2.2 261 0 = 262 from rfl, show sdX.2.2.2 268 0 = 269 from rfl, gd_pos (by decide), gd_pos (by decide), gd_pos (by decide), bn_go]
  rfl
section
variable {n : Nat} {Sx Sm : St}
theorem cI_ne {S : St} {a b c sp dp m : Nat} (h : c ≠ b) : (cI S a b sp dp m).1 c = S.1 c := up_other _ _ h
theorem cI_row {S : St} {a b sp dp m : Nat} : (cI S a b sp dp m).1 b = va_cpy (S.1 a) (S.1 b) sp dp m := up_same _ _ _
theorem imageM {i : Nat} (hn : 200000 ≤ n) (hi : i < 3) : fX11_image n Sm (nI i) = some (sI (sI (sI (rI (sI Sm 42 i 1) 43 (fun q => if 8 * i ≤ q ∧ q < 8 * i + 8 then Sm.1 31 (q - 8 * i) else Sm.1 43 q)) 44 i (Sm.1 0 65)) 45 i (Sm.1 0 66)) 46 i (Sm.1 0 67), sumI (Sm.1 31) 8) := by
  have e3 : ib (nI i) 3 := ib_nI hi (by decide)
  have e1 : vp_nar .boolean 1 = 1 := by decide
  unfold fX11_image
  rw [isBox_spec, bd_go, inR_nI hi (by decide), if_neg (by decide), gd_pos e3, bn_go, cl_nI (by omega), e1, show (0 : Int32) = nI 0 from rfl, image_loop hi 8 0 _ n (by omega) (by omega)]
  unfold fX11_image_j47
  rw [gd_pos e3, bn_go, gd_pos e3, bn_go, gd_pos e3, bn_go, inVat_spec hn, bd_go, cl_nI (by omega)]
  rfl
theorem backM {i : Nat} (hn : 200000 ≤ n) (hi : i < 3) (h1 : ¬ Sm.1 42 i = 0) : fX11_back n Sm (nI i) = some (sI (sI (sI (rI Sm 31 (fun q => if q < 8 then Sm.1 43 (8 * i + q) else Sm.1 31 q)) 0 65 (Sm.1 44 i)) 0 66 (Sm.1 45 i)) 0 67 (Sm.1 46 i), sumI (fun q => if q < 8 then Sm.1 43 (8 * i + q) else Sm.1 31 q) 8) := by
  have e3 : ib (nI i) 3 := ib_nI hi (by decide)
  unfold fX11_back
  rw [isBox_spec, bd_go, inR_nI hi (by decide), if_neg (by decide), gd_pos e3, cl_nI (by omega), if_neg h1, show (0 : Int32) = nI 0 from rfl, back_loop hi 8 0 _ n (by omega) (by omega)]
  have e4 : rI Sm 31 (fun q => if 0 ≤ q ∧ q < 8 then Sm.1 43 (8 * i + q) else Sm.1 31 q) = rI Sm 31 (fun q => if q < 8 then Sm.1 43 (8 * i + q) else Sm.1 31 q) := rI_ext fun q => by
    by_cases c : q < 8
    · rw [if_pos (by omega), if_pos c]
    · rw [if_neg (by omega), if_neg c]
  rw [e4]
  unfold fX11_back_j49
  rw [gd_pos e3, bn_go, gd_pos e3, bn_go, gd_pos e3, bn_go, inVat_spec hn, bd_go, cl_nI (by omega)]
  rfl
theorem image_0 (hn : 200000 ≤ n) (h : Rel Sx Sm) : ∃ (Sx' Sm' : St) (r : Int32), fX10_image n Sx (nI 0) = some (Sx', r) ∧ fX11_image n Sm (nI 0) = some (Sm', r) ∧ Rel Sx' Sm' := by
  obtain ⟨B, b, hB, hr, hX, hlim, hM, ht, ⟨v1, v2, v3, v4, v5, v6⟩, hbx, hl, ho, ha, hnn, hs, hw⟩ := h
  refine ⟨sI (cI (sI (sI (sI Sx 264 1 (Sx.1 261 1)) 264 2 (Sx.1 261 2)) 264 3 (Sx.1 261 3)) 262 265 0 0 8) 264 4 1, sI (sI (sI (rI (sI Sm 42 0 1) 43 (fun q => if 8 * 0 ≤ q ∧ q < 8 * 0 + 8 then Sm.1 31 (q - 8 * 0) else Sm.1 43 q)) 44 0 (Sm.1 0 65)) 45 0 (Sm.1 0 66)) 46 0 (Sm.1 0 67), sumI (Sm.1 31) 8, ?_, imageM hn (by decide), B, b, hB, hr, RXb_frame hX (fun a q1 q2 => ?_) hB, hlim, hM, ht, ⟨v1, v2, v3, v4, v5, v6⟩, ?_, hl, Go_frame ho (fun a q1 q2 => ?_) rfl rfl rfl, ha, hnn, hs, hw⟩
  · unfold fX10_image
    rw [if_neg (show ¬ nI 0 < 0 by decide), if_pos (show nI 0 < 3 by decide), gd_pos (show ib (nI 0) 3 by decide), gd_pos (show isK sdX (srX 263 (Int32.toNatClampNeg (nI 0))) 8 by decide)]
    show bd (fX8_copyOf sdX n Sx 264 261) (fun S3 r4 => gd (ib (nI 0) 3) (bn (sI S3 264 4 1) (fun S6 => bd (fX8_total sdX n S6 261) (fun S7 r8 => some (S7, r8))))) = _
    rw [copyTo_0, bd_go, gd_pos (show ib (nI 0) 3 by decide), bn_go, total_spec hn, bd_go]
    refine some_snd ?_
    exact sumI_congr (fun d hd => v1 d hd)
  · have hb := hr.1
    rcases hb with q | q <;> rw [sI_ne (by omega), cI_ne (by omega), sI_ne (by omega), sI_ne (by omega), sI_ne (by omega)]
  · intro i hi
    rcases (show i = 0 ∨ i = 1 ∨ i = 2 by omega) with rfl | rfl | rfl
    · have er : ∀ d, d < 8 → (if 8 * 0 ≤ 8 * 0 + d ∧ 8 * 0 + d < 8 * 0 + 8 then Sm.1 31 (8 * 0 + d - 8 * 0) else Sm.1 43 (8 * 0 + d)) = Sm.1 31 d := fun d hd => by rw [if_pos (by omega), show 8 * 0 + d - 8 * 0 = d by omega]
      refine ⟨Or.inr rfl, rfl, fun _ => ⟨fun d hd => ?_, v2, v3, v4, ?_, v6⟩⟩
      · exact (cpy8 hd).trans ((v1 d hd).trans (er d hd).symm)
      · obtain ⟨w, w1, w2, w3⟩ := v5
        exact ⟨w, fun d hd => (er d hd).trans (w1 d hd), w2, w3⟩
    · obtain ⟨g1, g2, g3⟩ := hbx 1 (by decide)
      refine ⟨g1, g2, fun q => ?_⟩
      obtain ⟨p1, p2, p3, p4, p5, p6⟩ := g3 q
      have er : ∀ d, d < 8 → (if 8 * 0 ≤ 8 * 1 + d ∧ 8 * 1 + d < 8 * 0 + 8 then Sm.1 31 (8 * 1 + d - 8 * 0) else Sm.1 43 (8 * 1 + d)) = Sm.1 43 (8 * 1 + d) := fun d hd => if_neg (by omega)
      refine ⟨fun d hd => (p1 d hd).trans (er d hd).symm, p2, p3, p4, ?_, p6⟩
      obtain ⟨w, w1, w2, w3⟩ := p5
      exact ⟨w, fun d hd => (er d hd).trans (w1 d hd), w2, w3⟩
    · obtain ⟨g1, g2, g3⟩ := hbx 2 (by decide)
      refine ⟨g1, g2, fun q => ?_⟩
      obtain ⟨p1, p2, p3, p4, p5, p6⟩ := g3 q
      have er : ∀ d, d < 8 → (if 8 * 0 ≤ 8 * 2 + d ∧ 8 * 2 + d < 8 * 0 + 8 then Sm.1 31 (8 * 2 + d - 8 * 0) else Sm.1 43 (8 * 2 + d)) = Sm.1 43 (8 * 2 + d) := fun d hd => if_neg (by omega)
      refine ⟨fun d hd => (p1 d hd).trans (er d hd).symm, p2, p3, p4, ?_, p6⟩
      obtain ⟨w, w1, w2, w3⟩ := p5
      exact ⟨w, fun d hd => (er d hd).trans (w1 d hd), w2, w3⟩
  · rw [sI_ne (by omega), cI_ne (by omega), sI_ne (by omega), sI_ne (by omega), sI_ne (by omega)]
theorem back_0 (hn : 200000 ≤ n) (h : Rel Sx Sm) : ∃ (Sx' Sm' : St) (r : Int32), fX10_back n Sx (nI 0) = some (Sx', r) ∧ fX11_back n Sm (nI 0) = some (Sm', r) ∧ Rel Sx' Sm' := by
  obtain ⟨B, b, hB, hr, hX, hlim, hM, ht, ⟨v1, v2, v3, v4, v5⟩, hbx, hl, ho, ha, hnn, hs, hw⟩ := id h
  obtain ⟨g1, g2, g3⟩ := hbx 0 (by decide)
  have e0 : fX10_back n Sx (nI 0) = if Sm.1 42 0 = 0 then some (Sx, -1) else bd (fX8_copyOf sdX n Sx 261 264) (fun S4 r5 => bd (fX8_total sdX n S4 261) (fun S6 r7 => some (S6, r7))) := by
    unfold fX10_back
    rw [if_neg (show ¬ nI 0 < 0 by decide), if_neg (show ¬ (3 : Int32) ≤ nI 0 by decide), gd_pos (show ib (nI 0) 3 by decide), gd_pos (show isK sdX (srX 263 (Int32.toNatClampNeg (nI 0))) 8 by decide), gd_pos (show ib (nI 0) 3 by decide)]
    show (if Sx.1 264 4 = 0 then some (Sx, -1) else bd (fX8_copyOf sdX n Sx 261 264) (fun S4 r5 => bd (fX8_total sdX n S4 261) (fun S6 r7 => some (S6, r7)))) = _
    rw [show Sx.1 264 4 = Sm.1 42 0 from g2]
  rw [e0]
  by_cases c : Sm.1 42 0 = 0
  · refine ⟨Sx, Sm, -1, by rw [if_pos c], ?_, h⟩
    unfold fX11_back
    rw [isBox_spec, bd_go, inR_nI (show 0 < 3 by decide) (by decide), if_neg (by decide), gd_pos (show ib (nI 0) 3 by decide), show Int32.toNatClampNeg (nI 0) = 0 from rfl, if_pos c]
  · obtain ⟨p1, p2, p3, p4, p5⟩ := g3 (g1.resolve_left c)
    rw [if_neg c, copyFrom_0, bd_go, total_spec hn, bd_go]
    refine ⟨cI (sI (sI (sI Sx 261 1 (Sx.1 264 1)) 261 2 (Sx.1 264 2)) 261 3 (Sx.1 264 3)) 265 262 0 0 8, sI (sI (sI (rI Sm 31 (fun q => if q < 8 then Sm.1 43 (8 * 0 + q) else Sm.1 31 q)) 0 65 (Sm.1 44 0)) 0 66 (Sm.1 45 0)) 0 67 (Sm.1 46 0), _, rfl, ?_, B, b, hB, hr, RXb_frame hX (fun a q1 q2 => ?_) hB, hlim, hM, ht, ⟨fun d hd => ?_, p2, p3, p4, ?_⟩, Gbx_frame hbx (fun a q1 q2 => ?_) (fun a q1 q2 => ?_), hl, Go_frame ho (fun a q1 q2 => ?_) rfl rfl rfl, ha, hnn, hs, hw⟩
    · rw [backM hn (by decide) c]
      refine some_snd ?_
      refine sumI_congr (fun d hd => ?_)
      show (if d < 8 then Sm.1 43 (8 * 0 + d) else Sm.1 31 d) = va_cpy (Sx.1 265) (Sx.1 262) 0 0 8 d
      rw [if_pos hd, cpy8 hd]
      exact (p1 d hd).symm
    · have hb := hr.1
      rcases hb with q | q <;> rw [cI_ne (by omega), sI_ne (by omega), sI_ne (by omega), sI_ne (by omega)]
    · show va_cpy (Sx.1 265) (Sx.1 262) 0 0 8 d = if d < 8 then Sm.1 43 (8 * 0 + d) else Sm.1 31 d
      rw [if_pos hd, cpy8 hd]
      exact p1 d hd
    · obtain ⟨⟨w, w1, w2, w3⟩, w4⟩ := p5
      exact ⟨⟨w, fun d hd => (if_pos hd).trans (w1 d hd), w2, w3⟩, w4⟩
    · rw [cI_ne (by omega), sI_ne (by omega), sI_ne (by omega), sI_ne (by omega)]
    · rw [sI_ne (by omega), sI_ne (by omega), sI_ne (by omega), rI_ne (by omega)]
    · rw [cI_ne (by omega), sI_ne (by omega), sI_ne (by omega), sI_ne (by omega)]
theorem image_1 (hn : 200000 ≤ n) (h : Rel Sx Sm) : ∃ (Sx' Sm' : St) (r : Int32), fX10_image n Sx (nI 1) = some (Sx', r) ∧ fX11_image n Sm (nI 1) = some (Sm', r) ∧ Rel Sx' Sm' := by
  obtain ⟨B, b, hB, hr, hX, hlim, hM, ht, ⟨v1, v2, v3, v4, v5, v6⟩, hbx, hl, ho, ha, hnn, hs, hw⟩ := h
  refine ⟨sI (cI (sI (sI (sI Sx 266 1 (Sx.1 261 1)) 266 2 (Sx.1 261 2)) 266 3 (Sx.1 261 3)) 262 267 0 0 8) 266 4 1, sI (sI (sI (rI (sI Sm 42 1 1) 43 (fun q => if 8 * 1 ≤ q ∧ q < 8 * 1 + 8 then Sm.1 31 (q - 8 * 1) else Sm.1 43 q)) 44 1 (Sm.1 0 65)) 45 1 (Sm.1 0 66)) 46 1 (Sm.1 0 67), sumI (Sm.1 31) 8, ?_, imageM hn (by decide), B, b, hB, hr, RXb_frame hX (fun a q1 q2 => ?_) hB, hlim, hM, ht, ⟨v1, v2, v3, v4, v5, v6⟩, ?_, hl, Go_frame ho (fun a q1 q2 => ?_) rfl rfl rfl, ha, hnn, hs, hw⟩
  · unfold fX10_image
    rw [if_neg (show ¬ nI 1 < 0 by decide), if_pos (show nI 1 < 3 by decide), gd_pos (show ib (nI 1) 3 by decide), gd_pos (show isK sdX (srX 263 (Int32.toNatClampNeg (nI 1))) 8 by decide)]
    show bd (fX8_copyOf sdX n Sx 266 261) (fun S3 r4 => gd (ib (nI 1) 3) (bn (sI S3 266 4 1) (fun S6 => bd (fX8_total sdX n S6 261) (fun S7 r8 => some (S7, r8))))) = _
    rw [copyTo_1, bd_go, gd_pos (show ib (nI 1) 3 by decide), bn_go, total_spec hn, bd_go]
    refine some_snd ?_
    exact sumI_congr (fun d hd => v1 d hd)
  · have hb := hr.1
    rcases hb with q | q <;> rw [sI_ne (by omega), cI_ne (by omega), sI_ne (by omega), sI_ne (by omega), sI_ne (by omega)]
  · intro i hi
    rcases (show i = 0 ∨ i = 1 ∨ i = 2 by omega) with rfl | rfl | rfl
    · obtain ⟨g1, g2, g3⟩ := hbx 0 (by decide)
      refine ⟨g1, g2, fun q => ?_⟩
      obtain ⟨p1, p2, p3, p4, p5, p6⟩ := g3 q
      have er : ∀ d, d < 8 → (if 8 * 1 ≤ 8 * 0 + d ∧ 8 * 0 + d < 8 * 1 + 8 then Sm.1 31 (8 * 0 + d - 8 * 1) else Sm.1 43 (8 * 0 + d)) = Sm.1 43 (8 * 0 + d) := fun d hd => if_neg (by omega)
      refine ⟨fun d hd => (p1 d hd).trans (er d hd).symm, p2, p3, p4, ?_, p6⟩
      obtain ⟨w, w1, w2, w3⟩ := p5
      exact ⟨w, fun d hd => (er d hd).trans (w1 d hd), w2, w3⟩
    · have er : ∀ d, d < 8 → (if 8 * 1 ≤ 8 * 1 + d ∧ 8 * 1 + d < 8 * 1 + 8 then Sm.1 31 (8 * 1 + d - 8 * 1) else Sm.1 43 (8 * 1 + d)) = Sm.1 31 d := fun d hd => by rw [if_pos (by omega), show 8 * 1 + d - 8 * 1 = d by omega]
      refine ⟨Or.inr rfl, rfl, fun _ => ⟨fun d hd => ?_, v2, v3, v4, ?_, v6⟩⟩
      · exact (cpy8 hd).trans ((v1 d hd).trans (er d hd).symm)
      · obtain ⟨w, w1, w2, w3⟩ := v5
        exact ⟨w, fun d hd => (er d hd).trans (w1 d hd), w2, w3⟩
    · obtain ⟨g1, g2, g3⟩ := hbx 2 (by decide)
      refine ⟨g1, g2, fun q => ?_⟩
      obtain ⟨p1, p2, p3, p4, p5, p6⟩ := g3 q
      have er : ∀ d, d < 8 → (if 8 * 1 ≤ 8 * 2 + d ∧ 8 * 2 + d < 8 * 1 + 8 then Sm.1 31 (8 * 2 + d - 8 * 1) else Sm.1 43 (8 * 2 + d)) = Sm.1 43 (8 * 2 + d) := fun d hd => if_neg (by omega)
      refine ⟨fun d hd => (p1 d hd).trans (er d hd).symm, p2, p3, p4, ?_, p6⟩
      obtain ⟨w, w1, w2, w3⟩ := p5
      exact ⟨w, fun d hd => (er d hd).trans (w1 d hd), w2, w3⟩
  · rw [sI_ne (by omega), cI_ne (by omega), sI_ne (by omega), sI_ne (by omega), sI_ne (by omega)]
theorem back_1 (hn : 200000 ≤ n) (h : Rel Sx Sm) : ∃ (Sx' Sm' : St) (r : Int32), fX10_back n Sx (nI 1) = some (Sx', r) ∧ fX11_back n Sm (nI 1) = some (Sm', r) ∧ Rel Sx' Sm' := by
  obtain ⟨B, b, hB, hr, hX, hlim, hM, ht, ⟨v1, v2, v3, v4, v5⟩, hbx, hl, ho, ha, hnn, hs, hw⟩ := id h
  obtain ⟨g1, g2, g3⟩ := hbx 1 (by decide)
  have e0 : fX10_back n Sx (nI 1) = if Sm.1 42 1 = 0 then some (Sx, -1) else bd (fX8_copyOf sdX n Sx 261 266) (fun S4 r5 => bd (fX8_total sdX n S4 261) (fun S6 r7 => some (S6, r7))) := by
    unfold fX10_back
    rw [if_neg (show ¬ nI 1 < 0 by decide), if_neg (show ¬ (3 : Int32) ≤ nI 1 by decide), gd_pos (show ib (nI 1) 3 by decide), gd_pos (show isK sdX (srX 263 (Int32.toNatClampNeg (nI 1))) 8 by decide), gd_pos (show ib (nI 1) 3 by decide)]
    show (if Sx.1 266 4 = 0 then some (Sx, -1) else bd (fX8_copyOf sdX n Sx 261 266) (fun S4 r5 => bd (fX8_total sdX n S4 261) (fun S6 r7 => some (S6, r7)))) = _
    rw [show Sx.1 266 4 = Sm.1 42 1 from g2]
  rw [e0]
  by_cases c : Sm.1 42 1 = 0
  · refine ⟨Sx, Sm, -1, by rw [if_pos c], ?_, h⟩
    unfold fX11_back
    rw [isBox_spec, bd_go, inR_nI (show 1 < 3 by decide) (by decide), if_neg (by decide), gd_pos (show ib (nI 1) 3 by decide), show Int32.toNatClampNeg (nI 1) = 1 from rfl, if_pos c]
  · obtain ⟨p1, p2, p3, p4, p5⟩ := g3 (g1.resolve_left c)
    rw [if_neg c, copyFrom_1, bd_go, total_spec hn, bd_go]
    refine ⟨cI (sI (sI (sI Sx 261 1 (Sx.1 266 1)) 261 2 (Sx.1 266 2)) 261 3 (Sx.1 266 3)) 267 262 0 0 8, sI (sI (sI (rI Sm 31 (fun q => if q < 8 then Sm.1 43 (8 * 1 + q) else Sm.1 31 q)) 0 65 (Sm.1 44 1)) 0 66 (Sm.1 45 1)) 0 67 (Sm.1 46 1), _, rfl, ?_, B, b, hB, hr, RXb_frame hX (fun a q1 q2 => ?_) hB, hlim, hM, ht, ⟨fun d hd => ?_, p2, p3, p4, ?_⟩, Gbx_frame hbx (fun a q1 q2 => ?_) (fun a q1 q2 => ?_), hl, Go_frame ho (fun a q1 q2 => ?_) rfl rfl rfl, ha, hnn, hs, hw⟩
    · rw [backM hn (by decide) c]
      refine some_snd ?_
      refine sumI_congr (fun d hd => ?_)
      show (if d < 8 then Sm.1 43 (8 * 1 + d) else Sm.1 31 d) = va_cpy (Sx.1 267) (Sx.1 262) 0 0 8 d
      rw [if_pos hd, cpy8 hd]
      exact (p1 d hd).symm
    · have hb := hr.1
      rcases hb with q | q <;> rw [cI_ne (by omega), sI_ne (by omega), sI_ne (by omega), sI_ne (by omega)]
    · show va_cpy (Sx.1 267) (Sx.1 262) 0 0 8 d = if d < 8 then Sm.1 43 (8 * 1 + d) else Sm.1 31 d
      rw [if_pos hd, cpy8 hd]
      exact p1 d hd
    · obtain ⟨⟨w, w1, w2, w3⟩, w4⟩ := p5
      exact ⟨⟨w, fun d hd => (if_pos hd).trans (w1 d hd), w2, w3⟩, w4⟩
    · rw [cI_ne (by omega), sI_ne (by omega), sI_ne (by omega), sI_ne (by omega)]
    · rw [sI_ne (by omega), sI_ne (by omega), sI_ne (by omega), rI_ne (by omega)]
    · rw [cI_ne (by omega), sI_ne (by omega), sI_ne (by omega), sI_ne (by omega)]
theorem image_2 (hn : 200000 ≤ n) (h : Rel Sx Sm) : ∃ (Sx' Sm' : St) (r : Int32), fX10_image n Sx (nI 2) = some (Sx', r) ∧ fX11_image n Sm (nI 2) = some (Sm', r) ∧ Rel Sx' Sm' := by
  obtain ⟨B, b, hB, hr, hX, hlim, hM, ht, ⟨v1, v2, v3, v4, v5, v6⟩, hbx, hl, ho, ha, hnn, hs, hw⟩ := h
  refine ⟨sI (cI (sI (sI (sI Sx 268 1 (Sx.1 261 1)) 268 2 (Sx.1 261 2)) 268 3 (Sx.1 261 3)) 262 269 0 0 8) 268 4 1, sI (sI (sI (rI (sI Sm 42 2 1) 43 (fun q => if 8 * 2 ≤ q ∧ q < 8 * 2 + 8 then Sm.1 31 (q - 8 * 2) else Sm.1 43 q)) 44 2 (Sm.1 0 65)) 45 2 (Sm.1 0 66)) 46 2 (Sm.1 0 67), sumI (Sm.1 31) 8, ?_, imageM hn (by decide), B, b, hB, hr, RXb_frame hX (fun a q1 q2 => ?_) hB, hlim, hM, ht, ⟨v1, v2, v3, v4, v5, v6⟩, ?_, hl, Go_frame ho (fun a q1 q2 => ?_) rfl rfl rfl, ha, hnn, hs, hw⟩
  · unfold fX10_image
    rw [if_neg (show ¬ nI 2 < 0 by decide), if_pos (show nI 2 < 3 by decide), gd_pos (show ib (nI 2) 3 by decide), gd_pos (show isK sdX (srX 263 (Int32.toNatClampNeg (nI 2))) 8 by decide)]
    show bd (fX8_copyOf sdX n Sx 268 261) (fun S3 r4 => gd (ib (nI 2) 3) (bn (sI S3 268 4 1) (fun S6 => bd (fX8_total sdX n S6 261) (fun S7 r8 => some (S7, r8))))) = _
    rw [copyTo_2, bd_go, gd_pos (show ib (nI 2) 3 by decide), bn_go, total_spec hn, bd_go]
    refine some_snd ?_
    exact sumI_congr (fun d hd => v1 d hd)
  · have hb := hr.1
    rcases hb with q | q <;> rw [sI_ne (by omega), cI_ne (by omega), sI_ne (by omega), sI_ne (by omega), sI_ne (by omega)]
  · intro i hi
    rcases (show i = 0 ∨ i = 1 ∨ i = 2 by omega) with rfl | rfl | rfl
    · obtain ⟨g1, g2, g3⟩ := hbx 0 (by decide)
      refine ⟨g1, g2, fun q => ?_⟩
      obtain ⟨p1, p2, p3, p4, p5, p6⟩ := g3 q
      have er : ∀ d, d < 8 → (if 8 * 2 ≤ 8 * 0 + d ∧ 8 * 0 + d < 8 * 2 + 8 then Sm.1 31 (8 * 0 + d - 8 * 2) else Sm.1 43 (8 * 0 + d)) = Sm.1 43 (8 * 0 + d) := fun d hd => if_neg (by omega)
      refine ⟨fun d hd => (p1 d hd).trans (er d hd).symm, p2, p3, p4, ?_, p6⟩
      obtain ⟨w, w1, w2, w3⟩ := p5
      exact ⟨w, fun d hd => (er d hd).trans (w1 d hd), w2, w3⟩
    · obtain ⟨g1, g2, g3⟩ := hbx 1 (by decide)
      refine ⟨g1, g2, fun q => ?_⟩
      obtain ⟨p1, p2, p3, p4, p5, p6⟩ := g3 q
      have er : ∀ d, d < 8 → (if 8 * 2 ≤ 8 * 1 + d ∧ 8 * 1 + d < 8 * 2 + 8 then Sm.1 31 (8 * 1 + d - 8 * 2) else Sm.1 43 (8 * 1 + d)) = Sm.1 43 (8 * 1 + d) := fun d hd => if_neg (by omega)
      refine ⟨fun d hd => (p1 d hd).trans (er d hd).symm, p2, p3, p4, ?_, p6⟩
      obtain ⟨w, w1, w2, w3⟩ := p5
      exact ⟨w, fun d hd => (er d hd).trans (w1 d hd), w2, w3⟩
    · have er : ∀ d, d < 8 → (if 8 * 2 ≤ 8 * 2 + d ∧ 8 * 2 + d < 8 * 2 + 8 then Sm.1 31 (8 * 2 + d - 8 * 2) else Sm.1 43 (8 * 2 + d)) = Sm.1 31 d := fun d hd => by rw [if_pos (by omega), show 8 * 2 + d - 8 * 2 = d by omega]
      refine ⟨Or.inr rfl, rfl, fun _ => ⟨fun d hd => ?_, v2, v3, v4, ?_, v6⟩⟩
      · exact (cpy8 hd).trans ((v1 d hd).trans (er d hd).symm)
      · obtain ⟨w, w1, w2, w3⟩ := v5
        exact ⟨w, fun d hd => (er d hd).trans (w1 d hd), w2, w3⟩
  · rw [sI_ne (by omega), cI_ne (by omega), sI_ne (by omega), sI_ne (by omega), sI_ne (by omega)]
theorem back_2 (hn : 200000 ≤ n) (h : Rel Sx Sm) : ∃ (Sx' Sm' : St) (r : Int32), fX10_back n Sx (nI 2) = some (Sx', r) ∧ fX11_back n Sm (nI 2) = some (Sm', r) ∧ Rel Sx' Sm' := by
  obtain ⟨B, b, hB, hr, hX, hlim, hM, ht, ⟨v1, v2, v3, v4, v5⟩, hbx, hl, ho, ha, hnn, hs, hw⟩ := id h
  obtain ⟨g1, g2, g3⟩ := hbx 2 (by decide)
  have e0 : fX10_back n Sx (nI 2) = if Sm.1 42 2 = 0 then some (Sx, -1) else bd (fX8_copyOf sdX n Sx 261 268) (fun S4 r5 => bd (fX8_total sdX n S4 261) (fun S6 r7 => some (S6, r7))) := by
    unfold fX10_back
    rw [if_neg (show ¬ nI 2 < 0 by decide), if_neg (show ¬ (3 : Int32) ≤ nI 2 by decide), gd_pos (show ib (nI 2) 3 by decide), gd_pos (show isK sdX (srX 263 (Int32.toNatClampNeg (nI 2))) 8 by decide), gd_pos (show ib (nI 2) 3 by decide)]
    show (if Sx.1 268 4 = 0 then some (Sx, -1) else bd (fX8_copyOf sdX n Sx 261 268) (fun S4 r5 => bd (fX8_total sdX n S4 261) (fun S6 r7 => some (S6, r7)))) = _
    rw [show Sx.1 268 4 = Sm.1 42 2 from g2]
  rw [e0]
  by_cases c : Sm.1 42 2 = 0
  · refine ⟨Sx, Sm, -1, by rw [if_pos c], ?_, h⟩
    unfold fX11_back
    rw [isBox_spec, bd_go, inR_nI (show 2 < 3 by decide) (by decide), if_neg (by decide), gd_pos (show ib (nI 2) 3 by decide), show Int32.toNatClampNeg (nI 2) = 2 from rfl, if_pos c]
  · obtain ⟨p1, p2, p3, p4, p5⟩ := g3 (g1.resolve_left c)
    rw [if_neg c, copyFrom_2, bd_go, total_spec hn, bd_go]
    refine ⟨cI (sI (sI (sI Sx 261 1 (Sx.1 268 1)) 261 2 (Sx.1 268 2)) 261 3 (Sx.1 268 3)) 269 262 0 0 8, sI (sI (sI (rI Sm 31 (fun q => if q < 8 then Sm.1 43 (8 * 2 + q) else Sm.1 31 q)) 0 65 (Sm.1 44 2)) 0 66 (Sm.1 45 2)) 0 67 (Sm.1 46 2), _, rfl, ?_, B, b, hB, hr, RXb_frame hX (fun a q1 q2 => ?_) hB, hlim, hM, ht, ⟨fun d hd => ?_, p2, p3, p4, ?_⟩, Gbx_frame hbx (fun a q1 q2 => ?_) (fun a q1 q2 => ?_), hl, Go_frame ho (fun a q1 q2 => ?_) rfl rfl rfl, ha, hnn, hs, hw⟩
    · rw [backM hn (by decide) c]
      refine some_snd ?_
      refine sumI_congr (fun d hd => ?_)
      show (if d < 8 then Sm.1 43 (8 * 2 + d) else Sm.1 31 d) = va_cpy (Sx.1 269) (Sx.1 262) 0 0 8 d
      rw [if_pos hd, cpy8 hd]
      exact (p1 d hd).symm
    · have hb := hr.1
      rcases hb with q | q <;> rw [cI_ne (by omega), sI_ne (by omega), sI_ne (by omega), sI_ne (by omega)]
    · show va_cpy (Sx.1 269) (Sx.1 262) 0 0 8 d = if d < 8 then Sm.1 43 (8 * 2 + d) else Sm.1 31 d
      rw [if_pos hd, cpy8 hd]
      exact p1 d hd
    · obtain ⟨⟨w, w1, w2, w3⟩, w4⟩ := p5
      exact ⟨⟨w, fun d hd => (if_pos hd).trans (w1 d hd), w2, w3⟩, w4⟩
    · rw [cI_ne (by omega), sI_ne (by omega), sI_ne (by omega), sI_ne (by omega)]
    · rw [sI_ne (by omega), sI_ne (by omega), sI_ne (by omega), rI_ne (by omega)]
    · rw [cI_ne (by omega), sI_ne (by omega), sI_ne (by omega), sI_ne (by omega)]
theorem ok_image (hn : 200000 ≤ n) (h : Rel Sx Sm) : Ok_image n Rel Sx Sm := by
  intro x
  rcases pk_ix x (show 3 < 2 ^ 31 by decide) with c | c | ⟨j, hj, rfl⟩
  · exact ⟨Sx, Sm, -1, by unfold fX10_image; rw [if_pos c], by unfold fX11_image; rw [isBox_spec, bd_go, if_pos (inR_neg c)], h⟩
  · have c0 : ¬ x < 3 := by
      have c : (3 : Int32) ≤ x := c
      rw [Int32.le_iff_toInt_le] at c
      rw [Int32.lt_iff_toInt_lt]
      omega
    refine ⟨Sx, Sm, -1, ?_, by unfold fX11_image; rw [isBox_spec, bd_go, if_pos (inR_big c)], h⟩
    unfold fX10_image
    rw [if_neg c0]
    split <;> rfl
  · rcases (show j = 0 ∨ j = 1 ∨ j = 2 by omega) with rfl | rfl | rfl
    · exact image_0 hn h
    · exact image_1 hn h
    · exact image_2 hn h
theorem ok_back (hn : 200000 ≤ n) (h : Rel Sx Sm) : Ok_back n Rel Sx Sm := by
  intro x
  rcases pk_ix x (show 3 < 2 ^ 31 by decide) with c | c | ⟨j, hj, rfl⟩
  · exact ⟨Sx, Sm, -1, by unfold fX10_back; rw [if_pos c], by unfold fX11_back; rw [isBox_spec, bd_go, if_pos (inR_neg c)], h⟩
  · have c : (3 : Int32) ≤ x := c
    refine ⟨Sx, Sm, -1, ?_, by unfold fX11_back; rw [isBox_spec, bd_go, if_pos (inR_big c)], h⟩
    unfold fX10_back
    rw [if_pos c]
    split <;> rfl
  · rcases (show j = 0 ∨ j = 1 ∨ j = 2 by omega) with rfl | rfl | rfl
    · exact back_0 hn h
    · exact back_1 hn h
    · exact back_2 hn h
end
