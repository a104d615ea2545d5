def B0 : Bd := (fun k => if k = 0 then 4 else if k = 1 then 12 else if k = 2 then 10 else 0, fun _ _ _ => 0)
set_option maxRecDepth 1000000 in
theorem ini_x : (SXF.1 3 9 = 4 ∧ SXF.1 3 10 = 12 ∧ SXF.1 3 11 = 10 ∧ SXF.1 3 12 = 0 ∧ SXF.1 3 13 = 0) ∧ (SXF.1 4 3 = 0 ∧ SXF.1 15 3 = 0 ∧ SXF.1 22 3 = 0 ∧ SXF.1 31 3 = 0 ∧ SXF.1 38 3 = 0) := by decide +kernel
set_option maxRecDepth 1000000 in
theorem ini_r : SXF.2.2 0 2 = 3 ∧ SXF.2.2 0 3 = 77 ∧ SXF.2.2 243 0 = 3 := by decide +kernel
set_option maxRecDepth 1000000 in
theorem ini_l : (SXF.1 4 0 = 8 ∧ SXF.1 15 0 = 4 ∧ SXF.1 22 0 = 6 ∧ SXF.1 31 0 = 4 ∧ SXF.1 38 0 = 8) ∧ (SXF.1 78 0 = 8 ∧ SXF.1 89 0 = 4 ∧ SXF.1 96 0 = 6 ∧ SXF.1 105 0 = 4 ∧ SXF.1 112 0 = 8) := by decide +kernel
set_option maxRecDepth 1000000 in
theorem ini_m : (SMF.1 0 33 = 4 ∧ SMF.1 0 34 = 12 ∧ SMF.1 0 35 = 10 ∧ SMF.1 0 36 = 0 ∧ SMF.1 0 42 = 0) ∧ (SMF.1 4 0 = 0 ∧ SMF.1 4 1 = 0 ∧ SMF.1 4 2 = 0 ∧ SMF.1 4 3 = 0 ∧ SMF.1 4 4 = 0) := by decide +kernel
set_option maxRecDepth 1000000 in
theorem ini_t : SXF.1 1 1 = 0 ∧ SMF.1 0 1 = 0 ∧ SXF.1 151 7 = SMF.1 0 2 ∧ SXF.1 151 8 = SMF.1 0 3 := by decide +kernel
set_option maxRecDepth 1000000 in
theorem ini_w : ∀ i, i < 14 → SXF.2.1 153 i = pkS i := by decide +kernel
set_option maxRecDepth 1000000 in
theorem ini_v : (∀ d, d < 8 → SXF.1 262 d = 0) ∧ (∀ d, d < 8 → SMF.1 31 d = 0) ∧ SXF.1 261 1 = 0 ∧ SMF.1 0 65 = 0 ∧ SXF.1 261 2 = SMF.1 0 66 ∧ SXF.1 261 3 = SMF.1 0 67 := by decide +kernel
set_option maxRecDepth 1000000 in
theorem ini_b : ∀ i, i < 3 → SMF.1 42 i = 0 ∧ SXF.1 (264 + 2 * i) 4 = 0 := by decide +kernel
set_option maxRecDepth 1000000 in
theorem ini_k : (SXF.1 0 12 = 0 ∧ SMF.1 0 78 = 0 ∧ SXF.1 234 9 = 0 ∧ SMF.1 0 77 = 0) ∧ (SXF.1 157 4 = 0 ∧ SMF.1 0 70 = 0) ∧ (SMF.1 0 50 = 0 ∧ SXF.1 243 13 = 0) ∧ (SMF.1 0 52 = 0 ∧ SXF.1 243 15 = 0) ∧ (SXF.1 243 17 = 0 ∧ SMF.1 0 58 = 0) ∧ (SMF.1 0 63 = 0 ∧ SXF.1 0 11 = 0) := by decide +kernel
theorem Bok_0 : Bok B0 := by
  refine ⟨by decide, by decide, by decide, by decide, by decide, by decide, by decide, by decide, by decide, by decide, ?_, ?_, ?_, ?_, ?_, ?_, ?_⟩ <;> intro d hd <;> exact absurd hd (Nat.not_lt_zero _)
theorem no_0 {P : Nat → Prop} : ∀ d, d < 0 → P d := fun d h => absurd h (Nat.not_lt_zero d)
theorem rel_of {Sx Sm : St} (fini_x : (Sx.1 3 9 = 4 ∧ Sx.1 3 10 = 12 ∧ Sx.1 3 11 = 10 ∧ Sx.1 3 12 = 0 ∧ Sx.1 3 13 = 0) ∧ (Sx.1 4 3 = 0 ∧ Sx.1 15 3 = 0 ∧ Sx.1 22 3 = 0 ∧ Sx.1 31 3 = 0 ∧ Sx.1 38 3 = 0)) (fini_r : Sx.2.2 0 2 = 3 ∧ Sx.2.2 0 3 = 77 ∧ Sx.2.2 243 0 = 3) (fini_l : (Sx.1 4 0 = 8 ∧ Sx.1 15 0 = 4 ∧ Sx.1 22 0 = 6 ∧ Sx.1 31 0 = 4 ∧ Sx.1 38 0 = 8) ∧ (Sx.1 78 0 = 8 ∧ Sx.1 89 0 = 4 ∧ Sx.1 96 0 = 6 ∧ Sx.1 105 0 = 4 ∧ Sx.1 112 0 = 8)) (fini_m : (Sm.1 0 33 = 4 ∧ Sm.1 0 34 = 12 ∧ Sm.1 0 35 = 10 ∧ Sm.1 0 36 = 0 ∧ Sm.1 0 42 = 0) ∧ (Sm.1 4 0 = 0 ∧ Sm.1 4 1 = 0 ∧ Sm.1 4 2 = 0 ∧ Sm.1 4 3 = 0 ∧ Sm.1 4 4 = 0)) (fini_t : Sx.1 1 1 = 0 ∧ Sm.1 0 1 = 0 ∧ Sx.1 151 7 = Sm.1 0 2 ∧ Sx.1 151 8 = Sm.1 0 3) (fini_w : ∀ i, i < 14 → Sx.2.1 153 i = pkS i) (fini_v : (∀ d, d < 8 → Sx.1 262 d = 0) ∧ (∀ d, d < 8 → Sm.1 31 d = 0) ∧ Sx.1 261 1 = 0 ∧ Sm.1 0 65 = 0 ∧ Sx.1 261 2 = Sm.1 0 66 ∧ Sx.1 261 3 = Sm.1 0 67) (fini_b : ∀ i, i < 3 → Sm.1 42 i = 0 ∧ Sx.1 (264 + 2 * i) 4 = 0) (fini_k : (Sx.1 0 12 = 0 ∧ Sm.1 0 78 = 0 ∧ Sx.1 234 9 = 0 ∧ Sm.1 0 77 = 0) ∧ (Sx.1 157 4 = 0 ∧ Sm.1 0 70 = 0) ∧ (Sm.1 0 50 = 0 ∧ Sx.1 243 13 = 0) ∧ (Sm.1 0 52 = 0 ∧ Sx.1 243 15 = 0) ∧ (Sx.1 243 17 = 0 ∧ Sm.1 0 58 = 0) ∧ (Sm.1 0 63 = 0 ∧ Sx.1 0 11 = 0)) : Rel Sx Sm := by
  obtain ⟨⟨x1, x2, x3, x4, x5⟩, x6, x7, x8, x9, x10⟩ := fini_x
  obtain ⟨⟨m1, m2, m3, m4, m5⟩, m6, m7, m8, m9, m10⟩ := fini_m
  obtain ⟨r1, r2, r3⟩ := fini_r
  obtain ⟨t1, t2, t3, t4⟩ := fini_t
  obtain ⟨v1, v2, v3, v4, v5, v6⟩ := fini_v
  obtain ⟨⟨k1, k2, k3, k4⟩, ⟨k5, k6⟩, ⟨k7, k8⟩, ⟨k9, k10⟩, ⟨k11, k12⟩, k13, k14⟩ := fini_k
  refine ⟨B0, 3, Bok_0, ⟨Or.inl rfl, r1, r2, r3⟩, ⟨x1, x2, x3, x4, x5, x6, x7, x8, x9, x10, no_0, no_0, no_0, no_0, no_0, no_0, no_0, no_0⟩, fini_l, ⟨m1, m2, m3, m4, m5, m6, m7, m8, m9, m10, no_0, no_0, no_0, no_0, no_0, no_0, no_0⟩, ?_, ?_, ?_, ?_, ?_, ?_, ?_, ?_, ?_⟩
  · exact ⟨⟨0, by decide, t1, t2, no_0⟩, t3, t4, fini_w⟩
  · exact ⟨fun d hd => (v1 d hd).trans (v2 d hd).symm, v3.trans v4.symm, v5, v6, ⟨fun _ => 0, v2, fun _ _ => rfl, by decide⟩, 0, v4, Or.inr rfl⟩
  · intro i hi
    obtain ⟨b1, b2⟩ := fini_b i hi
    exact ⟨Or.inl b1, b2.trans b1.symm, fun h => absurd (b1.symm.trans h) (by decide)⟩
  · exact ⟨⟨0, by decide, k1, k2⟩, 0, by decide, k3, k4, no_0⟩
  · exact ⟨0, by decide, by decide, k5, k6, no_0, no_0⟩
  · exact ⟨Or.inl k7, k8.trans k7.symm, fun h => absurd (k7.symm.trans h) (by decide)⟩
  · exact ⟨Or.inl k9, k10.trans k9.symm, fun h => absurd (k9.symm.trans h) (by decide)⟩
  · exact ⟨0, by decide, k11, k12, no_0⟩
  · exact ⟨Or.inl k13, k14.trans k13.symm, fun h => absurd (k13.symm.trans h) (by decide)⟩
theorem rel_ini : Rel SXF SMF := rel_of ini_x ini_r ini_l ini_m ini_t ini_w ini_v ini_b ini_k
