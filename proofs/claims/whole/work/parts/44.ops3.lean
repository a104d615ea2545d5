theorem tell_spec {n : Nat} {S : St} {x1 x2 x3 x4 x5 : Int32} {k : Nat} (hk : k < 40) (hc : S.1 234 9 = nI k) : fX1_tell n S x1 x2 x3 x4 x5 = some (sI (sI (sI (sI (sI (sI (sI S 235 k x1) 236 k x2) 237 k x3) 238 k x4) 239 k x5) 240 k (-1)) 234 9 (nI k + 1), nI k + 1 - 1) := by
  have e : ib (nI k) 40 := ib_nI hk (by decide)
  have e2 : nI k < 40 := nI_lt (b := 40) hk (by decide)
  unfold fX1_tell fX1_isFull
  rw [hc, if_pos e2, bd_go, if_pos rfl]
  simp only [bn_go, sI_ne (show (234 : Nat) ≠ 235 by decide), sI_ne (show (234 : Nat) ≠ 236 by decide), sI_ne (show (234 : Nat) ≠ 237 by decide), sI_ne (show (234 : Nat) ≠ 238 by decide), sI_ne (show (234 : Nat) ≠ 239 by decide), sI_ne (show (234 : Nat) ≠ 240 by decide), hc, cl_nI (show k < 2 ^ 31 by omega), gd_pos e, sI_row, upd, if_pos]
theorem row_upd {f g : Nat → Int32} {k : Nat} {v : Int32} {i : Nat} (h : i < k → f i = g i) (hi : i < k + 1) : upd f k v i = upd g k v i := by
  unfold upd
  by_cases q : i = k
  · rw [if_pos q, if_pos q]
  · rw [if_neg q, if_neg q, h (by omega)]
theorem gt_lit {c x : Int32} {k : Nat} (hk : k < 2 ^ 31) (hc : c = nI k - 1) (h0 : ¬ x < 0) : c < x ↔ nI k ≤ x := by rw [hc]; exact pred_lt hk h0
theorem inR_pos {x : Int32} {k : Nat} (h0 : ¬ x < 0) (h1 : ¬ nI k ≤ x) : ¬ inR x k = 0 := by
  unfold inR
  rw [if_neg h0, if_neg h1]
  decide
theorem inR_neg {x : Int32} {k : Nat} (h0 : x < 0) : inR x k = 0 := by
  unfold inR
  rw [if_pos h0]
theorem inR_big {x : Int32} {k : Nat} (h1 : nI k ≤ x) : inR x k = 0 := by
  unfold inR
  split
  · rfl
  · first | rfl | rw [if_pos h1]
theorem sub1 (x : Int32) : x + 1 - 1 = x := by grind
section
variable {n : Nat} {Sx Sm : St}
theorem ok_look (h : Rel Sx Sm) : Ok_look n Rel Sx Sm := by
  intro x1 x2 x3 x4
  obtain ⟨B, b, hB, ⟨hb, hr, hr2⟩, hX, hlim, hM, ht, hv, hbx, ⟨⟨t, t1, t2, t3⟩, k, l1, l2, l3, l4⟩, ho, ha, hnn, hs, hw⟩ := id h
  obtain ⟨k1, ⟨-, -, k2, k2', -⟩, -, -, k3, k3', -⟩ := bk hb
  have hnl : b_nl B ≤ 6 := hB.2.2.2.2.2.2.2.1
  have hne : b_ne B ≤ 4 := hB.2.2.2.2.2.2.2.2.1
  unfold fX10_look fX11_look
  rw [isLamp_spec hM hB, bd_go, hr, gd_pos k1, k2, gd_pos k3, has_spec k3 hX.2.2.2.2.2.2.2.1, bd_go]
  by_cases c1 : inR x1 (b_nl B) = 0
  · exact ⟨Sx, Sm, -1, by rw [if_pos c1], by rw [if_pos c1], h⟩
  rw [if_neg c1, if_neg c1, isEye_spec hM hB, bd_go, hr, gd_pos k1, k2', gd_pos k3', has_spec k3' hX.2.2.2.2.2.2.2.2.1, bd_go]
  by_cases c2 : inR x2 (b_ne B) = 0
  · exact ⟨Sx, Sm, -1, by rw [if_pos c2], by rw [if_pos c2], h⟩
  rw [if_neg c2, if_neg c2, isIn_lit (k := 10000000) (by decide) (by decide), bd_go]
  unfold fX1_isFull
  rw [l2]
  by_cases c3 : nI k < 40
  · have hk : k < 40 := by
      have : nI k < nI 40 := c3
      rw [nI_ltI (by omega) (by decide)] at this
      exact this
    rw [if_pos c3, bd_go, if_pos rfl]
    by_cases c4 : x3 < 0
    · exact ⟨Sx, Sm, -1, by rw [if_pos c4], by rw [if_pos (inR_neg c4)], h⟩
    rw [if_neg c4]
    by_cases c5 : nI 10000000 ≤ x3
    · exact ⟨Sx, Sm, -1, by rw [if_pos ((gt_lit (k := 10000000) (by decide) (by decide) c4).mpr c5)], by rw [if_pos (inR_big c5)], h⟩
    rw [if_neg (fun q => c5 ((gt_lit (k := 10000000) (by decide) (by decide) c4).mp q)), if_neg (inR_pos c4 c5), isIn_lit (k := 10000) (by decide) (by decide), bd_go]
    by_cases c6 : x4 < 0
    · exact ⟨Sx, Sm, -1, by rw [if_pos c6], by rw [if_pos (inR_neg c6)], h⟩
    rw [if_neg c6]
    by_cases c7 : nI 10000 ≤ x4
    · have c8 : ¬ x4 ≤ 9999 := by
        have := (gt_lit (c := 9999) (k := 10000) (by decide) (by decide) c6).mpr c7
        rw [Int32.lt_iff_toInt_lt] at this
        rw [Int32.le_iff_toInt_le]
        omega
      exact ⟨Sx, Sm, -1, by rw [if_neg c8], by rw [if_pos (inR_big c7)], h⟩
    have c8 : x4 ≤ 9999 := by
      have this : ¬ (9999 : Int32) < x4 := fun q => c7 ((gt_lit (c := 9999) (k := 10000) (by decide) (by decide) c6).mp q)
      rw [Int32.lt_iff_toInt_lt] at this
      rw [Int32.le_iff_toInt_le]
      omega
    have e : ib (nI k) 40 := ib_nI hk (by decide)
    have e40 : ¬ nI k = 40 := fun q => by
      have : nI k = nI 40 := q
      rw [nI_eq (by omega) (by decide)] at this
      omega
    rw [if_pos c8, if_neg (inR_pos c6 c7), l3, if_neg e40, tell_spec hk l2, bd_go]
    simp only [bn_go, l3, cl_nI (show k < 2 ^ 31 by omega), gd_pos e]
    refine ⟨_, sI (sI (sI (sI (sI (sI (sI Sm 34 k x1) 35 k x2) 36 k x3) 37 k x4) 38 k (nI t)) 39 k (-1)) 0 77 (nI k + 1), nI k + 1 - 1, rfl, ?_, B, b, hB, ⟨hb, hr, hr2⟩, RXb_frame hX (fun a q1 q2 => ?_) hB, hlim, hM, ht, hv, Gbx_frame hbx (fun a q1 q2 => ?_) (fun a q1 q2 => ?_), ⟨⟨t, t1, t2, t3⟩, k + 1, by omega, nI_1 k, nI_1 k, fun i hi => ?_⟩, Go_frame ho (fun a q1 q2 => ?_) rfl rfl rfl, ha, hnn, hs, hw⟩
    · simp only [sI_ne (show (0 : Nat) ≠ 34 by decide), sI_ne (show (0 : Nat) ≠ 35 by decide), sI_ne (show (0 : Nat) ≠ 36 by decide), sI_ne (show (0 : Nat) ≠ 37 by decide), sI_ne (show (0 : Nat) ≠ 38 by decide), sI_ne (show (0 : Nat) ≠ 39 by decide), l3, t3, cl_nI (show k < 2 ^ 31 by omega), gd_pos e, sI_row, upd, if_pos]
    · rcases hb with q | q <;> (rw [sI_ne (by omega), sI_ne (by omega), sI_ne (by omega), sI_ne (by omega), sI_ne (by omega), sI_ne (by omega), sI_ne (by omega)])
    · rw [sI_ne (by omega), sI_ne (by omega), sI_ne (by omega), sI_ne (by omega), sI_ne (by omega), sI_ne (by omega), sI_ne (by omega)]
    · rw [sI_ne (by omega), sI_ne (by omega), sI_ne (by omega), sI_ne (by omega), sI_ne (by omega), sI_ne (by omega), sI_ne (by omega)]
    · refine ⟨row_upd (fun q => (l4 i q).1) hi, row_upd (fun q => (l4 i q).2.1) hi, row_upd (fun q => (l4 i q).2.2.1) hi, row_upd (fun q => (l4 i q).2.2.2.1) hi, ?_, row_upd (fun q => (l4 i q).2.2.2.2.2.1) hi, ?_, ?_, ?_⟩
      · show upd (Sx.1 239) k (Sx.1 0 12) i = upd (Sm.1 38) k (nI t) i
        rw [t2]
        exact row_upd (fun q => (l4 i q).2.2.2.2.1) hi
      · show ∃ l, l < b_nl B ∧ upd (Sm.1 34) k x1 i = nI l
        unfold upd
        by_cases q : i = k
        · rw [if_pos q]; exact inR_of (by omega) c1
        · rw [if_neg q]; exact (l4 i (by omega)).2.2.2.2.2.2.1
      · show ∃ l, l < b_ne B ∧ upd (Sm.1 35) k x2 i = nI l
        unfold upd
        by_cases q : i = k
        · rw [if_pos q]; exact inR_of (by omega) c2
        · rw [if_neg q]; exact (l4 i (by omega)).2.2.2.2.2.2.2.1
      · show upd (Sm.1 39) k (-1) i = -1 ∨ ∃ t, t ≤ 100000 ∧ upd (Sm.1 39) k (-1) i = nI t
        unfold upd
        by_cases q : i = k
        · rw [if_pos q]; exact Or.inl rfl
        · rw [if_neg q]; exact (l4 i (by omega)).2.2.2.2.2.2.2.2
    · rw [sI_ne (by omega), sI_ne (by omega), sI_ne (by omega), sI_ne (by omega), sI_ne (by omega), sI_ne (by omega), sI_ne (by omega)]
  · have hk : k = 40 := by
      have : ¬ nI k < nI 40 := c3
      rw [nI_ltI (by omega) (by decide)] at this
      omega
    subst hk
    rw [if_neg c3, bd_go, if_neg (show ¬ (1 : Int32) = 0 by decide)]
    refine ⟨Sx, Sm, -1, rfl, ?_, h⟩
    split
    · rfl
    · rw [isIn_lit (k := 10000) (by decide) (by decide), bd_go]
      split
      · rfl
      · rw [l3]
        rfl
end
