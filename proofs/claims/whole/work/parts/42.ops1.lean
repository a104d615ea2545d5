/-- is x one of 0 .. k - 1 -/
def inR (x : Int32) (k : Nat) : Int32 := if x < 0 then 0 else if nI k ≤ x then 0 else 1
theorem inR_01 (x : Int32) (k : Nat) : inR x k = 0 ∨ inR x k = 1 := by
  unfold inR
  split
  · exact Or.inl rfl
  · split
    · exact Or.inl rfl
    · exact Or.inr rfl
theorem inR_of {x : Int32} {k : Nat} (hk : k < 2 ^ 31) (h : ¬ inR x k = 0) : ∃ j : Nat, j < k ∧ x = nI j := by
  rcases pk_ix x hk with h1 | h1 | h1
  · exact absurd (by unfold inR; rw [if_pos h1]) h
  · exact absurd (by unfold inR; split <;> simp [h1]) h
  · exact h1
theorem inR_nI {j k : Nat} (h : j < k) (hk : k < 2 ^ 31) : inR (nI j) k = 1 := by
  unfold inR
  rw [if_neg (nI_pos (by omega)), if_neg (nI_ge h hk)]
theorem pred_lt {x : Int32} {k : Nat} (hk : k < 2 ^ 31) (h0 : ¬ x < 0) : nI k - 1 < x ↔ nI k ≤ x := by
  obtain ⟨j, hj, rfl⟩ := nI_of h0
  rw [nI_leI hk hj]
  cases k with
  | zero =>
    constructor
    · intro _; omega
    · intro _
      have e : nI 0 - 1 = -1 := by decide
      rw [e, Int32.lt_iff_toInt_lt, nI_toInt hj]
      show (-1 : Int) < j
      omega
  | succ k =>
    rw [nI_pred, nI_ltI (by omega) hj]
    omega
theorem isIn_spec {n : Nat} {S : St} {x : Int32} {k : Nat} (hk : k < 2 ^ 31) : fX11_isIn n S x 0 (nI k - 1) = some (S, inR x k) := by
  unfold fX11_isIn inR
  by_cases h0 : x < 0
  · rw [if_pos h0, if_pos h0]
  · rw [if_neg h0, if_neg h0]
    by_cases h1 : nI k ≤ x
    · rw [if_pos ((pred_lt hk h0).mpr h1), if_pos h1]
    · rw [if_neg (fun q => h1 ((pred_lt hk h0).mp q)), if_neg h1]
/-- a range of numbers from 0 on -/
theorem isIn_lit {n : Nat} {S : St} {x c : Int32} {k : Nat} (hk : k < 2 ^ 31) (hc : c = nI k - 1) : fX11_isIn n S x 0 c = some (S, inR x k) := by
  rw [hc]
  exact isIn_spec hk
theorem has_spec {sd : Sd} {n : Nat} {S : St} {a : Nat} {x : Int32} {k : Nat} (ha : isK sd a 5) (hc : S.1 a 3 = nI k) : fX5_has sd n S a x = some (S, inR x k) := by
  unfold fX5_has inR
  by_cases h0 : x < 0
  · rw [if_pos h0, if_pos h0]
  · rw [if_neg h0, if_neg h0, gd_pos ha, hc]
    by_cases h1 : nI k ≤ x
    · rw [if_pos h1, if_pos h1]
    · rw [if_neg h1, if_neg h1]
/-- what is known of a bench's cells by their numbers -/
theorem bk {b : Nat} (hb : b = 3 ∨ b = 77) : isK sdX b 0 ∧ (srX b 0 = b + 1 ∧ srX b 1 = b + 12 ∧ srX b 2 = b + 19 ∧ srX b 3 = b + 28 ∧ srX b 4 = b + 35) ∧ (isK sdX (b + 1) 5 ∧ isK sdX (b + 12) 5 ∧ isK sdX (b + 19) 5 ∧ isK sdX (b + 28) 5 ∧ isK sdX (b + 35) 5) := by
  rcases hb with rfl | rfl <;> decide
theorem isDye_spec {B : Bd} {n : Nat} {S : St} {x : Int32} (hM : RMb B S.1) (hB : Bok B) : fX11_isDye n S x = some (S, inR x (b_nd B)) := by
  have h1 : S.1 4 0 = nI (b_nd B) := hM.2.2.2.2.2.1
  have hk : b_nd B ≤ 8 := hB.2.2.2.2.2.1
  unfold fX11_isDye fX11_dyes
  rw [gd_pos (by decide), bd_go, show Int32.toNatClampNeg 0 = 0 from rfl, h1, isIn_spec (by omega), bd_go, gd_pos (inR_01 _ _)]
theorem isLamp_spec {B : Bd} {n : Nat} {S : St} {x : Int32} (hM : RMb B S.1) (hB : Bok B) : fX11_isLamp n S x = some (S, inR x (b_nl B)) := by
  have h1 : S.1 4 2 = nI (b_nl B) := hM.2.2.2.2.2.2.2.1
  have hk : b_nl B ≤ 6 := hB.2.2.2.2.2.2.2.1
  unfold fX11_isLamp fX11_lamps
  rw [gd_pos (by decide), bd_go, show Int32.toNatClampNeg 2 = 2 from rfl, h1, isIn_spec (by omega), bd_go, gd_pos (inR_01 _ _)]
theorem isEye_spec {B : Bd} {n : Nat} {S : St} {x : Int32} (hM : RMb B S.1) (hB : Bok B) : fX11_isEye n S x = some (S, inR x (b_ne B)) := by
  have h1 : S.1 4 3 = nI (b_ne B) := hM.2.2.2.2.2.2.2.2.1
  have hk : b_ne B ≤ 4 := hB.2.2.2.2.2.2.2.2.1
  unfold fX11_isEye fX11_eyes
  rw [gd_pos (by decide), bd_go, show Int32.toNatClampNeg 3 = 3 from rfl, h1, isIn_spec (by omega), bd_go, gd_pos (inR_01 _ _)]
theorem isGround_spec {B : Bd} {n : Nat} {S : St} {x : Int32} (hM : RMb B S.1) (hB : Bok B) : fX11_isGround n S x = some (S, inR x (b_ng B)) := by
  have h1 : S.1 4 1 = nI (b_ng B) := hM.2.2.2.2.2.2.1
  have hk : b_ng B ≤ 4 := hB.2.2.2.2.2.2.1
  unfold fX11_isGround
  rw [gd_pos (by decide), show Int32.toNatClampNeg 1 = 1 from rfl, h1, isIn_spec (by omega), bd_go, gd_pos (inR_01 _ _)]
theorem Gbx_frame {B : Bd} {F F' M M' : Nat → Nat → Int32} (h : Gbx B F M) (hF : ∀ a, 264 ≤ a → a ≤ 269 → F' a = F a) (hM : ∀ a, 42 ≤ a → a ≤ 46 → M' a = M a) : Gbx B F' M' := by
  intro i hi
  rw [hF _ (by omega) (by omega), hF _ (by omega) (by omega), hM 42 (by omega) (by omega), hM 43 (by omega) (by omega), hM 44 (by omega) (by omega), hM 45 (by omega) (by omega), hM 46 (by omega) (by omega)]
  exact h i hi
theorem Go_frame {B : Bd} {F F' M M' : Nat → Nat → Int32} (h : Go B F M) (hF : ∀ a, 157 ≤ a → a ≤ 232 → F' a = F a) (h0 : M' 0 70 = M 0 70) (h1 : M' 32 = M 32) (h2 : M' 33 = M 33) : Go B F' M' := by
  obtain ⟨o, o1, o2, o3, o4, o5, o6⟩ := h
  refine ⟨o, o1, o2, by rw [hF _ (by omega) (by omega)]; exact o3, by rw [h0]; exact o4, by rw [h1, h2]; exact o5, fun i hi => ?_⟩
  rw [hF 158 (by omega) (by omega), hF 159 (by omega) (by omega), hF (161 + i) (by omega) (by omega), h1, h2]
  exact o6 i hi
section
variable {n : Nat} {Sx Sm : St}
theorem ok_end (h : Rel Sx Sm) : Ok_end n Rel Sx Sm := by
  intro x
  obtain ⟨B, b, hB, hr, hX, hlim, hM, ⟨⟨t, t1, t2, t3, t4⟩, t5⟩, hv, hbx, hl, ho, ha, hn, hs, hw⟩ := id h
  unfold fX10_end fX11_end
  rw [t2, t3]
  by_cases c1 : x < 0
  · exact ⟨Sx, Sm, -1, by rw [if_pos c1], by rw [if_pos c1], h⟩
  · by_cases c2 : x ≤ nI t
    · obtain ⟨j, hj, rfl⟩ := nI_of c1
      rw [nI_leI hj (by omega)] at c2
      refine ⟨sI Sx 1 1 (nI j), sI Sm 0 1 (nI j), nI j, by rw [if_neg c1, if_pos (nI_le c2 (by omega))]; rfl, by rw [if_neg c1, if_pos (nI_le c2 (by omega))]; rfl, B, b, hB, hr, RXb_frame hX (fun a q1 q2 => up_other _ _ (by rcases hr.1 with q | q <;> omega)) hB, hlim, hM, ⟨⟨j, by omega, rfl, rfl, fun i hi => t4 i (by omega)⟩, t5⟩, hv, Gbx_frame hbx (fun a q1 q2 => up_other _ _ (by omega)) (fun a q1 q2 => up_other _ _ (by omega)), hl, Go_frame ho (fun a q1 q2 => up_other _ _ (by omega)) rfl rfl rfl, ha, hn, hs, hw⟩
    · exact ⟨Sx, Sm, -1, by rw [if_neg c1, if_neg c2], by rw [if_neg c1, if_neg c2], h⟩
theorem ok_fault (h : Rel Sx Sm) : Ok_fault n Rel Sx Sm := by
  intro x
  obtain ⟨B, b, hB, hr, hX, hlim, hM, ⟨-, t2, t3, -⟩, -⟩ := id h
  unfold fX10_fault fX11_fault
  rw [t2, t3]
  by_cases c1 : x = 0
  · exact ⟨Sx, Sm, Sm.1 0 2, by rw [if_pos c1], by rw [if_pos c1], h⟩
  · by_cases c2 : x = 1
    · exact ⟨Sx, Sm, Sm.1 0 3, by rw [if_neg c1, if_pos c2], by rw [if_neg c1, if_pos c2], h⟩
    · exact ⟨Sx, Sm, -1, by rw [if_neg c1, if_neg c2], by rw [if_neg c1, if_neg c2], h⟩
theorem ok_seed (h : Rel Sx Sm) : Ok_seed n Rel Sx Sm := by
  intro x
  obtain ⟨B, b, hB, hr, hX, hlim, hM, ht, ⟨v1, v2, v3, v4, v5⟩, hbx, hl, ho, ha, hn, hs, hw⟩ := h
  refine ⟨sI Sx 261 3 x, sI Sm 0 67 x, Sm.1 0 67, by unfold fX10_seed; rw [v4]; rfl, rfl, B, b, hB, hr, RXb_frame hX (fun a q1 q2 => up_other _ _ (by rcases hr.1 with q | q <;> omega)) hB, hlim, hM, ht, ⟨v1, v2, v3, rfl, v5⟩, Gbx_frame hbx (fun a q1 q2 => up_other _ _ (by omega)) (fun a q1 q2 => up_other _ _ (by omega)), hl, Go_frame ho (fun a q1 q2 => up_other _ _ (by omega)) rfl rfl rfl, ha, hn, hs, hw⟩
theorem ok_old (h : Rel Sx Sm) : Ok_old n Rel Sx Sm := by
  obtain ⟨B, b, hB, hr, hX, hlim, hM, ht, hv, hbx, hl, ⟨o, o1, o2, o3, o4, -⟩, -⟩ := id h
  exact ⟨Sx, Sm, nI o, by unfold fX10_old; rw [o3], by unfold fX11_old; rw [o4], h⟩
theorem ok_later (h : Rel Sx Sm) : Ok_later n Rel Sx Sm := by
  intro x
  obtain ⟨B, b, hB, hr, hX, hlim, hM, ht, hv, hbx, ⟨⟨t, t1, t2, t3⟩, l2⟩, ho, ha, hn, hs, hw⟩ := id h
  unfold fX10_later fX11_later
  rw [t2, t3]
  by_cases c1 : x < 0
  · exact ⟨Sx, Sm, -1, by rw [if_pos c1], by rw [if_pos c1], h⟩
  · by_cases c2 : 1000 < x
    · exact ⟨Sx, Sm, -1, by rw [if_neg c1, if_pos c2], by rw [if_neg c1, if_pos c2], h⟩
    · by_cases c3 : nI t + x ≤ 100000
      · obtain ⟨j, hj, rfl⟩ := nI_of c1
        have c2' : j ≤ 1000 := by
          have : ¬ nI 1000 < nI j := c2
          rw [nI_ltI (by omega) hj] at this
          omega
        have c3' : t + j ≤ 100000 := by
          have : nI t + nI j ≤ nI 100000 := c3
          rw [nI_add, nI_leI (by omega) (by omega)] at this
          exact this
        refine ⟨sI Sx 0 12 (nI t + nI j), sI Sm 0 78 (nI t + nI j), nI t + nI j, by rw [if_neg c1, if_neg c2, if_pos c3]; rfl, by rw [if_neg c1, if_neg c2, if_pos c3]; rfl, B, b, hB, hr, RXb_frame hX (fun a q1 q2 => up_other _ _ (by rcases hr.1 with q | q <;> omega)) hB, hlim, hM, ht, hv, Gbx_frame hbx (fun a q1 q2 => up_other _ _ (by omega)) (fun a q1 q2 => up_other _ _ (by omega)), ⟨⟨t + j, c3', nI_add t j, nI_add t j⟩, l2⟩, Go_frame ho (fun a q1 q2 => up_other _ _ (by omega)) rfl rfl rfl, ha, hn, hs, hw⟩
      · exact ⟨Sx, Sm, -1, by rw [if_neg c1, if_neg c2, if_neg c3], by rw [if_neg c1, if_neg c2, if_neg c3], h⟩
theorem ok_oldOne (h : Rel Sx Sm) : Ok_oldOne n Rel Sx Sm := by
  intro x y
  obtain ⟨B, b, hB, hr, hX, hlim, hM, ht, hv, hbx, hl, ⟨o, o1, o2, o3, o4, -, o5⟩, -⟩ := id h
  unfold fX10_oldOne fX11_oldOne
  rw [o4, isIn_spec (by omega), bd_go, o3]
  rcases pk_ix x (show o < 2 ^ 31 by omega) with c | c | ⟨j, hj, rfl⟩
  · exact ⟨Sx, Sm, -2, by rw [if_pos c], by rw [if_pos (by unfold inR; rw [if_pos c])], h⟩
  · have c0 : inR x o = 0 := by unfold inR; split <;> simp [c]
    have c1 : ¬ x < nI o := fun q => by rw [Int32.lt_iff_toInt_lt] at q; rw [Int32.le_iff_toInt_le] at c; omega
    refine ⟨Sx, Sm, -2, ?_, by rw [if_pos c0], h⟩
    split
    · rfl
    · first | rfl | rw [if_neg c1]
  · have e1 : ¬ nI j < 0 := nI_pos (by omega)
    have e2 : nI j < nI o := nI_lt hj (by omega)
    have e3 : ¬ inR (nI j) o = 0 := by rw [inR_nI hj (by omega)]; decide
    have e4 : ib (nI j) 72 := ib_nI (by omega) (by decide)
    rw [if_neg e1, if_pos e2, if_neg e3, gd_pos e4, gd_pos e4, gd_pos e4, gd_pos e4, cl_nI (by omega), (o5 j hj).1, (o5 j hj).2.1]
    by_cases c1 : y = 0
    · exact ⟨Sx, Sm, _, by rw [if_pos c1], by rw [if_pos c1], h⟩
    · by_cases c2 : y = 1
      · exact ⟨Sx, Sm, _, by rw [if_neg c1, if_pos c2], by rw [if_neg c1, if_pos c2], h⟩
      · exact ⟨Sx, Sm, -2, by rw [if_neg c1, if_neg c2], by rw [if_neg c1, if_neg c2], h⟩
theorem ok_vat (h : Rel Sx Sm) : Ok_vat n Rel Sx Sm := by
  intro x
  obtain ⟨B, b, hB, ⟨hb, hr, -⟩, hX, hlim, hM, ht, ⟨v1, -⟩, -⟩ := id h
  obtain ⟨k1, ⟨k2, -⟩, k3, -⟩ := bk hb
  have hd : b_nd B ≤ 8 := hB.2.2.2.2.2.1
  unfold fX10_vat fX11_vat
  rw [isDye_spec hM hB, bd_go, hr, gd_pos k1, k2, gd_pos k3, has_spec k3 hX.2.2.2.2.2.1, bd_go]
  by_cases c : inR x (b_nd B) = 0
  · exact ⟨Sx, Sm, -1, by rw [if_pos c], by rw [if_pos c], h⟩
  · obtain ⟨j, hj, rfl⟩ := inR_of (by omega) c
    have e : ib (nI j) 8 := ib_nI (by omega) (by decide)
    exact ⟨Sx, Sm, Sm.1 31 j, by rw [if_neg c, gd_pos e, cl_nI (by omega), v1 j (by omega)], by rw [if_neg c, gd_pos e, cl_nI (by omega)], h⟩
theorem ok_weight (h : Rel Sx Sm) : Ok_weight n Rel Sx Sm := by
  intro x
  obtain ⟨B, b, hB, ⟨hb, hr, -⟩, hX, hlim, hM, ht, hv, hbx, hl, ho, ha, hn, hs, w1, w2, w3⟩ := id h
  obtain ⟨k1, ⟨-, -, k2, -⟩, -, -, k3, -⟩ := bk hb
  have hd : b_nl B ≤ 6 := hB.2.2.2.2.2.2.2.1
  unfold fX10_weight fX11_weight
  rw [w2]
  by_cases c0 : Sm.1 0 63 = 0
  · exact ⟨Sx, Sm, -1, by rw [if_pos c0], by rw [if_pos c0], h⟩
  · have w3 := w3 (w1.resolve_left c0)
    rw [if_neg c0, if_neg c0, isLamp_spec hM hB, bd_go, hr, gd_pos k1, k2, gd_pos k3, has_spec k3 hX.2.2.2.2.2.2.2.1, bd_go]
    by_cases c : inR x (b_nl B) = 0
    · exact ⟨Sx, Sm, -1, by rw [if_pos c], by rw [if_pos c], h⟩
    · obtain ⟨j, hj, rfl⟩ := inR_of (by omega) c
      have e : ib (nI j) 6 := ib_nI (by omega) (by decide)
      exact ⟨Sx, Sm, Sm.1 29 j, by rw [if_neg c, gd_pos e, cl_nI (by omega), w3 j (by omega)], by rw [if_neg c, gd_pos e, cl_nI (by omega)], h⟩
theorem ok_parts (h : Rel Sx Sm) : Ok_parts n Rel Sx Sm := by
  intro x
  obtain ⟨B, b, hB, ⟨hb, hr, -⟩, hX, hlim, hM, ht, hv, hbx, hl, ho, ha, ⟨w1, w2, w3⟩, hs, hw⟩ := id h
  obtain ⟨k1, ⟨k2, -⟩, k3, -⟩ := bk hb
  have hd : b_nd B ≤ 8 := hB.2.2.2.2.2.1
  unfold fX10_parts fX11_parts
  rw [w2]
  by_cases c0 : Sm.1 0 52 = 0
  · exact ⟨Sx, Sm, -1, by rw [if_pos c0], by rw [if_pos c0], h⟩
  · have w3 := w3 (w1.resolve_left c0)
    rw [if_neg c0, if_neg c0, isDye_spec hM hB, bd_go, hr, gd_pos k1, k2, gd_pos k3, has_spec k3 hX.2.2.2.2.2.1, bd_go]
    by_cases c : inR x (b_nd B) = 0
    · exact ⟨Sx, Sm, -1, by rw [if_pos c], by rw [if_pos c], h⟩
    · obtain ⟨j, hj, rfl⟩ := inR_of (by omega) c
      have e : ib (nI j) 8 := ib_nI (by omega) (by decide)
      exact ⟨Sx, Sm, Sm.1 24 j, by rw [if_neg c, gd_pos e, cl_nI (by omega), w3 j (by omega)], by rw [if_neg c, gd_pos e, cl_nI (by omega)], h⟩
theorem ok_about (h : Rel Sx Sm) : Ok_about n Rel Sx Sm := by
  intro x
  obtain ⟨B, b, hB, ⟨hb, hr, -⟩, hX, hlim, hM, ⟨⟨t, t1, t2, t3, -⟩, -⟩, ⟨v1, v2, v3, v4, -⟩, hbx, ⟨⟨u, u1, u2, u3⟩, k, kk1, kk2, kk3, -⟩, -⟩ := id h
  obtain ⟨k1, ⟨s0, s1, s2, s3, s4⟩, q0, q1, q2, q3, q4⟩ := bk hb
  obtain ⟨x1, -, -, -, -, x6, x7, x8, x9, x10, -⟩ := hX
  obtain ⟨m1, -, -, -, -, m6, m7, m8, m9, m10, -⟩ := hM
  unfold fX10_about fX11_about fX11_dyes fX11_lamps fX11_eyes
  rw [hr, gd_pos k1, gd_pos k1, gd_pos k1, gd_pos k1, gd_pos k1, gd_pos k1, s0, s1, s2, s3, s4, gd_pos q0, gd_pos q1, gd_pos q2, gd_pos q3, gd_pos q4, gd_pos (show ib 0 5 by decide), gd_pos (show ib 1 5 by decide), gd_pos (show ib 2 5 by decide), gd_pos (show ib 3 5 by decide), gd_pos (show ib 4 5 by decide), bd_go, bd_go, bd_go]
  rw [show Int32.toNatClampNeg 0 = 0 from rfl, show Int32.toNatClampNeg 1 = 1 from rfl, show Int32.toNatClampNeg 2 = 2 from rfl, show Int32.toNatClampNeg 3 = 3 from rfl, show Int32.toNatClampNeg 4 = 4 from rfl]
  rw [x1, x6, x7, x8, x9, x10, m1, m6, m7, m8, m9, m10, t2, t3, v2, v3, v4, u2, u3, kk2, kk3]
  by_cases c0 : x = 0
  · exact ⟨Sx, Sm, _, by rw [if_pos c0], by rw [if_pos c0], h⟩
  rw [if_neg c0, if_neg c0]
  by_cases c1 : x = 1
  · exact ⟨Sx, Sm, _, by rw [if_pos c1], by rw [if_pos c1], h⟩
  rw [if_neg c1, if_neg c1]
  by_cases c2 : x = 2
  · exact ⟨Sx, Sm, _, by rw [if_pos c2], by rw [if_pos c2], h⟩
  rw [if_neg c2, if_neg c2]
  by_cases c3 : x = 3
  · exact ⟨Sx, Sm, _, by rw [if_pos c3], by rw [if_pos c3], h⟩
  rw [if_neg c3, if_neg c3]
  by_cases c4 : x = 4
  · exact ⟨Sx, Sm, _, by rw [if_pos c4], by rw [if_pos c4], h⟩
  rw [if_neg c4, if_neg c4]
  by_cases c5 : x = 5
  · exact ⟨Sx, Sm, _, by rw [if_pos c5], by rw [if_pos c5], h⟩
  rw [if_neg c5, if_neg c5]
  by_cases c6 : x = 6
  · exact ⟨Sx, Sm, _, by rw [if_pos c6], by rw [if_pos c6], h⟩
  rw [if_neg c6, if_neg c6]
  by_cases c7 : x = 7
  · exact ⟨Sx, Sm, _, by rw [if_pos c7], by rw [if_pos c7], h⟩
  rw [if_neg c7, if_neg c7]
  by_cases c8 : x = 8
  · exact ⟨Sx, Sm, _, by rw [if_pos c8], by rw [if_pos c8], h⟩
  rw [if_neg c8, if_neg c8]
  by_cases c9 : x = 9
  · exact ⟨Sx, Sm, _, by rw [if_pos c9], by rw [if_pos c9], h⟩
  rw [if_neg c9, if_neg c9]
  by_cases c10 : x = 10
  · exact ⟨Sx, Sm, _, by rw [if_pos c10], by rw [if_pos c10], h⟩
  rw [if_neg c10, if_neg c10]
  by_cases c11 : x = 11
  · exact ⟨Sx, Sm, _, by rw [if_pos c11], by rw [if_pos c11], h⟩
  rw [if_neg c11, if_neg c11]
  exact ⟨Sx, Sm, _, rfl, rfl, h⟩
theorem ok_untell (h : Rel Sx Sm) : Ok_untell n Rel Sx Sm := by
  intro x
  obtain ⟨B, b, hB, hr, hX, hlim, hM, ht, hv, hbx, ⟨⟨t, t1, t2, t3⟩, k, l1, l2, l3, l4⟩, ho, ha, hn, hs, hw⟩ := id h
  unfold fX10_untell fX11_untell fX1_takeBack
  rw [l3, isIn_spec (by omega), bd_go, l2, t2, t3]
  rcases pk_ix x (show k < 2 ^ 31 by omega) with c | c | ⟨j, hj, rfl⟩
  · exact ⟨Sx, Sm, 0, by rw [if_pos c]; rfl, by rw [if_pos (by unfold inR; rw [if_pos c])], h⟩
  · have c0 : inR x k = 0 := by unfold inR; split <;> simp [c]
    refine ⟨Sx, Sm, 0, ?_, by rw [if_pos c0], h⟩
    split
    · rfl
    · first | rfl | (rw [if_pos c]; rfl)
  · have e1 : ¬ nI j < 0 := nI_pos (by omega)
    have e2 : ¬ nI k ≤ nI j := nI_ge hj (by omega)
    have e3 : ¬ inR (nI j) k = 0 := by rw [inR_nI hj (by omega)]; decide
    have e4 : ib (nI j) 40 := ib_nI (by omega) (by decide)
    obtain ⟨a1, a2, a3, a4, a5, a6, a7, a8, a9⟩ := l4 j hj
    rw [if_neg e1, if_neg e2, if_neg e3, gd_pos e4, gd_pos e4, gd_pos e4, gd_pos e4, cl_nI (by omega), a6]
    rcases a9 with a9 | ⟨w, w1, a9⟩
    · rw [if_pos a9, if_pos (m1_lt a9)]
      refine ⟨sI Sx 240 j (nI t), sI Sm 39 j (nI t), 1, rfl, rfl, B, b, hB, hr, RXb_frame hX (fun a q1 q2 => up_other _ _ (by rcases hr.1 with q | q <;> omega)) hB, hlim, hM, ht, hv, Gbx_frame hbx (fun a q1 q2 => up_other _ _ (by omega)) (fun a q1 q2 => up_other _ _ (by omega)), ⟨⟨t, t1, t2, t3⟩, k, l1, l2, l3, fun i hi => ?_⟩, Go_frame ho (fun a q1 q2 => up_other _ _ (by omega)) rfl rfl rfl, ha, hn, hs, hw⟩
      obtain ⟨b1, b2, b3, b4, b5, b6, b7, b8, b9⟩ := l4 i hi
      refine ⟨b1, b2, b3, b4, b5, ?_, b7, b8, ?_⟩
      · show upd (Sx.1 240) j (nI t) i = upd (Sm.1 39) j (nI t) i
        unfold upd
        rw [b6]
      · show upd (Sm.1 39) j (nI t) i = -1 ∨ _
        unfold upd
        by_cases q : i = j
        · rw [if_pos q]; exact Or.inr ⟨t, t1, by show upd (Sm.1 39) j (nI t) i = _; unfold upd; rw [if_pos q]⟩
        · rw [if_neg q]
          rcases b9 with b9 | ⟨w, w1, b9⟩
          · exact Or.inl b9
          · exact Or.inr ⟨w, w1, by show upd (Sm.1 39) j (nI t) i = _; unfold upd; rw [if_neg q]; exact b9⟩
    · have q1 : ¬ Sm.1 39 j = -1 := by
        rw [a9]
        intro q
        have := congrArg Int32.toInt q
        rw [nI_toInt (by omega)] at this
        have e : (-1 : Int32).toInt = -1 := by decide
        omega
      have q2 : ¬ Sm.1 39 j < 0 := by rw [a9]; exact nI_pos (by omega)
      rw [if_neg q1, if_neg q2]
      exact ⟨Sx, Sm, 0, rfl, rfl, h⟩
end
