theorem bk2 {b : Nat} (hb : b = 3 ∨ b = 77) : (srX b 5 = b + 46 ∧ srX b 6 = b + 47 ∧ srX b 7 = b + 48 ∧ srX b 8 = b + 49) ∧ (isK sdX (b + 46) 13 ∧ isK sdX (b + 47) 13 ∧ isK sdX (b + 48) 13) ∧ (sdX.2.2.1 (b + 46) = 8 ∧ sdX.2.2.1 (b + 47) = 8 ∧ sdX.2.2.1 (b + 48) = 8) := by
  rcases hb with rfl | rfl <;> decide
/-- one day: both sides -/
theorem day_loop {n : Nat} {B : Bd} {b : Nat} {X0 M0 : St} (hR : RelB B b X0 M0) (k17 : St → Int32 → Int32 → Int32 → Option (St × Int32)) : ∀ (m d j j' : Nat) (X M : St) (g x1 x2 x3 : Int32), d + m = b_nd B → m < j → m < j' → kV X0 M0 X M → Gv B X.1 M.1 →
    ∃ (X' M' : St) (r : Int32), fX8_fadeOneDay_l14 sdX n j X 261 b g (nI d) = some (X', g + r) ∧ fX11_days_l35 n k17 j' M x1 x2 x3 (nI d) = k17 M' x1 (x2 + r) (x3 + 1) ∧ kV X0 M0 X' M' ∧ Gv B X'.1 M'.1 := by
  obtain ⟨hB, ⟨hb, hr, hr2⟩, hX, hlim, hM, -⟩ := id hR
  obtain ⟨k1, ⟨k2, -⟩, k3, -⟩ := bk hb
  obtain ⟨⟨-, s6, -⟩, ⟨-, t6, -⟩, -, l6, -⟩ := bk2 hb
  have h8 : b_nd B ≤ 8 := hB.2.2.2.2.2.1
  have hmo : b_most B ≤ 24 := hB.2.1.2
  have xd : X0.1 (b + 1) 3 = nI (b_nd B) := hX.2.2.2.2.2.1
  have md : M0.1 4 0 = nI (b_nd B) := hM.2.2.2.2.2.1
  have hne : b + 1 ≠ 261 ∧ b + 1 ≠ 262 ∧ b + 47 ≠ 261 ∧ b + 47 ≠ 262 := by rcases hb with q | q <;> omega
  intro m
  induction m with
  | zero =>
    intro d j j' X M g x1 x2 x3 h hj hj' q hg
    obtain ⟨j, rfl⟩ := suc_of hj
    obtain ⟨j', rfl⟩ := suc_of hj'
    refine ⟨X, M, 0, ?_, ?_, q, hg⟩
    · rw [fX8_fadeOneDay_l14, gd_pos k1, show sdX.2.2.2 b 0 = b + 1 from k2, gd_pos k3, q.1 _ hne.1 hne.2.1, xd, if_pos (nI_le (by omega) (by omega)), Int32.add_zero]
    · rw [fX11_days_l35]
      unfold fX11_dyes fX11_days_j102
      rw [gd_pos (show ib 0 5 by decide), bd_go, show Int32.toNatClampNeg 0 = 0 from rfl, q.2.2.1 4 (by decide) (by decide), md, if_pos (nI_le (by omega) (by omega)), bn_go, Int32.add_zero]
  | succ m ih =>
    intro d j j' X M g x1 x2 x3 h hj hj' q hg
    obtain ⟨j, rfl⟩ := suc_of hj
    obtain ⟨j', rfl⟩ := suc_of hj'
    have e8 : ib (nI d) 8 := ib_nI (by omega) (by decide)
    rw [fX8_fadeOneDay_l14, gd_pos k1, show sdX.2.2.2 b 0 = b + 1 from k2, gd_pos k3, q.1 _ hne.1 hne.2.1, xd, if_neg (nI_ge (by omega) (by omega)), show sdX.2.2.2 b 6 = b + 47 from s6, gd_pos t6, l6, gd_pos e8, bn_go]
    simp only [cl_nI (show d < 2 ^ 31 by omega), q.1 _ hne.2.2.1 hne.2.2.2, (hX.2.2.2.2.2.2.2.2.2.2.2.2.2.2.2.1 d (show d < b_nd B by omega)).2]
    rw [fX11_days_l35]
    unfold fX11_dyes
    rw [gd_pos (show ib 0 5 by decide), bd_go, show Int32.toNatClampNeg 0 = 0 from rfl, q.2.2.1 4 (by decide) (by decide), md, if_neg (nI_ge (by omega) (by omega)), gd_pos e8]
    simp only [cl_nI (show d < 2 ^ 31 by omega), q.2.2.1 18 (by decide) (by decide), (hM.2.2.2.2.2.2.2.2.2.2.2.2.2.2.1 d (show d < b_nd B by omega)).2]
    unfold fX8_fadeOneDay_j70 fX11_days_j96
    by_cases c1 : b_fst B d = 0
    · rw [if_pos c1, if_pos c1, bn_go, bn_go, nI_1]
      exact ih (d + 1) j j' X M g x1 x2 x3 (by omega) (by omega) (by omega) q hg
    rw [if_neg c1, if_neg c1, gd_pos (show isK sdX 261 8 by decide), gd_pos c1, gd_pos e8, gd_pos c1, hg.2.2.1]
    by_cases c2 : M.1 0 66 - M.1 0 66 / b_fst B d * b_fst B d = 0
    · rw [if_pos c2, if_pos c2]
      simp only [show srX 261 0 = 262 from rfl, show lnX 262 = 8 from rfl, gd_pos (show isK sdX 262 13 by decide), gd_pos e8, hg.1 d (show d < 8 by omega)]
      obtain ⟨p, p1, p2, p3⟩ := hg.2.2.2.2.1
      have hpd : p d ≤ sumN p 8 := sumN_ge (by omega)
      rw [p1 d (by omega)]
      by_cases c3 : p d = 0
      · rw [c3, if_pos (show nI 0 ≤ 0 by decide), if_pos (show nI 0 = 0 from rfl), bn_go, bn_go, nI_1]
        exact ih (d + 1) j j' X M g x1 x2 x3 (by omega) (by omega) (by omega) q hg
      · have c4 : ¬ nI (p d) ≤ 0 := by
          show ¬ nI (p d) ≤ nI 0
          rw [nI_leI (by omega) (by decide)]
          omega
        have c5 : ¬ nI (p d) = 0 := by
          show ¬ nI (p d) = nI 0
          rw [nI_eq (by omega) (by decide)]
          exact c3
        obtain ⟨u, hu⟩ : ∃ u, p d = u + 1 := ⟨p d - 1, by omega⟩
        rw [if_neg c4, if_neg c5, bn_go, bn_go, bn_go, bn_go, bn_go, bn_go, hu, nI_pred, nI_1]
        obtain ⟨g5, -⟩ := Gv_upd h8 hg p1 p2 (d := d) (v := u) (by omega) (by omega)
        obtain ⟨X', M', r, a1, a2, a3, a4⟩ := ih (d + 1) j j' (sI X 262 d (nI u)) (sI M 31 d (nI u)) (g + 1) x1 (x2 + 1) x3 (by omega) (by omega) (by omega) (kV_tr q kV_p) g5
        exact ⟨X', M', 1 + r, by rw [a1, Int32.add_assoc], by rw [a2, Int32.add_assoc], a3, a4⟩
    · rw [if_neg c2, if_neg c2, bn_go, bn_go, nI_1]
      exact ih (d + 1) j j' X M g x1 x2 x3 (by omega) (by omega) (by omega) q hg
theorem days_loop {n : Nat} {B : Bd} {b : Nat} {X0 M0 : St} (hR : RelB B b X0 M0) (hn : 200000 ≤ n) {D : Nat} (hD : D ≤ 1000) : ∀ (m d j j' : Nat) (X M : St) (x2 : Int32), d + m = D → m < j → m < j' → kV X0 M0 X M → Gv B X.1 M.1 →
    ∃ (X' M' : St) (r : Int32), fX10_days_l17 n j X (nI D) x2 (nI d) = some (X', r) ∧ fX11_days_l17 n j' M (nI D) x2 (nI d) = some (M', r) ∧ kV X0 M0 X' M' ∧ Gv B X'.1 M'.1 := by
  obtain ⟨hB, ⟨hb, hr, hr2⟩, hX, hlim, hM, -⟩ := id hR
  obtain ⟨k1, ⟨k2, -⟩, k3, -⟩ := bk hb
  have h8 : b_nd B ≤ 8 := hB.2.2.2.2.2.1
  intro m
  induction m with
  | zero =>
    intro d j j' X M x2 h hj hj' q hg
    obtain ⟨j, rfl⟩ := suc_of hj
    obtain ⟨j', rfl⟩ := suc_of hj'
    refine ⟨X, M, x2, ?_, ?_, q, hg⟩
    · rw [fX10_days_l17, if_pos (nI_le (by omega) (by omega))]
    · rw [fX11_days_l17, if_pos (nI_le (by omega) (by omega))]
  | succ m ih =>
    intro d j j' X M x2 h hj hj' q hg
    obtain ⟨j, rfl⟩ := suc_of hj
    obtain ⟨j', rfl⟩ := suc_of hj'
    rw [fX10_days_l17, if_neg (nI_ge (by omega) (by omega)), fX11_days_l17, if_neg (nI_ge (by omega) (by omega)), show X.2.2 0 2 = b by rw [q.2.1]; exact hr, gd_pos k1]
    unfold fX8_fadeOneDay
    rw [gd_pos (show isK sdX 261 8 by decide), bn_go, bn_go, hg.2.2.1]
    have g3 : Gv B (sI X 261 2 (M.1 0 66 + 1)).1 (sI M 0 66 (M.1 0 66 + 1)).1 := ⟨hg.1, hg.2.1, rfl, hg.2.2.2.1, hg.2.2.2.2⟩
    have q3 := kV_tr q (kV_o (Sx := X) (Sm := M) (d := 2) (e := 66) (x := M.1 0 66 + 1) (y := M.1 0 66 + 1) (by decide))
    obtain ⟨X', M', r, a1, a2, a3, a4⟩ := day_loop (n := n) hR (fX11_days_l17 n j') (b_nd B) 0 n n _ _ 0 (nI D) x2 (nI d) (by omega) (by omega) (by omega) q3 g3
    rw [show (0 : Int32) = nI 0 from rfl] at a1 ⊢
    rw [a1, a2, bd_go, bn_go, bn_go, show nI 0 + r = r from Int32.zero_add r, nI_1]
    exact ih (d + 1) j j' X' M' (x2 + r) (by omega) (by omega) (by omega) a3 a4
section
variable {n : Nat} {Sx Sm : St}
theorem ok_days (hn : 200000 ≤ n) (h : Rel Sx Sm) : Ok_days n Rel Sx Sm := by
  intro x
  obtain ⟨B, b, hR⟩ := id h
  unfold fX10_days fX11_days
  rw [isIn1, bd_go]
  by_cases c1 : x < 0
  · exact ⟨Sx, Sm, -1, by rw [if_pos c1], by rw [if_pos c1, if_pos rfl], h⟩
  rw [if_neg c1, if_neg c1]
  obtain ⟨D, hD, rfl⟩ := nI_of c1
  by_cases c2 : D ≤ 1000
  · have e1 : nI D ≤ (1000 : Int32) := nI_le (b := 1000) c2 (by decide)
    have e2 : ¬ (1000 : Int32) < nI D := by
      show ¬ nI 1000 < nI D
      rw [nI_ltI (by decide) hD]
      omega
    rw [if_pos e1, if_neg e2, if_neg (by decide)]
    obtain ⟨X', M', r, a1, a2, a3, a4⟩ := days_loop hR hn c2 D 0 n n Sx Sm 0 (by omega) (by omega) (by omega) kV_rf hR.2.2.2.2.2.2.1
    exact ⟨X', M', r, a1, a2, B, b, rel_vat hR a3 a4⟩
  · have e1 : ¬ nI D ≤ (1000 : Int32) := by
      show ¬ nI D ≤ nI 1000
      rw [nI_leI hD (by decide)]
      omega
    have e2 : (1000 : Int32) < nI D := by
      show nI 1000 < nI D
      rw [nI_ltI (by decide) hD]
      omega
    exact ⟨Sx, Sm, -1, by rw [if_neg e1], by rw [if_pos e2, if_pos rfl], h⟩
end
