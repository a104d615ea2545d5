-- lN under shifts, and, or, masks (kit/laws/BITS.to-paste, the families of wb_ and pf_)
theorem wb_tb (n : Nat) : (lN n).toBitVec = BitVec.ofNat 64 n := rfl
theorem wb_inj {a b : Int64} (h : a.toBitVec = b.toBitVec) : a = b := Int64.toBitVec_inj.mp h
theorem wb_tn {n : Nat} (h : n < 2 ^ 64) : (lN n).toBitVec.toNat = n := by rw [wb_tb, BitVec.toNat_ofNat, Nat.mod_eq_of_lt h]
theorem wb_of (x : Int64) : ∃ n, n < 2 ^ 64 ∧ x = lN n := ⟨x.toBitVec.toNat, x.toBitVec.isLt, wb_inj (by rw [wb_tb]; simp)⟩
theorem wb_of32 (x : Int32) : ∃ n, n < 2 ^ 32 ∧ x = nI n := ⟨x.toBitVec.toNat, x.toBitVec.isLt, Int32.toBitVec_inj.mp (by show _ = BitVec.ofNat 32 _; simp)⟩
theorem wb_c : ∀ k, k < 64 → ((nI k).toInt64 &&& 63) = lN k := by decide +kernel
theorem wb_cu : ∀ k, k < 64 → ((nI k).toInt64.toUInt64 &&& Int64.toUInt64 63) = UInt64.ofNat k := by decide +kernel
theorem wb_sm : ∀ k, k < 64 → (BitVec.ofNat 64 k).smod 64 = BitVec.ofNat 64 k := by decide +kernel
theorem wb_pw {a b : Nat} (h : a ≤ b) : 2 ^ b = 2 ^ a * 2 ^ (b - a) := by rw [← Nat.pow_add]; congr 1; omega
theorem wb_lt2 {a b : Nat} (h : a < b) : 2 ^ a < 2 ^ b := Nat.pow_lt_pow_right (by decide) h
theorem wb_mod (n : Nat) : lN n = lN (n % 2 ^ 64) := wb_inj (by rw [wb_tb, wb_tb]; apply BitVec.eq_of_toNat_eq; rw [BitVec.toNat_ofNat, BitVec.toNat_ofNat, Nat.mod_mod])
theorem wb_shl (n : Nat) {k : Nat} (hk : k < 64) : lN n <<< ((nI k).toInt64 &&& 63) = lN (n * 2 ^ k) := by
  rw [wb_c k hk]
  apply wb_inj
  rw [Int64.toBitVec_shiftLeft, wb_tb, wb_tb, wb_tb, wb_sm k hk]
  apply BitVec.eq_of_toNat_eq
  rw [BitVec.shiftLeft_eq', BitVec.toNat_shiftLeft, BitVec.toNat_ofNat, BitVec.toNat_ofNat, BitVec.toNat_ofNat, Nat.mod_eq_of_lt (show k < 2 ^ 64 by omega), Nat.shiftLeft_eq, Nat.mul_mod, Nat.mod_mod, ← Nat.mul_mod]
theorem wb_and {a b : Nat} (ha : a < 2 ^ 64) (hb : b < 2 ^ 64) : lN a &&& lN b = lN (a &&& b) := by
  apply wb_inj
  rw [Int64.toBitVec_and, wb_tb, wb_tb, wb_tb]
  apply BitVec.eq_of_toNat_eq
  rw [BitVec.toNat_and, BitVec.toNat_ofNat, BitVec.toNat_ofNat, BitVec.toNat_ofNat, Nat.mod_eq_of_lt ha, Nat.mod_eq_of_lt hb, Nat.mod_eq_of_lt (Nat.and_lt_two_pow _ hb)]
theorem wb_or {a b : Nat} (ha : a < 2 ^ 64) (hb : b < 2 ^ 64) : lN a ||| lN b = lN (a ||| b) := by
  apply wb_inj
  rw [Int64.toBitVec_or, wb_tb, wb_tb, wb_tb]
  apply BitVec.eq_of_toNat_eq
  rw [BitVec.toNat_or, BitVec.toNat_ofNat, BitVec.toNat_ofNat, BitVec.toNat_ofNat, Nat.mod_eq_of_lt ha, Nat.mod_eq_of_lt hb, Nat.mod_eq_of_lt (Nat.or_lt_two_pow ha hb)]
theorem wb_mask {n k : Nat} (hn : n < 2 ^ 64) (hk : k < 64) : lN n &&& lN (2 ^ k - 1) = lN (n % 2 ^ k) := by
  rw [wb_and hn (by have := wb_lt2 hk; omega), Nat.and_two_pow_sub_one_eq_mod]
theorem pf_lI {a : Nat} (h : a < 2 ^ 63) : (lN a).toInt = (a : Int) := lg_ofNat_toInt h
theorem pf_shr {a d : Nat} {D : Int64} (hD : (D.toBitVec.smod 64).toNat = d) (h : a < 2 ^ 62) : lN a >>> D = lN (a / 2 ^ d) := by
  have hd : a / 2 ^ d ≤ a := Nat.div_le_self _ _
  apply Int64.toInt_inj.mp
  have e : (lN a >>> D).toInt = (lN a).toInt >>> d := by
    rw [← hD]
    exact BitVec.toInt_sshiftRight ..
  rw [e, Int.shiftRight_eq_div_pow, pf_lI (by omega), pf_lI (by omega)]
  rfl
-- n over k
theorem chs_0 (n : Nat) : chs n 0 = 1 := by cases n <;> rfl
theorem chs_s (n k : Nat) : chs (n + 1) (k + 1) = chs n k + chs n (k + 1) := rfl
theorem chs_z : ∀ {n k : Nat}, n < k → chs n k = 0
  | 0, k + 1, _ => rfl
  | n + 1, 0, h => by omega
  | n + 1, k + 1, h => by rw [chs_s, chs_z (n := n) (k := k) (by omega), chs_z (n := n) (k := k + 1) (by omega)]
theorem chs_P : ∀ (n k : Nat), (k + 1) * chs n (k + 1) = (n - k) * chs n k
  | 0, k => by
    rw [chs_z (n := 0) (k := k + 1) (by omega), Nat.zero_sub, Nat.zero_mul, Nat.mul_zero]
  | n + 1, 0 => by
    have h := chs_P n 0
    rw [chs_0] at h
    rw [chs_s, chs_0, chs_0]
    omega
  | n + 1, k + 1 => by
    have h1 := chs_P n (k + 1)
    have h2 := chs_P n k
    rw [chs_s n (k + 1), chs_s n k]
    by_cases c : n ≤ k
    · rw [chs_z (n := n) (k := k + 1) (by omega), chs_z (n := n) (k := k + 1 + 1) (by omega), show n + 1 - (k + 1) = 0 by omega]
      omega
    · rw [Nat.mul_add, Nat.mul_add, h1, show n + 1 - (k + 1) = n - k by omega, ← h2, ← Nat.add_mul, ← Nat.add_mul]
      congr 1
      omega
theorem chs_a {n k : Nat} : (k + 1) * chs (n + 1) (k + 1) = (n + 1) * chs n k := by
  rw [chs_s, Nat.mul_add, chs_P, ← Nat.add_mul]
  by_cases c : k ≤ n
  · congr 1; omega
  · rw [chs_z (show n < k by omega), Nat.mul_zero, Nat.mul_zero]
theorem chs_step {n k : Nat} : chs n k * (n - k) / (k + 1) = chs n (k + 1) := by
  rw [Nat.mul_comm, ← chs_P]
  exact Nat.mul_div_cancel_left _ (by omega)
theorem chs_step2 {n k : Nat} : chs n k * (n + 1) / (k + 1) = chs (n + 1) (k + 1) := by
  rw [Nat.mul_comm, ← chs_a]
  exact Nat.mul_div_cancel_left _ (by omega)
theorem chs_le : ∀ (n k : Nat), chs n k ≤ 2 ^ n
  | n, 0 => by rw [chs_0]; exact Nat.one_le_two_pow
  | 0, k + 1 => by rw [chs_z (by omega)]; exact Nat.zero_le _
  | n + 1, k + 1 => by
    have h1 := chs_le n k
    have h2 := chs_le n (k + 1)
    rw [chs_s, Nat.pow_succ]; omega
theorem chs_mono : ∀ {n m : Nat} (k : Nat), n ≤ m → chs n k ≤ chs m k
  | n, m, 0, _ => by rw [chs_0, chs_0]; exact Nat.le_refl _
  | 0, m, k + 1, _ => by rw [chs_z (by omega)]; exact Nat.zero_le _
  | n + 1, 0, k + 1, h => by omega
  | n + 1, m + 1, k + 1, h => by
    have h1 := chs_mono (n := n) (m := m) k (by omega)
    have h2 := chs_mono (n := n) (m := m) (k + 1) (by omega)
    rw [chs_s, chs_s]; omega
theorem pw24 {n : Nat} (h : n ≤ 25) : 2 ^ n ≤ 33554432 := Nat.pow_le_pow_right (n := 2) (by decide) h
def mxS (d m : Nat) : Nat → Nat
  | 0 => 0
  | t + 1 => mxS d m t + chs d t * chs m t
theorem mxS_mixN {d m : Nat} : ∀ u, mixN d m u = mxS d m (u + 1)
  | 0 => by rw [mixN, mxS, mxS, chs_0, chs_0]
  | u + 1 => by rw [mixN, mxS, mxS_mixN u]
theorem mxS_stop {d m t : Nat} : ∀ {u : Nat}, t ≤ u → (∀ k, t ≤ k → k < u → chs d k * chs m k = 0) → mxS d m u = mxS d m t
  | 0, h, _ => by rw [show t = 0 by omega]
  | u + 1, h, hz => by
    by_cases e : t = u + 1
    · rw [e]
    · rw [mxS, hz u (by omega) (by omega), Nat.add_zero]
      exact mxS_stop (by omega) (fun k h1 h2 => hz k h1 (by omega))
theorem chs_24 {m k : Nat} (hm : m ≤ 24) (hk : k ≤ 8) : chs m k ≤ 735471 := by
  refine Nat.le_trans (chs_mono k hm) ?_
  have h0 := chs_0 24
  have h1 : 1 * chs 24 1 = 24 * chs 24 0 := chs_P 24 0
  have h2 : 2 * chs 24 2 = 23 * chs 24 1 := chs_P 24 1
  have h3 : 3 * chs 24 3 = 22 * chs 24 2 := chs_P 24 2
  have h4 : 4 * chs 24 4 = 21 * chs 24 3 := chs_P 24 3
  have h5 : 5 * chs 24 5 = 20 * chs 24 4 := chs_P 24 4
  have h6 : 6 * chs 24 6 = 19 * chs 24 5 := chs_P 24 5
  have h7 : 7 * chs 24 7 = 18 * chs 24 6 := chs_P 24 6
  have h8 : 8 * chs 24 8 = 17 * chs 24 7 := chs_P 24 7
  have e1 : chs 24 1 = 24 := by omega
  have e2 : chs 24 2 = 276 := by rw [e1] at h2; omega
  have e3 : chs 24 3 = 2024 := by rw [e2] at h3; omega
  have e4 : chs 24 4 = 10626 := by rw [e3] at h4; omega
  have e5 : chs 24 5 = 42504 := by rw [e4] at h5; omega
  have e6 : chs 24 6 = 134596 := by rw [e5] at h6; omega
  have e7 : chs 24 7 = 346104 := by rw [e6] at h7; omega
  have e8 : chs 24 8 = 735471 := by rw [e7] at h8; omega
  rcases (show k = 0 ∨ k = 1 ∨ k = 2 ∨ k = 3 ∨ k = 4 ∨ k = 5 ∨ k = 6 ∨ k = 7 ∨ k = 8 by omega) with rfl | rfl | rfl | rfl | rfl | rfl | rfl | rfl | rfl <;> omega
theorem chs_8 {d k : Nat} (hd : d ≤ 8) : chs d k ≤ 256 := Nat.le_trans (chs_le d k) (Nat.pow_le_pow_right (n := 2) (by decide) hd)
theorem mxS_lt {d m : Nat} (hd : d ≤ 8) (hm : m ≤ 24) : ∀ t, t ≤ 9 → mxS d m t ≤ t * 188280576
  | 0, _ => by rw [mxS]; omega
  | t + 1, h => by
    have h1 := mxS_lt hd hm t (by omega)
    have h2 := Nat.mul_le_mul (chs_8 (k := t) hd) (chs_24 (k := t) hm (by omega))
    rw [mxS, Nat.succ_mul]
    omega
theorem mixN_lt {d m u : Nat} (hd : d ≤ 8) (hm : m ≤ 24) (hu : u ≤ 8) : mixN d m u < 2 ^ 31 := by
  rw [mxS_mixN]
  have := mxS_lt hd hm (u + 1) (by omega)
  omega
-- the sides
theorem lN_div {a b : Nat} (ha : a < 2 ^ 63) (h0 : 0 < b) (hb : b < 2 ^ 63) : lN a / lN b = lN (a / b) := pk_lDiv ha h0 hb
theorem lN_ne {k : Nat} (h : k + 1 < 2 ^ 31) : ¬ lN (k + 1) = 0 := fun z => by
  have := (lN_eq (a := k + 1) (b := 0) (by omega) (by omega)).mp z
  omega
section
variable {n : Nat} {S : St}
theorem chooseM_loop {N K : Nat} (hN : N ≤ 24) (hK : K ≤ N) : ∀ (m t j : Nat), t + m = K → m < j → fX11_choose_l5 n j S (nI N) (nI K) (lN (chs (N - K + t) t)) (nI (t + 1)) = some (S, nI (chs N K)) := by
  intro m
  induction m with
  | zero =>
    intro t j h hj
    obtain ⟨j, rfl⟩ := suc_of hj
    rw [fX11_choose_l5, if_pos (nI_lt (by omega) (by omega))]
    unfold fX11_choose_j31
    rw [lN_i, show N - K + t = N by omega, show t = K by omega]
  | succ m ih =>
    intro t j h hj
    obtain ⟨j, rfl⟩ := suc_of hj
    have hc := chs_le (N - K + t) t
    have hp := pw24 (show N - K + t ≤ 25 by omega)
    have hb : chs (N - K + t) t * (N - K + t + 1) < 2 ^ 63 := by
      have := Nat.mul_le_mul (show chs (N - K + t) t ≤ 33554432 by omega) (show N - K + t + 1 ≤ 25 by omega)
      omega
    rw [fX11_choose_l5, if_neg (nI_nlt (by omega) (by omega)), nI_l (show t + 1 < 2 ^ 31 by omega), gd_pos (lN_ne (by omega)), bn_go, bn_go, nI_1, nI_subN hK, nI_add, nI_l (by omega), lN_mul, show N - K + (t + 1) = N - K + t + 1 by omega, lN_div hb (by omega) (by omega), chs_step2]
    exact ih (t + 1) j (by omega) (by omega)
theorem chooseM_spec {N K : Nat} (hn : 200000 ≤ n) (hN : N ≤ 24) (hK : K ≤ N) : fX11_choose n S (nI N) (nI K) = some (S, nI (chs N K)) := by
  have := chooseM_loop (n := n) (S := S) hN hK K 0 n (by omega) (by omega)
  rw [chs_0] at this
  exact this
theorem mixesM_loop {B : Bd} {m u : Nat} (hn : 200000 ≤ n) (hM : RMb B S.1) (hB : Bok B) (hm : m ≤ 24) (hu : u ≤ 8) (h48 : S.1 0 48 = nI m) (h49 : S.1 0 49 = nI u) : ∀ (w t j : Nat), t + w = u + 1 → w < j → fX11_mixes_l13 n j S (nI (mxS (b_nd B) m t)) (nI t) = some (S, nI (mixN (b_nd B) m u)) := by
  have hd8 : b_nd B ≤ 8 := hB.2.2.2.2.2.1
  intro w
  induction w with
  | zero =>
    intro t j h hj
    obtain ⟨j, rfl⟩ := suc_of hj
    rw [fX11_mixes_l13, h49, if_pos (nI_lt (by omega) (by omega)), mxS_mixN, show t = u + 1 by omega]
  | succ w ih =>
    intro t j h hj
    obtain ⟨j, rfl⟩ := suc_of hj
    rw [fX11_mixes_l13, h49, if_neg (nI_nlt (by omega) (by omega)), dyes_spec hM, bd_go]
    by_cases c1 : b_nd B < t
    · rw [if_pos (nI_lt c1 (by omega)), mxS_mixN, mxS_stop (t := t) (u := u + 1) (by omega) (fun k h1 h2 => by rw [chs_z (n := b_nd B) (by omega), Nat.zero_mul])]
    · rw [if_neg (nI_nlt (by omega) (by omega)), h48]
      by_cases c2 : m < t
      · rw [if_pos (nI_lt c2 (by omega)), mxS_mixN, mxS_stop (t := t) (u := u + 1) (by omega) (fun k h1 h2 => by rw [chs_z (n := m) (by omega), Nat.mul_zero])]
      · rw [if_neg (nI_nlt (by omega) (by omega)), dyes_spec hM, bd_go, chooseM_spec hn (by omega) (by omega), bd_go, h48, chooseM_spec hn hm (by omega), bd_go, bn_go, bn_go, nI_1, pk_mul, nI_add]
        exact ih (t + 1) j (by omega) (by omega)
theorem mixesM_spec {B : Bd} {m u : Nat} (hn : 200000 ≤ n) (hM : RMb B S.1) (hB : Bok B) (hm : m ≤ 24) (hu : u ≤ 8) (h48 : S.1 0 48 = nI m) (h49 : S.1 0 49 = nI u) (h50 : S.1 0 50 = 1) : fX11_mixes n S = some (S, nI (mixN (b_nd B) m u)) := by
  unfold fX11_mixes
  rw [h50, if_neg one_ne]
  exact mixesM_loop hn hM hB hm hu h48 h49 (u + 1) 0 n (by omega) (by omega)
theorem countX_loop {b d m q : Nat} (hb : b = 3 ∨ b = 77) (hr : S.2.2 243 0 = b) (hd : S.1 (b + 1) 3 = nI d) (hm5 : S.1 243 5 = nI m) (hm : m ≤ 24) (hd8 : d ≤ 8) (hq : q ≤ d) : ∀ (w t j : Nat), t + w = q → w < j → fX4_countMixes_l29 n j S (lN (chs d t)) (lN (chs m t)) (lN (mxS d m (t + 1))) (nI q) (nI (t + 1)) = some (S, nI (mxS d m (q + 1))) := by
  obtain ⟨kk, ⟨s0, s1, s2, s3, s4⟩, k0, k1, k2, k3, k4⟩ := bk hb
  intro w
  induction w with
  | zero =>
    intro t j h hj
    obtain ⟨j, rfl⟩ := suc_of hj
    rw [fX4_countMixes_l29, if_pos (nI_lt (by omega) (by omega))]
    unfold fX4_countMixes_j90
    rw [lN_i, show t = q by omega]
  | succ w ih =>
    intro t j h hj
    obtain ⟨j, rfl⟩ := suc_of hj
    have hd1 : chs d t * (d - t) < 2 ^ 63 := by
      have := Nat.mul_le_mul (chs_8 (k := t) hd8) (show d - t ≤ 8 by omega)
      omega
    have e1 : lN (chs d t) * (nI d - nI (t + 1) + 1).toInt64 / lN (t + 1) = lN (chs d (t + 1)) := by
      rw [nI_subN (by omega), nI_1, nI_l (by omega), lN_mul, show d - (t + 1) + 1 = d - t by omega, lN_div hd1 (by omega) (by omega), chs_step]
    have e2 : lN (chs m t) * (nI m - nI (t + 1) + 1).toInt64 / lN (t + 1) = lN (chs m (t + 1)) := by
      by_cases c : m < t
      · rw [chs_z c, chs_z (show m < t + 1 by omega), show lN 0 = 0 from rfl, Int64.zero_mul, Int64.zero_div]
      · have hm1 : chs m t * (m - t) < 2 ^ 63 := by
          have := Nat.mul_le_mul (Nat.le_trans (chs_le m t) (pw24 (show m ≤ 25 by omega))) (show m - t ≤ 24 by omega)
          omega
        have e3 : nI m - nI (t + 1) + 1 = nI (m - t) := by
          have e : nI (m - t) + nI (t + 1) = nI m + 1 := by rw [nI_add, nI_1]; congr 1; omega
          generalize nI (m - t) = x at e ⊢
          generalize nI (t + 1) = y at e ⊢
          generalize nI m = z at e ⊢
          grind
        rw [e3, nI_l (by omega), lN_mul, lN_div hm1 (by omega) (by omega), chs_step]
    rw [fX4_countMixes_l29, if_neg (nI_nlt (by omega) (by omega)), hr, gd_pos kk, s0, gd_pos k0, nI_l (show t + 1 < 2 ^ 31 by omega), gd_pos (lN_ne (by omega)), bn_go, gd_pos (lN_ne (by omega)), bn_go, bn_go, bn_go, hd, hm5, e1, e2, lN_mul, lN_add, nI_1]
    exact ih (t + 1) j (by omega) (by omega)
theorem countX_spec {B : Bd} {b m u : Nat} (hn : 200000 ≤ n) (hb : b = 3 ∨ b = 77) (hr : S.2.2 243 0 = b) (hX : RXb B S.1 b) (hB : Bok B) (hm5 : S.1 243 5 = nI m) (hm6 : S.1 243 6 = nI u) (hm : m ≤ 24) (hu : u ≤ 8) : fX4_countMixes n S = some (S, nI (mixN (b_nd B) m u)) := by
  obtain ⟨kk, ⟨s0, s1, s2, s3, s4⟩, k0, k1, k2, k3, k4⟩ := bk hb
  have hd8 : b_nd B ≤ 8 := hB.2.2.2.2.2.1
  have hd : S.1 (b + 1) 3 = nI (b_nd B) := hX.2.2.2.2.2.1
  unfold fX4_countMixes
  rw [hr, gd_pos kk, s0, gd_pos k0, bn_go, hd, hm6]
  have key : ∀ q, q ≤ b_nd B → mxS (b_nd B) m (q + 1) = mixN (b_nd B) m u → fX4_countMixes_l29 n n S 1 1 1 (nI q) 1 = some (S, nI (mixN (b_nd B) m u)) := fun q hq e => by
    have := countX_loop (n := n) hb hr hd hm5 hm hd8 hq q 0 n (by omega) (by omega)
    rw [chs_0, chs_0, e, mxS, mxS, chs_0, chs_0] at this
    exact this
  by_cases c : b_nd B < u
  · rw [if_pos (nI_lt c (by omega))]
    refine key _ (Nat.le_refl _) ?_
    rw [mxS_mixN]
    exact (mxS_stop (t := b_nd B + 1) (by omega) (fun k h1 h2 => by rw [chs_z (n := b_nd B) (by omega), Nat.zero_mul])).symm
  · rw [if_neg (nI_nlt (by omega) (by omega))]
    exact key u (by omega) (mxS_mixN u).symm
end
section
variable {n : Nat} {Sx Sm : St}
theorem ok_mixes (hn : 200000 ≤ n) (h : Rel Sx Sm) : Ok_mixes n Rel Sx Sm := by
  obtain ⟨B, b, hR⟩ := id h
  obtain ⟨hB, ⟨hb, hr, hr2⟩, hX, hlim, hM, ht, hv, hbx, hl, ho, ⟨a1, a2, a3⟩, -⟩ := id hR
  unfold Ok_mixes fX10_mixes
  rcases a1 with z | z
  · unfold fX11_mixes
    rw [a2, z, if_pos rfl, if_pos rfl]
    exact ⟨Sx, Sm, _, rfl, rfl, h⟩
  · obtain ⟨g, k, m, u, g1, k1, m1, u1, -, -, -, -, m2, m3, u2, u3, e⟩ := a3 z
    have := hB.2.1
    rw [a2, z, if_neg one_ne, e, mixesM_spec hn hM hB (by omega) u1 m3 u3 z]
    exact ⟨Sx, Sm, _, rfl, rfl, h⟩
theorem ok_ask (hn : 200000 ≤ n) (h : Rel Sx Sm) : Ok_ask n Rel Sx Sm := by
  intro x1 x2 x3 x4
  obtain ⟨B, b, hR⟩ := id h
  obtain ⟨hB, ⟨hb, hr, hr0, hr2⟩, hX, hlim, hM, ht, hv, hbx, hl, ho, ha, hnn, hs, hw⟩ := id hR
  obtain ⟨kk, ⟨s0, s1, s2, s3, s4⟩, k0, k1, k2, k3, k4⟩ := bk hb
  have hmo := hB.2.1
  have hno : b_no B ≤ 8 := hB.2.2.2.2.2.2.2.2.2.1
  have hng : b_ng B ≤ 4 := hB.2.2.2.2.2.2.1
  have hm34 : Sm.1 0 34 = nI (b_most B) := hM.2.1
  have hm44 : Sm.1 4 4 = nI (b_no B) := hM.2.2.2.2.2.2.2.2.2.1
  have hx10 : Sx.1 b 10 = nI (b_most B) := hX.2.1
  unfold fX10_ask fX11_ask
  simp only [hr, gd_pos kk, s4, gd_pos k4, s1, gd_pos k1, gd_pos (show ib 4 5 by decide), show Int32.toNatClampNeg 4 = 4 by decide, hm44]
  rw [has_spec k4 hX.2.2.2.2.2.2.2.2.2.1, bd_go, isIn_spec (by omega), bd_go]
  by_cases c1 : inR x1 (b_no B) = 0
  · rw [if_pos c1, if_pos c1]; exact ⟨Sx, Sm, _, rfl, rfl, h⟩
  rw [if_neg c1, if_neg c1]
  simp only [hr, gd_pos kk, s1, gd_pos k1]
  rw [has_spec k1 hX.2.2.2.2.2.2.1, bd_go, isGround_spec hM hB, bd_go]
  by_cases c2 : inR x2 (b_ng B) = 0
  · rw [if_pos c2, if_pos c2]; exact ⟨Sx, Sm, _, rfl, rfl, h⟩
  rw [if_neg c2, if_neg c2, hm34, isIn_lit (k := b_most B + 1) (by omega) (nI_pred _).symm, bd_go]
  by_cases c3 : x3 < 0
  · rw [if_pos c3, if_pos (inR_neg c3)]; exact ⟨Sx, Sm, _, rfl, rfl, h⟩
  rw [if_neg c3]
  simp only [hr, gd_pos kk]
  rw [hx10]
  by_cases c4 : nI (b_most B) < x3
  · rw [if_pos c4, if_pos (inR_big ((gt_lit (by omega) (nI_pred _).symm c3).mp c4))]; exact ⟨Sx, Sm, _, rfl, rfl, h⟩
  have i3 : ¬ inR x3 (b_most B + 1) = 0 := inR_pos c3 (fun z => c4 ((gt_lit (by omega) (nI_pred _).symm c3).mpr z))
  rw [if_neg c4, if_neg i3, isIn_lit (k := 9) (by decide) (by decide), bd_go]
  by_cases c5 : x4 < 0
  · rw [if_pos c5, if_pos (inR_neg c5)]; exact ⟨Sx, Sm, _, rfl, rfl, h⟩
  rw [if_neg c5]
  by_cases c6 : x4 ≤ 8
  case neg =>
    have c6' : (8 : Int32) < x4 := by rw [Int32.le_iff_toInt_le] at c6; rw [Int32.lt_iff_toInt_lt]; omega
    rw [if_neg c6, if_pos (inR_big ((gt_lit (k := 9) (by decide) (by decide) c5).mp c6'))]
    exact ⟨Sx, Sm, _, rfl, rfl, h⟩
  have i4 : ¬ inR x4 9 = 0 := inR_pos c5 (fun z => by
    have := (gt_lit (k := 9) (c := 8) (by decide) (by decide) c5).mpr z
    rw [Int32.le_iff_toInt_le] at c6; rw [Int32.lt_iff_toInt_lt] at this; omega)
  rw [if_pos c6, if_neg i4]
  obtain ⟨g, hg, rfl⟩ := inR_of (by omega) c1
  obtain ⟨k, hk, rfl⟩ := inR_of (by omega) c2
  obtain ⟨m, hm, rfl⟩ := inR_of (by omega) i3
  obtain ⟨u, hu, rfl⟩ := inR_of (by decide) i4
  unfold fX4_take
  simp only [bn_go]
  have hX' : RXb B (sI (sI (sI (sI (sI Sx 243 13 1) 243 3 (nI g)) 243 4 (nI k)) 243 5 (nI m)) 243 6 (nI u)).1 b := RXb_frame hX (fun a h1 h2 => by rw [sI_ne (by rcases hb with z | z <;> omega), sI_ne (by rcases hb with z | z <;> omega), sI_ne (by rcases hb with z | z <;> omega), sI_ne (by rcases hb with z | z <;> omega), sI_ne (by rcases hb with z | z <;> omega)]) hB
  rw [countX_spec (S := sI (sI (sI (sI (sI Sx 243 13 1) 243 3 (nI g)) 243 4 (nI k)) 243 5 (nI m)) 243 6 (nI u)) (m := m) (u := u) hn hb hr2 hX' hB (by rw [sI_row, upd_ne (by decide), sI_row, upd_eq]) (by rw [sI_row, upd_eq]) (by omega) (by omega), bd_go, bd_go]
  refine ⟨_, _, _, rfl, rfl, B, b, ?_⟩
  have r243 : ∀ q, (sI (sI (sI (sI (sI (sI Sx 243 13 1) 243 3 (nI g)) 243 4 (nI k)) 243 5 (nI m)) 243 6 (nI u)) 243 14 (nI (mixN (b_nd B) m u))).1 243 q = if q = 14 then nI (mixN (b_nd B) m u) else if q = 6 then nI u else if q = 5 then nI m else if q = 4 then nI k else if q = 3 then nI g else if q = 13 then 1 else Sx.1 243 q := fun q => by
    simp only [sI_row]; unfold upd; rfl
  have r0 : ∀ q, (sI (sI (sI (sI (sI Sm 0 46 (nI g)) 0 47 (nI k)) 0 48 (nI m)) 0 49 (nI u)) 0 50 1).1 0 q = if q = 50 then 1 else if q = 49 then nI u else if q = 48 then nI m else if q = 47 then nI k else if q = 46 then nI g else Sm.1 0 q := fun q => by
    simp only [sI_row]; unfold upd; rfl
  refine rel_core hR (fun a q => ?_) ?_ ?_ (fun a q => ?_) (fun q hq => ?_) ?_ ?_ ?_ ?_ ?_ ?_
  · have : a ≠ 243 := by unfold coreF at q; omega
    rw [sI_ne this, sI_ne this, sI_ne this, sI_ne this, sI_ne this, sI_ne this]
  · rw [sI_ne (by decide), sI_ne (by decide), sI_ne (by decide), sI_ne (by decide), sI_ne (by decide), sI_ne (by decide)]
  · exact ⟨rfl, rfl⟩
  · have : a ≠ 0 := by intro e; subst e; unfold coreM at q; omega
    rw [sI_ne this, sI_ne this, sI_ne this, sI_ne this, sI_ne this]
  · unfold core0 at hq
    rw [r0, if_neg (by omega), if_neg (by omega), if_neg (by omega), if_neg (by omega), if_neg (by omega)]
  · refine Gt_frame ht ?_ ?_ ?_ rfl ?_ (fun q hq => ?_)
    · rw [sI_ne (by decide), sI_ne (by decide), sI_ne (by decide), sI_ne (by decide), sI_ne (by decide), sI_ne (by decide)]
    · rw [sI_ne (by decide), sI_ne (by decide), sI_ne (by decide), sI_ne (by decide), sI_ne (by decide), sI_ne (by decide)]
    · rw [sI_ne (by decide), sI_ne (by decide), sI_ne (by decide), sI_ne (by decide), sI_ne (by decide), sI_ne (by decide)]
    · rw [sI_ne (by decide), sI_ne (by decide), sI_ne (by decide), sI_ne (by decide), sI_ne (by decide)]
    · rw [r0, if_neg (by omega), if_neg (by omega), if_neg (by omega), if_neg (by omega), if_neg (by omega)]
  · unfold Gv Vok at hv ⊢
    simp only [r0]
    simp only [sI_ne (show (261 : Nat) ≠ 243 by decide), sI_ne (show (262 : Nat) ≠ 243 by decide), sI_ne (show (31 : Nat) ≠ 0 by decide)]
    exact hv
  · unfold Ga
    simp only [r0, r243]
    refine ⟨Or.inr rfl, rfl, fun _ => ⟨g, k, m, u, hg, hk, by omega, by omega, rfl, rfl, rfl, rfl, rfl, rfl, rfl, rfl, rfl⟩⟩
  · unfold Gn at hnn ⊢
    simp only [r0, r243]
    simp only [sI_ne (show (260 : Nat) ≠ 243 by decide), sI_ne (show (24 : Nat) ≠ 0 by decide)]
    exact hnn
  · unfold Gs at hs ⊢
    simp only [r0, r243]
    simp only [sI_ne (show (27 : Nat) ≠ 0 by decide), sI_ne (show (26 : Nat) ≠ 0 by decide)]
    exact hs
  · unfold Gw at hw ⊢
    simp only [r0]
    simp only [sI_ne (show (0 : Nat) ≠ 243 by decide), sI_ne (show (271 : Nat) ≠ 243 by decide), sI_ne (show (29 : Nat) ≠ 0 by decide)]
    exact hw
end
