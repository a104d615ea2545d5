section
variable {n s c t : Nat} {K P Q R V A : Nat → Nat} {X0 M0 X M : St} {i : Nat}
theorem both_want (hC : TC n s c t K P Q R V A X0 M0) (h : Sy s c K P Q R V A X0 M0 i X M) {j w : Nat} {x : Int64} (hj : j < 14) (hw : w = 5 + j) (hx : x = lN (w8 (kw j))) : ∃ X' M' r, fX3_take n X (nI w) = some (X', r) ∧ fX11_want n M x = some (M', ()) ∧ kT1 X X' ∧ kU1 M M' ∧ ((r = 1 ∧ Sy s c K P Q R V A X0 M0 (i + 1) X' M') ∨ (r = 0 ∧ Ft X' M')) := by
  have f2 := h.2.2.2.2.1
  unfold fX11_want
  rw [f2, if_pos (show (0 : Int32) ≤ 0 by decide), isWord_spec hC h hj hx, bd_go]
  by_cases z : K i = 5 + j
  · obtain ⟨X', M', a1, a2, a3, a4, a5⟩ := take_t hC h (w := w) (by omega) (by omega)
    rw [if_pos z, if_neg one_ne, a2, bd_go]
    exact ⟨X', M', 1, a1, rfl, a3, a4, Or.inl ⟨rfl, a5⟩⟩
  · obtain ⟨X', M', a1, a2, a3, a4, a5⟩ := both_wrong hC h (f := 2) (by decide) (by decide)
    have a2 : fX11_wrong n M 2 = _ := a2
    rw [if_neg z, if_pos rfl, a2, bd_go]
    exact ⟨X', M', 0, take_f hC h (by omega) (by omega) a1, rfl, a3, a4, Or.inr ⟨rfl, a5⟩⟩
theorem both_num (hC : TC n s c t K P Q R V A X0 M0) (h : Sy s c K P Q R V A X0 M0 i X M) {lo hi : Nat} (hlo : lo ≤ 9999) (hhi : hi ≤ 9999) : ∃ X' M' r v, fX3_takeNumber n X (nI lo) (nI hi) = some (X', r) ∧ fX11_toldNumber n M (nI lo) (nI hi) = some (M', v) ∧ kT1 X X' ∧ kU1 M M' ∧ ((r = 1 ∧ lo ≤ V i ∧ V i ≤ hi ∧ v = nI (V i) ∧ X'.1 151 6 = nI (V i) ∧ Sy s c K P Q R V A X0 M0 (i + 1) X' M') ∨ (r = 0 ∧ Ft X' M')) := by
  obtain ⟨k1, -, -, k4⟩ := hC.2.2.2.2.1 i h.1.2.2
  have f2 := h.2.2.2.2.1
  have x3 := h.2.1.2.1
  obtain ⟨r1, r2, r3, -⟩ := h.2.2.1
  have e46 : ∀ Z : St, ∀ (W : St), Ft W Z → fX11_toldNumber_j46 n Z = some (Z, Z.1 0 8) := fun Z W hz => by
    unfold fX11_toldNumber_j46
    rw [bn_go, if_neg (Ft_0 hz).1]
  unfold fX3_takeNumber fX11_toldNumber fX3_takeNumber_j34 fX11_toldNumber_j41
  rw [f2, if_pos (show (0 : Int32) ≤ 0 by decide), x3, r1]
  by_cases z : K i = 2
  case neg =>
    have e1 : srt (K i) ≠ 2 ∧ srt (K i) < 100 := by
      unfold srt
      rw [if_neg z]
      constructor
      · split
        · decide
        · split
          · decide
          · split <;> decide
      · split
        · decide
        · split
          · decide
          · split <;> decide
    obtain ⟨X', M', a1, a2, a3, a4, a5⟩ := both_wrong hC h (f := 2) (by decide) (by decide)
    have a1 : fX3_refuse n X 2 = _ := a1
    have a2 : fX11_wrong n M 2 = _ := a2
    rw [if_neg (show ¬ nI (K i) = 2 from fun q => z ((nI_eq (b := 2) (by omega) (by decide)).mp q)), if_neg (show ¬ nI (srt (K i)) = 2 from fun q => e1.1 ((nI_eq (b := 2) (by omega) (by decide)).mp q)), a1, bd_go, gd_pos (Or.inl rfl), a2, bd_go, e46 M' X' a5]
    exact ⟨X', M', 0, _, rfl, rfl, a3, a4, Or.inr ⟨rfl, a5⟩⟩
  have hv := k4 z
  have e8 := r3 z
  have e4 := h.2.1.2.2.1 z
  have es : srt (K i) = 2 := by rw [z]; rfl
  rw [if_pos (show nI (K i) = 2 by rw [z]; rfl), if_pos (show nI (srt (K i)) = 2 by rw [es]; rfl), e4, e8, nI_l (show lo < 2 ^ 31 by omega), nI_l (show hi < 2 ^ 31 by omega)]
  have bad : (V i < lo ∨ hi < V i) → ∃ X' M', fX3_refuse n X 4 = some (X', 0) ∧ fX11_wrong n M 4 = some (M', ()) ∧ kT1 X X' ∧ kU1 M M' ∧ Ft X' M' := fun _ => both_wrong hC h (f := 4) (by decide) (by decide)
  by_cases c1 : V i < lo
  · obtain ⟨X', M', a1, a2, a3, a4, a5⟩ := bad (Or.inl c1)
    rw [if_pos (lg_neg.mpr ((lN_lt (by omega) (by omega)).mpr c1)), if_pos (nI_lt c1 (by omega)), a1, bd_go, gd_pos (Or.inl rfl), a2, bd_go, e46 M' X' a5]
    exact ⟨X', M', 0, _, rfl, rfl, a3, a4, Or.inr ⟨rfl, a5⟩⟩
  rw [if_neg (fun q => c1 ((lN_lt (by omega) (by omega)).mp (lg_neg.mp q))), if_neg (nI_nlt (by omega) (by omega))]
  by_cases c2 : V i ≤ hi
  case neg =>
    obtain ⟨X', M', a1, a2, a3, a4, a5⟩ := bad (Or.inr (by omega))
    rw [if_neg (fun q => c2 ((lN_le (by omega) (by omega)).mp (lg_np.mp q))), if_neg (nI_ge (by omega) (by omega)), a1, bd_go, gd_pos (Or.inl rfl), a2, bd_go, e46 M' X' a5]
    exact ⟨X', M', 0, _, rfl, rfl, a3, a4, Or.inr ⟨rfl, a5⟩⟩
  rw [if_pos (lg_np.mpr ((lN_le (by omega) (by omega)).mpr c2)), if_pos (nI_le c2 (by omega)), bn_go, lN_i]
  -- the number is taken
  have k6 : kT1 X (sI X 151 6 (nI (V i))) := kT1_I (by omega)
  have hS : Sy s c K P Q R V A X0 M0 i (sI X 151 6 (nI (V i))) M := by
    obtain ⟨⟨g1, g2, g3⟩, ⟨y1, y2, y3, y4⟩, rr, y5, y6, y7⟩ := id h
    refine ⟨⟨GX_tr g1 (kT1_G k6), g2, g3⟩, ⟨?_, ?_, y3, y4⟩, rr, ?_, y6, ?_⟩
    · rw [sI_row, upd_ne (by decide)]; exact y1
    · rw [sI_row, upd_ne (by decide)]; exact y2
    · rw [sI_row, upd_ne (by decide)]; exact y5
    · rw [sI_row, upd_ne (by decide)]; exact y7
  obtain ⟨X', M', a1, a2, a3, a4, a5, a6⟩ := both_step hC hS (by omega)
  unfold fX11_toldNumber_j46
  rw [hS.2.1.1, a1, bd_go, bn_go, f2, if_pos rfl, a2, bd_go, e8]
  exact ⟨X', M', 1, _, rfl, rfl, kT1_tr k6 a3, a4, Or.inl ⟨rfl, by omega, c2, rfl, by rw [a6, sI_row, upd_eq], a5⟩⟩
theorem both_sign (hC : TC n s c t K P Q R V A X0 M0) (h : Sy s c K P Q R V A X0 M0 i X M) : ∃ X' M' r, fX3_take n X 3 = some (X', r) ∧ fX11_readLine_j220 n M = some (M', ()) ∧ kT1 X X' ∧ kU1 M M' ∧ ((r = 1 ∧ Sy s c K P Q R V A X0 M0 (i + 1) X' M') ∨ (r = 0 ∧ Ft X' M')) := by
  obtain ⟨k1, -, -, k4⟩ := hC.2.2.2.2.1 i h.1.2.2
  have f2 := h.2.2.2.2.1
  obtain ⟨r1, -⟩ := h.2.2.1
  unfold fX11_readLine_j220 fX11_readLine_j241
  rw [f2, if_pos rfl, if_pos rfl, r1]
  by_cases z : K i = 3
  · have es : srt (K i) = 59 := by rw [z]; rfl
    obtain ⟨X', M', a1, a2, a3, a4, a5⟩ := take_t hC h (w := 3) z (by decide)
    have a1 : fX3_take n X 3 = _ := a1
    rw [if_pos (show nI (srt (K i)) = 59 by rw [es]; rfl), a2, bd_go]
    exact ⟨X', M', 1, a1, rfl, a3, a4, Or.inl ⟨rfl, a5⟩⟩
  · have e1 : srt (K i) ≠ 59 ∧ srt (K i) < 100 := by
      unfold srt
      rw [if_neg z]
      constructor
      · split
        · decide
        · split
          · decide
          · split <;> decide
      · split
        · decide
        · split
          · decide
          · split <;> decide
    obtain ⟨X', M', a1, a2, a3, a4, a5⟩ := both_wrong hC h (f := 2) (by decide) (by decide)
    have a2 : fX11_wrong n M 2 = _ := a2
    have a6 : fX3_take n X 3 = some (X', 0) := take_f (w := 3) hC h z (by decide) a1
    rw [if_neg (show ¬ nI (srt (K i)) = 59 from fun q => e1.1 ((nI_eq (b := 59) (by omega) (by decide)).mp q)), a2, bd_go, if_neg (Ft_0 a5).1]
    exact ⟨X', M', 0, a6, rfl, a3, a4, Or.inr ⟨rfl, a5⟩⟩
end
/-! the bench that is being told -/
def shA (q : Nat) : Nat := if q = 0 then 1 else if q = 1 then 12 else if q = 2 then 19 else if q = 3 then 28 else 35
def lmA (q : Nat) : Nat := if q = 0 then 8 else if q = 1 then 4 else if q = 2 then 6 else if q = 3 then 4 else 8
def bdA (q : Nat) : Nat := if q = 3 then 9 else 99
theorem shf {s q : Nat} (hs : s = 3 ∨ s = 77) (hq : q < 5) : isK sdX (s + shA q) 5 ∧ srX (s + shA q) 1 = s + shA q + 1 ∧ isK sdX (s + shA q + 1) 14 ∧ lnX (s + shA q + 1) = lmA q ∧ srX (s + shA q) 2 = s + shA q + 2 ∧ isK sdX (s + shA q + 2) 17 ∧ lnX (s + shA q + 2) = lmA q ∧ (∀ d, d < lmA q → srX (s + shA q + 2) d = s + shA q + 3 + d ∧ isK sdX (s + shA q + 3 + d) 13 ∧ (q < 4 → lnX (s + shA q + 3 + d) = 16) ∧ (q = 4 → lnX (s + shA q + 3 + d) = 8)) ∧ srX s q = s + shA q := by
  have key : ∀ s, s = 3 ∨ s = 77 → ∀ q, q < 5 → isK sdX (s + shA q) 5 ∧ srX (s + shA q) 1 = s + shA q + 1 ∧ isK sdX (s + shA q + 1) 14 ∧ lnX (s + shA q + 1) = lmA q ∧ srX (s + shA q) 2 = s + shA q + 2 ∧ isK sdX (s + shA q + 2) 17 ∧ lnX (s + shA q + 2) = lmA q ∧ (∀ d, d < lmA q → srX (s + shA q + 2) d = s + shA q + 3 + d ∧ isK sdX (s + shA q + 3 + d) 13 ∧ (q < 4 → lnX (s + shA q + 3 + d) = 16) ∧ (q = 4 → lnX (s + shA q + 3 + d) = 8)) ∧ srX s q = s + shA q := by
    intro s hs
    rcases hs with rfl | rfl <;> decide +kernel
  exact key s hs q hq
theorem sh_b {q : Nat} (hq : q < 5) : 1 ≤ shA q ∧ shA q + 3 + lmA q ≤ 46 ∧ lmA q ≤ 8 ∧ 4 ≤ lmA q := by
  have key : ∀ q, q < 5 → 1 ≤ shA q ∧ shA q + 3 + lmA q ≤ 46 ∧ lmA q ≤ 8 ∧ 4 ≤ lmA q := by decide +kernel
  exact key q hq
/-- the shelves lie apart -/
theorem sh_d {q q' : Nat} (hq : q < 5) (hq' : q' < 5) (h : q ≠ q') : shA q + 3 + lmA q ≤ shA q' ∨ shA q' + 3 + lmA q' ≤ shA q := by
  have key : ∀ q, q < 5 → ∀ q', q' < 5 → q ≠ q' → shA q + 3 + lmA q ≤ shA q' ∨ shA q' + 3 + lmA q' ≤ shA q := by decide +kernel
  exact key q hq q' hq' h
theorem shM {q : Nat} (hq : q < 4) : isK sdM (5 + q) 13 ∧ sdM.2.2.1 (5 + q) = 16 * lmA q := by
  have key : ∀ q, q < 4 → isK sdM (5 + q) 13 ∧ sdM.2.2.1 (5 + q) = 16 * lmA q := by decide +kernel
  exact key q hq
def PB (s : Nat) (N H : Nat → Nat) (X M : St) : Prop :=
  (X.1 s 9 = nI (N 0) ∧ X.1 s 10 = nI (N 1) ∧ X.1 s 11 = nI (N 2) ∧ X.1 s 12 = nI (N 3) ∧ X.1 s 13 = nI (N 4)) ∧
  (M.1 0 29 = nI (N 0) ∧ M.1 0 30 = nI (N 1) ∧ M.1 0 31 = nI (N 2) ∧ M.1 0 32 = nI (N 3)) ∧
  ((1 ≤ N 0 ∧ N 0 ≤ 16) ∧ (1 ≤ N 1 ∧ N 1 ≤ 24) ∧ N 2 ≤ 9999 ∧ N 3 ≤ 9 ∧ N 4 ≤ 1) ∧
  (∀ q, q < 5 → X.1 (s + shA q) 3 = nI (N (5 + q)) ∧ X.1 (s + shA q) 0 = nI (lmA q) ∧ M.1 3 q = nI (N (5 + q)) ∧ N (5 + q) ≤ lmA q) ∧
  (∀ q, q < 4 → ∀ d, d < N (5 + q) → ∀ j, j < N 0 → X.1 (s + shA q + 3 + d) j = M.1 (5 + q) (16 * d + j) ∧ sm (M.1 (5 + q) (16 * d + j)) (bdA q)) ∧
  (∀ d, d < N 5 → X.1 (s + 46) d = M.1 9 d ∧ sm (M.1 9 d) 99 ∧ X.1 (s + 47) d = M.1 10 d ∧ sm (M.1 10 d) 99) ∧
  (∀ g, g < N 9 → X.1 (s + 48) g = M.1 11 g ∧ (∃ k, k < N 6 ∧ M.1 11 g = nI k) ∧ ∃ p : Nat → Nat, (∀ d, d < N 5 → M.1 12 (8 * g + d) = nI (p d) ∧ X.1 (s + 38 + g) d = nI (p d)) ∧ sumN p (N 5) ≤ N 1) ∧
  (∀ q, q < 5 → (∀ k, k < N (5 + q) → ∃ l x y, l ≤ 8 ∧ WR l x y ∧ X.2.1 (s + shA q + 1) k = lN y ∧ M.2.1 2 (10 * q + k) = lN x) ∧ ∀ k k', k < N (5 + q) → k' < N (5 + q) → M.2.1 2 (10 * q + k) = M.2.1 2 (10 * q + k') → k = k') ∧
  (X.1 151 5 = nI (32 * H 0 + 2048 * H 1 + 4096 * H 2 + 8192 * H 3 + 16384 * H 4) ∧ (∀ k, k < 5 → H k ≤ 1 ∧ M.1 0 (37 + k) = nI (H k)) ∧ N 4 = H 3)
def FrX (s : Nat) (N : Nat → Nat) (X X' : St) : Prop :=
  (∀ k, X'.1 s k = X.1 s k) ∧ (∀ q, q < 5 → X'.1 (s + shA q) = X.1 (s + shA q)) ∧ (∀ q, q < 4 → ∀ d, d < N (5 + q) → X'.1 (s + shA q + 3 + d) = X.1 (s + shA q + 3 + d)) ∧ (∀ d, d < N 5 → X'.1 (s + 46) d = X.1 (s + 46) d ∧ X'.1 (s + 47) d = X.1 (s + 47) d) ∧ (∀ g, g < N 9 → X'.1 (s + 48) g = X.1 (s + 48) g ∧ X'.1 (s + 38 + g) = X.1 (s + 38 + g)) ∧ (∀ q, q < 5 → ∀ k, k < N (5 + q) → X'.2.1 (s + shA q + 1) k = X.2.1 (s + shA q + 1) k) ∧ X'.1 151 5 = X.1 151 5
def FrM (N : Nat → Nat) (M M' : St) : Prop :=
  (∀ k, (29 ≤ k ∧ k ≤ 32) ∨ (37 ≤ k ∧ k ≤ 41) → M'.1 0 k = M.1 0 k) ∧ M'.1 3 = M.1 3 ∧ (∀ q, q < 4 → ∀ i, i < 16 * N (5 + q) → M'.1 (5 + q) i = M.1 (5 + q) i) ∧ (∀ d, d < N 5 → M'.1 9 d = M.1 9 d ∧ M'.1 10 d = M.1 10 d) ∧ (∀ g, g < N 9 → M'.1 11 g = M.1 11 g) ∧ (∀ i, i < 8 * N 9 → M'.1 12 i = M.1 12 i) ∧ (∀ q, q < 5 → ∀ k, k < N (5 + q) → M'.2.1 2 (10 * q + k) = M.2.1 2 (10 * q + k))
section
variable {s : Nat} {N H : Nat → Nat} {X M X' M' : St}
theorem PB_fr (h : PB s N H X M) (fx : FrX s N X X') (fm : FrM N M M') : PB s N H X' M' := by
  obtain ⟨⟨a1, a2, a3, a4, a5⟩, ⟨b1, b2, b3, b4⟩, hb, h3, h4, h5, h6, h7, h8⟩ := h
  obtain ⟨x1, x2, x3, x4, x5, x6, x7⟩ := fx
  obtain ⟨m1, m2, m3, m4, m5, m6, m7⟩ := fm
  refine ⟨⟨?_, ?_, ?_, ?_, ?_⟩, ⟨?_, ?_, ?_, ?_⟩, hb, fun q hq => ?_, fun q hq d hd j hj => ?_, fun d hd => ?_, fun g hg => ?_, fun q hq => ⟨fun k hk => ?_, fun k k' hk hk' e => ?_⟩, ?_, fun k hk => ?_, h8.2.2⟩
  · rw [x1]; exact a1
  · rw [x1]; exact a2
  · rw [x1]; exact a3
  · rw [x1]; exact a4
  · rw [x1]; exact a5
  · rw [m1 29 (by omega)]; exact b1
  · rw [m1 30 (by omega)]; exact b2
  · rw [m1 31 (by omega)]; exact b3
  · rw [m1 32 (by omega)]; exact b4
  · rw [x2 q hq, m2]; exact h3 q hq
  · have := hb.1.2
    rw [x3 q hq d hd, m3 q hq _ (by omega)]; exact h4 q hq d hd j hj
  · rw [(x4 d hd).1, (x4 d hd).2, (m4 d hd).1, (m4 d hd).2]; exact h5 d hd
  · have hd8 := (h3 0 (by decide)).2.2.2
    have e8 : lmA 0 = 8 := rfl
    obtain ⟨g1, g2, p, g3, g4⟩ := h6 g hg
    rw [(x5 g hg).1, (x5 g hg).2, m5 g hg]
    refine ⟨g1, g2, p, fun d hd => ?_, g4⟩
    have hd' : d < N (5 + 0) := hd
    rw [m6 _ (by omega)]
    exact g3 d hd
  · rw [x6 q hq k hk, m7 q hq k hk]; exact (h7 q hq).1 k hk
  · rw [m7 q hq k hk, m7 q hq k' hk'] at e
    exact (h7 q hq).2 k k' hk hk' e
  · rw [x7]; exact h8.1
  · rw [m1 (37 + k) (by omega)]; exact h8.2.1 k hk
/-- what a line changes before its thing counts -/
def AX (s : Nat) (N : Nat → Nat) (X X' : St) : Prop :=
  (∀ a, a ≠ 151 → a ≠ s + 46 → a ≠ s + 47 → a ≠ s + 48 → (∀ q, q < 5 → N (5 + q) < lmA q → a ≠ s + shA q + 3 + N (5 + q)) → X'.1 a = X.1 a) ∧ (∀ k, k ≠ N 5 → X'.1 (s + 46) k = X.1 (s + 46) k ∧ X'.1 (s + 47) k = X.1 (s + 47) k) ∧ (∀ k, k ≠ N 9 → X'.1 (s + 48) k = X.1 (s + 48) k) ∧ X'.1 151 5 = X.1 151 5 ∧ (∀ a, a ≠ 151 → (∀ q, q < 5 → a ≠ s + shA q + 1) → X'.2.1 a = X.2.1 a) ∧ (∀ q, q < 5 → ∀ k, k ≠ N (5 + q) → X'.2.1 (s + shA q + 1) k = X.2.1 (s + shA q + 1) k) ∧ X'.2.2 = X.2.2
def AM (N : Nat → Nat) (M M' : St) : Prop :=
  (∀ a, a ≠ 0 → (a < 5 ∨ 12 < a) → M'.1 a = M.1 a) ∧ (∀ k, k ≠ 2 → k ≠ 3 → k ≠ 4 → k ≠ 6 → k ≠ 7 → k ≠ 8 → M'.1 0 k = M.1 0 k) ∧ (∀ q, q < 4 → ∀ i, i < 16 * N (5 + q) → M'.1 (5 + q) i = M.1 (5 + q) i) ∧ (∀ k, k ≠ N 5 → M'.1 9 k = M.1 9 k ∧ M'.1 10 k = M.1 10 k) ∧ (∀ k, k ≠ N 9 → M'.1 11 k = M.1 11 k) ∧ (∀ i, i < 8 * N 9 → M'.1 12 i = M.1 12 i) ∧ (∀ q, q < 5 → ∀ k, k < N (5 + q) → M'.2.1 2 (10 * q + k) = M.2.1 2 (10 * q + k))
theorem AX_rf : AX s N X X := ⟨fun _ _ _ _ _ _ => rfl, fun _ _ => ⟨rfl, rfl⟩, fun _ _ => rfl, rfl, fun _ _ _ => rfl, fun _ _ _ _ => rfl, rfl⟩
theorem AM_rf : AM N M M := ⟨fun _ _ _ => rfl, fun _ _ _ _ _ _ _ => rfl, fun _ _ _ _ => rfl, fun _ _ => ⟨rfl, rfl⟩, fun _ _ => rfl, fun _ _ => rfl, fun _ _ _ _ => rfl⟩
theorem AX_tr {X'' : St} (h : AX s N X X') (g : AX s N X' X'') : AX s N X X'' := ⟨fun a a1 a2 a3 a4 a5 => (g.1 a a1 a2 a3 a4 a5).trans (h.1 a a1 a2 a3 a4 a5), fun k q => ⟨(g.2.1 k q).1.trans (h.2.1 k q).1, (g.2.1 k q).2.trans (h.2.1 k q).2⟩, fun k q => (g.2.2.1 k q).trans (h.2.2.1 k q), g.2.2.2.1.trans h.2.2.2.1, fun a a1 a2 => (g.2.2.2.2.1 a a1 a2).trans (h.2.2.2.2.1 a a1 a2), fun q hq k hk => (g.2.2.2.2.2.1 q hq k hk).trans (h.2.2.2.2.2.1 q hq k hk), g.2.2.2.2.2.2.trans h.2.2.2.2.2.2⟩
theorem AM_tr {M'' : St} (h : AM N M M') (g : AM N M' M'') : AM N M M'' := ⟨fun a a1 a2 => (g.1 a a1 a2).trans (h.1 a a1 a2), fun k a1 a2 a3 a4 a5 a6 => (g.2.1 k a1 a2 a3 a4 a5 a6).trans (h.2.1 k a1 a2 a3 a4 a5 a6), fun q hq i hi => (g.2.2.1 q hq i hi).trans (h.2.2.1 q hq i hi), fun k q => ⟨(g.2.2.2.1 k q).1.trans (h.2.2.2.1 k q).1, (g.2.2.2.1 k q).2.trans (h.2.2.2.1 k q).2⟩, fun k q => (g.2.2.2.2.1 k q).trans (h.2.2.2.2.1 k q), fun i hi => (g.2.2.2.2.2.1 i hi).trans (h.2.2.2.2.2.1 i hi), fun q hq k hk => (g.2.2.2.2.2.2 q hq k hk).trans (h.2.2.2.2.2.2 q hq k hk)⟩
theorem kT1_A (h : kT1 X X') (hs : s = 3 ∨ s = 77) : AX s N X X' := by
  have hs' : s + 50 < 151 := by rcases hs with z | z <;> omega
  refine ⟨fun a q _ _ _ _ => h.1 a q, fun k _ => by rw [h.1 _ (by omega), h.1 _ (by omega)]; exact ⟨rfl, rfl⟩, fun k _ => by rw [h.1 _ (by omega)], h.2.1 5 (by decide) (by decide) (by decide) (by decide) (by decide), fun a q _ => h.2.2.1 a q, fun q hq k _ => ?_, h.2.2.2⟩
  have := sh_b hq
  rw [h.2.2.1 _ (by omega)]
theorem kU1_A (h : kU1 M M') : AM N M M' := ⟨fun a q _ => h.1 a q, h.2.1, fun q _ i _ => by rw [h.1 _ (by omega)], fun k _ => by rw [h.1 _ (by decide), h.1 _ (by decide)]; exact ⟨rfl, rfl⟩, fun k _ => by rw [h.1 _ (by decide)], fun i _ => by rw [h.1 _ (by decide)], fun q _ k _ => by rw [h.2.2 _ (by decide)]⟩
theorem AX_G (h : AX s N X X') : GX s X X' := by
  refine ⟨fun a a1 a2 => h.1 a a1 (by omega) (by omega) (by omega) (fun q hq hN => ?_), fun a a1 a2 => h.2.2.2.2.1 a a1 (fun q hq => ?_), h.2.2.2.2.2.2, fun k hk k1 => ?_⟩
  · have := sh_b hq; omega
  · have := sh_b hq; omega
  · unfold lmC at hk
    rw [h.1 (s + k) k1 (by omega) (by omega) (by omega) (fun q hq hN => ?_)]
    have e0 : shA 0 = 1 ∧ lmA 0 = 8 := ⟨rfl, rfl⟩
    have e1 : shA 1 = 12 ∧ lmA 1 = 4 := ⟨rfl, rfl⟩
    have e2 : shA 2 = 19 ∧ lmA 2 = 6 := ⟨rfl, rfl⟩
    have e3 : shA 3 = 28 ∧ lmA 3 = 4 := ⟨rfl, rfl⟩
    have e4 : shA 4 = 35 ∧ lmA 4 = 8 := ⟨rfl, rfl⟩
    rcases (show q = 0 ∨ q = 1 ∨ q = 2 ∨ q = 3 ∨ q = 4 by omega) with rfl | rfl | rfl | rfl | rfl <;> omega
theorem AM_G (h : AM N M M') : GM M M' := ⟨fun a a1 _ a3 => h.1 a a1 a3, fun k q => h.2.1 k (by omega) (by omega) (by omega) (by omega) (by omega) (by omega)⟩
theorem AX_F (h : AX s N X X') (hs : s = 3 ∨ s = 77) (hN : ∀ q, q < 5 → N (5 + q) ≤ lmA q) : FrX s N X X' := by
  have hs' : s + 50 < 151 := by rcases hs with z | z <;> omega
  refine ⟨fun k => ?_, fun q hq => ?_, fun q hq d hd => ?_, fun d hd => h.2.1 d (by omega), fun g hg => ⟨h.2.2.1 g (by omega), ?_⟩, fun q hq k hk => h.2.2.2.2.2.1 q hq k (by omega), h.2.2.2.1⟩
  · rw [h.1 s (by omega) (by omega) (by omega) (by omega) (fun q hq _ => by have := sh_b hq; omega)]
  · have := sh_b hq
    refine h.1 _ (by omega) (by omega) (by omega) (by omega) (fun q' hq' _ => ?_)
    by_cases e : q = q'
    · rw [e]; omega
    · have := sh_d hq hq' e
      have := sh_b hq'
      omega
  · have := sh_b (show q < 5 by omega)
    have := hN q (by omega)
    refine h.1 _ (by omega) (by omega) (by omega) (by omega) (fun q' hq' _ => ?_)
    by_cases e : q = q'
    · rw [← e]; omega
    · have := sh_d (show q < 5 by omega) hq' e
      have := sh_b hq'
      omega
  · have e4 : shA 4 + 3 = 38 := rfl
    have := hN 4 (by decide)
    have e8 : lmA 4 = 8 := rfl
    have hg' : g < N (5 + 4) := hg
    refine h.1 _ (by omega) (by omega) (by omega) (by omega) (fun q' hq' _ => ?_)
    by_cases e : q' = 4
    · rw [e]; omega
    · have := sh_d hq' (show 4 < 5 by decide) e
      have := sh_b hq'
      omega
theorem AM_F (h : AM N M M') : FrM N M M' := ⟨fun k q => h.2.1 k (by omega) (by omega) (by omega) (by omega) (by omega) (by omega), h.1 3 (by decide) (by omega), h.2.2.1, fun d hd => h.2.2.2.1 d (by omega), fun g hg => h.2.2.2.2.1 g (by omega), h.2.2.2.2.2.1, h.2.2.2.2.2.2⟩
theorem PB_A (h : PB s N H X M) (hs : s = 3 ∨ s = 77) (ax : AX s N X X') (am : AM N M M') : PB s N H X' M' := PB_fr h (AX_F ax hs (fun q hq => (h.2.2.2.1 q hq).2.2.2)) (AM_F am)
end
