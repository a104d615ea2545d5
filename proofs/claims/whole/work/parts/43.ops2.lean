/-- a whole row set -/
def rI (S : St) (a : Nat) (f : Nat → Int32) : St := (va_up S.1 a f, S.2)
theorem rI_sI {S : St} {a k : Nat} {v : Int32} {g : Nat → Int32} : rI (sI S a k v) a g = rI S a g := by
  unfold rI sI
  simp only [bx_uu]
theorem rI_ext {S : St} {a : Nat} {f g : Nat → Int32} (h : ∀ i, f i = g i) : rI S a f = rI S a g := by rw [show f = g from funext h]
theorem rI_id {S : St} {a : Nat} {f : Nat → Int32} (h : ∀ i, f i = S.1 a i) : rI S a f = S := by
  rw [show f = S.1 a from funext h]
  unfold rI
  have : va_up S.1 a (S.1 a) = S.1 := by
    funext b
    unfold va_up
    split
    · rename_i e; rw [e]
    · rfl
  rw [this]
theorem sI_row {S : St} {a k : Nat} {v : Int32} : (sI S a k v).1 a = upd (S.1 a) k v := up_same _ _ _
theorem rI_row {S : St} {a : Nat} {f : Nat → Int32} : (rI S a f).1 a = f := up_same _ _ _
theorem sI_ne {S : St} {a b k : Nat} {v : Int32} (h : b ≠ a) : (sI S a k v).1 b = S.1 b := up_other _ _ h
theorem rI_ne {S : St} {a b : Nat} {f : Nat → Int32} (h : b ≠ a) : (rI S a f).1 b = S.1 b := up_other _ _ h
theorem suc_of {m j : Nat} (h : m < j) : ∃ j', j = j' + 1 := ⟨j - 1, by omega⟩
theorem le8 {k : Nat} (h : 8 ≤ k) (hk : k < 2 ^ 31) : (8 : Int32) ≤ nI k := nI_le (a := 8) h hk
theorem nle8 {k : Nat} (h : k < 8) : ¬ (8 : Int32) ≤ nI k := nI_ge (b := 8) h (by decide)
theorem setVat_loop {n : Nat} {x : Int32} : ∀ (m k : Nat) (S : St) (j : Nat), k + m = 8 → m < j → fX11_setVat_l2 n j S x (nI k) = fX11_setVat_j21 n (rI S 31 (fun i => if k ≤ i ∧ i < 8 then 0 else S.1 31 i)) x := by
  intro m
  induction m with
  | zero =>
    intro k S j h hj
    obtain ⟨j, rfl⟩ := suc_of hj
    rw [fX11_setVat_l2, if_pos (le8 (k := k) (by omega) (by omega)), rI_id (fun i => if_neg (by omega))]
  | succ m ih =>
    intro k S j h hj
    obtain ⟨j, rfl⟩ := suc_of hj
    rw [fX11_setVat_l2, if_neg (nle8 (k := k) (by omega)), gd_pos (ib_nI (by omega) (by decide)), bn_go, bn_go, nI_1, cl_nI (by omega), ih (k + 1) _ j (by omega) (by omega), rI_sI]
    refine congrArg (fun z => fX11_setVat_j21 n z x) (rI_ext fun i => ?_)
    rw [sI_row]
    unfold upd
    by_cases q : i = k
    · subst q; rw [if_neg (by omega), if_pos rfl, if_pos (by omega)]
    · rw [if_neg q]
      by_cases q2 : k + 1 ≤ i ∧ i < 8
      · rw [if_pos q2, if_pos (by omega)]
      · rw [if_neg q2, if_neg (by omega)]
theorem setVat_spec {n : Nat} {S : St} {x : Int32} (hn : 200000 ≤ n) : fX11_setVat n S x = some (sI (sI (rI S 31 (fun i => if i < 8 then 0 else S.1 31 i)) 0 65 x) 0 66 0, ()) := by
  unfold fX11_setVat
  rw [show (0 : Int32) = nI 0 from rfl, setVat_loop 8 0 S n (by omega) (by omega)]
  unfold fX11_setVat_j21
  rw [bn_go, bn_go]
  refine congrArg (fun z => some (sI (sI z 0 65 x) 0 66 0, ())) (rI_ext fun i => ?_)
  by_cases q : i < 8
  · rw [if_pos (by omega), if_pos q]; rfl
  · rw [if_neg (by omega), if_neg q]
theorem fill_loop {sd : Sd} {n a L : Nat} {x : Int32} (ha : isK sd a 13) (hL : sd.2.2.1 a = L) (h31 : L < 2 ^ 31) : ∀ (m k : Nat) (S : St) (j : Nat), k + m = L → m < j → fJ7_fill_53178_l5 sd n j S a x (nI k) (nI L) = some (rI S a (fun i => if k ≤ i ∧ i < L then x else S.1 a i), ()) := by
  intro m
  induction m with
  | zero =>
    intro k S j h hj
    obtain ⟨j, rfl⟩ := suc_of hj
    rw [fJ7_fill_53178_l5, if_pos (nI_le (by omega) (by omega)), rI_id (fun i => if_neg (by omega))]
  | succ m ih =>
    intro k S j h hj
    obtain ⟨j, rfl⟩ := suc_of hj
    rw [fJ7_fill_53178_l5, if_neg (nI_ge (by omega) h31), gd_pos ha, gd_pos (by rw [hL]; exact ib_nI (by omega) h31), bn_go, bn_go, nI_1, cl_nI (by omega), ih (k + 1) _ j (by omega) (by omega), rI_sI]
    refine congrArg (fun z => some (z, ())) (rI_ext fun i => ?_)
    rw [sI_row]
    unfold upd
    by_cases q : i = k
    · subst q; rw [if_neg (by omega), if_pos rfl, if_pos (by omega)]
    · rw [if_neg q]
      by_cases q2 : k + 1 ≤ i ∧ i < L
      · rw [if_pos q2, if_pos (by omega)]
      · rw [if_neg q2, if_neg (by omega)]
theorem fill_spec {sd : Sd} {n a L : Nat} {S : St} {x : Int32} (ha : isK sd a 13) (hL : sd.2.2.1 a = L) (h31 : L < n) (hn : n < 2 ^ 31) : fJ7_fill_53178 sd n S a x = some (rI S a (fun i => if i < L then x else S.1 a i), ()) := by
  unfold fJ7_fill_53178
  rw [gd_pos ha, bn_go, hL, show Int32.ofNat L = nI L from rfl, show (0 : Int32) = nI 0 from rfl, fill_loop ha hL (by omega) L 0 S n (by omega) (by omega)]
  refine congrArg (fun z => some (z, ())) (rI_ext fun i => ?_)
  by_cases q : i < L
  · rw [if_pos (by omega), if_pos q]
  · rw [if_neg (by omega), if_neg q]
def sumI (f : Nat → Int32) : Nat → Int32
  | 0 => 0
  | k + 1 => sumI f k + f k
theorem sumI_congr {f g : Nat → Int32} : ∀ {k : Nat}, (∀ d, d < k → f d = g d) → sumI f k = sumI g k
  | 0, _ => rfl
  | k + 1, h => by rw [sumI, sumI, sumI_congr (fun d hd => h d (by omega)), h k (by omega)]
theorem sumI_nI {f : Nat → Int32} {p : Nat → Nat} : ∀ {k : Nat}, (∀ d, d < k → f d = nI (p d)) → sumI f k = nI (sumN p k)
  | 0, _ => rfl
  | k + 1, h => by rw [sumI, sumN, sumI_nI (fun d hd => h d (by omega)), h k (by omega), nI_add]
theorem inVat_loop {n : Nat} {S : St} : ∀ (m k j : Nat), k + m = 8 → m < j → fX11_inVat_l4 n j S (sumI (S.1 31) k) (nI k) = some (S, sumI (S.1 31) 8) := by
  intro m
  induction m with
  | zero =>
    intro k j h hj
    obtain ⟨j, rfl⟩ := suc_of hj
    rw [fX11_inVat_l4, if_pos (le8 (k := k) (by omega) (by omega)), show k = 8 by omega]
  | succ m ih =>
    intro k j h hj
    obtain ⟨j, rfl⟩ := suc_of hj
    rw [fX11_inVat_l4, if_neg (nle8 (k := k) (by omega)), gd_pos (ib_nI (by omega) (by decide)), bn_go, bn_go, nI_1, cl_nI (by omega)]
    exact ih (k + 1) j (by omega) (by omega)
theorem inVat_spec {n : Nat} {S : St} (hn : 200000 ≤ n) : fX11_inVat n S = some (S, sumI (S.1 31) 8) := inVat_loop 8 0 n (by omega) (by omega)
theorem total_loop {sd : Sd} {n a p : Nat} {S : St} (ha : isK sd a 8) (hp : sd.2.2.2 a 0 = p) (hk : isK sd p 13) (hl : sd.2.2.1 p = 8) : ∀ (m k j : Nat), k + m = 8 → m < j → fX8_total_l4 sd n j S a (sumI (S.1 p) k) (nI k) = some (S, sumI (S.1 p) 8) := by
  subst hp
  intro m
  induction m with
  | zero =>
    intro k j h hj
    obtain ⟨j, rfl⟩ := suc_of hj
    rw [fX8_total_l4, if_pos (le8 (k := k) (by omega) (by omega)), show k = 8 by omega]
  | succ m ih =>
    intro k j h hj
    obtain ⟨j, rfl⟩ := suc_of hj
    rw [fX8_total_l4, if_neg (nle8 (k := k) (by omega)), gd_pos ha, gd_pos hk, gd_pos (by rw [hl]; exact ib_nI (by omega) (by decide)), bn_go, bn_go, nI_1, cl_nI (by omega)]
    exact ih (k + 1) j (by omega) (by omega)
theorem total_spec {n : Nat} {S : St} (hn : 200000 ≤ n) : fX8_total sdX n S 261 = some (S, sumI (S.1 262) 8) := total_loop (p := 262) (by decide) rfl (by decide) rfl 8 0 n (by omega) (by omega)
theorem putOn_spec {n : Nat} {S : St} {x : Int32} (hn : 200000 ≤ n) (hn2 : n < 2 ^ 31) : fX8_putOn sdX n S 261 x = some (rI (sI (sI S 261 1 x) 261 2 0) 262 (fun i => if i < 8 then 0 else S.1 262 i), ()) := by
  unfold fX8_putOn
  rw [gd_pos (by decide), bn_go, bn_go, show sdX.2.2.2 261 0 = 262 from rfl, gd_pos (by decide), fill_spec (L := 8) (by decide) rfl (by omega) hn2, bd_go]
  rfl
section
variable {n : Nat} {Sx Sm : St}
theorem ok_set (hn : 200000 ≤ n) (hn2 : n < 2 ^ 31) (h : Rel Sx Sm) : Ok_set n Rel Sx Sm := by
  intro x
  obtain ⟨B, b, hB, ⟨hb, hr, hr2⟩, hX, hlim, hM, ht, ⟨v1, v2, v3, v4, v5⟩, hbx, hl, ho, ha, hnn, hs, hw⟩ := id h
  obtain ⟨k1, ⟨-, k2, -⟩, -, k3, -⟩ := bk hb
  have hd : b_ng B ≤ 4 := hB.2.2.2.2.2.2.1
  unfold fX10_set fX11_set
  rw [isGround_spec hM hB, bd_go, hr, gd_pos k1, k2, gd_pos k3, has_spec k3 hX.2.2.2.2.2.2.1, bd_go]
  by_cases c : inR x (b_ng B) = 0
  · exact ⟨Sx, Sm, 0, by rw [if_pos c], by rw [if_pos c], h⟩
  · obtain ⟨j, hj, rfl⟩ := inR_of (by omega) c
    rw [if_neg c, if_neg c, putOn_spec hn hn2, setVat_spec hn, bd_go, bd_go]
    refine ⟨_, _, 1, rfl, rfl, B, b, hB, ⟨hb, hr, hr2⟩, RXb_frame hX (fun a q1 q2 => ?_) hB, hlim, hM, ht, ⟨fun d hd => ?_, rfl, rfl, v4, ⟨fun _ => 0, fun d hd => if_pos hd, fun _ _ => rfl, by show sumN (fun _ => 0) 8 ≤ _; exact Nat.zero_le _⟩, j, rfl, Or.inl hj⟩, Gbx_frame hbx (fun a q1 q2 => ?_) (fun a q1 q2 => ?_), hl, Go_frame ho (fun a q1 q2 => ?_) rfl rfl rfl, ha, hnn, hs, hw⟩
    · rw [rI_ne (by rcases hb with q | q <;> omega), sI_ne (by rcases hb with q | q <;> omega), sI_ne (by rcases hb with q | q <;> omega)]
    · show (if d < 8 then (0 : Int32) else _) = if d < 8 then 0 else _
      rw [if_pos hd, if_pos hd]
    · rw [rI_ne (by omega), sI_ne (by omega), sI_ne (by omega)]
    · rw [sI_ne (by omega), sI_ne (by omega), rI_ne (by omega)]
    · rw [rI_ne (by omega), sI_ne (by omega), sI_ne (by omega)]
end
