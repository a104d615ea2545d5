theorem nI_L {v : Nat} (h : v < 2 ^ 31) : (nI v).toInt64 = lN v := by
  apply Int64.toInt_inj.mp
  rw [Int32.toInt_toInt64, nI_toInt h]
  show (v : Int) = (Int64.ofNat v).toInt
  rw [Int64.toInt_ofNat_of_lt (by omega)]
theorem nI_mulL {a b : Nat} (h : a * b < 2 ^ 31) (ha : a < 2 ^ 31) (hb : b < 2 ^ 31) : (nI a * nI b).toInt64 = (nI a).toInt64 * (nI b).toInt64 := by
  rw [pk_mul, nI_L h, nI_L ha, nI_L hb, lN_mul]
theorem nI_subL {a b : Nat} (ha : a < 2 ^ 30) (hb : b < 2 ^ 30) : (nI a - nI b).toInt64 = (nI a).toInt64 - (nI b).toInt64 := by
  apply Int64.toInt_inj.mp
  rw [Int32.toInt_toInt64, Int32.toInt_sub, Int64.toInt_sub, Int32.toInt_toInt64, Int32.toInt_toInt64, nI_toInt (by omega), nI_toInt (by omega), Int.bmod_eq_of_le (by omega) (by omega), Int.bmod_eq_of_le (by omega) (by omega)]
theorem nI_divN {a b : Nat} (ha : a < 2 ^ 31) (hb : b < 2 ^ 31) : nI a / nI b = nI (a / b) := by
  apply Int32.toInt_inj.mp
  rw [Int32.toInt_div, nI_toInt ha, nI_toInt hb, nI_toInt (Nat.lt_of_le_of_lt (Nat.div_le_self a b) ha), ← Int.ofNat_tdiv]
  have : a / b ≤ a := Nat.div_le_self a b
  generalize a / b = c at this ⊢
  exact Int.bmod_eq_of_le (by omega) (by omega)
theorem lg_pos {a b : Int64} : 0 < lg_cmp a b ↔ b < a := by
  unfold lg_cmp
  by_cases h : b < a
  · rw [if_pos h]; exact ⟨fun _ => h, fun _ => by decide⟩
  · rw [if_neg h]
    refine ⟨fun q => ?_, fun q => absurd q h⟩
    split at q <;> exact absurd q (by decide)
theorem lg_nn {a b : Int64} : 0 ≤ lg_cmp a b ↔ b ≤ a := by
  unfold lg_cmp
  by_cases h : b < a
  · rw [if_pos h]; exact ⟨fun _ => by rw [Int64.lt_iff_toInt_lt] at h; rw [Int64.le_iff_toInt_le]; omega, fun _ => by decide⟩
  · rw [if_neg h]
    by_cases e : a = b
    · rw [if_pos e, e]; exact ⟨fun _ => Int64.le_refl b, fun _ => by decide⟩
    · rw [if_neg e]
      refine ⟨fun q => absurd q (by decide), fun q => ?_⟩
      exact absurd (Int64.toInt_inj.mp (by rw [Int64.lt_iff_toInt_lt] at h; rw [Int64.le_iff_toInt_le] at q; omega)) e
theorem lg_np {a b : Int64} : lg_cmp a b ≤ 0 ↔ a ≤ b := by
  unfold lg_cmp
  by_cases h : b < a
  · rw [if_pos h]; exact ⟨fun q => absurd q (by decide), fun q => by rw [Int64.lt_iff_toInt_lt] at h; rw [Int64.le_iff_toInt_le] at q; omega⟩
  · rw [if_neg h]
    have : a ≤ b := by rw [Int64.lt_iff_toInt_lt] at h; rw [Int64.le_iff_toInt_le]; omega
    refine ⟨fun _ => this, fun _ => ?_⟩
    split <;> decide
theorem lg_neg {a b : Int64} : lg_cmp a b < 0 ↔ a < b := by
  have := lg_nn (a := a) (b := b)
  rw [Int32.le_iff_toInt_le, Int64.le_iff_toInt_le] at this
  rw [Int32.lt_iff_toInt_lt, Int64.lt_iff_toInt_lt]
  omega
theorem lg_eq {a b : Int64} : lg_cmp a b = 0 ↔ a = b := by
  unfold lg_cmp
  by_cases h : b < a
  · rw [if_pos h]; exact ⟨fun q => absurd q (by decide), fun q => by rw [Int64.lt_iff_toInt_lt, q] at h; omega⟩
  · rw [if_neg h]
    by_cases e : a = b
    · rw [if_pos e]; exact ⟨fun _ => e, fun _ => rfl⟩
    · rw [if_neg e]; exact ⟨fun q => absurd q (by decide), fun q => absurd q e⟩
theorem abL_eq (z : Int64) : abL z = if 0 ≤ lg_cmp z 0 then z else -z := by
  unfold abL
  by_cases h : 0 < z
  · rw [if_pos h, if_pos (lg_nn.mpr (by rw [Int64.lt_iff_toInt_lt] at h; rw [Int64.le_iff_toInt_le]; omega))]
  · rw [if_neg h]
    by_cases e : z = 0
    · rw [e]; split <;> rfl
    · rw [if_neg (fun q => e (Int64.toInt_inj.mp (by have := lg_nn.mp q; rw [Int64.lt_iff_toInt_lt] at h; rw [Int64.le_iff_toInt_le] at this; omega)))]
theorem mxL_eq (x y : Int64) : mxL x y = if lg_cmp y x ≤ 0 then x else y := by
  unfold mxL
  by_cases h : y < x
  · rw [if_pos h, if_pos (lg_np.mpr (by rw [Int64.lt_iff_toInt_lt] at h; rw [Int64.le_iff_toInt_le]; omega))]
  · rw [if_neg h]
    by_cases e : y = x
    · rw [e]; split <;> rfl
    · rw [if_neg (fun q => e (Int64.toInt_inj.mp (by have := lg_np.mp q; rw [Int64.lt_iff_toInt_lt] at h; rw [Int64.le_iff_toInt_le] at this; omega)))]
/-- rows of bands that no overflow can come of -/
def okR (B : Bd) (r : Nat → Int32) : Prop := ∀ j, j < b_nb B → sm (r j) 99000
theorem sSum_congr {f g : Nat → Int64} : ∀ {k : Nat}, (∀ j, j < k → f j = g j) → sSum f k = sSum g k
  | 0, _ => rfl
  | k + 1, h => by rw [sSum, sSum, sSum_congr (fun d hd => h d (by omega)), h k (by omega)]
theorem sSum_sub {f g : Nat → Int64} : ∀ {k : Nat}, sSum (fun j => f j - g j) k = sSum f k - sSum g k
  | 0 => by rw [sSum, sSum, sSum]; decide
  | k + 1 => by
    rw [sSum, sSum, sSum, sSum_sub (k := k)]
    grind
theorem dfV_seV {B : Bd} {ra rb : Nat → Int32} {l e : Nat} (ha : okR B ra) (hb : okR B rb) : dfV B ra rb l e = seV B ra l e - seV B rb l e := by
  unfold dfV seV
  rw [← sSum_sub]
  refine sSum_congr fun j hj => ?_
  obtain ⟨v, v1, v2⟩ := ha j hj
  obtain ⟨u, u1, u2⟩ := hb j hj
  rw [v2, u2, nI_subL (by omega) (by omega)]
  grind
theorem ltE_L {B : Bd} {l e j : Nat} (hB : Bok B) (hl : l < b_nl B) (he : e < b_ne B) (hj : j < b_nb B) : (ltE B l e j).toInt64 = (b_lmp B l j).toInt64 * (b_eye B e j).toInt64 := by
  obtain ⟨v, v1, v2⟩ := hB.2.2.2.2.2.2.2.2.2.2.2.2.1 l hl j hj
  obtain ⟨u, u1, u2⟩ := hB.2.2.2.2.2.2.2.2.2.2.2.2.2.1 e he j hj
  unfold ltE
  have : v * u ≤ 99 * 9 := Nat.mul_le_mul v1 u1
  rw [v2, u2, nI_mulL (by omega) (by omega) (by omega)]
section
variable {n : Nat} {B : Bd} {S : St} {w l e : Nat} {r : Nat → Int32}
theorem seenBy_loop (hM : RMb B S.1) (hB : Bok B) (hw : w < 2) (hl : l < b_nl B) (he : e < b_ne B) (hr : ∀ j, j < b_nb B → S.2.1 23 (16 * w + j) = (r j).toInt64) : ∀ (m k j : Nat), k + m = b_nb B → m < j → fX11_seenBy_l6 n j S (nI w) (nI l) (nI e) (sSum (fun j => (r j).toInt64 * (ltE B l e j).toInt64) k) (nI k) = some (S, seV B r l e) := by
  have h16 : b_nb B ≤ 16 := hB.1.2
  have hl6 : b_nl B ≤ 6 := hB.2.2.2.2.2.2.2.1
  have he4 : b_ne B ≤ 4 := hB.2.2.2.2.2.2.2.2.1
  intro m
  induction m with
  | zero =>
    intro k j h hj
    obtain ⟨j, rfl⟩ := suc_of hj
    rw [fX11_seenBy_l6, hM.1, if_pos (nI_le (by omega) (by omega)), show k = b_nb B by omega]
    rfl
  | succ m ih =>
    intro k j h hj
    obtain ⟨j, rfl⟩ := suc_of hj
    have e1 : ib (nI (16 * w + k)) 32 := ib_nI (by omega) (by decide)
    have e2 : ib (nI (16 * l + k)) 96 := ib_nI (by omega) (by decide)
    have e3 : ib (nI (16 * e + k)) 64 := ib_nI (by omega) (by decide)
    rw [fX11_seenBy_l6, hM.1, if_neg (nI_ge (by omega) (by omega))]
    simp only [ix16, gd_pos e1, gd_pos e2, gd_pos e3, bn_go, nI_1, cl_nI (show 16 * w + k < 2 ^ 31 by omega), cl_nI (show 16 * l + k < 2 ^ 31 by omega), cl_nI (show 16 * e + k < 2 ^ 31 by omega)]
    rw [hr k (by omega), hM.2.2.2.2.2.2.2.2.2.2.2.2.1 l hl k (by omega), hM.2.2.2.2.2.2.2.2.2.2.2.2.2.1 e he k (by omega), Int64.mul_assoc, ← ltE_L hB hl he (by omega)]
    exact ih (k + 1) j (by omega) (by omega)
theorem seenBy_spec (hn : 200000 ≤ n) (hM : RMb B S.1) (hB : Bok B) (hw : w < 2) (hl : l < b_nl B) (he : e < b_ne B) (hr : ∀ j, j < b_nb B → S.2.1 23 (16 * w + j) = (r j).toInt64) : fX11_seenBy n S (nI w) (nI l) (nI e) = some (S, seV B r l e) := by
  have h16 : b_nb B ≤ 16 := hB.1.2
  exact seenBy_loop hM hB hw hl he hr (b_nb B) 0 n (by omega) (by omega)
theorem doesSee_spec {odd : Int32} (hM : RMb B S.1) (hB : Bok B) (he : e < 4) : fX11_doesSee n S (nI e) odd = some (S, if b_ne B ≤ e then 0 else if e = unE odd then 0 else 1) := by
  have he4 : b_ne B ≤ 4 := hB.2.2.2.2.2.2.2.2.1
  unfold fX11_doesSee fX11_doesSee_j26 fX11_doesSee_j23 fX11_doesSee_j26 unE
  rw [eyes_spec hM, bd_go]
  by_cases c : b_ne B ≤ e
  · rw [if_pos (nI_le c (by omega)), if_pos c]
  · rw [if_neg (nI_ge (by omega) (by omega)), if_neg c]
    by_cases q : odd = 0
    · rw [if_pos q, if_pos q]
      match e, he with
      | 0, _ => rfl
      | 1, _ => rfl
      | 2, _ => rfl
      | 3, _ => rfl
    · rw [if_neg q, if_neg q]
      match e, he with
      | 0, _ => rfl
      | 1, _ => rfl
      | 2, _ => rfl
      | 3, _ => rfl
theorem apartBy_loop {odd : Int32} {ra rb : Nat → Int32} (hn : 200000 ≤ n) (hM : RMb B S.1) (hB : Bok B) (hl : l < b_nl B) (h1 : ∀ j, j < b_nb B → S.2.1 23 j = (ra j).toInt64) (h2 : ∀ j, j < b_nb B → S.2.1 23 (16 + j) = (rb j).toInt64) (ha : okR B ra) (hb : okR B rb) : ∀ (m e j : Nat), e + m = 4 → m < j → fX11_apartBy_l5 n j S (nI l) odd (apS B ra rb l (unE odd) (min e (b_ne B))) (nI e) = some (S, apV B ra rb l odd) := by
  have he4 : b_ne B ≤ 4 := hB.2.2.2.2.2.2.2.2.1
  intro m
  induction m with
  | zero =>
    intro e j h hj
    obtain ⟨j, rfl⟩ := suc_of hj
    rw [fX11_apartBy_l5, if_pos (show (4 : Int32) ≤ nI e from nI_le (a := 4) (by omega) (by omega)), show min e (b_ne B) = b_ne B by omega]
    rfl
  | succ m ih =>
    intro e j h hj
    obtain ⟨j, rfl⟩ := suc_of hj
    have e1 := ih (e + 1) j (by omega) (by omega)
    rw [fX11_apartBy_l5, if_neg (show ¬ (4 : Int32) ≤ nI e from nI_ge (b := 4) (by omega) (by decide)), doesSee_spec hM hB (by omega), bd_go]
    unfold fX11_apartBy_j58 fX11_apartBy_j73 fX11_apartBy_j74
    by_cases c : b_ne B ≤ e
    · rw [if_pos c, if_pos rfl, bn_go, nI_1]
      rw [show min (e + 1) (b_ne B) = b_ne B by omega] at e1
      rw [show min e (b_ne B) = b_ne B by omega]
      exact e1
    · rw [show min (e + 1) (b_ne B) = e + 1 by omega, apS] at e1
      rw [if_neg c, show min e (b_ne B) = e by omega]
      by_cases q : e = unE odd
      · rw [if_pos q] at e1
        rw [if_pos q, if_pos rfl, bn_go, nI_1]
        exact e1
      · rw [if_neg q] at e1
        have s1 : fX11_seenBy n S 0 (nI l) (nI e) = some (S, seV B ra l e) := seenBy_spec (w := 0) hn hM hB (by omega) hl (by omega) (fun j hj => by rw [show 16 * 0 + j = j by omega]; exact h1 j hj)
        have s2 : fX11_seenBy n S 1 (nI l) (nI e) = some (S, seV B rb l e) := seenBy_spec (w := 1) hn hM hB (by omega) hl (by omega) (fun j hj => h2 j hj)
        rw [if_neg q, if_neg (show ¬ (1 : Int32) = 0 by decide), s1, bd_go, s2, bd_go, bn_go, ← dfV_seV ha hb]
        simp only [bn_go, nI_1]
        have e2 : (if 0 ≤ lg_cmp (dfV B ra rb l e) 0 then (if lg_cmp (dfV B ra rb l e) (apS B ra rb l (unE odd) e) ≤ 0 then fX11_apartBy_l5 n j S (nI l) odd (apS B ra rb l (unE odd) e) (nI (e + 1)) else fX11_apartBy_l5 n j S (nI l) odd (dfV B ra rb l e) (nI (e + 1))) else (if lg_cmp (-dfV B ra rb l e) (apS B ra rb l (unE odd) e) ≤ 0 then fX11_apartBy_l5 n j S (nI l) odd (apS B ra rb l (unE odd) e) (nI (e + 1)) else fX11_apartBy_l5 n j S (nI l) odd (-dfV B ra rb l e) (nI (e + 1)))) = fX11_apartBy_l5 n j S (nI l) odd (mxL (apS B ra rb l (unE odd) e) (abL (dfV B ra rb l e))) (nI (e + 1)) := by
          rw [mxL_eq, abL_eq]
          by_cases z : 0 ≤ lg_cmp (dfV B ra rb l e) 0
          · rw [if_pos z, if_pos z]; split <;> rfl
          · rw [if_neg z, if_neg z]; split <;> rfl
        rw [e2]
        exact e1
theorem apartBy_spec {odd : Int32} {ra rb : Nat → Int32} (hn : 200000 ≤ n) (hM : RMb B S.1) (hB : Bok B) (hl : l < b_nl B) (h1 : ∀ j, j < b_nb B → S.2.1 23 j = (ra j).toInt64) (h2 : ∀ j, j < b_nb B → S.2.1 23 (16 + j) = (rb j).toInt64) (ha : okR B ra) (hb : okR B rb) : fX11_apartBy n S (nI l) odd = some (S, apV B ra rb l odd) := by
  have := apartBy_loop (odd := odd) hn hM hB hl h1 h2 ha hb 4 0 n (by omega) (by omega)
  rw [show min 0 (b_ne B) = 0 by omega] at this
  exact this
theorem isAlike_spec {odd : Int32} {ra rb : Nat → Int32} (hn : 200000 ≤ n) (hM : RMb B S.1) (hB : Bok B) (hl : l < b_nl B) (h1 : ∀ j, j < b_nb B → S.2.1 23 j = (ra j).toInt64) (h2 : ∀ j, j < b_nb B → S.2.1 23 (16 + j) = (rb j).toInt64) (ha : okR B ra) (hb : okR B rb) : fX11_isAlike n S (nI l) odd = some (S, alV B ra rb l odd) := by
  unfold fX11_isAlike alV
  rw [apartBy_spec hn hM hB hl h1 h2 ha hb, bd_go, hM.2.2.1]
  split <;> rfl
theorem cost_loop (hM : RMb B S.1) (hB : Bok B) (hw : w < 2) : ∀ (m d j : Nat), d + m = b_nd B → m < j → fX11_costOf_l4 n j S (nI w) (sumI (fun i => S.1 21 (8 * w + i) * b_prc B i) d) (nI d) = some (S, sumI (fun i => S.1 21 (8 * w + i) * b_prc B i) (b_nd B)) := by
  have h8 : b_nd B ≤ 8 := hB.2.2.2.2.2.1
  intro m
  induction m with
  | zero =>
    intro d j h hj
    obtain ⟨j, rfl⟩ := suc_of hj
    rw [fX11_costOf_l4, dyes_spec hM, bd_go, if_pos (nI_le (by omega) (by omega)), show d = b_nd B by omega]
  | succ m ih =>
    intro d j h hj
    obtain ⟨j, rfl⟩ := suc_of hj
    have e1 : ib (nI (8 * w + d)) 16 := ib_nI (by omega) (by decide)
    have e8 : ib (nI d) 8 := ib_nI (by omega) (by decide)
    rw [fX11_costOf_l4, dyes_spec hM, bd_go, if_neg (nI_ge (by omega) (by omega))]
    simp only [ix8, gd_pos e1, gd_pos e8, bn_go, nI_1, cl_nI (show 8 * w + d < 2 ^ 31 by omega), cl_nI (show d < 2 ^ 31 by omega)]
    rw [(hM.2.2.2.2.2.2.2.2.2.2.2.2.2.2.1 d (by omega)).1]
    exact ih (d + 1) j (by omega) (by omega)
theorem costOf_spec (hn : 200000 ≤ n) (hM : RMb B S.1) (hB : Bok B) (hw : w < 2) : fX11_costOf n S (nI w) = some (S, sumI (fun i => S.1 21 (8 * w + i) * b_prc B i) (b_nd B)) := by
  have h8 : b_nd B ≤ 8 := hB.2.2.2.2.2.1
  exact cost_loop hM hB hw (b_nd B) 0 n (by omega) (by omega)
theorem sumOf_loop (hM : RMb B S.1) (hB : Bok B) (hw : w < 2) : ∀ (m d j : Nat), d + m = b_nd B → m < j → fX11_sumOf_l4 n j S (nI w) (sumI (fun i => S.1 21 (8 * w + i)) d) (nI d) = some (S, sumI (fun i => S.1 21 (8 * w + i)) (b_nd B)) := by
  have h8 : b_nd B ≤ 8 := hB.2.2.2.2.2.1
  intro m
  induction m with
  | zero =>
    intro d j h hj
    obtain ⟨j, rfl⟩ := suc_of hj
    rw [fX11_sumOf_l4, dyes_spec hM, bd_go, if_pos (nI_le (by omega) (by omega)), show d = b_nd B by omega]
  | succ m ih =>
    intro d j h hj
    obtain ⟨j, rfl⟩ := suc_of hj
    have e1 : ib (nI (8 * w + d)) 16 := ib_nI (by omega) (by decide)
    rw [fX11_sumOf_l4, dyes_spec hM, bd_go, if_neg (nI_ge (by omega) (by omega))]
    simp only [ix8, gd_pos e1, bn_go, nI_1, cl_nI (show 8 * w + d < 2 ^ 31 by omega)]
    exact ih (d + 1) j (by omega) (by omega)
theorem sumOf_spec (hn : 200000 ≤ n) (hM : RMb B S.1) (hB : Bok B) (hw : w < 2) : fX11_sumOf n S (nI w) = some (S, sumI (fun i => S.1 21 (8 * w + i)) (b_nd B)) := by
  have h8 : b_nd B ≤ 8 := hB.2.2.2.2.2.1
  exact sumOf_loop hM hB hw (b_nd B) 0 n (by omega) (by omega)
end
/-- how far a mix can throw back -/
def tbN (G : Nat) (D p : Nat → Nat) (m : Nat) : Nat → Nat
  | 0 => G * m
  | d + 1 => tbN G D p m d + p d * D d - p d * G
theorem tbN_ge {G m : Nat} {D p : Nat → Nat} : ∀ d, sumN p d ≤ m → G * (m - sumN p d) ≤ tbN G D p m d
  | 0, _ => by rw [sumN, tbN]; exact Nat.le_refl _
  | d + 1, h => by
    rw [sumN] at h
    have ih := tbN_ge (G := G) (D := D) (m := m) (p := p) d (by omega)
    rw [sumN, tbN]
    have e1 : G * (m - sumN p d) = G * (m - (sumN p d + p d)) + p d * G := by
      rw [Nat.mul_comm (p d) G, ← Nat.mul_add]
      congr 1
      omega
    omega
theorem tbN_le {G m C : Nat} {D p : Nat → Nat} (hG : G ≤ C) : ∀ d, (∀ i, i < d → D i ≤ C) → sumN p d ≤ m → tbN G D p m d + (C - G) * (m - sumN p d) ≤ C * m
  | 0, _, _ => by
    rw [sumN, tbN, Nat.sub_zero, ← Nat.add_mul]
    exact Nat.le_of_eq (by congr 1; omega)
  | d + 1, hD, h => by
    rw [sumN] at h
    have ih := tbN_le (D := D) (m := m) (p := p) hG d (fun i hi => hD i (by omega)) (by omega)
    have hge := tbN_ge (G := G) (D := D) (m := m) (p := p) d (by omega)
    rw [sumN, tbN]
    have e1 : (C - G) * (m - sumN p d) = (C - G) * (m - (sumN p d + p d)) + (C - G) * p d := by
      rw [← Nat.mul_add]
      congr 1
      omega
    have e2 : p d * D d ≤ p d * C := Nat.mul_le_mul (Nat.le_refl _) (hD d (by omega))
    have e3 : (C - G) * p d + p d * G = p d * C := by
      rw [Nat.mul_comm (C - G), ← Nat.mul_add]
      congr 1
      omega
    omega
theorem thrB_N {B : Bd} {g j G : Nat} {D p : Nat → Nat} (hG : b_grd B g j = nI G) : ∀ d, (∀ i, i < d → b_dye B i j = nI (D i)) → sumN p d ≤ b_most B → thrB B g p j d = nI (tbN G D p (b_most B) d)
  | 0, _, _ => by rw [thrB, tbN, hG, pk_mul]
  | d + 1, hD, h => by
    rw [sumN] at h
    have hge := tbN_ge (G := G) (D := D) (m := b_most B) (p := p) d (by omega)
    have e1 : G * (b_most B - sumN p d) = G * (b_most B - (sumN p d + p d)) + p d * G := by
      rw [Nat.mul_comm (p d) G, ← Nat.mul_add]
      congr 1
      omega
    have e2 : tbN G D p (b_most B) (d + 1) + p d * G = tbN G D p (b_most B) d + p d * D d := by
      rw [tbN]
      omega
    have e3 : nI (tbN G D p (b_most B) (d + 1)) + nI (p d) * nI G = nI (tbN G D p (b_most B) d) + nI (p d) * nI (D d) := by
      rw [pk_mul, pk_mul, nI_add, nI_add, e2]
    rw [thrB, thrB_N hG d (fun i hi => hD i (by omega)) (by omega), hD d (by omega), hG]
    grind
theorem overN_N {c : Nat} (hc : c ≤ 99) : ∀ (k v : Nat), v ≤ 99000 → ∃ u, u ≤ v ∧ overN (nI v) (nI c) k = nI u
  | 0, v, _ => ⟨v, Nat.le_refl _, rfl⟩
  | k + 1, v, hv => by
    obtain ⟨u, u1, u2⟩ := overN_N hc k v hv
    have e1 : u * c ≤ u * 99 := Nat.mul_le_mul (Nat.le_refl _) hc
    refine ⟨u * c / 100, by omega, ?_⟩
    rw [overN, u2, pk_mul, show (100 : Int32) = nI 100 from rfl, nI_divN (by omega) (by decide)]
theorem thrO_N {B : Bd} {g j G : Nat} {p : Nat → Nat} (hG : b_grd B g j = nI G) (hG9 : G ≤ 99) : ∀ d, (∀ i, i < d → sm (b_dye B i j) 99) → sm (thrO B g p j d) 99000
  | 0, _ => ⟨G * 1000, by omega, by rw [thrO, hG, show (1000 : Int32) = nI 1000 from rfl, pk_mul]⟩
  | d + 1, hD => by
    obtain ⟨v, v1, v2⟩ := thrO_N (p := p) hG hG9 d (fun i hi => hD i (by omega))
    obtain ⟨c, c1, c2⟩ := hD d (by omega)
    obtain ⟨u, u1, u2⟩ := overN_N c1 (p d) v v1
    exact ⟨u, by omega, by rw [thrO, v2, c2, u2]⟩
theorem thr_ok {B : Bd} {k : Nat} {p : Nat → Nat} (hB : Bok B) (hk : k < b_ng B) (hp : sumN p (b_nd B) ≤ b_most B) : okR B (thr B k p) := by
  intro j hj
  obtain ⟨G, hG9, hG⟩ := hB.2.2.2.2.2.2.2.2.2.2.2.1 k hk j hj
  have hD := fun d hd => hB.2.2.2.2.2.2.2.2.2.2.1 d hd j hj
  have hm := hB.2.1
  unfold thr
  by_cases q : b_over B = 0
  · rw [if_pos q]
    have hD' : ∀ d, ∃ v, d < b_nd B → v ≤ 99 ∧ b_dye B d j = nI v := fun d => by
      by_cases c : d < b_nd B
      · obtain ⟨v, v1, v2⟩ := hD d c
        exact ⟨v, fun _ => ⟨v1, v2⟩⟩
      · exact ⟨0, fun z => absurd z c⟩
    obtain ⟨D, hDD⟩ : ∃ D : Nat → Nat, ∀ d, d < b_nd B → D d ≤ 99 ∧ b_dye B d j = nI (D d) := ⟨fun d => (hD' d).choose, fun d hd => (hD' d).choose_spec hd⟩
    have e1 := thrB_N (p := p) hG (b_nd B) (fun i hi => (hDD i hi).2) hp
    have e2 := tbN_le (p := p) (m := b_most B) hG9 (b_nd B) (fun i hi => (hDD i hi).1) hp
    have e3 : tbN G D p (b_most B) (b_nd B) ≤ 99 * b_most B := by omega
    rw [e1, show (1000 : Int32) = nI 1000 from rfl, pk_mul, nI_divN (by omega) (by omega)]
    refine ⟨_, ?_, rfl⟩
    refine Nat.div_le_of_le_mul ?_
    omega
  · rw [if_neg q]
    exact thrO_N hG hG9 (b_nd B) hD
