/-! BEST: the class. ag: which lamps are asked. -/
theorem u_tn' {n : Nat} (h : n < 2 ^ 64) : (UInt64.ofNat n).toNat = n := by
  show (BitVec.ofNat 64 n).toNat = n
  rw [BitVec.toNat_ofNat, Nat.mod_eq_of_lt h]
theorem or_5 {a v : Nat} (ha : a < 2 ^ 58) (hv : v < 32) : (lN a <<< ((5 : Int32).toInt64 &&& 63)) ||| lN v = lN (32 * a + v) := by
  have e : lN a <<< ((5 : Int32).toInt64 &&& 63) = lN (a * 2 ^ 5) := wb_shl a (k := 5) (by decide)
  rw [e, wb_or (by omega) (by omega)]
  have h1 : a * 2 ^ 5 ||| v = a * 2 ^ 5 + v := by rw [← Nat.shiftLeft_eq, Nat.shiftLeft_add_eq_or_of_lt (by omega)]
  rw [h1]
  congr 1
  omega
def agL (x1 : Int32) (l : Nat) : Int32 := (x1 >>> (nI l &&& 31)) &&& 1
def bitV (x0 : Int32) : Int32 :=
  let z1 := x0 - ((((x0).toUInt32 >>> ((1 : Int32).toUInt32 &&& Int32.toUInt32 31)).toInt32) &&& 1431655765)
  let z2 := (z1 &&& 858993459) + ((((z1).toUInt32 >>> ((2 : Int32).toUInt32 &&& Int32.toUInt32 31)).toInt32) &&& 858993459)
  let z3 := (z2 + (((z2).toUInt32 >>> ((4 : Int32).toUInt32 &&& Int32.toUInt32 31)).toInt32)) &&& 252645135
  let z4 := z3 + (((z3).toUInt32 >>> ((8 : Int32).toUInt32 &&& Int32.toUInt32 31)).toInt32)
  let z5 := z4 + (((z4).toUInt32 >>> ((16 : Int32).toUInt32 &&& Int32.toUInt32 31)).toInt32)
  z5 &&& 63
theorem bitC_eq {n : Nat} {S : St} {x : Int32} : fJ6_bitCount_0f7a4 sdX n S x = some (S, bitV x) := rfl
theorem bitC_all : ∀ L, L < 7 → ∀ v, v < 2 ^ L → bitV (nI v) = nI (cn (agL (nI v)) L) := by decide +kernel
theorem setV_of {L : Nat} {x : Int32} (hL : L ≤ 6) (h : ¬ setV L x = 0) : ∃ v, v < 2 ^ L ∧ x = nI v := by
  unfold setV at h
  by_cases c : x ≤ 0
  · rw [if_pos c] at h; exact absurd rfl h
  rw [if_neg c] at h
  by_cases c2 : (1 <<< (nI L &&& 31)) ≤ x
  · rw [if_pos c2] at h; exact absurd rfl h
  have hs : ∀ L, L < 7 → (1 : Int32) <<< (nI L &&& 31) = nI (2 ^ L) := by decide +kernel
  rw [hs L (by omega)] at c2
  have h0 : ¬ x < 0 := fun z => c (by rw [Int32.lt_iff_toInt_lt] at z; rw [Int32.le_iff_toInt_le]; omega)
  obtain ⟨v, v1, rfl⟩ := nI_of h0
  have hp : 2 ^ L ≤ 64 := Nat.pow_le_pow_right (n := 2) (by decide) hL
  exact ⟨v, Classical.byContradiction fun q => c2 (nI_le (by omega) v1), rfl⟩
section
variable {n : Nat} {X : St}
theorem nofar_loop {L a1 a3 o1 o3 : Nat} {ag : Nat → Int32} {Ua Ub : Nat → Int64} (k1 : isK sdX a1 14) (k3 : isK sdX a3 14) (hL : L ≤ 6) (h12 : X.1 243 12 = nI (cn ag L)) (ho1 : o1 + 6 ≤ sdX.2.2.1 a1) (ho3 : o3 + 6 ≤ sdX.2.2.1 a3) (hl1 : sdX.2.2.1 a1 ≤ 30000) (hl3 : sdX.2.2.1 a3 ≤ 30000) (hA : ∀ l, l < L → ag l ≠ 0 → X.2.1 a1 (o1 + cn ag l) = Ua l) (hB : ∀ l, l < L → ag l ≠ 0 → X.2.1 a3 (o3 + cn ag l) = Ub l) : ∀ (w l j : Nat), l + w = L → w < j → ∃ r : Int32, fX4_isNoFarther_l3 n j X a1 (nI o1) a3 (nI o3) (nI (cn ag l)) = some (X, r) ∧ (r ≠ 0 ↔ ∀ l', l ≤ l' → l' < L → ag l' ≠ 0 → (Ua l').toInt ≤ (Ub l').toInt) := by
  intro w
  induction w with
  | zero =>
    intro l j h hj
    obtain ⟨j, rfl⟩ := suc_of hj
    have hc := cn_le (ag := ag) L
    refine ⟨1, ?_, ⟨fun _ l' h1 h2 => by omega, fun _ => by decide⟩⟩
    rw [fX4_isNoFarther_l3, h12, show l = L by omega, if_pos (nI_le (Nat.le_refl _) (by omega))]
  | succ w ih =>
    intro l j h hj
    have hc := cn_le (ag := ag) L
    have hc2 := cn_le (ag := ag) l
    by_cases c : ag l = 0
    · obtain ⟨r, r1, r2⟩ := ih (l + 1) j (by omega) (by omega)
      rw [cn_s0 c] at r1
      refine ⟨r, r1, r2.trans ⟨fun q l' h1 h2 h3 => ?_, fun q l' h1 h2 h3 => q l' (by omega) h2 h3⟩⟩
      by_cases e : l' = l
      · rw [e] at h3; exact absurd c h3
      · exact q l' (by omega) h2 h3
    · obtain ⟨j, rfl⟩ := suc_of hj
      have hlt := cn_lt (f := ag) (show l < L by omega) c
      obtain ⟨r, r1, r2⟩ := ih (l + 1) j (by omega) (by omega)
      rw [cn_s1 c] at r1
      rw [fX4_isNoFarther_l3, h12, if_neg (nI_ge hlt (by omega)), gd_pos k1, nI_add, nI_add, gd_pos (ib_nI (by omega) (by omega)), gd_pos k3, gd_pos (ib_nI (by omega) (by omega)), cl_nI (by omega), cl_nI (by omega), hA l (by omega) c, hB l (by omega) c]
      by_cases c2 : lg_cmp (Ua l) (Ub l) ≤ 0
      · rw [if_pos c2, bn_go, nI_1]
        have c2' := Int64.le_iff_toInt_le.mp (lg_np.mp c2)
        refine ⟨r, r1, r2.trans ⟨fun q l' h1 h2 h3 => ?_, fun q l' h1 h2 h3 => q l' (by omega) h2 h3⟩⟩
        by_cases e : l' = l
        · rw [e]; exact c2'
        · exact q l' (by omega) h2 h3
      · rw [if_neg c2]
        refine ⟨0, rfl, ⟨fun q => absurd rfl q, fun q => ?_⟩⟩
        exact absurd (lg_np.mpr (Int64.le_iff_toInt_le.mpr (q l (Nat.le_refl _) (by omega) c))) c2
/-- the class's best ones: which, and their rows -/
def DX (L : Nat) (ag : Nat → Int32) (A : Nat → Nat → Int64) (v : Nat → Nat → Nat) (P : Nat → Int32) (t : Nat) (X : St) : Prop := X.1 243 17 = nI (cn P t) ∧ X.1 243 12 = nI (cn ag L) ∧ ∀ j, j < t → P j ≠ 0 → X.2.1 257 (cn P j) = lN (pk5 (v j) 8) ∧ ∀ l, l < L → ag l ≠ 0 → X.2.1 258 (6 * cn P j + cn ag l) = A j l
def leA (L : Nat) (ag : Nat → Int32) (A : Nat → Nat → Int64) (a b : Nat) : Prop := ∀ l, l < L → ag l ≠ 0 → (A a l).toInt ≤ (A b l).toInt
variable {L t : Nat} {ag : Nat → Int32} {A : Nat → Nat → Int64} {v : Nat → Nat → Nat} {P : Nat → Int32}
theorem mul6 (k : Nat) : nI k * 6 = nI (6 * k) := by rw [show (6 : Int32) = nI 6 from rfl, pk_mul, Nat.mul_comm]
theorem le_row (hn : 200000 ≤ n) (hL : L ≤ 6) (h12 : X.1 243 12 = nI (cn ag L)) {i j : Nat} (hi : i < 5000) (h258 : ∀ l, l < L → ag l ≠ 0 → X.2.1 258 (6 * i + cn ag l) = A j l) (h259 : ∀ l, l < L → ag l ≠ 0 → X.2.1 259 (cn ag l) = A t l) : (∃ r : Int32, fX4_isNoFarther n X 258 (nI i * 6) 259 0 = some (X, r) ∧ (r ≠ 0 ↔ leA L ag A j t)) ∧ ∃ r : Int32, fX4_isNoFarther n X 259 0 258 (nI i * 6) = some (X, r) ∧ (r ≠ 0 ↔ leA L ag A t j) := by
  have l8 : sdX.2.2.1 258 = 30000 := by decide
  have l9 : sdX.2.2.1 259 = 6 := by decide
  constructor
  · obtain ⟨r, r1, r2⟩ := nofar_loop (n := n) (X := X) (L := L) (a1 := 258) (a3 := 259) (o1 := 6 * i) (o3 := 0) (ag := ag) (Ua := A j) (Ub := A t) (by decide) (by decide) hL h12 (by omega) (by omega) (by omega) (by omega) h258 (fun l h1 h2 => by rw [Nat.zero_add]; exact h259 l h1 h2) L 0 n (by omega) (by omega)
    refine ⟨r, ?_, r2.trans ⟨fun q l h1 h2 => q l (Nat.zero_le _) h1 h2, fun q l _ h1 h2 => q l h1 h2⟩⟩
    unfold fX4_isNoFarther
    rw [mul6]
    exact r1
  · obtain ⟨r, r1, r2⟩ := nofar_loop (n := n) (X := X) (L := L) (a1 := 259) (a3 := 258) (o1 := 0) (o3 := 6 * i) (ag := ag) (Ua := A t) (Ub := A j) (by decide) (by decide) hL h12 (by omega) (by omega) (by omega) (by omega) (fun l h1 h2 => by rw [Nat.zero_add]; exact h259 l h1 h2) h258 L 0 n (by omega) (by omega)
    refine ⟨r, ?_, r2.trans ⟨fun q l h1 h2 => q l (Nat.zero_le _) h1 h2, fun q l _ h1 h2 => q l h1 h2⟩⟩
    unfold fX4_isNoFarther
    rw [mul6]
    exact r1
theorem rival_loop (hn : 200000 ≤ n) (hL : L ≤ 6) (ht : t < 5000) (hD : DX L ag A v P t X) (h259 : ∀ l, l < L → ag l ≠ 0 → X.2.1 259 (cn ag l) = A t l) : ∀ (w j f : Nat), j + w = t → w < f → (∀ j', j' < j → P j' ≠ 0 → ¬ leA L ag A j' t) → ∃ r : Int32, fX4_findRival_l2 n f X (nI (cn P j)) = some (X, r) ∧ ((r = -1 ∧ ∀ j', j' < t → P j' ≠ 0 → ¬ leA L ag A j' t) ∨ ∃ q, q < t ∧ P q ≠ 0 ∧ leA L ag A q t ∧ r = nI (cn P q)) := by
  intro w
  induction w with
  | zero =>
    intro j f h hf hno
    obtain ⟨f, rfl⟩ := suc_of hf
    have hc := cn_le (ag := P) t
    refine ⟨-1, ?_, Or.inl ⟨rfl, fun j' h1 => hno j' (by omega)⟩⟩
    rw [fX4_findRival_l2, hD.1, show j = t by omega, if_pos (nI_le (Nat.le_refl _) (by omega))]
  | succ w ih =>
    intro j f h hf hno
    have hc := cn_le (ag := P) t
    by_cases c : P j = 0
    · obtain ⟨r, r1, r2⟩ := ih (j + 1) f (by omega) (by omega) (fun j' h1 h2 => by
        by_cases e : j' = j
        · rw [e] at h2; exact absurd c h2
        · exact hno j' (by omega) h2)
      rw [cn_s0 c] at r1
      exact ⟨r, r1, r2⟩
    · obtain ⟨f, rfl⟩ := suc_of hf
      have hlt := cn_lt (f := P) (show j < t by omega) c
      obtain ⟨⟨r, r1, r2⟩, -⟩ := le_row (n := n) (X := X) (A := A) (t := t) (i := cn P j) (j := j) hn hL hD.2.1 (by omega) (hD.2.2 j (by omega) c).2 h259
      rw [fX4_findRival_l2, hD.1, if_neg (nI_ge hlt (by omega)), r1, bd_go]
      by_cases c2 : r = 0
      · rw [if_pos c2, bn_go, nI_1]
        obtain ⟨r', q1, q2⟩ := ih (j + 1) f (by omega) (by omega) (fun j' h1 h2 => by
          by_cases e : j' = j
          · rw [e]; exact fun z => (r2.mpr z) c2
          · exact hno j' (by omega) h2)
        rw [cn_s1 c] at q1
        exact ⟨r', q1, q2⟩
      · rw [if_neg c2]
        exact ⟨_, rfl, Or.inr ⟨j, by omega, c, r2.mp c2, rfl⟩⟩
/-- what holding against the best ones changes -/
def kH (X X' : St) : Prop := (∀ a, a ≠ 243 → X'.1 a = X.1 a) ∧ (∀ k, k ≠ 17 → X'.1 243 k = X.1 243 k) ∧ (∀ a, a ≠ 257 → a ≠ 258 → X'.2.1 a = X.2.1 a) ∧ X'.2.2 = X.2.2
theorem kH_rf : kH X X := ⟨fun _ _ => rfl, fun _ _ => rfl, fun _ _ _ => rfl, rfl⟩
theorem kH_tr {A B C : St} (h : kH A B) (g : kH B C) : kH A C := ⟨fun a q => (g.1 a q).trans (h.1 a q), fun k q => (g.2.1 k q).trans (h.2.1 k q), fun a q r => (g.2.2.1 a q r).trans (h.2.2.1 a q r), g.2.2.2.trans h.2.2.2⟩
theorem cL_ne {S : St} {a b c sp dp m : Nat} (h : c ≠ b) : (cL S a b sp dp m).2.1 c = S.2.1 c := up_other _ _ h
theorem cL_row {S : St} {a b sp dp m : Nat} : (cL S a b sp dp m).2.1 b = va_cpy (S.2.1 a) (S.2.1 b) sp dp m := up_same _ _ _
theorem remove_loop {P' : Nat → Int32} (hn : 200000 ≤ n) (hL : L ≤ 6) (ht : t < 5000) (hP : ∀ j, j < t → (P' j ≠ 0 ↔ P j ≠ 0 ∧ ¬ leA L ag A t j)) : ∀ (w j f : Nat) (X : St), j + w = t → w < f → X.1 243 17 = nI (cn P t) → X.1 243 12 = nI (cn ag L) → (∀ l, l < L → ag l ≠ 0 → X.2.1 259 (cn ag l) = A t l) → (∀ j', j' < j → P' j' ≠ 0 → X.2.1 257 (cn P' j') = lN (pk5 (v j') 8) ∧ ∀ l, l < L → ag l ≠ 0 → X.2.1 258 (6 * cn P' j' + cn ag l) = A j' l) → (∀ j', j ≤ j' → j' < t → P j' ≠ 0 → X.2.1 257 (cn P j') = lN (pk5 (v j') 8) ∧ ∀ l, l < L → ag l ≠ 0 → X.2.1 258 (6 * cn P j' + cn ag l) = A j' l) → ∃ X', fX4_removeBeaten_l4 n f X (nI (cn P' j)) (nI (cn P j)) = some (X', ()) ∧ kH X X' ∧ DX L ag A v P' t X' := by
  have hsub : ∀ j, j ≤ t → cn P' j ≤ cn P j := fun j hj => cn_sub fun j' h1 h2 => ((hP j' (by omega)).mp h2).1
  have hcL := cn_le (ag := ag) L
  intro w
  induction w with
  | zero =>
    intro j f X h hf h17 h12 h259 hlo hhi
    obtain ⟨f, rfl⟩ := suc_of hf
    have hc := cn_le (ag := P) t
    have e : j = t := by omega
    subst e
    rw [fX4_removeBeaten_l4, h17, if_pos (nI_le (Nat.le_refl _) (by omega))]
    unfold fX4_removeBeaten_j81
    rw [bn_go]
    refine ⟨_, rfl, ⟨fun a q => sI_ne q, fun k q => by rw [sI_row, upd_ne q], fun _ _ _ => rfl, rfl⟩, ⟨by rw [sI_row, upd_eq], by rw [sI_row, upd_ne (by decide)]; exact h12, hlo⟩⟩
  | succ w ih =>
    intro j f X h hf h17 h12 h259 hlo hhi
    have hc := cn_le (ag := P) t
    by_cases c : P j = 0
    · have c' : P' j = 0 := Classical.byContradiction fun q => ((hP j (by omega)).mp q).1 c
      have := ih (j + 1) f X (by omega) (by omega) h17 h12 h259 (fun j' h1 h2 => by
        by_cases e : j' = j
        · rw [e] at h2; exact absurd c' h2
        · exact hlo j' (by omega) h2) (fun j' h1 h2 h3 => hhi j' (by omega) h2 h3)
      rw [cn_s0 c, cn_s0 c'] at this
      exact this
    · obtain ⟨f, rfl⟩ := suc_of hf
      have hlt := cn_lt (f := P) (show j < t by omega) c
      obtain ⟨d1, d2⟩ := hhi j (Nat.le_refl _) (by omega) c
      obtain ⟨-, r, r1, r2⟩ := le_row (n := n) (X := X) (A := A) (t := t) (i := cn P j) (j := j) hn hL h12 (by omega) d2 h259
      rw [fX4_removeBeaten_l4, h17, if_neg (nI_ge hlt (by omega)), r1, bd_go]
      have hsj := hsub j (by omega)
      by_cases c2 : r = 0
      · have c' : P' j ≠ 0 := (hP j (by omega)).mpr ⟨c, fun z => (r2.mpr z) c2⟩
        rw [if_pos c2]
        unfold fX4_removeBeaten_j72 fX4_removeBeaten_j75
        by_cases c3 : cn P j ≤ cn P' j
        · have e : cn P' j = cn P j := by omega
          rw [if_pos (nI_le c3 (by omega)), bn_go, bn_go, nI_1, nI_1]
          have := ih (j + 1) f X (by omega) (by omega) h17 h12 h259 (fun j' h1 h2 => by
            by_cases e' : j' = j
            · rw [e', e]; exact ⟨d1, d2⟩
            · exact hlo j' (by omega) h2) (fun j' h1 h2 h3 => hhi j' (by omega) h2 h3)
          rw [cn_s1 c, cn_s1 c'] at this
          exact this
        · rw [if_neg (nI_ge (by omega) (by omega)), gd_pos (ib_nI (by omega) (by decide)), gd_pos (ib_nI (by omega) (by decide))]
          simp only [bn_go, nI_1, cl_nI (show cn P j < 2 ^ 31 by omega), cl_nI (show cn P' j < 2 ^ 31 by omega), mul6, cl_nI (show 6 * cn P j < 2 ^ 31 by omega), cl_nI (show 6 * cn P' j < 2 ^ 31 by omega)]
          have e12 : (sL X 257 (cn P' j) (X.2.1 257 (cn P j))).1 243 12 = nI (cn ag L) := h12
          rw [e12, cl_nI (by omega), gd_pos ⟨nI_pos (by omega), nI_pos (by omega), nI_pos (by omega), by omega, by omega⟩]
          generalize hY : cL (sL X 257 (cn P' j) (X.2.1 257 (cn P j))) 258 258 (6 * cn P j) (6 * cn P' j) (cn ag L) = Y
          have y1 : Y.1 = X.1 := by rw [← hY]; rfl
          have y2 : Y.2.2 = X.2.2 := by rw [← hY]; rfl
          have y3 : ∀ a, a ≠ 257 → a ≠ 258 → Y.2.1 a = X.2.1 a := fun a q1 q2 => by rw [← hY, cL_ne q2, sL_ne q1]
          have y4 : ∀ i, Y.2.1 257 i = if i = cn P' j then X.2.1 257 (cn P j) else X.2.1 257 i := fun i => by rw [← hY, cL_ne (by decide), sL_row]; rfl
          have y5 : ∀ i, Y.2.1 258 i = if 6 * cn P' j ≤ i ∧ i < 6 * cn P' j + cn ag L then X.2.1 258 (6 * cn P j + (i - 6 * cn P' j)) else X.2.1 258 i := fun i => by rw [← hY, cL_row, sL_ne (by decide)]; rfl
          obtain ⟨X', f1, f2, f3⟩ := ih (j + 1) f Y (by omega) (by omega) (by rw [y1]; exact h17) (by rw [y1]; exact h12) (fun l h1 h2 => by rw [y3 259 (by decide) (by decide)]; exact h259 l h1 h2) (fun j' h1 h2 => by
            by_cases e' : j' = j
            · rw [e', y4, if_pos rfl]
              refine ⟨d1, fun l h3 h4 => ?_⟩
              have := cn_lt (f := ag) h3 h4
              rw [y5, if_pos (by omega), show 6 * cn P' j + cn ag l - 6 * cn P' j = cn ag l by omega]
              exact d2 l h3 h4
            · have hlt2 := cn_lt (f := P') (show j' < j by omega) h2
              obtain ⟨g1, g2⟩ := hlo j' (by omega) h2
              rw [y4, if_neg (by omega)]
              refine ⟨g1, fun l h3 h4 => ?_⟩
              have := cn_lt (f := ag) h3 h4
              rw [y5, if_neg (by omega)]
              exact g2 l h3 h4) (fun j' h1 h2 h3 => by
            have hlt2 := cn_lt (f := P) (show j < j' by omega) c
            obtain ⟨g1, g2⟩ := hhi j' (by omega) h2 h3
            rw [y4, if_neg (by omega)]
            refine ⟨g1, fun l h3 h4 => ?_⟩
            have := cn_lt (f := ag) h3 h4
            rw [y5, if_neg (by omega)]
            exact g2 l h3 h4)
          rw [cn_s1 c, cn_s1 c'] at f1
          exact ⟨X', f1, kH_tr ⟨fun a _ => by rw [y1], fun k _ => by rw [y1], y3, y2⟩ f2, f3⟩
      · have c' : P' j = 0 := Classical.byContradiction fun q => ((hP j (by omega)).mp q).2 (r2.mp c2)
        rw [if_neg c2]
        unfold fX4_removeBeaten_j75
        rw [bn_go, nI_1]
        have := ih (j + 1) f X (by omega) (by omega) h17 h12 h259 (fun j' h1 h2 => by
          by_cases e : j' = j
          · rw [e] at h2; exact absurd c' h2
          · exact hlo j' (by omega) h2) (fun j' h1 h2 h3 => hhi j' (by omega) h2 h3)
        rw [cn_s1 c, cn_s0 c'] at this
        exact this
theorem pack_loop {w : Nat → Nat} (hv : ∀ d, d < 8 → w d < 32) (h256 : ∀ d, d < 8 → X.1 256 d = nI (w d)) : ∀ (k j : Nat), k ≤ 8 → k < j → fX4_addBest_l16 n j X (lN (pk5 w 8 / 2 ^ (5 * k))) (nI k - 1) = fX4_addBest_j41 n X (lN (pk5 w 8)) := by
  have hp := pk5_lt hv
  intro k
  induction k with
  | zero =>
    intro j hk hj
    obtain ⟨j, rfl⟩ := suc_of hj
    rw [fX4_addBest_l16, if_pos (show nI 0 - 1 < 0 by decide), Nat.mul_zero, Nat.pow_zero, Nat.div_one]
  | succ k ih =>
    intro j hk hj
    obtain ⟨j, rfl⟩ := suc_of hj
    have hat := pk5_at hv (show k < 8 by omega)
    have hle : pk5 w 8 / 2 ^ (5 * (k + 1)) ≤ pk5 w 8 := Nat.div_le_self _ _
    have e : 32 * (pk5 w 8 / 2 ^ (5 * (k + 1))) + w k = pk5 w 8 / 2 ^ (5 * k) := by
      rw [show 5 * (k + 1) = 5 * k + 5 by omega, Nat.pow_add, ← Nat.div_div_eq_div_mul, show (2 : Nat) ^ 5 = 32 from rfl]
      omega
    rw [nI_pred, fX4_addBest_l16, if_neg (nI_pos (by omega)), gd_pos (ib_nI (by omega) (by decide)), bn_go, bn_go, add_m1, cl_nI (by omega), h256 k (by omega), nI_l (by have := hv k (by omega); omega), or_5 (by omega) (hv k (by omega)), e]
    exact ih j (by omega) (by omega)
theorem addBest_spec {w : Nat → Nat} {P' : Nat → Int32} (hn : 200000 ≤ n) (hL : L ≤ 6) (ht : t < 5000) (hv : ∀ d, d < 8 → w d < 32) (h256 : ∀ d, d < 8 → X.1 256 d = nI (w d)) (hw : v t = w) (hD : DX L ag A v P t X) (h259 : ∀ l, l < L → ag l ≠ 0 → X.2.1 259 (cn ag l) = A t l) (hP : ∀ j, j < t → (P' j ≠ 0 ↔ P j ≠ 0)) (hPt : P' t ≠ 0) : ∃ X', fX4_addBest n X = some (X', ()) ∧ kH X X' ∧ DX L ag A v P' (t + 1) X' := by
  have hc := cn_le (ag := P) t
  have hcL := cn_le (ag := ag) L
  have hp := pk5_lt hv
  have e0 := pack_loop (n := n) (X := X) hv h256 8 n (Nat.le_refl _) (by omega)
  rw [show 5 * 8 = 40 from rfl, Nat.div_eq_of_lt hp] at e0
  have e0 : fX4_addBest_l16 n n X 0 7 = _ := e0
  have ecn : ∀ j, j ≤ t → cn P' j = cn P j := fun j hj => cn_congr fun j' h1 => hP j' (by omega)
  unfold fX4_addBest
  rw [hD.1, if_pos (show nI (cn P t) < 5000 from nI_lt (b := 5000) (by omega) (by decide)), e0]
  unfold fX4_addBest_j41
  rw [hD.1, gd_pos (ib_nI (by omega) (by decide)), bn_go, cl_nI (by omega)]
  have e12 : (sL X 257 (cn P t) (lN (pk5 w 8))).1 243 12 = nI (cn ag L) := hD.2.1
  have e17 : (sL X 257 (cn P t) (lN (pk5 w 8))).1 243 17 = nI (cn P t) := hD.1
  rw [e12, e17, mul6, cl_nI (by omega), cl_nI (by omega), gd_pos ⟨by decide, nI_pos (by omega), nI_pos (by omega), by show 0 + cn ag L ≤ 6; omega, by omega⟩, bn_go, bn_go]
  show ∃ X', some (sI (cL (sL X 257 (cn P t) (lN (pk5 w 8))) 259 258 0 (6 * cn P t) (cn ag L)) 243 17 (X.1 243 17 + 1), ()) = some (X', ()) ∧ _
  rw [hD.1, nI_1]
  generalize hY : cL (sL X 257 (cn P t) (lN (pk5 w 8))) 259 258 0 (6 * cn P t) (cn ag L) = Y
  have y1 : Y.1 = X.1 := by rw [← hY]; rfl
  have y2 : Y.2.2 = X.2.2 := by rw [← hY]; rfl
  have y3 : ∀ a, a ≠ 257 → a ≠ 258 → Y.2.1 a = X.2.1 a := fun a q1 q2 => by rw [← hY, cL_ne q2, sL_ne q1]
  have y4 : ∀ i, Y.2.1 257 i = if i = cn P t then lN (pk5 w 8) else X.2.1 257 i := fun i => by rw [← hY, cL_ne (by decide), sL_row]; rfl
  have y5 : ∀ i, Y.2.1 258 i = if 6 * cn P t ≤ i ∧ i < 6 * cn P t + cn ag L then X.2.1 259 (0 + (i - 6 * cn P t)) else X.2.1 258 i := fun i => by rw [← hY, cL_row, sL_ne (by decide), sL_ne (by decide)]; rfl
  refine ⟨_, rfl, ⟨fun a q => by rw [sI_ne q, y1], fun k q => by rw [sI_row, upd_ne q, y1], y3, y2⟩, ⟨?_, ?_, fun j hj hPj => ?_⟩⟩
  · rw [sI_row, upd_eq, cn_s1 hPt, ecn t (Nat.le_refl _)]
  · rw [sI_row, upd_ne (by decide), y1]; exact hD.2.1
  · show Y.2.1 257 _ = _ ∧ ∀ l, l < L → ag l ≠ 0 → Y.2.1 258 _ = _
    rw [ecn j (by omega), y4]
    by_cases e : j = t
    · subst e
      rw [if_pos rfl, hw]
      refine ⟨rfl, fun l h1 h2 => ?_⟩
      have := cn_lt (f := ag) h1 h2
      rw [y5, if_pos (by omega), show 0 + (6 * cn P j + cn ag l - 6 * cn P j) = cn ag l by omega]
      exact h259 l h1 h2
    · have hPj' := (hP j (by omega)).mp hPj
      have hlt := cn_lt (f := P) (show j < t by omega) hPj'
      obtain ⟨g1, g2⟩ := hD.2.2 j (by omega) hPj'
      rw [if_neg (by omega)]
      refine ⟨g1, fun l h1 h2 => ?_⟩
      have := cn_lt (f := ag) h1 h2
      rw [y5, if_neg (by omega)]
      exact g2 l h1 h2
theorem hold_spec {w : Nat → Nat} (hn : 200000 ≤ n) (hL : L ≤ 6) (ht : t < 5000) (hv : ∀ d, d < 8 → w d < 32) (h256 : ∀ d, d < 8 → X.1 256 d = nI (w d)) (hw : v t = w) (hD : DX L ag A v (bst' (leA L ag A) t) t X) (h259 : ∀ l, l < L → ag l ≠ 0 → X.2.1 259 (cn ag l) = A t l) : ∃ X', fX4_holdAgainstBest n X = some (X', ()) ∧ kH X X' ∧ DX L ag A v (bst' (leA L ag A) (t + 1)) (t + 1) X' := by
  have rf : ∀ a, leA L ag A a a := fun a l _ _ => Int.le_refl _
  have tr : ∀ a b c, leA L ag A a b → leA L ag A b c → leA L ag A a c := fun a b c h1 h2 l h3 h4 => Int.le_trans (h1 l h3 h4) (h2 l h3 h4)
  have hc := cn_le (ag := bst' (leA L ag A) t) t
  obtain ⟨r, r1, r2⟩ := rival_loop (n := n) hn hL ht hD h259 t 0 n (by omega) (by omega) (fun j' h1 => by omega)
  have r1 : fX4_findRival n X = some (X, r) := r1
  unfold fX4_holdAgainstBest
  rw [r1, bd_go]
  rcases r2 with ⟨rfl, hno⟩ | ⟨q, q1, q2, q3, rfl⟩
  · have hno' : ∀ j, j < t → NB (leA L ag A) t j → ¬ leA L ag A j t := fun j h1 h2 => hno j h1 (ch_ne.mpr h2)
    rw [if_pos rfl]
    obtain ⟨X1, x1, x2, x3⟩ := remove_loop (n := n) (P := bst' (leA L ag A) t) (P' := bst' (leA L ag A) (t + 1)) (v := v) hn hL ht (fun j hj => by
      unfold bst'
      rw [ch_ne, ch_ne]
      exact par_a2 hno' hj) t 0 n X (by omega) (by omega) hD.1 hD.2.1 h259 (fun j' h1 => by omega) (fun j' _ h1 h2 => hD.2.2 j' h1 h2)
    have x1 : fX4_removeBeaten n X = some (X1, ()) := x1
    obtain ⟨X2, y1, y2, y3⟩ := addBest_spec (n := n) (X := X1) (P := bst' (leA L ag A) (t + 1)) (P' := bst' (leA L ag A) (t + 1)) hn hL ht hv (fun d hd => by rw [x2.1 256 (by decide)]; exact h256 d hd) hw x3 (fun l h1 h2 => by rw [x2.2.2.1 259 (by decide) (by decide)]; exact h259 l h1 h2) (fun j hj => Iff.rfl) (ch_ne.mpr (par_a1 rf tr hno'))
    rw [x1, bd_go, y1, bd_go]
    exact ⟨X2, rfl, kH_tr x2 y2, y3⟩
  · have hlt := cn_lt (f := bst' (leA L ag A) t) q1 q2
    rw [if_neg (nI_m1 (by omega))]
    obtain ⟨-, r, s1, s2⟩ := le_row (n := n) (X := X) (A := A) (t := t) (i := cn (bst' (leA L ag A) t) q) (j := q) hn hL hD.2.1 (by omega) (hD.2.2 q q1 q2).2 h259
    rw [s1, bd_go]
    have hP : ∀ j, j < t → (bst' (leA L ag A) (t + 1) j ≠ 0 ↔ bst' (leA L ag A) t j ≠ 0) := fun j hj => by
      unfold bst'
      rw [ch_ne, ch_ne]
      exact ⟨fun h => (NB_s.mp h).1, fun h => par_c tr q1 q3 h⟩
    by_cases c : r = 0
    · rw [if_pos c]
      have hnt : bst' (leA L ag A) (t + 1) t = 0 := ch_f (par_c2 q1 q3 (fun z => (s2.mpr z) c))
      have ecn : ∀ j, j ≤ t → cn (bst' (leA L ag A) (t + 1)) j = cn (bst' (leA L ag A) t) j := fun j hj => cn_congr fun j' h1 => hP j' (by omega)
      refine ⟨X, rfl, kH_rf, ?_, hD.2.1, fun j hj hPj => ?_⟩
      · rw [cn_s0 hnt, ecn t (Nat.le_refl _)]; exact hD.1
      · by_cases e : j = t
        · rw [e] at hPj; exact absurd hnt hPj
        · rw [ecn j (by omega)]
          exact hD.2.2 j (by omega) ((hP j (by omega)).mp hPj)
    · rw [if_neg c]
      obtain ⟨X2, y1, y2, y3⟩ := addBest_spec (n := n) (X := X) (P := bst' (leA L ag A) t) (P' := bst' (leA L ag A) (t + 1)) hn hL ht hv h256 hw hD h259 hP (ch_ne.mpr (par_b tr (ch_ne.mp q2) q3 (s2.mp c)))
      rw [y1, bd_go]
      exact ⟨X2, rfl, y2, y3⟩
end
