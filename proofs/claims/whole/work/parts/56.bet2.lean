theorem ix4' {l e : Nat} : (4 : Int32) * nI l + nI e = nI (4 * l + e) := by
  rw [show (4 : Int32) = nI 4 from rfl, pk_mul, nI_add]
/-- the reference while weights are tried -/
def Bt (B : Bd) (d : Nat → Nat → Int64) (w : Nat → Nat) (M0 M : St) : Prop := (∀ a, a ≠ 29 → a ≠ 30 → M.1 a = M0.1 a) ∧ (∀ l, l < b_nl B → ∀ e, e < b_ne B → M.2.1 28 (4 * l + e) = d l e) ∧ (∀ l, l < 6 → M.1 30 l = nI (w l))
theorem Bt_M {B : Bd} {d : Nat → Nat → Int64} {w : Nat → Nat} {M0 M : St} (h0 : RMb B M0.1) (h : Bt B d w M0 M) : RMb B M.1 := RMb_frame h0 (fun a q => h.1 a (by unfold coreM at q; omega) (by unfold coreM at q; omega)) (fun k _ => by rw [h.1 0 (by decide) (by decide)])
theorem sumN_at {f : Nat → Nat} {a L : Nat} : ∀ {b : Nat}, a ≤ L → L < b → (∀ l, a ≤ l → l ≠ L → f l = 0) → sumN f b = sumN f a + f L := by
  have h0 : ∀ b, a ≤ b → b ≤ L → (∀ l, a ≤ l → l ≠ L → f l = 0) → sumN f b = sumN f a := by
    intro b
    induction b with
    | zero => intro h _ _; rw [show a = 0 by omega]
    | succ b ih =>
      intro h1 h2 h3
      by_cases c : a = b + 1
      · rw [c]
      · rw [sumN, ih (by omega) (by omega) h3, h3 b (by omega) (by omega), Nat.add_zero]
  intro b
  induction b with
  | zero => intro _ h; omega
  | succ b ih =>
    intro h1 h2 h3
    rw [sumN]
    by_cases c : L = b
    · subst c
      rw [h0 L h1 (Nat.le_refl _) h3]
    · rw [ih h1 (by omega) h3, h3 b (by omega) (by omega), Nat.add_zero]
def nxt (w : Nat → Nat) (t L l : Nat) : Nat := if l < t then w l else if l = t then w t + 1 else if l = L then w (t + 1) - 1 else 0
theorem nxt_sum {w : Nat → Nat} {t L : Nat} (h1 : t < L) (h2 : L < 6) (h3 : 0 < w (t + 1)) (h4 : ∀ l, t + 1 < l → w l = 0) : sumN (nxt w t L) 6 = sumN w 6 := by
  rw [sumN_cut (p := w) (a := t + 2) (by omega) (fun d hd => h4 d (by omega)), show sumN w (t + 2) = sumN w t + w t + w (t + 1) from rfl]
  rw [sumN_at (f := nxt w t L) (a := t + 1) (L := L) (by omega) h2 (fun l q1 q2 => by unfold nxt; rw [if_neg (by omega), if_neg (by omega), if_neg q2]), sumN]
  rw [sumN_congr (p := nxt w t L) (q := w) (k := t) (fun l hl => by unfold nxt; rw [if_pos hl])]
  unfold nxt
  rw [if_neg (by omega), if_pos rfl, if_neg (by omega), if_neg (by omega), if_pos rfl]
  omega
def hc (w : Nat → Nat) : Nat → Nat
  | 0 => 0
  | j + 1 => 11 * hc w j + w j
theorem hc_congr {w v : Nat → Nat} : ∀ {k : Nat}, (∀ d, d < k → w d = v d) → hc w k = hc v k
  | 0, _ => rfl
  | k + 1, h => by rw [hc, hc, hc_congr (fun d hd => h d (by omega)), h k (by omega)]
theorem hc_lt {w : Nat → Nat} (h : ∀ l, w l ≤ 10) : ∀ k, hc w k + 1 ≤ 11 ^ k
  | 0 => by rw [hc]; simp
  | k + 1 => by
    have := hc_lt h k
    have := h k
    rw [hc, Nat.pow_succ]
    omega
theorem hc_nxt {w : Nat → Nat} {t L : Nat} (h : ∀ l, w l ≤ 10) : ∀ k, t < k → k ≤ L → hc w k < hc (nxt w t L) k
  | 0, h1, _ => by omega
  | k + 1, h1, h2 => by
    rw [hc, hc]
    by_cases c : t = k
    · subst c
      rw [hc_congr (w := nxt w t L) (v := w) (fun d hd => by unfold nxt; rw [if_pos hd])]
      unfold nxt
      rw [if_neg (by omega), if_pos rfl]
      omega
    · have := hc_nxt (t := t) (L := L) h k (by omega) (by omega)
      have := h k
      omega
section
variable {n : Nat} {B : Bd} {d : Nat → Nat → Int64} {M0 M : St} {w : Nat → Nat}
theorem mix_in {k5 : St → Int32 → Int64 → Int32 → Option (St × Int64)} {odd : Int32} {x2 : Int64} {e : Nat} (hM0 : RMb B M0.1) (hB : Bok B) (h : Bt B d w M0 M) (he : e < b_ne B) : ∀ (m l j : Nat), l + m = b_nl B → m < j → fX11_apartMixed_l30 n k5 j M odd x2 (nI e) (sSum (fun l => (nI (w l)).toInt64 * d l e) l) (nI l) = k5 M odd (mxL x2 (abL (mxd d w (b_nl B) e))) (nI (e + 1)) := by
  have hM := Bt_M hM0 h
  have hl6 : b_nl B ≤ 6 := hB.2.2.2.2.2.2.2.1
  have he4 : b_ne B ≤ 4 := hB.2.2.2.2.2.2.2.2.1
  intro m
  induction m with
  | zero =>
    intro l j hl hj
    obtain ⟨j, rfl⟩ := suc_of hj
    rw [fX11_apartMixed_l30, lamps_spec hM, bd_go, if_pos (nI_le (by omega) (by omega)), show l = b_nl B by omega]
    unfold fX11_apartMixed_j71 fX11_apartMixed_j86 fX11_apartMixed_j101 fX11_apartMixed_j102
    simp only [bn_go, nI_1]
    rw [mxL_eq, abL_eq]
    show (if 0 ≤ lg_cmp (mxd d w (b_nl B) e) 0 then _ else _) = _
    by_cases z : 0 ≤ lg_cmp (mxd d w (b_nl B) e) 0
    · rw [if_pos z, if_pos z]
      show (if lg_cmp (mxd d w (b_nl B) e) x2 ≤ 0 then _ else _) = _
      split <;> rfl
    · rw [if_neg z, if_neg z]
      show (if lg_cmp (-mxd d w (b_nl B) e) x2 ≤ 0 then _ else _) = _
      split <;> rfl
  | succ m ih =>
    intro l j hl hj
    obtain ⟨j, rfl⟩ := suc_of hj
    have e6 : ib (nI l) 6 := ib_nI (by omega) (by decide)
    have e24 : ib (nI (4 * l + e)) 24 := ib_nI (by omega) (by decide)
    rw [fX11_apartMixed_l30, lamps_spec hM, bd_go, if_neg (nI_ge (by omega) (by omega))]
    simp only [ix4', gd_pos e6, gd_pos e24, bn_go, nI_1, cl_nI (show l < 2 ^ 31 by omega), cl_nI (show 4 * l + e < 2 ^ 31 by omega)]
    rw [h.2.2 l (by omega), h.2.1 l (by omega) e he]
    exact ih (l + 1) j (by omega) (by omega)
theorem mix_loop {odd : Int32} (hn : 200000 ≤ n) (hM0 : RMb B M0.1) (hB : Bok B) (h : Bt B d w M0 M) : ∀ (m e j : Nat), e + m = 4 → m < j → fX11_apartMixed_l5 n j M odd (amS d w (b_nl B) (unE odd) (min e (b_ne B))) (nI e) = some (M, amS d w (b_nl B) (unE odd) (b_ne B)) := by
  have hM := Bt_M hM0 h
  have hl6 : b_nl B ≤ 6 := hB.2.2.2.2.2.2.2.1
  have he4 : b_ne B ≤ 4 := hB.2.2.2.2.2.2.2.2.1
  intro m
  induction m with
  | zero =>
    intro e j he hj
    obtain ⟨j, rfl⟩ := suc_of hj
    rw [fX11_apartMixed_l5, if_pos (show (4 : Int32) ≤ nI e from nI_le (a := 4) (by omega) (by omega)), show min e (b_ne B) = b_ne B by omega]
  | succ m ih =>
    intro e j he hj
    obtain ⟨j, rfl⟩ := suc_of hj
    have e1 := ih (e + 1) j (by omega) (by omega)
    rw [fX11_apartMixed_l5, if_neg (show ¬ (4 : Int32) ≤ nI e from nI_ge (b := 4) (by omega) (by decide)), doesSee_spec hM hB (by omega), bd_go]
    by_cases c : b_ne B ≤ e
    · unfold fX11_apartMixed_j102
      rw [if_pos c, if_pos rfl, bn_go, nI_1]
      rw [show min (e + 1) (b_ne B) = b_ne B by omega] at e1
      rw [show min e (b_ne B) = b_ne B by omega]
      exact e1
    · rw [show min (e + 1) (b_ne B) = e + 1 by omega, amS] at e1
      rw [if_neg c, show min e (b_ne B) = e by omega]
      by_cases q : e = unE odd
      · unfold fX11_apartMixed_j102
        rw [if_pos q] at e1
        rw [if_pos q, if_pos rfl, bn_go, nI_1]
        exact e1
      · rw [if_neg q] at e1
        rw [if_neg q, if_neg one_ne, ← e1]
        exact mix_in hM0 hB h (by omega) (b_nl B) 0 n (by omega) (by omega)
theorem mixed_spec {odd : Int32} (hn : 200000 ≤ n) (hM0 : RMb B M0.1) (hB : Bok B) (h : Bt B d w M0 M) : fX11_apartMixed n M odd = some (M, amS d w (b_nl B) (unE odd) (b_ne B)) := by
  have := mix_loop (odd := odd) hn hM0 hB h 4 0 n (by omega) (by omega)
  rw [show min 0 (b_ne B) = 0 by omega] at this
  exact this
theorem ib6 {k : Nat} (h : k < 6) : ib (nI k) 6 := ib_nI h (by decide)
theorem nw_loop {L : Nat} (hL : L < 6) (hw : ∀ l, w l ≤ 10) : ∀ (i j : Nat) (M : St), i ≤ L → i < j → (∀ l, i < l → w l = 0) → (∀ l, l < 6 → M.1 30 l = nI (if l < i then w l else if l = L then w i else 0)) →
    (∃ M', fX11_nextWeights_l18 n j M (nI L) (nI (w i)) (nI i - 1) = some (M', 0) ∧ (∀ a, a ≠ 30 → M'.1 a = M.1 a) ∧ M'.2 = M.2 ∧ ∀ l, 0 < l → w l = 0) ∨
    (∃ t M', t < i ∧ 0 < w (t + 1) ∧ (∀ l, t + 1 < l → w l = 0) ∧ fX11_nextWeights_l18 n j M (nI L) (nI (w i)) (nI i - 1) = some (M', 1) ∧ (∀ a, a ≠ 30 → M'.1 a = M.1 a) ∧ M'.2 = M.2 ∧ ∀ l, l < 6 → M'.1 30 l = nI (nxt w t L l)) := by
  intro i
  induction i with
  | zero =>
    intro j M hi hj hz hr
    obtain ⟨j, rfl⟩ := suc_of hj
    refine Or.inl ⟨M, ?_, fun _ _ => rfl, rfl, hz⟩
    rw [fX11_nextWeights_l18, if_pos (show nI 0 - 1 < 0 by decide)]
  | succ t ih =>
    intro j M hi hj hz hr
    obtain ⟨j, rfl⟩ := suc_of hj
    rw [fX11_nextWeights_l18, nI_pred, if_neg (nI_pos (show t < 2 ^ 31 by omega))]
    have h10 := hw (t + 1)
    have ht : M.1 30 t = nI (w t) := by rw [hr t (by omega), if_pos (by omega)]
    by_cases c : w (t + 1) = 0
    · rw [if_pos (show nI (w (t + 1)) ≤ 0 by rw [c]; decide)]
      simp only [gd_pos (ib6 (show t < 6 by omega)), gd_pos (ib6 hL), bn_go, cl_nI (show t < 2 ^ 31 by omega), cl_nI (show L < 2 ^ 31 by omega), ht]
      rw [show nI t + -1 = nI t - 1 by grind]
      have := ih j (sI (sI M 30 t 0) 30 L (nI (w t))) (by omega) (by omega) (fun l hl => by
        by_cases z : l = t + 1
        · rw [z]; exact c
        · exact hz l (by omega)) (fun l hl => by
        rw [sI_row, sI_row]
        unfold upd
        by_cases z : l = L
        · subst z; rw [if_pos rfl, if_neg (by omega), if_pos rfl]
        · rw [if_neg z]
          by_cases z2 : l = t
          · subst z2; rw [if_pos rfl, if_neg (by omega), if_neg z]; rfl
          · rw [if_neg z2, hr l hl]
            by_cases z3 : l < t
            · rw [if_pos (by omega), if_pos z3]
            · rw [if_neg (by omega), if_neg z, if_neg z3, if_neg z])
      rcases this with ⟨M', a1, a2, a3, a4⟩ | ⟨s, M', a1, a2, a3, a4, a5, a6, a7⟩
      · exact Or.inl ⟨M', a1, fun a ha => by rw [a2 a ha, sI_ne ha, sI_ne ha], a3, a4⟩
      · exact Or.inr ⟨s, M', by omega, a2, a3, a4, fun a ha => by rw [a5 a ha, sI_ne ha, sI_ne ha], a6, a7⟩
    · have c' : ¬ nI (w (t + 1)) ≤ 0 := by
        show ¬ nI (w (t + 1)) ≤ nI 0
        rw [nI_leI (by omega) (by decide)]
        omega
      rw [if_neg c']
      unfold fX11_nextWeights_j26
      simp only [gd_pos (ib6 (show t < 6 by omega)), gd_pos (ib6 hL), bn_go, cl_nI (show t < 2 ^ 31 by omega), cl_nI (show L < 2 ^ 31 by omega), ht]
      refine Or.inr ⟨t, _, by omega, by omega, hz, rfl, fun a ha => by rw [sI_ne ha, sI_ne ha], rfl, fun l hl => ?_⟩
      obtain ⟨v, hv⟩ : ∃ v, w (t + 1) = v + 1 := ⟨w (t + 1) - 1, by omega⟩
      rw [sI_row, sI_row]
      unfold upd nxt
      by_cases z : l = L
      · subst z; rw [if_pos rfl, if_neg (by omega), if_neg (by omega), if_pos rfl, hv, nI_pred]; rfl
      · rw [if_neg z]
        by_cases z2 : l = t
        · subst z2; rw [if_pos rfl, if_neg (by omega), if_pos rfl, nI_1]
        · rw [if_neg z2, hr l hl]
          by_cases z3 : l < t
          · rw [if_pos (by omega), if_pos z3]
          · rw [if_neg (by omega), if_neg z, if_neg z3, if_neg z2, if_neg z]
theorem next_spec {L : Nat} (hn : 200000 ≤ n) (hM0 : RMb B M0.1) (hB : Bok B) (hL : b_nl B = L + 1) (h : Bt B d w M0 M) (hw : ∀ l, w l ≤ 10) (hz : ∀ l, L < l → w l = 0) :
    (∃ M', fX11_nextWeights n M = some (M', 0) ∧ (∀ a, a ≠ 30 → M'.1 a = M.1 a) ∧ M'.2 = M.2 ∧ ∀ l, 0 < l → w l = 0) ∨
    (∃ t M', t < L ∧ 0 < w (t + 1) ∧ (∀ l, t + 1 < l → w l = 0) ∧ fX11_nextWeights n M = some (M', 1) ∧ (∀ a, a ≠ 30 → M'.1 a = M.1 a) ∧ M'.2 = M.2 ∧ Bt B d (nxt w t L) M0 M') := by
  have hM := Bt_M hM0 h
  have hl6 : b_nl B ≤ 6 := hB.2.2.2.2.2.2.2.1
  unfold fX11_nextWeights
  rw [lamps_spec hM, bd_go, bn_go, hL, nI_pred]
  simp only [gd_pos (ib6 (show L < 6 by omega)), bn_go, cl_nI (show L < 2 ^ 31 by omega), h.2.2 L (show L < 6 by omega)]
  rcases nw_loop (n := n) (w := w) (L := L) (by omega) hw L n M (Nat.le_refl _) (by omega) hz (fun l hl => by
    rw [h.2.2 l hl]
    by_cases c : l < L
    · rw [if_pos c]
    · rw [if_neg c]
      by_cases c2 : l = L
      · rw [if_pos c2, c2]
      · rw [if_neg c2, hz l (by omega)]) with ⟨M', a1, a2, a3, a4⟩ | ⟨t, M', a1, a2, a3, a4, a5, a6, a7⟩
  · exact Or.inl ⟨M', a1, a2, a3, a4⟩
  · exact Or.inr ⟨t, M', a1, a2, a3, a4, a5, a6, fun a q1 q2 => by rw [a5 a q2]; exact h.1 a q1 q2, by rw [a6]; exact h.2.1, a7⟩
end
