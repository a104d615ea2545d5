theorem sL_ne {S : St} {a b k : Nat} {v : Int64} (h : b ≠ a) : (sL S a k v).2.1 b = S.2.1 b := up_other _ _ h
theorem sL_row {S : St} {a k : Nat} {v : Int64} : (sL S a k v).2.1 a = vp_updL (S.2.1 a) k v := up_same _ _ _
/-- what the trying of weights leaves alone -/
def kB (M0 M : St) : Prop := (∀ a, a ≠ 0 → a ≠ 29 → a ≠ 30 → M.1 a = M0.1 a) ∧ (∀ k, k ≠ 63 → M.1 0 k = M0.1 0 k) ∧ M.1 0 63 = 1
section
variable {n : Nat} {B : Bd} {d : Nat → Nat → Int64} {M0 : St} {odd : Int32}
theorem copy_loop {k : St → Int32 → Int64 → Int32 → Option (St × Int64)} {x4 : Int64} : ∀ (m l j : Nat) (M : St), l + m = 6 → m < j → fX11_betray_l162 n k j M odd x4 (nI l) = fX11_betray_j189 n k (rI M 29 (fun i => if l ≤ i ∧ i < 6 then M.1 30 i else M.1 29 i)) odd x4 := by
  intro m
  induction m with
  | zero =>
    intro l j M h hj
    obtain ⟨j, rfl⟩ := suc_of hj
    rw [fX11_betray_l162, if_pos (show (6 : Int32) ≤ nI l from nI_le (a := 6) (by omega) (by omega)), rI_id (fun i => if_neg (by omega))]
  | succ m ih =>
    intro l j M h hj
    obtain ⟨j, rfl⟩ := suc_of hj
    rw [fX11_betray_l162, if_neg (show ¬ (6 : Int32) ≤ nI l from nI_ge (b := 6) (by omega) (by decide))]
    simp only [gd_pos (ib6 (show l < 6 by omega)), bn_go, nI_1, cl_nI (show l < 2 ^ 31 by omega)]
    rw [ih (l + 1) j _ (by omega) (by omega), rI_sI]
    refine congrArg (fun z => fX11_betray_j189 n k z odd x4) (rI_ext fun i => ?_)
    rw [sI_row, sI_ne (show (30 : Nat) ≠ 29 by decide)]
    unfold upd
    by_cases q : i = l
    · subst q; rw [if_neg (by omega), if_pos rfl, if_pos (by omega)]
    · rw [if_neg q]
      by_cases q2 : l + 1 ≤ i ∧ i < 6
      · rw [if_pos q2, if_pos (by omega)]
      · rw [if_neg q2, if_neg (by omega)]
theorem copy0 {k : St → Int32 → Int64 → Int32 → Option (St × Int64)} {x4 : Int64} {M : St} (hn : 200000 ≤ n) : fX11_betray_l162 n k n M odd x4 0 = fX11_betray_j189 n k (rI M 29 (fun i => if 0 ≤ i ∧ i < 6 then M.1 30 i else M.1 29 i)) odd x4 := copy_loop 6 0 n M (by omega) (by omega)
theorem Bt_copy {w : Nat → Nat} {M : St} {f : Nat → Int32} (h : Bt B d w M0 M) : Bt B d w M0 (rI M 29 f) := ⟨fun a q1 q2 => by rw [rI_ne q1]; exact h.1 a q1 q2, h.2.1, fun l hl => by rw [rI_ne (by decide)]; exact h.2.2 l hl⟩
theorem le10 {w : Nat → Nat} {L : Nat} (hL : L < 6) (hs : sumN w 6 = 10) (hz : ∀ l, L < l → w l = 0) : ∀ l, w l ≤ 10 := fun l => by
  by_cases c : l < 6
  · have : w l ≤ sumN w 6 := sumN_ge c
    omega
  · rw [hz l (by omega)]; omega
theorem hc_b {w : Nat → Nat} {L : Nat} (hL : L < 6) (hw : ∀ l, w l ≤ 10) : hc w L < 161051 := by
  have h1 := hc_lt hw L
  have h2 : 11 ^ L ≤ 11 ^ 5 := Nat.pow_le_pow_right (by decide) (by omega)
  have h3 : 11 ^ 5 = 161051 := by decide
  omega
theorem nxt_z {w : Nat → Nat} {t L l : Nat} (h1 : t < L) (h : L < l) : nxt w t L l = 0 := by
  unfold nxt
  rw [if_neg (by omega), if_neg (by omega), if_neg (by omega)]
/-- nothing gets farther any more -/
theorem ph2 {L : Nat} {F : Int} (hn : 200000 ≤ n) (hM0 : RMb B M0.1) (hB : Bok B) (hL : b_nl B = L + 1) (hd : ∀ l, l < b_nl B → ∀ e, e < b_ne B → (d l e).toInt.natAbs ≤ 1411344000) (hF : 0 ≤ F) (hf : ∀ l, l < b_nl B → (d1S d l (unE odd) (b_ne B)).toInt ≤ F) : ∀ (j : Nat) (M : St) (w : Nat → Nat) (x4 : Int64), 161051 - hc w L < j → Bt B d w M0 M → sumN w 6 = 10 → (∀ l, L < l → w l = 0) → x4.toInt = 10 * F → ∃ M', fX11_betray_l135 n j M odd x4 1 = some (M', x4) ∧ kB M0 M' ∧ M'.1 29 = M.1 29 := by
  have hl6 : b_nl B ≤ 6 := hB.2.2.2.2.2.2.2.1
  intro j
  induction j with
  | zero => intro M w x4 h; omega
  | succ j ih =>
    intro M w x4 hj hBt hs hz hx
    have hw := le10 (by omega) hs hz
    have hb := hc_b (show L < 6 by omega) hw
    have h1 := amS_le (u := unE odd) hd (fun l _ => hw l) hl6 (b_ne B) (Nat.le_refl _)
    have h2 := wS_le (w := w) hF hf
    have h3 : sumN w (b_nl B) = 10 := by rw [← sumN_cut (a := b_nl B) (b := 6) hl6 (fun l hl => hz l (by omega))]; exact hs
    rw [h3] at h2
    rw [fX11_betray_l135, if_neg one_ne, mixed_spec hn hM0 hB hBt, bd_go, if_pos (lg_np.mpr (by rw [Int64.le_iff_toInt_le]; omega))]
    unfold fX11_betray_j189
    rcases next_spec hn hM0 hB hL hBt hw hz with ⟨M', a1, a2, a3, a4⟩ | ⟨t, M', a1, a2, a3, a4, a5, a6, a7⟩
    · rw [a1, bd_go]
      obtain ⟨j, rfl⟩ : ∃ i, j = i + 1 := ⟨j - 1, by omega⟩
      rw [fX11_betray_l135, if_pos rfl]
      unfold fX11_betray_j198
      rw [bn_go]
      refine ⟨_, rfl, ⟨fun a q1 q2 q3 => by rw [sI_ne q1, a2 a q3]; exact hBt.1 a q2 q3, fun k hk => ?_, by rw [sI_row, upd_eq]⟩, by rw [sI_ne (by decide), a2 29 (by decide)]⟩
      rw [sI_row, upd_ne hk, a2 0 (by decide), hBt.1 0 (by decide) (by decide)]
    · rw [a4, bd_go]
      have e1 := hc_nxt (t := t) (L := L) hw L a1 (Nat.le_refl _)
      obtain ⟨M2, b1, b2, b3⟩ := ih M' (nxt w t L) x4 (by omega) a7 (by rw [nxt_sum a1 (by omega) a2 a3]; exact hs) (fun l hl => nxt_z a1 hl) hx
      exact ⟨M2, b1, b2, by rw [b3, a5 29 (by decide)]⟩
theorem ph1 {L q : Nat} {F : Int} (hn : 200000 ≤ n) (hM0 : RMb B M0.1) (hB : Bok B) (hL : b_nl B = L + 1) (hd : ∀ l, l < b_nl B → ∀ e, e < b_ne B → (d l e).toInt.natAbs ≤ 1411344000) (hF : 0 ≤ F) (hf : ∀ l, l < b_nl B → (d1S d l (unE odd) (b_ne B)).toInt ≤ F) (hq : q ≤ L) (hqF : (d1S d q (unE odd) (b_ne B)).toInt = F) (hqz : ∀ l, q < l → l < b_nl B → (d1S d l (unE odd) (b_ne B)).toInt < F) : ∀ (j : Nat) (M : St) (w : Nat → Nat) (x4 : Int64), 161051 - hc w L < j → Bt B d w M0 M → sumN w 6 = 10 → (∀ l, L < l → w l = 0) → (∀ l, l < q → w l = 0) → x4.toInt < 10 * F → ∃ M' x', fX11_betray_l135 n j M odd x4 1 = some (M', x') ∧ x'.toInt = 10 * F ∧ kB M0 M' ∧ ∀ l, l < 6 → M'.1 29 l = if l = q then 10 else 0 := by
  have hl6 : b_nl B ≤ 6 := hB.2.2.2.2.2.2.2.1
  intro j
  induction j with
  | zero => intro M w x4 h; omega
  | succ j ih =>
    intro M w x4 hj hBt hs hz hA hx
    have hw := le10 (by omega) hs hz
    have hb := hc_b (show L < 6 by omega) hw
    have h3 : sumN w (b_nl B) = 10 := by rw [← sumN_cut (a := b_nl B) (b := 6) hl6 (fun l hl => hz l (by omega))]; exact hs
    rw [fX11_betray_l135, if_neg one_ne, mixed_spec hn hM0 hB hBt, bd_go]
    by_cases c : w q = 10
    · have h0 : ∀ l, l ≠ q → w l = 0 := fun l hl => by
        by_cases c6 : l < 6
        · have e1 := sumN_upd (p := w) (d := q) (v := 0) (show q < 6 by omega)
          have e2 : (fun i => if i = q then 0 else w i) l ≤ sumN (fun i => if i = q then 0 else w i) 6 := sumN_ge (p := fun i => if i = q then 0 else w i) c6
          have e3 : (fun i => if i = q then 0 else w i) l = w l := if_neg hl
          omega
        · exact hz l (by omega)
      have h1 := amS_one (u := unE odd) (show q < b_nl B by omega) hd c (fun l _ hl => h0 l hl) hl6 (b_ne B) (Nat.le_refl _)
      rw [hqF] at h1
      rw [if_neg (fun z => by have := lg_np.mp z; rw [Int64.le_iff_toInt_le] at this; omega), copy0 hn]
      have hBt2 := Bt_copy (f := fun i => if 0 ≤ i ∧ i < 6 then M.1 30 i else M.1 29 i) hBt
      have hW : ∀ l, l < 6 → (if 0 ≤ l ∧ l < 6 then M.1 30 l else M.1 29 l) = if l = q then (10 : Int32) else 0 := fun l hl => by
        rw [if_pos (by omega), hBt.2.2 l hl]
        by_cases z : l = q
        · rw [if_pos z, z, c]; rfl
        · rw [if_neg z, h0 l z]; rfl
      generalize hT : rI M 29 (fun i => if 0 ≤ i ∧ i < 6 then M.1 30 i else M.1 29 i) = T at hBt2 ⊢
      have hT29 : T.1 29 = (fun i => if 0 ≤ i ∧ i < 6 then M.1 30 i else M.1 29 i) := by rw [← hT, rI_row]
      unfold fX11_betray_j189
      rcases next_spec hn hM0 hB hL hBt2 hw hz with ⟨M', a1, a2, a3, a4⟩ | ⟨t, M', a1, a2, a3, a4, a5, a6, a7⟩
      · rw [a1, bd_go]
        obtain ⟨j, rfl⟩ : ∃ i, j = i + 1 := ⟨j - 1, by omega⟩
        rw [fX11_betray_l135, if_pos rfl]
        unfold fX11_betray_j198
        rw [bn_go]
        refine ⟨_, _, rfl, h1, ⟨fun a q1 q2 q3 => by rw [sI_ne q1, a2 a q3]; exact hBt2.1 a q2 q3, fun k hk => ?_, by rw [sI_row, upd_eq]⟩, fun l hl => by rw [sI_ne (by decide), a2 29 (by decide), hT29]; exact hW l hl⟩
        rw [sI_row, upd_ne hk, a2 0 (by decide), hBt2.1 0 (by decide) (by decide)]
      · rw [a4, bd_go]
        have e1 := hc_nxt (t := t) (L := L) hw L a1 (Nat.le_refl _)
        obtain ⟨M2, b1, b2, b3⟩ := ph2 hn hM0 hB hL hd hF hf j M' (nxt w t L) _ (by omega) a7 (by rw [nxt_sum a1 (by omega) a2 a3]; exact hs) (fun l hl => nxt_z a1 hl) h1
        exact ⟨M2, _, b1, h1, b2, fun l hl => by rw [b3, a5 29 (by decide), hT29]; exact hW l hl⟩
    · obtain ⟨i, i1, i2, i3⟩ : ∃ i, q < i ∧ i < b_nl B ∧ 0 < w i := by
        refine Classical.byContradiction fun hne => ?_
        have hall : ∀ l, 0 ≤ l → l ≠ q → w l = 0 := fun l _ hl => by
          by_cases z : l < q
          · exact hA l z
          · by_cases z2 : l < b_nl B
            · exact Nat.eq_zero_of_not_pos (fun z3 => hne ⟨l, by omega, z2, z3⟩)
            · exact hz l (by omega)
        have := sumN_at (f := w) (a := 0) (L := q) (b := 6) (by omega) (by omega) hall
        rw [hs, sumN] at this
        omega
      have h1 := amS_le (u := unE odd) hd (fun l _ => hw l) hl6 (b_ne B) (Nat.le_refl _)
      have h2 := wS_lt (w := w) hF i2 hf (hqz i i1 i2) i3
      rw [h3] at h2
      -- the next weights: nothing ahead of q is touched
      have step : ∀ (T : St) (y : Int64), Bt B d w M0 T → y.toInt < 10 * F → ∃ M' x', fX11_betray_j189 n (fX11_betray_l135 n j) T odd y = some (M', x') ∧ x'.toInt = 10 * F ∧ kB M0 M' ∧ ∀ l, l < 6 → M'.1 29 l = if l = q then 10 else 0 := by
        intro T y hT hy
        unfold fX11_betray_j189
        rcases next_spec hn hM0 hB hL hT hw hz with ⟨M', a1, a2, a3, a4⟩ | ⟨t, M', a1, a2, a3, a4, a5, a6, a7⟩
        · exact absurd (a4 i (by omega)) (by omega)
        · rw [a4, bd_go]
          have e1 := hc_nxt (t := t) (L := L) hw L a1 (Nat.le_refl _)
          have tq : q ≤ t := Classical.byContradiction fun z => by
            have := a3 i (by omega)
            omega
          refine ih M' (nxt w t L) y (by omega) a7 (by rw [nxt_sum a1 (by omega) a2 a3]; exact hs) (fun l hl => nxt_z a1 hl) (fun l hl => ?_) hy
          unfold nxt
          rw [if_pos (by omega)]
          exact hA l hl
      by_cases c2 : lg_cmp (amS d w (b_nl B) (unE odd) (b_ne B)) x4 ≤ 0
      · rw [if_pos c2]
        exact step M x4 hBt hx
      · rw [if_neg c2, copy0 hn]
        exact step _ _ (Bt_copy hBt) (by omega)
/-- the differences are laid down -/
theorem dif_in {k23 : St → Int32 → Int32 → Option (St × Int64)} {ra rb : Nat → Int32} {l : Nat} (hn : 200000 ≤ n) (hM0 : RMb B M0.1) (hB : Bok B) (t1 : ∀ j, j < b_nb B → M0.2.1 23 j = (ra j).toInt64) (t2 : ∀ j, j < b_nb B → M0.2.1 23 (16 + j) = (rb j).toInt64) (o1 : okR B ra) (o2 : okR B rb) (hl : l < b_nl B) : ∀ (m e j : Nat) (M : St), e + m = b_ne B → m < j → M.1 = M0.1 → M.2.1 23 = M0.2.1 23 → (∀ l' e', l' < b_nl B → e' < b_ne B → (l' < l ∨ l' = l ∧ e' < e) → M.2.1 28 (4 * l' + e') = dfV B ra rb l' e') → ∃ M', fX11_betray_l35 n k23 j M odd (nI l) (nI e) = k23 M' odd (nI (l + 1)) ∧ M'.1 = M0.1 ∧ M'.2.1 23 = M0.2.1 23 ∧ (∀ l' e', l' < b_nl B → e' < b_ne B → l' < l + 1 → M'.2.1 28 (4 * l' + e') = dfV B ra rb l' e') := by
  have hl6 : b_nl B ≤ 6 := hB.2.2.2.2.2.2.2.1
  have he4 : b_ne B ≤ 4 := hB.2.2.2.2.2.2.2.2.1
  intro m
  induction m with
  | zero =>
    intro e j M he hj h1 h2 h3
    obtain ⟨j, rfl⟩ := suc_of hj
    have hM : RMb B M.1 := by rw [h1]; exact hM0
    rw [fX11_betray_l35, eyes_spec hM, bd_go, if_pos (nI_le (by omega) (by omega))]
    unfold fX11_betray_j81
    rw [bn_go, nI_1]
    exact ⟨M, rfl, h1, h2, fun l' e' q1 q2 q3 => h3 l' e' q1 q2 (by omega)⟩
  | succ m ih =>
    intro e j M he hj h1 h2 h3
    obtain ⟨j, rfl⟩ := suc_of hj
    have hM : RMb B M.1 := by rw [h1]; exact hM0
    have e24 : ib (nI (4 * l + e)) 24 := ib_nI (by omega) (by decide)
    have s1 : fX11_seenBy n M 0 (nI l) (nI e) = some (M, seV B ra l e) := seenBy_spec (w := 0) hn hM hB (by omega) hl (by omega) (fun j hj => by rw [show 16 * 0 + j = j by omega, h2]; exact t1 j hj)
    have s2 : fX11_seenBy n M 1 (nI l) (nI e) = some (M, seV B rb l e) := seenBy_spec (w := 1) hn hM hB (by omega) hl (by omega) (fun j hj => by rw [h2]; exact t2 j hj)
    rw [fX11_betray_l35, eyes_spec hM, bd_go, if_neg (nI_ge (by omega) (by omega)), s1, bd_go, s2, bd_go, ← dfV_seV o1 o2]
    simp only [ix4', gd_pos e24, bn_go, nI_1, cl_nI (show 4 * l + e < 2 ^ 31 by omega)]
    refine ih (e + 1) j _ (by omega) (by omega) h1 ?_ (fun l' e' q1 q2 q3 => ?_)
    · rw [sL_ne (by decide)]; exact h2
    · rw [sL_row]
      show (if 4 * l' + e' = 4 * l + e then dfV B ra rb l e else M.2.1 28 (4 * l' + e')) = _
      by_cases z : 4 * l' + e' = 4 * l + e
      · have z1 : l' = l := by omega
        have z2 : e' = e := by omega
        subst z1 z2
        rw [if_pos rfl]
      · rw [if_neg z]
        exact h3 l' e' q1 q2 (by omega)
theorem dif_loop {ra rb : Nat → Int32} (hn : 200000 ≤ n) (hM0 : RMb B M0.1) (hB : Bok B) (t1 : ∀ j, j < b_nb B → M0.2.1 23 j = (ra j).toInt64) (t2 : ∀ j, j < b_nb B → M0.2.1 23 (16 + j) = (rb j).toInt64) (o1 : okR B ra) (o2 : okR B rb) : ∀ (m l j : Nat) (M : St), l + m = b_nl B → m < j → M.1 = M0.1 → M.2.1 23 = M0.2.1 23 → (∀ l' e', l' < b_nl B → e' < b_ne B → l' < l → M.2.1 28 (4 * l' + e') = dfV B ra rb l' e') → ∃ M', fX11_betray_l23 n j M odd (nI l) = fX11_betray_l90 n n M' odd 0 ∧ M'.1 = M0.1 ∧ (∀ l' e', l' < b_nl B → e' < b_ne B → M'.2.1 28 (4 * l' + e') = dfV B ra rb l' e') := by
  have hl6 : b_nl B ≤ 6 := hB.2.2.2.2.2.2.2.1
  have he4 : b_ne B ≤ 4 := hB.2.2.2.2.2.2.2.2.1
  intro m
  induction m with
  | zero =>
    intro l j M hl hj h1 h2 h3
    obtain ⟨j, rfl⟩ := suc_of hj
    have hM : RMb B M.1 := by rw [h1]; exact hM0
    rw [fX11_betray_l23, lamps_spec hM, bd_go, if_pos (nI_le (by omega) (by omega))]
    exact ⟨M, rfl, h1, fun l' e' q1 q2 => h3 l' e' q1 q2 (by omega)⟩
  | succ m ih =>
    intro l j M hl hj h1 h2 h3
    obtain ⟨j, rfl⟩ := suc_of hj
    have hM : RMb B M.1 := by rw [h1]; exact hM0
    rw [fX11_betray_l23, lamps_spec hM, bd_go, if_neg (nI_ge (by omega) (by omega))]
    obtain ⟨M', a1, a2, a3, a4⟩ := dif_in (odd := odd) (k23 := fX11_betray_l23 n j) hn hM0 hB t1 t2 o1 o2 (show l < b_nl B by omega) (b_ne B) 0 n M (by omega) (by omega) h1 h2 (fun l' e' q1 q2 q3 => h3 l' e' q1 q2 (by omega))
    rw [show (0 : Int32) = nI 0 from rfl, a1]
    exact ih (l + 1) j M' (by omega) (by omega) a2 a3 a4
/-- the first weights -/
theorem try_loop {L : Nat} (hM0 : RMb B M0.1) (hB : Bok B) (hL : b_nl B = L + 1) : ∀ (m l j : Nat) (M : St), l + m = 6 → m < j → (∀ a, a ≠ 30 → M.1 a = M0.1 a) → (∀ i, i < l → M.1 30 i = nI (if i = L then 10 else 0)) → ∃ M', fX11_betray_l90 n j M odd (nI l) = fX11_betray_l135 n n M' odd (-1) 1 ∧ (∀ a, a ≠ 30 → M'.1 a = M0.1 a) ∧ M'.2 = M.2 ∧ (∀ i, i < 6 → M'.1 30 i = nI (if i = L then 10 else 0)) := by
  intro m
  induction m with
  | zero =>
    intro l j M h hj h1 h2
    obtain ⟨j, rfl⟩ := suc_of hj
    rw [fX11_betray_l90, if_pos (show (6 : Int32) ≤ nI l from nI_le (a := 6) (by omega) (by omega))]
    exact ⟨M, rfl, h1, rfl, fun i hi => h2 i (by omega)⟩
  | succ m ih =>
    intro l j M h hj h1 h2
    obtain ⟨j, rfl⟩ := suc_of hj
    have hl6 : b_nl B ≤ 6 := hB.2.2.2.2.2.2.2.1
    have hM : RMb B M.1 := RMb_frame hM0 (fun a q => h1 a (by unfold coreM at q; omega)) (fun k _ => by rw [h1 0 (by decide)])
    rw [fX11_betray_l90, if_neg (show ¬ (6 : Int32) ≤ nI l from nI_ge (b := 6) (by omega) (by decide)), lamps_spec hM, bd_go, hL, nI_pred]
    unfold fX11_betray_j120
    simp only [gd_pos (ib6 (show l < 6 by omega)), bn_go, nI_1, cl_nI (show l < 2 ^ 31 by omega)]
    have key : ∀ y : Int32, y = nI (if l = L then 10 else 0) → ∃ M', fX11_betray_l90 n j (sI M 30 l y) odd (nI (l + 1)) = fX11_betray_l135 n n M' odd (-1) 1 ∧ (∀ a, a ≠ 30 → M'.1 a = M0.1 a) ∧ M'.2 = M.2 ∧ (∀ i, i < 6 → M'.1 30 i = nI (if i = L then 10 else 0)) := by
      intro y hy
      refine ih (l + 1) j (sI M 30 l y) (by omega) (by omega) (fun a ha => by rw [sI_ne ha]; exact h1 a ha) (fun i hi => ?_)
      rw [sI_row]
      unfold upd
      by_cases z : i = l
      · rw [if_pos z, hy, z]
      · rw [if_neg z]; exact h2 i (by omega)
    by_cases c : l = L
    · rw [if_pos (by rw [c])]
      exact key 10 (by rw [if_pos c]; rfl)
    · rw [if_neg (fun z => c ((nI_eq (by omega) (by omega)).mp z))]
      exact key 0 (by rw [if_neg c]; rfl)
end
