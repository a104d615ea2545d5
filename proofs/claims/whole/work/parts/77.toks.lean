/-! THE TEXT: the reference's tokens; the class's row of them. -/
def TpM (T : Nat → Nat) (t : Nat) (M : St) : Prop := M.1 0 5 = nI t ∧ ∀ i, i < t → T i < 256 ∧ M.1 1 i = nI (T i)
/-- what the reference's token changes -/
def kQ (M M' : St) : Prop := (∀ a, a ≠ 0 → M'.1 a = M.1 a) ∧ (∀ k, k ≠ 4 → k ≠ 6 → k ≠ 7 → k ≠ 8 → M'.1 0 k = M.1 0 k) ∧ (∀ a, a ≠ 0 → M'.2.1 a = M.2.1 a)
theorem kQ_rf {M : St} : kQ M M := ⟨fun _ _ => rfl, fun _ _ _ _ _ => rfl, fun _ _ => rfl⟩
theorem kQ_tr {A B C : St} (h : kQ A B) (g : kQ B C) : kQ A C := ⟨fun a q => (g.1 a q).trans (h.1 a q), fun k q r s t => (g.2.1 k q r s t).trans (h.2.1 k q r s t), fun a q => (g.2.2 a q).trans (h.2.2 a q)⟩
theorem kQ_I {M : St} {k : Nat} {v : Int32} (h : k = 4 ∨ k = 6 ∨ k = 7 ∨ k = 8) : kQ M (sI M 0 k v) := ⟨fun a q => sI_ne q, fun j q r s t => by rw [sI_row, upd_ne (by omega)], fun _ _ => rfl⟩
theorem kQ_L {M : St} {v : Int64} : kQ M (sL M 0 9 v) := ⟨fun _ _ => rfl, fun _ _ _ _ _ => rfl, fun a q => sL_ne q⟩
theorem TpM_fr {T : Nat → Nat} {t : Nat} {M M' : St} (h : TpM T t M) (k : kQ M M') : TpM T t M' := by
  unfold TpM; rw [k.1 1 (by decide), k.2.1 5 (by decide) (by decide) (by decide) (by decide)]; exact h
/-- the reference's sort of a kind -/
def srt (kd : Nat) : Nat := if kd = 0 then 0 else if kd = 1 then 3 else if kd = 2 then 2 else if kd = 3 then 59 else 1
/-- the reference has read a token -/
def RT (M : St) (kd pl nx x v : Nat) : Prop := M.1 0 6 = nI (srt kd) ∧ M.1 0 7 = nI pl ∧ (kd = 2 → M.1 0 8 = nI v) ∧ (4 ≤ kd → M.2.1 0 9 = lN x) ∧ (kd ≠ 1 → M.1 0 4 = nI nx)
section
variable {n t : Nat} {T : Nat → Nat} {M : St}
theorem here_in {a k : Nat} (hT : TpM T t M) (ht : t ≤ 1700) (h4 : M.1 0 4 = nI a) (hk : a + k < t) : fX11_here n M (nI k) = some (M, nI (T (a + k))) := by
  unfold fX11_here
  rw [hT.1, h4, nI_add, if_neg (nI_ge hk (by omega)), gd_pos (ib_nI (by omega) (by decide)), cl_nI (by omega), (hT.2 _ hk).2]
theorem here_out {a k : Nat} (hT : TpM T t M) (h4 : M.1 0 4 = nI a) (hk : t ≤ a + k) (h31 : a + k < 2 ^ 31) : fX11_here n M (nI k) = some (M, -1) := by
  unfold fX11_here
  rw [hT.1, h4, nI_add, if_pos (nI_le hk h31)]
theorem wordM_loop {a e : Nat} (ht : t ≤ 1700) (he : e ≤ t) (hae : a ≤ e) (hL : ∀ i, a ≤ i → i < e → isL (T i)) (hE : e < t → ¬ isL (T e)) : ∀ (w k j : Nat) (M : St), a + k + w = e → w < j → TpM T t M → M.1 0 4 = nI a → (k ≤ 8 → M.2.1 0 9 = lN (wv T a k)) → ∃ M', fX11_token_l78 n j M (nI k) = fX11_token_j119 n M' (nI (e - a)) ∧ kQ M M' ∧ M'.1 = M.1 ∧ (e - a ≤ 8 → M'.2.1 0 9 = lN (wv T a (e - a))) := by
  intro w
  induction w with
  | zero =>
    intro k j M h hj hT h4 h9
    obtain ⟨j, rfl⟩ := suc_of hj
    have ek : k = e - a := by omega
    refine ⟨M, ?_, kQ_rf, rfl, by rw [← ek]; exact h9⟩
    rw [fX11_token_l78]
    by_cases c : e < t
    · rw [here_in hT ht h4 (by omega), bd_go, fL_M, bd_go, show a + k = e by omega, (bl_f (hT.2 e c).1 (hE c)).2, if_pos rfl, ek]
    · rw [here_out hT h4 (by omega) (by omega), bd_go, fL_M, bd_go, show blL (-1) = 0 by decide, if_pos rfl, ek]
  | succ w ih =>
    intro k j M h hj hT h4 h9
    obtain ⟨j, rfl⟩ := suc_of hj
    have hl := hL (a + k) (by omega) (by omega)
    have hv := (hT.2 (a + k) (by omega)).1
    rw [fX11_token_l78, here_in hT ht h4 (by omega), bd_go, fL_M, bd_go, (bl_t hv hl).2, if_neg one_ne]
    unfold fX11_token_j113
    by_cases c : 8 ≤ k
    · rw [if_pos (le8 c (by omega)), bn_go, nI_1]
      exact ih (k + 1) j M (by omega) (by omega) hT h4 (fun z => by omega)
    · rw [if_neg (nle8 (by omega)), here_in hT ht h4 (by omega), bd_go, bn_go, bn_go, nI_1]
      have hw := WR_b (wv_WR (T := T) (a := a) (k := k) (fun i hi => hL (a + i) (by omega) (by omega)))
      have hk8 : 256 ^ k ≤ 256 ^ 7 := Nat.pow_le_pow_right (by decide) (by omega)
      have e56 : 256 ^ 7 = 2 ^ 56 := by decide
      have ev : (M.2.1 0 9 <<< ((8 : Int32).toInt64 &&& 63)) ||| (nI (T (a + k))).toInt64 = lN (wv T a (k + 1)) := by
        have e1 : lN (wv T a k) <<< ((8 : Int32).toInt64 &&& 63) = lN (wv T a k * 2 ^ 8) := wb_shl _ (k := 8) (by decide)
        rw [h9 (by omega), e1, nI_l (by omega), wb_or (by omega) (by omega)]
        have h1 : wv T a k * 2 ^ 8 ||| T (a + k) = wv T a k * 2 ^ 8 + T (a + k) := by rw [← Nat.shiftLeft_eq, Nat.shiftLeft_add_eq_or_of_lt (by omega)]
        rw [h1, wv]
      rw [ev]
      obtain ⟨M', m1, m2, m3, m4⟩ := ih (k + 1) j (sL M 0 9 (lN (wv T a (k + 1)))) (by omega) (by omega) (TpM_fr hT kQ_L) h4 (fun _ => by rw [sL_row, pk_uLs])
      exact ⟨M', m1, kQ_tr kQ_L m2, m3, m4⟩
theorem numM_loop {a e : Nat} (ht : t ≤ 1700) (he : e ≤ t) (hae : a ≤ e) (hL : ∀ i, a ≤ i → i < e → isD (T i)) (hE : e < t → ¬ isD (T e)) : ∀ (w k j : Nat) (M : St), a + k + w = e → w < j → TpM T t M → M.1 0 4 = nI a → (k ≤ 4 → M.1 0 8 = nI (dv T a k)) → ∃ M', fX11_token_l144 n j M (nI k) = fX11_token_j186 n M' (nI (e - a)) ∧ kQ M M' ∧ M'.2 = M.2 ∧ (∀ k, k ≠ 8 → M'.1 0 k = M.1 0 k) ∧ (e - a ≤ 4 → M'.1 0 8 = nI (dv T a (e - a))) := by
  intro w
  induction w with
  | zero =>
    intro k j M h hj hT h4 h9
    obtain ⟨j, rfl⟩ := suc_of hj
    have ek : k = e - a := by omega
    refine ⟨M, ?_, kQ_rf, rfl, fun _ _ => rfl, by rw [← ek]; exact h9⟩
    rw [fX11_token_l144]
    by_cases c : e < t
    · rw [here_in hT ht h4 (by omega), bd_go, fD_M, bd_go, show a + k = e by omega, (bd_f (hT.2 e c).1 (hE c)).2, if_pos rfl, ek]
    · rw [here_out hT h4 (by omega) (by omega), bd_go, fD_M, bd_go, show blD (-1) = 0 by decide, if_pos rfl, ek]
  | succ w ih =>
    intro k j M h hj hT h4 h9
    obtain ⟨j, rfl⟩ := suc_of hj
    have hl := hL (a + k) (by omega) (by omega)
    have hv := (hT.2 (a + k) (by omega)).1
    rw [fX11_token_l144, here_in hT ht h4 (by omega), bd_go, fD_M, bd_go, (bd_t hv hl).2, if_neg one_ne]
    unfold fX11_token_j180
    by_cases c : 4 ≤ k
    · rw [if_pos (show (4 : Int32) ≤ nI k from nI_le (a := 4) c (by omega)), bn_go, nI_1]
      exact ih (k + 1) j M (by omega) (by omega) hT h4 (fun z => by omega)
    · rw [if_neg (show ¬ (4 : Int32) ≤ nI k from nI_ge (b := 4) (by omega) (by decide)), here_in hT ht h4 (by omega), bd_go, bn_go, bn_go, nI_1]
      unfold isD at hl
      have ev : 10 * M.1 0 8 + nI (T (a + k)) - 48 = nI (dv T a (k + 1)) := by
        rw [h9 (by omega), show (10 : Int32) = nI 10 from rfl, pk_mul, nI_add, show (48 : Int32) = nI 48 from rfl, nI_subN (by omega), dv]
        congr 1
        omega
      rw [ev]
      obtain ⟨M', m1, m2, m3, m5, m4⟩ := ih (k + 1) j (sI M 0 8 (nI (dv T a (k + 1)))) (by omega) (by omega) (TpM_fr hT (kQ_I (by omega))) (by rw [sI_row, upd_ne (by decide)]; exact h4) (fun _ => by rw [sI_row, upd_eq])
      exact ⟨M', m1, kQ_tr (kQ_I (by omega)) m2, m3, fun k q => by rw [m5 k q, sI_row, upd_ne q], m4⟩
theorem blankM_loop {pl : Nat} (ht : t ≤ 1700) (hp : pl ≤ t) (h3 : pl < t → ¬ isB (T pl)) : ∀ (w s j : Nat) (M : St), s + w = pl → w < j → (∀ i, s ≤ i → i < pl → isB (T i)) → TpM T t M → M.1 0 4 = nI s → ∃ M', fX11_token_l0 n j M = fX11_token_j33 n M' ∧ kQ M M' ∧ M'.1 0 4 = nI pl := by
  intro w
  induction w with
  | zero =>
    intro s j M h hj hb hT h4
    obtain ⟨j, rfl⟩ := suc_of hj
    have e : s = pl := by omega
    subst e
    refine ⟨M, ?_, kQ_rf, h4⟩
    rw [fX11_token_l0]
    by_cases c : s < t
    · have h3' := h3 c
      unfold isB at h3'
      obtain ⟨-, -, -, s1, s2, -⟩ := sg_e (T s) (hT.2 s c).1
      have eh : fX11_here n M 0 = some (M, nI (T s)) := here_in (k := 0) hT ht h4 c
      rw [eh, bd_go, if_neg (fun z => h3' (Or.inl (s1.mp z))), eh, bd_go, if_neg (fun z => h3' (Or.inr (s2.mp z)))]
    · have eh : fX11_here n M 0 = some (M, -1) := here_out (k := 0) hT h4 (by omega) (by omega)
      rw [eh, bd_go, if_neg (by decide), eh, bd_go, if_neg (by decide)]
  | succ w ih =>
    intro s j M h hj hb hT h4
    obtain ⟨j, rfl⟩ := suc_of hj
    have hb' := hb s (Nat.le_refl _) (by omega)
    unfold isB at hb'
    obtain ⟨-, -, -, s1, s2, -⟩ := sg_e (T s) (hT.2 s (by omega)).1
    have eh : fX11_here n M 0 = some (M, nI (T s)) := here_in (k := 0) hT ht h4 (by omega)
    obtain ⟨M', m1, m2, m3⟩ := ih (s + 1) j (sI M 0 4 (nI (s + 1))) (by omega) (by omega) (fun i h1 h2 => hb i (by omega) h2) (TpM_fr hT (kQ_I (by omega))) (by rw [sI_row, upd_eq])
    refine ⟨M', ?_, kQ_tr (kQ_I (by omega)) m2, m3⟩
    rw [← m1, fX11_token_l0, eh, bd_go]
    unfold fX11_token_j20
    rw [bn_go, h4, nI_1]
    by_cases c : T s = 32
    · rw [if_pos (s1.mpr c)]
    · rw [if_neg (fun z => c (s1.mp z)), eh, bd_go, if_pos (s2.mpr (by omega)), bn_go, h4, nI_1]
theorem token_M {a kd pl nx x y v : Nat} (hn : 200000 ≤ n) (hT : TpM T t M) (ht : t ≤ 1700) (h4 : M.1 0 4 = nI a) (hk : TkC T t a kd pl nx x y v) : ∃ M', fX11_token n M = some (M', ()) ∧ kQ M M' ∧ RT M' kd pl nx x v := by
  obtain ⟨k1, k2, k3, k4, k5⟩ := hk
  obtain ⟨M1, b1, b2, b3⟩ := blankM_loop (n := n) ht k2 k4 (pl - a) a n M (by omega) (by omega) k3 hT h4
  have b1 : fX11_token n M = fX11_token_j33 n M1 := b1
  rw [b1]
  unfold fX11_token_j33
  rw [bn_go, b3]
  have q7 : kQ M (sI M1 0 7 (nI pl)) := kQ_tr b2 (kQ_I (by omega))
  have e4 : (sI M1 0 7 (nI pl)).1 0 4 = nI pl := by rw [sI_row, upd_ne (by decide)]; exact b3
  have hT1 := TpM_fr hT q7
  generalize hM2 : sI (sL (sI M1 0 7 (nI pl)) 0 9 0) 0 8 0 = M2
  have q2 : kQ M M2 := by rw [← hM2]; exact kQ_tr q7 (kQ_tr kQ_L (kQ_I (by omega)))
  have hT2 := TpM_fr hT q2
  have m4 : M2.1 0 4 = nI pl := by
    rw [← hM2, sI_row, upd_ne (by decide)]
    exact e4
  have m7 : M2.1 0 7 = nI pl := by
    rw [← hM2, sI_row, upd_ne (by decide)]
    show (sI M1 0 7 (nI pl)).1 0 7 = _
    rw [sI_row, upd_eq]
  have m8 : M2.1 0 8 = 0 := by rw [← hM2, sI_row, upd_eq]
  have m9 : M2.2.1 0 9 = 0 := by
    rw [← hM2]
    show (sL (sI M1 0 7 (nI pl)) 0 9 0).2.1 0 9 = 0
    rw [sL_row, pk_uLs]
  have hgo : ∀ r : Int32, fX11_here n (sI M1 0 7 (nI pl)) 0 = some (sI M1 0 7 (nI pl), r) → (bd (fX11_here n (sI M1 0 7 (nI pl)) 0) (fun S2 r3 => bn (sL S2 0 9 0) (fun S4 : St => bn (sI S4 0 8 0) (fun S5 : St => if 0 ≤ r3 then bd (fX11_isLetter n S5 r3) (fun S6 r7 => if r7 = 0 then bd (fX11_isDigit n S6 r3) (fun S8 r9 => if r9 = 0 then if r3 = 59 then fX11_token_j228 n S8 1 r3 else fX11_token_j228 n S8 1 3 else fX11_token_l144 n n S8 0) else fX11_token_l78 n n S6 0) else bn (sI S5 0 6 0) (fun S10 : St => fX11_token_j231 n S10 0))))) = (if 0 ≤ r then if blL r = 0 then if blD r = 0 then if r = 59 then fX11_token_j228 n M2 1 r else fX11_token_j228 n M2 1 3 else fX11_token_l144 n n M2 0 else fX11_token_l78 n n M2 0 else fX11_token_j231 n (sI M2 0 6 0) 0) := fun r h => by
    rw [h, bd_go, bn_go, bn_go, hM2, fL_M, bd_go, fD_M, bd_go, bn_go]
  -- behind the sort and the length
  have done : ∀ (Z : St) (so k : Nat), kQ M Z → so ≠ 3 → so < 100 → k ≤ 1700 → Z.1 0 4 = nI pl → Z.1 0 7 = nI pl → ∃ M', fX11_token_j231 n (sI Z 0 6 (nI so)) (nI k) = some (M', ()) ∧ kQ M M' ∧ M'.1 0 6 = nI so ∧ M'.1 0 7 = nI pl ∧ M'.1 0 8 = Z.1 0 8 ∧ M'.2 = Z.2 ∧ M'.1 0 4 = nI (pl + k) := fun Z so k hz h3 h100 hk z4 z7 => by
    unfold fX11_token_j231
    have e6 : (sI Z 0 6 (nI so)).1 0 6 = nI so := by rw [sI_row, upd_eq]
    rw [e6, if_neg (show ¬ nI so = 3 from fun z => h3 ((nI_eq (a := so) (b := 3) (by omega) (by decide)).mp z)), bn_go]
    refine ⟨_, rfl, kQ_tr hz (kQ_tr (kQ_I (by omega)) (kQ_I (by omega))), ?_, ?_, ?_, rfl, ?_⟩
    · rw [sI_row, upd_ne (by decide)]; exact e6
    · rw [sI_row, upd_ne (by decide), sI_row, upd_ne (by decide)]; exact z7
    · rw [sI_row, upd_ne (by decide), sI_row, upd_ne (by decide)]
    · rw [sI_row, upd_eq, sI_row, upd_ne (by decide), z4, nI_add]
  have bad : ∀ (Z : St) (y : Int32), kQ M Z → Z.1 0 7 = nI pl → ∃ M', fX11_token_j231 n (sI Z 0 6 3) y = some (M', ()) ∧ kQ M M' ∧ RT M' 1 pl nx x v := fun Z y hz z7 => by
    unfold fX11_token_j231
    have e6 : (sI Z 0 6 3).1 0 6 = 3 := by rw [sI_row, upd_eq]
    rw [e6, if_pos rfl]
    exact ⟨_, rfl, kQ_tr hz (kQ_I (by omega)), e6, by rw [sI_row, upd_ne (by decide)]; exact z7, fun z => by omega, fun z => by omega, fun z => absurd rfl z⟩
  rcases k5 with ⟨c0, rfl, rfl⟩ | ⟨c0, c1, e, e1, e2, e3, e5, e6⟩ | ⟨c0, c1, c2, e, e1, e2, e3, e5, e6⟩ | ⟨c0, c1, c2, e6⟩
  · have eh : fX11_here n (sI M1 0 7 (nI pl)) 0 = some (sI M1 0 7 (nI pl), -1) := here_out (k := 0) hT1 e4 (by omega) (by omega)
    rw [hgo _ eh, if_neg (by decide)]
    obtain ⟨M', d1, d2, d3, d4, -, -, d5⟩ := done M2 0 0 q2 (by decide) (by decide) (by omega) m4 m7
    exact ⟨M', d1, d2, d3, d4, fun z => by omega, fun z => by omega, fun _ => by rw [d5, Nat.add_zero, c0]⟩
  · have hv := (hT.2 pl c0).1
    have eh : fX11_here n (sI M1 0 7 (nI pl)) 0 = some (sI M1 0 7 (nI pl), nI (T pl)) := here_in (k := 0) hT1 ht e4 (by omega)
    rw [hgo _ eh, if_pos (show (0 : Int32) ≤ nI (T pl) from nI_le (a := 0) (by omega) (by omega)), (bl_t hv c1).2, if_neg one_ne]
    obtain ⟨M3, w1, w2, w3, w4⟩ := wordM_loop (n := n) ht e2 (by omega) e3 e5 (e - pl) 0 n M2 (by omega) (by omega) hT2 m4 (fun _ => by rw [m9]; rfl)
    have w1 : fX11_token_l78 n n M2 0 = _ := w1
    rw [w1]
    unfold fX11_token_j119 fX11_token_j131
    rw [bn_go, bn_go]
    have q3 := kQ_tr q2 w2
    rcases e6 with ⟨g1, g2, rfl, rfl, rfl⟩ | ⟨g1, rfl⟩
    · have hb := KW_b g2
      rw [if_pos (show nI (nx - pl) ≤ (8 : Int32) from nI_le (b := 8) g1 (by decide))]
      obtain ⟨M', d1, d2, d3, d4, -, d6, d5⟩ := done M3 1 (nx - pl) q3 (by decide) (by decide) (by omega) (by rw [w3]; exact m4) (by rw [w3]; exact m7)
      refine ⟨M', d1, d2, ?_, d4, fun z => by omega, fun _ => by rw [d6]; exact w4 g1, fun _ => by rw [d5]; congr 1; omega⟩
      rw [d3]
      unfold srt
      rw [if_neg (by omega), if_neg (by omega), if_neg (by omega), if_neg (by omega)]
    · rw [if_neg (show ¬ nI (e - pl) ≤ (8 : Int32) from nI_ge (a := 8) (b := e - pl) g1 (by omega))]
      exact bad M3 _ q3 (by rw [w3]; exact m7)
  · have hv := (hT.2 pl c0).1
    have eh : fX11_here n (sI M1 0 7 (nI pl)) 0 = some (sI M1 0 7 (nI pl), nI (T pl)) := here_in (k := 0) hT1 ht e4 (by omega)
    rw [hgo _ eh, if_pos (show (0 : Int32) ≤ nI (T pl) from nI_le (a := 0) (by omega) (by omega)), (bl_f hv c1).2, if_pos rfl, (bd_t hv c2).2, if_neg one_ne]
    obtain ⟨M3, w1, w2, w3, w5, w4⟩ := numM_loop (n := n) ht e2 (by omega) e3 e5 (e - pl) 0 n M2 (by omega) (by omega) hT2 m4 (fun _ => by rw [m8]; rfl)
    have w1 : fX11_token_l144 n n M2 0 = _ := w1
    rw [w1]
    unfold fX11_token_j186 fX11_token_j203 fX11_token_j208
    have q3 := kQ_tr q2 w2
    have hT3 := TpM_fr hT q3
    have z4 : M3.1 0 4 = nI pl := by rw [w5 4 (by decide)]; exact m4
    have z7 : M3.1 0 7 = nI pl := by rw [w5 7 (by decide)]; exact m7
    rw [bn_go]
    rcases e6 with ⟨g1, g2, rfl, rfl, rfl⟩ | ⟨g1, rfl⟩ | ⟨g0, g1, g2, rfl⟩
    · have es : ∃ z, fX11_here n M3 (nI (nx - pl)) = some (M3, z) ∧ blL z = 0 := by
        by_cases c : nx < t
        · exact ⟨_, here_in hT3 ht z4 (by omega), by rw [show pl + (nx - pl) = nx by omega]; exact (bl_f (hT.2 nx c).1 (g2 c)).2⟩
        · exact ⟨_, here_out hT3 z4 (by omega) (by omega), by decide⟩
      obtain ⟨z, z1, z2⟩ := es
      rw [if_neg (show ¬ (4 : Int32) < nI (nx - pl) from nI_nlt (b := nx - pl) (a := 4) g1 (by decide)), z1, bd_go, fL_M, bd_go, z2, if_pos rfl, bn_go]
      obtain ⟨M', d1, d2, d3, d4, d7, d6, d5⟩ := done M3 2 (nx - pl) q3 (by decide) (by decide) (by omega) z4 z7
      exact ⟨M', d1, d2, d3, d4, fun _ => by rw [d7]; exact w4 g1, fun z => by omega, fun _ => by rw [d5]; congr 1; omega⟩
    · rw [if_pos (show (4 : Int32) < nI (e - pl) from nI_lt (a := 4) g1 (by omega))]
      exact bad M3 _ q3 z7
    · rw [if_neg (show ¬ (4 : Int32) < nI (e - pl) from nI_nlt (b := e - pl) (a := 4) g0 (by decide)), here_in hT3 ht z4 (by omega), bd_go, fL_M, bd_go, show pl + (e - pl) = e by omega, (bl_t (hT.2 e g1).1 g2).2, if_neg one_ne, bn_go]
      exact bad M3 _ q3 z7
  · have hv := (hT.2 pl c0).1
    have eh : fX11_here n (sI M1 0 7 (nI pl)) 0 = some (sI M1 0 7 (nI pl), nI (T pl)) := here_in (k := 0) hT1 ht e4 (by omega)
    rw [hgo _ eh, if_pos (show (0 : Int32) ≤ nI (T pl) from nI_le (a := 0) (by omega) (by omega)), (bl_f hv c1).2, if_pos rfl, (bd_f hv c2).2, if_pos rfl]
    unfold fX11_token_j228
    rw [bn_go, bn_go]
    obtain ⟨-, -, -, -, -, s3, -⟩ := sg_e (T pl) hv
    rcases e6 with ⟨g1, rfl, rfl⟩ | ⟨g1, rfl⟩
    · rw [if_pos (s3.mpr g1), g1]
      obtain ⟨M', d1, d2, d3, d4, -, -, d5⟩ := done M2 59 1 q2 (by decide) (by decide) (by omega) m4 m7
      exact ⟨M', d1, d2, d3, d4, fun z => by omega, fun z => by omega, fun _ => d5⟩
    · rw [if_neg (fun z => g1 (s3.mp z))]
      exact bad M2 _ q2 m7
end
