section
variable {n : Nat} {B : Bd} {M : St} {A : Nat → Nat → Int64} {v : Nat → Nat → Nat} {N : Nat}
theorem better_loop {x3 : Int32} {a b : Nat} (hM : RMb B M.1) (hB : Bok B) (hN5 : N ≤ 5000) (hE : DM B A v N M) (ha : a < N) (hb : b < N) : ∀ (w l j : Nat) (x4 : Int32), l + w = b_nl B → w < j → (x4 = 0 ∨ x4 = 1) → ∃ r : Int32, fX11_isBetter_l6 n j M (nI a) (nI b) x3 x4 (nI l) = some (M, r) ∧ (r ≠ 0 ↔ (∀ l', l ≤ l' → l' < b_nl B → agL x3 l' ≠ 0 → (A a l').toInt ≤ (A b l').toInt) ∧ (x4 ≠ 0 ∨ ∃ l', l ≤ l' ∧ l' < b_nl B ∧ agL x3 l' ≠ 0 ∧ (A a l').toInt < (A b l').toInt)) := by
  have hnl : b_nl B ≤ 6 := hB.2.2.2.2.2.2.2.1
  intro w
  induction w with
  | zero =>
    intro l j x4 hl hj hx
    obtain ⟨j, rfl⟩ := suc_of hj
    refine ⟨x4, ?_, ⟨fun q => ⟨fun l' h1 h2 => by omega, Or.inl q⟩, fun q => ?_⟩⟩
    · rw [fX11_isBetter_l6, lamps_spec hM, bd_go, if_pos (nI_le (by omega) (by omega)), gd_pos hx]
    · rcases q.2 with z | ⟨l', h1, h2, -⟩
      · exact z
      · omega
  | succ w ih =>
    intro l j x4 hl hj hx
    obtain ⟨j, rfl⟩ := suc_of hj
    have eA := (hE.2 a ha).2 l (by omega)
    have eB := (hE.2 b hb).2 l (by omega)
    rw [fX11_isBetter_l6, lamps_spec hM, bd_go, if_neg (nI_ge (by omega) (by omega)), ix6, ix6, gd_pos (ib_nI (by omega) (by decide)), gd_pos (ib_nI (by omega) (by decide)), gd_pos (ib_nI (by omega) (by decide)), gd_pos (ib_nI (by omega) (by decide)), cl_nI (by omega), cl_nI (by omega), eA, eB]
    unfold fX11_isBetter_j90 fX11_isBetter_j95 fX11_isBetter_j97
    simp only [bn_go, nI_1]
    by_cases c1 : ((x3 >>> (nI l &&& 31)) &&& 1) = 0
    · rw [if_pos c1]
      obtain ⟨r, r1, r2⟩ := ih (l + 1) j x4 (by omega) (by omega) hx
      refine ⟨r, r1, r2.trans ⟨fun q => ⟨fun l' h1 h2 h3 => ?_, ?_⟩, fun q => ⟨fun l' h1 h2 h3 => q.1 l' (by omega) h2 h3, ?_⟩⟩⟩
      · by_cases e : l' = l
        · rw [e] at h3; exact absurd c1 h3
        · exact q.1 l' (by omega) h2 h3
      · rcases q.2 with z | ⟨l', h1, h2, h3, h4⟩
        · exact Or.inl z
        · exact Or.inr ⟨l', by omega, h2, h3, h4⟩
      · rcases q.2 with z | ⟨l', h1, h2, h3, h4⟩
        · exact Or.inl z
        · by_cases e : l' = l
          · rw [e] at h3; exact absurd c1 h3
          · exact Or.inr ⟨l', by omega, h2, h3, h4⟩
    rw [if_neg c1]
    by_cases c2 : lg_cmp (A a l) (A b l) ≤ 0
    case neg =>
      rw [if_neg c2]
      refine ⟨0, rfl, ⟨fun q => absurd rfl q, fun q => ?_⟩⟩
      exact absurd (lg_np.mpr (Int64.le_iff_toInt_le.mpr (q.1 l (Nat.le_refl _) (by omega) c1))) c2
    rw [if_pos c2]
    have c2' := Int64.le_iff_toInt_le.mp (lg_np.mp c2)
    -- with a flag behind it
    have go : ∀ y : Int32, (y = 0 ∨ y = 1) → (y ≠ 0 ↔ x4 ≠ 0 ∨ (A a l).toInt < (A b l).toInt) → ∃ r : Int32, fX11_isBetter_l6 n j M (nI a) (nI b) x3 y (nI (l + 1)) = some (M, r) ∧ (r ≠ 0 ↔ (∀ l', l ≤ l' → l' < b_nl B → agL x3 l' ≠ 0 → (A a l').toInt ≤ (A b l').toInt) ∧ (x4 ≠ 0 ∨ ∃ l', l ≤ l' ∧ l' < b_nl B ∧ agL x3 l' ≠ 0 ∧ (A a l').toInt < (A b l').toInt)) := fun y hy hyx => by
      obtain ⟨r, r1, r2⟩ := ih (l + 1) j y (by omega) (by omega) hy
      refine ⟨r, r1, r2.trans ⟨fun q => ⟨fun l' h1 h2 h3 => ?_, ?_⟩, fun q => ⟨fun l' h1 h2 h3 => q.1 l' (by omega) h2 h3, ?_⟩⟩⟩
      · by_cases e : l' = l
        · rw [e]; exact c2'
        · exact q.1 l' (by omega) h2 h3
      · rcases q.2 with z | ⟨l', h1, h2, h3, h4⟩
        · rcases hyx.mp z with w | w
          · exact Or.inl w
          · exact Or.inr ⟨l, Nat.le_refl _, by omega, c1, w⟩
        · exact Or.inr ⟨l', by omega, h2, h3, h4⟩
      · rcases q.2 with z | ⟨l', h1, h2, h3, h4⟩
        · exact Or.inl (hyx.mpr (Or.inl z))
        · by_cases e : l' = l
          · rw [e] at h4; exact Or.inl (hyx.mpr (Or.inr h4))
          · exact Or.inr ⟨l', by omega, h2, h3, h4⟩
    by_cases c3 : x4 = 0
    · rw [if_pos c3]
      by_cases c4 : 0 ≤ lg_cmp (A a l) (A b l)
      · rw [if_pos c4]
        have c4' := Int64.le_iff_toInt_le.mp (lg_nn.mp c4)
        exact go 0 (Or.inl rfl) ⟨fun q => absurd rfl q, fun q => by rcases q with w | w; exact absurd c3 w; omega⟩
      · rw [if_neg c4]
        have c4' : ¬ (A b l).toInt ≤ (A a l).toInt := fun q => c4 (lg_nn.mpr (Int64.le_iff_toInt_le.mpr q))
        exact go 1 (Or.inr rfl) ⟨fun _ => Or.inr (by omega), fun _ => by decide⟩
    · rw [if_neg c3]
      exact go 1 (Or.inr rfl) ⟨fun _ => Or.inl c3, fun _ => by decide⟩
theorem better_spec {x3 : Int32} {a b : Nat} (hn : 200000 ≤ n) (hM : RMb B M.1) (hB : Bok B) (hN5 : N ≤ 5000) (hE : DM B A v N M) (ha : a < N) (hb : b < N) : ∃ r : Int32, fX11_isBetter n M (nI a) (nI b) x3 = some (M, r) ∧ (r ≠ 0 ↔ leA (b_nl B) (agL x3) A a b ∧ ¬ leA (b_nl B) (agL x3) A b a) := by
  have hnl : b_nl B ≤ 6 := hB.2.2.2.2.2.2.2.1
  obtain ⟨r, r1, r2⟩ := better_loop (n := n) (x3 := x3) hM hB hN5 hE ha hb (b_nl B) 0 n 0 (by omega) (by omega) (Or.inl rfl)
  refine ⟨r, r1, r2.trans ⟨fun q => ⟨fun l h1 h2 => q.1 l (Nat.zero_le _) h1 h2, fun z => ?_⟩, fun q => ⟨fun l _ h1 h2 => q.1 l h1 h2, Or.inr ?_⟩⟩⟩
  · rcases q.2 with w | ⟨l, -, h1, h2, h3⟩
    · exact absurd rfl w
    · have := z l h1 h2
      omega
  · refine Classical.byContradiction fun w => q.2 (fun l h1 h2 => ?_)
    refine Classical.byContradiction fun z => w ⟨l, Nat.zero_le _, h1, h2, by omega⟩
theorem isBest_loop {x2 : Int32} {b : Nat} (hn : 200000 ≤ n) (hM : RMb B M.1) (hB : Bok B) (hN5 : N ≤ 5000) (hE : DM B A v N M) (hb : b < N) : ∀ (w a j : Nat), a + w = N → w < j → ∃ r : Int32, fX11_isBest_l2 n j M (nI b) x2 (nI a) = some (M, r) ∧ (r ≠ 0 ↔ ∀ a', a ≤ a' → a' < N → leA (b_nl B) (agL x2) A a' b → leA (b_nl B) (agL x2) A b a') := by
  intro w
  induction w with
  | zero =>
    intro a j h hj
    obtain ⟨j, rfl⟩ := suc_of hj
    refine ⟨1, ?_, ⟨fun _ a' h1 h2 => by omega, fun _ => by decide⟩⟩
    rw [fX11_isBest_l2, hE.1, if_pos (nI_le (by omega) (by omega))]
  | succ w ih =>
    intro a j h hj
    obtain ⟨j, rfl⟩ := suc_of hj
    obtain ⟨r, r1, r2⟩ := better_spec (x3 := x2) hn hM hB hN5 hE (show a < N by omega) hb
    rw [fX11_isBest_l2, hE.1, if_neg (nI_ge (by omega) (by omega)), r1, bd_go]
    by_cases c : r = 0
    · rw [if_pos c, bn_go, nI_1]
      obtain ⟨r', q1, q2⟩ := ih (a + 1) j (by omega) (by omega)
      refine ⟨r', q1, q2.trans ⟨fun q a' h1 h2 h3 => ?_, fun q a' h1 h2 h3 => q a' (by omega) h2 h3⟩⟩
      by_cases e : a' = a
      · rw [e] at h3 ⊢
        exact Classical.byContradiction fun z => (r2.mpr ⟨h3, z⟩) c
      · exact q a' (by omega) h2 h3
    · rw [if_neg c]
      refine ⟨0, rfl, ⟨fun q => absurd rfl q, fun q => ?_⟩⟩
      obtain ⟨z1, z2⟩ := r2.mp c
      exact absurd (q a (Nat.le_refl _) (by omega) z1) z2
theorem bestM_loop {x1 : Int32} (hn : 200000 ≤ n) (hB : Bok B) (hN5 : N ≤ 5000) : ∀ (w t j : Nat) (M : St), t + w = N → w < j → RMb B M.1 → DM B A v N M → M.1 0 58 = nI (cn (bst' (leA (b_nl B) (agL x1) A) N) t) → (∀ i, i < t → bst' (leA (b_nl B) (agL x1) A) N i ≠ 0 → M.1 27 (cn (bst' (leA (b_nl B) (agL x1) A) N) i) = nI i) → ∃ M', fX11_best_l47 n j M x1 (nI t) = fX11_best_j93 n M' ∧ (∀ a, a ≠ 0 → a ≠ 27 → M'.1 a = M.1 a) ∧ (∀ k, k ≠ 58 → M'.1 0 k = M.1 0 k) ∧ M'.1 0 58 = nI (cn (bst' (leA (b_nl B) (agL x1) A) N) N) ∧ (∀ i, i < N → bst' (leA (b_nl B) (agL x1) A) N i ≠ 0 → M'.1 27 (cn (bst' (leA (b_nl B) (agL x1) A) N) i) = nI i) := by
  intro w
  induction w with
  | zero =>
    intro t j M h hj hM hE h58 h27
    obtain ⟨j, rfl⟩ := suc_of hj
    have e : t = N := by omega
    subst e
    rw [fX11_best_l47, hE.1, if_pos (nI_le (by omega) (by omega))]
    exact ⟨M, rfl, fun _ _ _ => rfl, fun _ _ => rfl, h58, h27⟩
  | succ w ih =>
    intro t j M h hj hM hE h58 h27
    obtain ⟨j, rfl⟩ := suc_of hj
    obtain ⟨r, r1, r2⟩ := isBest_loop (x2 := x1) hn hM hB hN5 hE (show t < N by omega) N 0 n (by omega) (by omega)
    have r1 : fX11_isBest n M (nI t) x1 = some (M, r) := r1
    have r3 : r ≠ 0 ↔ bst' (leA (b_nl B) (agL x1) A) N t ≠ 0 := by
      unfold bst'
      rw [ch_ne]
      exact r2.trans ⟨fun q a h1 h2 => q a (Nat.zero_le _) h1 h2, fun q a _ h1 h2 => q a h1 h2⟩
    have hc := cn_le (ag := bst' (leA (b_nl B) (agL x1) A) N) t
    rw [fX11_best_l47, hE.1, if_neg (nI_ge (by omega) (by omega)), r1, bd_go]
    unfold fX11_best_j87
    by_cases c : r = 0
    · have c' : bst' (leA (b_nl B) (agL x1) A) N t = 0 := Classical.byContradiction fun q => (r3.mpr q) c
      rw [if_pos c, bn_go, nI_1]
      exact ih (t + 1) j M (by omega) (by omega) hM hE (by rw [cn_s0 c']; exact h58) (fun i h1 h2 => by
        by_cases e : i = t
        · rw [e] at h2; exact absurd c' h2
        · exact h27 i (by omega) h2)
    · have c' := r3.mp c
      rw [if_neg c, h58, gd_pos (ib_nI (by omega) (by decide)), bn_go, bn_go, bn_go, nI_1, cl_nI (by omega), sI_ne (show (0 : Nat) ≠ 27 by decide), h58, nI_1]
      generalize hT : sI (sI M 27 (cn (bst' (leA (b_nl B) (agL x1) A) N) t) (nI t)) 0 58 (nI (cn (bst' (leA (b_nl B) (agL x1) A) N) t + 1)) = T
      have t1 : ∀ a, a ≠ 0 → a ≠ 27 → T.1 a = M.1 a := fun a q1 q2 => by rw [← hT, sI_ne q1, sI_ne q2]
      have t0 : ∀ k, k ≠ 58 → T.1 0 k = M.1 0 k := fun k q => by rw [← hT, sI_row, upd_ne q, sI_ne (by decide)]
      have t2 : T.2 = M.2 := by rw [← hT]; rfl
      obtain ⟨M', m1, m2, m3, m4, m5⟩ := ih (t + 1) j T (by omega) (by omega) (RMb_frame hM (fun a q => t1 a (by intro e; subst e; unfold coreM at q; omega) (by unfold coreM at q; omega)) (fun k q => t0 k (by unfold core0 at q; omega))) ⟨by rw [t0 59 (by decide)]; exact hE.1, fun i hi => ⟨fun d hd => by rw [t1 26 (by decide) (by decide)]; exact (hE.2 i hi).1 d hd, fun l hl => by rw [t2]; exact (hE.2 i hi).2 l hl⟩⟩ (by rw [← hT, sI_row, upd_eq, cn_s1 c']) (fun i h1 h2 => by
        rw [← hT, sI_ne (by decide), sI_row]
        by_cases e : i = t
        · rw [e, upd_eq]
        · have := cn_lt (f := bst' (leA (b_nl B) (agL x1) A) N) (show i < t by omega) h2
          rw [upd_ne (by omega)]
          exact h27 i (by omega) h2)
      exact ⟨M', m1, fun a q1 q2 => by rw [m2 a q1 q2, t1 a q1 q2], fun k q => by rw [m3 k q, t0 k q], m4, m5⟩
end
/-- nothing lies there, none is best, on both sides -/
theorem rel_un2 {B : Bd} {b : Nat} {Sx Sm : St} (h : RelB B b Sx Sm) : RelB B b (sI (sI Sx 243 15 0) 243 17 0) (sI (sI Sm 0 52 0) 0 58 0) := by
  refine rel_se (rel_un h) ⟨fun a q => sI_ne (by omega), fun _ _ => rfl, fun k q => by rw [sI_row, upd_ne (by omega)], fun _ _ => rfl⟩ ⟨fun a q _ _ _ _ _ => sI_ne q, fun k q => by rw [sI_row, upd_ne (by omega)]⟩ ⟨Or.inl (by rw [sI_row, upd_ne (by decide), sI_row, upd_eq]), by rw [sI_row, upd_ne (by decide), sI_row, upd_eq, sI_row, upd_ne (by decide), sI_row, upd_eq], fun z => ?_⟩ ⟨0, by decide, by rw [sI_row, upd_eq]; rfl, by rw [sI_row, upd_eq]; rfl, fun i hi => by omega⟩
  rw [sI_row, upd_ne (by decide), sI_row, upd_eq] at z
  exact absurd z (by decide)
theorem sI_swap {S : St} {a j k : Nat} {v w : Int32} (h : j ≠ k) : sI (sI S a j v) a k w = sI (sI S a k w) a j v := by
  refine Prod.ext (funext fun c => ?_) rfl
  by_cases e : c = a
  · subst e
    rw [sI_row, sI_row, sI_row, sI_row]
    funext i
    by_cases e1 : i = k
    · subst e1
      rw [upd_eq, upd_ne (Ne.symm h), upd_eq]
    · rw [upd_ne e1]
      by_cases e2 : i = j
      · subst e2
        rw [upd_eq, upd_eq]
      · rw [upd_ne e2, upd_ne e2, upd_ne e1]
  · rw [sI_ne e, sI_ne e, sI_ne e, sI_ne e]
theorem findBest_eq {n : Nat} {S : St} {v x1 x2 : Int32} (hL : fX4_hasLamps n (sI S 243 17 0) x1 = some (sI S 243 17 0, v)) : fX4_findBest n S x1 x2 = bn (sI (sI S 243 15 0) 243 17 0) (fun S1 : St => if S1.1 243 13 = 0 then some (S1, (-1 : Int32)) else if v = 0 then some (S1, -1) else if S1.1 243 14 ≤ 5000 then bd (stO n S1) (fun S4 _ => bd (fJ6_bitCount_0f7a4 sdX n S4 x1) (fun S6 r7 => bn (sI S6 243 12 r7) (fun S8 : St => fX4_findBest_l35 n n S8 x1 x2 0))) else some (S1, -2)) := by
  unfold fX4_findBest
  rw [bn_go, hL, bd_go, st_bd, sI_swap (show (17 : Nat) ≠ 15 by decide)]
  simp only [mo_ne, mt_ne, ↓reduceIte]
theorem ok_best {n : Nat} {Sx Sm : St} (hn : 200000 ≤ n) (hn2 : n < 2 ^ 31) (h : Rel Sx Sm) : Ok_best n Rel Sx Sm := by
  intro x1 x2 _
  obtain ⟨B, b, hR0⟩ := id h
  have hR := rel_un2 hR0
  have e15 : (sI (sI Sx 243 15 0) 243 17 0).1 243 15 = 0 := by rw [sI_row, upd_ne (by decide), sI_row, upd_eq]
  have e17 : (sI (sI Sx 243 15 0) 243 17 0).1 243 17 = 0 := by rw [sI_row, upd_eq]
  have e52 : (sI (sI Sm 0 52 0) 0 58 0).1 0 52 = 0 := by rw [sI_row, upd_ne (by decide), sI_row, upd_eq]
  have e58 : (sI (sI Sm 0 52 0) 0 58 0).1 0 58 = 0 := by rw [sI_row, upd_eq]
  obtain ⟨hB0, ⟨hb0, -, -, hr20⟩, hX00, -⟩ := id hR0
  have hL0 : fX4_hasLamps n (sI Sx 243 17 0) x1 = some (sI Sx 243 17 0, setV (b_nl B) x1) := hasLamps_spec hb0 hr20 (RXb_frame hX00 (fun a q1 q2 => sI_ne (by rcases hb0 with q | q <;> omega)) hB0)
  unfold fX10_best fX11_best
  rw [findBest_eq hL0, bn_go, bn_go, bn_go]
  generalize sI (sI Sx 243 15 0) 243 17 0 = X0 at hR e15 e17 ⊢
  generalize sI (sI Sm 0 52 0) 0 58 0 = M0 at hR e52 e58 ⊢
  obtain ⟨hB, ⟨hb, hr, hr0, hr2⟩, hX, hlim, hM, ht, hv, hbx, hl, ho, ⟨a1, a2, a3⟩, -⟩ := id hR
  have hnl : b_nl B ≤ 6 := hB.2.2.2.2.2.2.2.1
  rw [a2]
  rcases a1 with z | z
  · rw [z, if_pos rfl, if_pos rfl]
    exact ⟨X0, M0, _, rfl, rfl, B, b, hR⟩
  rw [z, if_neg one_ne, if_neg one_ne, isSet_spec hM, bd_go]
  by_cases c1 : setV (b_nl B) x1 = 0
  · rw [if_pos c1, if_pos c1]
    exact ⟨X0, M0, _, rfl, rfl, B, b, hR⟩
  rw [if_neg c1, if_neg c1]
  obtain ⟨gd, g, m, u, ra, X, M, hS, s1, s2, s3, s4, s5, h52⟩ := both_start hn hn2 hR z e52 e15
  have hd8 : b_nd B ≤ 8 := hB.2.2.2.2.2.1
  have hmo := hB.2.1
  have hlt := mixN_lt hd8 (show m ≤ 24 by have := hS.2.2.2.1; omega) hS.2.2.2.2.1
  rw [s1, bd_go, hS.2.2.2.2.2.2.1]
  by_cases c2 : nI (mixN (b_nd B) m u) ≤ 5000
  case neg =>
    rw [if_neg c2, if_neg c2]
    exact ⟨X0, M0, _, rfl, rfl, B, b, hR⟩
  have c2' : mixN (b_nd B) m u ≤ 5000 := (nI_leI hlt (by decide)).mp (show nI (mixN (b_nd B) m u) ≤ nI 5000 from c2)
  have h1 := mixN_1 (b_nd B) m u
  generalize hN : mixN (b_nd B) m u = N at c2 c2' h1 ⊢
  rw [if_pos c2, if_pos c2, s2, bd_go, bitC_eq, bd_go, bn_go]
  obtain ⟨w, w1, w2⟩ := setV_of hnl c1
  have hbit : bitV x1 = nI (cn (agL x1) (b_nl B)) := by rw [w2]; exact bitC_all (b_nl B) (by omega) w w1
  rw [hbit]
  unfold fX11_layRows
  rw [s3, bd_go, bn_go]
  -- both begin
  have hJ1 : Jn B b g m u ra X0 M0 (sq m u (b_nd B) 0) (sI X 243 12 (nI (cn (agL x1) (b_nl B)))) M := Jn_L hB s4 (fun a q => sI_ne q) (fun k q _ => by rw [sI_row, upd_ne q]) (fun _ _ => rfl) rfl
  have hJ : Jn B b g m u ra X0 M0 (sq m u (b_nd B) 0) (sI X 243 12 (nI (cn (agL x1) (b_nl B)))) (sI M 0 59 0) := by
    obtain ⟨j1, j2, j3, j4, j5, j6, j7⟩ := id hJ1
    refine ⟨j1, kSM_tr j2 ⟨fun a q _ _ _ _ _ => sI_ne q, fun k q => by rw [sI_row, upd_ne (by omega)]⟩, j3, ⟨fun d hd => by rw [sI_ne (by decide)]; exact j4.1 d hd, by rw [sI_ne (by decide)]; exact j4.2.1, j4.2.2.1, by rw [sI_row, upd_ne (by decide)]; exact j4.2.2.2.1, by rw [sI_row, upd_ne (by decide)]; exact j4.2.2.2.2⟩, ?_, j6, j7⟩
    unfold Kp
    rw [sI_row (S := M), upd_ne (show (52 : Nat) ≠ 59 by decide), upd_ne (show (53 : Nat) ≠ 59 by decide), upd_ne (show (54 : Nat) ≠ 59 by decide), sI_ne (S := M) (show (24 : Nat) ≠ 0 by decide)]
    exact j5
  obtain ⟨X1, M1, f1, f2, f3, f4, f5, f6, f7, f8, f9⟩ := best_loop (x1 := x1) (x2 := x2) (N := N) hn hS hN c2' (N - 1) 0 n n (sI X 243 12 (nI (cn (agL x1) (b_nl B)))) (sI M 0 59 0) (by omega) (by omega) (by omega) hJ ⟨by rw [sI_row, upd_ne (by decide), s5.1, e17]; rfl, by rw [sI_row, upd_eq], fun j hj => by omega⟩ ⟨by rw [sI_row, upd_eq]; rfl, fun j hj => by omega⟩ (by rw [sI_row, upd_ne (by decide), s5.2.2.1, e58]) (by rw [sI_row, upd_ne (by decide)]; exact h52)
  have f1 : fX4_findBest_l35 n n (sI X 243 12 (nI (cn (agL x1) (b_nl B)))) x1 x2 0 = _ := f1
  rw [f1, f2, bd_go]
  have hM1 : RMb B M1.1 := kSM_M hM f4
  obtain ⟨M2, g1, g2, g3, g4, g5⟩ := bestM_loop (x1 := x1) (N := N) hn hB c2' N 0 n M1 (by omega) (by omega) hM1 f7 (by rw [f8]; rfl) (fun i hi => by omega)
  have g1 : fX11_best_l47 n n M1 x1 0 = _ := g1
  rw [g1]
  generalize hle : leA (b_nl B) (agL x1) (fun j l => apV B ra (thr B g (sq m u (b_nd B) j)) l x2) = le at f6 g4 g5
  have rf : ∀ a, le a a := fun a => by rw [← hle]; exact fun l _ _ => Int.le_refl _
  have tr : ∀ a b c, le a b → le b c → le a c := fun a b c p q => by rw [← hle] at p q ⊢; exact fun l h3 h4 => Int.le_trans (p l h3 h4) (q l h3 h4)
  obtain ⟨r0, r1, r2, -⟩ := cov rf tr N 0 (by omega)
  have hpos := cn_lt (f := bst' le N) r1 (ch_ne.mpr r2)
  have hcN := cn_le (ag := bst' le N) N
  -- the rows of all the best
  have hadm : ∀ i, i < N → ∀ d, d < 8 → sq m u (b_nd B) i d < 32 := by
    obtain ⟨sa, sb⟩ := sq_all (m := m) (u := u) (nd := b_nd B)
    have key : ∀ i, i < N → Adm m u (b_nd B) (sq m u (b_nd B) i) := by
      intro i
      induction i with
      | zero => intro _; exact adm_0
      | succ i ih => intro hi; exact adm_adv (ih (by omega)) (sa i (by omega))
    intro i hi d hd
    obtain ⟨q1, q2, q3⟩ := key i hi
    by_cases c : d < b_nd B
    · have := sumN_ge (p := sq m u (b_nd B) i) c
      have := hS.2.2.2.1
      omega
    · rw [q3 d (by omega)]; decide
  have hrow : ∀ i, i < cn (bst' le N) N → ∃ r, r < N ∧ M2.1 27 i = nI r ∧ (∀ d, d < 8 → sq m u (b_nd B) r d < 32 ∧ M2.1 26 (8 * r + d) = nI (sq m u (b_nd B) r d)) ∧ X1.2.1 257 i = lN (pk5 (sq m u (b_nd B) r) 8) := by
    intro i hi
    obtain ⟨r, q1, q2, q3⟩ := cn_at hi
    refine ⟨r, q1, by rw [← q2]; exact g5 r q1 q3, fun d hd => ⟨hadm r q1 d hd, by rw [g2 26 (by decide) (by decide)]; exact (f7.2 r q1).1 d hd⟩, by rw [← q2]; exact (f6.2.2 r q1 q3).1⟩
  obtain ⟨r, q1, q2, q3, q4⟩ := hrow 0 (by omega)
  have hM2 : RMb B M2.1 := RMb_frame hM1 (fun a q => g2 a (by intro e; subst e; unfold coreM at q; omega) (by unfold coreM at q; omega)) (fun k q => g3 k (by unfold core0 at q; omega))
  obtain ⟨X3, x1e, x2e, x3e, x4e⟩ := layBest_spec (n := n) (S := X1) (i := 0) hn (fun d hd => (q3 d hd).1) (show cn (bst' le N) N ≤ 5000 by omega) (by omega) f6.1 q4
  obtain ⟨M3, m1, m2, m3, m4, m5⟩ := pickM_spec (n := n) (M := M2) (i := 0) hn hM2 hB (show cn (bst' le N) N ≤ 5000 by omega) (by omega) g4 (show r < 5000 by omega) q2 (fun d hd => (q3 d hd).2)
  have x1e : fX4_layBest n X1 0 = some (X3, ()) := x1e
  have m1 : fX11_pick n M2 0 = _ := m1
  unfold fX4_findBest_j67 fX11_best_j93
  rw [x1e, bd_go, bd_go, m1, bd_go, x2e.2.1 17 (by decide), f6.1, m3 58 (by decide) (by decide) (by decide), g4]
  refine ⟨X3, M3, _, rfl, rfl, B, b, rel_se hR (kSX_tr f3 (kY_S x2e)) (kSM_tr f4 ⟨fun a c1 c2 c3 c4 c5 c6 => ?_, fun k c => ?_⟩) ⟨Or.inr m5, x4e.trans m5.symm, fun _ d hd => (x3e d hd).trans (m4 d hd).symm⟩ ⟨cn (bst' le N) N, by omega, ?_, ?_, fun i hi => ?_⟩⟩
  · rw [m2 a c1 c2 c4, g2 a c1 c6]
  · rw [m3 k (by omega) (by omega) (by omega), g3 k (by omega)]
  · rw [x2e.2.1 17 (by decide)]; exact f6.1
  · rw [m3 58 (by decide) (by decide) (by decide)]; exact g4
  · obtain ⟨r, q1, q2, q3, q4⟩ := hrow i hi
    rw [m2 27 (by decide) (by decide) (by decide), m2 26 (by decide) (by decide) (by decide), x2e.2.2]
    exact ⟨r, _, by omega, q2, q3, q4⟩
