/-! TRICK -/
theorem apV_nn {B : Bd} {ra rb : Nat → Int32} {l : Nat} {odd : Int32} : 0 ≤ (apV B ra rb l odd).toInt := apS_nn _
section
variable {n : Nat} {B : Bd} {b gd g m u : Nat} {ra : Nat → Int32} {Sx Sm X M : St} {p : Nat → Nat}
theorem trick_body {l1 l2 : Nat} {x3 : Int32} {x4 y4 : Int64} {i N : Nat} (hn : 200000 ≤ n) (hS : Sc B b gd g m u ra Sx Sm) (hN : mixN (b_nd B) m u = N) (hN31 : N < 2 ^ 31) (hi : i < N) (h1 : l1 < b_nl B) (h2 : l2 < b_nl B) (h : Jn B b g m u ra Sx Sm p X M) (hs : Bs Sx Sm X M) (hl1 : M.1 0 52 = 1 → x4 = y4) (hl0 : M.1 0 52 = 0 → x4 = -1) (j j' : Nat) : ∃ X' M' z y, fX4_findTrick_l58 n (j + 1) X (nI l1) (nI l2) x3 x4 (nI i) = fX4_findTrick_j158 n (fX4_findTrick_l58 n j) X' (nI l1) (nI l2) x3 z (nI i) ∧ fX11_trick_l56 n (j' + 1) M (nI l1) (nI l2) x3 y4 1 = fX11_trick_j129 n (fX11_trick_l56 n j') M' (nI l1) (nI l2) x3 y ∧ Jn B b g m u ra Sx Sm p X' M' ∧ Bs Sx Sm X' M' ∧ (M'.1 0 52 = 1 → z = y) ∧ (M'.1 0 52 = 0 → z = -1) := by
  have hB := hS.1.1
  have hb := hS.1.2.1.1
  have hno : b_no B ≤ 8 := hB.2.2.2.2.2.2.2.2.2.1
  have hgd := hS.2.1
  have h14 : X.1 243 14 = nI N := by rw [h.1.2.2.1 14 (by omega), hS.2.2.2.2.2.2.1, hN]
  have hM := Jn_M hS h
  have s7 := hS.2.2.2.2.2.2.2.1
  obtain ⟨kk, -⟩ := bk hb
  obtain ⟨ro, ri⟩ := rowK (i := gd) (by omega)
  obtain ⟨X1, x1e, hJ1, r1, r2, r3, r4, r5, r6, r7, r8⟩ := both_row hn hS h
  have hX1 := Jn_X hS hJ1
  have e1 : fX0_areAlike sdX n X1 b 255 (161 + gd) (nI l1) x3 = some (X1, alV B ra (thr B g p) l1 x3) := by
    rw [areAlike_spec hn hb hB hX1 ⟨by decide, by decide⟩ ri h1, alV_congr r1 r3, alV_sym hB s7 r2 h1]
  have e2 : fX11_isAlike n M (nI l1) x3 = some (M, alV B ra (thr B g p) l1 x3) := isAlike_spec hn hM hB h1 h.2.2.2.2.2.2 h.2.2.2.1.2.2.1 s7 r2
  have e3 : fX0_apartOf sdX n X1 b 255 (161 + gd) (nI l2) x3 = some (X1, apV B ra (thr B g p) l2 x3) := by
    rw [apartOf_spec hn hb hB hX1 ⟨by decide, by decide⟩ ri h2, apV_congr r1 r3, apV_sym hB s7 r2 h2]
  have e4 : fX11_apartBy n M (nI l2) x3 = some (M, apV B ra (thr B g p) l2 x3) := apartBy_spec hn hM hB h2 h.2.2.2.2.2.2 h.2.2.2.1.2.2.1 s7 r2
  have hnn := apV_nn (B := B) (ra := ra) (rb := thr B g p) (l := l2) (odd := x3)
  have hpe := pref_eq hB hJ1.2.2.1 hJ1.2.2.2.1 hJ1.2.2.2.2.1
  obtain ⟨X2, M2, k1, k2, k3, k4, -, -, k5⟩ := both_keep hn hS hJ1
  have em : (-1 : Int64).toInt = -1 := rfl
  have e0 : (0 : Int64).toInt = 0 := rfl
  rw [fX4_findTrick_l58, h14, if_neg (nI_ge hi hN31), x1e, bd_go, r5, gd_pos kk, r4, gd_pos (ib_nI (by omega) (by decide)), cl_nI (by omega), ro, gd_pos ri.1, e1, bd_go, fX11_trick_l56, if_neg one_ne, e2, bd_go]
  by_cases c1 : alV B ra (thr B g p) l1 x3 = 0
  · rw [if_pos c1, if_pos c1]
    unfold fX11_trick_j82
    rw [if_pos (lg_neg.mpr (by rw [Int64.lt_iff_toInt_lt, em, e0]; decide))]
    exact ⟨X1, M, x4, y4, rfl, rfl, hJ1, r8 hs, hl1, hl0⟩
  rw [if_neg c1, if_neg c1, r5, gd_pos kk, r4, gd_pos (ib_nI (by omega) (by decide)), cl_nI (by omega), ro, gd_pos ri.1, e3, bd_go, isPref_spec, bd_go, hpe, e4, bd_go]
  generalize apV B ra (thr B g p) l2 x3 = F at hnn ⊢
  unfold fX11_trick_j82 fX4_findTrick_j150 fX11_trick_j121
  have cF : ¬ lg_cmp F 0 < 0 := fun q => by
    have := Int64.lt_iff_toInt_lt.mp (lg_neg.mp q)
    rw [e0] at this
    omega
  rw [if_neg cF, k1, bd_go, k2, bd_go, isCheap_spec hn hM hB, bd_go]
  rcases h.2.2.2.2.1.1 with z | z
  · have e5 := hl0 z
    subst e5
    rw [if_pos z, if_pos z, if_pos (lg_pos.mpr (by rw [Int64.lt_iff_toInt_lt, em]; omega))]
    exact ⟨X2, M2, F, F, rfl, rfl, k3, k5 (r8 hs), fun _ => rfl, fun w => by rw [k4] at w; exact absurd w (by decide)⟩
  · have e5 := hl1 z
    subst e5
    rw [z, if_neg one_ne, if_neg one_ne]
    by_cases c2 : 0 < lg_cmp F x4
    · rw [if_pos c2, if_pos c2]
      exact ⟨X2, M2, F, F, rfl, rfl, k3, k5 (r8 hs), fun _ => rfl, fun w => by rw [k4] at w; exact absurd w (by decide)⟩
    rw [if_neg c2, if_neg c2]
    by_cases c3 : lg_cmp F x4 = 0
    · rw [if_pos c3, if_pos c3]
      by_cases c4 : prf (M.1 0 53) (M.1 0 54) (costS B M) (sumS B M) = 0
      · rw [if_pos c4, if_pos c4]
        exact ⟨X1, M, x4, x4, rfl, rfl, hJ1, r8 hs, fun _ => rfl, hl0⟩
      · rw [if_neg c4, if_neg c4, k2, bd_go]
        exact ⟨X2, M2, F, F, rfl, rfl, k3, k5 (r8 hs), fun _ => rfl, fun w => by rw [k4] at w; exact absurd w (by decide)⟩
    · rw [if_neg c3, if_neg c3]
      exact ⟨X1, M, x4, x4, rfl, rfl, hJ1, r8 hs, fun _ => rfl, hl0⟩
theorem trick_loop {l1 l2 : Nat} {x3 : Int32} {N : Nat} {pe : Nat → Nat} (hn : 200000 ≤ n) (hS : Sc B b gd g m u ra Sx Sm) (hN : mixN (b_nd B) m u = N) (hN31 : N < 2 ^ 31) (h1 : l1 < b_nl B) (h2 : l2 < b_nl B) (hend : adv m u pe (b_nd B) = none) : ∀ (k i j j' : Nat) (p : Nat → Nat) (X M : St) (x4 y4 : Int64), Run m u (b_nd B) k p pe → i + k + 1 = N → k + 1 < j → k + 1 < j' → Jn B b g m u ra Sx Sm p X M → Bs Sx Sm X M → (M.1 0 52 = 1 → x4 = y4) → (M.1 0 52 = 0 → x4 = -1) → ∃ X' M' r, fX4_findTrick_l58 n j X (nI l1) (nI l2) x3 x4 (nI i) = some (X', r) ∧ fX11_trick_l56 n j' M (nI l1) (nI l2) x3 y4 1 = some (M', r) ∧ kSX Sx X' ∧ kSM Sm M' ∧ Kp X' M' ∧ Bs Sx Sm X' M' := by
  intro k
  induction k with
  | zero =>
    intro i j j' p X M x4 y4 hr hi hj hj' h hs hl1 hl0
    obtain ⟨j, rfl⟩ := suc_of hj
    obtain ⟨j', rfl⟩ := suc_of hj'
    obtain ⟨j, rfl⟩ := suc_of (show 0 < j by omega)
    obtain ⟨j', rfl⟩ := suc_of (show 0 < j' by omega)
    have hr : p = pe := hr
    subst hr
    obtain ⟨X1, M1, z, y, b1, b2, b3, b4, b6, b7⟩ := trick_body (x3 := x3) hn hS hN hN31 (show i < N by omega) h1 h2 h hs hl1 hl0 (j + 1) (j' + 1)
    obtain ⟨X2, M2, r, a1, a2, a3, a4, a5, n1, n2, n3, a6⟩ := both_adv hn hS b3
    have b5 := Bs_adv b4 n1 n2 n3
    rw [b1, b2]
    unfold fX4_findTrick_j158 fX11_trick_j129
    rw [a1, bd_go, a2, bd_go, bn_go, nI_1, show i + 1 = N by omega]
    have h14 : X2.1 243 14 = nI N := by rw [a3.2.2.1 14 (by omega), hS.2.2.2.2.2.2.1, hN]
    rcases a6 with ⟨-, rfl⟩ | ⟨q, q1, -⟩
    · rw [fX4_findTrick_l58, h14, if_pos (nI_le (Nat.le_refl _) hN31), fX11_trick_l56, if_pos rfl]
      unfold fX11_trick_j138
      rw [← n3.1] at b6 b7
      rcases a5.1 with w | w
      · rw [w, if_pos rfl, b7 w]
        exact ⟨X2, M2, _, rfl, rfl, a3, a4, a5, b5⟩
      · rw [w, if_neg one_ne, b6 w]
        exact ⟨X2, M2, _, rfl, rfl, a3, a4, a5, b5⟩
    · rw [hend] at q1; exact absurd q1 (by simp)
  | succ k ih =>
    intro i j j' p X M x4 y4 hr hi hj hj' h hs hl1 hl0
    obtain ⟨j, rfl⟩ := suc_of hj
    obtain ⟨j', rfl⟩ := suc_of hj'
    obtain ⟨p1, e1, hr⟩ := hr
    obtain ⟨X1, M1, z, y, b1, b2, b3, b4, b6, b7⟩ := trick_body (x3 := x3) hn hS hN hN31 (show i < N by omega) h1 h2 h hs hl1 hl0 j j'
    obtain ⟨X2, M2, r, a1, a2, a3, a4, a5, n1, n2, n3, a6⟩ := both_adv hn hS b3
    have b5 := Bs_adv b4 n1 n2 n3
    rw [b1, b2]
    unfold fX4_findTrick_j158 fX11_trick_j129
    rw [a1, bd_go, a2, bd_go, bn_go, nI_1]
    rcases a6 with ⟨w, -⟩ | ⟨q, q1, rfl, q3⟩
    · rw [e1] at w; exact absurd w (by simp)
    · rw [e1] at q1
      have q1 : p1 = q := Option.some.inj q1
      subst q1
      exact ih (i + 1) j j' p1 X2 M2 z y hr (by omega) (by omega) (by omega) q3 b5 (fun w => b6 (by rw [← n3.1]; exact w)) (fun w => b7 (by rw [← n3.1]; exact w))
end
theorem findTrick_eq {n k a : Nat} {S : St} {x1 x2 x3 : Int32} (h1 : isK sdX (S.2.2 243 0) 0) (he : srX (S.2.2 243 0) 2 = a) (h2 : isK sdX a 5) (hc : S.1 a 3 = nI k) : fX4_findTrick n S x1 x2 x3 = bn (sI S 243 15 0) (fun S1 : St => if S1.1 243 13 = 0 then some (S1, (-1 : Int64)) else if inR x1 k = 0 then some (S1, -1) else if inR x2 k = 0 then some (S1, -1) else if S1.1 243 14 ≤ 100000 then bd (stO n S1) (fun S4 _ => fX4_findTrick_l58 n n S4 x1 x2 x3 (-1) 0) else some (S1, -2)) := by
  have j0 : fX4_findTrick_j33 n S x1 x2 x3 = some (sI S 243 15 0, (-1 : Int64)) := by
    unfold fX4_findTrick_j33 fX4_findTrick_j34
    rw [st_bd, bn_go]
    simp only [mo_ne, mo_l, ↓reduceIte, ite_self]
  unfold fX4_findTrick
  rw [gd_pos h1, he, gd_pos h2, has_spec h2 hc, bd_go, gd_pos h1, he, gd_pos h2, has_spec h2 hc, bd_go, j0, bn_go]
  by_cases c1 : inR x1 k = 0
  · rw [if_pos c1, if_pos c1, ite_self]
  rw [if_neg c1, if_neg c1]
  by_cases c2 : inR x2 k = 0
  · rw [if_pos c2, if_pos c2, ite_self]
  rw [if_neg c2, if_neg c2]
  unfold fX4_findTrick_j34
  rw [st_bd, bn_go]
  simp only [mo_ne, mt_ne, mo_l, mt_l, one_ne, ↓reduceIte]
theorem ok_trick {n : Nat} {Sx Sm : St} (hn : 200000 ≤ n) (hn2 : n < 2 ^ 31) (h : Rel Sx Sm) : Ok_trick n Rel Sx Sm := by
  intro x1 x2 x3 _
  obtain ⟨B, b, hR0⟩ := id h
  have hR := rel_un hR0
  have e15 : (sI Sx 243 15 0).1 243 15 = 0 := by rw [sI_row, upd_eq]
  have e52 : (sI Sm 0 52 0).1 0 52 = 0 := by rw [sI_row, upd_eq]
  obtain ⟨-, ⟨hb0, -, -, hr20⟩, hX00, -⟩ := id hR0
  obtain ⟨kk0, ⟨-, -, t20, -, -⟩, -, -, k20, -, -⟩ := bk hb0
  unfold fX10_trick fX11_trick
  rw [findTrick_eq (by rw [hr20]; exact kk0) (by rw [hr20]; exact t20) k20 hX00.2.2.2.2.2.2.2.1, bn_go, bn_go]
  generalize sI Sx 243 15 0 = X0 at hR e15 ⊢
  generalize sI Sm 0 52 0 = M0 at hR e52 ⊢
  obtain ⟨hB, ⟨hb, hr, hr0, hr2⟩, hX, hlim, hM, ht, hv, hbx, hl, ho, ⟨a1, a2, a3⟩, -⟩ := id hR
  have hnl : b_nl B ≤ 6 := hB.2.2.2.2.2.2.2.1
  rw [a2]
  rcases a1 with z | z
  · rw [z, if_pos rfl, if_pos rfl]
    exact ⟨X0, M0, _, rfl, rfl, B, b, hR⟩
  rw [z, if_neg one_ne, if_neg one_ne, isLamp_spec hM hB, bd_go]
  by_cases c1 : inR x1 (b_nl B) = 0
  · rw [if_pos c1, if_pos c1]
    exact ⟨X0, M0, _, rfl, rfl, B, b, hR⟩
  rw [if_neg c1, if_neg c1, isLamp_spec hM hB, bd_go]
  by_cases c3 : inR x2 (b_nl B) = 0
  · rw [if_pos c3, if_pos c3]
    exact ⟨X0, M0, _, rfl, rfl, B, b, hR⟩
  rw [if_neg c3, if_neg c3]
  obtain ⟨l1, h1', rfl⟩ := inR_of (by omega) c1
  obtain ⟨l2, h2', rfl⟩ := inR_of (by omega) c3
  obtain ⟨gd, g, m, u, ra, X, M, hS, s1, s2, s3, s4, s5, h52⟩ := both_start hn hn2 hR z e52 e15
  have hd8 : b_nd B ≤ 8 := hB.2.2.2.2.2.1
  have hmo := hB.2.1
  have hlt := mixN_lt hd8 (show m ≤ 24 by have := hS.2.2.2.1; omega) hS.2.2.2.2.1
  rw [s1, bd_go, hS.2.2.2.2.2.2.1]
  by_cases c2 : nI (mixN (b_nd B) m u) ≤ 100000
  case neg =>
    rw [if_neg c2, if_neg c2]
    exact ⟨X0, M0, _, rfl, rfl, B, b, hR⟩
  have c2' : mixN (b_nd B) m u ≤ 100000 := (nI_leI hlt (by decide)).mp (show nI (mixN (b_nd B) m u) ≤ nI 100000 from c2)
  rw [if_pos c2, if_pos c2, s2, bd_go, s3, bd_go]
  obtain ⟨pe, e1, e2⟩ := run_all m u (b_nd B)
  have h1 := mixN_1 (b_nd B) m u
  obtain ⟨X', M', r, f1, f2, f3, f4, f5, f6⟩ := trick_loop (x3 := x3) hn hS rfl hlt h1' h2' e2 (mixN (b_nd B) m u - 1) 0 n n (fun _ => 0) X M (-1) 0 e1 (by omega) (by omega) (by omega) s4 s5 (fun w => by rw [h52] at w; exact absurd w (by decide)) (fun _ => rfl)
  have f1 : fX4_findTrick_l58 n n X (nI l1) (nI l2) x3 (-1) 0 = _ := f1
  rw [f1, bd_go, f2]
  exact ⟨X', M', r, rfl, rfl, B, b, rel_se hR f3 f4 (Kp_Gn f5) (Gs_fr hR f6.1 (by rw [f6.2.1]) f6.2.2.1 f6.2.2.2.1 f6.2.2.2.2)⟩
