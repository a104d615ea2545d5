theorem findMatch_eq {n : Nat} {S : St} {v x1 x2 : Int32} (hL : fX4_hasLamps n S x1 = some (S, v)) : fX4_findMatch n S x1 x2 = bn (sI S 243 15 0) (fun S1 : St => if S1.1 243 13 = 0 then some (S1, (-1 : Int32)) else if v = 0 then some (S1, -1) else if S1.1 243 14 ≤ 100000 then bd (stO n S1) (fun S4 _ => fX4_findMatch_l21 n n S4 x1 x2 0) else some (S1, -2)) := by
  unfold fX4_findMatch
  rw [hL, bd_go, st_bd]
  simp only [mo_ne, mt_ne, ↓reduceIte]
theorem ok_match {n : Nat} {Sx Sm : St} (hn : 200000 ≤ n) (hn2 : n < 2 ^ 31) (h : Rel Sx Sm) : Ok_match n Rel Sx Sm := by
  intro x1 x2 _
  obtain ⟨B, b, hR0⟩ := id h
  have hR := rel_un hR0
  have e15 : (sI Sx 243 15 0).1 243 15 = 0 := by rw [sI_row, upd_eq]
  have e52 : (sI Sm 0 52 0).1 0 52 = 0 := by rw [sI_row, upd_eq]
  obtain ⟨-, ⟨hb0, -, -, hr20⟩, hX00, -⟩ := id hR0
  unfold fX10_match fX11_match
  rw [findMatch_eq (hasLamps_spec hb0 hr20 hX00), bn_go, bn_go]
  generalize sI Sx 243 15 0 = X0 at hR e15 ⊢
  generalize sI Sm 0 52 0 = M0 at hR e52 ⊢
  obtain ⟨hB, ⟨hb, hr, hr0, hr2⟩, hX, hlim, hM, ht, hv, hbx, hl, ho, ⟨a1, a2, a3⟩, -⟩ := id hR
  rw [a2]
  rcases a1 with z | z
  · rw [z, if_pos rfl, if_pos rfl]
    exact ⟨X0, M0, _, rfl, rfl, B, b, hR⟩
  rw [z, if_neg one_ne, if_neg one_ne, isSet_spec hM, bd_go]
  by_cases c1 : setV (b_nl B) x1 = 0
  · rw [if_pos c1, if_pos c1]
    exact ⟨X0, M0, _, rfl, rfl, B, b, hR⟩
  rw [if_neg c1, if_neg c1]
  obtain ⟨gd, g, m, u, ra, X, M, hS, s1, s2, s3, s4, s5, h52⟩ := both_start hn hn2 hR z e52 e15
  have hd8 : b_nd B ≤ 8 := hB.2.2.2.2.2.1
  have hmo := hB.2.1
  have hlt := mixN_lt hd8 (show m ≤ 24 by have := hS.2.2.2.1; omega) hS.2.2.2.2.1
  rw [s1, bd_go, hS.2.2.2.2.2.2.1]
  by_cases c2 : nI (mixN (b_nd B) m u) ≤ 100000
  case neg =>
    rw [if_neg c2, if_neg c2]
    exact ⟨X0, M0, _, rfl, rfl, B, b, hR⟩
  have c2' : mixN (b_nd B) m u ≤ 100000 := (nI_leI hlt (by decide)).mp (show nI (mixN (b_nd B) m u) ≤ nI 100000 from c2)
  rw [if_pos c2, if_pos c2, s2, bd_go, s3, bd_go]
  obtain ⟨pe, e1, e2⟩ := run_all m u (b_nd B)
  have h1 := mixN_1 (b_nd B) m u
  obtain ⟨X', M', r, f1, f2, f3, f4, f5, f6⟩ := match_loop (x1 := x1) (x2 := x2) hn hS rfl hlt e2 (mixN (b_nd B) m u - 1) 0 n n (fun _ => 0) X M e1 (by omega) (by omega) (by omega) s4 s5
  have f1 : fX4_findMatch_l21 n n X x1 x2 0 = _ := f1
  rw [f1, bd_go, f2]
  exact ⟨X', M', r, rfl, rfl, B, b, rel_se hR f3 f4 (Kp_Gn f5) (Gs_fr hR f6.1 (by rw [f6.2.1]) f6.2.2.1 f6.2.2.2.1 f6.2.2.2.2)⟩
/-! NEAREST -/
def fsV (ap : Nat → Int64) (x1 : Int32) : Nat → Int64
  | 0 => 0
  | l + 1 => if ((x1 >>> (nI l &&& 31)) &&& 1) = 0 then fsV ap x1 l else mxL (fsV ap x1 l) (ap l)
theorem and1 (y : Int32) : y &&& 1 = 0 ∨ y &&& 1 = 1 := by
  have h : (y &&& 1).toBitVec.toNat = y.toBitVec.toNat % 2 := by
    rw [Int32.toBitVec_and, BitVec.toNat_and]
    exact Nat.and_one_is_mod _
  rcases Nat.mod_two_eq_zero_or_one y.toBitVec.toNat with e | e
  · left
    apply Int32.toBitVec_inj.mp
    apply BitVec.eq_of_toNat_eq
    rw [h, e]
    rfl
  · right
    apply Int32.toBitVec_inj.mp
    apply BitVec.eq_of_toNat_eq
    rw [h, e]
    rfl
theorem fsV_nn {ap : Nat → Int64} {x1 : Int32} : ∀ l, 0 ≤ (fsV ap x1 l).toInt
  | 0 => by rw [fsV]; decide
  | l + 1 => by
    have := fsV_nn (ap := ap) (x1 := x1) l
    rw [fsV]
    split
    · exact this
    · rw [mxL_int]; omega
theorem fsV_le {ap : Nat → Int64} {x1 : Int32} {C : Int} (hC : 0 ≤ C) : ∀ {l : Nat}, (∀ i, i < l → (ap i).toInt ≤ C) → (fsV ap x1 l).toInt ≤ C
  | 0, _ => by rw [fsV]; exact hC
  | l + 1, h => by
    have h1 := fsV_le (ap := ap) (x1 := x1) hC (l := l) (fun i hi => h i (by omega))
    have h2 := h l (by omega)
    rw [fsV]
    split
    · exact h1
    · rw [mxL_int]; omega
theorem fsV_up {ap : Nat → Int64} {x1 : Int32} {a : Nat} : ∀ {l : Nat}, a ≤ l → (fsV ap x1 a).toInt ≤ (fsV ap x1 l).toInt
  | 0, h => by rw [show a = 0 by omega]; exact Int.le_refl _
  | l + 1, h => by
    by_cases e : a = l + 1
    · rw [e]; exact Int.le_refl _
    · have h1 := fsV_up (ap := ap) (x1 := x1) (a := a) (l := l) (by omega)
      rw [fsV]
      split
      · exact h1
      · rw [mxL_int]; omega
theorem mxL_0 {x : Int64} (h : 0 ≤ x.toInt) : mxL x 0 = x := by
  apply Int64.toInt_inj.mp
  have e0 : (0 : Int64).toInt = 0 := rfl
  rw [mxL_int, e0]
  omega
theorem apV_le {B : Bd} {ra rb : Nat → Int32} {l : Nat} {odd : Int32} (hB : Bok B) (ha : okR B ra) (hb : okR B rb) (hl : l < b_nl B) : (apV B ra rb l odd).toInt ≤ 1411344000 := by
  unfold apV
  rw [apS_d1S]
  exact d1S_le (fun e he => dfV_abs hB ha hb hl he) _ (Nat.le_refl _)
section
variable {n : Nat} {B : Bd} {b gd g m u : Nat} {ra : Nat → Int32} {Sx Sm X M : St} {p : Nat → Nat}
theorem nearX_in {x1 x2 : Int32} {lim : Int64} (hn : 200000 ≤ n) (hS : Sc B b gd g m u ra Sx Sm) (h : Jn B b g m u ra Sx Sm p X M) (r1 : ∀ j, j < b_nb B → X.1 255 j = thr B g p j) (r2 : okR B (thr B g p)) (r3 : ∀ j, j < b_nb B → X.1 (161 + gd) j = ra j) (r4 : X.1 243 3 = nI gd) (r5 : X.2.2 243 0 = b) : ∀ (w l j : Nat), l + w = b_nl B → w < j → ∃ r, fX4_greatestApart_l15 n j X x1 x2 lim 255 (fsV (fun l => apV B ra (thr B g p) l x2) x1 l) (nI l) = some (X, r) ∧ (r = fsV (fun l => apV B ra (thr B g p) l x2) x1 (b_nl B) ∨ (lim.toInt < r.toInt ∧ lim.toInt < (fsV (fun l => apV B ra (thr B g p) l x2) x1 (b_nl B)).toInt)) := by
  obtain ⟨hR, s1, s2, s3, s4, s5, s6, s7, s8⟩ := id hS
  have hB := hR.1
  have hb := hR.2.1.1
  have hno : b_no B ≤ 8 := hB.2.2.2.2.2.2.2.2.2.1
  have hnl : b_nl B ≤ 6 := hB.2.2.2.2.2.2.2.1
  have hX := Jn_X hS h
  obtain ⟨kk, ⟨t0, t1, t2, t3, t4⟩, k0, k1, k2, k3, k4⟩ := bk hb
  obtain ⟨ro, ri⟩ := rowK (i := gd) (by omega)
  intro w
  induction w with
  | zero =>
    intro l j hl hj
    obtain ⟨j, rfl⟩ := suc_of hj
    rw [fX4_greatestApart_l15, r5, gd_pos kk, t2, gd_pos k2, hX.2.2.2.2.2.2.2.1, if_pos (nI_le (by omega) (by omega))]
    exact ⟨_, rfl, Or.inl (by rw [show l = b_nl B by omega])⟩
  | succ w ih =>
    intro l j hl hj
    obtain ⟨j, rfl⟩ := suc_of hj
    have e1 : fX0_apartOf sdX n X b 255 (161 + gd) (nI l) x2 = some (X, apV B ra (thr B g p) l x2) := by
      rw [apartOf_spec hn hb hB hX ⟨by decide, by decide⟩ ri (show l < b_nl B by omega), apV_congr r1 r3, apV_sym hB s7 r2 (by omega)]
    have hup := fsV_up (ap := fun l => apV B ra (thr B g p) l x2) (x1 := x1) (a := l) (l := b_nl B) (by omega)
    have e2 := ih (l + 1) j (by omega) (by omega)
    rw [fX4_greatestApart_l15, r5, gd_pos kk, t2, gd_pos k2, hX.2.2.2.2.2.2.2.1, if_neg (nI_ge (by omega) (by omega))]
    by_cases c0 : 0 < lg_cmp (fsV (fun l => apV B ra (thr B g p) l x2) x1 l) lim
    · rw [if_pos c0]
      have c0' := Int64.lt_iff_toInt_lt.mp (lg_pos.mp c0)
      exact ⟨_, rfl, Or.inr ⟨c0', by omega⟩⟩
    rw [if_neg c0]
    unfold fX4_greatestApart_j77
    by_cases c1 : ((x1 >>> (nI l &&& 31)) &&& 1) = 0
    · rw [fsV, if_pos c1] at e2
      rw [if_pos c1, bn_go, nI_1]
      exact e2
    · rw [fsV, if_neg c1] at e2
      rw [if_neg c1, r4, gd_pos (ib_nI (by omega) (by decide)), cl_nI (by omega), ro, gd_pos ri.1, e1, bd_go, bn_go, bn_go, nI_1]
      exact e2
theorem nearM_in {x1 x2 : Int32} (hn : 200000 ≤ n) (hS : Sc B b gd g m u ra Sx Sm) (h : Jn B b g m u ra Sx Sm p X M) (r2 : okR B (thr B g p)) : ∀ (w l j : Nat), l + w = b_nl B → w < j → fX11_farthest_l5 n j M x1 x2 (fsV (fun l => apV B ra (thr B g p) l x2) x1 l) (nI l) = some (M, fsV (fun l => apV B ra (thr B g p) l x2) x1 (b_nl B)) := by
  obtain ⟨hR, s1, s2, s3, s4, s5, s6, s7, s8⟩ := id hS
  have hB := hR.1
  have hnl : b_nl B ≤ 6 := hB.2.2.2.2.2.2.2.1
  have hM := Jn_M hS h
  intro w
  induction w with
  | zero =>
    intro l j hl hj
    obtain ⟨j, rfl⟩ := suc_of hj
    rw [fX11_farthest_l5, lamps_spec hM, bd_go, if_pos (nI_le (by omega) (by omega)), show l = b_nl B by omega]
  | succ w ih =>
    intro l j hl hj
    obtain ⟨j, rfl⟩ := suc_of hj
    have e1 : fX11_apartBy n M (nI l) x2 = some (M, apV B ra (thr B g p) l x2) := apartBy_spec hn hM hB (by omega) h.2.2.2.2.2.2 h.2.2.2.1.2.2.1 s7 r2
    have e2 := ih (l + 1) j (by omega) (by omega)
    have e3 : ∀ x3 y0 : Int64, fX11_farthest_j35 n (fX11_farthest_l5 n j) M x1 x2 x3 (nI l) y0 = fX11_farthest_l5 n j M x1 x2 (mxL x3 y0) (nI (l + 1)) := fun x3 y0 => by
      unfold fX11_farthest_j35 fX11_farthest_j50
      rw [mxL_eq, bn_go, bn_go, nI_1]
      split <;> rfl
    rw [fX11_farthest_l5, lamps_spec hM, bd_go, if_neg (nI_ge (by omega) (by omega)), e1, bd_go, e3, e3]
    by_cases c1 : ((x1 >>> (nI l &&& 31)) &&& 1) = 0
    · rw [fsV, if_pos c1] at e2
      rw [c1, if_neg (by decide), mxL_0 (fsV_nn l)]
      exact e2
    · rw [fsV, if_neg c1] at e2
      rw [if_pos ((and1 _).resolve_left c1)]
      exact e2
theorem near_body {x1 x2 : Int32} {x3 y3 : Int64} {i N : Nat} (hn : 200000 ≤ n) (hS : Sc B b gd g m u ra Sx Sm) (hN : mixN (b_nd B) m u = N) (hN31 : N < 2 ^ 31) (hi : i < N) (h : Jn B b g m u ra Sx Sm p X M) (hs : Bs Sx Sm X M) (hl1 : M.1 0 52 = 1 → x3 = y3) (hl0 : M.1 0 52 = 0 → x3 = 9223372036854775807) (j j' : Nat) : ∃ X' M' z, fX4_findNearest_l27 n (j + 1) X x1 x2 x3 (nI i) = fX4_findNearest_j77 n (fX4_findNearest_l27 n j) X' x1 x2 z (nI i) ∧ fX11_nearest_l47 n (j' + 1) M x1 x2 y3 1 = fX11_nearest_j95 n (fX11_nearest_l47 n j') M' x1 x2 z ∧ Jn B b g m u ra Sx Sm p X' M' ∧ Bs Sx Sm X' M' ∧ M'.1 0 52 = 1 := by
  have hB := hS.1.1
  have hnl : b_nl B ≤ 6 := hB.2.2.2.2.2.2.2.1
  have h14 : X.1 243 14 = nI N := by rw [h.1.2.2.1 14 (by omega), hS.2.2.2.2.2.2.1, hN]
  have hM := Jn_M hS h
  obtain ⟨X1, x1e, hJ1, r1, r2, r3, r4, r5, r6, r7, r8⟩ := both_row hn hS h
  obtain ⟨r, q1, q2⟩ := nearX_in (x1 := x1) (x2 := x2) (lim := x3) hn hS hJ1 r1 r2 r3 r4 r5 (b_nl B) 0 n (by omega) (by omega)
  have q3 := nearM_in (x1 := x1) (x2 := x2) hn hS h r2 (b_nl B) 0 n (by omega) (by omega)
  have hFle := fsV_le (ap := fun l => apV B ra (thr B g p) l x2) (x1 := x1) (C := 1411344000) (by decide) (l := b_nl B) (fun l hl => apV_le hB hS.2.2.2.2.2.2.2.1 r2 hl)
  generalize hF : fsV (fun l => apV B ra (thr B g p) l x2) x1 (b_nl B) = F at q2 q3 hFle
  have eX : fX4_greatestApart n X x1 x2 x3 = some (X1, r) := by
    unfold fX4_greatestApart
    rw [x1e, bd_go]
    exact q1
  have eM : fX11_farthest n M x1 x2 = some (M, F) := q3
  have hpe := pref_eq hB hJ1.2.2.1 hJ1.2.2.2.1 hJ1.2.2.2.2.1
  obtain ⟨X2, M2, k1, k2, k3, k4, -, -, k5⟩ := both_keep hn hS hJ1
  rw [fX4_findNearest_l27, h14, if_neg (nI_ge hi hN31), eX, bd_go, isPref_spec, bd_go, hpe, fX11_nearest_l47, if_neg one_ne, eM, bd_go]
  unfold fX4_findNearest_j69 fX11_nearest_j88
  rw [k1, bd_go, k2, bd_go, isCheap_spec hn hM hB, bd_go]
  have emax : (9223372036854775807 : Int64).toInt = 9223372036854775807 := rfl
  rcases h.2.2.2.2.1.1 with z | z
  · rw [if_pos z, if_pos z]
    have e3 := hl0 z
    subst e3
    have hrF : r = F := by
      rcases q2 with q | ⟨-, q⟩
      · exact q
      · rw [emax] at q; omega
    subst hrF
    rw [if_pos (lg_neg.mpr (by rw [Int64.lt_iff_toInt_lt, emax]; omega))]
    exact ⟨X2, M2, r, rfl, rfl, k3, k5 (r8 hs), k4⟩
  · have e3 := hl1 z
    subst e3
    rw [z, if_neg one_ne, if_neg one_ne]
    by_cases c1 : F < x3
    · have c1' := Int64.lt_iff_toInt_lt.mp c1
      have hrF : r = F := by
        rcases q2 with q | ⟨-, q⟩
        · exact q
        · omega
      subst hrF
      rw [if_pos (lg_neg.mpr c1), if_pos (lg_neg.mpr c1)]
      exact ⟨X2, M2, r, rfl, rfl, k3, k5 (r8 hs), k4⟩
    · have c1' : ¬ F.toInt < x3.toInt := fun q => c1 (Int64.lt_iff_toInt_lt.mpr q)
      have c1r : ¬ r < x3 := fun q => by
        have q' := Int64.lt_iff_toInt_lt.mp q
        rcases q2 with w | ⟨w, -⟩
        · subst w; exact c1 q
        · omega
      rw [if_neg (fun q => c1r (lg_neg.mp q)), if_neg (fun q => c1 (lg_neg.mp q))]
      by_cases c2 : F = x3
      · have hrF : r = F := by
          rcases q2 with q | ⟨-, q⟩
          · exact q
          · rw [c2] at q; omega
        subst hrF
        rw [if_pos (lg_eq.mpr c2), if_pos (lg_eq.mpr c2)]
        by_cases c4 : prf (M.1 0 53) (M.1 0 54) (costS B M) (sumS B M) = 0
        · rw [if_pos c4, if_pos c4]
          exact ⟨X1, M, x3, rfl, rfl, hJ1, r8 hs, z⟩
        · rw [if_neg c4, if_neg c4, k2, bd_go]
          exact ⟨X2, M2, r, rfl, rfl, k3, k5 (r8 hs), k4⟩
      · have c2r : ¬ r = x3 := fun q => by
          rcases q2 with w | ⟨w, -⟩
          · subst w; exact c2 q
          · rw [q] at w; omega
        rw [if_neg (fun q => c2r (lg_eq.mp q)), if_neg (fun q => c2 (lg_eq.mp q))]
        exact ⟨X1, M, x3, rfl, rfl, hJ1, r8 hs, z⟩
theorem near_loop {x1 x2 : Int32} {N : Nat} {pe : Nat → Nat} (hn : 200000 ≤ n) (hS : Sc B b gd g m u ra Sx Sm) (hN : mixN (b_nd B) m u = N) (hN31 : N < 2 ^ 31) (hend : adv m u pe (b_nd B) = none) : ∀ (k i j j' : Nat) (p : Nat → Nat) (X M : St) (x3 y3 : Int64), Run m u (b_nd B) k p pe → i + k + 1 = N → k + 1 < j → k + 1 < j' → Jn B b g m u ra Sx Sm p X M → Bs Sx Sm X M → (M.1 0 52 = 1 → x3 = y3) → (M.1 0 52 = 0 → x3 = 9223372036854775807) → ∃ X' M' r, fX4_findNearest_l27 n j X x1 x2 x3 (nI i) = some (X', r) ∧ fX11_nearest_l47 n j' M x1 x2 y3 1 = some (M', r) ∧ kSX Sx X' ∧ kSM Sm M' ∧ Kp X' M' ∧ Bs Sx Sm X' M' := by
  intro k
  induction k with
  | zero =>
    intro i j j' p X M x3 y3 hr hi hj hj' h hs hl1 hl0
    obtain ⟨j, rfl⟩ := suc_of hj
    obtain ⟨j', rfl⟩ := suc_of hj'
    obtain ⟨j, rfl⟩ := suc_of (show 0 < j by omega)
    obtain ⟨j', rfl⟩ := suc_of (show 0 < j' by omega)
    have hr : p = pe := hr
    subst hr
    obtain ⟨X1, M1, z, b1, b2, b3, b4, b6⟩ := near_body (x1 := x1) (x2 := x2) hn hS hN hN31 (show i < N by omega) h hs hl1 hl0 (j + 1) (j' + 1)
    obtain ⟨X2, M2, r, a1, a2, a3, a4, a5, n1, n2, n3, a6⟩ := both_adv hn hS b3
    have b5 := Bs_adv b4 n1 n2 n3
    rw [b1, b2]
    unfold fX4_findNearest_j77 fX11_nearest_j95
    rw [a1, bd_go, a2, bd_go, bn_go, nI_1, show i + 1 = N by omega]
    have h14 : X2.1 243 14 = nI N := by rw [a3.2.2.1 14 (by omega), hS.2.2.2.2.2.2.1, hN]
    rcases a6 with ⟨-, rfl⟩ | ⟨q, q1, -⟩
    · rw [fX4_findNearest_l27, h14, if_pos (nI_le (Nat.le_refl _) hN31), fX11_nearest_l47, if_pos rfl]
      exact ⟨X2, M2, z, rfl, rfl, a3, a4, a5, b5⟩
    · rw [hend] at q1; exact absurd q1 (by simp)
  | succ k ih =>
    intro i j j' p X M x3 y3 hr hi hj hj' h hs hl1 hl0
    obtain ⟨j, rfl⟩ := suc_of hj
    obtain ⟨j', rfl⟩ := suc_of hj'
    obtain ⟨p1, e1, hr⟩ := hr
    obtain ⟨X1, M1, z, b1, b2, b3, b4, b6⟩ := near_body (x1 := x1) (x2 := x2) hn hS hN hN31 (show i < N by omega) h hs hl1 hl0 j j'
    obtain ⟨X2, M2, r, a1, a2, a3, a4, a5, n1, n2, n3, a6⟩ := both_adv hn hS b3
    have b5 := Bs_adv b4 n1 n2 n3
    rw [b1, b2]
    unfold fX4_findNearest_j77 fX11_nearest_j95
    rw [a1, bd_go, a2, bd_go, bn_go, nI_1]
    rcases a6 with ⟨w, -⟩ | ⟨q, q1, rfl, q3⟩
    · rw [e1] at w; exact absurd w (by simp)
    · rw [e1] at q1
      have q1 : p1 = q := Option.some.inj q1
      subst q1
      exact ih (i + 1) j j' p1 X2 M2 z z hr (by omega) (by omega) (by omega) q3 b5 (fun _ => rfl) (fun w => by rw [n3.1, b6] at w; exact absurd w (by decide))
end
theorem findNearest_eq {n : Nat} {S : St} {v x1 x2 : Int32} (hL : fX4_hasLamps n S x1 = some (S, v)) : fX4_findNearest n S x1 x2 = bn (sI S 243 15 0) (fun S1 : St => if S1.1 243 13 = 0 then some (S1, (-1 : Int64)) else if v = 0 then some (S1, -1) else if S1.1 243 14 ≤ 100000 then bd (stO n S1) (fun S4 _ => fX4_findNearest_l27 n n S4 x1 x2 9223372036854775807 0) else some (S1, -2)) := by
  unfold fX4_findNearest
  rw [hL, bd_go, st_bd]
  simp only [mo_ne, mt_ne, mo_l, mt_l, ↓reduceIte]
theorem ok_nearest {n : Nat} {Sx Sm : St} (hn : 200000 ≤ n) (hn2 : n < 2 ^ 31) (h : Rel Sx Sm) : Ok_nearest n Rel Sx Sm := by
  intro x1 x2 _
  obtain ⟨B, b, hR0⟩ := id h
  have hR := rel_un hR0
  have e15 : (sI Sx 243 15 0).1 243 15 = 0 := by rw [sI_row, upd_eq]
  have e52 : (sI Sm 0 52 0).1 0 52 = 0 := by rw [sI_row, upd_eq]
  obtain ⟨-, ⟨hb0, -, -, hr20⟩, hX00, -⟩ := id hR0
  unfold fX10_nearest fX11_nearest
  rw [findNearest_eq (hasLamps_spec hb0 hr20 hX00), bn_go, bn_go]
  generalize sI Sx 243 15 0 = X0 at hR e15 ⊢
  generalize sI Sm 0 52 0 = M0 at hR e52 ⊢
  obtain ⟨hB, ⟨hb, hr, hr0, hr2⟩, hX, hlim, hM, ht, hv, hbx, hl, ho, ⟨a1, a2, a3⟩, -⟩ := id hR
  rw [a2]
  rcases a1 with z | z
  · rw [z, if_pos rfl, if_pos rfl]
    exact ⟨X0, M0, _, rfl, rfl, B, b, hR⟩
  rw [z, if_neg one_ne, if_neg one_ne, isSet_spec hM, bd_go]
  by_cases c1 : setV (b_nl B) x1 = 0
  · rw [if_pos c1, if_pos c1]
    exact ⟨X0, M0, _, rfl, rfl, B, b, hR⟩
  rw [if_neg c1, if_neg c1]
  obtain ⟨gd, g, m, u, ra, X, M, hS, s1, s2, s3, s4, s5, h52⟩ := both_start hn hn2 hR z e52 e15
  have hd8 : b_nd B ≤ 8 := hB.2.2.2.2.2.1
  have hmo := hB.2.1
  have hlt := mixN_lt hd8 (show m ≤ 24 by have := hS.2.2.2.1; omega) hS.2.2.2.2.1
  rw [s1, bd_go, hS.2.2.2.2.2.2.1]
  by_cases c2 : nI (mixN (b_nd B) m u) ≤ 100000
  case neg =>
    rw [if_neg c2, if_neg c2]
    exact ⟨X0, M0, _, rfl, rfl, B, b, hR⟩
  have c2' : mixN (b_nd B) m u ≤ 100000 := (nI_leI hlt (by decide)).mp (show nI (mixN (b_nd B) m u) ≤ nI 100000 from c2)
  rw [if_pos c2, if_pos c2, s2, bd_go, s3, bd_go]
  obtain ⟨pe, e1, e2⟩ := run_all m u (b_nd B)
  have h1 := mixN_1 (b_nd B) m u
  obtain ⟨X', M', r, f1, f2, f3, f4, f5, f6⟩ := near_loop (x1 := x1) (x2 := x2) hn hS rfl hlt e2 (mixN (b_nd B) m u - 1) 0 n n (fun _ => 0) X M 9223372036854775807 0 e1 (by omega) (by omega) (by omega) s4 s5 (fun w => by rw [h52] at w; exact absurd w (by decide)) (fun _ => rfl)
  have f1 : fX4_findNearest_l27 n n X x1 x2 9223372036854775807 0 = _ := f1
  rw [f1, bd_go, f2]
  exact ⟨X', M', r, rfl, rfl, B, b, rel_se hR f3 f4 (Kp_Gn f5) (Gs_fr hR f6.1 (by rw [f6.2.1]) f6.2.2.1 f6.2.2.2.1 f6.2.2.2.2)⟩
