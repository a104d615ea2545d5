/-! BEST: both sides. -/
section
variable {n : Nat} {B : Bd} {b gd g m u : Nat} {ra : Nat → Int32} {Sx Sm X M : St} {p : Nat → Nat}
theorem Jn_L {X' : St} (hB : Bok B) (h : Jn B b g m u ra Sx Sm p X M) (h1 : ∀ a, a ≠ 243 → X'.1 a = X.1 a) (h2 : ∀ k, k ≠ 12 → k ≠ 17 → X'.1 243 k = X.1 243 k) (h3 : ∀ a, (a < 257 ∨ 259 < a) → X'.2.1 a = X.2.1 a) (h4 : X'.2.2 = X.2.2) : Jn B b g m u ra Sx Sm p X' M := by
  obtain ⟨j1, j2, j3, j4, j5, j6, j7⟩ := id h
  refine ⟨kSX_tr j1 ⟨fun a q => h1 a (by omega), fun a q => h3 a (by omega), fun k q => h2 k (by omega) (by omega), fun a q => by rw [h4]⟩, j2, WX_fr j3 hB (fun a q1 q2 => h1 a (by omega)) (by rw [h4]), j4, ?_, j6, j7⟩
  unfold Kp
  rw [h2 15 (by decide) (by decide), h2 7 (by decide) (by decide), h2 8 (by decide) (by decide), h1 260 (by decide)]
  exact j5
theorem measure_loop {x1 x2 : Int32} (hn : 200000 ≤ n) (hS : Sc B b gd g m u ra Sx Sm) (r2 : okR B (thr B g p)) : ∀ (w l j : Nat) (X : St), l + w = b_nl B → w < j → RXb B X.1 b → (∀ j, j < b_nb B → X.1 255 j = thr B g p j) → (∀ j, j < b_nb B → X.1 (161 + gd) j = ra j) → X.1 243 3 = nI gd → X.2.2 243 0 = b → (∀ l', l' < l → agL x1 l' ≠ 0 → X.2.1 259 (cn (agL x1) l') = apV B ra (thr B g p) l' x2) → ∃ X', fX4_measure_l14 n j X x1 x2 255 (nI (cn (agL x1) l)) (nI l) = some (X', ()) ∧ X'.1 = X.1 ∧ X'.2.2 = X.2.2 ∧ (∀ a, a ≠ 259 → X'.2.1 a = X.2.1 a) ∧ (∀ l', l' < b_nl B → agL x1 l' ≠ 0 → X'.2.1 259 (cn (agL x1) l') = apV B ra (thr B g p) l' x2) := by
  obtain ⟨hR, s1, s2, s3, s4, s5, s6, s7, s8⟩ := id hS
  have hB := hR.1
  have hb := hR.2.1.1
  have hno : b_no B ≤ 8 := hB.2.2.2.2.2.2.2.2.2.1
  have hnl : b_nl B ≤ 6 := hB.2.2.2.2.2.2.2.1
  obtain ⟨kk, ⟨t0, t1, t2, t3, t4⟩, k0, k1, k2, k3, k4⟩ := bk hb
  obtain ⟨ro, ri⟩ := rowK (i := gd) (by omega)
  intro w
  induction w with
  | zero =>
    intro l j X hl hj hX r1 r3 r4 r5 hd
    obtain ⟨j, rfl⟩ := suc_of hj
    rw [fX4_measure_l14, r5, gd_pos kk, t2, gd_pos k2, hX.2.2.2.2.2.2.2.1, if_pos (nI_le (by omega) (by omega))]
    exact ⟨X, rfl, rfl, rfl, fun _ _ => rfl, fun l' h1 h2 => hd l' (by omega) h2⟩
  | succ w ih =>
    intro l j X hl hj hX r1 r3 r4 r5 hd
    obtain ⟨j, rfl⟩ := suc_of hj
    have e1 : fX0_apartOf sdX n X b 255 (161 + gd) (nI l) x2 = some (X, apV B ra (thr B g p) l x2) := by
      rw [apartOf_spec hn hb hB hX ⟨by decide, by decide⟩ ri (show l < b_nl B by omega), apV_congr r1 r3, apV_sym hB s7 r2 (by omega)]
    have hcl := cn_le (ag := agL x1) l
    rw [fX4_measure_l14, r5, gd_pos kk, t2, gd_pos k2, hX.2.2.2.2.2.2.2.1, if_neg (nI_ge (by omega) (by omega))]
    unfold fX4_measure_j71
    by_cases c1 : ((x1 >>> (nI l &&& 31)) &&& 1) = 0
    · rw [if_pos c1, bn_go, nI_1]
      have := ih (l + 1) j X (by omega) (by omega) hX r1 r3 r4 r5 (fun l' h1 h2 => by
        by_cases e : l' = l
        · rw [e] at h2; exact absurd c1 h2
        · exact hd l' (by omega) h2)
      rw [cn_s0 (f := agL x1) c1] at this
      exact this
    · rw [if_neg c1, r4, gd_pos (ib_nI (by omega) (by decide)), cl_nI (by omega), ro, gd_pos ri.1, e1, bd_go, gd_pos (ib_nI (by omega) (by decide)), bn_go, bn_go, bn_go, nI_1, nI_1, cl_nI (by omega)]
      obtain ⟨X', f1, f2, f3, f4, f5⟩ := ih (l + 1) j (sL X 259 (cn (agL x1) l) (apV B ra (thr B g p) l x2)) (by omega) (by omega) hX r1 r3 r4 r5 (fun l' h1 h2 => by
        rw [sL_row]
        unfold vp_updL
        by_cases e : l' = l
        · rw [e, if_pos rfl]
        · rw [if_neg (fun q => e (cn_inj (f := agL x1) h2 c1 q))]
          exact hd l' (by omega) h2)
      rw [cn_s1 (f := agL x1) c1] at f1
      exact ⟨X', f1, f2, f3, fun a q => by rw [f4 a q, sL_ne q], f5⟩
/-- the reference's rows of all mixes so far -/
def DM (B : Bd) (A : Nat → Nat → Int64) (v : Nat → Nat → Nat) (t : Nat) (M : St) : Prop := M.1 0 59 = nI t ∧ ∀ j, j < t → (∀ d, d < 8 → M.1 26 (8 * j + d) = nI (v j d)) ∧ ∀ l, l < b_nl B → M.2.1 25 (6 * j + l) = A j l
theorem rows_loop {k11 : St → Int32 → Int32 → Option (St × Unit)} {x1 : Int32} {t : Nat} (ht : t < 5000) : ∀ (w d j : Nat) (M : St), d + w = 8 → w < j → M.1 0 59 = nI t → ∃ M', fX11_layRows_l17 n k11 j M x1 (nI d) = fX11_layRows_j52 n k11 M' x1 ∧ (∀ a, a ≠ 26 → M'.1 a = M.1 a) ∧ M'.2 = M.2 ∧ (∀ i, M'.1 26 i = if 8 * t + d ≤ i ∧ i < 8 * t + 8 then M.1 21 (8 + (i - 8 * t)) else M.1 26 i) := by
  intro w
  induction w with
  | zero =>
    intro d j M h hj h59
    obtain ⟨j, rfl⟩ := suc_of hj
    rw [fX11_layRows_l17, if_pos (le8 (k := d) (by omega) (by omega))]
    exact ⟨M, rfl, fun _ _ => rfl, rfl, fun i => by rw [if_neg (by omega)]⟩
  | succ w ih =>
    intro d j M h hj h59
    obtain ⟨j, rfl⟩ := suc_of hj
    rw [fX11_layRows_l17, if_neg (nle8 (k := d) (by omega)), ix8', gd_pos (ib_nI (by omega) (by decide)), h59, ix8, gd_pos (ib_nI (by omega) (by decide)), bn_go, bn_go, nI_1, cl_nI (by omega), cl_nI (by omega)]
    obtain ⟨M', m1, m2, m3, m4⟩ := ih (d + 1) j (sI M 26 (8 * t + d) (M.1 21 (8 + d))) (by omega) (by omega) (by rw [sI_ne (by decide)]; exact h59)
    refine ⟨M', m1, fun a q => by rw [m2 a q, sI_ne q], m3, fun i => ?_⟩
    rw [m4 i, sI_ne (by decide), sI_row]
    unfold upd
    by_cases e : i = 8 * t + d
    · subst e
      rw [if_neg (by omega), if_pos rfl, if_pos (by omega), show 8 * t + d - 8 * t = d by omega]
    · rw [if_neg e]
      by_cases c : 8 * t + (d + 1) ≤ i ∧ i < 8 * t + 8
      · rw [if_pos c, if_pos (by omega)]
      · rw [if_neg c, if_neg (by omega)]
theorem ix6 {i k : Nat} : (6 : Int32) * nI i + nI k = nI (6 * i + k) := by rw [show (6 : Int32) = nI 6 from rfl, pk_mul, nI_add]
theorem aparts_loop {k11 : St → Int32 → Int32 → Option (St × Unit)} {x2 : Int32} {t : Nat} {rb : Nat → Int32} (hn : 200000 ≤ n) (hB : Bok B) (ht : t < 5000) (o1 : okR B ra) (o2 : okR B rb) : ∀ (w l j : Nat) (M : St), l + w = b_nl B → w < j → RMb B M.1 → M.1 0 59 = nI t → (∀ j, j < b_nb B → M.2.1 23 j = (ra j).toInt64) → (∀ j, j < b_nb B → M.2.1 23 (16 + j) = (rb j).toInt64) → (∀ l', l' < l → M.2.1 25 (6 * t + l') = apV B ra rb l' x2) → ∃ M', fX11_layRows_l54 n k11 j M x2 (nI l) = fX11_layRows_j88 n k11 M' x2 ∧ M'.1 = M.1 ∧ M'.2.1 23 = M.2.1 23 ∧ (∀ i, i < 6 * t → M'.2.1 25 i = M.2.1 25 i) ∧ (∀ l', l' < b_nl B → M'.2.1 25 (6 * t + l') = apV B ra rb l' x2) := by
  have hnl : b_nl B ≤ 6 := hB.2.2.2.2.2.2.2.1
  intro w
  induction w with
  | zero =>
    intro l j M hl hj hM h59 t1 t2 hd
    obtain ⟨j, rfl⟩ := suc_of hj
    rw [fX11_layRows_l54, lamps_spec hM, bd_go, if_pos (nI_le (by omega) (by omega))]
    exact ⟨M, rfl, rfl, rfl, fun _ _ => rfl, fun l' h1 => hd l' (by omega)⟩
  | succ w ih =>
    intro l j M hl hj hM h59 t1 t2 hd
    obtain ⟨j, rfl⟩ := suc_of hj
    rw [fX11_layRows_l54, lamps_spec hM, bd_go, if_neg (nI_ge (by omega) (by omega)), apartBy_spec hn hM hB (show l < b_nl B by omega) t1 t2 o1 o2, bd_go, h59, ix6, gd_pos (ib_nI (by omega) (by decide)), bn_go, bn_go, nI_1, cl_nI (by omega)]
    obtain ⟨M', m1, m2, m3, m4, m5⟩ := ih (l + 1) j (sL M 25 (6 * t + l) (apV B ra rb l x2)) (by omega) (by omega) hM h59 (fun j hj => by rw [sL_ne (by decide)]; exact t1 j hj) (fun j hj => by rw [sL_ne (by decide)]; exact t2 j hj) (fun l' h1 => by
      rw [sL_row]
      unfold vp_updL
      by_cases e : l' = l
      · rw [e, if_pos rfl]
      · rw [if_neg (by omega)]; exact hd l' (by omega))
    refine ⟨M', m1, m2, by rw [m3, sL_ne (by decide)], fun i hi => ?_, m5⟩
    rw [m4 i hi, sL_row]
    unfold vp_updL
    rw [if_neg (by omega)]
/-- one mix: the class measures it and holds it against the best, the reference lays its row; both go on -/
theorem best_step {x1 x2 : Int32} {N t : Nat} (hn : 200000 ≤ n) (hS : Sc B b gd g m u ra Sx Sm) (hN : mixN (b_nd B) m u = N) (hN5 : N ≤ 5000) (ht : t < N) (h : Jn B b g m u ra Sx Sm (sq m u (b_nd B) t) X M) (hD : DX (b_nl B) (agL x1) (fun j l => apV B ra (thr B g (sq m u (b_nd B) j)) l x2) (sq m u (b_nd B)) (bst' (leA (b_nl B) (agL x1) (fun j l => apV B ra (thr B g (sq m u (b_nd B) j)) l x2)) t) t X) (hE : DM B (fun j l => apV B ra (thr B g (sq m u (b_nd B) j)) l x2) (sq m u (b_nd B)) t M) (h58 : M.1 0 58 = 0) (h52 : M.1 0 52 = 0) (j j' : Nat) : ∃ X' M' r, fX4_findBest_l35 n (j + 1) X x1 x2 (nI t) = fX4_findBest_l35 n j X' x1 x2 (nI (t + 1)) ∧ fX11_layRows_l11 n (j' + 1) M x2 1 = fX11_layRows_l11 n j' M' x2 r ∧ kSX Sx X' ∧ kSM Sm M' ∧ Kp X' M' ∧ DX (b_nl B) (agL x1) (fun j l => apV B ra (thr B g (sq m u (b_nd B) j)) l x2) (sq m u (b_nd B)) (bst' (leA (b_nl B) (agL x1) (fun j l => apV B ra (thr B g (sq m u (b_nd B) j)) l x2)) (t + 1)) (t + 1) X' ∧ DM B (fun j l => apV B ra (thr B g (sq m u (b_nd B) j)) l x2) (sq m u (b_nd B)) (t + 1) M' ∧ M'.1 0 58 = 0 ∧ M'.1 0 52 = 0 ∧ ((adv m u (sq m u (b_nd B) t) (b_nd B) = none ∧ r = 0) ∨ ∃ q, adv m u (sq m u (b_nd B) t) (b_nd B) = some q ∧ r = 1 ∧ Jn B b g m u ra Sx Sm q X' M') := by
  have hB := hS.1.1
  have hnl : b_nl B ≤ 6 := hB.2.2.2.2.2.2.2.1
  have hd8 : b_nd B ≤ 8 := hB.2.2.2.2.2.1
  have hmo := hB.2.1
  have hm := hS.2.2.2.1
  have h14 : X.1 243 14 = nI N := by rw [h.1.2.2.1 14 (by omega), hS.2.2.2.2.2.2.1, hN]
  generalize hv : sq m u (b_nd B) = v at h hD hE ⊢
  -- the class
  obtain ⟨X1, x1e, hJ1, r1, r2, r3, r4, r5, r6, r7, -⟩ := both_row hn hS h
  have hX1 := Jn_X hS hJ1
  obtain ⟨X2, p1, p2, p3, p4, p5⟩ := measure_loop (x1 := x1) (x2 := x2) hn hS r2 (b_nl B) 0 n X1 (by omega) (by omega) hX1 r1 r3 r4 r5 (fun l' h1 => by omega)
  have e1 : fX4_measure n X x1 x2 = some (X2, ()) := by
    unfold fX4_measure
    rw [x1e, bd_go]
    exact p1
  have hJ2 : Jn B b g m u ra Sx Sm (v t) X2 M := Jn_L hB hJ1 (fun a _ => by rw [p2]) (fun k _ _ => by rw [p2]) (fun a q => p4 a (by omega)) p3
  have hD2 : DX (b_nl B) (agL x1) (fun j l => apV B ra (thr B g (v j)) l x2) v (bst' (leA (b_nl B) (agL x1) (fun j l => apV B ra (thr B g (v j)) l x2)) t) t X2 := by
    unfold DX
    rw [p2, r6, p4 257 (by decide), p4 258 (by decide), r7]
    exact hD
  have h32 : ∀ d, d < 8 → v t d < 32 := fun d hd => by
    obtain ⟨g1, g2, g3⟩ := h.2.2.2.2.2.1
    by_cases c : d < b_nd B
    · have := sumN_ge (p := v t) c
      omega
    · rw [g3 d (by omega)]; decide
  obtain ⟨X3, y1, y2, y3⟩ := hold_spec (n := n) (X := X2) (t := t) (v := v) (w := v t) hn hnl (by omega) h32 hJ2.2.2.1.2.2.2.2.2.2.2.1 rfl hD2 p5
  have hJ3 : Jn B b g m u ra Sx Sm (v t) X3 M := Jn_L hB hJ2 y2.1 (fun k _ q => y2.2.1 k q) (fun a q => y2.2.2.1 a (by omega) (by omega)) y2.2.2.2
  -- the reference
  obtain ⟨M1, m1, m2, m3, m4⟩ := rows_loop (n := n) (k11 := fX11_layRows_l11 n j') (x1 := x2) (t := t) (by omega) 8 0 n M (by omega) (by omega) hE.1
  have hM1 : RMb B M1.1 := RMb_frame (Jn_M hS h) (fun a q => m2 a (by unfold coreM at q; omega)) (fun k q => by rw [m2 0 (by decide)])
  obtain ⟨M2, a1, a2, a3, a4, a5⟩ := aparts_loop (n := n) (k11 := fX11_layRows_l11 n j') (x2 := x2) (t := t) (rb := thr B g (v t)) hn hB (by omega) hS.2.2.2.2.2.2.2.1 r2 (b_nl B) 0 n M1 (by omega) (by omega) hM1 (by rw [m2 0 (by decide)]; exact hE.1) (fun j hj => by rw [m3]; exact h.2.2.2.2.2.2 j hj) (fun j hj => by rw [m3]; exact h.2.2.2.1.2.2.1 j hj) (fun l' h1 => by omega)
  have m1 : fX11_layRows_l17 n (fX11_layRows_l11 n j') n M x2 0 = _ := m1
  have a1 : fX11_layRows_l54 n (fX11_layRows_l11 n j') n M1 x2 0 = _ := a1
  have h59 : M2.1 0 59 = nI t := by rw [a2, m2 0 (by decide)]; exact hE.1
  generalize hM3 : sI M2 0 59 (nI (t + 1)) = M3
  have q1 : ∀ a, a ≠ 0 → a ≠ 26 → M3.1 a = M.1 a := fun a c1 c2 => by rw [← hM3, sI_ne c1, a2, m2 a c2]
  have q0 : ∀ k, k ≠ 59 → M3.1 0 k = M.1 0 k := fun k c => by rw [← hM3, sI_row, upd_ne c, a2, m2 0 (by decide)]
  have q59 : M3.1 0 59 = nI (t + 1) := by rw [← hM3, sI_row, upd_eq]
  have q26 : M3.1 26 = M1.1 26 := by rw [← hM3, sI_ne (by decide), a2]
  have q2 : M3.2 = M2.2 := by rw [← hM3]; rfl
  have q23 : M3.2.1 23 = M.2.1 23 := by rw [q2, a3, m3]
  have hJ4 : Jn B b g m u ra Sx Sm (v t) X3 M3 := by
    obtain ⟨j1, j2, j3, j4, j5, j6, j7⟩ := id hJ3
    refine ⟨j1, kSM_tr j2 ⟨fun a c1 _ _ _ c5 _ => q1 a c1 c5, fun k c => q0 k (by omega)⟩, j3, ⟨fun d hd => by rw [q1 21 (by decide) (by decide)]; exact j4.1 d hd, by rw [q1 22 (by decide) (by decide)]; exact j4.2.1, fun j hj => by rw [q23]; exact j4.2.2.1 j hj, by rw [q0 48 (by decide)]; exact j4.2.2.2.1, by rw [q0 49 (by decide)]; exact j4.2.2.2.2⟩, ?_, j6, fun j hj => by rw [q23]; exact j7 j hj⟩
    unfold Kp
    rw [q0 52 (by decide), q0 53 (by decide), q0 54 (by decide), q1 24 (by decide) (by decide)]
    exact j5
  obtain ⟨X5, M5, r, b1, b2, b3, b4, b5, n1, n2, n3, b6⟩ := both_adv hn hS hJ4
  refine ⟨X5, M5, r, ?_, ?_, b3, b4, b5, ?_, ⟨?_, fun i hi => ⟨fun d hd => ?_, fun l hl => ?_⟩⟩, ?_, ?_, b6⟩
  · rw [fX4_findBest_l35, h14, if_neg (nI_ge ht (by omega)), e1, bd_go, y1, bd_go, b1, bd_go, bn_go, nI_1]
  · rw [fX11_layRows_l11, if_neg one_ne, m1]
    unfold fX11_layRows_j52
    rw [a1]
    unfold fX11_layRows_j88
    rw [bn_go, h59, nI_1, hM3, b2, bd_go]
  · unfold DX
    rw [n2, n1]
    exact y3
  · rw [n3.1]; exact q59
  · rw [n3.2.1, q26, m4]
    by_cases e : i = t
    · subst e
      rw [if_pos (by omega), show 8 + (8 * i + d - 8 * i) = 8 + d by omega]
      exact h.2.2.2.1.1 d hd
    · rw [if_neg (by omega)]
      exact (hE.2 i (by omega)).1 d hd
  · rw [n3.2.2.2, q2]
    by_cases e : i = t
    · subst e
      exact a5 l hl
    · rw [a4 _ (by omega), m3]
      exact (hE.2 i (by omega)).2 l hl
  · rw [n3.1, q0 58 (by decide)]; exact h58
  · rw [n3.1, q0 52 (by decide)]; exact h52
theorem best_loop {x1 x2 : Int32} {N : Nat} (hn : 200000 ≤ n) (hS : Sc B b gd g m u ra Sx Sm) (hN : mixN (b_nd B) m u = N) (hN5 : N ≤ 5000) : ∀ (k t j j' : Nat) (X M : St), t + k + 1 = N → k + 1 < j → k + 1 < j' → Jn B b g m u ra Sx Sm (sq m u (b_nd B) t) X M → DX (b_nl B) (agL x1) (fun j l => apV B ra (thr B g (sq m u (b_nd B) j)) l x2) (sq m u (b_nd B)) (bst' (leA (b_nl B) (agL x1) (fun j l => apV B ra (thr B g (sq m u (b_nd B) j)) l x2)) t) t X → DM B (fun j l => apV B ra (thr B g (sq m u (b_nd B) j)) l x2) (sq m u (b_nd B)) t M → M.1 0 58 = 0 → M.1 0 52 = 0 → ∃ X' M', fX4_findBest_l35 n j X x1 x2 (nI t) = fX4_findBest_j67 n X' ∧ fX11_layRows_l11 n j' M x2 1 = some (M', ()) ∧ kSX Sx X' ∧ kSM Sm M' ∧ Kp X' M' ∧ DX (b_nl B) (agL x1) (fun j l => apV B ra (thr B g (sq m u (b_nd B) j)) l x2) (sq m u (b_nd B)) (bst' (leA (b_nl B) (agL x1) (fun j l => apV B ra (thr B g (sq m u (b_nd B) j)) l x2)) N) N X' ∧ DM B (fun j l => apV B ra (thr B g (sq m u (b_nd B) j)) l x2) (sq m u (b_nd B)) N M' ∧ M'.1 0 58 = 0 ∧ M'.1 0 52 = 0 := by
  obtain ⟨sa, sb⟩ := sq_all (m := m) (u := u) (nd := b_nd B)
  intro k
  induction k with
  | zero =>
    intro t j j' X M ht hj hj' h hD hE h58 h52
    obtain ⟨j, rfl⟩ := suc_of hj
    obtain ⟨j', rfl⟩ := suc_of hj'
    obtain ⟨j, rfl⟩ := suc_of (show 0 < j by omega)
    obtain ⟨j', rfl⟩ := suc_of (show 0 < j' by omega)
    obtain ⟨X1, M1, r, a1, a2, a3, a4, a5, a6, a7, a8, a9, a10⟩ := best_step (x1 := x1) (x2 := x2) hn hS hN hN5 (show t < N by omega) h hD hE h58 h52 (j + 1) (j' + 1)
    have et : t = mixN (b_nd B) m u - 1 := by omega
    rw [et, sb] at a10
    rcases a10 with ⟨-, rfl⟩ | ⟨q, q1, -⟩
    · have h14 : X1.1 243 14 = nI N := by rw [a3.2.2.1 14 (by omega), hS.2.2.2.2.2.2.1, hN]
      rw [show t + 1 = N by omega] at a1 a6 a7
      rw [a1, a2, fX4_findBest_l35, h14, if_pos (nI_le (Nat.le_refl _) (by omega)), fX11_layRows_l11, if_pos rfl]
      exact ⟨X1, M1, rfl, rfl, a3, a4, a5, a6, a7, a8, a9⟩
    · exact absurd q1 (by simp)
  | succ k ih =>
    intro t j j' X M ht hj hj' h hD hE h58 h52
    obtain ⟨j, rfl⟩ := suc_of hj
    obtain ⟨j', rfl⟩ := suc_of hj'
    obtain ⟨X1, M1, r, a1, a2, a3, a4, a5, a6, a7, a8, a9, a10⟩ := best_step (x1 := x1) (x2 := x2) hn hS hN hN5 (show t < N by omega) h hD hE h58 h52 j j'
    rw [sa t (by omega)] at a10
    rcases a10 with ⟨z, -⟩ | ⟨q, q1, rfl, q3⟩
    · exact absurd z (by simp)
    · have q1 : sq m u (b_nd B) (t + 1) = q := Option.some.inj q1
      subst q1
      rw [a1, a2]
      exact ih (t + 1) j j' X1 M1 (by omega) (by omega) (by omega) q3 a6 a7 a8 a9
end
