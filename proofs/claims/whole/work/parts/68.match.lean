/-! MATCH -/
def prf (l7 l8 pr to : Int32) : Int32 := if pr < l7 then 1 else if pr = l7 then if l8 ≤ to then 0 else 1 else 0
theorem isPref_spec {n : Nat} {X : St} : fX4_isPreferred n X = some (X, if X.1 243 15 = 0 then 1 else prf (X.1 243 7) (X.1 243 8) (X.1 244 9) (X.1 244 8)) := by
  unfold fX4_isPreferred fX4_isPreferred_j49 prf
  split
  · rfl
  · split
    · rfl
    · split
      · split <;> rfl
      · rfl
theorem isCheap_spec {n : Nat} {B : Bd} {M : St} (hn : 200000 ≤ n) (hM : RMb B M.1) (hB : Bok B) : fX11_isCheaper n M = some (M, prf (M.1 0 53) (M.1 0 54) (costS B M) (sumS B M)) := by
  have c1 : fX11_costOf n M 1 = _ := costOf_spec (w := 1) hn hM hB (by decide)
  have c2 : fX11_sumOf n M 1 = _ := sumOf_spec (w := 1) hn hM hB (by decide)
  unfold fX11_isCheaper fX11_isCheaper_j34 prf costS sumS
  rw [c1, bd_go]
  split
  · rfl
  · split
    · rw [c2, bd_go]
      split <;> rfl
    · rfl
section
variable {n : Nat} {B : Bd} {b gd g m u : Nat} {ra : Nat → Int32} {Sx Sm X M : St} {p : Nat → Nat}
theorem WM_cost (hB : Bok B) (h : WM B g m u p M) : costS B M = prS B p (b_nd B) ∧ sumS B M = nI (sumN p (b_nd B)) := by
  have hd8 : b_nd B ≤ 8 := hB.2.2.2.2.2.1
  exact ⟨sumI_congr fun d hd => by show M.1 21 (8 + d) * _ = _; rw [h.1 d (by omega)], sumI_nI fun d hd => h.1 d (by omega)⟩
/-- whether the mix is to be taken before the one that lies: the same on both sides -/
theorem pref_eq (hB : Bok B) (h3 : WX B b g m u p X) (h4 : WM B g m u p M) (h5 : Kp X M) : (if X.1 243 15 = 0 then 1 else prf (X.1 243 7) (X.1 243 8) (X.1 244 9) (X.1 244 8)) = if M.1 0 52 = 0 then 1 else prf (M.1 0 53) (M.1 0 54) (costS B M) (sumS B M) := by
  obtain ⟨c1, c2⟩ := WM_cost hB h4
  rw [h5.2.1, c1, c2, h3.2.2.2.2.2.2.1, h3.2.2.2.2.2.1]
  rcases h5.1 with z | z
  · rw [z, if_pos rfl, if_pos rfl]
  · obtain ⟨k1, k2, -⟩ := h5.2.2 z
    rw [k1, k2]
/-- both sides lay the mix down -/
theorem both_keep (hn : 200000 ≤ n) (hS : Sc B b gd g m u ra Sx Sm) (h : Jn B b g m u ra Sx Sm p X M) : ∃ X' M', fX4_keep n X = some (X', ()) ∧ fX11_putDown n M = some (M', ()) ∧ Jn B b g m u ra Sx Sm p X' M' ∧ M'.1 0 52 = 1 ∧ X'.2.1 = X.2.1 ∧ (∀ k, k ≠ 7 → k ≠ 8 → k ≠ 15 → X'.1 243 k = X.1 243 k) ∧ (Bs Sx Sm X M → Bs Sx Sm X' M') := by
  obtain ⟨j1, j2, j3, j4, j5, j6, j7⟩ := id h
  have hB := hS.1.1
  obtain ⟨X', x1, x2, x3, x4, x5, x6, x7⟩ := keep_spec (n := n) hB j3
  obtain ⟨M', m1, m2, m3, m4, m5, m6⟩ := putDown_spec hn (Jn_M hS h) hB
  obtain ⟨c1, c2⟩ := WM_cost hB j4
  refine ⟨X', M', x1, m1, ⟨kSX_tr j1 (kK_S x2), kSM_tr j2 ⟨fun a q1 q2 q3 q4 q5 q6 => m2.1 a q1 q4, fun k q => m2.2.1 k (by omega) (by omega) (by omega)⟩, x3, ⟨fun d hd => by rw [m2.1 21 (by decide) (by decide)]; exact j4.1 d hd, by rw [m2.1 22 (by decide) (by decide)]; exact j4.2.1, fun j hj => by rw [m2.2.2]; exact j4.2.2.1 j hj, by rw [m2.2.1 48 (by decide) (by decide) (by decide)]; exact j4.2.2.2.1, by rw [m2.2.1 49 (by decide) (by decide) (by decide)]; exact j4.2.2.2.2⟩, ⟨Or.inr m4, x4.trans m4.symm, fun _ => ⟨by rw [x5, m5, c1], by rw [x6, m6, c2], fun d hd => by rw [x7 d hd, m3 d hd, j4.1 d hd]⟩⟩, j6, fun j hj => by rw [m2.2.2]; exact j7 j hj⟩, m4, by rw [x2.2.2], x2.2.1, fun z => ⟨by rw [x2.2.1 17 (by decide) (by decide) (by decide)]; exact z.1, by rw [x2.2.2]; exact z.2.1, by rw [m2.2.1 58 (by decide) (by decide) (by decide)]; exact z.2.2.1, by rw [m2.1 26 (by decide) (by decide)]; exact z.2.2.2.1, by rw [m2.1 27 (by decide) (by decide)]; exact z.2.2.2.2⟩⟩
/-- the class's row of the mix -/
theorem both_row (hn : 200000 ≤ n) (hS : Sc B b gd g m u ra Sx Sm) (h : Jn B b g m u ra Sx Sm p X M) : ∃ X', fX9_thrownBack n X = some (X', 255) ∧ Jn B b g m u ra Sx Sm p X' M ∧ (∀ j, j < b_nb B → X'.1 255 j = thr B g p j) ∧ okR B (thr B g p) ∧ (∀ j, j < b_nb B → X'.1 (161 + gd) j = ra j) ∧ X'.1 243 3 = nI gd ∧ X'.2.2 243 0 = b ∧ X'.1 243 = X.1 243 ∧ X'.2.1 = X.2.1 ∧ (Bs Sx Sm X M → Bs Sx Sm X' M) := by
  obtain ⟨j1, j2, j3, j4, j5, j6, j7⟩ := id h
  obtain ⟨hR, s1, s2, s3, s4, s5, s6, s7, s8⟩ := id hS
  have hB := hR.1
  have hno : b_no B ≤ 8 := hB.2.2.2.2.2.2.2.2.2.1
  obtain ⟨f, f1, f2, f3⟩ := thrown_spec (n := n) hn hR.2.1.1 hB (Jn_X hS h) j3
  have hk : kSX Sx (rI X 255 f) := kSX_tr j1 (kW_S (kW_rI (by decide)))
  refine ⟨_, f1, ⟨hk, j2, f2, j4, Kp_fr j5 (rI_ne (by decide)) (rI_ne (by decide)) rfl rfl, j6, j7⟩, fun j hj => by rw [rI_row]; exact f3 j hj, thr_ok hB s2 (Nat.le_trans j6.1 s3), fun j hj => ?_, ?_, ?_, rI_ne (by decide), rfl, fun z => ⟨by rw [rI_ne (by decide)]; exact z.1, z.2⟩⟩
  · rw [hk.1 (161 + gd) (by omega)]
    exact s8 j hj
  · rw [hk.2.2.1 3 (by omega)]; exact s5
  · rw [hk.2.2.2 243 (by decide)]; exact hR.2.1.2.2.2
theorem match_in {x1 x2 : Int32} (hn : 200000 ≤ n) (hS : Sc B b gd g m u ra Sx Sm) (h : Jn B b g m u ra Sx Sm p X M) (r1 : ∀ j, j < b_nb B → X.1 255 j = thr B g p j) (r2 : okR B (thr B g p)) (r3 : ∀ j, j < b_nb B → X.1 (161 + gd) j = ra j) (r4 : X.1 243 3 = nI gd) (r5 : X.2.2 243 0 = b) : ∀ (w l : Nat), l + w = b_nl B → ∃ r : Int32, (r = 0 ∨ r = 1) ∧ (∀ j, w < j → fX4_isMatch_l11 n j X x1 x2 255 (nI l) = some (X, r)) ∧ (∀ j, w < j → fX11_isAlikeBy_l5 n j M x1 x2 1 (nI l) = some (M, r)) := by
  obtain ⟨hR, s1, s2, s3, s4, s5, s6, s7, s8⟩ := id hS
  have hB := hR.1
  have hb := hR.2.1.1
  have hno : b_no B ≤ 8 := hB.2.2.2.2.2.2.2.2.2.1
  have hnl : b_nl B ≤ 6 := hB.2.2.2.2.2.2.2.1
  have hX := Jn_X hS h
  have hM := Jn_M hS h
  obtain ⟨kk, ⟨t0, t1, t2, t3, t4⟩, k0, k1, k2, k3, k4⟩ := bk hb
  obtain ⟨ro, ri⟩ := rowK (i := gd) (by omega)
  intro w
  induction w with
  | zero =>
    intro l hl
    refine ⟨1, Or.inr rfl, fun j hj => ?_, fun j hj => ?_⟩
    · obtain ⟨j, rfl⟩ := suc_of hj
      rw [fX4_isMatch_l11, r5, gd_pos kk, t2, gd_pos k2, hX.2.2.2.2.2.2.2.1, if_pos (nI_le (by omega) (by omega))]
    · obtain ⟨j, rfl⟩ := suc_of hj
      rw [fX11_isAlikeBy_l5, lamps_spec hM, bd_go, if_pos (nI_le (by omega) (by omega)), gd_pos (Or.inr rfl)]
  | succ w ih =>
    intro l hl
    obtain ⟨r, q1, q2, q3⟩ := ih (l + 1) (by omega)
    have e1 : fX0_areAlike sdX n X b 255 (161 + gd) (nI l) x2 = some (X, alV B ra (thr B g p) l x2) := by
      rw [areAlike_spec hn hb hB hX ⟨by decide, by decide⟩ ri (show l < b_nl B by omega), alV_congr r1 r3, alV_sym hB s7 r2 (by omega)]
    have e2 : fX11_isAlike n M (nI l) x2 = some (M, alV B ra (thr B g p) l x2) := isAlike_spec hn hM hB (by omega) h.2.2.2.2.2.2 h.2.2.2.1.2.2.1 s7 r2
    have cX : ∀ j, fX4_isMatch_l11 n (j + 1) X x1 x2 255 (nI l) = if ((x1 >>> (nI l &&& 31)) &&& 1) = 0 then fX4_isMatch_l11 n j X x1 x2 255 (nI (l + 1)) else if alV B ra (thr B g p) l x2 = 0 then some (X, 0) else fX4_isMatch_l11 n j X x1 x2 255 (nI (l + 1)) := fun j => by
      rw [fX4_isMatch_l11, r5, gd_pos kk, t2, gd_pos k2, hX.2.2.2.2.2.2.2.1, if_neg (nI_ge (by omega) (by omega)), r4, gd_pos (ib_nI (by omega) (by decide)), cl_nI (by omega), ro, gd_pos ri.1, e1, bd_go]
      unfold fX4_isMatch_j63
      simp only [bn_go, nI_1]
    have cM : ∀ j, fX11_isAlikeBy_l5 n (j + 1) M x1 x2 1 (nI l) = if ((x1 >>> (nI l &&& 31)) &&& 1) = 0 then fX11_isAlikeBy_l5 n j M x1 x2 1 (nI (l + 1)) else if alV B ra (thr B g p) l x2 = 0 then fX11_isAlikeBy_l5 n j M x1 x2 0 (nI (l + 1)) else fX11_isAlikeBy_l5 n j M x1 x2 1 (nI (l + 1)) := fun j => by
      rw [fX11_isAlikeBy_l5, lamps_spec hM, bd_go, if_neg (nI_ge (by omega) (by omega)), if_neg one_ne, e2, bd_go]
      unfold fX11_isAlikeBy_j37 fX11_isAlikeBy_j42
      simp only [bn_go, nI_1]
    by_cases c1 : ((x1 >>> (nI l &&& 31)) &&& 1) = 0
    · refine ⟨r, q1, fun j hj => ?_, fun j hj => ?_⟩
      · obtain ⟨j, rfl⟩ := suc_of hj
        rw [cX, if_pos c1]; exact q2 j (by omega)
      · obtain ⟨j, rfl⟩ := suc_of hj
        rw [cM, if_pos c1]; exact q3 j (by omega)
    · by_cases c2 : alV B ra (thr B g p) l x2 = 0
      · refine ⟨0, Or.inl rfl, fun j hj => ?_, fun j hj => ?_⟩
        · obtain ⟨j, rfl⟩ := suc_of hj
          rw [cX, if_neg c1, if_pos c2]
        · obtain ⟨j, rfl⟩ := suc_of hj
          rw [cM, if_neg c1, if_pos c2]
          obtain ⟨j, rfl⟩ := suc_of (show 0 < j by omega)
          rw [fX11_isAlikeBy_l5, lamps_spec hM, bd_go]
          split
          · rw [gd_pos (Or.inl rfl)]
          · rw [if_pos rfl, gd_pos (Or.inl rfl)]
      · refine ⟨r, q1, fun j hj => ?_, fun j hj => ?_⟩
        · obtain ⟨j, rfl⟩ := suc_of hj
          rw [cX, if_neg c1, if_neg c2]; exact q2 j (by omega)
        · obtain ⟨j, rfl⟩ := suc_of hj
          rw [cM, if_neg c1, if_neg c2]; exact q3 j (by omega)
theorem match_body {x1 x2 : Int32} {i N : Nat} (hn : 200000 ≤ n) (hS : Sc B b gd g m u ra Sx Sm) (hN : mixN (b_nd B) m u = N) (hN31 : N < 2 ^ 31) (hi : i < N) (h : Jn B b g m u ra Sx Sm p X M) (hs : Bs Sx Sm X M) (j j' : Nat) : ∃ X' M', fX4_findMatch_l21 n (j + 1) X x1 x2 (nI i) = fX4_findMatch_j50 n (fX4_findMatch_l21 n j) X' x1 x2 (nI i) ∧ fX11_match_l41 n (j' + 1) M x1 x2 1 = fX11_match_j72 n (fX11_match_l41 n j') M' x1 x2 ∧ Jn B b g m u ra Sx Sm p X' M' ∧ Bs Sx Sm X' M' := by
  have hB := hS.1.1
  have hnl : b_nl B ≤ 6 := hB.2.2.2.2.2.2.2.1
  have h14 : X.1 243 14 = nI N := by rw [h.1.2.2.1 14 (by omega), hS.2.2.2.2.2.2.1, hN]
  have hM := Jn_M hS h
  obtain ⟨X1, x1e, hJ1, r1, r2, r3, r4, r5, r6, r7, r8⟩ := both_row hn hS h
  obtain ⟨r, q1, q2, q3⟩ := match_in (x1 := x1) (x2 := x2) hn hS hJ1 r1 r2 r3 r4 r5 (b_nl B) 0 (by omega)
  have eX : fX4_isMatch n X x1 x2 = some (X1, r) := by
    unfold fX4_isMatch
    rw [x1e, bd_go]
    exact q2 n (by omega)
  have eM : fX11_isAlikeBy n M x1 x2 = some (M, r) := q3 n (by omega)
  have hpe := pref_eq hB h.2.2.1 h.2.2.2.1 h.2.2.2.2.1
  obtain ⟨X2, M2, k1, k2, k3, -, -, -, k4⟩ := both_keep hn hS hJ1
  rw [fX4_findMatch_l21, h14, if_neg (nI_ge hi hN31), isPref_spec, bd_go, hpe, fX11_match_l41, if_neg one_ne, eM, bd_go]
  unfold fX11_match_j68
  rw [k2, bd_go, isCheap_spec hn hM hB, bd_go]
  by_cases c1 : r = 0
  · rw [if_pos c1]
    by_cases c2 : (if M.1 0 52 = 0 then 1 else prf (M.1 0 53) (M.1 0 54) (costS B M) (sumS B M)) = 0
    · rw [if_pos c2]
      exact ⟨X, M, rfl, rfl, h, hs⟩
    · rw [if_neg c2, eX, bd_go, if_pos c1]
      exact ⟨X1, M, rfl, rfl, hJ1, r8 hs⟩
  · rw [if_neg c1]
    by_cases c3 : M.1 0 52 = 0
    · rw [if_pos c3, if_pos c3, if_neg one_ne, eX, bd_go, if_neg c1, k1, bd_go]
      exact ⟨X2, M2, rfl, rfl, k3, k4 (r8 hs)⟩
    · rw [if_neg c3, if_neg c3]
      by_cases c4 : prf (M.1 0 53) (M.1 0 54) (costS B M) (sumS B M) = 0
      · rw [if_pos c4, if_pos c4]
        exact ⟨X, M, rfl, rfl, h, hs⟩
      · rw [if_neg c4, if_neg c4, eX, bd_go, if_neg c1, k1, bd_go, k2, bd_go]
        exact ⟨X2, M2, rfl, rfl, k3, k4 (r8 hs)⟩
theorem match_loop {x1 x2 : Int32} {N : Nat} {pe : Nat → Nat} (hn : 200000 ≤ n) (hS : Sc B b gd g m u ra Sx Sm) (hN : mixN (b_nd B) m u = N) (hN31 : N < 2 ^ 31) (hend : adv m u pe (b_nd B) = none) : ∀ (k i j j' : Nat) (p : Nat → Nat) (X M : St), Run m u (b_nd B) k p pe → i + k + 1 = N → k + 1 < j → k + 1 < j' → Jn B b g m u ra Sx Sm p X M → Bs Sx Sm X M → ∃ X' M' r, fX4_findMatch_l21 n j X x1 x2 (nI i) = some (X', r) ∧ fX11_match_l41 n j' M x1 x2 1 = some (M', r) ∧ kSX Sx X' ∧ kSM Sm M' ∧ Kp X' M' ∧ Bs Sx Sm X' M' := by
  have fin : ∀ (X M : St) (j j' : Nat), kSX Sx X → kSM Sm M → Kp X M → Bs Sx Sm X M → ∃ X' M' r, fX4_findMatch_l21 n (j + 1) X x1 x2 (nI N) = some (X', r) ∧ fX11_match_l41 n (j' + 1) M x1 x2 0 = some (M', r) ∧ kSX Sx X' ∧ kSM Sm M' ∧ Kp X' M' ∧ Bs Sx Sm X' M' := by
    intro X M j j' h1 h2 h3 h4
    have h14 : X.1 243 14 = nI N := by rw [h1.2.2.1 14 (by omega), hS.2.2.2.2.2.2.1, hN]
    rw [fX4_findMatch_l21, h14, if_pos (nI_le (Nat.le_refl _) hN31), fX11_match_l41, if_pos rfl]
    unfold fX4_findMatch_j63 fX11_match_j80
    rw [h3.2.1]
    rcases h3.1 with z | z
    · rw [z, if_pos rfl, if_pos rfl]
      exact ⟨X, M, _, rfl, rfl, h1, h2, h3, h4⟩
    · rw [z, if_neg one_ne, if_neg one_ne, (h3.2.2 z).1]
      exact ⟨X, M, _, rfl, rfl, h1, h2, h3, h4⟩
  intro k
  induction k with
  | zero =>
    intro i j j' p X M hr hi hj hj' h hs
    obtain ⟨j, rfl⟩ := suc_of hj
    obtain ⟨j', rfl⟩ := suc_of hj'
    obtain ⟨j, rfl⟩ := suc_of (show 0 < j by omega)
    obtain ⟨j', rfl⟩ := suc_of (show 0 < j' by omega)
    have hr : p = pe := hr
    subst hr
    obtain ⟨X1, M1, b1, b2, b3, b4⟩ := match_body (x1 := x1) (x2 := x2) hn hS hN hN31 (show i < N by omega) h hs (j + 1) (j' + 1)
    obtain ⟨X2, M2, r, a1, a2, a3, a4, a5, n1, n2, n3, a6⟩ := both_adv hn hS b3
    have b5 := Bs_adv b4 n1 n2 n3
    rw [b1, b2]
    unfold fX4_findMatch_j50 fX11_match_j72
    rw [a1, bd_go, a2, bd_go, bn_go, nI_1, show i + 1 = N by omega]
    rcases a6 with ⟨-, rfl⟩ | ⟨q, q1, -⟩
    · exact fin X2 M2 j j' a3 a4 a5 b5
    · rw [hend] at q1; exact absurd q1 (by simp)
  | succ k ih =>
    intro i j j' p X M hr hi hj hj' h hs
    obtain ⟨j, rfl⟩ := suc_of hj
    obtain ⟨j', rfl⟩ := suc_of hj'
    obtain ⟨p1, e1, hr⟩ := hr
    obtain ⟨X1, M1, b1, b2, b3, b4⟩ := match_body (x1 := x1) (x2 := x2) hn hS hN hN31 (show i < N by omega) h hs j j'
    obtain ⟨X2, M2, r, a1, a2, a3, a4, a5, n1, n2, n3, a6⟩ := both_adv hn hS b3
    have b5 := Bs_adv b4 n1 n2 n3
    rw [b1, b2]
    unfold fX4_findMatch_j50 fX11_match_j72
    rw [a1, bd_go, a2, bd_go, bn_go, nI_1]
    rcases a6 with ⟨z, -⟩ | ⟨q, q1, rfl, q3⟩
    · rw [e1] at z; exact absurd z (by simp)
    · rw [e1] at q1
      have q1 : p1 = q := Option.some.inj q1
      subst q1
      exact ih (i + 1) j j' p1 X2 M2 hr (by omega) (by omega) (by omega) q3 b5
end
/-- with nothing lying there, on both sides -/
theorem rel_un {B : Bd} {b : Nat} {Sx Sm : St} (h : RelB B b Sx Sm) : RelB B b (sI Sx 243 15 0) (sI Sm 0 52 0) := by
  obtain ⟨hB, hr, hX, hlim, hM, ht, hv, hbx, hl, ho, ha, hnn, ⟨K, K1, K2, K3, K4⟩, hw⟩ := id h
  refine rel_se h ⟨fun a q => sI_ne (by omega), fun _ _ => rfl, fun k q => by rw [sI_row, upd_ne (by omega)], fun _ _ => rfl⟩ ⟨fun a q _ _ _ _ _ => sI_ne q, fun k q => by rw [sI_row, upd_ne (by omega)]⟩ ⟨Or.inl (by rw [sI_row, upd_eq]), by rw [sI_row, upd_eq, sI_row, upd_eq], fun z => ?_⟩ ⟨K, K1, ?_, ?_, fun i hi => ?_⟩
  · rw [sI_row, upd_eq] at z
    exact absurd z (by decide)
  · rw [sI_row, upd_ne (by decide)]; exact K2
  · rw [sI_row, upd_ne (by decide)]; exact K3
  · rw [sI_ne (by decide), sI_ne (by decide)]; exact K4 i hi
theorem Gs_fr {B : Bd} {b : Nat} {Sx Sm X M : St} (h : RelB B b Sx Sm) (h1 : X.1 243 17 = Sx.1 243 17) (h2 : X.2.1 257 = Sx.2.1 257) (h3 : M.1 0 58 = Sm.1 0 58) (h4 : M.1 26 = Sm.1 26) (h5 : M.1 27 = Sm.1 27) : Gs B X.1 X.2.1 M.1 := by
  obtain ⟨hB, hr, hX, hlim, hM, ht, hv, hbx, hl, ho, ha, hnn, hs, hw⟩ := id h
  unfold Gs at hs ⊢
  rw [h1, h2, h3, h4, h5]
  exact hs
/-- the set of lamps: the same on both sides -/
def setV (nl : Nat) (x : Int32) : Int32 := if x ≤ 0 then 0 else if (1 <<< (nI nl &&& 31)) ≤ x then 0 else 1
theorem hasLamps_spec {n : Nat} {B : Bd} {b : Nat} {S : St} {x : Int32} (hb : b = 3 ∨ b = 77) (hr : S.2.2 243 0 = b) (hX : RXb B S.1 b) : fX4_hasLamps n S x = some (S, setV (b_nl B) x) := by
  obtain ⟨kk, ⟨t0, t1, t2, t3, t4⟩, k0, k1, k2, k3, k4⟩ := bk hb
  unfold fX4_hasLamps setV
  rw [hr, gd_pos kk, t2, gd_pos k2, hX.2.2.2.2.2.2.2.1]
  split
  · rfl
  · split <;> rfl
theorem isSet_spec {n : Nat} {B : Bd} {S : St} {x : Int32} (hM : RMb B S.1) : fX11_isSet n S x = some (S, setV (b_nl B) x) := by
  unfold fX11_isSet setV
  rw [lamps_spec hM, bd_go]
  split
  · rfl
  · split <;> rfl
