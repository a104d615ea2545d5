/-! THE REFERENCE'S WALK through the mixes; both together. -/
theorem abL_neg {z : Int64} {C : Nat} (h : z.toInt.natAbs ≤ C) (hC : C < 2 ^ 62) : abL (-z) = abL z := by
  apply Int64.toInt_inj.mp
  have e : (-z).toInt = -z.toInt := by rw [Int64.toInt_neg, Int.bmod_eq_of_le (by omega) (by omega)]
  rw [abL_int h hC, abL_int (z := -z) (C := C) (by rw [e]; omega) hC, e]
  omega
theorem dfV_sym {B : Bd} {ra rb : Nat → Int32} {l e : Nat} (ha : okR B ra) (hb : okR B rb) : dfV B rb ra l e = -(dfV B ra rb l e) := by
  rw [dfV_seV hb ha, dfV_seV ha hb]
  generalize seV B ra l e = x
  generalize seV B rb l e = y
  grind
theorem apV_sym {B : Bd} {ra rb : Nat → Int32} {l : Nat} {odd : Int32} (hB : Bok B) (ha : okR B ra) (hb : okR B rb) (hl : l < b_nl B) : apV B rb ra l odd = apV B ra rb l odd := by
  have key : ∀ e, e ≤ b_ne B → apS B rb ra l (unE odd) e = apS B ra rb l (unE odd) e := by
    intro e
    induction e with
    | zero => intro _; rfl
    | succ e ih =>
      intro he
      rw [apS, apS, ih (by omega), dfV_sym ha hb, abL_neg (dfV_abs hB ha hb hl (by omega)) (by decide)]
  exact key _ (Nat.le_refl _)
theorem alV_sym {B : Bd} {ra rb : Nat → Int32} {l : Nat} {odd : Int32} (hB : Bok B) (ha : okR B ra) (hb : okR B rb) (hl : l < b_nl B) : alV B rb ra l odd = alV B ra rb l odd := by
  unfold alV
  rw [apV_sym hB ha hb hl]
def WM (B : Bd) (g m u : Nat) (p : Nat → Nat) (M : St) : Prop := (∀ d, d < 8 → M.1 21 (8 + d) = nI (p d)) ∧ M.1 22 1 = nI g ∧ (∀ j, j < b_nb B → M.2.1 23 (16 + j) = (thr B g p j).toInt64) ∧ M.1 0 48 = nI m ∧ M.1 0 49 = nI u
/-- what going to the next mix changes -/
def kN (M M' : St) : Prop := (∀ a, a ≠ 21 → M'.1 a = M.1 a) ∧ (∀ q, q < 16 → M'.2.1 23 q = M.2.1 23 q) ∧ (∀ a, a ≠ 23 → M'.2.1 a = M.2.1 a)
theorem kN_rf {M : St} : kN M M := ⟨fun _ _ => rfl, fun _ _ => rfl, fun _ _ => rfl⟩
theorem kN_tr {A B C : St} (h : kN A B) (g : kN B C) : kN A C := ⟨fun a q => (g.1 a q).trans (h.1 a q), fun k q => (g.2.1 k q).trans (h.2.1 k q), fun a q => (g.2.2 a q).trans (h.2.2 a q)⟩
theorem kN_S {M M' : St} (h : kN M M') : kSM M M' := ⟨fun a _ q _ _ _ _ => h.1 a q, fun k _ => by rw [h.1 0 (by decide)]⟩
theorem kN_M {B : Bd} {M M' : St} (hM : RMb B M.1) (h : kN M M') : RMb B M'.1 := kSM_M hM (kN_S h)
theorem kN_I {M : St} {k : Nat} {v : Int32} : kN M (sI M 21 k v) := ⟨fun a q => sI_ne q, fun _ _ => rfl, fun _ _ => rfl⟩
section
variable {n : Nat} {B : Bd} {g m u : Nat} {M : St} {p : Nat → Nat}
theorem unlike_loop (hM : RMb B M.1) (hB : Bok B) (hp : ∀ d, d < 8 → M.1 21 (8 + d) = nI (p d)) (hs : ∀ d, d < 8 → p d < 2 ^ 31) : ∀ (w d j : Nat), d + w = b_nd B → w < j → fX11_unlike_l4 n j M (nI (supp p d)) (nI d) = some (M, nI (supp p (b_nd B))) := by
  have hd8 : b_nd B ≤ 8 := hB.2.2.2.2.2.1
  intro w
  induction w with
  | zero =>
    intro d j h hj
    obtain ⟨j, rfl⟩ := suc_of hj
    rw [fX11_unlike_l4, dyes_spec hM, bd_go, if_pos (nI_le (by omega) (by omega)), show d = b_nd B by omega]
  | succ w ih =>
    intro d j h hj
    obtain ⟨j, rfl⟩ := suc_of hj
    rw [fX11_unlike_l4, dyes_spec hM, bd_go, if_neg (nI_ge (by omega) (by omega)), ix8', gd_pos (ib_nI (by omega) (by decide)), cl_nI (by omega), hp d (by omega)]
    unfold fX11_unlike_j30
    have e := ih (d + 1) j (by omega) (by omega)
    by_cases c : p d = 0
    · rw [supp_s, if_pos c, Nat.add_zero] at e
      rw [c, if_pos (show nI 0 ≤ 0 by decide), bn_go, bn_go, nI_1, Int32.add_zero]
      exact e
    · rw [supp_s, if_neg c] at e
      rw [if_neg (nI_nle (by omega) (hs d (by omega))), bn_go, bn_go, nI_1, nI_1]
      exact e
theorem unlike_spec (hn : 200000 ≤ n) (hM : RMb B M.1) (hB : Bok B) (hp : ∀ d, d < 8 → M.1 21 (8 + d) = nI (p d)) (hs : ∀ d, d < 8 → p d < 2 ^ 31) : fX11_unlike n M = some (M, nI (supp p (b_nd B))) := by
  have hd8 : b_nd B ≤ 8 := hB.2.2.2.2.2.1
  exact unlike_loop hM hB hp hs (b_nd B) 0 n (by omega) (by omega)
theorem sumM_spec (hn : 200000 ≤ n) (hM : RMb B M.1) (hB : Bok B) (hp : ∀ d, d < 8 → M.1 21 (8 + d) = nI (p d)) : fX11_sumOf n M 1 = some (M, nI (sumN p (b_nd B))) := by
  have hd8 : b_nd B ≤ 8 := hB.2.2.2.2.2.1
  have e : fX11_sumOf n M 1 = _ := sumOf_spec (w := 1) hn hM hB (by decide)
  rw [e]
  exact some_snd (sumI_nI fun d hd => hp d (by omega))
theorem layM_spec (hn : 200000 ≤ n) (hM : RMb B M.1) (hB : Bok B) (hg : g < b_ng B) (hg22 : M.1 22 1 = nI g) (hp : ∀ d, d < 8 → M.1 21 (8 + d) = nI (p d)) (hs : ∀ d, d < 8 → p d < 100000) : ∃ M', fX11_lay n M 1 = some (M', ()) ∧ M'.1 = M.1 ∧ (∀ q, q < 16 → M'.2.1 23 q = M.2.1 23 q) ∧ (∀ a, a ≠ 23 → M'.2.1 a = M.2.1 a) ∧ (∀ j, j < b_nb B → M'.2.1 23 (16 + j) = (thr B g p j).toInt64) := by
  have hd8 : b_nd B ≤ 8 := hB.2.2.2.2.2.1
  have hg4 : b_ng B ≤ 4 := hB.2.2.2.2.2.2.1
  have e : fX11_lay n M 1 = _ := lay_spec (w := 1) (k := g) (p := p) hn hM hB (by decide) (by omega) (fun j hj => hM.2.2.2.2.2.2.2.2.2.2.2.1 g hg j hj) hg22 (fun d hd => hp d (by omega)) (fun d hd => hs d (by omega))
  refine ⟨_, e, rfl, fun q hq => ?_, fun a q => rL_ne q, fun j hj => ?_⟩
  · rw [rL_row, if_neg (by omega)]
  · rw [rL_row, if_pos (by omega), show 16 + j - 16 * 1 = j by omega]
theorem nextM_loop (hn : 200000 ≤ n) (hB : Bok B) (hg : g < b_ng B) (hm24 : m ≤ 24) (hu8 : u ≤ 8) (hp : Adm m u (b_nd B) p) : ∀ (k j : Nat) (M : St), k ≤ b_nd B → k < j → RMb B M.1 → (∀ d, d < 8 → M.1 21 (8 + d) = nI (cut p k d)) → M.1 22 1 = nI g → M.1 0 48 = nI m → M.1 0 49 = nI u → ∃ M' r, fX11_nextMix_l7 n j M (nI k - 1) = some (M', r) ∧ kN M M' ∧ ((adv m u p k = none ∧ r = 0) ∨ ∃ q, adv m u p k = some q ∧ r = 1 ∧ WM B g m u q M') := by
  have hd8 : b_nd B ≤ 8 := hB.2.2.2.2.2.1
  intro k
  induction k with
  | zero =>
    intro j M hk hj hM h1 h2 h3 h4
    obtain ⟨j, rfl⟩ := suc_of hj
    rw [fX11_nextMix_l7, if_pos (show nI 0 - 1 < 0 by decide)]
    exact ⟨M, 0, rfl, kN_rf, Or.inl ⟨rfl, rfl⟩⟩
  | succ d ih =>
    intro j M hk hj hM h1 h2 h3 h4
    obtain ⟨j, rfl⟩ := suc_of hj
    have hs := sumN_up (p := p) hk
    have hss := sumN_s p d
    have hsu := supp_up (p := p) hk
    have hsl := supp_le (p := p) d
    have hus := supp_s p d
    obtain ⟨a1, a2, a3⟩ := id hp
    obtain ⟨i1, i2⟩ := inc_sum (p := p) (show d < b_nd B by omega)
    have h8 := h1 d (by omega)
    rw [cut_lo (by omega)] at h8
    -- one part more
    generalize hT : sI M 21 (8 + d) (nI (p d) + 1) = T
    have kT : kN M T := by rw [← hT]; exact kN_I
    have hMT := kN_M hM kT
    have t21 : ∀ i, i < 8 → T.1 21 (8 + i) = nI (inc p d i) := fun i hi => by
      rw [← hT, sI_row]
      unfold inc
      by_cases e : i = d
      · rw [e, upd_eq, if_neg (by omega), if_pos rfl, nI_1]
      · rw [upd_ne (by omega), h1 i hi]
        by_cases c2 : i < d
        · rw [cut_lo (by omega), if_pos c2]
        · rw [cut_hi (by omega), if_neg c2, if_neg e]
    have hi2 : ∀ i, i < 8 → inc p d i < 100000 := fun i hi => by
      by_cases c2 : i < b_nd B
      · have := sumN_ge (p := inc p d) c2
        omega
      · unfold inc; rw [if_neg (by omega), if_neg (by omega)]; omega
    have out : ¬ (sumN p (d + 1) < m ∧ (0 < p d ∨ supp p (d + 1) < u)) → ∃ M' r, fX11_nextMix_j54 n (fX11_nextMix_l7 n j) T (nI d) = some (M', r) ∧ kN M M' ∧ ((adv m u p (d + 1) = none ∧ r = 0) ∨ ∃ q, adv m u p (d + 1) = some q ∧ r = 1 ∧ WM B g m u q M') := fun c => by
      unfold fX11_nextMix_j54
      rw [ix8', gd_pos (ib_nI (by omega) (by decide)), bn_go, bn_go, add_m1, cl_nI (by omega)]
      have kT2 : kN M (sI T 21 (8 + d) 0) := kN_tr kT kN_I
      obtain ⟨M', r, b1, b2, b3⟩ := ih j (sI T 21 (8 + d) 0) (by omega) (by omega) (kN_M hM kT2) (fun i hi => by
        rw [sI_row]
        by_cases e : i = d
        · rw [e, upd_eq, cut_hi (Nat.le_refl _)]; rfl
        · rw [upd_ne (by omega), t21 i hi]
          unfold inc
          by_cases c2 : i < d
          · rw [if_pos c2, cut_lo c2]
          · rw [if_neg c2, if_neg e, cut_hi (by omega)]) (by rw [kT2.1 22 (by decide)]; exact h2) (by rw [kT2.1 0 (by decide)]; exact h3) (by rw [kT2.1 0 (by decide)]; exact h4)
      refine ⟨M', r, b1, kN_tr kT2 b2, ?_⟩
      rw [adv, if_neg c]
      exact b3
    rw [nI_pred, fX11_nextMix_l7, if_neg (nI_pos (by omega)), ix8', gd_pos (ib_nI (by omega) (by decide)), gd_pos (ib_nI (by omega) (by decide)), bn_go, cl_nI (by omega), h8, hT, sumM_spec hn hMT hB t21, bd_go, kT.1 0 (by decide), h3, i1]
    by_cases c1 : m < sumN p (d + 1) + 1
    · rw [if_pos (nI_lt c1 (by omega))]
      exact out (by omega)
    rw [if_neg (nI_nlt (by omega) (by omega)), unlike_spec hn hMT hB t21 (fun i hi => by have := hi2 i hi; omega), bd_go, kT.1 0 (by decide), h4, i2]
    by_cases c2 : u < supp p d + 1
    · rw [if_pos (nI_lt c2 (by omega))]
      refine out (fun z => ?_)
      by_cases c3 : p d = 0
      · rw [if_pos c3] at hus; omega
      · rw [if_neg c3] at hus; omega
    rw [if_neg (nI_nlt (by omega) (by omega))]
    unfold fX11_nextMix_j47
    have t22 : T.1 22 1 = nI g := by rw [kT.1 22 (by decide)]; exact h2
    obtain ⟨M', l1, l2, l3, l4, l5⟩ := layM_spec hn hMT hB hg t22 t21 hi2
    rw [l1, bd_go]
    refine ⟨M', 1, rfl, kN_tr kT ⟨fun a _ => by rw [l2], l3, l4⟩, Or.inr ⟨inc p d, ?_, rfl, ?_⟩⟩
    · rw [adv, if_pos]
      refine ⟨by omega, ?_⟩
      by_cases c3 : p d = 0
      · rw [if_pos c3] at hus; exact Or.inr (by omega)
      · exact Or.inl (by omega)
    · refine ⟨fun i hi => by rw [l2]; exact t21 i hi, by rw [l2]; exact t22, l5, ?_, ?_⟩
      · rw [l2, kT.1 0 (by decide)]; exact h3
      · rw [l2, kT.1 0 (by decide)]; exact h4
theorem nextM_spec (hn : 200000 ≤ n) (hB : Bok B) (hg : g < b_ng B) (hm24 : m ≤ 24) (hu8 : u ≤ 8) (hp : Adm m u (b_nd B) p) (hM : RMb B M.1) (h : WM B g m u p M) : ∃ M' r, fX11_nextMix n M = some (M', r) ∧ kN M M' ∧ ((adv m u p (b_nd B) = none ∧ r = 0) ∨ ∃ q, adv m u p (b_nd B) = some q ∧ r = 1 ∧ WM B g m u q M') := by
  have hd8 : b_nd B ≤ 8 := hB.2.2.2.2.2.1
  unfold fX11_nextMix
  rw [dyes_spec hM, bd_go, bn_go]
  refine nextM_loop hn hB hg hm24 hu8 hp (b_nd B) n M (Nat.le_refl _) (by omega) hM (fun d hd => ?_) h.2.1 h.2.2.2.1 h.2.2.2.2
  rw [h.1 d hd]
  by_cases c : d < b_nd B
  · rw [cut_lo c]
  · rw [cut_hi (by omega), hp.2.2 d (by omega)]
end
/-- the best one so far, on both sides -/
def Kp (X M : St) : Prop := (M.1 0 52 = 0 ∨ M.1 0 52 = 1) ∧ X.1 243 15 = M.1 0 52 ∧ (M.1 0 52 = 1 → X.1 243 7 = M.1 0 53 ∧ X.1 243 8 = M.1 0 54 ∧ ∀ d, d < 8 → X.1 260 d = M.1 24 d)
theorem Kp_fr {X M X' M' : St} (h : Kp X M) (h1 : X'.1 243 = X.1 243) (h2 : X'.1 260 = X.1 260) (h3 : M'.1 0 = M.1 0) (h4 : M'.1 24 = M.1 24) : Kp X' M' := by
  unfold Kp
  rw [h1, h2, h3, h4]
  exact h
theorem Kp_Gn {X M : St} (h : Kp X M) : Gn X.1 M.1 := ⟨h.1, h.2.1, fun q => (h.2.2 q).2.2⟩
/-- the best ones as they were -/
def Bs (Sx Sm X M : St) : Prop := X.1 243 17 = Sx.1 243 17 ∧ X.2.1 = Sx.2.1 ∧ M.1 0 58 = Sm.1 0 58 ∧ M.1 26 = Sm.1 26 ∧ M.1 27 = Sm.1 27
theorem Bs_adv {Sx Sm X M X' M' : St} (h : Bs Sx Sm X M) (h1 : X'.2.1 = X.2.1) (h2 : X'.1 243 = X.1 243) (h3 : M'.1 0 = M.1 0 ∧ M'.1 26 = M.1 26 ∧ M'.1 27 = M.1 27 ∧ M'.2.1 25 = M.2.1 25) : Bs Sx Sm X' M' := by
  unfold Bs
  rw [h1, h2, h3.1, h3.2.1, h3.2.2.1]
  exact h
/-- what a search is about -/
def Sc (B : Bd) (b gd g m u : Nat) (ra : Nat → Int32) (Sx Sm : St) : Prop := RelB B b Sx Sm ∧ gd < b_no B ∧ g < b_ng B ∧ m ≤ b_most B ∧ u ≤ 8 ∧ Sx.1 243 3 = nI gd ∧ Sx.1 243 14 = nI (mixN (b_nd B) m u) ∧ okR B ra ∧ (∀ j, j < b_nb B → Sx.1 (161 + gd) j = ra j)
/-- both sides at a mix -/
def Jn (B : Bd) (b g m u : Nat) (ra : Nat → Int32) (Sx Sm : St) (p : Nat → Nat) (X M : St) : Prop := kSX Sx X ∧ kSM Sm M ∧ WX B b g m u p X ∧ WM B g m u p M ∧ Kp X M ∧ Adm m u (b_nd B) p ∧ (∀ j, j < b_nb B → M.2.1 23 j = (ra j).toInt64)
section
variable {n : Nat} {B : Bd} {b gd g m u : Nat} {ra : Nat → Int32} {Sx Sm X M : St} {p : Nat → Nat}
theorem Jn_X (hS : Sc B b gd g m u ra Sx Sm) (h : Jn B b g m u ra Sx Sm p X M) : RXb B X.1 b := kSX_X hS.1.2.1.1 hS.1.1 hS.1.2.2.1 h.1
theorem Jn_M (hS : Sc B b gd g m u ra Sx Sm) (h : Jn B b g m u ra Sx Sm p X M) : RMb B M.1 := kSM_M hS.1.2.2.2.2.1 h.2.1
theorem both_adv (hn : 200000 ≤ n) (hS : Sc B b gd g m u ra Sx Sm) (h : Jn B b g m u ra Sx Sm p X M) : ∃ X' M' r, fX9_advance n X = some (X', ()) ∧ fX11_nextMix n M = some (M', r) ∧ kSX Sx X' ∧ kSM Sm M' ∧ Kp X' M' ∧ X'.2.1 = X.2.1 ∧ X'.1 243 = X.1 243 ∧ (M'.1 0 = M.1 0 ∧ M'.1 26 = M.1 26 ∧ M'.1 27 = M.1 27 ∧ M'.2.1 25 = M.2.1 25) ∧ ((adv m u p (b_nd B) = none ∧ r = 0) ∨ ∃ q, adv m u p (b_nd B) = some q ∧ r = 1 ∧ Jn B b g m u ra Sx Sm q X' M') := by
  obtain ⟨j1, j2, j3, j4, j5, j6, j7⟩ := id h
  obtain ⟨hR, hgd, hg, hm, hu, -⟩ := id hS
  have hB := hR.1
  have hmo := hB.2.1
  obtain ⟨X', x1, x2, x3⟩ := advX_spec hn hR.2.1.1 hB hg (by omega) hu j6 (Jn_X hS h) j3
  obtain ⟨M', r, m1, m2, m3⟩ := nextM_spec hn hB hg (by omega) hu j6 (Jn_M hS h) j4
  have hK : Kp X' M' := Kp_fr j5 (x2.1 243 (by omega)) (x2.1 260 (by omega)) (m2.1 0 (by decide)) (m2.1 24 (by decide))
  refine ⟨X', M', r, x1, m1, kSX_tr j1 (kW_S x2), kSM_tr j2 (kN_S m2), hK, x2.2.1, x2.1 243 (by omega), ⟨m2.1 0 (by decide), m2.1 26 (by decide), m2.1 27 (by decide), m2.2.2 25 (by decide)⟩, ?_⟩
  rcases m3 with z | ⟨q, q1, q2, q3⟩
  · exact Or.inl z
  · have h16 : b_nb B ≤ 16 := hB.1.2
    exact Or.inr ⟨q, q1, q2, kSX_tr j1 (kW_S x2), kSM_tr j2 (kN_S m2), x3 q q1, q3, hK, adm_adv j6 q1, fun j hj => by rw [m2.2.1 j (by omega)]; exact j7 j hj⟩
theorem beginM_loop {S : St} : ∀ (w k j : Nat), k + w = 8 → w < j → fX11_beginMixes_l22 n j (rI S 21 (fun i => if 8 ≤ i ∧ i < 8 + k then (fun _ => 0) (i - 8) else S.1 21 i)) (nI k) = fX11_beginMixes_j44 n (rI S 21 (fun i => if 8 ≤ i ∧ i < 8 + 8 then (fun _ => 0) (i - 8) else S.1 21 i)) := by
  intro w
  induction w with
  | zero =>
    intro k j h hj
    obtain ⟨j, rfl⟩ := suc_of hj
    rw [fX11_beginMixes_l22, if_pos (le8 (k := k) (by omega) (by omega)), show k = 8 by omega]
  | succ w ih =>
    intro k j h hj
    obtain ⟨j, rfl⟩ := suc_of hj
    rw [fX11_beginMixes_l22, if_neg (nle8 (k := k) (by omega)), ix8', gd_pos (ib_nI (by omega) (by decide)), bn_go, bn_go, nI_1, cl_nI (by omega), fillO (S := S) (a := 21) (o := 8) (k := k) (fun _ => 0) (S.1 21)]
    exact ih (k + 1) j (by omega) (by omega)
/-- a search begins: both sides at the mix of no parts -/
theorem both_start (hn : 200000 ≤ n) (hn2 : n < 2 ^ 31) (hR : RelB B b Sx Sm) (h50 : Sm.1 0 50 = 1) (h52 : Sm.1 0 52 = 0) (h15 : Sx.1 243 15 = 0) : ∃ gd g m u ra X M, Sc B b gd g m u ra Sx Sm ∧ fX11_mixes n Sm = some (Sm, nI (mixN (b_nd B) m u)) ∧ stO n Sx = some (X, ()) ∧ fX11_beginMixes n Sm = some (M, ()) ∧ Jn B b g m u ra Sx Sm (fun _ => 0) X M ∧ Bs Sx Sm X M ∧ M.1 0 52 = 0 := by
  obtain ⟨hB, ⟨hb, hr, hr0, hr2⟩, hX, hlim, hM, ht, hv, hbx, hl, ⟨o, o1, o2, o3, o4, o5, o6⟩, ⟨-, -, ha⟩, -⟩ := id hR
  obtain ⟨gd, g, m, u, g1, k1, m1, u1, e1, e2, e3, e4, e5, e6, e7, e8, e9⟩ := ha h50
  obtain ⟨kk, -⟩ := bk hb
  have hmo := hB.2.1
  have hng : b_ng B ≤ 4 := hB.2.2.2.2.2.2.1
  obtain ⟨kg, pg, q1, q2, q3⟩ := old_v hn hR o4 o1 (show gd < o by omega)
  obtain ⟨w1, w2⟩ := o5 gd g1
  have hbec := q3 Sm kLM_rf
  rw [w1, w2] at hbec
  -- the class
  obtain ⟨X, x1, x2, x3⟩ := startX_spec (m := m) (u := u) hn hn2 hb hB hX k1
  have hX0 : stO n Sx = some (X, ()) := by
    unfold stO
    rw [hr2, gd_pos kk, e3, e5, e7, x1, bd_go]
  -- the reference
  generalize hT : sI (bec B Sm 0 kg pg) 22 1 (nI g) = T
  have t0 : ∀ a, a ≠ 21 → a ≠ 22 → T.1 a = Sm.1 a := fun a c1 c2 => by rw [← hT, sI_ne c2, bec_ne c1 c2]
  have t23 : T.2.1 = (bec B Sm 0 kg pg).2.1 := by rw [← hT]; rfl
  have hMT : RMb B (rI T 21 (fun i => if 8 ≤ i ∧ i < 8 + 8 then (fun _ => 0) (i - 8) else T.1 21 i)).1 := RMb_frame hM (fun a c => by rw [rI_ne (by unfold coreM at c; omega), t0 a (by unfold coreM at c; omega) (by unfold coreM at c; omega)]) (fun k c => by rw [rI_ne (by decide), t0 0 (by decide) (by decide)])
  have hb0 := beginM_loop (n := n) (S := T) 8 0 n (by omega) (by omega)
  rw [fillO0 (f := fun _ => 0)] at hb0
  have hb0 : fX11_beginMixes_l22 n n T 0 = _ := hb0
  obtain ⟨M, l1, l2, l3, l4, l5⟩ := layM_spec (g := g) (p := fun _ => 0) hn hMT hB k1 (by rw [rI_ne (by decide), ← hT, sI_row, upd_eq]) (fun d hd => by rw [rI_row, if_pos (by omega)]; rfl) (fun d hd => by omega)
  have hM0 : fX11_beginMixes n Sm = some (M, ()) := by
    unfold fX11_beginMixes
    rw [e2, hbec, bd_go, gd_pos (show ib 1 2 by decide), bn_go, bec_ne (by decide) (by decide), e4]
    show fX11_beginMixes_l22 n n (sI (bec B Sm 0 kg pg) 22 1 (nI g)) 0 = _
    rw [hT, hb0]
    unfold fX11_beginMixes_j44
    rw [l1, bd_go]
  have m0 : ∀ a, a ≠ 21 → a ≠ 22 → M.1 a = Sm.1 a := fun a c1 c2 => by rw [l2, rI_ne c1, t0 a c1 c2]
  have hkM : kSM Sm M := ⟨fun a _ c1 c2 _ _ _ => m0 a c1 c2, fun k _ => by rw [m0 0 (by decide) (by decide)]⟩
  have h16 : b_nb B ≤ 16 := hB.1.2
  refine ⟨gd, g, m, u, thr B kg pg, X, M, ⟨hR, g1, k1, m1, u1, e1, e9, q1, q2⟩, mixesM_spec hn hM hB (by omega) u1 e6 e8 h50, hX0, hM0, ⟨kW_S x2, hkM, x3, ⟨fun d hd => ?_, ?_, l5, ?_, ?_⟩, ⟨Or.inl ?_, ?_, fun c => ?_⟩, adm_0, fun j hj => ?_⟩, ⟨by rw [x2.1 243 (by omega)], x2.2.1, by rw [m0 0 (by decide) (by decide)], m0 26 (by decide) (by decide), m0 27 (by decide) (by decide)⟩, by rw [m0 0 (by decide) (by decide)]; exact h52⟩
  · rw [l2, rI_row, if_pos (by omega)]; rfl
  · rw [l2, rI_ne (by decide), ← hT, sI_row, upd_eq]
  · rw [m0 0 (by decide) (by decide)]; exact e6
  · rw [m0 0 (by decide) (by decide)]; exact e8
  · rw [m0 0 (by decide) (by decide)]; exact h52
  · rw [x2.1 243 (by omega), m0 0 (by decide) (by decide), h15, h52]
  · rw [m0 0 (by decide) (by decide), h52] at c
    exact absurd c (by decide)
  · have := bec_thr (B := B) (S := Sm) (w := 0) (k := kg) (p := pg) hj
    rw [show 16 * 0 + j = j by omega] at this
    rw [l3 j (by omega)]
    show T.2.1 23 j = _
    rw [t23, this]
end
