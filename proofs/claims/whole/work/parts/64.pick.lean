-- the mix that lies there
theorem ix8' {d : Nat} : (8 : Int32) + nI d = nI (8 + d) := nI_add 8 d
def costS (B : Bd) (M : St) : Int32 := sumI (fun i => M.1 21 (8 * 1 + i) * b_prc B i) (b_nd B)
def sumS (B : Bd) (M : St) : Int32 := sumI (fun i => M.1 21 (8 * 1 + i)) (b_nd B)
/-- what putDown changes -/
def kP (M M' : St) : Prop := (∀ a, a ≠ 0 → a ≠ 24 → M'.1 a = M.1 a) ∧ (∀ k, k ≠ 52 → k ≠ 53 → k ≠ 54 → M'.1 0 k = M.1 0 k) ∧ M'.2 = M.2
section
variable {n : Nat} {B : Bd}
theorem putDown_loop {S : St} : ∀ (m k j : Nat), k + m = 8 → m < j → fX11_putDown_l2 n j (rI S 24 (fun i => if 0 ≤ i ∧ i < 0 + k then S.1 21 (8 + (i - 0)) else S.1 24 i)) (nI k) = fX11_putDown_j29 n (rI S 24 (fun i => if 0 ≤ i ∧ i < 0 + 8 then S.1 21 (8 + (i - 0)) else S.1 24 i)) := by
  intro m
  induction m with
  | zero =>
    intro k j h hj
    obtain ⟨j, rfl⟩ := suc_of hj
    rw [fX11_putDown_l2, if_pos (le8 (k := k) (by omega) (by omega)), show k = 8 by omega]
  | succ m ih =>
    intro k j h hj
    obtain ⟨j, rfl⟩ := suc_of hj
    rw [fX11_putDown_l2, if_neg (nle8 (k := k) (by omega)), ix8', gd_pos (ib_nI (by omega) (by decide)), gd_pos (ib_nI (by omega) (by decide)), bn_go, bn_go, nI_1, cl_nI (by omega), cl_nI (by omega), rI_ne (show (21 : Nat) ≠ 24 by decide)]
    have e := fillO (S := S) (a := 24) (o := 0) (k := k) (fun i => S.1 21 (8 + i)) (S.1 24)
    rw [Nat.zero_add k] at e
    rw [Nat.zero_add k, e]
    exact ih (k + 1) j (by omega) (by omega)
theorem putDown_spec {M : St} (hn : 200000 ≤ n) (hM : RMb B M.1) (hB : Bok B) : ∃ M', fX11_putDown n M = some (M', ()) ∧ kP M M' ∧ (∀ d, d < 8 → M'.1 24 d = M.1 21 (8 + d)) ∧ M'.1 0 52 = 1 ∧ M'.1 0 53 = costS B M ∧ M'.1 0 54 = sumS B M := by
  have e1 := putDown_loop (n := n) (S := M) 8 0 n (by omega) (by omega)
  rw [fillO0 (f := fun i => M.1 21 (8 + i))] at e1
  have hM1 : RMb B (rI M 24 (fun i => if 0 ≤ i ∧ i < 0 + 8 then M.1 21 (8 + (i - 0)) else M.1 24 i)).1 := RMb_frame hM (fun a q => rI_ne (by unfold coreM at q; omega)) (fun k _ => by rw [rI_ne (by decide)])
  generalize hS : (rI M 24 (fun i => if 0 ≤ i ∧ i < 0 + 8 then M.1 21 (8 + (i - 0)) else M.1 24 i)) = S at e1 hM1
  have s24 : ∀ d, d < 8 → S.1 24 d = M.1 21 (8 + d) := fun d hd => by rw [← hS, rI_row, if_pos (by omega), Nat.sub_zero]
  have sne : ∀ a, a ≠ 24 → S.1 a = M.1 a := fun a q => by rw [← hS, rI_ne q]
  have s2 : S.2 = M.2 := by rw [← hS]; rfl
  have c1 : fX11_costOf n S 1 = _ := costOf_spec (w := 1) hn hM1 hB (by decide)
  have hM2 : RMb B (sI S 0 53 (sumI (fun i => S.1 21 (8 * 1 + i) * b_prc B i) (b_nd B))).1 := RMb_frame hM1 (fun a q => sI_ne (by intro e; subst e; unfold coreM at q; omega)) (fun k q => by rw [sI_row, upd_ne (by unfold core0 at q; omega)])
  have c2 : fX11_sumOf n (sI S 0 53 (sumI (fun i => S.1 21 (8 * 1 + i) * b_prc B i) (b_nd B))) 1 = _ := sumOf_spec (w := 1) hn hM2 hB (by decide)
  have e2 : fX11_putDown n M = fX11_putDown_j29 n S := e1
  unfold fX11_putDown_j29 at e2
  rw [c1, bd_go, bn_go, c2, bd_go, bn_go, bn_go] at e2
  refine ⟨_, e2, ⟨fun a q1 q2 => ?_, fun k q1 q2 q3 => ?_, s2⟩, fun d hd => ?_, ?_, ?_, ?_⟩
  · rw [sI_ne q1, sI_ne q1, sI_ne q1, sne a q2]
  · rw [sI_row, upd_ne q1, sI_row, upd_ne q3, sI_row, upd_ne q2, sne 0 (by decide)]
  · rw [sI_ne (by decide), sI_ne (by decide), sI_ne (by decide)]; exact s24 d hd
  · rw [sI_row, upd_eq]
  · rw [sI_row, upd_ne (by decide), sI_row, upd_ne (by decide), sI_row, upd_eq]
    unfold costS
    rw [sne 21 (by decide)]
  · rw [sI_row, upd_ne (by decide), sI_row, upd_eq]
    unfold sumS
    rw [sI_ne (by decide), sne 21 (by decide)]
theorem kP_M {M M' : St} (hM : RMb B M.1) (h : kP M M') : RMb B M'.1 := RMb_frame hM (fun a q => h.1 a (by intro e; subst e; unfold coreM at q; omega) (by unfold coreM at q; omega)) (fun k q => h.2.1 k (by unfold core0 at q; omega) (by unfold core0 at q; omega) (by unfold core0 at q; omega))
theorem pk5_at {v : Nat → Nat} (hv : ∀ d, d < 8 → v d < 32) {d : Nat} (hd : d < 8) : pk5 v 8 / 2 ^ (5 * d) % 32 = v d := by
  have v0 := hv 0 (by omega)
  have v1 := hv 1 (by omega)
  have v2 := hv 2 (by omega)
  have v3 := hv 3 (by omega)
  have v4 := hv 4 (by omega)
  have v5 := hv 5 (by omega)
  have v6 := hv 6 (by omega)
  have v7 := hv 7 (by omega)
  simp only [pk5]
  rcases (show d = 0 ∨ d = 1 ∨ d = 2 ∨ d = 3 ∨ d = 4 ∨ d = 5 ∨ d = 6 ∨ d = 7 by omega) with rfl | rfl | rfl | rfl | rfl | rfl | rfl | rfl <;> omega
theorem pk5_lt {v : Nat → Nat} (hv : ∀ d, d < 8 → v d < 32) : pk5 v 8 < 2 ^ 40 := by
  have v0 := hv 0 (by omega)
  have v1 := hv 1 (by omega)
  have v2 := hv 2 (by omega)
  have v3 := hv 3 (by omega)
  have v4 := hv 4 (by omega)
  have v5 := hv 5 (by omega)
  have v6 := hv 6 (by omega)
  have v7 := hv 7 (by omega)
  simp only [pk5]
  omega
theorem unpk {v : Nat → Nat} (hv : ∀ d, d < 8 → v d < 32) {d : Nat} (hd : d < 8) : ((lN (pk5 v 8) >>> ((5 * nI d : Int32).toInt64 &&& 63)) &&& 31).toInt32 = nI (v d) := by
  have hp := pk5_lt hv
  rw [show (5 : Int32) * nI d = nI (5 * d) from pk_mul 5 d, wb_c (5 * d) (by omega), pf_shr (d := 5 * d) (by rw [wb_tb, wb_sm (5 * d) (by omega), BitVec.toNat_ofNat, Nat.mod_eq_of_lt (by omega)]) (by omega)]
  have hq : pk5 v 8 / 2 ^ (5 * d) < 2 ^ 64 := Nat.lt_of_le_of_lt (Nat.div_le_self _ _) (by omega)
  have := wb_mask (n := pk5 v 8 / 2 ^ (5 * d)) (k := 5) hq (by decide)
  have e : lN (pk5 v 8 / 2 ^ (5 * d)) &&& 31 = _ := this
  rw [e, lN_i, show (2 : Nat) ^ 5 = 32 from rfl, pk5_at hv hd]
theorem layBest_loop {S : St} {v : Nat → Nat} (hv : ∀ d, d < 8 → v d < 32) : ∀ (m k j : Nat), k + m = 8 → m < j → fX4_layBest_l23 n j (rI S 260 (fun i => if 0 ≤ i ∧ i < 0 + k then nI (v (i - 0)) else S.1 260 i)) (lN (pk5 v 8)) (nI k) = fX4_layBest_j54 n (rI S 260 (fun i => if 0 ≤ i ∧ i < 0 + 8 then nI (v (i - 0)) else S.1 260 i)) := by
  intro m
  induction m with
  | zero =>
    intro k j h hj
    obtain ⟨j, rfl⟩ := suc_of hj
    rw [fX4_layBest_l23, if_pos (le8 (k := k) (by omega) (by omega)), show k = 8 by omega]
  | succ m ih =>
    intro k j h hj
    obtain ⟨j, rfl⟩ := suc_of hj
    rw [fX4_layBest_l23, if_neg (nle8 (k := k) (by omega)), gd_pos (ib_nI (by omega) (by decide)), bn_go, bn_go, nI_1, cl_nI (by omega), unpk hv (by omega)]
    have e := fillO (S := S) (a := 260) (o := 0) (k := k) (fun i => nI (v i)) (S.1 260)
    rw [Nat.zero_add k] at e
    rw [Nat.zero_add k, e]
    exact ih (k + 1) j (by omega) (by omega)
/-- what laying a mix there changes -/
def kY (X X' : St) : Prop := (∀ a, a ≠ 243 → a ≠ 260 → X'.1 a = X.1 a) ∧ (∀ k, k ≠ 15 → X'.1 243 k = X.1 243 k) ∧ X'.2 = X.2
theorem layBest_spec {S : St} {v : Nat → Nat} {i K : Nat} (hn : 200000 ≤ n) (hv : ∀ d, d < 8 → v d < 32) (hK : K ≤ 5000) (hi : i < K) (h17 : S.1 243 17 = nI K) (hp : S.2.1 257 i = lN (pk5 v 8)) : ∃ X, fX4_layBest n S (nI i) = some (X, ()) ∧ kY S X ∧ (∀ d, d < 8 → X.1 260 d = nI (v d)) ∧ X.1 243 15 = 1 := by
  have e1 := layBest_loop (n := n) (S := S) hv 8 0 n (by omega) (by omega)
  rw [fillO0 (f := fun i => nI (v i))] at e1
  unfold fX4_layBest
  rw [if_neg (nI_pos (by omega)), h17, if_pos (nI_lt hi (by omega)), gd_pos (ib_nI (by omega) (by decide)), bn_go, cl_nI (by omega), hp]
  have e1 : fX4_layBest_l23 n n S (lN (pk5 v 8)) 0 = _ := e1
  rw [e1]
  unfold fX4_layBest_j54
  rw [bn_go]
  refine ⟨_, rfl, ⟨fun a q1 q2 => ?_, fun k q => ?_, rfl⟩, fun d hd => ?_, ?_⟩
  · rw [sI_ne q1, rI_ne q2]
  · rw [sI_row, upd_ne q, rI_ne (by decide)]
  · rw [sI_ne (by decide), rI_row, if_pos (by omega), Nat.sub_zero]
  · rw [sI_row, upd_eq]
theorem pickM_loop {S : St} {x1 : Int32} {i r : Nat} {v : Nat → Nat} (hi : i < 5000) (hx : x1 = nI i) (hr : r < 5000) (h27 : S.1 27 i = nI r) (h26 : ∀ d, d < 8 → S.1 26 (8 * r + d) = nI (v d)) : ∀ (m k j : Nat), k + m = 8 → m < j → fX11_pick_l18 n j (rI S 21 (fun i => if 8 ≤ i ∧ i < 8 + k then nI (v (i - 8)) else S.1 21 i)) x1 (nI k) = fX11_pick_j55 n (rI S 21 (fun i => if 8 ≤ i ∧ i < 8 + 8 then nI (v (i - 8)) else S.1 21 i)) := by
  subst hx
  intro m
  induction m with
  | zero =>
    intro k j h hj
    obtain ⟨j, rfl⟩ := suc_of hj
    rw [fX11_pick_l18, if_pos (le8 (k := k) (by omega) (by omega)), show k = 8 by omega]
  | succ m ih =>
    intro k j h hj
    obtain ⟨j, rfl⟩ := suc_of hj
    rw [fX11_pick_l18, if_neg (nle8 (k := k) (by omega)), gd_pos (ib_nI hi (by decide)), cl_nI (by omega), rI_ne (show (27 : Nat) ≠ 21 by decide), rI_ne (show (26 : Nat) ≠ 21 by decide), h27, ix8, ix8', gd_pos (ib_nI (by omega) (by decide)), gd_pos (ib_nI (by omega) (by decide)), bn_go, bn_go, nI_1, cl_nI (by omega), cl_nI (by omega), h26 k (by omega)]
    rw [fillO (S := S) (a := 21) (o := 8) (k := k) (fun i => nI (v i)) (S.1 21)]
    exact ih (k + 1) j (by omega) (by omega)
theorem pickM_spec {M : St} {i r K : Nat} {v : Nat → Nat} (hn : 200000 ≤ n) (hM : RMb B M.1) (hB : Bok B) (hK : K ≤ 5000) (hi : i < K) (h58 : M.1 0 58 = nI K) (hr : r < 5000) (h27 : M.1 27 i = nI r) (h26 : ∀ d, d < 8 → M.1 26 (8 * r + d) = nI (v d)) : ∃ M', fX11_pick n M (nI i) = some (M', sumI (fun d => nI (v d) * b_prc B d) (b_nd B)) ∧ (∀ a, a ≠ 0 → a ≠ 21 → a ≠ 24 → M'.1 a = M.1 a) ∧ (∀ k, k ≠ 52 → k ≠ 53 → k ≠ 54 → M'.1 0 k = M.1 0 k) ∧ (∀ d, d < 8 → M'.1 24 d = nI (v d)) ∧ M'.1 0 52 = 1 := by
  have hd8 : b_nd B ≤ 8 := hB.2.2.2.2.2.1
  have e1 := pickM_loop (n := n) (S := M) (x1 := nI i) (v := v) (show i < 5000 by omega) rfl hr h27 h26 8 0 n (by omega) (by omega)
  rw [fillO0 (f := fun i => nI (v i))] at e1
  have e1 : fX11_pick_l18 n n M (nI i) 0 = _ := e1
  have hM1 : RMb B (rI M 21 (fun i => if 8 ≤ i ∧ i < 8 + 8 then nI (v (i - 8)) else M.1 21 i)).1 := RMb_frame hM (fun a q => rI_ne (by unfold coreM at q; omega)) (fun k _ => by rw [rI_ne (by decide)])
  obtain ⟨M', p1, p2, p3, p4, p5, p6⟩ := putDown_spec hn hM1 hB
  unfold fX11_pick
  rw [h58, isIn_spec (by omega), bd_go, inR_nI hi (by omega), if_neg one_ne, e1]
  unfold fX11_pick_j55
  rw [p1, bd_go]
  refine ⟨M', some_snd ?_, fun a q1 q2 q3 => ?_, fun k q1 q2 q3 => ?_, fun d hd => ?_, p4⟩
  · rw [p5]
    unfold costS
    refine sumI_congr (fun d hd => ?_)
    show (rI M 21 _).1 21 (8 * 1 + d) * _ = _
    rw [rI_row, if_pos (by omega), show 8 * 1 + d - 8 = d by omega]
  · rw [p2.1 a q1 q3, rI_ne q2]
  · rw [p2.2.1 k q1 q2 q3, rI_ne (by decide)]
  · rw [p3 d hd, rI_row, if_pos (by omega), show 8 + d - 8 = d by omega]
end
/-- what the searches change: the class's 243 .. 260 and 15, 17 of its search; the reference's mixes -/
def kSX (X X' : St) : Prop := (∀ a, (a < 243 ∨ 260 < a) → X'.1 a = X.1 a) ∧ (∀ a, (a < 243 ∨ 260 < a) → X'.2.1 a = X.2.1 a) ∧ (∀ k, (k ≤ 6 ∨ k = 13 ∨ k = 14) → X'.1 243 k = X.1 243 k) ∧ (∀ a, a ≠ 244 → X'.2.2 a = X.2.2 a)
def kSM (M M' : St) : Prop := (∀ a, a ≠ 0 → a ≠ 21 → a ≠ 22 → a ≠ 24 → a ≠ 26 → a ≠ 27 → M'.1 a = M.1 a) ∧ (∀ k, k < 52 ∨ 59 < k → M'.1 0 k = M.1 0 k)
theorem kSX_rf {S : St} : kSX S S := ⟨fun _ _ => rfl, fun _ _ => rfl, fun _ _ => rfl, fun _ _ => rfl⟩
theorem kSM_rf {S : St} : kSM S S := ⟨fun _ _ _ _ _ _ _ => rfl, fun _ _ => rfl⟩
theorem kSX_tr {A B C : St} (h : kSX A B) (g : kSX B C) : kSX A C := ⟨fun a q => (g.1 a q).trans (h.1 a q), fun a q => (g.2.1 a q).trans (h.2.1 a q), fun k q => (g.2.2.1 k q).trans (h.2.2.1 k q), fun a q => (g.2.2.2 a q).trans (h.2.2.2 a q)⟩
theorem kSM_tr {A B C : St} (h : kSM A B) (g : kSM B C) : kSM A C := ⟨fun a q r s t u v => (g.1 a q r s t u v).trans (h.1 a q r s t u v), fun k q => (g.2 k q).trans (h.2 k q)⟩
theorem kY_S {X X' : St} (h : kY X X') : kSX X X' := ⟨fun a q => h.1 a (by omega) (by omega), fun a q => by rw [h.2.2], fun k q => h.2.1 k (by omega), fun a q => by rw [h.2.2]⟩
theorem kSX_X {B : Bd} {b : Nat} {X X' : St} (hb : b = 3 ∨ b = 77) (hB : Bok B) (hX : RXb B X.1 b) (h : kSX X X') : RXb B X'.1 b := RXb_frame hX (fun a h1 h2 => h.1 a (by rcases hb with z | z <;> omega)) hB
theorem kSM_M {B : Bd} {M M' : St} (hM : RMb B M.1) (h : kSM M M') : RMb B M'.1 := RMb_frame hM (fun a q => h.1 a (by intro e; subst e; unfold coreM at q; omega) (by unfold coreM at q; omega) (by unfold coreM at q; omega) (by unfold coreM at q; omega) (by unfold coreM at q; omega) (by unfold coreM at q; omega)) (fun k q => h.2 k (by unfold core0 at q; omega))
theorem rel_se {B : Bd} {b : Nat} {Sx Sm X M : St} (h : RelB B b Sx Sm) (kx : kSX Sx X) (km : kSM Sm M) (hn : Gn X.1 M.1) (hs : Gs B X.1 X.2.1 M.1) : RelB B b X M := by
  obtain ⟨hB, hr, hX, hlim, hM, ht, hv, hbx, hl, ho, ha, -, -, hw⟩ := id h
  have m0 : ∀ a, 0 < a → (a < 21 ∨ 27 < a) → M.1 a = Sm.1 a := fun a q1 q2 => km.1 a (by omega) (by omega) (by omega) (by omega) (by omega) (by omega)
  refine rel_core h (fun a q => kx.1 a (by unfold coreF at q; omega)) (by rw [kx.1 0 (by omega)]) ⟨kx.2.2.2 0 (by decide), kx.2.2.2 243 (by decide)⟩ (fun a q => m0 a (by unfold coreM at q; omega) (by unfold coreM at q; omega)) (fun k q => km.2 k (by unfold core0 at q; omega)) ?_ ?_ ?_ hn hs ?_
  · exact Gt_frame ht (kx.1 1 (by omega)) (kx.1 2 (by omega)) (kx.1 151 (by omega)) (kx.2.1 153 (by omega)) (m0 1 (by omega) (by omega)) (fun k q => km.2 k (by omega))
  · unfold Gv Vok at hv ⊢
    rw [kx.1 261 (by omega), kx.1 262 (by omega), km.2 65 (by omega), km.2 66 (by omega), km.2 67 (by omega), m0 31 (by omega) (by omega)]; exact hv
  · unfold Ga at ha ⊢
    rw [kx.2.2.1 13 (by omega), kx.2.2.1 3 (by omega), kx.2.2.1 4 (by omega), kx.2.2.1 5 (by omega), kx.2.2.1 6 (by omega), kx.2.2.1 14 (by omega), km.2 50 (by omega), km.2 46 (by omega), km.2 47 (by omega), km.2 48 (by omega), km.2 49 (by omega)]; exact ha
  · unfold Gw at hw ⊢
    rw [kx.1 0 (by omega), kx.1 271 (by omega), km.2 63 (by omega), m0 29 (by omega) (by omega)]; exact hw
theorem ok_pick {n : Nat} {Sx Sm : St} (hn : 200000 ≤ n) (h : Rel Sx Sm) : Ok_pick n Rel Sx Sm := by
  intro x1
  obtain ⟨B, b, hR⟩ := id h
  obtain ⟨hB, ⟨hb, hr, hr0, hr2⟩, hX, hlim, hM, ht, hv, hbx, hl, ho, ha, hnn, ⟨K, K1, K2, K3, K4⟩, hw⟩ := id hR
  obtain ⟨kk, -⟩ := bk hb
  unfold fX10_pick
  by_cases c1 : x1 < 0
  · rw [if_pos c1]
    refine ⟨Sx, Sm, -1, rfl, ?_, h⟩
    unfold fX11_pick
    rw [K3, isIn_spec (by omega), bd_go, if_pos (inR_neg c1)]
  rw [if_neg c1, K2]
  by_cases c2 : x1 < nI K
  case neg =>
    rw [if_neg c2]
    refine ⟨Sx, Sm, -1, rfl, ?_, h⟩
    unfold fX11_pick
    rw [K3, isIn_spec (by omega), bd_go, if_pos (inR_big (by rw [Int32.lt_iff_toInt_lt] at c2; rw [Int32.le_iff_toInt_le]; omega))]
  rw [if_pos c2]
  obtain ⟨i, hi, rfl⟩ := nI_of c1
  have hi : i < K := (nI_ltI hi (by omega)).mp c2
  obtain ⟨r, v, r1, r2, r3, r4⟩ := K4 i hi
  obtain ⟨X, x1, x2, x3, x4⟩ := layBest_spec hn (fun d hd => (r3 d hd).1) K1 hi K2 r4
  obtain ⟨M, m1, m2, m3, m4, m5⟩ := pickM_spec hn hM hB K1 hi K3 r1 r2 (fun d hd => (r3 d hd).2)
  have hX' : RXb B X.1 b := kSX_X hb hB hX (kY_S x2)
  have hd8 : b_nd B ≤ 8 := hB.2.2.2.2.2.1
  rw [x1, bd_go, x2.2.2, hr, gd_pos kk, priceOf_spec hn hb hB hX' ⟨by decide, by decide⟩, bd_go, m1]
  refine ⟨X, M, _, rfl, some_snd ?_, B, b, rel_se hR (kY_S x2) ⟨fun a q1 q2 q3 q4 _ _ => m2 a q1 q2 q4, fun k q => m3 k (by omega) (by omega) (by omega)⟩ ⟨Or.inr m5, x4.trans m5.symm, fun _ d hd => (x3 d hd).trans (m4 d hd).symm⟩ ?_⟩
  · exact sumI_congr fun d hd => by rw [x3 d (by omega)]
  · refine ⟨K, K1, by rw [x2.2.1 17 (by decide)]; exact K2, by rw [m3 58 (by decide) (by decide) (by decide)]; exact K3, fun j hj => ?_⟩
    rw [m2 27 (by decide) (by decide) (by decide), m2 26 (by decide) (by decide) (by decide), x2.2.2]
    exact K4 j hj
