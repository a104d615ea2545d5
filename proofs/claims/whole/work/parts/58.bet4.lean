def lst (f : Nat → Int64) (F : Int64) : Nat → Nat
  | 0 => 0
  | l + 1 => if f l = F then l else lst f F l
theorem lst_spec {f : Nat → Int64} {F : Int64} : ∀ {L i : Nat}, i < L → f i = F → lst f F L < L ∧ f (lst f F L) = F ∧ ∀ l, lst f F L < l → l < L → f l ≠ F
  | 0, _, h, _ => by omega
  | L + 1, i, h, hi => by
    rw [lst]
    by_cases c : f L = F
    · rw [if_pos c]
      exact ⟨by omega, c, fun l h1 h2 => by omega⟩
    · rw [if_neg c]
      have hne : i ≠ L := fun z => c (by rw [← z]; exact hi)
      obtain ⟨g1, g2, g3⟩ := lst_spec (L := L) (i := i) (by omega) hi
      refine ⟨by omega, g2, fun l h1 h2 => ?_⟩
      by_cases z : l = L
      · rw [z]; exact c
      · exact g3 l h1 (by omega)
theorem d1S_le {d : Nat → Nat → Int64} {l u E : Nat} (hd : ∀ e, e < E → (d l e).toInt.natAbs ≤ 1411344000) : ∀ e, e ≤ E → (d1S d l u e).toInt ≤ 1411344000
  | 0, _ => by rw [d1S]; decide
  | e + 1, h => by
    have ih := d1S_le (u := u) hd e (by omega)
    rw [d1S]
    split
    · exact ih
    · have := hd e (by omega)
      rw [mxL_int, abL_int this (by decide)]
      omega
section
variable {n : Nat} {Sx Sm : St}
theorem betX_loop {B : Bd} {b a1 a2 : Nat} {X M : St} {odd : Int32} {f : Nat → Int64} {F : Int64} (hn : 200000 ≤ n) (hR : RelB B b X M) (i1 : iRow a1) (i2 : iRow a2) (hf : ∀ l, apV B (X.1 a1) (X.1 a2) l odd = f l) : ∀ (m l j : Nat), l + m = b_nl B → m < j → fX10_betray_l65 n j X odd a1 a2 (nI (b_nl B)) F (nI (lst f F l)) (nI l) = fX10_betray_j102 n X F (nI (lst f F (b_nl B))) := by
  obtain ⟨hB, ⟨hb, hr, hr2⟩, hX, hlim, hM, -⟩ := id hR
  obtain ⟨kk, -⟩ := bk hb
  have hl6 : b_nl B ≤ 6 := hB.2.2.2.2.2.2.2.1
  intro m
  induction m with
  | zero =>
    intro l j h hj
    obtain ⟨j, rfl⟩ := suc_of hj
    rw [fX10_betray_l65, if_pos (nI_le (by omega) (by omega)), show l = b_nl B by omega]
  | succ m ih =>
    intro l j h hj
    obtain ⟨j, rfl⟩ := suc_of hj
    have e := ih (l + 1) j (by omega) (by omega)
    rw [lst] at e
    rw [fX10_betray_l65, if_neg (nI_ge (by omega) (by omega)), hr, gd_pos kk, apartOf_spec hn hb hB hX i1 i2 (by omega), bd_go, hf]
    unfold fX10_betray_j96
    by_cases c : f l = F
    · rw [if_pos c] at e
      rw [if_pos (lg_eq.mpr c), bn_go, nI_1]
      exact e
    · rw [if_neg c] at e
      rw [if_neg (fun z => c (lg_eq.mp z)), bn_go, nI_1]
      exact e
theorem ok_betray (hn : 200000 ≤ n) (hn2 : n < 2 ^ 31) (h : Rel Sx Sm) : Ok_betray n Rel Sx Sm := by
  intro x1 x2 x3 _
  obtain ⟨B, b, hR⟩ := id h
  obtain ⟨hB, ⟨hb, hr, hr2⟩, hX, hlim, hM, ht, hv, hbx, hl, ho, ha, hnn, hs, hw⟩ := id hR
  obtain ⟨kk, ⟨-, -, s2, -⟩, -, -, q2, -⟩ := bk hb
  have hl6 : b_nl B ≤ 6 := hB.2.2.2.2.2.2.2.1
  unfold fX10_betray fX11_betray
  rw [lamps_spec hM, bd_go]
  by_cases c : goodX B x1 ∧ goodX B x2
  · obtain ⟨k1, k2, p1, p2, S1, S2, a1, a2, v1, v2, r1, r2, i1, i2, w1, w2, f1, f2, lt⟩ := two_t hn hR c.1 c.2
    have hR3 : RelB B b S2 (bec B (bec B Sm 0 k1 p1) 1 k2 p2) := rel_scr hR f1 f2 (fun _ h1 h2 => by rw [bec_ne h1 h2, bec_ne h1 h2])
    have hR2 : RelB B b S2 Sm := rel_scr hR f1 f2 (fun _ _ _ => rfl)
    obtain ⟨-, ⟨-, hr', -⟩, hX2, -⟩ := id hR2
    rw [bq_go1 r1, bq_go1 r2, hr', gd_pos kk, s2, gd_pos q2, bn_go, hX2.2.2.2.2.2.2.2.1]
    by_cases z : b_nl B = 0
    · exact ⟨S2, Sm, -1, by rw [z, if_pos (show nI 0 = 0 from rfl)], by rw [z, if_pos (show nI 0 = 0 from rfl)], B, b, hR2⟩
    · have e0 : ¬ nI (b_nl B) = 0 := by
        show ¬ nI (b_nl B) = nI 0
        rw [nI_eq (by omega) (by decide)]
        exact z
      rw [if_neg e0, if_neg e0, lt, bd_go, if_neg one_ne, farthestOf_spec hn hb hB hX2 i1 i2, bd_go, faS_congr w1 w2, faS_fam]
      obtain ⟨L, hL⟩ : ∃ L, b_nl B = L + 1 := ⟨b_nl B - 1, by omega⟩
      have hf : ∀ l, apV B (S2.1 a1) (S2.1 a2) l x3 = (fun l => apV B (thr B k1 p1) (thr B k2 p2) l x3) l := fun l => apV_congr w1 w2
      have hf0 : ∀ i, 0 ≤ ((fun l => apV B (thr B k1 p1) (thr B k2 p2) l x3) i).toInt := fun i => apS_nn _
      have hap : ∀ l, apV B (thr B k1 p1) (thr B k2 p2) l x3 = d1S (dfV B (thr B k1 p1) (thr B k2 p2)) l (unE x3) (b_ne B) := fun l => apS_d1S _
      have hd : ∀ l, l < b_nl B → ∀ e, e < b_ne B → (dfV B (thr B k1 p1) (thr B k2 p2) l e).toInt.natAbs ≤ 1411344000 := fun l hl e he => dfV_abs hB (Vw_ok hB v1) (Vw_ok hB v2) hl he
      obtain ⟨g1, g2, g3⟩ := bst_spec hf0 L
      rw [← hL] at g1 g2 g3
      obtain ⟨l1, l2, l3⟩ := lst_spec (f := fun l => apV B (thr B k1 p1) (thr B k2 p2) l x3) g1 g2
      have hFn := fam_nn (f := fun l => apV B (thr B k1 p1) (thr B k2 p2) l x3) (b_nl B)
      have hFge := fun l => fam_ge (f := fun l => apV B (thr B k1 p1) (thr B k2 p2) l x3) (l := b_nl B) (i := l)
      have xl := betX_loop (odd := x3) (F := fam (fun l => apV B (thr B k1 p1) (thr B k2 p2) l x3) (b_nl B)) hn hR3 i1 i2 hf (b_nl B) 0 n (by omega) (by omega)
      generalize hFF : fam (fun l => apV B (thr B k1 p1) (thr B k2 p2) l x3) (b_nl B) = F at *
      generalize hqq : lst (fun l => apV B (thr B k1 p1) (thr B k2 p2) l x3) F (b_nl B) = q at *
      rw [lst] at xl
      rw [show (0 : Int32) = nI 0 from rfl, xl]
      -- the reference
      obtain ⟨M1, m1, m2, m3⟩ := dif_loop (odd := x3) hn (bec_M (bec_M hM)) hB (fun j hj => bec2_1 hB hj) (fun j hj => bec2_2 hj) (Vw_ok hB v1) (Vw_ok hB v2) (b_nl B) 0 n _ (by omega) (by omega) rfl rfl (fun l' e' _ _ z => absurd z (by omega))
      obtain ⟨M2, m4, m5, m6, m7⟩ := try_loop (n := n) (odd := x3) (M0 := M1) (B := B) (L := L) (by rw [m2]; exact bec_M (bec_M hM)) hB hL 6 0 n M1 (by omega) (by omega) (fun _ _ => rfl) (fun i hi => by omega)
      have m4' : fX11_betray_l90 n n M1 x3 0 = fX11_betray_l135 n n M2 x3 (-1) 1 := m4
      rw [m1, m4']
      have hFe : (fun l => (d1S (dfV B (thr B k1 p1) (thr B k2 p2)) l (unE x3) (b_ne B)).toInt) = fun l => (apV B (thr B k1 p1) (thr B k2 p2) l x3).toInt := funext fun l => by rw [hap l]
      have hsum : sumN (fun i => if i = L then 10 else 0) 6 = 10 := by
        have := sumN_at (f := fun i => if i = L then 10 else 0) (a := 0) (L := L) (b := 6) (by omega) (by omega) (fun l _ hl => if_neg hl)
        rw [this, if_pos rfl]
        rfl
      obtain ⟨M3, y, n1, n2, n3, n4⟩ := ph1 (odd := x3) (d := dfV B (thr B k1 p1) (thr B k2 p2)) (M0 := M1) (q := q) (F := F.toInt) hn (by rw [m2]; exact bec_M (bec_M hM)) hB hL hd hFn (fun l hl => by rw [← hap l]; exact hFge l hl) (by omega) (by rw [← hap q]; exact congrArg Int64.toInt l2) (fun l h1 h2 => by
        have e1 := hFge l h2
        have e2 := l3 l h1 h2
        rw [← hap l]
        exact Classical.byContradiction (fun z => e2 (Int64.toInt_inj.mp (by omega)))) n M2 (fun i => if i = L then 10 else 0) (-1) (by omega) ⟨fun a h1 h2 => m5 a h2, fun l hl e he => by rw [m6]; exact m3 l e hl he, m7⟩ hsum (fun l hl => if_neg (by omega)) (fun l hl => if_neg (by omega)) (by show (-1 : Int) < _; omega)
      rw [n1]
      have hF9 : F.toInt ≤ 1411344000 := by
        have e1 := d1S_le (d := dfV B (thr B k1 p1) (thr B k2 p2)) (l := q) (u := unE x3) (hd q (by omega)) (b_ne B) (Nat.le_refl _)
        rw [← hap q] at e1
        have e2 : (apV B (thr B k1 p1) (thr B k2 p2) q x3).toInt = F.toInt := congrArg Int64.toInt l2
        omega
      have hy : y = F * 10 := by
        apply Int64.toInt_inj.mp
        rw [mul_int (a := 1411344000) (b := 10) (by omega) (by decide) (by decide), n2]
        show 10 * F.toInt = F.toInt * 10
        omega
      unfold fX10_betray_j102
      rw [fill_spec (L := 6) (by decide) rfl (by omega) hn2, bd_go, gd_pos (ib6 (by omega)), bn_go, bn_go, cl_nI (by omega), hy]
      refine ⟨_, _, _, rfl, rfl, B, b, rel_core hR (fun a q => ?_) ?_ ?_ (fun a q => ?_) (fun k q => ?_) ?_ ?_ ?_ ?_ ?_ ?_⟩
      · rw [sI_ne (by unfold coreF at q; omega), sI_ne (by unfold coreF at q; omega), rI_ne (by unfold coreF at q; omega)]
        exact f1 a (by unfold coreF at q; omega)
      · rw [sI_row, upd_ne (by decide), sI_ne (by decide), rI_ne (by decide), f1 0 (by decide)]
      · show S2.2.2 0 = _ ∧ S2.2.2 243 = _
        rw [f2]; exact ⟨rfl, rfl⟩
      · rw [n3.1 a (by unfold coreM at q; omega) (by unfold coreM at q; omega) (by unfold coreM at q; omega), m2, bec_ne (by unfold coreM at q; omega) (by unfold coreM at q; omega), bec_ne (by unfold coreM at q; omega) (by unfold coreM at q; omega)]
      · rw [n3.2.1 k (by unfold core0 at q; omega), m2, bec_ne (by decide) (by decide), bec_ne (by decide) (by decide)]
      · exact Gt_frame ht (f1 1 (by decide)) (f1 2 (by decide)) (f1 151 (by decide)) (by show S2.2.1 153 = _; rw [f2]) (by rw [n3.1 1 (by decide) (by decide) (by decide), m2, bec_ne (by decide) (by decide), bec_ne (by decide) (by decide)]) (fun k hk => by rw [n3.2.1 k (by omega), m2, bec_ne (by decide) (by decide), bec_ne (by decide) (by decide)])
      all_goals
        have g0 : ∀ k, k ≠ 63 → M3.1 0 k = Sm.1 0 k := fun k hk => by rw [n3.2.1 k hk, m2, bec_ne (by decide) (by decide), bec_ne (by decide) (by decide)]
        have gM : ∀ a, a ≠ 0 → a ≠ 29 → a ≠ 30 → a ≠ 21 → a ≠ 22 → M3.1 a = Sm.1 a := fun a q1 q2 q3 q4 q5 => by rw [n3.1 a q1 q2 q3, m2, bec_ne q4 q5, bec_ne q4 q5]
        have gX : ∀ a, a ≠ 0 → a ≠ 271 → a ≠ 270 → (sI (sI (rI S2 271 fun i => if i < 6 then 0 else S2.1 271 i) 271 q 10) 0 11 1).1 a = Sx.1 a := fun a q1 q2 q3 => by rw [sI_ne q1, sI_ne q2, rI_ne q2]; exact f1 a q3
      · unfold Gv Vok at hv ⊢
        rw [gX 261 (by decide) (by decide) (by decide), gX 262 (by decide) (by decide) (by decide), g0 65 (by decide), g0 66 (by decide), g0 67 (by decide), gM 31 (by decide) (by decide) (by decide) (by decide) (by decide)]; exact hv
      · unfold Ga at ha ⊢
        rw [gX 243 (by decide) (by decide) (by decide), g0 50 (by decide), g0 46 (by decide), g0 47 (by decide), g0 48 (by decide), g0 49 (by decide)]; exact ha
      · unfold Gn at hnn ⊢
        rw [gX 243 (by decide) (by decide) (by decide), gX 260 (by decide) (by decide) (by decide), g0 52 (by decide), gM 24 (by decide) (by decide) (by decide) (by decide) (by decide)]; exact hnn
      · unfold Gs at hs ⊢
        rw [gX 243 (by decide) (by decide) (by decide), g0 58 (by decide), gM 27 (by decide) (by decide) (by decide) (by decide) (by decide), gM 26 (by decide) (by decide) (by decide) (by decide) (by decide)]
        show ∃ k : Nat, k ≤ 5000 ∧ Sx.1 243 17 = nI k ∧ Sm.1 0 58 = nI k ∧ ∀ i, i < k → ∃ (r : Nat) (v : Nat → Nat), r < 5000 ∧ Sm.1 27 i = nI r ∧ (∀ d, d < 8 → v d < 32 ∧ Sm.1 26 (8 * r + d) = nI (v d)) ∧ S2.2.1 257 i = lN (pk5 v 8)
        rw [f2]; exact hs
      · refine ⟨Or.inr n3.2.2, ?_, fun _ l hl => ?_⟩
        · rw [sI_row, upd_eq]; exact n3.2.2.symm
        · rw [sI_ne (by decide), sI_row, rI_row, n4 l hl]
          unfold upd
          by_cases z : l = q
          · rw [if_pos z, if_pos z]
          · rw [if_neg z, if_neg z]; exact if_pos hl
  · obtain ⟨S1, S2, o1, o2, r1, r2, e, hR2⟩ := two_f hn hR c
    obtain ⟨-, ⟨-, hr', -⟩, hX2, -⟩ := id hR2
    rw [layTwo_f hM hB c, bd_go, if_pos rfl]
    refine ⟨S2, Sm, -1, ?_, by split <;> rfl, B, b, hR2⟩
    rcases e with rfl | rfl
    · rw [bq_go0 r1]
      cases o2 with
      | none => rw [bq_go0 r2, hr', gd_pos kk, s2, gd_pos q2, bn_go]
      | some a => rw [bq_go1 r2, hr', gd_pos kk, s2, gd_pos q2, bn_go]
    · cases o1 with
      | none => rw [bq_go0 r1, bq_go0 r2, hr', gd_pos kk, s2, gd_pos q2, bn_go]
      | some a => rw [bq_go1 r1, bq_go0 r2, hr', gd_pos kk, s2, gd_pos q2, bn_go]
end
