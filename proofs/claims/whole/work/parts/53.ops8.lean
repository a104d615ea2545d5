theorem one_ne : ¬ (1 : Int32) = 0 := by decide
theorem bec2_1 {B : Bd} {S : St} {k1 k2 : Nat} {p1 p2 : Nat → Nat} {j : Nat} (hB : Bok B) (hj : j < b_nb B) : (bec B (bec B S 0 k1 p1) 1 k2 p2).2.1 23 j = (thr B k1 p1 j).toInt64 := by
  have h16 : b_nb B ≤ 16 := hB.1.2
  have := bec_thr (B := B) (S := S) (w := 0) (k := k1) (p := p1) hj
  rw [show 16 * 0 + j = j by omega] at this
  rw [← this]
  show (rL _ 23 _).2.1 23 j = _
  rw [rL_row, if_neg (by omega)]
theorem bec2_2 {B : Bd} {S : St} {k1 k2 : Nat} {p1 p2 : Nat → Nat} {j : Nat} (hj : j < b_nb B) : (bec B (bec B S 0 k1 p1) 1 k2 p2).2.1 23 (16 + j) = (thr B k2 p2 j).toInt64 := bec_thr (w := 1) hj
theorem Vw_ok {B : Bd} {M : Nat → Nat → Int32} {x : Int32} {k : Nat} {p : Nat → Nat} (hB : Bok B) (h : Vw B M x k p) : okR B (thr B k p) := thr_ok hB h.1 h.2.1
section
variable {n : Nat} {Sx Sm : St}
theorem ok_throwsBack (hn : 200000 ≤ n) (h : Rel Sx Sm) : Ok_throwsBack n Rel Sx Sm := by
  intro x1 x2
  obtain ⟨B, b, hR⟩ := id h
  obtain ⟨hB, ⟨hb, hr, hr2⟩, hX, hlim, hM, -⟩ := id hR
  obtain ⟨kk, -⟩ := bk hb
  have h16 : b_nb B ≤ 16 := hB.1.2
  unfold fX10_throwsBack fX11_throwsBack fX10_throwsBack_j25
  by_cases c : goodX B x1
  · obtain ⟨k, p, v⟩ := vw_of hR c
    obtain ⟨f, a, u1, u2, u3, u4, u5⟩ := rowOf_t hn hR v
    have hR1 : RelB B b (rI Sx 270 f) Sm := rel_scr hR (fun a ha => rI_ne ha) rfl (fun _ _ _ => rfl)
    have b1 : fX11_become n Sm 0 x1 (-1) = some (bec B Sm 0 k p, ()) := become_spec (S := Sm) (w := 0) hn hR (fun _ _ _ => rfl) (by decide) v
    have hR2 : RelB B b (rI Sx 270 f) (bec B Sm 0 k p) := rel_scr hR (fun a ha => rI_ne ha) rfl (fun _ h1 h2 => bec_ne h1 h2)
    rw [bq_go1 u1, isGood_t hM hB c, bd_go, if_neg one_ne, hM.1, isIn_spec (by omega), bd_go, show (rI Sx 270 f).2.2 0 2 = b from hr]
    by_cases c1 : x2 < 0
    · exact ⟨_, Sm, -1, by rw [if_pos c1], by rw [if_pos (inR_neg c1)], B, b, hR1⟩
    rw [if_neg c1, gd_pos kk, hR1.2.2.1.1]
    obtain ⟨j, hj, rfl⟩ := nI_of c1
    by_cases c2 : j < b_nb B
    · rw [if_pos (nI_lt c2 (by omega)), if_neg (by rw [inR_nI c2 (by omega)]; decide), b1, bd_go]
      simp only [gd_pos (show ib (nI j) 32 from ib_nI (by omega) (by decide)), sd_ln, u2.2, gd_pos u2.1, gd_pos (show ib (nI j) 16 from ib_nI (by omega) (by decide)), cl_nI (show j < 2 ^ 31 by omega), u3 j c2]
      refine ⟨_, _, _, rfl, ?_, B, b, hR2⟩
      have := bec_thr (B := B) (S := Sm) (w := 0) (k := k) (p := p) c2
      rw [show 16 * 0 + j = j by omega] at this
      rw [this, Int32.toInt32_toInt64]
    · have e : nI (b_nb B) ≤ nI j := nI_le (by omega) hj
      exact ⟨_, Sm, -1, by rw [if_neg (fun q => c2 ((nI_ltI hj (by omega)).mp q))], by rw [if_pos (inR_big e)], B, b, hR1⟩
  · rw [bq_go0 (rowOf_f hR c), isGood_f hM hB c, bd_go, if_pos rfl]
    exact ⟨Sx, Sm, -1, rfl, rfl, h⟩
theorem ok_seen (hn : 200000 ≤ n) (h : Rel Sx Sm) : Ok_seen n Rel Sx Sm := by
  intro x1 x2 x3
  obtain ⟨B, b, hR⟩ := id h
  obtain ⟨hB, ⟨hb, hr, hr2⟩, hX, hlim, hM, -⟩ := id hR
  obtain ⟨kk, ⟨-, -, s2, s3, -⟩, -, -, q2, q3, -⟩ := bk hb
  have hl6 : b_nl B ≤ 6 := hB.2.2.2.2.2.2.2.1
  have he4 : b_ne B ≤ 4 := hB.2.2.2.2.2.2.2.2.1
  unfold fX10_seen fX11_seen
  by_cases c : goodX B x1
  · obtain ⟨k, p, v⟩ := vw_of hR c
    obtain ⟨f, a, u1, u2, u3, u4, u5⟩ := rowOf_t hn hR v
    have hR1 : RelB B b (rI Sx 270 f) Sm := rel_scr hR (fun a ha => rI_ne ha) rfl (fun _ _ _ => rfl)
    have b1 : fX11_become n Sm 0 x1 (-1) = some (bec B Sm 0 k p, ()) := become_spec (S := Sm) (w := 0) hn hR (fun _ _ _ => rfl) (by decide) v
    have hR2 : RelB B b (rI Sx 270 f) (bec B Sm 0 k p) := rel_scr hR (fun a ha => rI_ne ha) rfl (fun _ h1 h2 => bec_ne h1 h2)
    obtain ⟨-, -, hX1, -⟩ := id hR1
    rw [bq_go1 u1, isGood_t hM hB c, bd_go, if_neg one_ne, isLamp_spec hM hB, bd_go, show (rI Sx 270 f).2.2 0 2 = b from hr, gd_pos kk, s2, gd_pos q2, has_spec q2 hX1.2.2.2.2.2.2.2.1, bd_go]
    by_cases c1 : inR x2 (b_nl B) = 0
    · exact ⟨_, Sm, -1, by rw [if_pos c1], by rw [if_pos c1], B, b, hR1⟩
    rw [if_neg c1, if_neg c1, isEye_spec hM hB, bd_go, show (rI Sx 270 f).2.2 0 2 = b from hr, gd_pos kk, s3, gd_pos q3, has_spec q3 hX1.2.2.2.2.2.2.2.2.1, bd_go]
    by_cases c2 : inR x3 (b_ne B) = 0
    · exact ⟨_, Sm, -1, by rw [if_pos c2], by rw [if_pos c2], B, b, hR1⟩
    obtain ⟨l, hl, rfl⟩ := inR_of (by omega) c1
    obtain ⟨e, he, rfl⟩ := inR_of (by omega) c2
    have w1 : fX11_seenBy n (bec B Sm 0 k p) 0 (nI l) (nI e) = some (bec B Sm 0 k p, seV B (thr B k p) l e) := seenBy_spec (w := 0) hn (bec_M hM) hB (by decide) hl he (fun j hj => bec_thr hj)
    rw [if_neg c2, if_neg c2, b1, bd_go, w1, bd_go, show (rI Sx 270 f).2.2 0 2 = b from hr, gd_pos kk, seenOf_spec hn hb hB hX1 u2 hl he, bd_go, seV_congr u3]
    exact ⟨_, _, _, rfl, rfl, B, b, hR2⟩
  · rw [bq_go0 (rowOf_f hR c), isGood_f hM hB c, bd_go, if_pos rfl]
    exact ⟨Sx, Sm, -1, rfl, rfl, h⟩
theorem ok_apart (hn : 200000 ≤ n) (h : Rel Sx Sm) : Ok_apart n Rel Sx Sm := by
  intro x1 x2 x3 x4 _
  obtain ⟨B, b, hR⟩ := id h
  obtain ⟨hB, ⟨hb, hr, hr2⟩, hX, hlim, hM, -⟩ := id hR
  obtain ⟨kk, ⟨-, -, s2, -⟩, -, -, q2, -⟩ := bk hb
  have hl6 : b_nl B ≤ 6 := hB.2.2.2.2.2.2.2.1
  unfold fX10_apart fX11_apart
  rw [isLamp_spec hM hB, bd_go]
  by_cases c : goodX B x1 ∧ goodX B x2
  · obtain ⟨k1, k2, p1, p2, S1, S2, a1, a2, v1, v2, r1, r2, i1, i2, w1, w2, f1, f2, lt⟩ := two_t hn hR c.1 c.2
    have hR2 : RelB B b S2 Sm := rel_scr hR f1 f2 (fun _ _ _ => rfl)
    have hR3 : RelB B b S2 (bec B (bec B Sm 0 k1 p1) 1 k2 p2) := rel_scr hR f1 f2 (fun _ h1 h2 => by rw [bec_ne h1 h2, bec_ne h1 h2])
    obtain ⟨-, ⟨-, hr', -⟩, hX2, -⟩ := id hR2
    rw [bq_go1 r1, bq_go1 r2, hr', gd_pos kk, s2, gd_pos q2, has_spec q2 hX2.2.2.2.2.2.2.2.1, bd_go]
    by_cases c1 : inR x3 (b_nl B) = 0
    · exact ⟨_, Sm, -1, by rw [if_pos c1], by rw [if_pos c1], B, b, hR2⟩
    obtain ⟨l, hl, rfl⟩ := inR_of (by omega) c1
    rw [if_neg c1, if_neg c1, lt, bd_go, if_neg one_ne, hr', gd_pos kk, apartOf_spec hn hb hB hX2 i1 i2 hl, bd_go, apartBy_spec hn (bec_M (bec_M hM)) hB hl (fun j hj => bec2_1 hB hj) (fun j hj => bec2_2 hj) (Vw_ok hB v1) (Vw_ok hB v2), bd_go, apV_congr w1 w2]
    exact ⟨_, _, _, rfl, rfl, B, b, hR3⟩
  · obtain ⟨S1, S2, o1, o2, r1, r2, e, hR2⟩ := two_f hn hR c
    rw [layTwo_f hM hB c, bd_go, if_pos rfl]
    refine ⟨S2, Sm, -1, ?_, by split <;> rfl, B, b, hR2⟩
    rcases e with rfl | rfl
    · rw [bq_go0 r1]
      cases o2 with
      | none => rw [bq_go0 r2]
      | some a => rw [bq_go1 r2]
    · cases o1 with
      | none => rw [bq_go0 r1, bq_go0 r2]
      | some a => rw [bq_go1 r1, bq_go0 r2]
/-- both sides' sets of lamps -/
theorem alike_loop {B : Bd} {b a1 a2 : Nat} {X M : St} {odd : Int32} {ra rb : Nat → Int32} (hn : 200000 ≤ n) (hR : RelB B b X M) (i1 : iRow a1) (i2 : iRow a2) (w1 : ∀ j, j < b_nb B → X.1 a1 j = ra j) (w2 : ∀ j, j < b_nb B → X.1 a2 j = rb j) (t1 : ∀ j, j < b_nb B → M.2.1 23 j = (ra j).toInt64) (t2 : ∀ j, j < b_nb B → M.2.1 23 (16 + j) = (rb j).toInt64) (o1 : okR B ra) (o2 : okR B rb) : ∀ (m l j j' : Nat) (x : Int32), l + m = b_nl B → m < j → m < j' → ∃ r, fX10_alike_l32 n j X odd a1 a2 x (nI l) = some (X, r) ∧ fX11_alike_l17 n j' M odd x (nI l) = some (M, r) := by
  obtain ⟨hB, ⟨hb, hr, hr2⟩, hX, hlim, hM, -⟩ := id hR
  obtain ⟨kk, ⟨-, -, s2, -⟩, -, -, q2, -⟩ := bk hb
  have hl6 : b_nl B ≤ 6 := hB.2.2.2.2.2.2.2.1
  intro m
  induction m with
  | zero =>
    intro l j j' x h hj hj'
    obtain ⟨j, rfl⟩ := suc_of hj
    obtain ⟨j', rfl⟩ := suc_of hj'
    rw [fX10_alike_l32, fX11_alike_l17, hr, gd_pos kk, s2, gd_pos q2, hX.2.2.2.2.2.2.2.1, lamps_spec hM, bd_go, if_pos (nI_le (by omega) (by omega)), if_pos (nI_le (by omega) (by omega))]
    exact ⟨x, rfl, rfl⟩
  | succ m ih =>
    intro l j j' x h hj hj'
    obtain ⟨j, rfl⟩ := suc_of hj
    obtain ⟨j', rfl⟩ := suc_of hj'
    rw [fX10_alike_l32, fX11_alike_l17, hr, gd_pos kk, s2, gd_pos q2, hX.2.2.2.2.2.2.2.1, lamps_spec hM, bd_go, if_neg (nI_ge (by omega) (by omega)), if_neg (nI_ge (by omega) (by omega)), areAlike_spec hn hb hB hX i1 i2 (by omega), isAlike_spec hn hM hB (by omega) t1 t2 o1 o2, bd_go, bd_go, alV_congr w1 w2]
    unfold fX10_alike_j73 fX11_alike_j46
    by_cases c : alV B ra rb l odd = 0
    · rw [if_pos c, if_pos c, bn_go, bn_go, bn_go, nI_1, show x ||| 0 = x from Int32.or_zero]
      exact ih (l + 1) j j' x (by omega) (by omega) (by omega)
    · rw [if_neg c, if_neg c, bn_go, bn_go, bn_go, bn_go, nI_1]
      exact ih (l + 1) j j' _ (by omega) (by omega) (by omega)
theorem ok_alike (hn : 200000 ≤ n) (h : Rel Sx Sm) : Ok_alike n Rel Sx Sm := by
  intro x1 x2 x3 _
  obtain ⟨B, b, hR⟩ := id h
  obtain ⟨hB, ⟨hb, hr, hr2⟩, hX, hlim, hM, -⟩ := id hR
  have hl6 : b_nl B ≤ 6 := hB.2.2.2.2.2.2.2.1
  unfold fX10_alike fX11_alike
  by_cases c : goodX B x1 ∧ goodX B x2
  · obtain ⟨k1, k2, p1, p2, S1, S2, a1, a2, v1, v2, r1, r2, i1, i2, w1, w2, f1, f2, lt⟩ := two_t hn hR c.1 c.2
    have hR3 : RelB B b S2 (bec B (bec B Sm 0 k1 p1) 1 k2 p2) := rel_scr hR f1 f2 (fun _ h1 h2 => by rw [bec_ne h1 h2, bec_ne h1 h2])
    rw [bq_go1 r1, bq_go1 r2, lt, bd_go, if_neg one_ne]
    obtain ⟨r, e1, e2⟩ := alike_loop (odd := x3) hn hR3 i1 i2 w1 w2 (fun j hj => bec2_1 hB hj) (fun j hj => bec2_2 hj) (Vw_ok hB v1) (Vw_ok hB v2) (b_nl B) 0 n n 0 (by omega) (by omega) (by omega)
    exact ⟨_, _, r, e1, e2, B, b, hR3⟩
  · obtain ⟨S1, S2, o1, o2, r1, r2, e, hR2⟩ := two_f hn hR c
    rw [layTwo_f hM hB c, bd_go, if_pos rfl]
    refine ⟨S2, Sm, -1, ?_, rfl, B, b, hR2⟩
    rcases e with rfl | rfl
    · rw [bq_go0 r1]
      cases o2 with
      | none => rw [bq_go0 r2]
      | some a => rw [bq_go1 r2]
    · cases o1 with
      | none => rw [bq_go0 r1, bq_go0 r2]
      | some a => rw [bq_go1 r1, bq_go0 r2]
/-- the bench with the memory's own grounds: where there are none -/
def Bg (B : Bd) (M : Nat → Nat → Int32) : Bd := (B.1, fun t => if t = 1 then fun g j => M 14 (16 * g + j) else B.2 t)
theorem ok_cost (hn : 200000 ≤ n) (h : Rel Sx Sm) : Ok_cost n Rel Sx Sm := by
  intro x
  obtain ⟨B, b, hR⟩ := id h
  obtain ⟨hB, ⟨hb, hr, hr2⟩, hX, hlim, hM, ht, hv, -⟩ := id hR
  obtain ⟨kk, ⟨-, -, -, -, s4⟩, -, -, -, -, q4⟩ := bk hb
  obtain ⟨-, -, -, -, ⟨t1, t2, t3, t4⟩, -⟩ := bk3 hb
  have h8 : b_nd B ≤ 8 := hB.2.2.2.2.2.1
  have ho8 : b_no B ≤ 8 := hB.2.2.2.2.2.2.2.2.2.1
  have hg4 : b_ng B ≤ 4 := hB.2.2.2.2.2.2.1
  have hmo := hB.2.1
  unfold fX10_cost fX11_cost fX11_cost_j16
  by_cases c : x = -1
  · subst c
    rw [if_pos rfl, if_pos rfl, hr, gd_pos kk, priceOf_spec hn hb hB hX ⟨by decide, by decide⟩, bd_go]
    obtain ⟨v1, v2, v3, v4, ⟨p, p1, p2, p3⟩, k, k1, k2⟩ := hv
    have hP : ∀ d, d < b_nd B → p d < 100000 := fun d hd => by
      have : p d ≤ sumN p 8 := sumN_ge (by omega)
      omega
    obtain ⟨T, e1, e2, e3⟩ : ∃ T : St, fX11_become n Sm 0 (-1) (-1) = some (T, ()) ∧ (∀ a, a ≠ 21 → a ≠ 22 → T.1 a = Sm.1 a) ∧ ∀ d, d < 8 → T.1 21 d = nI (p d) := by
      have key : ∀ B' : Bd, Bok B' → RMb B' Sm.1 → b_nd B' = b_nd B → (∀ j, j < b_nb B' → Sm.1 14 (16 * k + j) = b_grd B' k j) → ∃ T : St, fX11_become n Sm 0 (-1) (-1) = some (T, ()) ∧ (∀ a, a ≠ 21 → a ≠ 22 → T.1 a = Sm.1 a) ∧ ∀ d, d < 8 → T.1 21 d = nI (p d) := by
        intro B' hB' hM' hnd hG
        refine ⟨bec B' Sm 0 k p, ?_, fun a h1 h2 => bec_ne h1 h2, fun d hd => ?_⟩
        · unfold fX11_become
          rw [if_neg (by decide), k1]
          refine become_j22 (w := 0) hn hM' hB' (by decide) (by omega) hG (Or.inr (by decide)) (fun d hd => ?_) (fun d hd => hP d (by omega))
          unfold Pv
          by_cases z : b_nd B' ≤ d
          · rw [if_pos z, p2 d (by omega)]; rfl
          · rw [if_neg z, if_neg (nI_m1 (by omega)), if_neg (by decide)]; exact p1 d hd
        · unfold bec
          rw [rL_1, rI_row, if_pos (by omega), show d - 8 * 0 = d by omega]
      by_cases z : k < b_ng B
      · exact key B hB hM rfl (fun j hj => hM.2.2.2.2.2.2.2.2.2.2.2.1 k z j hj)
      · have hng : b_ng B = 0 ∨ 0 < b_ng B := by omega
        rcases hng with hng | hng
        · refine key (Bg B Sm.1) ?_ ?_ rfl (fun j hj => rfl)
          · obtain ⟨z1, z2, z3, z4, z5, z6, z7, z8, z9, z10, z11, z12, z13, z14, z15, z16, z17⟩ := hB
            refine ⟨z1, z2, z3, z4, z5, z6, z7, z8, z9, z10, z11, fun g hg => ?_, z13, z14, z15, z16, z17⟩
            exact absurd hg (by show ¬ g < b_ng B; omega)
          · obtain ⟨z1, z2, z3, z4, z5, z6, z7, z8, z9, z10, z11, z12, z13, z14, z15, z16, z17⟩ := hM
            exact ⟨z1, z2, z3, z4, z5, z6, z7, z8, z9, z10, z11, fun g hg j hj => rfl, z13, z14, z15, z16, z17⟩
        · exact absurd (show k < b_ng B by omega) z
    have hM2 : RMb B T.1 := RMb_frame hM (fun a q => e2 a (by unfold coreM at q; omega) (by unfold coreM at q; omega)) (fun k _ => by rw [e2 0 (by decide) (by decide)])
    have hR2 : RelB B b Sx T := rel_scr hR (fun _ _ => rfl) rfl e2
    have e4 : fX11_costOf n T 0 = some (T, sumI (fun i => T.1 21 (8 * 0 + i) * b_prc B i) (b_nd B)) := costOf_spec (w := 0) hn hM2 hB (by decide)
    rw [e1, bd_go, e4, bd_go]
    refine ⟨_, _, _, rfl, some_snd (sumI_congr fun d hd => ?_), B, b, hR2⟩
    rw [show 8 * 0 + d = d by omega, e3 d (by omega), v1 d (by omega), p1 d (by omega)]
  · rw [if_neg c, if_neg c, hr, gd_pos kk, s4, gd_pos q4, has_spec q4 hX.2.2.2.2.2.2.2.2.2.1, bd_go]
    rcases goodX_inR hB c with ⟨g1, g2⟩ | ⟨g1, g2⟩
    · obtain ⟨k, p, v⟩ := vw_of hR g1
      have b1 : fX11_become n Sm 0 x (-1) = some (bec B Sm 0 k p, ()) := become_spec (S := Sm) (w := 0) hn hR (fun _ _ _ => rfl) (by decide) v
      obtain ⟨a1, a2, a3, ⟨a4, -⟩ | ⟨g, gg, rfl, c1, c2⟩⟩ := id v
      · exact absurd a4 c
      have e4 : fX11_costOf n (bec B Sm 0 k p) 0 = some (bec B Sm 0 k p, sumI (fun i => (bec B Sm 0 k p).1 21 (8 * 0 + i) * b_prc B i) (b_nd B)) := costOf_spec (w := 0) hn (bec_M hM) hB (by decide)
      obtain ⟨u1, u2, u3⟩ := t4 g (by omega)
      rw [g2, if_neg one_ne, isGood_t hM hB g1, bd_go, if_neg one_ne, b1, bd_go, e4, bd_go, hr, gd_pos kk, s4, gd_pos q4, t1, gd_pos t2]
      simp only [sd_ln, t3, gd_pos (show ib (nI g) 8 from ib_nI (by omega) (by decide)), cl_nI (show g < 2 ^ 31 by omega), u1, gd_pos u2]
      rw [priceOf_spec hn hb hB hX ⟨u2, u3⟩, bd_go]
      refine ⟨_, _, _, rfl, some_snd (sumI_congr fun d hd => ?_), B, b, rel_scr hR (fun _ _ => rfl) rfl (fun _ h1 h2 => bec_ne h1 h2)⟩
      have : (bec B Sm 0 k p).1 21 (8 * 0 + d) = nI (p d) := by
        unfold bec
        rw [rL_1, rI_row, if_pos (by omega), show 8 * 0 + d - 8 * 0 = d by omega]
      rw [this, hX.2.2.2.2.2.2.2.2.2.2.2.2.2.2.1 g gg d hd, c2 d hd]
    · rw [g2, if_pos rfl, isGood_f hM hB g1, bd_go, if_pos rfl]
      exact ⟨Sx, Sm, -2, rfl, rfl, h⟩
end
