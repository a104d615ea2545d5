/-- what the looks' calls leave alone -/
def kLX (S X : St) : Prop := (∀ a, a ≠ 234 → a ≠ 242 → X.1 a = S.1 a) ∧ X.1 234 9 = S.1 234 9 ∧ (∀ a, a ≠ 241 → X.2.1 a = S.2.1 a) ∧ X.2.2 = S.2.2
def kLM (S M : St) : Prop := (∀ a, a ≠ 0 → a ≠ 21 → a ≠ 22 → a ≠ 40 → M.1 a = S.1 a) ∧ (∀ k, k ≠ 81 → M.1 0 k = S.1 0 k)
theorem kLX_rf {S : St} : kLX S S := ⟨fun _ _ _ => rfl, rfl, fun _ _ => rfl, rfl⟩
theorem kLM_rf {S : St} : kLM S S := ⟨fun _ _ _ _ _ => rfl, fun _ _ => rfl⟩
theorem kLX_tr {A B C : St} (h : kLX A B) (g : kLX B C) : kLX A C := ⟨fun a q r => (g.1 a q r).trans (h.1 a q r), g.2.1.trans h.2.1, fun a q => (g.2.2.1 a q).trans (h.2.2.1 a q), g.2.2.2.trans h.2.2.2⟩
theorem kLM_tr {A B C : St} (h : kLM A B) (g : kLM B C) : kLM A C := ⟨fun a q r s t => (g.1 a q r s t).trans (h.1 a q r s t), fun k q => (g.2 k q).trans (h.2 k q)⟩
theorem kLM_bec {B : Bd} {S : St} {w k : Nat} {p : Nat → Nat} : kLM S (bec B S w k p) := ⟨fun a _ q r _ => bec_ne q r, fun k _ => by rw [bec_ne (by decide) (by decide)]⟩
theorem rel_core2 {B : Bd} {b : Nat} {Sx Sm Sx' Sm' : St} (h : RelB B b Sx Sm) (hF : ∀ a, coreF a → a ≠ 234 → Sx'.1 a = Sx.1 a) (hR : Sx'.2.2 0 = Sx.2.2 0 ∧ Sx'.2.2 243 = Sx.2.2 243) (hM : ∀ a, coreM a → Sm'.1 a = Sm.1 a) (h0 : ∀ k, core0 k → Sm'.1 0 k = Sm.1 0 k)
  (hl : Gl B Sx'.1 Sm'.1) (ht : Gt Sx'.1 Sx'.2.1 Sm'.1) (hv : Gv B Sx'.1 Sm'.1) (ha : Ga B Sx'.1 Sm'.1) (hn : Gn Sx'.1 Sm'.1) (hs : Gs B Sx'.1 Sx'.2.1 Sm'.1) (hw : Gw Sx'.1 Sm'.1) : RelB B b Sx' Sm' := by
  obtain ⟨hB, hr, hX, hlim, hM', -, -, hbx, -, ho, -⟩ := h
  refine ⟨hB, ?_, RXb_frame hX (fun a q1 q2 => hF a (by unfold coreF; rcases hr.1 with q | q <;> omega) (by rcases hr.1 with q | q <;> omega)) hB, ?_, RMb_frame hM' hM h0, ht, hv, Gbx_frame hbx (fun a q1 q2 => hF a (by unfold coreF; omega) (by omega)) (fun a q1 q2 => hM a (by unfold coreM; omega)), hl, Go_frame ho (fun a q1 q2 => hF a (by unfold coreF; omega) (by omega)) (h0 70 (by unfold core0; omega)) (hM 32 (by unfold coreM; omega)) (hM 33 (by unfold coreM; omega)), ha, hn, hs, hw⟩
  · unfold Gr at hr ⊢
    rw [hR.1, hR.2]
    exact hr
  · unfold Glim at hlim ⊢
    rw [hF 4 (by unfold coreF; omega) (by decide), hF 15 (by unfold coreF; omega) (by decide), hF 22 (by unfold coreF; omega) (by decide), hF 31 (by unfold coreF; omega) (by decide), hF 38 (by unfold coreF; omega) (by decide), hF 78 (by unfold coreF; omega) (by decide), hF 89 (by unfold coreF; omega) (by decide), hF 96 (by unfold coreF; omega) (by decide), hF 105 (by unfold coreF; omega) (by decide), hF 112 (by unfold coreF; omega) (by decide)]
    exact hlim
theorem rel_lk {B : Bd} {b : Nat} {Sx Sm X M : St} (h : RelB B b Sx Sm) (kx : kLX Sx X) (km : kLM Sm M) : RelB B b X M := by
  obtain ⟨hB, hr, hX, hlim, hM, ht, hv, hbx, hl, ho, ha, hnn, hs, hw⟩ := id h
  obtain ⟨k1, k2, k3, k4⟩ := kx
  obtain ⟨m1, m2⟩ := km
  refine rel_core2 h (fun a q q' => k1 a q' ?_) ?_ (fun a q => m1 a ?_ ?_ ?_ ?_) (fun k q => m2 k ?_) ?_ ?_ ?_ ?_ ?_ ?_ ?_
  · intro e; subst e; unfold coreF at q; omega
  · rw [k4]; exact ⟨rfl, rfl⟩
  · intro e; subst e; unfold coreM at q; omega
  · intro e; subst e; unfold coreM at q; omega
  · intro e; subst e; unfold coreM at q; omega
  · intro e; subst e; unfold coreM at q; omega
  · intro e; subst e; unfold core0 at q; omega
  · unfold Gl at hl ⊢
    rw [k2, k1 0 (by decide) (by decide), m2 78 (by decide), m2 77 (by decide), k1 235 (by decide) (by decide), k1 236 (by decide) (by decide), k1 237 (by decide) (by decide), k1 238 (by decide) (by decide), k1 239 (by decide) (by decide), k1 240 (by decide) (by decide), m1 34 (by decide) (by decide) (by decide) (by decide), m1 35 (by decide) (by decide) (by decide) (by decide), m1 36 (by decide) (by decide) (by decide) (by decide), m1 37 (by decide) (by decide) (by decide) (by decide), m1 38 (by decide) (by decide) (by decide) (by decide), m1 39 (by decide) (by decide) (by decide) (by decide)]
    exact hl
  · exact Gt_frame ht (k1 1 (by decide) (by decide)) (k1 2 (by decide) (by decide)) (k1 151 (by decide) (by decide)) (k3 153 (by decide)) (m1 1 (by decide) (by decide) (by decide) (by decide)) (fun k hk => m2 k (by omega))
  · unfold Gv Vok at hv ⊢
    rw [k1 261 (by decide) (by decide), k1 262 (by decide) (by decide), m2 65 (by decide), m2 66 (by decide), m2 67 (by decide), m1 31 (by decide) (by decide) (by decide) (by decide)]; exact hv
  · unfold Ga at ha ⊢
    rw [k1 243 (by decide) (by decide), m2 50 (by decide), m2 46 (by decide), m2 47 (by decide), m2 48 (by decide), m2 49 (by decide)]; exact ha
  · unfold Gn at hnn ⊢
    rw [k1 243 (by decide) (by decide), k1 260 (by decide) (by decide), m2 52 (by decide), m1 24 (by decide) (by decide) (by decide) (by decide)]; exact hnn
  · unfold Gs at hs ⊢
    rw [k1 243 (by decide) (by decide), k3 257 (by decide), m2 58 (by decide), m1 27 (by decide) (by decide) (by decide) (by decide), m1 26 (by decide) (by decide) (by decide) (by decide)]; exact hs
  · unfold Gw at hw ⊢
    rw [k1 0 (by decide) (by decide), k1 271 (by decide) (by decide), m2 63 (by decide), m1 29 (by decide) (by decide) (by decide) (by decide)]; exact hw
/-- an old mix, on both sides -/
theorem old_v {B : Bd} {b n : Nat} {Sx Sm : St} (hn : 200000 ≤ n) (hR : RelB B b Sx Sm) {o i : Nat} (ho' : Sm.1 0 70 = nI o) (ho72 : o ≤ 72) (hi : i < o) : ∃ (k : Nat) (p : Nat → Nat), okR B (thr B k p) ∧ (∀ j, j < b_nb B → Sx.1 (161 + i) j = thr B k p j) ∧ ∀ M, kLM Sm M → fX11_become n M 0 (M.1 32 i) (M.1 33 i) = some (bec B M 0 k p, ()) := by
  obtain ⟨hB, hr, hX, hlim, hM, ht, hv, hbx, hl, ⟨o', o1, o2, o3, o4, o5, o6⟩, -⟩ := id hR
  have eo : o' = o := (nI_eq (by omega) (by omega)).mp (o4.symm.trans ho')
  subst eo
  obtain ⟨-, -, g, k, p, w1, w2, w3, w4, w5, w6, w7, w8⟩ := o6 i hi
  have hd8 : b_nd B ≤ 8 := hB.2.2.2.2.2.1
  have h8 : b_no B ≤ 8 := hB.2.2.2.2.2.2.2.2.2.1
  have hg4 : b_ng B ≤ 4 := hB.2.2.2.2.2.2.1
  have hmo := hB.2.1
  have ec : ∀ j, thr B k (fun d => if d < b_nd B then p d else 0) j = thr B k p j := fun j => thr_congr fun d hd => if_pos hd
  refine ⟨k, fun d => if d < b_nd B then p d else 0, ?_, fun j hj => by rw [ec]; exact w8 j hj, fun M km => ?_⟩
  · refine thr_ok hB w2 ?_
    rw [sumN_congr (q := p) (fun d hd => if_pos hd)]; exact w7
  · have hM' : RMb B M.1 := RMb_frame hM (fun a q => km.1 a (by intro e; subst e; unfold coreM at q; omega) (by unfold coreM at q; omega) (by unfold coreM at q; omega) (by unfold coreM at q; omega)) (fun k q => km.2 k (by unfold core0 at q; omega))
    rw [km.1 32 (by decide) (by decide) (by decide) (by decide), km.1 33 (by decide) (by decide) (by decide) (by decide), w3]
    unfold fX11_become
    rw [if_pos (show (0 : Int32) ≤ nI g from nI_le (a := 0) (by omega) (by omega)), gd_pos (ib_nI (by omega) (by decide)), cl_nI (by omega), hM'.2.2.2.2.2.2.2.2.2.2.2.2.2.2.2.1 g w1, w4]
    refine become_j22 (w := 0) hn hM' hB (by decide) (by omega) (fun j hj => hM'.2.2.2.2.2.2.2.2.2.2.2.1 k w2 j hj) (Or.inl ⟨g, by omega, rfl⟩) (fun d hd => ?_) (fun d hd => ?_)
    · unfold Pv
      by_cases z : b_nd B ≤ d
      · rw [if_pos z, if_neg (by omega)]; rfl
      · rw [if_neg z, if_pos (show d < b_nd B by omega), w6 d (by omega)]
        by_cases z2 : nI d = Sm.1 33 i
        · rw [if_pos z2, if_pos z2.symm]
        · rw [if_neg z2, if_neg (show ¬ Sm.1 33 i = nI d from fun q => z2 q.symm), if_pos (show (0 : Int32) ≤ nI g from nI_le (a := 0) (by omega) (by omega)), cl_nI (by omega), hM'.2.2.2.2.2.2.2.2.2.2.2.2.2.2.2.2 g w1 d (by omega)]
    · have : p d ≤ sumN p (b_nd B) := sumN_ge hd
      show (if d < b_nd B then p d else 0) < 100000
      rw [if_pos hd]
      omega
theorem gd2 {ρ : Type} {P : Prop} [Decidable P] {k : Option ρ} (h : P) : gd P k = k := if_pos h
/-- whether an old mix agrees: the same on both sides -/
theorem fits_rel {B : Bd} {b n : Nat} {Sx Sm : St} {K : Int32} {i k kL : Nat} {p : Nat → Nat} (hn : 200000 ≤ n) (hR : RelB B b Sx Sm) (hi : i < 72) (hk : okR B (thr B k p)) (hrow : ∀ j, j < b_nb B → Sx.1 (161 + i) j = thr B k p j) (hkL : Sm.1 0 77 = nI kL) (hk40 : kL ≤ 40) : ∀ (m t : Nat), t + m = kL → ∃ r : Int32, (r = 0 ∨ r = 1) ∧ (∀ j X, m < j → kLX Sx X → fX1_fits_l3 n j X b (161 + i) K (nI t) = some (X, r)) ∧ (∀ j M, m < j → kLM Sm M → (∀ j, j < b_nb B → M.2.1 23 j = (thr B k p j).toInt64) → fX11_doesAgree_l22 n j M K 1 (nI t) = some (M, r)) := by
  obtain ⟨hB, ⟨hb, hr⟩, hX, hlim, hM, ht, hv, hbx, ⟨ht', kL', l1, l2, l3, l4⟩, ho, -⟩ := id hR
  obtain ⟨kk, -⟩ := bk hb
  have ek : kL' = kL := (nI_eq (by omega) (by omega)).mp (l3.symm.trans hkL)
  subst ek
  obtain ⟨ro, ri⟩ := rowK hi
  intro m
  induction m with
  | zero =>
    intro t h
    refine ⟨1, Or.inr rfl, fun j X hj kx => ?_, fun j M hj km h23 => ?_⟩
    · obtain ⟨j, rfl⟩ := suc_of hj
      rw [fX1_fits_l3, kx.2.1, l2, if_pos (nI_le (by omega) (by omega))]
    · obtain ⟨j, rfl⟩ := suc_of hj
      rw [fX11_doesAgree_l22, km.2 77 (by decide), l3, if_pos (nI_le (by omega) (by omega)), gd_pos (Or.inr rfl)]
  | succ m ih =>
    intro t h
    obtain ⟨r, r1, r2, r3⟩ := ih (t + 1) (by omega)
    obtain ⟨q1, q2, q3, q4, q5, q6, ⟨l, hl, q7⟩, ⟨e, he, q8⟩, q9⟩ := l4 t (by omega)
    have e40 : ib (nI t) 40 := ib_nI (by omega) (by decide)
    -- does it count
    have cX : ∀ X, kLX Sx X → fX1_counts n X (nI t) K = some (X, if K < Sm.1 38 t then 0 else if Sm.1 39 t = -1 then 1 else if Sm.1 39 t ≤ K then 0 else 1) := fun X kx => by
      unfold fX1_counts fX1_counts_j30
      simp only [gd_pos e40, cl_nI (show t < 2 ^ 31 by omega), kx.1 239 (by decide) (by decide), kx.1 240 (by decide) (by decide), q5, q6]
      split
      · rfl
      · split
        · rfl
        · split <;> rfl
    have cM : ∀ M, kLM Sm M → fX11_counts n M (nI t) K = some (M, if K < Sm.1 38 t then 0 else if Sm.1 39 t = -1 then 1 else if Sm.1 39 t ≤ K then 0 else 1) := fun M km => by
      unfold fX11_counts fX11_counts_j29
      simp only [gd_pos e40, cl_nI (show t < 2 ^ 31 by omega), km.1 38 (by decide) (by decide) (by decide) (by decide), km.1 39 (by decide) (by decide) (by decide) (by decide)]
      rcases q9 with z | ⟨u, u1, z⟩
      · rw [z]
        split
        · rfl
        · rw [if_pos (show (-1 : Int32) < 0 by decide), if_pos rfl]
      · rw [z, if_neg (nI_m1 (by omega)), if_neg (nI_pos (by omega))]
        split
        · rfl
        · split <;> rfl
    -- is it so
    have sX : ∀ X, kLX Sx X → fX0_seenOf sdX n X b (161 + i) (X.1 235 t) (X.1 236 t) = some (X, seV B (thr B k p) l e) := fun X kx => by
      rw [kx.1 235 (by decide) (by decide), kx.1 236 (by decide) (by decide), q1, q2, q7, q8]
      have hX' : RXb B X.1 b := RXb_frame hX (fun a h1 h2 => kx.1 a (by rcases hb with z | z <;> omega) (by rcases hb with z | z <;> omega)) hB
      rw [seenOf_spec hn hb hB hX' ri hl he]
      refine some_snd (seV_congr fun j hj => ?_)
      rw [kx.1 (161 + i) (by omega) (by omega)]
      exact hrow j hj
    have sM : ∀ M, kLM Sm M → (∀ j, j < b_nb B → M.2.1 23 j = (thr B k p j).toInt64) → fX11_seenBy n M 0 (M.1 34 t) (M.1 35 t) = some (M, seV B (thr B k p) l e) := fun M km h23 => by
      rw [km.1 34 (by decide) (by decide) (by decide) (by decide), km.1 35 (by decide) (by decide) (by decide) (by decide), q7, q8]
      have hM' : RMb B M.1 := RMb_frame hM (fun a q => km.1 a (by intro e; subst e; unfold coreM at q; omega) (by unfold coreM at q; omega) (by unfold coreM at q; omega) (by unfold coreM at q; omega)) (fun k q => km.2 k (by unfold core0 at q; omega))
      exact seenBy_spec (w := 0) hn hM' hB (by decide) hl he (fun j hj => by rw [show 16 * 0 + j = j by omega]; exact h23 j hj)
    by_cases c : (if K < Sm.1 38 t then (0 : Int32) else if Sm.1 39 t = -1 then 1 else if Sm.1 39 t ≤ K then 0 else 1) = 0
    · refine ⟨r, r1, fun j X hj kx => ?_, fun j M hj km h23 => ?_⟩
      · obtain ⟨j, rfl⟩ := suc_of hj
        rw [fX1_fits_l3, kx.2.1, l2, if_neg (nI_ge (by omega) (by omega)), cX X kx, bd_go, if_pos c]
        unfold fX1_fits_j79
        rw [bn_go, nI_1]
        exact r2 j X (by omega) kx
      · obtain ⟨j, rfl⟩ := suc_of hj
        rw [fX11_doesAgree_l22, km.2 77 (by decide), l3, if_neg (nI_ge (by omega) (by omega)), if_neg one_ne, cM M km, bd_go, if_pos c]
        unfold fX11_doesAgree_j54 fX11_doesAgree_j59
        rw [bn_go, nI_1]
        exact r3 j M (by omega) km h23
    · -- how far off
      have sX2 : ∀ X, kLX Sx X → ∀ j, fX1_fits_l3 n (j + 1) X b (161 + i) K (nI t) = (if lg_cmp (abL (seV B (thr B k p) l e - (Sm.1 36 t).toInt64 * 1000)) ((Sm.1 37 t).toInt64 * 1000) ≤ 0 then fX1_fits_l3 n j X b (161 + i) K (nI (t + 1)) else some (X, 0)) := fun X kx j => by
        rw [fX1_fits_l3, kx.2.1, l2, if_neg (nI_ge (by omega) (by omega)), cX X kx, bd_go, if_neg c]
        unfold fX1_fits_j79
        simp only [gd_pos e40, gd_pos kk, cl_nI (show t < 2 ^ 31 by omega), sX X kx, bd_go, bn_go, nI_1, kx.1 237 (by decide) (by decide), kx.1 238 (by decide) (by decide), q3, q4]
        rfl
      have sM2 : ∀ M, kLM Sm M → (∀ j, j < b_nb B → M.2.1 23 j = (thr B k p j).toInt64) → ∀ j, fX11_doesAgree_l22 n (j + 1) M K 1 (nI t) = fX11_doesAgree_l22 n j M K (if lg_cmp (abL (seV B (thr B k p) l e - (Sm.1 36 t).toInt64 * 1000)) ((Sm.1 37 t).toInt64 * 1000) ≤ 0 then 1 else 0) (nI (t + 1)) := fun M km h23 j => by
        have e1 : fX11_isSo n M (nI t) = some (M, if lg_cmp (abL (seV B (thr B k p) l e - (Sm.1 36 t).toInt64 * 1000)) ((Sm.1 37 t).toInt64 * 1000) ≤ 0 then 1 else 0) := by
          unfold fX11_isSo fX11_isSo_j42
          simp only [gd_pos e40, cl_nI (show t < 2 ^ 31 by omega), sM M km h23, bd_go, bn_go, km.1 36 (by decide) (by decide) (by decide) (by decide), km.1 37 (by decide) (by decide) (by decide) (by decide)]
          rw [abL_eq, Int64.mul_comm 1000, Int64.mul_comm 1000]
          have key : ∀ y : Int64, (if 0 < lg_cmp y ((Sm.1 37 t).toInt64 * 1000) then some (M, (0 : Int32)) else some (M, 1)) = some (M, if lg_cmp y ((Sm.1 37 t).toInt64 * 1000) ≤ 0 then 1 else 0) := fun y => by
            by_cases z : 0 < lg_cmp y ((Sm.1 37 t).toInt64 * 1000)
            · rw [if_pos z, if_neg (fun w => by rw [Int32.lt_iff_toInt_lt] at z; rw [Int32.le_iff_toInt_le] at w; omega)]
            · rw [if_neg z, if_pos (by rw [Int32.lt_iff_toInt_lt] at z; rw [Int32.le_iff_toInt_le]; omega)]
          split
          · exact key _
          · exact key _
        rw [fX11_doesAgree_l22, km.2 77 (by decide), l3, if_neg (nI_ge (by omega) (by omega)), if_neg one_ne, cM M km, bd_go, if_neg c, e1, bd_go]
        unfold fX11_doesAgree_j54 fX11_doesAgree_j59
        by_cases z : lg_cmp (abL (seV B (thr B k p) l e - (Sm.1 36 t).toInt64 * 1000)) ((Sm.1 37 t).toInt64 * 1000) ≤ 0
        · rw [if_pos z, if_neg one_ne, bn_go, nI_1]
        · rw [if_neg z, if_pos rfl, bn_go, nI_1]
      by_cases z : lg_cmp (abL (seV B (thr B k p) l e - (Sm.1 36 t).toInt64 * 1000)) ((Sm.1 37 t).toInt64 * 1000) ≤ 0
      · refine ⟨r, r1, fun j X hj kx => ?_, fun j M hj km h23 => ?_⟩
        · obtain ⟨j, rfl⟩ := suc_of hj
          rw [sX2 X kx, if_pos z]
          exact r2 j X (by omega) kx
        · obtain ⟨j, rfl⟩ := suc_of hj
          rw [sM2 M km h23, if_pos z]
          exact r3 j M (by omega) km h23
      · refine ⟨0, Or.inl rfl, fun j X hj kx => ?_, fun j M hj km h23 => ?_⟩
        · obtain ⟨j, rfl⟩ := suc_of hj
          rw [sX2 X kx, if_neg z]
        · obtain ⟨j, rfl⟩ := suc_of hj
          rw [sM2 M km h23, if_neg z]
          obtain ⟨j, rfl⟩ := suc_of (show 0 < j by omega)
          rw [fX11_doesAgree_l22]
          split
          · rw [gd_pos (Or.inl rfl)]
          · rw [if_pos rfl, gd_pos (Or.inl rfl)]
