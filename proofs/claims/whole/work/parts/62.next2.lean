/-- the best of the looks by lamp and eye, gone through in their order -/
def scn (c : Nat → Nat) (E : Nat) : Nat → Nat × Nat
  | 0 => (0, 73)
  | q + 1 => if q % 4 < E ∧ c q < (scn c E q).2 then (q, c q) else scn c E q
theorem scn_skip {c : Nat → Nat} {E a : Nat} : ∀ {b : Nat}, a ≤ b → (∀ q, a ≤ q → q < b → E ≤ q % 4) → scn c E b = scn c E a
  | 0, h, _ => by rw [show a = 0 by omega]
  | b + 1, h, hq => by
    by_cases e : a = b + 1
    · rw [e]
    · have := hq b (by omega) (by omega)
      rw [scn, if_neg (by omega)]
      exact scn_skip (by omega) (fun q q1 q2 => hq q q1 (by omega))
theorem scn_le {c : Nat → Nat} {E : Nat} (hc : ∀ q, c q ≤ 72) : ∀ q, (scn c E q).2 ≤ 73
  | 0 => Nat.le_refl _
  | q + 1 => by
    have := scn_le (E := E) hc q
    have := hc q
    rw [scn]
    split
    · show c q ≤ 73; omega
    · omega
theorem scn_lt {c : Nat → Nat} {E : Nat} (hc : ∀ q, c q ≤ 72) (hE : 0 < E) : ∀ q, (scn c E (q + 1)).2 ≤ 72
  | 0 => by
    have := hc 0
    rw [scn, if_pos ⟨hE, by show c 0 < 73; omega⟩]
    exact this
  | q + 1 => by
    have := scn_lt (E := E) hc hE q
    have := hc (q + 1)
    rw [scn]
    split
    · show c (q + 1) ≤ 72; omega
    · omega
theorem scn_0 {c : Nat → Nat} : ∀ q, scn c 0 q = (0, 73)
  | 0 => rfl
  | q + 1 => by rw [scn, if_neg (by omega)]; exact scn_0 q
theorem scn_at {c : Nat → Nat} {E : Nat} : ∀ q, (scn c E q).1 < q + 1
  | 0 => by show 0 < 1; omega
  | q + 1 => by
    have := scn_at (c := c) (E := E) q
    rw [scn]
    split
    · show q < _; omega
    · omega
theorem nI_subN {a b : Nat} (h : b ≤ a) : nI a - nI b = nI (a - b) := by
  have e : nI (a - b) + nI b = nI a := by rw [nI_add, Nat.sub_add_cancel h]
  rw [← e]
  generalize nI (a - b) = x
  generalize nI b = y
  grind
def SX (r : Nat × Nat) (X : St) : Prop := X.1 234 12 = nI r.2 ∧ (r.2 ≤ 72 → X.1 234 10 = nI (r.1 / 4) ∧ X.1 234 11 = nI (r.1 % 4))
def SM (r : Nat × Nat) (x3 x4 : Int32) : Prop := (r.2 = 73 ∧ x3 = -1) ∨ (r.2 ≤ 72 ∧ x3 = nI r.1 ∧ x4 = nI r.2)
/-- the crowd of a lamp and an eye -/
def crq (B : Bd) (vf : Nat → Nat → Int32) (lf : Nat → Nat) (L q : Nat) : Nat := crd (sgt B vf lf (q / 4) (q % 4)) L
section
variable {n : Nat} {B : Bd} {b o L : Nat} {Sx Sm : St} {vf : Nat → Nat → Int32} {lf : Nat → Nat}
theorem eyeX {k8 : St → Nat → Int32 → Option (St × Unit)} (hn : 200000 ≤ n) (hR : RelB B b Sx Sm) (hv : Ov n b B Sx Sm o vf) (ho : o ≤ 72) (hL : L ≤ 72) (hlf : ∀ q, q < L → lf q < o) {l : Nat} (hl : l < b_nl B) : ∀ (m e j : Nat) (X : St), e + m = b_ne B → m < j → NX Sx L lf X → SX (scn (crq B vf lf L) (b_ne B) (4 * l + e)) X → ∃ X', fX1_findNext_l22 n k8 j X b (nI l) (nI e) = k8 X' b (nI (l + 1)) ∧ NX Sx L lf X' ∧ SX (scn (crq B vf lf L) (b_ne B) (4 * (l + 1))) X' := by
  obtain ⟨hB, ⟨hb, hr, hr2⟩, hX, -⟩ := id hR
  obtain ⟨kk, ⟨s0, s1, s2, s3, s4⟩, k0, k1, k2, k3, k4⟩ := bk hb
  have hE : b_ne B ≤ 4 := hB.2.2.2.2.2.2.2.2.1
  have hcq : ∀ q, crq B vf lf L q ≤ 72 := fun q => Nat.le_trans crd_le hL
  intro m
  induction m with
  | zero =>
    intro e j X h hj hx hs
    obtain ⟨j, rfl⟩ := suc_of hj
    have hX' : RXb B X.1 b := RXb_frame hX (fun a h1 h2 => hx.1.1 a (by rcases hb with z | z <;> omega) (by rcases hb with z | z <;> omega)) hB
    rw [fX1_findNext_l22, gd_pos kk, s3, gd_pos k3, hX'.2.2.2.2.2.2.2.2.1, if_pos (nI_le (by omega) (by omega))]
    unfold fX1_findNext_j120
    rw [bn_go, nI_1]
    refine ⟨X, rfl, hx, ?_⟩
    rw [scn_skip (a := 4 * l + e) (by omega) (fun q q1 q2 => by omega)]
    exact hs
  | succ m ih =>
    intro e j X h hj hx hs
    obtain ⟨j, rfl⟩ := suc_of hj
    have hX' : RXb B X.1 b := RXb_frame hX (fun a h1 h2 => hx.1.1 a (by rcases hb with z | z <;> omega) (by rcases hb with z | z <;> omega)) hB
    rw [fX1_findNext_l22, gd_pos kk, s3, gd_pos k3, hX'.2.2.2.2.2.2.2.2.1, if_neg (nI_ge (by omega) (by omega))]
    obtain ⟨X1, e1, e2, e3, e4⟩ := fillX (k8 := k8) (k22 := fX1_findNext_l22 n k8 j) hn hR hv ho hL hlf hl (show e < b_ne B by omega) L 0 n X (by omega) (by omega) hx (fun q hq => by omega)
    have e1 : fX1_findNext_l37 n k8 (fX1_findNext_l22 n k8 j) n X b (nI l) (nI e) 0 = _ := e1
    rw [e1]
    have ec : crd (X1.2.1 241) L = crq B vf lf L (4 * l + e) := by
      unfold crq
      rw [show (4 * l + e) / 4 = l by omega, show (4 * l + e) % 4 = e by omega]
      exact crd_congr e4
    have hle := scn_le (E := b_ne B) hcq (4 * l + e)
    have hce := hcq (4 * l + e)
    have h12 : X1.1 234 12 = nI (scn (crq B vf lf L) (b_ne B) (4 * l + e)).2 := by rw [e3]; exact hs.1
    unfold fX1_findNext_j82 fX1_findNext_j114
    rw [crowdX_spec hn e2.2.1 hL, bd_go, h12, ec]
    by_cases c : (scn (crq B vf lf L) (b_ne B) (4 * l + e)).2 ≤ crq B vf lf L (4 * l + e)
    · rw [if_pos (nI_le c (by omega)), bn_go, nI_1]
      refine ih (e + 1) j X1 (by omega) (by omega) e2 ?_
      rw [← Nat.add_assoc, scn, if_neg (by omega)]
      unfold SX at hs ⊢
      rw [e3]
      exact hs
    · rw [if_neg (nI_ge (by omega) (by omega)), bn_go, bn_go, bn_go, bn_go, nI_1]
      refine ih (e + 1) j _ (by omega) (by omega) ⟨kLX_tr e2.1 (kLX_tr (kLX_8 (k := 12) (by decide)) (kLX_tr (kLX_8 (k := 10) (by decide)) (kLX_8 (k := 11) (by decide)))), ?_, fun q hq => ?_⟩ ?_
      · rw [sI_row, upd_ne (by decide), sI_row, upd_ne (by decide), sI_row, upd_ne (by decide)]
        exact e2.2.1
      · rw [sI_ne (by decide), sI_ne (by decide), sI_ne (by decide)]
        exact e2.2.2 q hq
      · rw [← Nat.add_assoc, scn, if_pos (by omega)]
        unfold SX
        rw [sI_row, upd_ne (by decide), sI_row, upd_ne (by decide), sI_row, upd_eq, upd_ne (by decide), upd_eq, upd_eq]
        refine ⟨rfl, fun _ => ⟨?_, ?_⟩⟩
        · show nI l = nI ((4 * l + e) / 4)
          rw [show (4 * l + e) / 4 = l by omega]
        · show nI e = nI ((4 * l + e) % 4)
          rw [show (4 * l + e) % 4 = e by omega]
theorem lampX (hn : 200000 ≤ n) (hR : RelB B b Sx Sm) (hv : Ov n b B Sx Sm o vf) (ho : o ≤ 72) (hL : L ≤ 72) (hlf : ∀ q, q < L → lf q < o) : ∀ (m l j : Nat) (X : St), l + m = b_nl B → m < j → NX Sx L lf X → SX (scn (crq B vf lf L) (b_ne B) (4 * l)) X → ∃ X', fX1_findNext_l8 n j X b (nI l) = some (X', ()) ∧ NX Sx L lf X' ∧ SX (scn (crq B vf lf L) (b_ne B) (4 * b_nl B)) X' := by
  obtain ⟨hB, ⟨hb, hr, hr2⟩, hX, -⟩ := id hR
  obtain ⟨kk, ⟨s0, s1, s2, s3, s4⟩, k0, k1, k2, k3, k4⟩ := bk hb
  have hE : b_nl B ≤ 6 := hB.2.2.2.2.2.2.2.1
  have hE4 : b_ne B ≤ 4 := hB.2.2.2.2.2.2.2.2.1
  intro m
  induction m with
  | zero =>
    intro l j X h hj hx hs
    obtain ⟨j, rfl⟩ := suc_of hj
    have hX' : RXb B X.1 b := RXb_frame hX (fun a h1 h2 => hx.1.1 a (by rcases hb with z | z <;> omega) (by rcases hb with z | z <;> omega)) hB
    have e : l = b_nl B := by omega
    subst e
    rw [fX1_findNext_l8, gd_pos kk, s2, gd_pos k2, hX'.2.2.2.2.2.2.2.1, if_pos (nI_le (by omega) (by omega))]
    exact ⟨X, rfl, hx, hs⟩
  | succ m ih =>
    intro l j X h hj hx hs
    obtain ⟨j, rfl⟩ := suc_of hj
    have hX' : RXb B X.1 b := RXb_frame hX (fun a h1 h2 => hx.1.1 a (by rcases hb with z | z <;> omega) (by rcases hb with z | z <;> omega)) hB
    rw [fX1_findNext_l8, gd_pos kk, s2, gd_pos k2, hX'.2.2.2.2.2.2.2.1, if_neg (nI_ge (by omega) (by omega))]
    obtain ⟨X1, e1, e2, e3⟩ := eyeX (k8 := fX1_findNext_l8 n j) hn hR hv ho hL hlf (show l < b_nl B by omega) (b_ne B) 0 n X (by omega) (by omega) hx hs
    have e1 : fX1_findNext_l22 n (fX1_findNext_l8 n j) n X b (nI l) 0 = _ := e1
    rw [e1]
    exact ih (l + 1) j X1 (by omega) (by omega) e2 e3
theorem lampM {x1 : Int32} (hn : 200000 ≤ n) (hR : RelB B b Sx Sm) (hv : Ov n b B Sx Sm o vf) (ho : o ≤ 72) (hL : L ≤ 72) (hlf : ∀ q, q < L → lf q < o) : ∀ (m q j : Nat) (M : St) (x3 x4 : Int32), q + m = 4 * b_nl B → m < j → NM Sm L lf M → SM (scn (crq B vf lf L) (b_ne B) q) x3 x4 → ∃ M' x3' x4', fX11_next_l81 n j M x1 x3 x4 (nI q) = fX11_next_j147 n M' x1 x3' x4' ∧ NM Sm L lf M' ∧ SM (scn (crq B vf lf L) (b_ne B) (4 * b_nl B)) x3' x4' := by
  obtain ⟨hB, ⟨hb, hr, hr2⟩, hX, hlim, hM, -⟩ := id hR
  have hE : b_nl B ≤ 6 := hB.2.2.2.2.2.2.2.1
  have hE4 : b_ne B ≤ 4 := hB.2.2.2.2.2.2.2.2.1
  have hcq : ∀ q, crq B vf lf L q ≤ 72 := fun q => Nat.le_trans crd_le hL
  have hMM : ∀ M, NM Sm L lf M → RMb B M.1 := fun M hx => RMb_frame hM (fun a q => hx.1.1 a (by intro e; subst e; unfold coreM at q; omega) (by unfold coreM at q; omega) (by unfold coreM at q; omega) (by unfold coreM at q; omega)) (fun k q => hx.1.2 k (by unfold core0 at q; omega))
  intro m
  induction m with
  | zero =>
    intro q j M x3 x4 h hj hx hs
    obtain ⟨j, rfl⟩ := suc_of hj
    have e : q = 4 * b_nl B := by omega
    subst e
    rw [fX11_next_l81, lamps_spec (hMM M hx), bd_go, show (4 : Int32) = nI 4 from rfl, pk_mul, if_pos (nI_le (by omega) (by omega))]
    exact ⟨M, x3, x4, rfl, hx, hs⟩
  | succ m ih =>
    intro q j M x3 x4 h hj hx hs
    obtain ⟨j, rfl⟩ := suc_of hj
    have e4 : nI q / 4 = nI (q / 4) := nI_divN (b := 4) (by omega) (by decide)
    have e5 : nI q - nI q / 4 * 4 = nI (q % 4) := by
      rw [e4, show (4 : Int32) = nI 4 from rfl, pk_mul, nI_subN (by omega)]
      congr 1
      omega
    rw [fX11_next_l81, lamps_spec (hMM M hx), bd_go, show (4 : Int32) * nI (b_nl B) = nI (4 * b_nl B) from pk_mul 4 _, if_neg (nI_ge (by omega) (by omega)), eyes_spec (hMM M hx), bd_go, e5, e4]
    unfold fX11_next_j134 fX11_next_j141
    simp only [bn_go, nI_1]
    by_cases c : q % 4 < b_ne B
    · rw [if_pos (nI_lt c (by omega))]
      obtain ⟨M1, f1, f2, f3⟩ := fillM hn hR hv ho hL hlf (show q / 4 < b_nl B by omega) c L 0 n M (by omega) (by omega) hx (fun q hq => by omega)
      have ec : crd (M1.2.1 41) L = crq B vf lf L q := crd_congr f3
      have f4 : fX11_greatestPart n M (nI (q / 4)) (nI (q % 4)) = some (M1, nI (crq B vf lf L q)) := by
        rw [← ec]
        exact f1.trans (crowdM_loop hn f2.2.1 hL L 0 n (by omega) (by omega))
      rw [f4, bd_go]
      have hce := hcq q
      rcases hs with ⟨s1, rfl⟩ | ⟨s1, rfl, rfl⟩
      · rw [if_pos (show (-1 : Int32) < 0 by decide)]
        refine ih (q + 1) j M1 _ _ (by omega) (by omega) f2 ?_
        rw [scn, if_pos ⟨c, by omega⟩]
        exact Or.inr ⟨hce, rfl, rfl⟩
      · have hat := scn_at (c := crq B vf lf L) (E := b_ne B) q
        rw [if_neg (nI_pos (by omega))]
        by_cases c2 : crq B vf lf L q < (scn (crq B vf lf L) (b_ne B) q).2
        · rw [if_pos (nI_lt c2 (by omega))]
          refine ih (q + 1) j M1 _ _ (by omega) (by omega) f2 ?_
          rw [scn, if_pos ⟨c, c2⟩]
          exact Or.inr ⟨hce, rfl, rfl⟩
        · rw [if_neg (nI_nlt (by omega) (by omega))]
          refine ih (q + 1) j M1 _ _ (by omega) (by omega) f2 ?_
          rw [scn, if_neg (by omega)]
          exact Or.inr ⟨s1, rfl, rfl⟩
    · rw [if_neg (nI_nlt (by omega) (by omega))]
      refine ih (q + 1) j M _ _ (by omega) (by omega) hx ?_
      rw [scn, if_neg (by omega)]
      exact hs
theorem leftM {K x1 : Int32} {ag : Nat → Int32} (hag : Ag n b B Sx Sm K o ag) (ho : Sm.1 0 70 = nI o) (ho72 : o ≤ 72) : ∀ (m i j : Nat) (M : St), i + m = o → m < j → kLM Sm M → M.1 0 81 = nI (cn ag i) → (∀ i', i' < i → ag i' ≠ 0 → M.1 40 (cn ag i') = nI i') → ∃ M', fX11_next_l18 n j M x1 K (nI i) = fX11_next_j64 n M' x1 ∧ kLM Sm M' ∧ M'.1 0 81 = nI (cn ag o) ∧ (∀ i', i' < o → ag i' ≠ 0 → M'.1 40 (cn ag i') = nI i') := by
  intro m
  induction m with
  | zero =>
    intro i j M h hj km h1 h2
    obtain ⟨j, rfl⟩ := suc_of hj
    have e : i = o := by omega
    subst e
    refine ⟨M, ?_, km, h1, h2⟩
    rw [fX11_next_l18, km.2 70 (by decide), ho, if_pos (nI_le (by omega) (by omega))]
  | succ m ih =>
    intro i j M h hj km h1 h2
    obtain ⟨j, rfl⟩ := suc_of hj
    obtain ⟨g1, -, g3⟩ := hag i (by omega)
    obtain ⟨M', e1, e2⟩ := g3 M km
    have km' := kLM_of km e2
    have hc := cn_le (ag := ag) i
    rw [fX11_next_l18, km.2 70 (by decide), ho, if_neg (nI_ge (by omega) (by omega)), e1, bd_go]
    unfold fX11_next_j58
    have h1' : M'.1 0 81 = nI (cn ag i) := by rw [e2 0 (by decide) (by decide)]; exact h1
    have h2' : ∀ i', i' < i → ag i' ≠ 0 → M'.1 40 (cn ag i') = nI i' := fun i' q1 q2 => by rw [e2 40 (by decide) (by decide)]; exact h2 i' q1 q2
    by_cases c : ag i = 0
    · rw [if_pos c, bn_go, nI_1]
      refine ih (i + 1) j M' (by omega) (by omega) km' (by rw [cn, if_pos c, Nat.add_zero]; exact h1') (fun i' hi' z => ?_)
      by_cases q : i' = i
      · rw [q] at z; exact absurd c z
      · exact h2' i' (by omega) z
    · rw [if_neg c, h1', gd_pos (ib_nI (by omega) (by decide))]
      simp only [bn_go, cl_nI (show cn ag i < 2 ^ 31 by omega), nI_1, sI_ne (show (0 : Nat) ≠ 40 by decide), h1']
      refine ih (i + 1) j _ (by omega) (by omega) (kLM_tr km' ⟨fun a q1 q2 q3 q4 => by rw [sI_ne q1, sI_ne q4], fun k q => by rw [sI_row, upd_ne q, sI_ne (by decide)]⟩) (by rw [sI_row, upd_eq, cn, if_neg c]) (fun i' hi' z => ?_)
      rw [sI_ne (by decide), sI_row]
      by_cases q : i' = i
      · rw [q, upd_eq]
      · have e1 := cn_mono (ag := ag) (i := i' + 1) (o := i) (by omega)
        rw [cn, if_neg z] at e1
        rw [upd_ne (by omega)]
        exact h2' i' (by omega) z
end
theorem ok_next {n : Nat} {Sx Sm : St} (hn : 200000 ≤ n) (h : Rel Sx Sm) : Ok_next n Rel Sx Sm := by
  intro x1 K
  obtain ⟨B, b, hR⟩ := id h
  obtain ⟨hB, ⟨hb, hr, hr2⟩, hX, hlim, hM, ht, hv, hbx, hl, ⟨o, o1, o2, o3, o4, -⟩, -⟩ := id hR
  obtain ⟨kk, ⟨s0, s1, s2, s3, s4⟩, k0, k1, k2, k3, k4⟩ := bk hb
  unfold fX10_next fX11_next
  by_cases c1 : x1 < 0
  · rw [if_pos c1, if_pos c1]
    exact ⟨Sx, Sm, _, rfl, rfl, h⟩
  rw [if_neg c1, if_neg c1]
  by_cases c2 : 2 < x1
  · rw [if_pos c2, if_neg (fun z => by rw [Int32.lt_iff_toInt_lt] at c2; rw [Int32.le_iff_toInt_le] at z; omega)]
    exact ⟨Sx, Sm, _, rfl, rfl, h⟩
  rw [if_neg c2, if_pos (show x1 ≤ 2 by rw [Int32.lt_iff_toInt_lt] at c2; rw [Int32.le_iff_toInt_le]; omega)]
  obtain ⟨ag, hag⟩ := ag_ex K hn hR o4 o1
  obtain ⟨X1, a1, a2, a3, a4⟩ := choose_spec hn hag o3 o1
  obtain ⟨M1, b1, b2, b3, b4⟩ := leftM (x1 := x1) hag o4 o1 o 0 n (sI Sm 0 81 0) (by omega) (by omega) ⟨fun a q1 _ _ _ => sI_ne q1, fun k q => by rw [sI_row, upd_ne q]⟩ (by rw [sI_row, upd_eq]; rfl) (fun i' hi' => by omega)
  have b1 : fX11_next_l18 n n (sI Sm 0 81 0) x1 K 0 = _ := b1
  have hco := cn_le (ag := ag) o
  have hr' : X1.2.2 0 2 = b := by rw [a2.2.2.2]; exact hr
  have hX1 : RXb B X1.1 b := RXb_frame hX (fun a h1 h2 => a2.1 a (by rcases hb with z | z <;> omega) (by rcases hb with z | z <;> omega)) hB
  rw [hr, gd_pos kk, a1, bd_go, bn_go, b1, hr', gd_pos kk, s2, gd_pos k2, s3, gd_pos k3, hX1.2.2.2.2.2.2.2.1, hX1.2.2.2.2.2.2.2.2.1]
  unfold fX11_next_j64
  rw [b3]
  by_cases c3 : cn ag o = 0
  · rw [c3, if_pos (show nI 0 = 0 from rfl), if_pos (show nI 0 = 0 from rfl)]
    exact ⟨X1, M1, _, rfl, rfl, B, b, rel_lk hR a2 b2⟩
  have c3' : ¬ nI (cn ag o) = 0 := nI_ne0 (by omega) (by omega)
  rw [if_neg c3', if_neg c3']
  -- the old mixes that are left
  have hlf : ∃ lf : Nat → Nat, ∀ q, q < cn ag o → lf q < o ∧ X1.1 242 q = nI (lf q) ∧ M1.1 40 q = nI (lf q) := by
    have key : ∀ q, q < cn ag o → ∃ i, i < o ∧ X1.1 242 q = nI i ∧ M1.1 40 q = nI i := fun q hq => by
      obtain ⟨i, i1, i2, i3⟩ := cn_at hq
      exact ⟨i, i1, by rw [← i2]; exact a4 i i1 i3, by rw [← i2]; exact b4 i i1 i3⟩
    exact ⟨fun q => if h : q < cn ag o then (key q h).choose else 0, fun q hq => by simp only [dif_pos hq]; exact (key q hq).choose_spec⟩
  obtain ⟨lf, hlf⟩ := hlf
  obtain ⟨vf, hvf⟩ := ov_ex hn hR o4 o1
  have hcq : ∀ q, crq B vf lf (cn ag o) q ≤ 72 := fun q => Nat.le_trans crd_le (by omega)
  have hE : b_nl B ≤ 6 := hB.2.2.2.2.2.2.2.1
  have hE4 : b_ne B ≤ 4 := hB.2.2.2.2.2.2.2.2.1
  obtain ⟨M2, y3, y4, d1, d2, d3⟩ := lampM (x1 := x1) hn hR hvf o1 (show cn ag o ≤ 72 by omega) (fun q hq => (hlf q hq).1) (4 * b_nl B) 0 n M1 (-1) 0 (by omega) (by omega) ⟨b2, b3, fun q hq => (hlf q hq).2.2⟩ (Or.inl ⟨rfl, rfl⟩)
  have d1 : fX11_next_l81 n n M1 x1 (-1) 0 0 = _ := d1
  rw [d1]
  unfold fX11_next_j147
  by_cases c4 : b_nl B = 0
  · rw [c4, if_pos (show nI 0 = 0 from rfl)]
    rw [c4] at d3
    rcases d3 with ⟨-, rfl⟩ | ⟨z, -⟩
    · rw [if_neg (show ¬ (0 : Int32) ≤ -1 by decide)]
      exact ⟨X1, M2, _, rfl, rfl, B, b, rel_lk hR a2 d2.1⟩
    · exact absurd z (by show ¬ 73 ≤ 72; decide)
  rw [if_neg (show ¬ nI (b_nl B) = 0 from nI_ne0 (by omega) (by omega))]
  by_cases c5 : b_ne B = 0
  · rw [c5, if_pos (show nI 0 = 0 from rfl)]
    rw [c5, scn_0] at d3
    rcases d3 with ⟨-, rfl⟩ | ⟨z, -⟩
    · rw [if_neg (show ¬ (0 : Int32) ≤ -1 by decide)]
      exact ⟨X1, M2, _, rfl, rfl, B, b, rel_lk hR a2 d2.1⟩
    · exact absurd z (by show ¬ 73 ≤ 72; decide)
  rw [if_neg (show ¬ nI (b_ne B) = 0 from nI_ne0 (by omega) (by omega))]
  obtain ⟨X2, f1, f2, f3, f4⟩ := lampX hn hR hvf o1 (show cn ag o ≤ 72 by omega) (fun q hq => (hlf q hq).1) (b_nl B) 0 n (sI X1 234 12 73) (by omega) (by omega) ⟨kLX_tr a2 (kLX_8 (by decide)), by rw [sI_row, upd_ne (by decide)]; exact a3, fun q hq => by rw [sI_ne (by decide)]; exact (hlf q hq).2.1⟩ ⟨by rw [sI_row, upd_eq]; rfl, fun z => absurd z (by show ¬ 73 ≤ 72; decide)⟩
  have f1 : fX1_findNext n X1 b = some (X2, ()) := f1
  rw [f1, bd_go]
  have hlt : (scn (crq B vf lf (cn ag o)) (b_ne B) (4 * b_nl B)).2 ≤ 72 := by
    have := scn_lt (E := b_ne B) hcq (by omega) (4 * b_nl B - 1)
    rw [show 4 * b_nl B - 1 + 1 = 4 * b_nl B by omega] at this
    exact this
  have hat := scn_at (c := crq B vf lf (cn ag o)) (E := b_ne B) (4 * b_nl B)
  obtain ⟨g1, g2⟩ := f4 hlt
  rcases d3 with ⟨z, -⟩ | ⟨-, rfl, rfl⟩
  · omega
  have e4 : ∀ q, q < 100 → nI q / 4 = nI (q / 4) := fun q hq => nI_divN (b := 4) (by omega) (by decide)
  have e5 : ∀ q, q < 100 → nI q - nI q / 4 * 4 = nI (q % 4) := fun q hq => by
    rw [e4 q hq, show (4 : Int32) = nI 4 from rfl, pk_mul, nI_subN (by omega)]
    congr 1
    omega
  rw [if_pos (show (0 : Int32) ≤ nI (scn (crq B vf lf (cn ag o)) (b_ne B) (4 * b_nl B)).1 from nI_le (a := 0) (by omega) (by omega)), e5 _ (by omega), e4 _ (by omega), g1, g2, f3]
  by_cases c6 : x1 = 0
  · rw [if_pos c6, if_pos c6]
    exact ⟨X2, M2, _, rfl, rfl, B, b, rel_lk hR f2.1 d2.1⟩
  rw [if_neg c6, if_neg c6]
  by_cases c7 : x1 = 1
  · rw [if_pos c7, if_pos c7]
    exact ⟨X2, M2, _, rfl, rfl, B, b, rel_lk hR f2.1 d2.1⟩
  rw [if_neg c7, if_neg c7]
  exact ⟨X2, M2, _, rfl, rfl, B, b, rel_lk hR f2.1 d2.1⟩
