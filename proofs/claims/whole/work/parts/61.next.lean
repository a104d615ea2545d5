/-- how many of the first m are v -/
def cnt (s : Nat → Int64) (v : Int64) : Nat → Nat
  | 0 => 0
  | m + 1 => cnt s v m + if s m = v then 1 else 0
def gmx (f : Nat → Nat) : Nat → Nat
  | 0 => 0
  | i + 1 => max (gmx f i) (f i)
theorem cnt_le {s : Nat → Int64} {v : Int64} : ∀ m, cnt s v m ≤ m
  | 0 => Nat.le_refl _
  | m + 1 => by
    have := cnt_le (s := s) (v := v) m
    rw [cnt]
    split <;> omega
theorem cnt_mono {s : Nat → Int64} {v : Int64} {i : Nat} : ∀ {o : Nat}, i ≤ o → cnt s v i ≤ cnt s v o
  | 0, h => by rw [show i = 0 by omega]; exact Nat.le_refl _
  | o + 1, h => by
    by_cases c : i = o + 1
    · rw [c]; exact Nat.le_refl _
    · have := cnt_mono (s := s) (v := v) (i := i) (o := o) (by omega)
      rw [cnt]
      omega
theorem cnt_first {s : Nat → Int64} {v : Int64} : ∀ {m : Nat}, 0 < cnt s v m → ∃ q, q < m ∧ s q = v ∧ cnt s v q = 0
  | 0, h => by rw [cnt] at h; omega
  | m + 1, h => by
    by_cases c : 0 < cnt s v m
    · obtain ⟨q, h1, h2⟩ := cnt_first c
      exact ⟨q, by omega, h2⟩
    · by_cases e : s m = v
      · exact ⟨m, by omega, e, by omega⟩
      · rw [cnt, if_neg e] at h; omega
theorem gmx_ge {f : Nat → Nat} : ∀ {m i : Nat}, i < m → f i ≤ gmx f m
  | 0, i, h => by omega
  | m + 1, i, h => by
    rw [gmx]
    by_cases e : i = m
    · subst e; omega
    · have := gmx_ge (f := f) (m := m) (i := i) (by omega)
      omega
theorem gmx_le {f : Nat → Nat} {C : Nat} : ∀ {m : Nat}, (∀ i, i < m → f i ≤ C) → gmx f m ≤ C
  | 0, h => Nat.zero_le _
  | m + 1, h => by
    have := gmx_le (f := f) (C := C) (m := m) (fun i hi => h i (by omega))
    have := h m (by omega)
    rw [gmx]; omega
/-- the greatest crowd, counted from each one on, or in full -/
def crX (s : Nat → Int64) (L i : Nat) : Nat := cnt s (s i) L - cnt s (s i) i
theorem crowd_eq {s : Nat → Int64} {L : Nat} : gmx (crX s L) L = gmx (fun i => cnt s (s i) L) L := by
  apply Nat.le_antisymm
  · refine gmx_le (fun i hi => ?_)
    have := gmx_ge (f := fun i => cnt s (s i) L) hi
    have : cnt s (s i) L ≤ gmx (fun i => cnt s (s i) L) L := this
    unfold crX; omega
  · refine gmx_le (fun i hi => ?_)
    show cnt s (s i) L ≤ _
    have h1 : 0 < cnt s (s i) L := by
      have e1 := cnt_mono (s := s) (v := s i) (i := i + 1) (o := L) (by omega)
      rw [cnt, if_pos rfl] at e1
      omega
    obtain ⟨q, q1, q2, q3⟩ := cnt_first h1
    have e2 := gmx_ge (f := crX s L) q1
    have e3 : crX s L q = cnt s (s i) L := by unfold crX; rw [q2, q3]; rfl
    omega
theorem gmx_congr {f g : Nat → Nat} : ∀ {m : Nat}, (∀ i, i < m → f i = g i) → gmx f m = gmx g m
  | 0, _ => rfl
  | m + 1, h => by rw [gmx, gmx, gmx_congr (fun i hi => h i (by omega)), h m (by omega)]
theorem cnt_congr {s t : Nat → Int64} {v : Int64} : ∀ {m : Nat}, (∀ i, i < m → s i = t i) → cnt s v m = cnt t v m
  | 0, _ => rfl
  | m + 1, h => by rw [cnt, cnt, cnt_congr (fun i hi => h i (by omega)), h m (by omega)]
/-- the crowd of a row of sights -/
def crd (s : Nat → Int64) (L : Nat) : Nat := gmx (fun i => cnt s (s i) L) L
theorem crd_le {s : Nat → Int64} {L : Nat} : crd s L ≤ L := gmx_le fun i _ => cnt_le L
theorem crd_congr {s t : Nat → Int64} {L : Nat} (h : ∀ i, i < L → s i = t i) : crd s L = crd t L := gmx_congr fun i hi => by rw [h i hi]; exact cnt_congr h
theorem mxI_nI {a b : Nat} (ha : a < 2 ^ 31) (hb : b < 2 ^ 31) : (if nI a < nI b then nI b else nI a) = nI (max a b) := by
  by_cases c : a < b
  · rw [if_pos (nI_lt c hb), Nat.max_eq_right (by omega)]
  · rw [if_neg (nI_nlt (by omega) ha), Nat.max_eq_left (by omega)]
section
variable {n : Nat}
theorem crowdX_in {k4 : St → Int32 → Int32 → Option (St × Int32)} {X : St} {L i G : Nat} (hL : X.1 234 8 = nI L) (hL72 : L ≤ 72) (hi : i < L) (hG : G < 2 ^ 31) : ∀ (m k j : Nat), k + m = L → i ≤ k → m < j → fX1_greatestCrowd_l17 n k4 j X (nI G) (nI i) (nI (cnt (X.2.1 241) (X.2.1 241 i) k - cnt (X.2.1 241) (X.2.1 241 i) i)) (nI k) = k4 X (nI (max G (crX (X.2.1 241) L i))) (nI (i + 1)) := by
  intro m
  induction m with
  | zero =>
    intro k j h hik hj
    obtain ⟨j, rfl⟩ := suc_of hj
    have e : k = L := by omega
    subst e
    have hc := cnt_le (s := X.2.1 241) (v := X.2.1 241 i) k
    rw [fX1_greatestCrowd_l17, hL, if_pos (nI_le (Nat.le_refl _) (by omega))]
    unfold fX1_greatestCrowd_j52
    rw [bn_go, bn_go, nI_1, mxI_nI hG (by omega)]
    rfl
  | succ m ih =>
    intro k j h hik hj
    obtain ⟨j, rfl⟩ := suc_of hj
    have hm := cnt_mono (s := X.2.1 241) (v := X.2.1 241 i) hik
    rw [fX1_greatestCrowd_l17, hL, if_neg (nI_ge (by omega) (by omega)), gd_pos (ib_nI (by omega) (by decide)), gd_pos (ib_nI (by omega) (by decide)), cl_nI (by omega), cl_nI (by omega)]
    have e3 := ih (k + 1) j (by omega) (by omega) (by omega)
    unfold fX1_greatestCrowd_j46
    by_cases c : X.2.1 241 k = X.2.1 241 i
    · rw [cnt, if_pos c] at e3
      rw [if_pos (lg_eq.mpr c), bn_go, bn_go, nI_1, nI_1, ← e3]
      congr 2
      omega
    · rw [cnt, if_neg c, Nat.add_zero] at e3
      rw [if_neg (fun z => c (lg_eq.mp z)), bn_go, nI_1]
      exact e3
theorem crowdX_loop {X : St} {L : Nat} (hn : 200000 ≤ n) (hL : X.1 234 8 = nI L) (hL72 : L ≤ 72) : ∀ (m i j : Nat), i + m = L → m < j → fX1_greatestCrowd_l4 n j X (nI (gmx (crX (X.2.1 241) L) i)) (nI i) = some (X, nI (crd (X.2.1 241) L)) := by
  intro m
  induction m with
  | zero =>
    intro i j h hj
    obtain ⟨j, rfl⟩ := suc_of hj
    have e : i = L := by omega
    subst e
    rw [fX1_greatestCrowd_l4, hL, if_pos (nI_le (Nat.le_refl _) (by omega)), crowd_eq]
    rfl
  | succ m ih =>
    intro i j h hj
    obtain ⟨j, rfl⟩ := suc_of hj
    have hg : gmx (crX (X.2.1 241) L) i ≤ 72 := gmx_le fun q _ => by
      have := cnt_le (s := X.2.1 241) (v := X.2.1 241 q) L
      unfold crX; omega
    rw [fX1_greatestCrowd_l4, hL, if_neg (nI_ge (by omega) (by omega))]
    have e1 := crowdX_in (n := n) (k4 := fX1_greatestCrowd_l4 n j) (X := X) (L := L) (i := i) (G := gmx (crX (X.2.1 241) L) i) hL hL72 (by omega) (by omega) (L - i) i n (by omega) (Nat.le_refl _) (by omega)
    rw [Nat.sub_self] at e1
    exact e1.trans (ih (i + 1) j (by omega) (by omega))
theorem crowdX_spec {X : St} {L : Nat} (hn : 200000 ≤ n) (hL : X.1 234 8 = nI L) (hL72 : L ≤ 72) : fX1_greatestCrowd n X = some (X, nI (crd (X.2.1 241) L)) := crowdX_loop hn hL hL72 L 0 n (by omega) (by omega)
theorem crowdM_in {k65 : St → Int32 → Int32 → Option (St × Int32)} {M : St} {L i G : Nat} (hL : M.1 0 81 = nI L) (hL72 : L ≤ 72) (hi : i < L) (hG : G < 2 ^ 31) : ∀ (m k j : Nat), k + m = L → m < j → fX11_greatestPart_l80 n k65 j M (nI G) (nI i) (nI (cnt (M.2.1 41) (M.2.1 41 i) k)) (nI k) = k65 M (nI (max G (cnt (M.2.1 41) (M.2.1 41 i) L))) (nI (i + 1)) := by
  intro m
  induction m with
  | zero =>
    intro k j h hj
    obtain ⟨j, rfl⟩ := suc_of hj
    have e : k = L := by omega
    subst e
    have hc := cnt_le (s := M.2.1 41) (v := M.2.1 41 i) k
    rw [fX11_greatestPart_l80, hL, if_pos (nI_le (Nat.le_refl _) (by omega))]
    unfold fX11_greatestPart_j123 fX11_greatestPart_j135
    simp only [bn_go, nI_1]
    by_cases c : cnt (M.2.1 41) (M.2.1 41 i) k ≤ G
    · rw [if_pos (nI_le c hG), Nat.max_eq_left c]
    · rw [if_neg (nI_ge (by omega) (by omega)), Nat.max_eq_right (by omega)]
  | succ m ih =>
    intro k j h hj
    obtain ⟨j, rfl⟩ := suc_of hj
    rw [fX11_greatestPart_l80, hL, if_neg (nI_ge (by omega) (by omega)), gd_pos (ib_nI (by omega) (by decide)), gd_pos (ib_nI (by omega) (by decide)), cl_nI (by omega), cl_nI (by omega)]
    have e3 := ih (k + 1) j (by omega) (by omega)
    unfold fX11_greatestPart_j114
    by_cases c : M.2.1 41 k = M.2.1 41 i
    · rw [cnt, if_pos c] at e3
      rw [if_pos (lg_eq.mpr c), bn_go, bn_go, nI_1, nI_1]
      exact e3
    · rw [cnt, if_neg c, Nat.add_zero] at e3
      rw [if_neg (fun z => c (lg_eq.mp z)), bn_go, bn_go, nI_1, Int32.add_zero]
      exact e3
theorem crowdM_loop {M : St} {L : Nat} (hn : 200000 ≤ n) (hL : M.1 0 81 = nI L) (hL72 : L ≤ 72) : ∀ (m i j : Nat), i + m = L → m < j → fX11_greatestPart_l65 n j M (nI (gmx (fun i => cnt (M.2.1 41) (M.2.1 41 i) L) i)) (nI i) = some (M, nI (crd (M.2.1 41) L)) := by
  intro m
  induction m with
  | zero =>
    intro i j h hj
    obtain ⟨j, rfl⟩ := suc_of hj
    have e : i = L := by omega
    subst e
    rw [fX11_greatestPart_l65, hL, if_pos (nI_le (Nat.le_refl _) (by omega))]
    rfl
  | succ m ih =>
    intro i j h hj
    obtain ⟨j, rfl⟩ := suc_of hj
    have hg : gmx (fun i => cnt (M.2.1 41) (M.2.1 41 i) L) i ≤ 72 := gmx_le fun q _ => Nat.le_trans (cnt_le L) hL72
    rw [fX11_greatestPart_l65, hL, if_neg (nI_ge (by omega) (by omega))]
    exact (crowdM_in (n := n) (k65 := fX11_greatestPart_l65 n j) (M := M) (L := L) (i := i) (G := gmx (fun i => cnt (M.2.1 41) (M.2.1 41 i) L) i) hL hL72 (by omega) (by omega) L 0 n (by omega) (by omega)).trans (ih (i + 1) j (by omega) (by omega))
/-- what the old mixes throw back, as both sides have it -/
def Ov (n b : Nat) (B : Bd) (Sx Sm : St) (o : Nat) (vf : Nat → Nat → Int32) : Prop := ∀ i, i < o → (∀ j, j < b_nb B → Sx.1 (161 + i) j = vf i j) ∧ ∀ M, kLM Sm M → ∃ M', fX11_become n M 0 (M.1 32 i) (M.1 33 i) = some (M', ()) ∧ (∀ a, a ≠ 21 → a ≠ 22 → M'.1 a = M.1 a) ∧ (∀ j, j < b_nb B → M'.2.1 23 j = (vf i j).toInt64) ∧ (∀ a, a ≠ 23 → M'.2.1 a = M.2.1 a)
theorem ov_ex {B : Bd} {b : Nat} {Sx Sm : St} (hn : 200000 ≤ n) (hR : RelB B b Sx Sm) {o : Nat} (ho' : Sm.1 0 70 = nI o) (ho72 : o ≤ 72) : ∃ vf, Ov n b B Sx Sm o vf := by
  have key : ∀ i, i < o → ∃ r : Nat → Int32, (∀ j, j < b_nb B → Sx.1 (161 + i) j = r j) ∧ ∀ M, kLM Sm M → ∃ M', fX11_become n M 0 (M.1 32 i) (M.1 33 i) = some (M', ()) ∧ (∀ a, a ≠ 21 → a ≠ 22 → M'.1 a = M.1 a) ∧ (∀ j, j < b_nb B → M'.2.1 23 j = (r j).toInt64) ∧ (∀ a, a ≠ 23 → M'.2.1 a = M.2.1 a) := by
    intro i hi
    obtain ⟨k, p, h1, h2, h3⟩ := old_v hn hR ho' ho72 hi
    refine ⟨thr B k p, h2, fun M km => ⟨bec B M 0 k p, h3 M km, fun a q1 q2 => bec_ne q1 q2, fun j hj => ?_, fun a q => ?_⟩⟩
    · have := bec_thr (B := B) (S := M) (w := 0) (k := k) (p := p) hj
      rw [show 16 * 0 + j = j by omega] at this
      exact this
    · unfold bec; rw [rL_ne q]; rfl
  exact ⟨fun i => if h : i < o then (key i h).choose else fun _ => 0, fun i hi => by simp only [dif_pos hi]; exact (key i hi).choose_spec⟩
/-- the class while it looks for the next look -/
def NX (Sx : St) (L : Nat) (lf : Nat → Nat) (X : St) : Prop := kLX Sx X ∧ X.1 234 8 = nI L ∧ ∀ q, q < L → X.1 242 q = nI (lf q)
def NM (Sm : St) (L : Nat) (lf : Nat → Nat) (M : St) : Prop := kLM Sm M ∧ M.1 0 81 = nI L ∧ ∀ q, q < L → M.1 40 q = nI (lf q)
def sgt (B : Bd) (vf : Nat → Nat → Int32) (lf : Nat → Nat) (l e q : Nat) : Int64 := seV B (vf (lf q)) l e / 1000
theorem fillX {B : Bd} {b o L : Nat} {Sx Sm : St} {vf : Nat → Nat → Int32} {lf : Nat → Nat} {k8 : St → Nat → Int32 → Option (St × Unit)} {k22 : St → Nat → Int32 → Int32 → Option (St × Unit)} (hn : 200000 ≤ n) (hR : RelB B b Sx Sm) (hv : Ov n b B Sx Sm o vf) (ho : o ≤ 72) (hL : L ≤ 72) (hlf : ∀ q, q < L → lf q < o) {l e : Nat} (hl : l < b_nl B) (he : e < b_ne B) : ∀ (m i j : Nat) (X : St), i + m = L → m < j → NX Sx L lf X → (∀ q, q < i → X.2.1 241 q = sgt B vf lf l e q) → ∃ X', fX1_findNext_l37 n k8 k22 j X b (nI l) (nI e) (nI i) = fX1_findNext_j82 n k8 k22 X' b (nI l) (nI e) ∧ NX Sx L lf X' ∧ X'.1 = X.1 ∧ (∀ q, q < L → X'.2.1 241 q = sgt B vf lf l e q) := by
  obtain ⟨hB, ⟨hb, hr, hr2⟩, hX, -⟩ := id hR
  obtain ⟨kk, -⟩ := bk hb
  intro m
  induction m with
  | zero =>
    intro i j X h hj hx hs
    obtain ⟨j, rfl⟩ := suc_of hj
    have e : i = L := by omega
    subst e
    refine ⟨X, ?_, hx, rfl, hs⟩
    rw [fX1_findNext_l37, hx.2.1, if_pos (nI_le (Nat.le_refl _) (by omega))]
  | succ m ih =>
    intro i j X h hj hx hs
    obtain ⟨j, rfl⟩ := suc_of hj
    have hlo := hlf i (by omega)
    obtain ⟨ro, ri⟩ := rowK (i := lf i) (by omega)
    have hX' : RXb B X.1 b := RXb_frame hX (fun a h1 h2 => hx.1.1 a (by rcases hb with z | z <;> omega) (by rcases hb with z | z <;> omega)) hB
    rw [fX1_findNext_l37, hx.2.1, if_neg (nI_ge (by omega) (by omega)), gd_pos (ib_nI (by omega) (by decide))]
    simp only [cl_nI (show i < 2 ^ 31 by omega), hx.2.2 i (by omega), cl_nI (show lf i < 2 ^ 31 by omega), ro]
    rw [gd_pos (ib_nI (by omega) (by decide)), gd_pos ri.1, gd_pos kk, seenOf_spec hn hb hB hX' ri hl he, bd_go, gd_pos (ib_nI (by omega) (by decide)), bn_go, bn_go, nI_1]
    obtain ⟨X', e1, e2, e3, e4⟩ := ih (i + 1) j (sL X 241 i (seV B (X.1 (161 + lf i)) l e / 1000)) (by omega) (by omega) ⟨⟨hx.1.1, hx.1.2.1, fun a q => by rw [sL_ne q]; exact hx.1.2.2.1 a q, hx.1.2.2.2⟩, hx.2.1, hx.2.2⟩ (fun q hq => by
      rw [sL_row]
      unfold vp_updL
      by_cases c : q = i
      · subst c
        rw [if_pos rfl]
        unfold sgt
        rw [seV_congr (q := vf (lf q)) (fun j hj => ?_)]
        rw [hx.1.1 (161 + lf q) (by omega) (by omega)]
        exact (hv (lf q) hlo).1 j hj
      · rw [if_neg c]
        exact hs q (by omega))
    exact ⟨X', e1, e2, e3, e4⟩
theorem fillM {B : Bd} {b o L : Nat} {Sx Sm : St} {vf : Nat → Nat → Int32} {lf : Nat → Nat} (hn : 200000 ≤ n) (hR : RelB B b Sx Sm) (hv : Ov n b B Sx Sm o vf) (ho : o ≤ 72) (hL : L ≤ 72) (hlf : ∀ q, q < L → lf q < o) {l e : Nat} (hl : l < b_nl B) (he : e < b_ne B) : ∀ (m i j : Nat) (M : St), i + m = L → m < j → NM Sm L lf M → (∀ q, q < i → M.2.1 41 q = sgt B vf lf l e q) → ∃ M', fX11_greatestPart_l2 n j M (nI l) (nI e) (nI i) = fX11_greatestPart_j60 n M' ∧ NM Sm L lf M' ∧ (∀ q, q < L → M'.2.1 41 q = sgt B vf lf l e q) := by
  obtain ⟨hB, ⟨hb, hr, hr2⟩, hX, hlim, hM, -⟩ := id hR
  intro m
  induction m with
  | zero =>
    intro i j M h hj hx hs
    obtain ⟨j, rfl⟩ := suc_of hj
    have e : i = L := by omega
    subst e
    refine ⟨M, ?_, hx, hs⟩
    rw [fX11_greatestPart_l2, hx.2.1, if_pos (nI_le (Nat.le_refl _) (by omega))]
  | succ m ih =>
    intro i j M h hj hx hs
    obtain ⟨j, rfl⟩ := suc_of hj
    have hlo := hlf i (by omega)
    obtain ⟨M1, f1, f2, f3, f4⟩ := (hv (lf i) hlo).2 M hx.1
    have km := kLM_of hx.1 f2
    have hM' : RMb B M1.1 := RMb_frame hM (fun a q => km.1 a (by intro e; subst e; unfold coreM at q; omega) (by unfold coreM at q; omega) (by unfold coreM at q; omega) (by unfold coreM at q; omega)) (fun k q => km.2 k (by unfold core0 at q; omega))
    rw [fX11_greatestPart_l2, hx.2.1, if_neg (nI_ge (by omega) (by omega)), gd_pos (ib_nI (by omega) (by decide))]
    simp only [cl_nI (show i < 2 ^ 31 by omega), hx.2.2 i (by omega), cl_nI (show lf i < 2 ^ 31 by omega)]
    rw [gd_pos (ib_nI (by omega) (by decide)), gd_pos (ib_nI (by omega) (by decide)), gd_pos (ib_nI (by omega) (by decide)), f1, bd_go]
    have es := seenBy_spec (w := 0) (r := vf (lf i)) hn hM' hB (by decide) hl he (fun j hj => by rw [show 16 * 0 + j = j by omega]; exact f3 j hj)
    have es : fX11_seenBy n M1 0 (nI l) (nI e) = _ := es
    rw [es, bd_go, gd_pos (ib_nI (by omega) (by decide)), bn_go, bn_go, nI_1]
    exact ih (i + 1) j (sL M1 41 i (seV B (vf (lf i)) l e / 1000)) (by omega) (by omega) ⟨km, by show M1.1 0 81 = _; rw [f2 0 (by decide) (by decide)]; exact hx.2.1, fun q hq => by show M1.1 40 q = _; rw [f2 40 (by decide) (by decide)]; exact hx.2.2 q hq⟩ (fun q hq => by
      rw [sL_row]
      unfold vp_updL
      by_cases c : q = i
      · rw [if_pos c, c]; rfl
      · rw [if_neg c, f4 41 (by decide)]
        exact hs q (by omega))
end
