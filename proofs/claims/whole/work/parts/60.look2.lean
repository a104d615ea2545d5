/-- how many of the first agree -/
def cn (ag : Nat → Int32) : Nat → Nat
  | 0 => 0
  | i + 1 => cn ag i + if ag i = 0 then 0 else 1
theorem cn_le {ag : Nat → Int32} : ∀ i, cn ag i ≤ i
  | 0 => Nat.le_refl _
  | i + 1 => by
    have := cn_le (ag := ag) i
    rw [cn]
    split <;> omega
theorem cn_mono {ag : Nat → Int32} {i : Nat} : ∀ {o : Nat}, i ≤ o → cn ag i ≤ cn ag o
  | 0, h => by rw [show i = 0 by omega]; exact Nat.le_refl _
  | o + 1, h => by
    by_cases c : i = o + 1
    · rw [c]; exact Nat.le_refl _
    · have := cn_mono (ag := ag) (i := i) (o := o) (by omega)
      rw [cn]
      omega
theorem cn_at {ag : Nat → Int32} : ∀ {o q : Nat}, q < cn ag o → ∃ i, i < o ∧ cn ag i = q ∧ ag i ≠ 0
  | 0, q, h => by rw [cn] at h; omega
  | o + 1, q, h => by
    by_cases c : q < cn ag o
    · obtain ⟨i, h1, h2⟩ := cn_at (o := o) c
      exact ⟨i, by omega, h2⟩
    · rw [cn] at h
      by_cases z : ag o = 0
      · rw [if_pos z] at h; omega
      · rw [if_neg z] at h
        exact ⟨o, by omega, by omega, z⟩
/-- which old mixes agree, as both sides find it -/
def Ag (n b : Nat) (B : Bd) (Sx Sm : St) (K : Int32) (o : Nat) (ag : Nat → Int32) : Prop := ∀ i, i < o → (ag i = 0 ∨ ag i = 1) ∧ (∀ X, kLX Sx X → fX1_fits n X b (161 + i) K = some (X, ag i)) ∧ (∀ M, kLM Sm M → ∃ M', fX11_doesAgree n M (nI i) K = some (M', ag i) ∧ (∀ a, a ≠ 21 → a ≠ 22 → M'.1 a = M.1 a))
theorem ag_ex {B : Bd} {b n : Nat} {Sx Sm : St} (K : Int32) (hn : 200000 ≤ n) (hR : RelB B b Sx Sm) {o : Nat} (ho' : Sm.1 0 70 = nI o) (ho72 : o ≤ 72) : ∃ ag, Ag n b B Sx Sm K o ag := by
  have key : ∀ i, i < o → ∃ r : Int32, (r = 0 ∨ r = 1) ∧ (∀ X, kLX Sx X → fX1_fits n X b (161 + i) K = some (X, r)) ∧ (∀ M, kLM Sm M → ∃ M', fX11_doesAgree n M (nI i) K = some (M', r) ∧ (∀ a, a ≠ 21 → a ≠ 22 → M'.1 a = M.1 a)) := by
    intro i hi
    obtain ⟨k, p, h1, h2, h3⟩ := old_v hn hR ho' ho72 hi
    obtain ⟨hB, hr, hX, hlim, hM, ht, hv, hbx, ⟨-, kL, l1, l2, l3, -⟩, -⟩ := id hR
    obtain ⟨r, r1, r2, r3⟩ := fits_rel (K := K) hn hR (show i < 72 by omega) h1 h2 l3 l1 kL 0 (by omega)
    refine ⟨r, r1, fun X kx => r2 n X (by omega) kx, fun M km => ⟨bec B M 0 k p, ?_, fun a q1 q2 => bec_ne q1 q2⟩⟩
    unfold fX11_doesAgree
    simp only [gd_pos (show ib (nI i) 72 from ib_nI (by omega) (by decide)), cl_nI (show i < 2 ^ 31 by omega), h3 M km, bd_go]
    refine r3 n _ (by omega) (kLM_tr km kLM_bec) (fun j hj => ?_)
    have := bec_thr (B := B) (S := M) (w := 0) (k := k) (p := p) hj
    rw [show 16 * 0 + j = j by omega] at this
    exact this
  exact ⟨fun i => if h : i < o then (key i h).choose else 0, fun i hi => by simp only [dif_pos hi]; exact (key i hi).choose_spec⟩
theorem kLX_8 {S : St} {v : Int32} {k : Nat} (hk : k ≠ 9) : kLX S (sI S 234 k v) := ⟨fun a q _ => sI_ne q, by rw [sI_row, upd_ne (fun e => hk e.symm)], fun _ _ => rfl, rfl⟩
theorem kLX_242 {S : St} {v : Int32} {k : Nat} : kLX S (sI S 242 k v) := ⟨fun a _ q => sI_ne q, by rw [sI_ne (by decide)], fun _ _ => rfl, rfl⟩
section
variable {n : Nat} {Sx Sm : St}
theorem choose_loop {B : Bd} {b o : Nat} {K : Int32} {ag : Nat → Int32} (hag : Ag n b B Sx Sm K o ag) (ho : Sx.1 157 4 = nI o) (ho72 : o ≤ 72) : ∀ (m i j : Nat) (X : St), i + m = o → m < j → kLX Sx X → X.1 234 8 = nI (cn ag i) → (∀ i', i' < i → ag i' ≠ 0 → X.1 242 (cn ag i') = nI i') → ∃ X', fX1_choose_l8 n j X b K (nI i) = some (X', nI (cn ag o)) ∧ kLX Sx X' ∧ X'.1 234 8 = nI (cn ag o) ∧ (∀ i', i' < o → ag i' ≠ 0 → X'.1 242 (cn ag i') = nI i') := by
  intro m
  induction m with
  | zero =>
    intro i j X h hj kx h1 h2
    obtain ⟨j, rfl⟩ := suc_of hj
    have e : i = o := by omega
    subst e
    refine ⟨X, ?_, kx, h1, h2⟩
    rw [fX1_choose_l8, kx.1 157 (by decide) (by decide), ho, if_pos (nI_le (by omega) (by omega))]
    unfold fX1_choose_j60
    rw [h1]
  | succ m ih =>
    intro i j X h hj kx h1 h2
    obtain ⟨j, rfl⟩ := suc_of hj
    obtain ⟨ro, ri⟩ := rowK (i := i) (by omega)
    obtain ⟨g1, g2, -⟩ := hag i (by omega)
    have hc := cn_le (ag := ag) i
    rw [fX1_choose_l8, kx.1 157 (by decide) (by decide), ho, if_neg (nI_ge (by omega) (by omega)), gd_pos (ib_nI (by omega) (by decide))]
    simp only [cl_nI (show i < 2 ^ 31 by omega), ro, gd_pos ri.1]
    rw [g2 X kx, bd_go]
    unfold fX1_choose_j54
    by_cases c : ag i = 0
    · rw [if_pos c, bn_go, nI_1]
      refine ih (i + 1) j X (by omega) (by omega) kx (by rw [cn, if_pos c, Nat.add_zero]; exact h1) (fun i' hi' z => ?_)
      by_cases q : i' = i
      · rw [q] at z; exact absurd c z
      · exact h2 i' (by omega) z
    · rw [if_neg c, h1, gd_pos (ib_nI (by omega) (by decide))]
      simp only [bn_go, cl_nI (show cn ag i < 2 ^ 31 by omega), nI_1, sI_ne (show (234 : Nat) ≠ 242 by decide), h1]
      refine ih (i + 1) j _ (by omega) (by omega) (kLX_tr kx (kLX_tr kLX_242 (kLX_8 (by decide)))) (by rw [sI_row, upd_eq, cn, if_neg c]) (fun i' hi' z => ?_)
      rw [sI_ne (by decide), sI_row]
      by_cases q : i' = i
      · rw [q, upd_eq]
      · have e1 := cn_mono (ag := ag) (i := i' + 1) (o := i) (by omega)
        rw [cn, if_neg z] at e1
        rw [upd_ne (by omega)]
        exact h2 i' (by omega) z
theorem choose_spec {B : Bd} {b o : Nat} {K : Int32} {ag : Nat → Int32} (hn : 200000 ≤ n) (hag : Ag n b B Sx Sm K o ag) (ho : Sx.1 157 4 = nI o) (ho72 : o ≤ 72) : ∃ X', fX1_choose n Sx b K = some (X', nI (cn ag o)) ∧ kLX Sx X' ∧ X'.1 234 8 = nI (cn ag o) ∧ (∀ i', i' < o → ag i' ≠ 0 → X'.1 242 (cn ag i') = nI i') := by
  unfold fX1_choose
  rw [bn_go]
  exact choose_loop hag ho ho72 o 0 n (sI Sx 234 8 0) (by omega) (by omega) (kLX_8 (by decide)) (by rw [sI_row, upd_eq]; rfl) (fun i' hi' => by omega)
theorem kLM_of {M0 M M' : St} (km : kLM M0 M) (h : ∀ a, a ≠ 21 → a ≠ 22 → M'.1 a = M.1 a) : kLM M0 M' := kLM_tr km ⟨fun a _ q r _ => h a q r, fun k _ => by rw [h 0 (by decide) (by decide)]⟩
theorem agree_loop {B : Bd} {b o : Nat} {K : Int32} {ag : Nat → Int32} (hag : Ag n b B Sx Sm K o ag) (ho : Sm.1 0 70 = nI o) (ho72 : o ≤ 72) : ∀ (m i j : Nat) (M : St), i + m = o → m < j → kLM Sm M → ∃ M', fX11_agree_l4 n j M K (nI (cn ag i)) (nI i) = some (M', nI (cn ag o)) ∧ kLM Sm M' := by
  intro m
  induction m with
  | zero =>
    intro i j M h hj km
    obtain ⟨j, rfl⟩ := suc_of hj
    refine ⟨M, ?_, km⟩
    rw [fX11_agree_l4, km.2 70 (by decide), ho, if_pos (nI_le (by omega) (by omega)), show i = o by omega]
  | succ m ih =>
    intro i j M h hj km
    obtain ⟨j, rfl⟩ := suc_of hj
    obtain ⟨g1, -, g3⟩ := hag i (by omega)
    obtain ⟨M', e1, e2⟩ := g3 M km
    rw [fX11_agree_l4, km.2 70 (by decide), ho, if_neg (nI_ge (by omega) (by omega)), e1, bd_go]
    unfold fX11_agree_j27
    have e3 := ih (i + 1) j M' (by omega) (by omega) (kLM_of km e2)
    by_cases c : ag i = 0
    · rw [cn, if_pos c, Nat.add_zero] at e3
      rw [if_pos c, bn_go, bn_go, nI_1, Int32.add_zero]
      exact e3
    · rw [cn, if_neg c] at e3
      rw [if_neg c, bn_go, bn_go, nI_1, nI_1]
      exact e3
theorem ok_agree (hn : 200000 ≤ n) (h : Rel Sx Sm) : Ok_agree n Rel Sx Sm := by
  intro K
  obtain ⟨B, b, hR⟩ := id h
  obtain ⟨hB, ⟨hb, hr, hr2⟩, hX, hlim, hM, ht, hv, hbx, hl, ⟨o, o1, o2, o3, o4, -⟩, -⟩ := id hR
  obtain ⟨kk, -⟩ := bk hb
  obtain ⟨ag, hag⟩ := ag_ex K hn hR o4 o1
  obtain ⟨X', a1, a2, -⟩ := choose_spec hn hag o3 o1
  obtain ⟨M', b1, b2⟩ := agree_loop hag o4 o1 o 0 n Sm (by omega) (by omega) kLM_rf
  unfold fX10_agree fX11_agree
  rw [hr, gd_pos kk, a1, bd_go]
  exact ⟨X', M', _, rfl, b1, B, b, rel_lk hR a2 b2⟩
theorem agrees_loop {B : Bd} {b o : Nat} {K x1 : Int32} {ag : Nat → Int32} (hag : Ag n b B Sx Sm K o ag) (ho : Sm.1 0 70 = nI o) (ho72 : o ≤ 72) : ∀ (m i j : Nat) (M : St), i + m = o → m < j → kLM Sm M → (∀ i', i' < i → ag i' ≠ 0 → nI (cn ag i') ≠ x1) → ∃ M' r, fX11_agrees_l5 n j M x1 K (nI (cn ag i)) (nI i) = some (M', r) ∧ kLM Sm M' ∧ ((∃ q, q < o ∧ ag q ≠ 0 ∧ nI (cn ag q) = x1 ∧ r = nI q) ∨ ((∀ q, q < o → ag q ≠ 0 → nI (cn ag q) ≠ x1) ∧ r = -1)) := by
  intro m
  induction m with
  | zero =>
    intro i j M h hj km hno
    obtain ⟨j, rfl⟩ := suc_of hj
    refine ⟨M, -1, ?_, km, Or.inr ⟨fun q hq => hno q (by omega), rfl⟩⟩
    rw [fX11_agrees_l5, km.2 70 (by decide), ho, if_pos (nI_le (by omega) (by omega))]
  | succ m ih =>
    intro i j M h hj km hno
    obtain ⟨j, rfl⟩ := suc_of hj
    obtain ⟨g1, -, g3⟩ := hag i (by omega)
    obtain ⟨M', e1, e2⟩ := g3 M km
    rw [fX11_agrees_l5, km.2 70 (by decide), ho, if_neg (nI_ge (by omega) (by omega)), e1, bd_go]
    unfold fX11_agrees_j38
    by_cases c : ag i = 0
    · have e3 := ih (i + 1) j M' (by omega) (by omega) (kLM_of km e2) (fun i' hi' z => by
        by_cases q : i' = i
        · rw [q] at z; exact absurd c z
        · exact hno i' (by omega) z)
      rw [cn, if_pos c, Nat.add_zero] at e3
      rw [if_pos c, bn_go, nI_1]
      exact e3
    · rw [if_neg c]
      by_cases c2 : nI (cn ag i) = x1
      · rw [if_pos c2]
        exact ⟨M', nI i, rfl, kLM_of km e2, Or.inl ⟨i, by omega, c, c2, rfl⟩⟩
      · have e3 := ih (i + 1) j M' (by omega) (by omega) (kLM_of km e2) (fun i' hi' z => by
          by_cases q : i' = i
          · rw [q]; exact c2
          · exact hno i' (by omega) z)
        rw [cn, if_neg c] at e3
        rw [if_neg c2, bn_go, bn_go, nI_1, nI_1]
        exact e3
theorem ok_agrees (hn : 200000 ≤ n) (h : Rel Sx Sm) : Ok_agrees n Rel Sx Sm := by
  intro x1 K
  obtain ⟨B, b, hR⟩ := id h
  obtain ⟨hB, ⟨hb, hr, hr2⟩, hX, hlim, hM, ht, hv, hbx, hl, ⟨o, o1, o2, o3, o4, -⟩, -⟩ := id hR
  obtain ⟨kk, -⟩ := bk hb
  obtain ⟨ag, hag⟩ := ag_ex K hn hR o4 o1
  obtain ⟨X', a1, a2, a3, a4⟩ := choose_spec hn hag o3 o1
  obtain ⟨M', r, b1, b2, b3⟩ := agrees_loop (x1 := x1) hag o4 o1 o 0 n Sm (by omega) (by omega) kLM_rf (fun i' hi' => by omega)
  have hco := cn_le (ag := ag) o
  unfold fX10_agrees fX11_agrees fX10_agrees_j26
  rw [hr, gd_pos kk, a1, bd_go]
  refine ⟨X', M', r, ?_, b1, B, b, rel_lk hR a2 b2⟩
  rcases b3 with ⟨q, q1, q2, rfl, rfl⟩ | ⟨q1, rfl⟩
  · have e1 := cn_mono (ag := ag) (i := q + 1) (o := o) (by omega)
    rw [cn, if_neg q2] at e1
    rw [if_neg (nI_pos (by omega)), if_pos (nI_lt (by omega) (by omega)), gd_pos (ib_nI (by omega) (by decide)), cl_nI (by omega), a4 q q1 q2]
  · by_cases c1 : x1 < 0
    · rw [if_pos c1]
    · rw [if_neg c1]
      obtain ⟨j, hj, rfl⟩ := nI_of c1
      by_cases c2 : j < cn ag o
      · obtain ⟨i, i1, i2, i3⟩ := cn_at c2
        exact absurd (by rw [i2]) (q1 i i1 i3)
      · rw [if_neg (fun z => c2 ((nI_ltI hj (by omega)).mp z))]
end
