/-! THE MIXES IN THEIR ORDER: the next one, and how many there are. -/
def supp (p : Nat → Nat) : Nat → Nat
  | 0 => 0
  | d + 1 => supp p d + if p d = 0 then 0 else 1
def inc (p : Nat → Nat) (d i : Nat) : Nat := if i < d then p i else if i = d then p d + 1 else 0
def cut (p : Nat → Nat) (d i : Nat) : Nat := if i < d then p i else 0
def adv (m u : Nat) (p : Nat → Nat) : Nat → Option (Nat → Nat)
  | 0 => none
  | d + 1 => if sumN p (d + 1) < m ∧ (0 < p d ∨ supp p (d + 1) < u) then some (inc p d) else adv m u p d
def Run (m u nd : Nat) : Nat → (Nat → Nat) → (Nat → Nat) → Prop
  | 0, p, q => p = q
  | k + 1, p, q => ∃ r, adv m u p nd = some r ∧ Run m u nd k r q
theorem Run_tr {m u nd : Nat} : ∀ {a b : Nat} {p q r : Nat → Nat}, Run m u nd a p q → Run m u nd b q r → Run m u nd (a + b) p r
  | 0, b, p, q, r, h, g => by
    have h : p = q := h
    rw [h, Nat.zero_add]; exact g
  | a + 1, b, p, q, r, h, g => by
    obtain ⟨s, s1, s2⟩ := h
    rw [show a + 1 + b = a + b + 1 by omega]
    exact ⟨s, s1, Run_tr s2 g⟩
theorem supp_congr {p q : Nat → Nat} : ∀ {k : Nat}, (∀ d, d < k → p d = q d) → supp p k = supp q k
  | 0, _ => rfl
  | k + 1, h => by rw [supp, supp, supp_congr (fun d hd => h d (by omega)), h k (by omega)]
theorem adv_congr {m u : Nat} {p q : Nat → Nat} : ∀ {k : Nat}, (∀ d, d < k → p d = q d) → adv m u p k = adv m u q k
  | 0, _ => rfl
  | k + 1, h => by
    have e : inc p k = inc q k := by
      funext i
      unfold inc
      by_cases c : i < k
      · rw [if_pos c, if_pos c, h i (by omega)]
      · rw [if_neg c, if_neg c, h k (by omega)]
    rw [adv, adv, sumN_congr h, supp_congr h, h k (by omega), e, adv_congr (fun d hd => h d (by omega))]
/-- all of the last dye's numbers together -/
def mixH (d u : Nat) : Nat → Nat
  | 0 => mixN d 0 u
  | w + 1 => mixH d u w + mixN d (w + 1) u
theorem mixN_1 (d m : Nat) : ∀ u, 1 ≤ mixN d m u
  | 0 => Nat.le_refl _
  | u + 1 => by
    have := mixN_1 d m u
    rw [mixN]; omega
theorem mixH_1 (d u : Nat) : ∀ w, 1 ≤ mixH d u w
  | 0 => mixN_1 d 0 u
  | w + 1 => by
    have := mixH_1 d u w
    rw [mixH]; omega
theorem mixN_d0 (m : Nat) : ∀ u, mixN 0 m u = 1
  | 0 => rfl
  | u + 1 => by rw [mixN, mixN_d0 m u, chs_z (n := 0) (k := u + 1) (by omega), Nat.zero_mul]
theorem mixN_m0 (d : Nat) : ∀ u, mixN d 0 u = 1
  | 0 => rfl
  | u + 1 => by rw [mixN, mixN_m0 d u, chs_z (n := 0) (k := u + 1) (by omega), Nat.mul_zero]
/-- the sum over k of chs d k * chs (w+1) (k+1) -/
def hkS (d w : Nat) : Nat → Nat
  | 0 => chs d 0 * chs (w + 1) (0 + 1)
  | u + 1 => hkS d w u + chs d (u + 1) * chs (w + 1) (u + 1 + 1)
theorem mixH_hk (d : Nat) : ∀ w u, mixH d u w = hkS d w u := by
  have key : ∀ w u, hkS d (w + 1) u = hkS d w u + mixN d (w + 1) u := by
    intro w u
    induction u with
    | zero =>
      rw [hkS, hkS, mixN, chs_s (w + 1) 0, chs_0, chs_0]
      omega
    | succ u ih =>
      rw [hkS, hkS, mixN, ih, chs_s (w + 1) (u + 1), Nat.mul_add]
      omega
  intro w
  induction w with
  | zero =>
    intro u
    rw [mixH, mixN_m0]
    induction u with
    | zero => rw [hkS, chs_0]; rfl
    | succ u ih => rw [hkS, ← ih, chs_z (n := 0 + 1) (k := u + 1 + 1) (by omega), Nat.mul_zero]
  | succ w ih =>
    intro u
    rw [mixH, ih, key]
theorem mixN_e (d m u : Nat) : mixN d m (u + 1) = mixN d m u + chs d (u + 1) * chs m (u + 1) := rfl
theorem mixN_s (d w : Nat) : ∀ u, mixN (d + 1) (w + 1) (u + 1) = mixN d (w + 1) (u + 1) + hkS d w u
  | 0 => by
    rw [mixN, mixN, mixN, mixN, hkS, chs_s d 0, Nat.add_mul]
    omega
  | u + 1 => by
    rw [mixN_e (d + 1) (w + 1) (u + 1), mixN_s d w u, mixN_e d (w + 1) (u + 1), hkS, chs_s d (u + 1), Nat.add_mul]
    omega
theorem sumN_s (p : Nat → Nat) (d : Nat) : sumN p (d + 1) = sumN p d + p d := rfl
theorem supp_s (p : Nat → Nat) (d : Nat) : supp p (d + 1) = supp p d + if p d = 0 then 0 else 1 := rfl
theorem blk {m u nd : Nat} : ∀ (d j : Nat), j + d = nd → ∀ p : Nat → Nat, (∀ i, j ≤ i → p i = 0) → sumN p j ≤ m → supp p j ≤ u → ∃ p', Run m u nd (mixN d (m - sumN p j) (u - supp p j) - 1) p p' ∧ (∀ i, i < j → p' i = p i) ∧ adv m u p' nd = adv m u p' j := by
  intro d
  induction d with
  | zero =>
    intro j h p hz hs hu
    refine ⟨p, ?_, fun i _ => rfl, by rw [show j = nd by omega]⟩
    rw [mixN_d0]
    exact rfl
  | succ d ih =>
    intro j h p hz hs hu
    have hpj : p j = 0 := hz j (Nat.le_refl _)
    have es : sumN p (j + 1) = sumN p j := by rw [sumN_s, hpj, Nat.add_zero]
    have eu : supp p (j + 1) = supp p j := by rw [supp_s, if_pos hpj, Nat.add_zero]
    obtain ⟨p0, a1, a2, a3⟩ := ih (j + 1) (by omega) p (fun i hi => hz i (by omega)) (by omega) (by omega)
    rw [es, eu] at a1
    have e0s : sumN p0 (j + 1) = sumN p j := by rw [sumN_congr a2, es]
    have e0u : supp p0 (j + 1) = supp p j := by rw [supp_congr a2, eu]
    have e0j : p0 j = 0 := (a2 j (by omega)).trans hpj
    rw [adv, e0s, e0u, e0j] at a3
    -- the blocks of one number of parts of this dye
    have inner : ∀ (w t : Nat) (r : Nat → Nat), 1 ≤ t → sumN p j + t + w = m → supp p j < u → (∀ i, i < j → r i = p i) → r j = t → (∀ i, j < i → r i = 0) → ∃ p', Run m u nd (mixH d (u - supp p j - 1) w - 1) r p' ∧ (∀ i, i < j → p' i = p i) ∧ adv m u p' nd = adv m u p' j := by
      intro w
      induction w with
      | zero =>
        intro t r ht hw hu2 r1 r2 r3
        have f1 : sumN r (j + 1) = sumN p j + t := by rw [sumN_s, r2, sumN_congr r1]
        have f2 : supp r (j + 1) = supp p j + 1 := by rw [supp_s, r2, if_neg (by omega), supp_congr r1]
        obtain ⟨q, q1, q2, q3⟩ := ih (j + 1) (by omega) r (fun i hi => r3 i (by omega)) (by omega) (by omega)
        rw [f1, f2, show m - (sumN p j + t) = 0 by omega] at q1
        refine ⟨q, ?_, fun i hi => (q2 i (by omega)).trans (r1 i hi), ?_⟩
        · rw [mixH, show u - supp p j - 1 = u - (supp p j + 1) by omega]
          exact q1
        · rw [q3, adv, sumN_congr q2, f1, if_neg (by omega)]
      | succ w ihw =>
        intro t r ht hw hu2 r1 r2 r3
        have f1 : sumN r (j + 1) = sumN p j + t := by rw [sumN_s, r2, sumN_congr r1]
        have f2 : supp r (j + 1) = supp p j + 1 := by rw [supp_s, r2, if_neg (by omega), supp_congr r1]
        obtain ⟨q, q1, q2, q3⟩ := ih (j + 1) (by omega) r (fun i hi => r3 i (by omega)) (by omega) (by omega)
        rw [f1, f2, show m - (sumN p j + t) = w + 1 by omega] at q1
        have qj : q j = t := (q2 j (by omega)).trans r2
        rw [adv, sumN_congr q2, f1, qj, if_pos ⟨by omega, Or.inl (by omega)⟩] at q3
        obtain ⟨p', b1, b2, b3⟩ := ihw (t + 1) (inc q j) (by omega) (by omega) hu2 (fun i hi => by unfold inc; rw [if_pos hi]; exact (q2 i (by omega)).trans (r1 i hi)) (by unfold inc; rw [if_neg (by omega), if_pos rfl, qj]) (fun i hi => by unfold inc; rw [if_neg (by omega), if_neg (by omega)])
        refine ⟨p', ?_, b2, b3⟩
        have g1 := mixN_1 d (w + 1) (u - (supp p j + 1))
        have g2 := mixH_1 d (u - supp p j - 1) w
        have e : mixH d (u - supp p j - 1) (w + 1) - 1 = (mixN d (w + 1) (u - (supp p j + 1)) - 1) + ((mixH d (u - supp p j - 1) w - 1) + 1) := by
          rw [mixH, show u - (supp p j + 1) = u - supp p j - 1 by omega]
          rw [show u - (supp p j + 1) = u - supp p j - 1 by omega] at g1
          omega
        rw [e]
        exact Run_tr q1 ⟨inc q j, q3, b1⟩
    by_cases c : sumN p j < m ∧ supp p j < u
    · rw [if_pos ⟨c.1, Or.inr c.2⟩] at a3
      obtain ⟨p', b1, b2, b3⟩ := inner (m - sumN p j - 1) 1 (inc p0 j) (Nat.le_refl _) (by omega) c.2 (fun i hi => by unfold inc; rw [if_pos hi]; exact a2 i (by omega)) (by unfold inc; rw [if_neg (by omega), if_pos rfl, e0j]) (fun i hi => by unfold inc; rw [if_neg (by omega), if_neg (by omega)])
      refine ⟨p', ?_, b2, b3⟩
      have g1 := mixN_1 d (m - sumN p j) (u - supp p j)
      have g2 := mixH_1 d (u - supp p j - 1) (m - sumN p j - 1)
      have g3 := mixN_s d (m - sumN p j - 1) (u - supp p j - 1)
      rw [show m - sumN p j - 1 + 1 = m - sumN p j by omega, show u - supp p j - 1 + 1 = u - supp p j by omega, ← mixH_hk] at g3
      have e : mixN (d + 1) (m - sumN p j) (u - supp p j) - 1 = (mixN d (m - sumN p j) (u - supp p j) - 1) + ((mixH d (u - supp p j - 1) (m - sumN p j - 1) - 1) + 1) := by omega
      rw [e]
      exact Run_tr a1 ⟨inc p0 j, a3, b1⟩
    · rw [if_neg (by omega)] at a3
      refine ⟨p0, ?_, fun i hi => a2 i (by omega), a3⟩
      have e : mixN (d + 1) (m - sumN p j) (u - supp p j) = mixN d (m - sumN p j) (u - supp p j) := by
        by_cases c1 : sumN p j < m
        · rw [show u - supp p j = 0 by omega]; rfl
        · rw [show m - sumN p j = 0 by omega, mixN_m0, mixN_m0]
      rw [e]
      exact a1
theorem sumN_z : ∀ k, sumN (fun _ => 0) k = 0
  | 0 => rfl
  | k + 1 => by rw [sumN, sumN_z k]
theorem supp_z : ∀ k, supp (fun _ => 0) k = 0
  | 0 => rfl
  | k + 1 => by rw [supp, supp_z k, if_pos rfl]
theorem run_all (m u nd : Nat) : ∃ p, Run m u nd (mixN nd m u - 1) (fun _ => 0) p ∧ adv m u p nd = none := by
  obtain ⟨p, h1, -, h3⟩ := blk (m := m) (u := u) (nd := nd) nd 0 (by omega) (fun _ => 0) (fun _ _ => rfl) (Nat.zero_le _) (Nat.zero_le _)
  rw [sumN, supp, Nat.sub_zero, Nat.sub_zero] at h1
  exact ⟨p, h1, h3⟩
/-- a mix that can be -/
def Adm (m u nd : Nat) (p : Nat → Nat) : Prop := sumN p nd ≤ m ∧ supp p nd ≤ u ∧ ∀ i, nd ≤ i → p i = 0
theorem sumN_up {p : Nat → Nat} {a : Nat} : ∀ {b : Nat}, a ≤ b → sumN p a ≤ sumN p b
  | 0, h => by rw [show a = 0 by omega]; exact Nat.le_refl _
  | b + 1, h => by
    by_cases e : a = b + 1
    · rw [e]; exact Nat.le_refl _
    · have := sumN_up (p := p) (a := a) (b := b) (by omega)
      rw [sumN]; omega
theorem supp_up {p : Nat → Nat} {a : Nat} : ∀ {b : Nat}, a ≤ b → supp p a ≤ supp p b
  | 0, h => by rw [show a = 0 by omega]; exact Nat.le_refl _
  | b + 1, h => by
    by_cases e : a = b + 1
    · rw [e]; exact Nat.le_refl _
    · have := supp_up (p := p) (a := a) (b := b) (by omega)
      rw [supp]; omega
theorem supp_cut {p : Nat → Nat} {a : Nat} : ∀ {b : Nat}, a ≤ b → (∀ d, a ≤ d → p d = 0) → supp p b = supp p a
  | 0, h, _ => by rw [show a = 0 by omega]
  | b + 1, h, hz => by
    by_cases e : a = b + 1
    · rw [e]
    · rw [supp, hz b (by omega), if_pos rfl, supp_cut (by omega) hz, Nat.add_zero]
theorem supp_le {p : Nat → Nat} : ∀ d, supp p d ≤ d
  | 0 => Nat.le_refl _
  | d + 1 => by
    have := supp_le (p := p) d
    rw [supp]; split <;> omega
theorem inc_sum {p : Nat → Nat} {d nd : Nat} (h : d < nd) : sumN (inc p d) nd = sumN p (d + 1) + 1 ∧ supp (inc p d) nd = supp p d + 1 := by
  have z : ∀ i, d + 1 ≤ i → inc p d i = 0 := fun i hi => by unfold inc; rw [if_neg (by omega), if_neg (by omega)]
  have lo : ∀ i, i < d → inc p d i = p i := fun i hi => by unfold inc; rw [if_pos hi]
  have at' : inc p d d = p d + 1 := by unfold inc; rw [if_neg (by omega), if_pos rfl]
  rw [sumN_cut (a := d + 1) h z, supp_cut (a := d + 1) h z, sumN_s, supp_s, at', sumN_congr lo, supp_congr lo, if_neg (by omega), sumN_s]
  exact ⟨by omega, rfl⟩
/-- how the next one is found: at a dye, the ones behind it taken out -/
theorem adv_at {m u nd : Nat} {p : Nat → Nat} : ∀ {k : Nat} {q : Nat → Nat}, adv m u p k = some q → ∃ d, d < k ∧ q = inc p d ∧ sumN p (d + 1) < m ∧ (0 < p d ∨ supp p (d + 1) < u)
  | 0, q, h => by rw [adv] at h; exact absurd h (by simp)
  | k + 1, q, h => by
    rw [adv] at h
    by_cases c : sumN p (k + 1) < m ∧ (0 < p k ∨ supp p (k + 1) < u)
    · rw [if_pos c] at h
      exact ⟨k, by omega, (Option.some.inj h).symm, c⟩
    · rw [if_neg c] at h
      obtain ⟨d, d1, d2⟩ := adv_at (nd := nd) h
      exact ⟨d, by omega, d2⟩
theorem adm_adv {m u nd : Nat} {p q : Nat → Nat} (h : Adm m u nd p) (e : adv m u p nd = some q) : Adm m u nd q := by
  obtain ⟨d, d1, d2, d3, d4⟩ := adv_at (nd := nd) e
  subst d2
  obtain ⟨s1, s2⟩ := inc_sum (p := p) d1
  have hu := supp_up (p := p) (a := d + 1) (b := nd) (by omega)
  have h2 := h.2.1
  refine ⟨by omega, ?_, fun i hi => by unfold inc; rw [if_neg (by omega), if_neg (by omega)]⟩
  rw [s2]
  rw [supp_s] at hu d4
  by_cases c : p d = 0
  · rw [if_pos c] at d4; omega
  · rw [if_neg c] at hu; omega
theorem adm_0 {m u nd : Nat} : Adm m u nd (fun _ => 0) := ⟨by rw [sumN_z]; exact Nat.zero_le _, by rw [supp_z]; exact Nat.zero_le _, fun _ _ => rfl⟩
