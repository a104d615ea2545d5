theorem sI_at {S : St} {a k b j : Nat} {v : Int32} : (sI S a k v).1 b j = if b = a ∧ j = k then v else S.1 b j := by
  by_cases e : b = a
  · subst e
    rw [sI_row]
    unfold upd
    by_cases z : j = k
    · rw [if_pos z, if_pos ⟨rfl, z⟩]
    · rw [if_neg z, if_neg (fun q => z q.2)]
  · rw [sI_ne e, if_neg (fun q => e q.1)]
theorem clear_spec {n s : Nat} {S : St} (hs : s = 3 ∨ s = 77) : ∃ S', fX0_clear sdX n S s = some (S', ()) ∧ (∀ a, a ≠ s → (∀ k, lmC k → a ≠ s + k) → S'.1 a = S.1 a) ∧ S'.2 = S.2 ∧ (∀ k, lmC k → S'.1 (s + k) 3 = 0 ∧ S'.1 (s + k) 0 = S.1 (s + k) 0) ∧ S'.1 s 9 = 4 ∧ S'.1 s 10 = 12 ∧ S'.1 s 11 = 10 ∧ S'.1 s 12 = 0 ∧ S'.1 s 13 = 0 := by
  obtain ⟨kk, ⟨s0, s1, s2, s3, s4⟩, k0, k1, k2, k3, k4⟩ := bk hs
  have e : fX0_clear sdX n S s = some (sI (sI (sI (sI (sI (sI (sI (sI (sI (sI S (s + 1) 3 0) (s + 12) 3 0) (s + 19) 3 0) (s + 28) 3 0) (s + 35) 3 0) s 9 4) s 10 12) s 11 10) s 12 0) s 13 0, ()) := by
    unfold fX0_clear
    rw [gd_pos kk]
    simp only [sd_sr, s0, s1, s2, s3, s4]
    rw [gd_pos k0, bn_go, gd_pos k1, bn_go, gd_pos k2, bn_go, gd_pos k3, bn_go, gd_pos k4, bn_go, bn_go, bn_go, bn_go, bn_go, bn_go]
  refine ⟨_, e, fun a h1 h2 => ?_, rfl, fun k hk => ?_, ?_, ?_, ?_, ?_, ?_⟩
  · have a1 := h2 1 (by unfold lmC; omega)
    have a2 := h2 12 (by unfold lmC; omega)
    have a3 := h2 19 (by unfold lmC; omega)
    have a4 := h2 28 (by unfold lmC; omega)
    have a5 := h2 35 (by unfold lmC; omega)
    rw [sI_ne h1, sI_ne h1, sI_ne h1, sI_ne h1, sI_ne h1, sI_ne a5, sI_ne a4, sI_ne a3, sI_ne a2, sI_ne a1]
  · unfold lmC at hk
    refine ⟨?_, ?_⟩
    · rw [sI_at, if_neg (by omega), sI_at, if_neg (by omega), sI_at, if_neg (by omega), sI_at, if_neg (by omega), sI_at, if_neg (by omega), sI_at]
      by_cases z5 : k = 35
      · rw [if_pos (by omega)]
      · rw [if_neg (by omega), sI_at]
        by_cases z4 : k = 28
        · rw [if_pos (by omega)]
        · rw [if_neg (by omega), sI_at]
          by_cases z3 : k = 19
          · rw [if_pos (by omega)]
          · rw [if_neg (by omega), sI_at]
            by_cases z2 : k = 12
            · rw [if_pos (by omega)]
            · rw [if_neg (by omega), sI_at, if_pos (by omega)]
    · rw [sI_f (by decide), sI_f (by decide), sI_f (by decide), sI_f (by decide), sI_f (by decide), sI_f (by decide), sI_f (by decide), sI_f (by decide), sI_f (by decide), sI_f (by decide)]
  · rw [sI_at, if_neg (by omega), sI_at, if_neg (by omega), sI_at, if_neg (by omega), sI_at, if_neg (by omega), sI_at, if_pos (by omega)]
  · rw [sI_at, if_neg (by omega), sI_at, if_neg (by omega), sI_at, if_neg (by omega), sI_at, if_pos (by omega)]
  · rw [sI_at, if_neg (by omega), sI_at, if_neg (by omega), sI_at, if_pos (by omega)]
  · rw [sI_at, if_neg (by omega), sI_at, if_pos (by omega)]
  · rw [sI_at, if_pos (by omega)]
/-- what reading a text changes, on each side -/
def kRX (s : Nat) (Sx X : St) : Prop := (∀ a, a ≠ 151 → a ≠ 152 → a ≠ 154 → a ≠ 155 → (a < s ∨ s + 50 ≤ a) → X.1 a = Sx.1 a) ∧ (∀ a, a ≠ 151 → a ≠ 156 → (a < s ∨ s + 50 ≤ a) → X.2.1 a = Sx.2.1 a) ∧ (∀ a, a ≠ 151 → X.2.2 a = Sx.2.2 a) ∧ (∀ k, lmC k → X.1 (s + k) 0 = Sx.1 (s + k) 0)
def kRM (Sm M : St) : Prop := (∀ a, a ≠ 0 → a ≠ 3 → (a < 5 ∨ 12 < a) → M.1 a = Sm.1 a) ∧ (∀ k, (k = 0 ∨ (10 ≤ k ∧ k ≤ 28) ∨ (33 ≤ k ∧ k ≤ 36) ∨ 42 ≤ k) → M.1 0 k = Sm.1 0 k) ∧ M.1 0 1 = 0
theorem sR_ne {S : St} {a b k v : Nat} (h : b ≠ a) : (sR S a k v).2.2 b = S.2.2 b := up_other _ _ h
theorem sR_at {S : St} {a k v : Nat} : (sR S a k v).2.2 a k = v := by
  show va_up S.2.2 a (va_up (S.2.2 a) k v) a k = v
  rw [up_same, up_same]
theorem many_loop {n : Nat} : ∀ (w k j : Nat) (M : St), k + w = 5 → w < j → ∃ M', fX11_readAll_l30 n j M (nI k) = fX11_readAll_j48 n M' ∧ (∀ a, a ≠ 3 → M'.1 a = M.1 a) ∧ M'.2 = M.2 ∧ (∀ i, M'.1 3 i = if k ≤ i ∧ i < 5 then 0 else M.1 3 i) := by
  intro w
  induction w with
  | zero =>
    intro k j M h hj
    obtain ⟨j, rfl⟩ := suc_of hj
    rw [fX11_readAll_l30, if_pos (show (5 : Int32) ≤ nI k from nI_le (a := 5) (by omega) (by omega))]
    exact ⟨M, rfl, fun _ _ => rfl, rfl, fun i => by rw [if_neg (by omega)]⟩
  | succ w ih =>
    intro k j M h hj
    obtain ⟨j, rfl⟩ := suc_of hj
    rw [fX11_readAll_l30, if_neg (show ¬ (5 : Int32) ≤ nI k from nI_ge (b := 5) (by omega) (by decide)), gd_pos (ib_nI (by omega) (by decide)), bn_go, bn_go, nI_1, cl_nI (by omega)]
    obtain ⟨M', m1, m2, m3, m4⟩ := ih (k + 1) j (sI M 3 k 0) (by omega) (by omega)
    refine ⟨M', m1, fun a q => by rw [m2 a q, sI_ne q], m3, fun i => ?_⟩
    rw [m4 i, sI_at]
    by_cases e : i = k
    · rw [if_neg (by omega), if_pos ⟨rfl, e⟩, if_pos (by omega)]
    · by_cases z : k + 1 ≤ i ∧ i < 5
      · rw [if_pos z, if_pos (by omega)]
      · rw [if_neg z, if_neg (fun q => e q.2), if_neg (by omega)]
def N0 (k : Nat) : Nat := if k = 0 then 4 else if k = 1 then 12 else if k = 2 then 10 else 0
theorem sh_lm {q : Nat} (hq : q < 5) : lmC (shA q) := by
  rcases (show q = 0 ∨ q = 1 ∨ q = 2 ∨ q = 3 ∨ q = 4 by omega) with rfl | rfl | rfl | rfl | rfl <;> (unfold lmC shA; decide)
theorem both_read {n b s : Nat} {B : Bd} {Sx Sm : St} (hn : 200000 ≤ n) (hR : RelB B b Sx Sm) (hsb : s = 80 - b) : ∃ X M, fX3_read n Sx s = fX3_read_j74 n X ∧ fX11_readAll n Sm = some (M, ()) ∧ kRX s Sx X ∧ kRM Sm M ∧ RdO s X M ∧ X.2.2 151 1 = s := by
  obtain ⟨hB, ⟨hb, hr, hr0, hr2⟩, hX, hlim, hM, ⟨⟨t, t1, t2, t3, t4⟩, t5, t6, t7⟩, -⟩ := id hR
  have hs : s = 3 ∨ s = 77 := by rcases hb with z | z <;> omega
  have hs' : s + 50 < 151 := by rcases hs with z | z <;> omega
  obtain ⟨kk, -⟩ := bk hs
  -- the signs
  have hT : ∃ T : Nat → Nat, ∀ i, i < t → T i < 256 ∧ Sm.1 1 i = nI (T i) ∧ Sx.1 2 i = sgn (T i) := ⟨fun i => if h : i < t then (t4 i h).choose else 0, fun i hi => by simp only [dif_pos hi]; exact (t4 i hi).choose_spec⟩
  obtain ⟨T, hT⟩ := hT
  obtain ⟨kd, pl, nx, x, y, v, hk⟩ := tk_fun T t
  -- the class: cleared, scanned
  obtain ⟨S4, a1, a2, a3, a4, a5, a6, a7, a8, a9⟩ := clear_spec (n := n) (S := sR Sx 151 1 s) hs
  have hlm : ∀ a, (a < s ∨ s + 50 ≤ a) → ∀ k, lmC k → a ≠ s + k := fun a h k hk => by unfold lmC at hk; omega
  have s4 : ∀ a, (a < s ∨ s + 50 ≤ a) → S4.1 a = Sx.1 a := fun a h => a2 a (by omega) (hlm a h)
  obtain ⟨c, X6, b1, b2, b3, b4, b5, b6, b7⟩ := scan_loop (n := n) (T := T) (x := x) (y := y) hn t1 hk t 0 n 3 (sI (sI S4 152 4 0) 152 5 0) (by omega) (by omega) (by decide) (by decide) (Nat.zero_le _) (Nat.le_refl _) ⟨by rw [sI_ne (by decide), sI_ne (by decide), s4 1 (by omega)]; exact t2, fun i hi => ⟨(hT i hi).1, by rw [sI_ne (by decide), sI_ne (by decide), s4 2 (by omega)]; exact (hT i hi).2.2⟩⟩ (fun i hi => by show S4.2.1 153 i = _; rw [a3]; exact t7 i hi) (by rw [sI_f (by decide), sI_at, if_pos (by omega)]; rfl) (by rw [sI_at, if_pos (by omega)]; rfl) (fun i' h => by omega)
  have b1 : fX7_scan n S4 = some (X6, ()) := b1
  have x152 : ∀ a, a ≠ 152 → a ≠ 154 → a ≠ 155 → X6.1 a = S4.1 a := fun a q1 q2 q3 => by rw [b4.1 a q1 q2 q3, sI_ne q1, sI_ne q1]
  have x22 : X6.2.2 = (sR Sx 151 1 s).2.2 := by
    rw [b4.2.2.2]
    show S4.2.2 = _
    rw [a3]
  -- the first token
  obtain ⟨ta1, ta2, ta3, ta4⟩ := b6 0 b2
  have hmv : fX3_moveTo n X6 0 = some (sL (sI (sI X6 151 2 0) 151 3 (nI (kd (tkA nx 0)))) 151 4 (X6.2.1 156 0), ()) := by
    have e2 : (sI X6 151 2 0).1 151 2 = 0 := by rw [sI_at, if_pos ⟨rfl, rfl⟩]
    have e4 : ∀ z, (sI (sI X6 151 2 0) 151 3 z).1 151 2 = 0 := fun z => by rw [sI_f (by decide), e2]
    have c0 : Int32.toNatClampNeg 0 = 0 := by decide
    unfold fX3_moveTo
    rw [if_neg (show ¬ (0 : Int32) < 0 by decide), b5, if_neg (nI_nle (by omega) (by omega)), bn_go]
    simp only [e2, c0]
    rw [gd_pos (show ib 0 1701 by decide), bn_go]
    have e3 : (sI X6 151 2 0).1 154 0 = nI (kd (tkA nx 0)) := by rw [sI_ne (by decide)]; exact ta1
    simp only [e3, e4, c0]
    rw [gd_pos (show ib 0 1701 by decide), bn_go]
    rfl
  generalize hX0 : sI (sI (sI (sL (sI (sI X6 151 2 0) 151 3 (nI (kd (tkA nx 0)))) 151 4 (X6.2.1 156 0)) 151 5 0) 151 7 0) 151 8 (-1) = X0
  have y1 : ∀ a, a ≠ 151 → X0.1 a = X6.1 a := fun a q => by
    rw [← hX0, sI_ne q, sI_ne q, sI_ne q]
    show (sI (sI X6 151 2 0) 151 3 (nI (kd (tkA nx 0)))).1 a = _
    rw [sI_ne q, sI_ne q]
  have y2 : ∀ a, a ≠ 151 → X0.2.1 a = X6.2.1 a := fun a q => by
    rw [← hX0]
    show (sL (sI (sI X6 151 2 0) 151 3 (nI (kd (tkA nx 0)))) 151 4 (X6.2.1 156 0)).2.1 a = _
    rw [sL_ne q]
    rfl
  have y3 : X0.2.2 = X6.2.2 := by rw [← hX0]; rfl
  have y151 : ∀ k, X0.1 151 k = if k = 8 then -1 else if k = 7 then 0 else if k = 5 then 0 else if k = 3 then nI (kd (tkA nx 0)) else if k = 2 then 0 else X6.1 151 k := fun k => by
    rw [← hX0, sI_at, sI_at, sI_at]
    show (if 151 = 151 ∧ k = 8 then -1 else if 151 = 151 ∧ k = 7 then 0 else if 151 = 151 ∧ k = 5 then 0 else (sI (sI X6 151 2 0) 151 3 (nI (kd (tkA nx 0)))).1 151 k) = _
    rw [sI_at, sI_at]
    simp only [true_and]
  have yL : X0.2.1 151 4 = X6.2.1 156 0 := by
    rw [← hX0]
    show (sL (sI (sI X6 151 2 0) 151 3 (nI (kd (tkA nx 0)))) 151 4 (X6.2.1 156 0)).2.1 151 4 = _
    rw [sL_row, pk_uLs]
  have yr : X0.2.2 151 1 = s := by rw [y3, x22]; exact sR_at
  have eX : fX3_read n Sx s = fX3_read_l42 n n X0 0 := by
    unfold fX3_read
    have e1 : (sR Sx 151 1 s).2.2 151 1 = s := sR_at
    rw [gd_pos kk, bn_go, e1, gd_pos kk, a1, bd_go, b1, bd_go, hmv, bd_go, bn_go, bn_go, bn_go, hX0]
  -- the reference
  obtain ⟨M1, m1, m2, m3, m4⟩ := many_loop (n := n) 5 0 n (sI (sI (sI (sI (sI Sm 0 5 (Sm.1 0 1)) 0 1 0) 0 4 0) 0 2 0) 0 3 (-1)) (by omega) (by omega)
  have m1 : fX11_readAll n Sm = fX11_readAll_j48 n M1 := by
    unfold fX11_readAll
    rw [bn_go, bn_go, bn_go, bn_go, bn_go]
    exact m1
  have p0 : ∀ k, M1.1 0 k = if k = 3 then -1 else if k = 2 then 0 else if k = 4 then 0 else if k = 1 then 0 else if k = 5 then nI t else Sm.1 0 k := fun k => by
    rw [m2 0 (by decide), sI_at, sI_at, sI_at, sI_at, sI_at, t3]
    simp only [true_and]
  have p1 : ∀ a, a ≠ 0 → a ≠ 3 → M1.1 a = Sm.1 a := fun a q1 q2 => by rw [m2 a q2, sI_ne q1, sI_ne q1, sI_ne q1, sI_ne q1, sI_ne q1]
  generalize hM2 : sI (sI (sI (sI (sI (sI (sI (sI (sI M1 0 29 4) 0 30 12) 0 31 10) 0 32 0) 0 37 0) 0 38 0) 0 39 0) 0 40 0) 0 41 0 = M2
  have q0 : ∀ k, M2.1 0 k = if k = 41 then 0 else if k = 40 then 0 else if k = 39 then 0 else if k = 38 then 0 else if k = 37 then 0 else if k = 32 then 0 else if k = 31 then 10 else if k = 30 then 12 else if k = 29 then 4 else M1.1 0 k := fun k => by
    rw [← hM2, sI_at, sI_at, sI_at, sI_at, sI_at, sI_at, sI_at, sI_at, sI_at]
    simp only [true_and]
  have q1 : ∀ a, a ≠ 0 → M2.1 a = M1.1 a := fun a q => by rw [← hM2, sI_ne q, sI_ne q, sI_ne q, sI_ne q, sI_ne q, sI_ne q, sI_ne q, sI_ne q, sI_ne q]
  have hTM : TpM T t M2 := by
    refine ⟨?_, fun i hi => ⟨(hT i hi).1, ?_⟩⟩
    · rw [q0, if_neg (by decide), if_neg (by decide), if_neg (by decide), if_neg (by decide), if_neg (by decide), if_neg (by decide), if_neg (by decide), if_neg (by decide), if_neg (by decide), p0, if_neg (by decide), if_neg (by decide), if_neg (by decide), if_neg (by decide), if_pos rfl]
    · rw [q1 1 (by decide), p1 1 (by decide) (by decide)]; exact (hT i hi).2.1
  have e4 : M2.1 0 4 = nI (tkA nx 0) := by
    rw [q0, if_neg (by decide), if_neg (by decide), if_neg (by decide), if_neg (by decide), if_neg (by decide), if_neg (by decide), if_neg (by decide), if_neg (by decide), if_neg (by decide), p0, if_neg (by decide), if_neg (by decide), if_pos rfl]
    rfl
  obtain ⟨M0, d1, d2, d3⟩ := token_M hn hTM t1 e4 (hk (tkA nx 0) (Nat.zero_le _))
  have eM : fX11_readAll n Sm = fX11_readAll_l99 n n M0 := by
    rw [m1]
    unfold fX11_readAll_j48
    rw [bn_go, bn_go, bn_go, bn_go, bn_go, bn_go, bn_go, bn_go, bn_go, hM2, d1, bd_go]
  have hTM0 := TpM_fr hTM d2
  have r0 : ∀ k, k ≠ 4 → k ≠ 6 → k ≠ 7 → k ≠ 8 → M0.1 0 k = M2.1 0 k := d2.2.1
  have r1 : ∀ a, a ≠ 0 → M0.1 a = M2.1 a := d2.1
  -- both at the first token
  have hC : TC n s c t (fun i => kd (tkA nx i)) (fun i => pl (tkA nx i)) (fun i => x (tkA nx i)) (fun i => y (tkA nx i)) (fun i => v (tkA nx i)) (tkA nx) X0 M0 := by
    refine ⟨⟨hn, hs, yr⟩, ⟨t1, by omega, by rw [y1 152 (by decide)]; exact b5⟩, fun i hi => ?_, fun i hi z => (b7 i (Nat.zero_le _) hi).2 z, fun i hi => TkC_b t1 (hk _ (b7 i (Nat.zero_le _) hi).1), fun i hi M hg h4 => ?_⟩
    · obtain ⟨z1, z2, z3, z4⟩ := b6 i hi
      refine ⟨?_, ?_, fun w => ?_, fun w => ?_⟩
      · rw [y1 154 (by decide)]; exact z1
      · rw [y1 155 (by decide)]; exact z2
      · rw [y2 156 (by decide)]; exact z3 w
      · rw [y2 156 (by decide)]; exact z4 w
    · have hT' : TpM T t M := by
        unfold TpM
        rw [hg.1 1 (by decide) (by decide) (by decide), hg.2 5 (by omega)]
        exact hTM0
      exact token_M hn hT' t1 h4 (hk _ (b7 (i + 1) (Nat.zero_le _) hi).1)
  have hS : Sy s c (fun i => kd (tkA nx i)) (fun i => pl (tkA nx i)) (fun i => x (tkA nx i)) (fun i => y (tkA nx i)) (fun i => v (tkA nx i)) (tkA nx) X0 M0 0 X0 M0 := by
    refine ⟨⟨GX_rf, GM_rf, b2⟩, ⟨?_, ?_, fun z => ?_, fun z => ?_⟩, d3, ?_, ?_, ?_⟩
    · rw [y151, if_neg (by decide), if_neg (by decide), if_neg (by decide), if_neg (by decide), if_pos rfl]; rfl
    · rw [y151, if_neg (by decide), if_neg (by decide), if_neg (by decide), if_pos rfl]
    · rw [yL]; exact ta3 z
    · rw [yL]; exact ta4 z
    · rw [y151, if_neg (by decide), if_pos rfl]
    · rw [r0 2 (by decide) (by decide) (by decide) (by decide), q0, if_neg (by decide), if_neg (by decide), if_neg (by decide), if_neg (by decide), if_neg (by decide), if_neg (by decide), if_neg (by decide), if_neg (by decide), if_neg (by decide), p0, if_neg (by decide), if_pos rfl]
    · rw [y151, if_pos rfl, r0 3 (by decide) (by decide) (by decide) (by decide), q0, if_neg (by decide), if_neg (by decide), if_neg (by decide), if_neg (by decide), if_neg (by decide), if_neg (by decide), if_neg (by decide), if_neg (by decide), if_neg (by decide), p0, if_pos rfl]
  have xl : ∀ a, s ≤ a → a < s + 50 → X0.1 a = S4.1 a := fun a h1 h2 => by rw [y1 a (by omega), x152 a (by omega) (by omega) (by omega)]
  have gl : ∀ k, lmC k → X0.1 (s + k) 0 = Sx.1 (s + k) 0 := fun k hk => by
    have hk' := hk
    unfold lmC at hk'
    rw [xl _ (by omega) (by omega), (a4 k hk).2]
    rfl
  have hz : ∀ q, q < 5 → N0 (5 + q) = 0 := fun q _ => by
    unfold N0
    rw [if_neg (by omega), if_neg (by omega), if_neg (by omega)]
  have hP : PB s N0 (fun _ => 0) X0 M0 := by
    have fld : ∀ k, k ≠ 4 → k ≠ 6 → k ≠ 7 → k ≠ 8 → M0.1 0 k = M2.1 0 k := r0
    refine ⟨⟨?_, ?_, ?_, ?_, ?_⟩, ⟨?_, ?_, ?_, ?_⟩, by decide, fun q hq => ?_, fun q hq d hd => ?_, fun d hd => ?_, fun g hg => ?_, fun q hq => ⟨fun k hk => ?_, fun k k' hk => ?_⟩, ?_, fun k hk => ?_, rfl⟩
    · rw [xl s (by omega) (by omega), a5]; rfl
    · rw [xl s (by omega) (by omega), a6]; rfl
    · rw [xl s (by omega) (by omega), a7]; rfl
    · rw [xl s (by omega) (by omega), a8]; rfl
    · rw [xl s (by omega) (by omega), a9]; rfl
    · rw [fld 29 (by decide) (by decide) (by decide) (by decide), q0]; rfl
    · rw [fld 30 (by decide) (by decide) (by decide) (by decide), q0]; rfl
    · rw [fld 31 (by decide) (by decide) (by decide) (by decide), q0]; rfl
    · rw [fld 32 (by decide) (by decide) (by decide) (by decide), q0]; rfl
    · have hb5 := sh_b hq
      have hl := sh_lm hq
      rw [hz q hq]
      refine ⟨?_, ?_, ?_, Nat.zero_le _⟩
      · rw [xl _ (by omega) (by omega), (a4 _ hl).1]; rfl
      · rw [gl _ hl]
        obtain ⟨⟨l1, l2, l3, l4, l5⟩, l6, l7, l8, l9, l10⟩ := hlim
        rcases hs with rfl | rfl
        · rcases (show q = 0 ∨ q = 1 ∨ q = 2 ∨ q = 3 ∨ q = 4 by omega) with rfl | rfl | rfl | rfl | rfl
          · exact l1
          · exact l2
          · exact l3
          · exact l4
          · exact l5
        · rcases (show q = 0 ∨ q = 1 ∨ q = 2 ∨ q = 3 ∨ q = 4 by omega) with rfl | rfl | rfl | rfl | rfl
          · exact l6
          · exact l7
          · exact l8
          · exact l9
          · exact l10
      · rw [r1 3 (by decide), q1 3 (by decide), m4, if_pos (by omega)]; rfl
    · rw [hz q (by omega)] at hd; omega
    · have : N0 5 = 0 := rfl
      omega
    · have : N0 9 = 0 := rfl
      omega
    · rw [hz q hq] at hk; omega
    · rw [hz q hq] at hk; omega
    · rw [y151, if_neg (by decide), if_neg (by decide), if_pos rfl]; rfl
    · refine ⟨Nat.zero_le _, ?_⟩
      rw [fld (37 + k) (by omega) (by omega) (by omega) (by omega), q0]
      rcases (show k = 0 ∨ k = 1 ∨ k = 2 ∨ k = 3 ∨ k = 4 by omega) with rfl | rfl | rfl | rfl | rfl <;> rfl
  obtain ⟨X, M, g1, g2, g3, g4, g5⟩ := read_loop hC c 0 n n 0 N0 (fun _ => 0) X0 M0 (by omega) (by omega) (by omega) (Nat.le_refl _) hS hP
  have g1 : fX3_read_l42 n n X0 0 = _ := g1
  refine ⟨X, M, by rw [eX, g1], by rw [eM, g2], ⟨fun a c1 c2 c3 c4 c5 => ?_, fun a c1 c2 c3 => ?_, fun a c1 => ?_, fun k hk => ?_⟩, ⟨fun a c1 c2 c3 => ?_, fun k ck => ?_, ?_⟩, g5, by rw [g3.2.2.1]; exact yr⟩
  · rw [g3.1 a c1 c5, y1 a c1, x152 a c2 c3 c4, s4 a c5]
  · rw [g3.2.1 a c1 c3, y2 a c1, b4.2.2.1 a c2]
    show S4.2.1 a = _
    rw [a3]
    rfl
  · rw [g3.2.2.1, y3, x22, sR_ne c1]
  · have hk' := hk
    unfold lmC at hk'
    rw [g3.2.2.2 k hk (by omega), gl k hk]
  · rw [g4.1 a c1 c2 c3, r1 a c1, q1 a c1, p1 a c1 c2]
  · rw [g4.2 k (by omega), r0 k (by omega) (by omega) (by omega) (by omega), q0, if_neg (by omega), if_neg (by omega), if_neg (by omega), if_neg (by omega), if_neg (by omega), if_neg (by omega), if_neg (by omega), if_neg (by omega), if_neg (by omega), p0, if_neg (by omega), if_neg (by omega), if_neg (by omega), if_neg (by omega), if_neg (by omega)]
  · rw [g4.2 1 (by omega), r0 1 (by decide) (by decide) (by decide) (by decide), q0, if_neg (by decide), if_neg (by decide), if_neg (by decide), if_neg (by decide), if_neg (by decide), if_neg (by decide), if_neg (by decide), if_neg (by decide), if_neg (by decide), p0, if_neg (by decide), if_neg (by decide), if_neg (by decide), if_pos rfl]
