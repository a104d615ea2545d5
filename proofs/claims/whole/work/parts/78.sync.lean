/-! THE TEXT: both sides at a token. s: the spare bench's first cell. -/
/-- where a shelf says how much it can hold -/
def lmC (k : Nat) : Prop := k = 1 ∨ k = 12 ∨ k = 19 ∨ k = 28 ∨ k = 35
theorem sI_f {S : St} {a k b j : Nat} {v : Int32} (h : j ≠ k) : (sI S a k v).1 b j = S.1 b j := by
  by_cases e : b = a
  · rw [e, sI_row, upd_ne h]
  · rw [sI_ne e]
/-- what reading a text changes at all -/
def GX (s : Nat) (X X' : St) : Prop := (∀ a, a ≠ 151 → (a < s ∨ s + 50 ≤ a) → X'.1 a = X.1 a) ∧ (∀ a, a ≠ 151 → (a < s ∨ s + 50 ≤ a) → X'.2.1 a = X.2.1 a) ∧ X'.2.2 = X.2.2 ∧ (∀ k, lmC k → s + k ≠ 151 → X'.1 (s + k) 0 = X.1 (s + k) 0)
def GM (M M' : St) : Prop := (∀ a, a ≠ 0 → a ≠ 3 → (a < 5 ∨ 12 < a) → M'.1 a = M.1 a) ∧ (∀ k, (k ≤ 1 ∨ k = 5 ∨ (10 ≤ k ∧ k ≤ 28) ∨ (33 ≤ k ∧ k ≤ 36) ∨ 42 ≤ k) → M'.1 0 k = M.1 0 k)
theorem GX_rf {s : Nat} {X : St} : GX s X X := ⟨fun _ _ _ => rfl, fun _ _ _ => rfl, rfl, fun _ _ _ => rfl⟩
theorem GM_rf {M : St} : GM M M := ⟨fun _ _ _ _ => rfl, fun _ _ => rfl⟩
theorem GX_tr {s : Nat} {A B C : St} (h : GX s A B) (g : GX s B C) : GX s A C := ⟨fun a q r => (g.1 a q r).trans (h.1 a q r), fun a q r => (g.2.1 a q r).trans (h.2.1 a q r), g.2.2.1.trans h.2.2.1, fun k q r => (g.2.2.2 k q r).trans (h.2.2.2 k q r)⟩
theorem GM_tr {A B C : St} (h : GM A B) (g : GM B C) : GM A C := ⟨fun a q r s => (g.1 a q r s).trans (h.1 a q r s), fun k q => (g.2 k q).trans (h.2 k q)⟩
/-- what going from token to token, and a fault, change -/
def kT1 (X X' : St) : Prop := (∀ a, a ≠ 151 → X'.1 a = X.1 a) ∧ (∀ k, k ≠ 2 → k ≠ 3 → k ≠ 6 → k ≠ 7 → k ≠ 8 → X'.1 151 k = X.1 151 k) ∧ (∀ a, a ≠ 151 → X'.2.1 a = X.2.1 a) ∧ X'.2.2 = X.2.2
def kU1 (M M' : St) : Prop := (∀ a, a ≠ 0 → M'.1 a = M.1 a) ∧ (∀ k, k ≠ 2 → k ≠ 3 → k ≠ 4 → k ≠ 6 → k ≠ 7 → k ≠ 8 → M'.1 0 k = M.1 0 k) ∧ (∀ a, a ≠ 0 → M'.2.1 a = M.2.1 a)
theorem kT1_rf {X : St} : kT1 X X := ⟨fun _ _ => rfl, fun _ _ _ _ _ _ => rfl, fun _ _ => rfl, rfl⟩
theorem kU1_rf {M : St} : kU1 M M := ⟨fun _ _ => rfl, fun _ _ _ _ _ _ _ => rfl, fun _ _ => rfl⟩
theorem kT1_tr {A B C : St} (h : kT1 A B) (g : kT1 B C) : kT1 A C := ⟨fun a q => (g.1 a q).trans (h.1 a q), fun k a b c d e => (g.2.1 k a b c d e).trans (h.2.1 k a b c d e), fun a q => (g.2.2.1 a q).trans (h.2.2.1 a q), g.2.2.2.trans h.2.2.2⟩
theorem kU1_tr {A B C : St} (h : kU1 A B) (g : kU1 B C) : kU1 A C := ⟨fun a q => (g.1 a q).trans (h.1 a q), fun k a b c d e f => (g.2.1 k a b c d e f).trans (h.2.1 k a b c d e f), fun a q => (g.2.2 a q).trans (h.2.2 a q)⟩
theorem kT1_G {s : Nat} {X X' : St} (h : kT1 X X') : GX s X X' := ⟨fun a q _ => h.1 a q, fun a q _ => h.2.2.1 a q, h.2.2.2, fun k _ q => by rw [h.1 _ q]⟩
theorem kU1_G {M M' : St} (h : kU1 M M') : GM M M' := ⟨fun a q _ _ => h.1 a q, fun k q => h.2.1 k (by omega) (by omega) (by omega) (by omega) (by omega) (by omega)⟩
theorem kQ_U {M M' : St} (h : kQ M M') : kU1 M M' := ⟨h.1, fun k _ _ a b c d => h.2.1 k a b c d, h.2.2⟩
theorem kT1_I {X : St} {k : Nat} {v : Int32} (h : k = 2 ∨ k = 3 ∨ k = 6 ∨ k = 7 ∨ k = 8) : kT1 X (sI X 151 k v) := ⟨fun a q => sI_ne q, fun j a b c d e => by rw [sI_row, upd_ne (by omega)], fun _ _ => rfl, rfl⟩
theorem kU1_I {M : St} {k : Nat} {v : Int32} (h : k = 2 ∨ k = 3) : kU1 M (sI M 0 k v) := ⟨fun a q => sI_ne q, fun j a b _ _ _ _ => by rw [sI_row, upd_ne (by omega)], fun _ _ => rfl⟩
/-- the row of tokens -/
def TC (n s c t : Nat) (K P Q R V A : Nat → Nat) (X0 M0 : St) : Prop :=
  (200000 ≤ n ∧ (s = 3 ∨ s = 77) ∧ X0.2.2 151 1 = s) ∧ (t ≤ 1700 ∧ c ≤ 1701 ∧ X0.1 152 4 = nI c) ∧ (∀ i, i < c → TA X0 i (K i) (P i) (R i) (V i)) ∧ (∀ i, i < c → 2 ≤ K i → i + 1 < c) ∧ (∀ i, i < c → K i ≤ 18 ∧ P i ≤ 1700 ∧ (4 ≤ K i → KW (Q i) (K i) ∧ ∃ k, k ≤ 8 ∧ WR k (Q i) (R i)) ∧ (K i = 2 → V i ≤ 9999)) ∧
  (∀ i, i + 1 < c → ∀ M, GM M0 M → M.1 0 4 = nI (A (i + 1)) → ∃ M', fX11_token n M = some (M', ()) ∧ kQ M M' ∧ RT M' (K (i + 1)) (P (i + 1)) (A (i + 2)) (Q (i + 1)) (V (i + 1)))
def Sy (s c : Nat) (K P Q R V A : Nat → Nat) (X0 M0 : St) (i : Nat) (X M : St) : Prop :=
  (GX s X0 X ∧ GM M0 M ∧ i < c) ∧ (X.1 151 2 = nI i ∧ X.1 151 3 = nI (K i) ∧ (K i = 2 → X.2.1 151 4 = lN (V i)) ∧ (4 ≤ K i → X.2.1 151 4 = lN (R i))) ∧ RT M (K i) (P i) (A (i + 1)) (Q i) (V i) ∧ X.1 151 7 = 0 ∧ M.1 0 2 = 0 ∧ X.1 151 8 = M.1 0 3
def Ft (X M : St) : Prop := ∃ f : Nat, 1 ≤ f ∧ f ≤ 5 ∧ X.1 151 7 = nI f ∧ M.1 0 2 = nI f ∧ X.1 151 8 = M.1 0 3
section
variable {n s c t : Nat} {K P Q R V A : Nat → Nat} {X0 M0 X M : St} {i : Nat}
theorem Ft_X (h : Ft X M) {y : Int32} : fX3_refuse n X y = some (X, 0) := by
  obtain ⟨f, f1, f2, f3, -⟩ := h
  unfold fX3_refuse
  rw [f3, if_neg (nI_ne0 f1 (by omega))]
theorem Ft_0 (h : Ft X M) : ¬ M.1 0 2 = 0 ∧ ¬ M.1 0 2 ≤ 0 := by
  obtain ⟨f, f1, f2, f3, f4, -⟩ := h
  rw [f4]
  exact ⟨nI_ne0 f1 (by omega), nI_nle f1 (by omega)⟩
theorem Ft_M (h : Ft X M) {y : Int32} : fX11_wrong n M y = some (M, ()) := by
  unfold fX11_wrong
  rw [if_neg (Ft_0 h).2]
theorem Ft_want (h : Ft X M) {y : Int64} : fX11_want n M y = some (M, ()) := by
  unfold fX11_want
  rw [if_neg (Ft_0 h).2]
theorem Ft_num (h : Ft X M) {x y : Int32} : fX11_toldNumber n M x y = some (M, 0) := by
  unfold fX11_toldNumber
  rw [if_neg (Ft_0 h).2]
theorem Ft_told (h : Ft X M) {w : Int64} {x y : Int32} : fX11_told n M w x y = some (M, 0) := by
  unfold fX11_told
  rw [Ft_want h, bd_go, Ft_num h, bd_go]
theorem Ft_220 (h : Ft X M) : fX11_readLine_j220 n M = some (M, ()) := by
  unfold fX11_readLine_j220 fX11_readLine_j241
  rw [if_neg (Ft_0 h).1, if_neg (Ft_0 h).1]
theorem Ft_fr {X' M' : St} (h : Ft X M) (h1 : X'.1 151 = X.1 151) (h2 : M'.1 0 2 = M.1 0 2) (h3 : M'.1 0 3 = M.1 0 3) : Ft X' M' := by
  unfold Ft
  rw [h1, h2, h3]
  exact h
theorem both_step (hC : TC n s c t K P Q R V A X0 M0) (h : Sy s c K P Q R V A X0 M0 i X M) (hK : 2 ≤ K i) : ∃ X' M', fX3_moveTo n X (nI i + 1) = some (X', ()) ∧ fX11_token n M = some (M', ()) ∧ kT1 X X' ∧ kU1 M M' ∧ Sy s c K P Q R V A X0 M0 (i + 1) X' M' ∧ X'.1 151 6 = X.1 151 6 := by
  obtain ⟨⟨c1, c2, c3⟩, ⟨c4, c5, c6⟩, c7, c8, c9, c10⟩ := hC
  obtain ⟨⟨g1, g2, g3⟩, ⟨x1, x2, x3, x4⟩, r, f1, f2, f3⟩ := h
  have hi1 := c8 i g3 hK
  obtain ⟨t1, t2, t3, t4⟩ := c7 (i + 1) hi1
  have s152 : X.1 152 = X0.1 152 := g1.1 152 (by decide) (by rcases c2 with z | z <;> omega)
  have s154 : X.1 154 = X0.1 154 := g1.1 154 (by decide) (by rcases c2 with z | z <;> omega)
  have s156 : X.2.1 156 = X0.2.1 156 := g1.2.1 156 (by decide) (by rcases c2 with z | z <;> omega)
  obtain ⟨M', m1, m2, m3⟩ := c10 i hi1 M g2 (r.2.2.2.2 (by omega))
  have hX' : fX3_moveTo n X (nI i + 1) = some (sL (sI (sI X 151 2 (nI (i + 1))) 151 3 (nI (K (i + 1)))) 151 4 (X.2.1 156 (i + 1)), ()) := by
    unfold fX3_moveTo
    rw [nI_1, if_neg (nI_pos (by omega)), s152, c6, if_neg (nI_ge hi1 (by omega)), bn_go]
    have e2 : (sI X 151 2 (nI (i + 1))).1 151 2 = nI (i + 1) := by rw [sI_row, upd_eq]
    simp only [e2, cl_nI (show i + 1 < 2 ^ 31 by omega)]
    rw [gd_pos (ib_nI (by omega) (by decide)), bn_go]
    have e3 : (sI X 151 2 (nI (i + 1))).1 154 (i + 1) = nI (K (i + 1)) := by rw [sI_ne (by decide), s154]; exact t1
    have e4 : ∀ z, (sI (sI X 151 2 (nI (i + 1))) 151 3 z).1 151 2 = nI (i + 1) := fun z => by rw [sI_row, upd_ne (by decide), sI_row, upd_eq]
    simp only [e3, e4, cl_nI (show i + 1 < 2 ^ 31 by omega)]
    rw [gd_pos (ib_nI (by omega) (by decide)), bn_go]
    rfl
  have kx : kT1 X (sL (sI (sI X 151 2 (nI (i + 1))) 151 3 (nI (K (i + 1)))) 151 4 (X.2.1 156 (i + 1))) := kT1_tr (kT1_I (by omega)) (kT1_tr (kT1_I (by omega)) ⟨fun _ _ => rfl, fun _ _ _ _ _ _ => rfl, fun a q => sL_ne q, rfl⟩)
  refine ⟨_, M', hX', m1, kx, kQ_U m2, ⟨⟨GX_tr g1 (kT1_G kx), GM_tr g2 (kU1_G (kQ_U m2)), hi1⟩, ⟨?_, ?_, fun z => ?_, fun z => ?_⟩, m3, ?_, ?_, ?_⟩, ?_⟩
  · show (sI (sI X 151 2 (nI (i + 1))) 151 3 (nI (K (i + 1)))).1 151 2 = _
    rw [sI_row, upd_ne (by decide), sI_row, upd_eq]
  · show (sI (sI X 151 2 (nI (i + 1))) 151 3 (nI (K (i + 1)))).1 151 3 = _
    rw [sI_row, upd_eq]
  · rw [sL_row, pk_uLs, s156]; exact t3 z
  · rw [sL_row, pk_uLs, s156]; exact t4 z
  · show (sI (sI X 151 2 (nI (i + 1))) 151 3 (nI (K (i + 1)))).1 151 7 = _
    rw [sI_row, upd_ne (by decide), sI_row, upd_ne (by decide)]; exact f1
  · rw [m2.2.1 2 (by decide) (by decide) (by decide) (by decide)]; exact f2
  · rw [m2.2.1 3 (by decide) (by decide) (by decide) (by decide)]
    show (sI (sI X 151 2 (nI (i + 1))) 151 3 (nI (K (i + 1)))).1 151 8 = _
    rw [sI_row, upd_ne (by decide), sI_row, upd_ne (by decide)]; exact f3
  · show (sI (sI X 151 2 (nI (i + 1))) 151 3 (nI (K (i + 1)))).1 151 6 = _
    rw [sI_row, upd_ne (by decide), sI_row, upd_ne (by decide)]
theorem both_wrong (hC : TC n s c t K P Q R V A X0 M0) (h : Sy s c K P Q R V A X0 M0 i X M) {f : Nat} (h1 : 1 ≤ f) (h5 : f ≤ 5) : ∃ X' M', fX3_refuse n X (nI f) = some (X', 0) ∧ fX11_wrong n M (nI f) = some (M', ()) ∧ kT1 X X' ∧ kU1 M M' ∧ Ft X' M' := by
  obtain ⟨⟨c1, c2, c3⟩, ⟨c4, c5, c6⟩, c7, c8, c9, c10⟩ := hC
  obtain ⟨⟨g1, g2, g3⟩, ⟨x1, x2, x3, x4⟩, ⟨r1, r2, -⟩, f1, f2, f3⟩ := h
  have hk := c9 i g3
  have s155 : X.1 155 = X0.1 155 := g1.1 155 (by decide) (by rcases c2 with z | z <;> omega)
  have hp : X0.1 155 i = nI (P i) := (c7 i g3).2.1
  have key : ∀ g : Nat, 1 ≤ g → g ≤ 5 → ∃ X' M', fX3_refuse_j21 n X (nI g) = some (X', 0) ∧ fX11_wrong_j22 n M (nI g) = some (M', ()) ∧ kT1 X X' ∧ kU1 M M' ∧ Ft X' M' := fun g q1 q2 => by
    unfold fX3_refuse_j21 fX11_wrong_j22
    have e2 : (sI X 151 7 (nI g)).1 151 2 = nI i := by rw [sI_row, upd_ne (by decide)]; exact x1
    have e5 : (sI X 151 7 (nI g)).1 155 i = nI (P i) := by rw [sI_ne (by decide), s155]; exact hp
    have e7 : (sI M 0 2 (nI g)).1 0 7 = nI (P i) := by rw [sI_row, upd_ne (by decide)]; exact r2
    rw [bn_go, bn_go]
    simp only [e2, cl_nI (show i < 2 ^ 31 by omega), e5, e7]
    rw [gd_pos (ib_nI (by omega) (by decide)), bn_go, bn_go]
    refine ⟨_, _, rfl, rfl, kT1_tr (kT1_I (by omega)) (kT1_I (by omega)), kU1_tr (kU1_I (by omega)) (kU1_I (by omega)), g, q1, q2, ?_, ?_, ?_⟩
    · rw [sI_row, upd_ne (by decide), sI_row, upd_eq]
    · rw [sI_row, upd_ne (by decide), sI_row, upd_eq]
    · rw [sI_row, upd_eq, sI_row, upd_eq]
      exact e7.symm
  unfold fX3_refuse fX11_wrong
  rw [f1, if_pos rfl, f2, if_pos (show (0 : Int32) ≤ 0 by decide), x2, r1]
  by_cases z : K i = 1
  · have e1 : srt (K i) = 3 := by rw [z]; rfl
    rw [if_pos (show nI (K i) = 1 by rw [z]; rfl), if_pos (show nI (srt (K i)) = 3 by rw [e1]; rfl)]
    exact key 1 (by decide) (by decide)
  · have e1 : srt (K i) ≠ 3 ∧ srt (K i) < 100 := by
      unfold srt
      rw [if_neg z]
      constructor
      · split
        · decide
        · split
          · decide
          · split <;> decide
      · split
        · decide
        · split
          · decide
          · split <;> decide
    rw [if_neg (show ¬ nI (K i) = 1 from fun q => z ((nI_eq (b := 1) (by omega) (by decide)).mp q)), if_neg (show ¬ nI (srt (K i)) = 3 from fun q => e1.1 ((nI_eq (b := 3) (by omega) (by decide)).mp q))]
    exact key f h1 h5
theorem take_t (hC : TC n s c t K P Q R V A X0 M0) (h : Sy s c K P Q R V A X0 M0 i X M) {w : Nat} (hw : K i = w) (h2 : 2 ≤ w) : ∃ X' M', fX3_take n X (nI w) = some (X', 1) ∧ fX11_token n M = some (M', ()) ∧ kT1 X X' ∧ kU1 M M' ∧ Sy s c K P Q R V A X0 M0 (i + 1) X' M' := by
  obtain ⟨X', M', a1, a2, a3, a4, a5, -⟩ := both_step hC h (by omega)
  refine ⟨X', M', ?_, a2, a3, a4, a5⟩
  unfold fX3_take
  rw [h.2.1.2.1, hw, if_pos rfl, h.2.1.1, a1, bd_go]
theorem take_f (hC : TC n s c t K P Q R V A X0 M0) (h : Sy s c K P Q R V A X0 M0 i X M) {w : Nat} (hw : K i ≠ w) (h31 : w < 2 ^ 31) {X' : St} (hr : fX3_refuse n X 2 = some (X', 0)) : fX3_take n X (nI w) = some (X', 0) := by
  have hk := (hC.2.2.2.2.1 i h.1.2.2).1
  unfold fX3_take
  rw [h.2.1.2.1, if_neg (fun q => hw ((nI_eq (by omega) h31).mp q)), hr, bd_go, gd_pos (Or.inl rfl)]
theorem wd_at (hC : TC n s c t K P Q R V A X0 M0) (h : Sy s c K P Q R V A X0 M0 i X M) {j : Nat} (hj : j < 14) : (M.1 0 6 = 1 ∧ lg_cmp (M.2.1 0 9) (lN (w8 (kw j))) = 0) ↔ K i = 5 + j := by
  obtain ⟨k1, -, k2, -⟩ := hC.2.2.2.2.1 i h.1.2.2
  obtain ⟨r1, -, -, r4, -⟩ := h.2.2.1
  have hs : srt (K i) < 100 ∧ (srt (K i) = 1 ↔ 4 ≤ K i) := by
    unfold srt
    by_cases z0 : K i = 0
    · rw [if_pos z0]; omega
    · rw [if_neg z0]
      by_cases z1 : K i = 1
      · rw [if_pos z1]; omega
      · rw [if_neg z1]
        by_cases z2 : K i = 2
        · rw [if_pos z2]; omega
        · rw [if_neg z2]
          by_cases z3 : K i = 3
          · rw [if_pos z3]; omega
          · rw [if_neg z3]; omega
  have e6 : M.1 0 6 = 1 ↔ 4 ≤ K i := by
    rw [r1]
    exact (show (nI (srt (K i)) = nI 1 ↔ srt (K i) = 1) from nI_eq (by omega) (by decide)).trans hs.2
  constructor
  · intro ⟨q1, q2⟩
    have q4 := e6.mp q1
    obtain ⟨g1, k, g2, g3⟩ := k2 q4
    obtain ⟨o1, o2⟩ := kw_ok j hj
    have e := lg_eq.mp q2
    rw [r4 q4] at e
    exact (KW_i g1 hj).mp ((pk_lEQ (WR_8 g3 g2).1 (WR_8 (WR_of (kw j) o1) o2).1).mp e)
  · intro q
    have q4 : 4 ≤ K i := by omega
    obtain ⟨g1, k, g2, g3⟩ := k2 q4
    exact ⟨e6.mpr q4, lg_eq.mpr (by rw [r4 q4, (KW_i g1 hj).mpr q])⟩
theorem sort_1 (hC : TC n s c t K P Q R V A X0 M0) (h : Sy s c K P Q R V A X0 M0 i X M) : M.1 0 6 = 1 ↔ 4 ≤ K i := by
  obtain ⟨r1, -⟩ := h.2.2.1
  have hs : srt (K i) < 100 ∧ (srt (K i) = 1 ↔ 4 ≤ K i) := by
    unfold srt
    by_cases z0 : K i = 0
    · rw [if_pos z0]; omega
    · rw [if_neg z0]
      by_cases z1 : K i = 1
      · rw [if_pos z1]; omega
      · rw [if_neg z1]
        by_cases z2 : K i = 2
        · rw [if_pos z2]; omega
        · rw [if_neg z2]
          by_cases z3 : K i = 3
          · rw [if_pos z3]; omega
          · rw [if_neg z3]; omega
  rw [r1]
  exact (show (nI (srt (K i)) = nI 1 ↔ srt (K i) = 1) from nI_eq (by omega) (by decide)).trans hs.2
theorem isWord_spec (hC : TC n s c t K P Q R V A X0 M0) (h : Sy s c K P Q R V A X0 M0 i X M) {j : Nat} (hj : j < 14) {w : Int64} (hw : w = lN (w8 (kw j))) : fX11_isWord n M w = some (M, if K i = 5 + j then 1 else 0) := by
  have e := wd_at hC h hj
  unfold fX11_isWord
  rw [hw]
  by_cases z : K i = 5 + j
  · obtain ⟨e1, e2⟩ := e.mpr z
    rw [if_pos e1, if_pos e2, if_pos z]
  · rw [if_neg z]
    by_cases e1 : M.1 0 6 = 1
    · rw [if_pos e1, if_neg (fun q => z (e.mp ⟨e1, q⟩))]
    · rw [if_neg e1]
theorem isName_spec (hC : TC n s c t K P Q R V A X0 M0) (h : Sy s c K P Q R V A X0 M0 i X M) : fX11_isName n M = some (M, if K i = 4 then 1 else 0) := by
  have k18 := (hC.2.2.2.2.1 i h.1.2.2).1
  have e6 := sort_1 hC h
  have e : ∀ j, j < 14 → 4 ≤ K i → (lg_cmp (M.2.1 0 9) (lN (w8 (kw j))) = 0 ↔ K i = 5 + j) := fun j hj z => ⟨fun q => (wd_at hC h hj).mp ⟨e6.mpr z, q⟩, fun q => ((wd_at hC h hj).mpr q).2⟩
  unfold fX11_isName
  by_cases z : 4 ≤ K i
  case neg => rw [if_neg (fun q => z (e6.mp q)), if_neg (by omega)]
  rw [if_pos (e6.mpr z)]
  have e0 : lg_cmp (M.2.1 0 9) 422541419635 = 0 ↔ K i = 5 := e 0 (by decide) z
  have e1 : lg_cmp (M.2.1 0 9) 6584677 = 0 ↔ K i = 6 := e 1 (by decide) z
  have e2 : lg_cmp (M.2.1 0 9) 113741193899620 = 0 ↔ K i = 7 := e 2 (by decide) z
  have e3 : lg_cmp (M.2.1 0 9) 1818324336 = 0 ↔ K i = 8 := e 3 (by decide) z
  have e4 : lg_cmp (M.2.1 0 9) 6650213 = 0 ↔ K i = 9 := e 4 (by decide) z
  have e5 : lg_cmp (M.2.1 0 9) 1735356260 = 0 ↔ K i = 10 := e 5 (by decide) z
  have e7 : lg_cmp (M.2.1 0 9) 1836020596 = 0 ↔ K i = 11 := e 6 (by decide) z
  have e8 : lg_cmp (M.2.1 0 9) 418430675813 = 0 ↔ K i = 12 := e 7 (by decide) z
  have e9 : lg_cmp (M.2.1 0 9) 1870030194 = 0 ↔ K i = 13 := e 8 (by decide) z
  have e10 : lg_cmp (M.2.1 0 9) 1936484720 = 0 ↔ K i = 14 := e 9 (by decide) z
  have e11 : lg_cmp (M.2.1 0 9) 482955846501 = 0 ↔ K i = 15 := e 10 (by decide) z
  have e12 : lg_cmp (M.2.1 0 9) 1717662580 = 0 ↔ K i = 16 := e 11 (by decide) z
  have e13 : lg_cmp (M.2.1 0 9) 28518 = 0 ↔ K i = 17 := e 12 (by decide) z
  have e14 : lg_cmp (M.2.1 0 9) 28526 = 0 ↔ K i = 18 := e 13 (by decide) z
  have hk : K i = 4 ∨ K i = 5 ∨ K i = 6 ∨ K i = 7 ∨ K i = 8 ∨ K i = 9 ∨ K i = 10 ∨ K i = 11 ∨ K i = 12 ∨ K i = 13 ∨ K i = 14 ∨ K i = 15 ∨ K i = 16 ∨ K i = 17 ∨ K i = 18 := by omega
  simp only [fX11_isName_j87, fX11_isName_j92, fX11_isName_j170, fX11_isName_j175, e0, e1, e2, e3, e4, e5, e7, e8, e9, e10, e11, e12, e13, e14]
  rcases hk with hk | hk | hk | hk | hk | hk | hk | hk | hk | hk | hk | hk | hk | hk | hk <;> simp [hk]
end
