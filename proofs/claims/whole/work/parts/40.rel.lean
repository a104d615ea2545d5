/-! THE PURE PART: what the two sides have in common. F, FL, FR: the class's int, long and reference places; M, ML: the reference's. -/
/-- a bench: numbers, and tables of numbers -/
abbrev Bd : Type := (Nat → Nat) × (Nat → Nat → Nat → Int32)
abbrev b_nb (B : Bd) : Nat := B.1 0
abbrev b_most (B : Bd) : Nat := B.1 1
abbrev b_alike (B : Bd) : Nat := B.1 2
abbrev b_slip (B : Bd) : Nat := B.1 3
abbrev b_over (B : Bd) : Nat := B.1 4
abbrev b_nd (B : Bd) : Nat := B.1 5
abbrev b_ng (B : Bd) : Nat := B.1 6
abbrev b_nl (B : Bd) : Nat := B.1 7
abbrev b_ne (B : Bd) : Nat := B.1 8
abbrev b_no (B : Bd) : Nat := B.1 9
abbrev b_dye (B : Bd) : Nat → Nat → Int32 := B.2 0
abbrev b_grd (B : Bd) : Nat → Nat → Int32 := B.2 1
abbrev b_lmp (B : Bd) : Nat → Nat → Int32 := B.2 2
abbrev b_eye (B : Bd) : Nat → Nat → Int32 := B.2 3
abbrev b_prc (B : Bd) (d : Nat) : Int32 := B.2 4 d 0
abbrev b_fst (B : Bd) (d : Nat) : Int32 := B.2 5 d 0
abbrev b_on (B : Bd) (g : Nat) : Int32 := B.2 6 g 0
abbrev b_par (B : Bd) : Nat → Nat → Int32 := B.2 7
def sumN (p : Nat → Nat) : Nat → Nat
  | 0 => 0
  | n + 1 => sumN p n + p n
def sm (x : Int32) (n : Nat) : Prop := ∃ v : Nat, v ≤ n ∧ x = nI v
def Bok (B : Bd) : Prop :=
  (1 ≤ b_nb B ∧ b_nb B ≤ 16) ∧ (1 ≤ b_most B ∧ b_most B ≤ 24) ∧ b_alike B ≤ 9999 ∧ b_slip B ≤ 9 ∧ b_over B ≤ 1 ∧ b_nd B ≤ 8 ∧ b_ng B ≤ 4 ∧ b_nl B ≤ 6 ∧ b_ne B ≤ 4 ∧ b_no B ≤ 8 ∧
  (∀ d, d < b_nd B → ∀ j, j < b_nb B → sm (b_dye B d j) 99) ∧ (∀ g, g < b_ng B → ∀ j, j < b_nb B → sm (b_grd B g j) 99) ∧ (∀ l, l < b_nl B → ∀ j, j < b_nb B → sm (b_lmp B l j) 99) ∧ (∀ e, e < b_ne B → ∀ j, j < b_nb B → sm (b_eye B e j) 9) ∧
  (∀ d, d < b_nd B → sm (b_prc B d) 99 ∧ sm (b_fst B d) 99) ∧ (∀ g, g < b_no B → ∃ k, k < b_ng B ∧ b_on B g = nI k) ∧ (∀ g, g < b_no B → ∃ p : Nat → Nat, (∀ d, d < b_nd B → b_par B g d = nI (p d)) ∧ sumN p (b_nd B) ≤ b_most B)
/-- the bench of the class at b -/
def RXb (B : Bd) (F : Nat → Nat → Int32) (b : Nat) : Prop :=
  F b 9 = nI (b_nb B) ∧ F b 10 = nI (b_most B) ∧ F b 11 = nI (b_alike B) ∧ F b 12 = nI (b_slip B) ∧ F b 13 = nI (b_over B) ∧
  F (b + 1) 3 = nI (b_nd B) ∧ F (b + 12) 3 = nI (b_ng B) ∧ F (b + 19) 3 = nI (b_nl B) ∧ F (b + 28) 3 = nI (b_ne B) ∧ F (b + 35) 3 = nI (b_no B) ∧
  (∀ d, d < b_nd B → ∀ j, j < b_nb B → F (b + 4 + d) j = b_dye B d j) ∧ (∀ g, g < b_ng B → ∀ j, j < b_nb B → F (b + 15 + g) j = b_grd B g j) ∧ (∀ l, l < b_nl B → ∀ j, j < b_nb B → F (b + 22 + l) j = b_lmp B l j) ∧ (∀ e, e < b_ne B → ∀ j, j < b_nb B → F (b + 31 + e) j = b_eye B e j) ∧
  (∀ g, g < b_no B → ∀ d, d < b_nd B → F (b + 38 + g) d = b_par B g d) ∧ (∀ d, d < b_nd B → F (b + 46) d = b_prc B d ∧ F (b + 47) d = b_fst B d) ∧ (∀ g, g < b_no B → F (b + 48) g = b_on B g) ∧
  (∀ l, l < b_nl B → ∀ e, e < b_ne B → ∀ j, j < b_nb B → F (b + 50 + (4 * l + e)) j = b_lmp B l j * b_eye B e j)
/-- the reference's bench -/
def RMb (B : Bd) (M : Nat → Nat → Int32) : Prop :=
  M 0 33 = nI (b_nb B) ∧ M 0 34 = nI (b_most B) ∧ M 0 35 = nI (b_alike B) ∧ M 0 36 = nI (b_slip B) ∧ M 0 42 = nI (b_over B) ∧
  M 4 0 = nI (b_nd B) ∧ M 4 1 = nI (b_ng B) ∧ M 4 2 = nI (b_nl B) ∧ M 4 3 = nI (b_ne B) ∧ M 4 4 = nI (b_no B) ∧
  (∀ d, d < b_nd B → ∀ j, j < b_nb B → M 13 (16 * d + j) = b_dye B d j) ∧ (∀ g, g < b_ng B → ∀ j, j < b_nb B → M 14 (16 * g + j) = b_grd B g j) ∧ (∀ l, l < b_nl B → ∀ j, j < b_nb B → M 15 (16 * l + j) = b_lmp B l j) ∧ (∀ e, e < b_ne B → ∀ j, j < b_nb B → M 16 (16 * e + j) = b_eye B e j) ∧
  (∀ d, d < b_nd B → M 17 d = b_prc B d ∧ M 18 d = b_fst B d) ∧ (∀ g, g < b_no B → M 19 g = b_on B g) ∧ (∀ g, g < b_no B → ∀ d, d < b_nd B → M 20 (8 * g + d) = b_par B g d)
/-- the class's references: which bench lies before it -/
def Gr (b : Nat) (FR : Nat → Nat → Nat) : Prop := (b = 3 ∨ b = 77) ∧ FR 0 2 = b ∧ FR 0 3 = 80 - b ∧ FR 243 0 = b
/-- how many things a shelf can hold -/
def Glim (F : Nat → Nat → Int32) : Prop := (F 4 0 = 8 ∧ F 15 0 = 4 ∧ F 22 0 = 6 ∧ F 31 0 = 4 ∧ F 38 0 = 8) ∧ (F 78 0 = 8 ∧ F 89 0 = 4 ∧ F 96 0 = 6 ∧ F 105 0 = 4 ∧ F 112 0 = 8)
/-- the tape, the fault -/
def Gt (F : Nat → Nat → Int32) (FL : Nat → Nat → Int64) (M : Nat → Nat → Int32) : Prop :=
  (∃ t : Nat, t ≤ 1700 ∧ F 1 1 = nI t ∧ M 0 1 = nI t ∧ ∀ i, i < t → ∃ v : Nat, v < 256 ∧ M 1 i = nI v ∧ F 2 i = (nI v).toInt8.toInt32) ∧ F 151 7 = M 0 2 ∧ F 151 8 = M 0 3 ∧ (∀ i, i < 14 → FL 153 i = pkS i)
/-- parts that may lie in a vat -/
def Vok (B : Bd) (f : Nat → Int32) (g : Int32) : Prop := (∃ p : Nat → Nat, (∀ d, d < 8 → f d = nI (p d)) ∧ (∀ d, b_nd B ≤ d → p d = 0) ∧ sumN p 8 ≤ b_most B) ∧ ∃ k : Nat, g = nI k ∧ (k < b_ng B ∨ k = 0)
def Gv (B : Bd) (F : Nat → Nat → Int32) (M : Nat → Nat → Int32) : Prop :=
  (∀ d, d < 8 → F 262 d = M 31 d) ∧ F 261 1 = M 0 65 ∧ F 261 2 = M 0 66 ∧ F 261 3 = M 0 67 ∧ Vok B (M 31) (M 0 65)
def Gbx (B : Bd) (F : Nat → Nat → Int32) (M : Nat → Nat → Int32) : Prop :=
  ∀ i, i < 3 → (M 42 i = 0 ∨ M 42 i = 1) ∧ F (264 + 2 * i) 4 = M 42 i ∧ (M 42 i = 1 → (∀ d, d < 8 → F (265 + 2 * i) d = M 43 (8 * i + d)) ∧ F (264 + 2 * i) 1 = M 44 i ∧ F (264 + 2 * i) 2 = M 45 i ∧ F (264 + 2 * i) 3 = M 46 i ∧ Vok B (fun d => M 43 (8 * i + d)) (M 44 i))
/-- looks, the time -/
def Gl (B : Bd) (F : Nat → Nat → Int32) (M : Nat → Nat → Int32) : Prop :=
  (∃ t : Nat, t ≤ 100000 ∧ F 0 12 = nI t ∧ M 0 78 = nI t) ∧ ∃ k : Nat, k ≤ 40 ∧ F 234 9 = nI k ∧ M 0 77 = nI k ∧ ∀ i, i < k → F 235 i = M 34 i ∧ F 236 i = M 35 i ∧ F 237 i = M 36 i ∧ F 238 i = M 37 i ∧ F 239 i = M 38 i ∧ F 240 i = M 39 i ∧ (∃ l, l < b_nl B ∧ M 34 i = nI l) ∧ (∃ e, e < b_ne B ∧ M 35 i = nI e) ∧ (M 39 i = -1 ∨ ∃ t : Nat, t ≤ 100000 ∧ M 39 i = nI t)
/-- what a mix throws back of a band: parts by dye number -/
def thrB (B : Bd) (g : Nat) (p : Nat → Nat) (j : Nat) : Nat → Int32
  | 0 => b_grd B g j * nI (b_most B)
  | d + 1 => thrB B g p j d + nI (p d) * (b_dye B d j - b_grd B g j)
def overN (x c : Int32) : Nat → Int32
  | 0 => x
  | k + 1 => overN x c k * c / 100
def thrO (B : Bd) (g : Nat) (p : Nat → Nat) (j : Nat) : Nat → Int32
  | 0 => b_grd B g j * 1000
  | d + 1 => overN (thrO B g p j d) (b_dye B d j) (p d)
def thr (B : Bd) (g : Nat) (p : Nat → Nat) (j : Nat) : Int32 := if b_over B = 0 then thrB B g p j (b_nd B) * 1000 / nI (b_most B) else thrO B g p j (b_nd B)
/-- the old mixes -/
def Go (B : Bd) (F : Nat → Nat → Int32) (M : Nat → Nat → Int32) : Prop :=
  ∃ o : Nat, o ≤ 72 ∧ b_no B ≤ o ∧ F 157 4 = nI o ∧ M 0 70 = nI o ∧ (∀ g, g < b_no B → M 32 g = nI g ∧ M 33 g = -1) ∧
  ∀ i, i < o → F 158 i = M 32 i ∧ F 159 i = M 33 i ∧ ∃ g k : Nat, ∃ p : Nat → Nat, g < b_no B ∧ k < b_ng B ∧ M 32 i = nI g ∧ b_on B g = nI k ∧ (M 33 i = -1 ∨ ∃ d, d < b_nd B ∧ M 33 i = nI d) ∧ (∀ d, d < b_nd B → nI (p d) = if M 33 i = nI d then 0 else b_par B g d) ∧ sumN p (b_nd B) ≤ b_most B ∧ ∀ j, j < b_nb B → F (161 + i) j = thr B k p j
/-- n over k -/
def chs : Nat → Nat → Nat
  | _, 0 => 1
  | 0, _ + 1 => 0
  | n + 1, k + 1 => chs n k + chs n (k + 1)
def mixN (d m : Nat) : Nat → Nat
  | 0 => 1
  | u + 1 => mixN d m u + chs d (u + 1) * chs m (u + 1)
/-- what is asked of -/
def Ga (B : Bd) (F : Nat → Nat → Int32) (M : Nat → Nat → Int32) : Prop :=
  (M 0 50 = 0 ∨ M 0 50 = 1) ∧ F 243 13 = M 0 50 ∧ (M 0 50 = 1 → ∃ g k m u : Nat, g < b_no B ∧ k < b_ng B ∧ m ≤ b_most B ∧ u ≤ 8 ∧ F 243 3 = nI g ∧ M 0 46 = nI g ∧ F 243 4 = nI k ∧ M 0 47 = nI k ∧ F 243 5 = nI m ∧ M 0 48 = nI m ∧ F 243 6 = nI u ∧ M 0 49 = nI u ∧ F 243 14 = nI (mixN (b_nd B) m u))
/-- the mix that lies -/
def Gn (F : Nat → Nat → Int32) (M : Nat → Nat → Int32) : Prop := (M 0 52 = 0 ∨ M 0 52 = 1) ∧ F 243 15 = M 0 52 ∧ (M 0 52 = 1 → ∀ d, d < 8 → F 260 d = M 24 d)
/-- eight parts in one number, five bits each -/
def pk5 (v : Nat → Nat) : Nat → Nat
  | 0 => 0
  | k + 1 => pk5 v k + v k * 32 ^ k
def Gs (B : Bd) (F : Nat → Nat → Int32) (FL : Nat → Nat → Int64) (M : Nat → Nat → Int32) : Prop :=
  ∃ k : Nat, k ≤ 5000 ∧ F 243 17 = nI k ∧ M 0 58 = nI k ∧ ∀ i, i < k → ∃ (r : Nat) (v : Nat → Nat), r < 5000 ∧ M 27 i = nI r ∧ (∀ d, d < 8 → v d < 32 ∧ M 26 (8 * r + d) = nI (v d)) ∧ FL 257 i = lN (pk5 v 8)
/-- the weights -/
def Gw (F : Nat → Nat → Int32) (M : Nat → Nat → Int32) : Prop := (M 0 63 = 0 ∨ M 0 63 = 1) ∧ F 0 11 = M 0 63 ∧ (M 0 63 = 1 → ∀ l, l < 6 → F 271 l = M 29 l)
def RelB (B : Bd) (b : Nat) (Sx Sm : St) : Prop :=
  Bok B ∧ Gr b Sx.2.2 ∧ RXb B Sx.1 b ∧ Glim Sx.1 ∧ RMb B Sm.1 ∧ Gt Sx.1 Sx.2.1 Sm.1 ∧ Gv B Sx.1 Sm.1 ∧ Gbx B Sx.1 Sm.1 ∧ Gl B Sx.1 Sm.1 ∧ Go B Sx.1 Sm.1 ∧ Ga B Sx.1 Sm.1 ∧ Gn Sx.1 Sm.1 ∧ Gs B Sx.1 Sx.2.1 Sm.1 ∧ Gw Sx.1 Sm.1
def Rel (Sx Sm : St) : Prop := ∃ (B : Bd) (b : Nat), RelB B b Sx Sm
/-- the class's bench stays when its 74 cells do -/
theorem RXb_frame {B : Bd} {F F' : Nat → Nat → Int32} {b : Nat} (h : RXb B F b) (hf : ∀ a, b ≤ a → a < b + 74 → F' a = F a) (hB : Bok B) : RXb B F' b := by
  obtain ⟨h1, h2, h3, h4, h5, h6, h7, h8, h9, h10, h11, h12, h13, h14, h15, h16, h17, h18⟩ := h
  obtain ⟨-, -, -, -, -, n1, n2, n3, n4, n5, -⟩ := hB
  refine ⟨?_, ?_, ?_, ?_, ?_, ?_, ?_, ?_, ?_, ?_, ?_, ?_, ?_, ?_, ?_, ?_, ?_, ?_⟩
  · rw [hf b (by omega) (by omega)]; exact h1
  · rw [hf b (by omega) (by omega)]; exact h2
  · rw [hf b (by omega) (by omega)]; exact h3
  · rw [hf b (by omega) (by omega)]; exact h4
  · rw [hf b (by omega) (by omega)]; exact h5
  · rw [hf _ (by omega) (by omega)]; exact h6
  · rw [hf _ (by omega) (by omega)]; exact h7
  · rw [hf _ (by omega) (by omega)]; exact h8
  · rw [hf _ (by omega) (by omega)]; exact h9
  · rw [hf _ (by omega) (by omega)]; exact h10
  · intro d hd j hj; rw [hf _ (by omega) (by omega)]; exact h11 d hd j hj
  · intro d hd j hj; rw [hf _ (by omega) (by omega)]; exact h12 d hd j hj
  · intro d hd j hj; rw [hf _ (by omega) (by omega)]; exact h13 d hd j hj
  · intro d hd j hj; rw [hf _ (by omega) (by omega)]; exact h14 d hd j hj
  · intro d hd j hj; rw [hf _ (by omega) (by omega)]; exact h15 d hd j hj
  · intro d hd; rw [hf _ (by omega) (by omega), hf _ (by omega) (by omega)]; exact h16 d hd
  · intro d hd; rw [hf _ (by omega) (by omega)]; exact h17 d hd
  · intro l hl e he j hj; rw [hf _ (by omega) (by omega)]; exact h18 l hl e he j hj
-- the steps of a decompiled method, forwards
theorem gd_pos {ρ : Type} {P : Prop} [Decidable P] {k : Option ρ} (h : P) : gd P k = k := if_pos h
theorem bn_go {α ρ : Type} {x : α} {k : α → Option ρ} : bn x k = k x := rfl
theorem bd_go {α ρ : Type} {S : St} {a : α} {k : St → α → Option ρ} : bd (some (S, a)) k = k S a := rfl
theorem bd_to {α ρ : Type} {x : Option (St × α)} {S : St} {a : α} {k : St → α → Option ρ} (h : x = some (S, a)) : bd x k = k S a := by rw [h]; rfl
theorem bq_go0 {ρ : Type} {x : Option (St × Option Nat)} {S : St} {k0 : St → Option ρ} {k : St → Nat → Option ρ} (h : x = some (S, none)) : bq x k0 k = k0 S := by rw [h]; rfl
theorem bq_go1 {ρ : Type} {x : Option (St × Option Nat)} {S : St} {a : Nat} {k0 : St → Option ρ} {k : St → Nat → Option ρ} (h : x = some (S, some a)) : bq x k0 k = k S a := by rw [h]; rfl
theorem ib_nI {a n : Nat} (h : a < n) (hn : n < 2 ^ 31) : ib (nI a) n := vp_in_nI h hn
theorem cl_nI {a : Nat} (h : a < 2 ^ 31) : Int32.toNatClampNeg (nI a) = a := nI_clamp h
theorem lit_nI (k : Nat) : (Int32.ofNat k) = nI k := rfl
theorem m1_lt {x : Int32} (h : x = -1) : x < 0 := by subst h; decide
