def sSum (f : Nat → Int64) : Nat → Int64
  | 0 => 0
  | j + 1 => sSum f j + f j
def ltE (B : Bd) (l e j : Nat) : Int32 := b_lmp B l j * b_eye B e j
def seV (B : Bd) (r : Nat → Int32) (l e : Nat) : Int64 := sSum (fun j => (r j).toInt64 * (ltE B l e j).toInt64) (b_nb B)
def dfV (B : Bd) (ra rb : Nat → Int32) (l e : Nat) : Int64 := sSum (fun j => (ra j - rb j).toInt64 * (ltE B l e j).toInt64) (b_nb B)
def abL (x : Int64) : Int64 := if 0 < x then x else -x
def mxL (x y : Int64) : Int64 := if y < x then x else y
def apS (B : Bd) (ra rb : Nat → Int32) (l u : Nat) : Nat → Int64
  | 0 => 0
  | e + 1 => if e = u then apS B ra rb l u e else mxL (apS B ra rb l u e) (abL (dfV B ra rb l e))
def unE (odd : Int32) : Nat := if odd = 0 then 3 else 2
def apV (B : Bd) (ra rb : Nat → Int32) (l : Nat) (odd : Int32) : Int64 := apS B ra rb l (unE odd) (b_ne B)
def faS (B : Bd) (ra rb : Nat → Int32) (odd : Int32) : Nat → Int64
  | 0 => 0
  | l + 1 => mxL (faS B ra rb odd l) (apV B ra rb l odd)
def alV (B : Bd) (ra rb : Nat → Int32) (l : Nat) (odd : Int32) : Int32 := if 0 < lg_cmp (apV B ra rb l odd) ((nI (b_alike B)).toInt64 * 1000) then 0 else 1
/-- a row of bands -/
def iRow (a : Nat) : Prop := isK sdX a 13 ∧ lnX a = 16
theorem ix4 {l e : Nat} : nI l * (4 : Int32) + nI e = nI (4 * l + e) := by
  rw [show (4 : Int32) = nI 4 from rfl, pk_mul, nI_add, Nat.mul_comm]
theorem seen_loop {n b a : Nat} {B : Bd} {S : St} {l e : Nat} (hb : b = 3 ∨ b = 77) (hB : Bok B) (hX : RXb B S.1 b) (ha : iRow a) (hl : l < b_nl B) (he : e < b_ne B) : ∀ (m k j : Nat), k + m = b_nb B → m < j → fX0_seenOf_l18 sdX n j S b a (b + 50 + (4 * l + e)) (sSum (fun j => (S.1 a j).toInt64 * (ltE B l e j).toInt64) k) (nI k) = some (S, seV B (S.1 a) l e) := by
  obtain ⟨k1, -⟩ := bk hb
  obtain ⟨-, -, -, -, -, -, -, -, s4⟩ := bk3 hb
  obtain ⟨a1, a2⟩ := ha
  have h16 : b_nb B ≤ 16 := hB.1.2
  have hl6 : b_nl B ≤ 6 := hB.2.2.2.2.2.2.2.1
  have he4 : b_ne B ≤ 4 := hB.2.2.2.2.2.2.2.2.1
  obtain ⟨-, u2, u3⟩ := s4 (4 * l + e) (by omega)
  intro m
  induction m with
  | zero =>
    intro k j h hj
    obtain ⟨j, rfl⟩ := suc_of hj
    rw [fX0_seenOf_l18, gd_pos k1, hX.1, if_pos (nI_le (by omega) (by omega)), show k = b_nb B by omega]
    rfl
  | succ m ih =>
    intro k j h hj
    obtain ⟨j, rfl⟩ := suc_of hj
    have e16 : ib (nI k) 16 := ib_nI (by omega) (by decide)
    rw [fX0_seenOf_l18, gd_pos k1, hX.1, if_neg (nI_ge (by omega) (by omega))]
    simp only [sd_sr, sd_ln, a2, u3, gd_pos a1, gd_pos u2, gd_pos e16, bn_go, nI_1, cl_nI (show k < 2 ^ 31 by omega)]
    rw [hX.2.2.2.2.2.2.2.2.2.2.2.2.2.2.2.2.2 l hl e he k (by omega)]
    exact ih (k + 1) j (by omega) (by omega)
theorem seenOf_spec {n b a : Nat} {B : Bd} {S : St} {l e : Nat} (hn : 200000 ≤ n) (hb : b = 3 ∨ b = 77) (hB : Bok B) (hX : RXb B S.1 b) (ha : iRow a) (hl : l < b_nl B) (he : e < b_ne B) : fX0_seenOf sdX n S b a (nI l) (nI e) = some (S, seV B (S.1 a) l e) := by
  obtain ⟨k1, -⟩ := bk hb
  obtain ⟨-, -, -, -, -, s1, s2, s3, s4⟩ := bk3 hb
  have h16 : b_nb B ≤ 16 := hB.1.2
  have hl6 : b_nl B ≤ 6 := hB.2.2.2.2.2.2.2.1
  have he4 : b_ne B ≤ 4 := hB.2.2.2.2.2.2.2.2.1
  obtain ⟨u1, u2, u3⟩ := s4 (4 * l + e) (by omega)
  have e24 : ib (nI (4 * l + e)) 24 := ib_nI (by omega) (by decide)
  unfold fX0_seenOf
  simp only [sd_sr, sd_ln, s1, s3, ix4, gd_pos k1, gd_pos s2, gd_pos e24, cl_nI (show 4 * l + e < 2 ^ 31 by omega), u1, gd_pos u2, bn_go]
  exact seen_loop hb hB hX ha hl he (b_nb B) 0 n (by omega) (by omega)
theorem apart_in {n b a c : Nat} {B : Bd} {S : St} {l e : Nat} {x3 x5 : Int32} {x6 : Int64} {x8 : Int32} (k18 : St → Nat → Nat → Nat → Int32 → Int32 → Int64 → Int32 → Option (St × Int64)) (hb : b = 3 ∨ b = 77) (hB : Bok B) (hX : RXb B S.1 b) (ha : iRow a) (hc : iRow c) (hl : l < b_nl B) (he : e < b_ne B) : ∀ (m k j : Nat), k + m = b_nb B → m < j → fX0_apartOf_l56 sdX n k18 j S b a c x3 x5 x6 x8 (b + 50 + (4 * l + e)) (sSum (fun j => (S.1 a j - S.1 c j).toInt64 * (ltE B l e j).toInt64) k) (nI k) = k18 S b a c x3 x5 (mxL x6 (abL (dfV B (S.1 a) (S.1 c) l e))) (x8 + 1) := by
  obtain ⟨k1, -⟩ := bk hb
  obtain ⟨-, -, -, -, -, -, -, -, s4⟩ := bk3 hb
  obtain ⟨a1, a2⟩ := ha
  obtain ⟨c1, c2⟩ := hc
  have h16 : b_nb B ≤ 16 := hB.1.2
  have hl6 : b_nl B ≤ 6 := hB.2.2.2.2.2.2.2.1
  have he4 : b_ne B ≤ 4 := hB.2.2.2.2.2.2.2.2.1
  obtain ⟨-, u2, u3⟩ := s4 (4 * l + e) (by omega)
  intro m
  induction m with
  | zero =>
    intro k j h hj
    obtain ⟨j, rfl⟩ := suc_of hj
    rw [fX0_apartOf_l56, gd_pos k1, hX.1, if_pos (nI_le (by omega) (by omega)), show k = b_nb B by omega]
    unfold fX0_apartOf_j93 fX0_apartOf_j105
    rw [bn_go, bn_go]
    rfl
  | succ m ih =>
    intro k j h hj
    obtain ⟨j, rfl⟩ := suc_of hj
    have e16 : ib (nI k) 16 := ib_nI (by omega) (by decide)
    rw [fX0_apartOf_l56, gd_pos k1, hX.1, if_neg (nI_ge (by omega) (by omega))]
    simp only [sd_sr, sd_ln, a2, c2, u3, gd_pos a1, gd_pos c1, gd_pos u2, gd_pos e16, bn_go, nI_1, cl_nI (show k < 2 ^ 31 by omega)]
    rw [hX.2.2.2.2.2.2.2.2.2.2.2.2.2.2.2.2.2 l hl e he k (by omega)]
    exact ih (k + 1) j (by omega) (by omega)
theorem apart_loop {n b a c : Nat} {B : Bd} {S : St} {l u : Nat} (hn : 200000 ≤ n) (hu : u < 4) (hb : b = 3 ∨ b = 77) (hB : Bok B) (hX : RXb B S.1 b) (ha : iRow a) (hc : iRow c) (hl : l < b_nl B) : ∀ (m e j : Nat), e + m = b_ne B → m < j → fX0_apartOf_l18 sdX n j S b a c (nI l) (nI u) (apS B (S.1 a) (S.1 c) l u e) (nI e) = some (S, apS B (S.1 a) (S.1 c) l u (b_ne B)) := by
  obtain ⟨k1, ⟨-, -, -, k2, -⟩, -, -, -, k3, -⟩ := bk hb
  obtain ⟨-, -, -, -, -, s1, s2, s3, s4⟩ := bk3 hb
  have h16 : b_nb B ≤ 16 := hB.1.2
  have hl6 : b_nl B ≤ 6 := hB.2.2.2.2.2.2.2.1
  have he4 : b_ne B ≤ 4 := hB.2.2.2.2.2.2.2.2.1
  intro m
  induction m with
  | zero =>
    intro e j h hj
    obtain ⟨j, rfl⟩ := suc_of hj
    rw [fX0_apartOf_l18, gd_pos k1]
    simp only [sd_sr, k2, gd_pos k3]
    rw [hX.2.2.2.2.2.2.2.2.1, if_pos (nI_le (by omega) (by omega)), show e = b_ne B by omega]
  | succ m ih =>
    intro e j h hj
    obtain ⟨j, rfl⟩ := suc_of hj
    obtain ⟨u1, u2, u3⟩ := s4 (4 * l + e) (by omega)
    have e24 : ib (nI (4 * l + e)) 24 := ib_nI (by omega) (by decide)
    rw [fX0_apartOf_l18, gd_pos k1]
    simp only [sd_sr, sd_ln, k2, gd_pos k3]
    rw [hX.2.2.2.2.2.2.2.2.1, if_neg (nI_ge (by omega) (by omega))]
    have := ih (e + 1) j (by omega) (by omega)
    rw [apS] at this
    by_cases q : e = u
    · rw [if_pos q] at this
      rw [if_pos (by rw [q])]
      unfold fX0_apartOf_j105
      rw [bn_go, nI_1]
      exact this
    · rw [if_neg q] at this
      rw [if_neg (fun z => q ((nI_eq (by omega) (by omega)).mp z))]
      simp only [s1, s3, ix4, gd_pos s2, gd_pos e24, cl_nI (show 4 * l + e < 2 ^ 31 by omega), u1, gd_pos u2, bn_go]
      rw [← this, ← nI_1]
      exact apart_in (fX0_apartOf_l18 sdX n j) hb hB hX ha hc hl (by omega) (b_nb B) 0 n (by omega) (by omega)
theorem apartOf_spec {n b a c : Nat} {B : Bd} {S : St} {l : Nat} {odd : Int32} (hn : 200000 ≤ n) (hb : b = 3 ∨ b = 77) (hB : Bok B) (hX : RXb B S.1 b) (ha : iRow a) (hc : iRow c) (hl : l < b_nl B) : fX0_apartOf sdX n S b a c (nI l) odd = some (S, apV B (S.1 a) (S.1 c) l odd) := by
  have he4 : b_ne B ≤ 4 := hB.2.2.2.2.2.2.2.2.1
  unfold fX0_apartOf fX0_apartOf_j10 apV unE
  by_cases q : odd = 0
  · rw [if_pos q, if_pos q]
    exact apart_loop (u := 3) hn (by decide) hb hB hX ha hc hl (b_ne B) 0 n (by omega) (by omega)
  · rw [if_neg q, if_neg q]
    exact apart_loop (u := 2) hn (by decide) hb hB hX ha hc hl (b_ne B) 0 n (by omega) (by omega)
theorem areAlike_spec {n b a c : Nat} {B : Bd} {S : St} {l : Nat} {odd : Int32} (hn : 200000 ≤ n) (hb : b = 3 ∨ b = 77) (hB : Bok B) (hX : RXb B S.1 b) (ha : iRow a) (hc : iRow c) (hl : l < b_nl B) : fX0_areAlike sdX n S b a c (nI l) odd = some (S, alV B (S.1 a) (S.1 c) l odd) := by
  obtain ⟨k1, -⟩ := bk hb
  unfold fX0_areAlike alV
  rw [gd_pos k1, apartOf_spec hn hb hB hX ha hc hl, bd_go, hX.2.2.1]
  split <;> rfl
theorem far_loop {n b a c : Nat} {B : Bd} {S : St} {odd : Int32} (hn : 200000 ≤ n) (hb : b = 3 ∨ b = 77) (hB : Bok B) (hX : RXb B S.1 b) (ha : iRow a) (hc : iRow c) : ∀ (m l j : Nat), l + m = b_nl B → m < j → fX0_farthestOf_l6 sdX n j S b a c odd (faS B (S.1 a) (S.1 c) odd l) (nI l) = some (S, faS B (S.1 a) (S.1 c) odd (b_nl B)) := by
  obtain ⟨k1, ⟨-, -, k2, -⟩, -, -, k3, -⟩ := bk hb
  have hl6 : b_nl B ≤ 6 := hB.2.2.2.2.2.2.2.1
  intro m
  induction m with
  | zero =>
    intro l j h hj
    obtain ⟨j, rfl⟩ := suc_of hj
    rw [fX0_farthestOf_l6, gd_pos k1]
    simp only [sd_sr, k2, gd_pos k3]
    rw [hX.2.2.2.2.2.2.2.1, if_pos (nI_le (by omega) (by omega)), show l = b_nl B by omega]
  | succ m ih =>
    intro l j h hj
    obtain ⟨j, rfl⟩ := suc_of hj
    rw [fX0_farthestOf_l6, gd_pos k1]
    simp only [sd_sr, k2, gd_pos k3]
    rw [hX.2.2.2.2.2.2.2.1, if_neg (nI_ge (by omega) (by omega)), apartOf_spec hn hb hB hX ha hc (by omega), bd_go, bn_go, bn_go, nI_1]
    exact ih (l + 1) j (by omega) (by omega)
theorem farthestOf_spec {n b a c : Nat} {B : Bd} {S : St} {odd : Int32} (hn : 200000 ≤ n) (hb : b = 3 ∨ b = 77) (hB : Bok B) (hX : RXb B S.1 b) (ha : iRow a) (hc : iRow c) : fX0_farthestOf sdX n S b a c odd = some (S, faS B (S.1 a) (S.1 c) odd (b_nl B)) := by
  have hl6 : b_nl B ≤ 6 := hB.2.2.2.2.2.2.2.1
  exact far_loop hn hb hB hX ha hc (b_nl B) 0 n (by omega) (by omega)
theorem price_loop {n b q : Nat} {B : Bd} {S : St} (hb : b = 3 ∨ b = 77) (hB : Bok B) (hX : RXb B S.1 b) (hq : isK sdX q 13 ∧ lnX q = 8) : ∀ (m d j : Nat), d + m = b_nd B → m < j → fX0_priceOf_l4 sdX n j S b q (sumI (fun i => S.1 q i * b_prc B i) d) (nI d) = some (S, sumI (fun i => S.1 q i * b_prc B i) (b_nd B)) := by
  obtain ⟨k1, ⟨k2, -⟩, k3, -⟩ := bk hb
  obtain ⟨⟨s5, -⟩, ⟨t5, -⟩, l5, -⟩ := bk2 hb
  obtain ⟨q1, q2⟩ := hq
  have h8 : b_nd B ≤ 8 := hB.2.2.2.2.2.1
  intro m
  induction m with
  | zero =>
    intro d j h hj
    obtain ⟨j, rfl⟩ := suc_of hj
    rw [fX0_priceOf_l4, gd_pos k1]
    simp only [sd_sr, k2, gd_pos k3]
    rw [hX.2.2.2.2.2.1, if_pos (nI_le (by omega) (by omega)), show d = b_nd B by omega]
  | succ m ih =>
    intro d j h hj
    obtain ⟨j, rfl⟩ := suc_of hj
    have e8 : ib (nI d) 8 := ib_nI (by omega) (by decide)
    rw [fX0_priceOf_l4, gd_pos k1]
    simp only [sd_sr, sd_ln, k2, gd_pos k3]
    rw [hX.2.2.2.2.2.1, if_neg (nI_ge (by omega) (by omega))]
    simp only [q2, s5, show lnX (b + 46) = 8 from l5, gd_pos q1, gd_pos t5, gd_pos e8, bn_go, nI_1, cl_nI (show d < 2 ^ 31 by omega)]
    rw [(hX.2.2.2.2.2.2.2.2.2.2.2.2.2.2.2.1 d (by omega)).1]
    exact ih (d + 1) j (by omega) (by omega)
theorem priceOf_spec {n b q : Nat} {B : Bd} {S : St} (hn : 200000 ≤ n) (hb : b = 3 ∨ b = 77) (hB : Bok B) (hX : RXb B S.1 b) (hq : isK sdX q 13 ∧ lnX q = 8) : fX0_priceOf sdX n S b q = some (S, sumI (fun i => S.1 q i * b_prc B i) (b_nd B)) := by
  have h8 : b_nd B ≤ 8 := hB.2.2.2.2.2.1
  exact price_loop hb hB hX hq (b_nd B) 0 n (by omega) (by omega)
