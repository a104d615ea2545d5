/-! lines that tell a number, over; any line; the whole text -/
def kdH (h : Nat) : Nat := if h = 0 then 5 else if h = 1 then 11 else if h = 2 then 12 else if h = 3 then 13 else 14
def tld (H : Nat → Nat) : Int32 := nI (32 * H 0 + 2048 * H 1 + 4096 * H 2 + 8192 * H 3 + 16384 * H 4)
def set1 (H : Nat → Nat) (h v : Nat) : Nat → Nat := fun k => if k = h then v else H k
def five (a b c d e k : Nat) : Nat := if k = 0 then a else if k = 1 then b else if k = 2 then c else if k = 3 then d else e
def bts (v : Nat) : Nat → Nat := five (v % 2) (v / 2 % 2) (v / 4 % 2) (v / 8 % 2) (v / 16 % 2)
theorem once_all : ∀ v, v < 32 → ∀ h, h < 5 → ((tld (bts v) &&& ((1 : Int32) <<< (nI (kdH h) &&& 31))) = 0 ↔ bts v h = 0) ∧ (bts v h = 0 → (tld (bts v) ||| ((1 : Int32) <<< (nI (kdH h) &&& 31))) = tld (set1 (bts v) h 1)) := by decide +kernel
theorem tld_congr {H G : Nat → Nat} (h : ∀ k, k < 5 → H k = G k) : tld H = tld G := by
  unfold tld
  rw [h 0 (by decide), h 1 (by decide), h 2 (by decide), h 3 (by decide), h 4 (by decide)]
theorem five_H (H : Nat → Nat) : ∀ k, k < 5 → five (H 0) (H 1) (H 2) (H 3) (H 4) k = H k := fun k hk => by
  rcases (show k = 0 ∨ k = 1 ∨ k = 2 ∨ k = 3 ∨ k = 4 by omega) with rfl | rfl | rfl | rfl | rfl <;> rfl
theorem once_H {H : Nat → Nat} (hH : ∀ k, k < 5 → H k ≤ 1) {h : Nat} (hh : h < 5) : (tld H &&& ((1 : Int32) <<< (nI (kdH h) &&& 31)) = 0 ↔ H h = 0) ∧ (H h = 0 → tld H ||| ((1 : Int32) <<< (nI (kdH h) &&& 31)) = tld (set1 H h 1)) := by
  have h0 := hH 0 (by decide)
  have h1 := hH 1 (by decide)
  have h2 := hH 2 (by decide)
  have h3 := hH 3 (by decide)
  have h4 := hH 4 (by decide)
  have e := once_all (H 0 + 2 * H 1 + 4 * H 2 + 8 * H 3 + 16 * H 4) (by omega) h hh
  have eb : bts (H 0 + 2 * H 1 + 4 * H 2 + 8 * H 3 + 16 * H 4) = five (H 0) (H 1) (H 2) (H 3) (H 4) := by
    unfold bts
    congr 1 <;> omega
  rw [eb, tld_congr (five_H H), five_H H h hh] at e
  refine ⟨e.1, fun z => (e.2 z).trans (tld_congr fun k hk => ?_)⟩
  unfold set1
  split
  · rfl
  · exact five_H H k hk
section
variable {s : Nat} {N H : Nat → Nat} {X M : St}
/-- such a line has been told -/
theorem PB_tell (hP : PB s N H X M) (hs : s = 3 ∨ s = 77) {h : Nat} (hh : h < 5) (h3 : h ≠ 3) : PB s N (set1 H h 1) (sI X 151 5 (tld (set1 H h 1))) (sI M 0 (37 + h) 1) := by
  obtain ⟨⟨a1, a2, a3, a4, a5⟩, ⟨b1, b2, b3, b4⟩, hb, p3, p4, p5, p6, p7, p8, p9, p10⟩ := hP
  have hs' : s + 50 < 151 := by rcases hs with z | z <;> omega
  have xs : ∀ a, a ≠ 151 → (sI X 151 5 (tld (set1 H h 1))).1 a = X.1 a := fun a q => sI_ne q
  have m0 : ∀ k, k ≠ 37 + h → (sI M 0 (37 + h) 1).1 0 k = M.1 0 k := fun k q => by rw [sI_row, upd_ne q]
  have m1 : ∀ a, a ≠ 0 → (sI M 0 (37 + h) 1).1 a = M.1 a := fun a q => sI_ne q
  refine ⟨?_, ?_, hb, fun q hq => ?_, fun q hq d hd j hj => ?_, fun d hd => ?_, fun g hg => ?_, p7, ?_, fun k hk => ?_, ?_⟩
  · rw [xs s (by omega)]; exact ⟨a1, a2, a3, a4, a5⟩
  · rw [m0 29 (by omega), m0 30 (by omega), m0 31 (by omega), m0 32 (by omega)]; exact ⟨b1, b2, b3, b4⟩
  · have := sh_b hq
    rw [xs _ (by omega), m1 3 (by decide)]; exact p3 q hq
  · have := sh_b (show q < 5 by omega)
    have := (p3 q (by omega)).2.2.2
    rw [xs _ (by omega), m1 _ (by omega)]; exact p4 q hq d hd j hj
  · rw [xs _ (by omega), xs _ (by omega), m1 9 (by decide), m1 10 (by decide)]; exact p5 d hd
  · have e8 : lmA 4 = 8 := rfl
    have := (p3 4 (by decide)).2.2.2
    have hg' : g < N (5 + 4) := hg
    rw [xs _ (by omega), xs _ (by omega), m1 11 (by decide), m1 12 (by decide)]; exact p6 g hg
  · rw [sI_row, upd_eq]; rfl
  · unfold set1
    by_cases e : k = h
    · rw [if_pos e, e, sI_row, upd_eq]; exact ⟨Nat.le_refl _, rfl⟩
    · rw [if_neg e, m0 _ (by omega)]; exact p9 k hk
  · unfold set1
    rw [if_neg (fun e => h3 e.symm)]; exact p10
/-- over has been told -/
theorem PB_over (hP : PB s N H X M) (hs : s = 3 ∨ s = 77) : PB s (set1 N 4 1) (set1 H 3 1) (sI (sI X 151 5 (tld (set1 H 3 1))) s 13 1) (sI M 0 40 1) := by
  obtain ⟨⟨a1, a2, a3, a4, a5⟩, ⟨b1, b2, b3, b4⟩, hb, p3, p4, p5, p6, p7, p8, p9, p10⟩ := hP
  have hs' : s + 50 < 151 := by rcases hs with z | z <;> omega
  have u : ∀ k, k ≠ 4 → set1 N 4 1 k = N k := fun k q => if_neg q
  have xs : ∀ a, a ≠ 151 → a ≠ s → (sI (sI X 151 5 (tld (set1 H 3 1))) s 13 1).1 a = X.1 a := fun a q r => by rw [sI_ne r, sI_ne q]
  have xs' : ∀ k, k ≠ 13 → (sI (sI X 151 5 (tld (set1 H 3 1))) s 13 1).1 s k = X.1 s k := fun k q => by rw [sI_row, upd_ne q, sI_ne (by omega)]
  have m0 : ∀ k, k ≠ 40 → (sI M 0 40 1).1 0 k = M.1 0 k := fun k q => by rw [sI_row, upd_ne q]
  have m1 : ∀ a, a ≠ 0 → (sI M 0 40 1).1 a = M.1 a := fun a q => sI_ne q
  refine ⟨?_, ?_, ?_, fun q hq => ?_, fun q hq d hd j hj => ?_, fun d hd => ?_, fun g hg => ?_, fun q hq => ?_, ?_, fun k hk => ?_, rfl⟩
  · rw [xs' 9 (by decide), xs' 10 (by decide), xs' 11 (by decide), xs' 12 (by decide), u 0 (by decide), u 1 (by decide), u 2 (by decide), u 3 (by decide), sI_row, upd_eq]; exact ⟨a1, a2, a3, a4, rfl⟩
  · rw [m0 29 (by omega), m0 30 (by omega), m0 31 (by omega), m0 32 (by omega), u 0 (by decide), u 1 (by decide), u 2 (by decide), u 3 (by decide)]; exact ⟨b1, b2, b3, b4⟩
  · rw [u 0 (by decide), u 1 (by decide), u 2 (by decide), u 3 (by decide)]; exact ⟨hb.1, hb.2.1, hb.2.2.1, hb.2.2.2.1, Nat.le_refl _⟩
  · have := sh_b hq
    rw [xs _ (by omega) (by omega), m1 3 (by decide), u _ (by omega)]; exact p3 q hq
  · have := sh_b (show q < 5 by omega)
    have := (p3 q (by omega)).2.2.2
    rw [u _ (by omega)] at hd
    rw [u 0 (by decide)] at hj
    rw [xs _ (by omega) (by omega), m1 _ (by omega)]; exact p4 q hq d hd j hj
  · rw [u 5 (by decide)] at hd
    rw [xs _ (by omega) (by omega), xs _ (by omega) (by omega), m1 9 (by decide), m1 10 (by decide)]; exact p5 d hd
  · have e8 : lmA 4 = 8 := rfl
    have := (p3 4 (by decide)).2.2.2
    rw [u 9 (by decide)] at hg
    have hg' : g < N (5 + 4) := hg
    rw [xs _ (by omega) (by omega), xs _ (by omega) (by omega), m1 11 (by decide), m1 12 (by decide), u 6 (by decide), u 5 (by decide), u 1 (by decide)]; exact p6 g hg
  · rw [u _ (by omega)]; exact p7 q hq
  · rw [sI_ne (by omega), sI_row, upd_eq]; rfl
  · unfold set1
    by_cases e : k = 3
    · rw [if_pos e, e, sI_row, upd_eq]; exact ⟨Nat.le_refl _, rfl⟩
    · rw [if_neg e, m0 _ (by omega)]; exact p9 k hk
/-- the number of such a line -/
theorem PB_num (hP : PB s N H X M) (hs : s = 3 ∨ s = 77) {f v : Nat} (hf : f < 4) (h0 : f = 0 → (1 ≤ v ∧ v ≤ 16) ∧ N 5 = 0 ∧ N 6 = 0 ∧ N 7 = 0 ∧ N 8 = 0) (h1 : f = 1 → (1 ≤ v ∧ v ≤ 24) ∧ N 9 = 0) (h2 : f = 2 → v ≤ 9999) (h3 : f = 3 → v ≤ 9) : PB s (set1 N f v) H (sI X s (9 + f) (nI v)) (sI M 0 (29 + f) (nI v)) := by
  obtain ⟨⟨a1, a2, a3, a4, a5⟩, ⟨b1, b2, b3, b4⟩, ⟨hb0, hb1, hb2, hb3, hb4⟩, p3, p4, p5, p6, p7, p8, p9, p10⟩ := hP
  have hs' : s + 50 < 151 := by rcases hs with z | z <;> omega
  have u : ∀ k, 4 ≤ k → set1 N f v k = N k := fun k q => if_neg (by omega)
  have xs : ∀ a, a ≠ s → (sI X s (9 + f) (nI v)).1 a = X.1 a := fun a q => sI_ne q
  have m1 : ∀ a, a ≠ 0 → (sI M 0 (29 + f) (nI v)).1 a = M.1 a := fun a q => sI_ne q
  have xf : ∀ k, k < 4 → X.1 s (9 + k) = nI (N k) → (sI X s (9 + f) (nI v)).1 s (9 + k) = nI (set1 N f v k) := fun k hk e => by
    unfold set1
    rw [sI_row]
    by_cases z : k = f
    · rw [z, upd_eq, if_pos rfl]
    · rw [upd_ne (by omega), if_neg z]; exact e
  have mf : ∀ k, k < 4 → M.1 0 (29 + k) = nI (N k) → (sI M 0 (29 + f) (nI v)).1 0 (29 + k) = nI (set1 N f v k) := fun k hk e => by
    unfold set1
    rw [sI_row]
    by_cases z : k = f
    · rw [z, upd_eq, if_pos rfl]
    · rw [upd_ne (by omega), if_neg z]; exact e
  refine ⟨⟨xf 0 (by decide) a1, xf 1 (by decide) a2, xf 2 (by decide) a3, xf 3 (by decide) a4, ?_⟩, ⟨mf 0 (by decide) b1, mf 1 (by decide) b2, mf 2 (by decide) b3, mf 3 (by decide) b4⟩, ⟨?_, ?_, ?_, ?_, ?_⟩, fun q hq => ?_, fun q hq d hd j hj => ?_, fun d hd => ?_, fun g hg => ?_, fun q hq => ?_, ?_, fun k hk => ?_, ?_⟩
  · rw [sI_row, upd_ne (by omega), u 4 (by decide)]; exact a5
  · unfold set1; split
    · rename_i z; exact (h0 z.symm).1
    · exact hb0
  · unfold set1; split
    · rename_i z; exact (h1 z.symm).1
    · exact hb1
  · unfold set1; split
    · rename_i z; exact h2 z.symm
    · exact hb2
  · unfold set1; split
    · rename_i z; exact h3 z.symm
    · exact hb3
  · rw [u 4 (by decide)]; exact hb4
  · have := sh_b hq
    rw [xs _ (by omega), m1 3 (by decide), u _ (by omega)]; exact p3 q hq
  · rw [u _ (by omega)] at hd
    have := sh_b (show q < 5 by omega)
    rw [xs _ (by omega), m1 _ (by omega)]
    refine p4 q hq d hd j ?_
    unfold set1 at hj
    by_cases z : f = 0
    · obtain ⟨-, z5, z6, z7, z8⟩ := h0 z
      rcases (show q = 0 ∨ q = 1 ∨ q = 2 ∨ q = 3 by omega) with rfl | rfl | rfl | rfl
      · have hd : d < N 5 := hd
        omega
      · have hd : d < N 6 := hd
        omega
      · have hd : d < N 7 := hd
        omega
      · have hd : d < N 8 := hd
        omega
    · rw [if_neg (fun e => z e.symm)] at hj; exact hj
  · rw [u 5 (by decide)] at hd
    rw [xs _ (by omega), xs _ (by omega), m1 9 (by decide), m1 10 (by decide)]; exact p5 d hd
  · rw [u 9 (by decide)] at hg
    rw [xs _ (by omega), xs _ (by omega), m1 11 (by decide), m1 12 (by decide), u 6 (by decide), u 5 (by decide)]
    have e1 : set1 N f v 1 = N 1 := by
      unfold set1
      refine if_neg (fun z => ?_)
      have := (h1 z.symm).2
      omega
    rw [e1]
    exact p6 g hg
  · rw [u _ (by omega)]; exact p7 q hq
  · rw [xs _ (by omega)]; exact p8
  · rw [sI_row, upd_ne (by omega)]; exact p9 k hk
  · rw [u 4 (by decide)]; exact p10
end
section
variable {n s c t : Nat} {K P Q R V A : Nat → Nat} {X0 M0 X M : St} {i q : Nat} {N H : Nat → Nat}
theorem once_no (hC : TC n s c t K P Q R V A X0 M0) (h : Sy s c K P Q R V A X0 M0 i X M) (hP : PB s N H X M) {k : Nat} (hk : k < 5) (hK : K i = kdH k) (h1 : H k ≠ 0) {X' : St} (hr : fX3_refuse n X 2 = some (X', 0)) : fX3_openOnce n X = some (X', 0) := by
  have e5 : X.1 151 5 = tld H := hP.2.2.2.2.2.2.2.2.1
  obtain ⟨o1, -⟩ := once_H (fun k hk => (hP.2.2.2.2.2.2.2.2.2.1 k hk).1) hk
  unfold fX3_openOnce
  rw [bn_go, h.2.1.2.1, hK, e5, if_neg (fun z => h1 (o1.mp z)), hr, bd_go, gd_pos (Or.inl rfl)]
theorem once_step (hC : TC n s c t K P Q R V A X0 M0) (h : Sy s c K P Q R V A X0 M0 i X M) (hP : PB s N H X M) {k : Nat} (hk : k < 5) (hK : K i = kdH k) (h1 : H k = 0) : ∃ X' M', fX3_openOnce n X = some (X', 1) ∧ fX11_token n M = some (M', ()) ∧ kT1 (sI X 151 5 (tld (set1 H k 1))) X' ∧ kU1 M M' ∧ Sy s c K P Q R V A X0 M0 (i + 1) X' M' := by
  have e5 : X.1 151 5 = tld H := hP.2.2.2.2.2.2.2.2.1
  obtain ⟨o1, o2⟩ := once_H (fun k hk => (hP.2.2.2.2.2.2.2.2.2.1 k hk).1) hk
  have gx : GX s X (sI X 151 5 (tld (set1 H k 1))) := ⟨fun a q _ => sI_ne q, fun _ _ _ => rfl, rfl, fun _ _ _ => sI_f (by omega)⟩
  have hS : Sy s c K P Q R V A X0 M0 i (sI X 151 5 (tld (set1 H k 1))) M := Sy_X h gx (fun j q => by rw [sI_row, upd_ne q]) rfl
  have hk2 : 2 ≤ K i := by
    rw [hK]
    rcases (show k = 0 ∨ k = 1 ∨ k = 2 ∨ k = 3 ∨ k = 4 by omega) with rfl | rfl | rfl | rfl | rfl <;> decide
  obtain ⟨X', M', a1, a2, a3, a4, a5, -⟩ := both_step hC hS hk2
  refine ⟨X', M', ?_, a2, a3, a4, a5⟩
  unfold fX3_openOnce
  rw [bn_go, h.2.1.2.1, hK, e5, if_pos (o1.mpr h1), bn_go, o2 h1, hS.2.1.1, a1, bd_go]
theorem kT1_sI {X X' : St} (h : kT1 X X') {a k : Nat} {v : Int32} (ha : a ≠ 151) : kT1 (sI X a k v) (sI X' a k v) := by
  refine ⟨fun b q => ?_, fun j a1 a2 a3 a4 a5 => by rw [sI_ne (fun e => ha e.symm), sI_ne (fun e => ha e.symm)]; exact h.2.1 j a1 a2 a3 a4 a5, h.2.2.1, h.2.2.2⟩
  by_cases e : b = a
  · subst e; rw [sI_row, sI_row, h.1 b q]
  · rw [sI_ne e, sI_ne e]; exact h.1 b q
theorem kU1_sI {M M' : St} (h : kU1 M M') {k : Nat} {v : Int32} (hk : 9 ≤ k) : kU1 (sI M 0 k v) (sI M' 0 k v) := by
  refine ⟨fun b q => by rw [sI_ne q, sI_ne q]; exact h.1 b q, fun j a1 a2 a3 a4 a5 a6 => ?_, h.2.2⟩
  rw [sI_row, sI_row]
  by_cases e : j = k
  · rw [e, upd_eq, upd_eq]
  · rw [upd_ne e, upd_ne e]; exact h.2.1 j a1 a2 a3 a4 a5 a6
/-- the line that tells a number, from its number on -/
theorem num_tail (hC : TC n s c t K P Q R V A X0 M0) (h : Sy s c K P Q R V A X0 M0 i X M) (hP : PB s N H X M) {f lo hi : Nat} {lo' hi' : Int32} (hlo : lo' = nI lo) (hhi : hi' = nI hi) (hl : lo ≤ 9999) (hh : hi ≤ 9999) (hf : f < 4) (h0 : f = 0 → (lo = 1 ∧ hi = 16) ∧ N 5 = 0 ∧ N 6 = 0 ∧ N 7 = 0 ∧ N 8 = 0) (h1 : f = 1 → (lo = 1 ∧ hi = 24) ∧ N 9 = 0) (h3 : f = 3 → hi = 9) {F : St → Option (St × Int32)} (hF : ∀ Y W, Ft Y W → F Y = some (Y, 0)) : ∃ X' M' r, bd (fX3_takeNumber n X lo' hi') (fun S3 r4 => if r4 = 0 then F S3 else gd (isK sdX (S3.2.2 151 1) 0) (bn (sI S3 (S3.2.2 151 1) (9 + f) (S3.1 151 6)) (fun S6 : St => bd (fX3_take n S6 3) (fun S7 r8 => gd (r8 = 0 ∨ r8 = 1) (some (S7, r8)))))) = some (X', r) ∧ (r = 0 ∨ r = 1) ∧ bd (fX11_toldNumber n M lo' hi') (fun S r => fX11_readLine_j220 n (sI S 0 (29 + f) r)) = some (M', ()) ∧ LnO s c K P Q R V A X0 M0 i X M X' M' := by
  subst hlo hhi
  obtain ⟨⟨c1, c2, c3⟩, -⟩ := id hC
  have hs' : s + 50 < 151 := by rcases c2 with z | z <;> omega
  obtain ⟨kk, -⟩ := bk c2
  obtain ⟨X1, M1, r, v, a1, a2, a3, a4, a5⟩ := both_num hC h hl hh
  rw [a1, bd_go, a2, bd_go]
  rcases a5 with ⟨rfl, v1, v2, rfl, v4, v5⟩ | ⟨rfl, v1⟩
  · have hr1 : X1.2.2 151 1 = s := by rw [v5.1.1.2.2.1]; exact c3
    have hP1 : PB s N H X1 M1 := PB_A hP c2 (kT1_A a3 c2) (kU1_A a4)
    have hP2 := PB_num (v := V i) hP1 c2 hf (fun z => ⟨by have := (h0 z).1; omega, (h0 z).2⟩) (fun z => ⟨by have := (h1 z).1; omega, (h1 z).2⟩) (fun _ => by omega) (fun z => by have := h3 z; omega)
    have gx : GX s X1 (sI X1 s (9 + f) (nI (V i))) := ⟨fun a _ q => sI_ne (by omega), fun _ _ _ => rfl, rfl, fun _ _ _ => sI_f (by omega)⟩
    have gm : GM M1 (sI M1 0 (29 + f) (nI (V i))) := ⟨fun a q _ _ => sI_ne q, fun k q => by rw [sI_row, upd_ne (by omega)]⟩
    have hS2 : Sy s c K P Q R V A X0 M0 (i + 1) (sI X1 s (9 + f) (nI (V i))) (sI M1 0 (29 + f) (nI (V i))) := Sy_M (Sy_X v5 gx (fun k _ => by rw [sI_ne (by omega)]) rfl) gm (fun k q => by rw [sI_row, upd_ne (by omega)]) rfl
    obtain ⟨X', M', r, f1, f2, f3, f4, f5⟩ := both_sign hC hS2
    have hr : r = 0 ∨ r = 1 := by
      rcases f5 with ⟨z, -⟩ | ⟨z, -⟩
      · exact Or.inr z
      · exact Or.inl z
    rw [if_neg one_ne, hr1, gd_pos kk, bn_go, v4, f1, bd_go, gd_pos hr, f2]
    refine ⟨X', M', r, rfl, hr, rfl, GX_tr (kT1_G a3) (GX_tr gx (kT1_G f3)), GM_tr (kU1_G a4) (GM_tr gm (kU1_G f4)), ?_⟩
    rcases f5 with ⟨-, z⟩ | ⟨-, z⟩
    · exact Or.inl ⟨i + 1 + 1, set1 N f (V i), H, by omega, z, PB_A hP2 c2 (kT1_A f3 c2) (kU1_A f4)⟩
    · exact Or.inr z
  · have hF1 : Ft X1 (sI M1 0 (29 + f) v) := Ft_fr v1 rfl (by rw [sI_row, upd_ne (by omega)]) (by rw [sI_row, upd_ne (by omega)])
    have gm : GM M1 (sI M1 0 (29 + f) v) := ⟨fun a q _ _ => sI_ne q, fun k q => by rw [sI_row, upd_ne (by omega)]⟩
    rw [if_pos rfl, hF X1 M1 v1, Ft_220 hF1]
    exact ⟨X1, _, 0, rfl, Or.inl rfl, rfl, kT1_G a3, GM_tr (kU1_G a4) gm, Or.inr hF1⟩
/-- such a line, where it can stand -/
theorem num_line (hC : TC n s c t K P Q R V A X0 M0) (h : Sy s c K P Q R V A X0 M0 i X M) (hP : PB s N H X M) {k f lo hi : Nat} {lo' hi' : Int32} (hk : k < 5) (hk3 : k ≠ 3) (hK : K i = kdH k) (hH : H k = 0) (hlo : lo' = nI lo) (hhi : hi' = nI hi) (hl : lo ≤ 9999) (hh : hi ≤ 9999) (hf : f < 4) (h0 : f = 0 → (lo = 1 ∧ hi = 16) ∧ N 5 = 0 ∧ N 6 = 0 ∧ N 7 = 0 ∧ N 8 = 0) (h1 : f = 1 → (lo = 1 ∧ hi = 24) ∧ N 9 = 0) (h3 : f = 3 → hi = 9) {F : St → Option (St × Int32)} (hF : ∀ Y W, Ft Y W → F Y = some (Y, 0)) : ∃ X' M' r, bd (fX3_openOnce n X) (fun S1 r2 => if r2 = 0 then F S1 else bd (fX3_takeNumber n S1 lo' hi') (fun S3 r4 => if r4 = 0 then F S3 else gd (isK sdX (S3.2.2 151 1) 0) (bn (sI S3 (S3.2.2 151 1) (9 + f) (S3.1 151 6)) (fun S6 : St => bd (fX3_take n S6 3) (fun S7 r8 => gd (r8 = 0 ∨ r8 = 1) (some (S7, r8))))))) = some (X', r) ∧ (r = 0 ∨ r = 1) ∧ bd (fX11_readNumber n (sI M 0 (37 + k) 1) lo' hi') (fun S r => fX11_readLine_j220 n (sI S 0 (29 + f) r)) = some (M', ()) ∧ LnO s c K P Q R V A X0 M0 i X M X' M' := by
  obtain ⟨⟨c1, c2, c3⟩, -⟩ := id hC
  have gm : GM M (sI M 0 (37 + k) 1) := ⟨fun a q _ _ => sI_ne q, fun j q => by rw [sI_row, upd_ne (by omega)]⟩
  have hS0 : Sy s c K P Q R V A X0 M0 i X (sI M 0 (37 + k) 1) := Sy_M h gm (fun j q => by rw [sI_row, upd_ne (by omega)]) rfl
  obtain ⟨-, -, a1, -, -, -, -⟩ := once_step hC h hP hk hK hH
  have gx : GX s X (sI X 151 5 (tld (set1 H k 1))) := ⟨fun a q _ => sI_ne q, fun _ _ _ => rfl, rfl, fun _ _ _ => sI_f (by omega)⟩
  -- the same step, with the reference's flag set
  have hS1 : Sy s c K P Q R V A X0 M0 i (sI X 151 5 (tld (set1 H k 1))) (sI M 0 (37 + k) 1) := Sy_X hS0 gx (fun j q => by rw [sI_row, upd_ne q]) rfl
  have hk2 : 2 ≤ K i := by
    rw [hK]
    rcases (show k = 0 ∨ k = 1 ∨ k = 2 ∨ k = 3 ∨ k = 4 by omega) with rfl | rfl | rfl | rfl | rfl <;> decide
  obtain ⟨X1, M1, b1, b2, b3, b4, b5, -⟩ := both_step hC hS1 hk2
  have eo : fX3_openOnce n X = some (X1, 1) := by
    have e5 : X.1 151 5 = tld H := hP.2.2.2.2.2.2.2.2.1
    obtain ⟨o1, o2⟩ := once_H (fun k hk => (hP.2.2.2.2.2.2.2.2.2.1 k hk).1) hk
    unfold fX3_openOnce
    rw [bn_go, h.2.1.2.1, hK, e5, if_pos (o1.mpr hH), bn_go, o2 hH, hS1.2.1.1, b1, bd_go]
  have hP1 : PB s N (set1 H k 1) X1 M1 := PB_A (PB_tell hP c2 hk hk3) c2 (kT1_A b3 c2) (kU1_A b4)
  obtain ⟨X', M', r, f1, f2, f3, f4, f5, f6⟩ := num_tail hC b5 hP1 hlo hhi hl hh hf h0 h1 h3 hF
  unfold fX11_readNumber
  have e : bd (bd (fX11_token n (sI M 0 (37 + k) 1)) (fun S1 _ => bd (fX11_toldNumber n S1 lo' hi') (fun S3 r4 => some (S3, r4)))) (fun S r => fX11_readLine_j220 n (sI S 0 (29 + f) r)) = bd (fX11_toldNumber n M1 lo' hi') (fun S r => fX11_readLine_j220 n (sI S 0 (29 + f) r)) := by
    rw [b2, bd_go, bd_as]
    rfl
  rw [eo, bd_go, if_neg one_ne, f1, e, f3]
  refine ⟨X', M', r, rfl, f2, rfl, GX_tr gx (GX_tr (kT1_G b3) f4), GM_tr gm (GM_tr (kU1_G b4) f5), ?_⟩
  rcases f6 with ⟨i'', N', H', z1, z2⟩ | z
  · exact Or.inl ⟨i'', N', H', by omega, z2⟩
  · exact Or.inr z
theorem over_line (hC : TC n s c t K P Q R V A X0 M0) (h : Sy s c K P Q R V A X0 M0 i X M) (hP : PB s N H X M) (hK : K i = 13) (hH : H 3 = 0) : ∃ X' M' r, fX3_readOver n X = some (X', r) ∧ (r = 0 ∨ r = 1) ∧ bd (fX11_readOver n M) (fun S _ => fX11_readLine_j220 n S) = some (M', ()) ∧ LnO s c K P Q R V A X0 M0 i X M X' M' := by
  obtain ⟨⟨c1, c2, c3⟩, -⟩ := id hC
  have hs' : s + 50 < 151 := by rcases c2 with z | z <;> omega
  obtain ⟨kk, -⟩ := bk c2
  obtain ⟨X1, M1, a1, a2, a3, a4, a5⟩ := once_step hC h hP (show 3 < 5 by decide) hK hH
  have hr1 : X1.2.2 151 1 = s := by rw [a5.1.1.2.2.1]; exact c3
  have gx0 : GX s X (sI X 151 5 (tld (set1 H 3 1))) := ⟨fun a q _ => sI_ne q, fun _ _ _ => rfl, rfl, fun _ _ _ => sI_f (by omega)⟩
  have gx : GX s X1 (sI X1 s 13 1) := ⟨fun a _ q => sI_ne (by omega), fun _ _ _ => rfl, rfl, fun _ _ _ => sI_f (by omega)⟩
  have gm : GM M1 (sI M1 0 40 1) := ⟨fun a q _ _ => sI_ne q, fun k q => by rw [sI_row, upd_ne (by omega)]⟩
  have hS2 : Sy s c K P Q R V A X0 M0 (i + 1) (sI X1 s 13 1) (sI M1 0 40 1) := Sy_M (Sy_X a5 gx (fun k _ => by rw [sI_ne (by omega)]) rfl) gm (fun k q => by rw [sI_row, upd_ne (by omega)]) rfl
  have hP2 : PB s (set1 N 4 1) (set1 H 3 1) (sI X1 s 13 1) (sI M1 0 40 1) := PB_A (PB_over hP c2) c2 (kT1_A (kT1_sI a3 (by omega)) c2) (kU1_A (kU1_sI a4 (by decide)))
  obtain ⟨X', M', r, f1, f2, f3, f4, f5⟩ := both_sign hC hS2
  have hr : r = 0 ∨ r = 1 := by
    rcases f5 with ⟨z, -⟩ | ⟨z, -⟩
    · exact Or.inr z
    · exact Or.inl z
  unfold fX3_readOver fX11_readOver
  rw [a1, bd_go, if_neg one_ne, hr1, gd_pos kk, bn_go, f1, bd_go, gd_pos hr, a2, bd_go, bn_go, bd_go, f2]
  refine ⟨X', M', r, rfl, hr, rfl, GX_tr gx0 (GX_tr (kT1_G a3) (GX_tr gx (kT1_G f3))), GM_tr (kU1_G a4) (GM_tr gm (kU1_G f4)), ?_⟩
  rcases f5 with ⟨-, z⟩ | ⟨-, z⟩
  · exact Or.inl ⟨i + 1 + 1, set1 N 4 1, set1 H 3 1, by omega, z, PB_A hP2 c2 (kT1_A f3 c2) (kU1_A f4)⟩
  · exact Or.inr z
end
