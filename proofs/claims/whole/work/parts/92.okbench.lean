/-! a bench is read: what holds after it -/
/-- the bench that a text described, from the reference's cells -/
def BN (N : Nat → Nat) (M : St) : Bd := (N, fun t d j => match t with
  | 0 => M.1 5 (16 * d + j) | 1 => M.1 6 (16 * d + j) | 2 => M.1 7 (16 * d + j) | 3 => M.1 8 (16 * d + j) | 4 => M.1 9 d | 5 => M.1 10 d | 6 => M.1 11 d | _ => M.1 12 (8 * d + j))
theorem BN_ok {s : Nat} {N H : Nat → Nat} {X M : St} (h : PB s N H X M) : Bok (BN N M) := by
  obtain ⟨-, -, ⟨n0, n1, n2, n3, n4⟩, hq, hr, hp, hg, -, -⟩ := h
  refine ⟨n0, n1, n2, n3, n4, (hq 0 (by decide)).2.2.2, (hq 1 (by decide)).2.2.2, (hq 2 (by decide)).2.2.2, (hq 3 (by decide)).2.2.2, (hq 4 (by decide)).2.2.2, fun d hd j hj => ?_, fun d hd j hj => ?_, fun d hd j hj => ?_, fun d hd j hj => ?_, fun d hd => ⟨(hp d hd).2.1, (hp d hd).2.2.2⟩, fun g h => (hg g h).2.1, fun g h => ?_⟩
  · exact (hr 0 (by decide) d hd j hj).2
  · exact (hr 1 (by decide) d hd j hj).2
  · exact (hr 2 (by decide) d hd j hj).2
  · exact (hr 3 (by decide) d hd j hj).2
  · obtain ⟨p, p1, p2⟩ := (hg g h).2.2
    exact ⟨p, fun d hd => (p1 d hd).1, p2⟩
theorem BN_X {s : Nat} {N H : Nat → Nat} {X X' M : St} (h : PB s N H X M) (hf : ∀ a, s ≤ a → a < s + 50 → X'.1 a = X.1 a) (hl : ∀ l e, e < N 8 → l < N 7 → LtX s (N 0) l e X') : RXb (BN N M) X'.1 s := by
  have hB := BN_ok h
  obtain ⟨⟨x0, x1, x2, x3, x4⟩, -, -, hq, hr, hp, hg, -, -⟩ := h
  obtain ⟨-, -, -, -, -, n1, n2, n3, n4, n5, -⟩ := hB
  refine ⟨?_, ?_, ?_, ?_, ?_, ?_, ?_, ?_, ?_, ?_, ?_, ?_, ?_, ?_, ?_, ?_, ?_, ?_⟩
  · rw [hf s (by omega) (by omega)]; exact x0
  · rw [hf s (by omega) (by omega)]; exact x1
  · rw [hf s (by omega) (by omega)]; exact x2
  · rw [hf s (by omega) (by omega)]; exact x3
  · rw [hf s (by omega) (by omega)]; exact x4
  · rw [hf _ (by omega) (by omega)]; exact (hq 0 (by decide)).1
  · rw [hf _ (by omega) (by omega)]; exact (hq 1 (by decide)).1
  · rw [hf _ (by omega) (by omega)]; exact (hq 2 (by decide)).1
  · rw [hf _ (by omega) (by omega)]; exact (hq 3 (by decide)).1
  · rw [hf _ (by omega) (by omega)]; exact (hq 4 (by decide)).1
  · intro d hd j hj; rw [hf _ (by omega) (by omega)]; exact (hr 0 (by decide) d hd j hj).1
  · intro d hd j hj; rw [hf _ (by omega) (by omega)]; exact (hr 1 (by decide) d hd j hj).1
  · intro d hd j hj; rw [hf _ (by omega) (by omega)]; exact (hr 2 (by decide) d hd j hj).1
  · intro d hd j hj; rw [hf _ (by omega) (by omega)]; exact (hr 3 (by decide) d hd j hj).1
  · intro g h d hd
    rw [hf _ (by omega) (by omega)]
    obtain ⟨p, p1, p2⟩ := (hg g h).2.2
    exact (p1 d hd).2.trans (p1 d hd).1.symm
  · intro d hd; rw [hf _ (by omega) (by omega), hf _ (by omega) (by omega)]; exact ⟨(hp d hd).1, (hp d hd).2.2.1⟩
  · intro g h; rw [hf _ (by omega) (by omega)]; exact (hg g h).1
  · intro l hl' e he j hj
    have a1 := hl l e he hl' j hj
    rw [hf (s + 22 + l) (by omega) (by omega), hf (s + 31 + e) (by omega) (by omega)] at a1
    rw [a1]
    have a2 : X.1 (s + 22 + l) j = M.1 7 (16 * l + j) := (hr 2 (by decide) l hl' j hj).1
    have a3 : X.1 (s + 31 + e) j = M.1 8 (16 * e + j) := (hr 3 (by decide) e he j hj).1
    rw [a2, a3]
    rfl
theorem ab_w {b s k : Nat} (hb : b = 3 ∨ b = 77) (hsb : s = 80 - b) (q : lmC k) : b + k ≠ 0 ∧ b + k ≠ 1 ∧ b + k < 151 ∧ (b + k < s + 50 ∨ s + 74 ≤ b + k) ∧ (b + k < s ∨ s + 50 ≤ b + k) ∧ b + k ≠ 151 ∧ b + k ≠ 152 ∧ b + k ≠ 154 ∧ b + k ≠ 155 := by
  unfold lmC at q
  refine ⟨?_, ?_, ?_, ?_, ?_, ?_, ?_, ?_, ?_⟩ <;> omega
/-- the limits of both benches stay -/
theorem lim_of {F F' : Nat → Nat → Int32} {b s : Nat} (hb : b = 3 ∨ b = 77) (hsb : s = 80 - b) (h : Glim F) (gl : ∀ k, lmC k → F' (s + k) 0 = F (s + k) 0) (gb : ∀ k, lmC k → F' (b + k) 0 = F (b + k) 0) : Glim F' := by
  have l1 : lmC 1 := by unfold lmC; omega
  have l2 : lmC 12 := by unfold lmC; omega
  have l3 : lmC 19 := by unfold lmC; omega
  have l4 : lmC 28 := by unfold lmC; omega
  have l5 : lmC 35 := by unfold lmC; omega
  obtain ⟨⟨u1, u2, u3, u4, u5⟩, v1, v2, v3, v4, v5⟩ := h
  rcases hb with z | z
  · have e : s = 77 := by omega
    rw [z] at gb
    rw [e] at gl
    exact ⟨⟨(gb 1 l1).trans u1, (gb 12 l2).trans u2, (gb 19 l3).trans u3, (gb 28 l4).trans u4, (gb 35 l5).trans u5⟩, (gl 1 l1).trans v1, (gl 12 l2).trans v2, (gl 19 l3).trans v3, (gl 28 l4).trans v4, (gl 35 l5).trans v5⟩
  · have e : s = 3 := by omega
    rw [z] at gb
    rw [e] at gl
    exact ⟨⟨(gl 1 l1).trans u1, (gl 12 l2).trans u2, (gl 19 l3).trans u3, (gl 28 l4).trans u4, (gl 35 l5).trans u5⟩, (gb 1 l1).trans v1, (gb 12 l2).trans v2, (gb 19 l3).trans v3, (gb 28 l4).trans v4, (gb 35 l5).trans v5⟩
theorem BN_M {s : Nat} {N H : Nat → Nat} {X M M' : St} (h : PB s N H X M)
    (hc : (∀ i, i < 5 → M'.1 4 i = M.1 3 i) ∧ (∀ i, i < 128 → M'.1 13 i = M.1 5 i) ∧ (∀ i, i < 64 → M'.1 14 i = M.1 6 i) ∧ (∀ i, i < 96 → M'.1 15 i = M.1 7 i) ∧ (∀ i, i < 64 → M'.1 16 i = M.1 8 i) ∧ (∀ i, i < 8 → M'.1 17 i = M.1 9 i) ∧ (∀ i, i < 8 → M'.1 18 i = M.1 10 i) ∧ (∀ i, i < 8 → M'.1 19 i = M.1 11 i) ∧ (∀ i, i < 64 → M'.1 20 i = M.1 12 i))
    (h0 : M'.1 0 33 = M.1 0 29 ∧ M'.1 0 34 = M.1 0 30 ∧ M'.1 0 35 = M.1 0 31 ∧ M'.1 0 36 = M.1 0 32 ∧ M'.1 0 42 = M.1 0 40) : RMb (BN N M) M'.1 := by
  have hB := BN_ok h
  obtain ⟨-, ⟨m0, m1, m2, m3⟩, -, hq, hr, hp, hg, -, -, hH, hN⟩ := h
  obtain ⟨⟨-, nb⟩, -, -, -, -, n1, n2, n3, n4, n5, -⟩ := hB
  obtain ⟨c1, c2, c3, c4, c5, c6, c7, c8, c9⟩ := hc
  obtain ⟨z1, z2, z3, z4, z5⟩ := h0
  refine ⟨z1.trans m0, z2.trans m1, z3.trans m2, z4.trans m3, ?_, (c1 0 (by decide)).trans (hq 0 (by decide)).2.2.1, (c1 1 (by decide)).trans (hq 1 (by decide)).2.2.1, (c1 2 (by decide)).trans (hq 2 (by decide)).2.2.1, (c1 3 (by decide)).trans (hq 3 (by decide)).2.2.1, (c1 4 (by decide)).trans (hq 4 (by decide)).2.2.1, fun d hd j hj => c2 _ (by omega), fun d hd j hj => c3 _ (by omega), fun d hd j hj => c4 _ (by omega), fun d hd j hj => c5 _ (by omega), fun d hd => ⟨c6 _ (by omega), c7 _ (by omega)⟩, fun g hg => c8 _ (by omega), fun g hg d hd => c9 _ (by omega)⟩
  rw [z5]
  have := (hH 3 (by decide)).2
  show M.1 0 40 = nI (N 4)
  rw [hN]
  exact this
section
variable {n : Nat} {Sx Sm : St}
theorem bench_no {b s : Nat} {B : Bd} {X M : St} (h : RelB B b Sx Sm) (hsb : s = 80 - b) (hk : kRX s Sx X) (hm : kRM Sm M) (hF : Ft X M) : RelB B b (sI X 1 1 0) M := by
  obtain ⟨hB, ⟨hb, hr, hr0, hr2⟩, hX, hlim, hM, ht, hv, hbx, hl, ho, ha, hnn, hs', hw⟩ := h
  obtain ⟨k1, k2, k3, k4⟩ := hk
  obtain ⟨m1, m2, m3⟩ := hm
  have hs : s = 3 ∨ s = 77 := by rcases hb with z | z <;> omega
  have fx : ∀ a, a ≠ 1 → a ≠ 151 → a ≠ 152 → a ≠ 154 → a ≠ 155 → (a < s ∨ s + 50 ≤ a) → (sI X 1 1 0).1 a = Sx.1 a := fun a q0 q1 q2 q3 q4 q5 => by rw [sI_ne q0, k1 a q1 q2 q3 q4 q5]
  have fh : ∀ a, 157 ≤ a → (sI X 1 1 0).1 a = Sx.1 a := fun a q => fx a (by omega) (by omega) (by omega) (by omega) (by omega) (by omega)
  have f0 : (sI X 1 1 0).1 0 = Sx.1 0 := fx 0 (by decide) (by decide) (by decide) (by decide) (by decide) (by omega)
  have fm : ∀ a, 13 ≤ a → M.1 a = Sm.1 a := fun a q => m1 a (by omega) (by omega) (by omega)
  have fl : ∀ k, 42 ≤ k → M.1 0 k = Sm.1 0 k := fun k q => m2 k (by omega)
  refine ⟨hB, ⟨hb, ?_, ?_, ?_⟩, RXb_frame hX (fun a q1 q2 => fx a (by omega) (by omega) (by omega) (by omega) (by omega) (by rcases hb with z | z <;> omega)) hB, ?_, RMb_frame hM (fun a q => m1 a (by unfold coreM at q; omega) (by unfold coreM at q; omega) (by unfold coreM at q; omega)) (fun k q => m2 k (by unfold core0 at q; omega)), ?_, ?_, Gbx_frame hbx (fun a q1 q2 => fh a (by omega)) (fun a q1 q2 => fm a (by omega)), ?_, Go_frame ho (fun a q1 q2 => fh a (by omega)) (fl 70 (by decide)) (fm 32 (by decide)) (fm 33 (by decide)), ?_, ?_, ?_, ?_⟩
  · show X.2.2 0 2 = b
    rw [k3 0 (by decide)]; exact hr
  · show X.2.2 0 3 = 80 - b
    rw [k3 0 (by decide)]; exact hr0
  · show X.2.2 243 0 = b
    rw [k3 243 (by decide)]; exact hr2
  · have gl : ∀ k, lmC k → (sI X 1 1 0).1 (s + k) 0 = Sx.1 (s + k) 0 := fun k q => by
      have q' := q
      unfold lmC at q'
      rw [sI_ne (by omega), k4 k q]
    have gb : ∀ k, lmC k → (sI X 1 1 0).1 (b + k) 0 = Sx.1 (b + k) 0 := fun k q => by
      have q' := q
      unfold lmC at q'
      rw [fx (b + k) (by omega) (by omega) (by omega) (by omega) (by omega) (by rcases hb with z | z <;> omega)]
    exact lim_of hb hsb hlim gl gb
  · obtain ⟨f, f1, f2, f3, f4, f5⟩ := hF
    refine ⟨⟨0, by decide, by rw [sI_at, if_pos (by omega)]; rfl, m3, fun i hi => by omega⟩, ?_, ?_, fun i hi => ?_⟩
    · rw [sI_ne (by decide), f3, f4]
    · rw [sI_ne (by decide)]; exact f5
    · show X.2.1 153 i = _
      rw [k2 153 (by decide) (by decide) (by omega)]
      exact ht.2.2.2 i hi
  · unfold Gv at hv ⊢
    rw [fh 262 (by decide), fh 261 (by decide), fm 31 (by decide), fl 65 (by decide), fl 66 (by decide), fl 67 (by decide)]
    exact hv
  · unfold Gl at hl ⊢
    rw [f0, fl 77 (by decide), fl 78 (by decide), fh 234 (by decide), fh 235 (by decide), fh 236 (by decide), fh 237 (by decide), fh 238 (by decide), fh 239 (by decide), fh 240 (by decide), fm 34 (by decide), fm 35 (by decide), fm 36 (by decide), fm 37 (by decide), fm 38 (by decide), fm 39 (by decide)]
    exact hl
  · unfold Ga at ha ⊢
    rw [fh 243 (by decide), fl 46 (by decide), fl 47 (by decide), fl 48 (by decide), fl 49 (by decide), fl 50 (by decide)]
    exact ha
  · unfold Gn at hnn ⊢
    rw [fh 243 (by decide), fh 260 (by decide), fl 52 (by decide), fm 24 (by decide)]
    exact hnn
  · unfold Gs at hs' ⊢
    rw [fh 243 (by decide), fl 58 (by decide), fm 26 (by decide), fm 27 (by decide), show (sI X 1 1 0).2.1 257 = Sx.2.1 257 from k2 257 (by decide) (by decide) (by omega)]
    exact hs'
  · unfold Gw at hw ⊢
    rw [f0, fh 271 (by decide), fl 63 (by decide), fm 29 (by decide)]
    exact hw
set_option maxHeartbeats 4000000 in
theorem ok_bench (hn : 200000 ≤ n) (hn2 : n < 2 ^ 31) (h : Rel Sx Sm) : Ok_bench n Rel Sx Sm := by
  obtain ⟨B, b, hR⟩ := h
  obtain ⟨hB, ⟨hb, hr, hr0, hr2⟩, hX, hlim, hM, ht, hv, hbx, hl, ho, ha, hnn, hs', hw⟩ := id hR
  obtain ⟨s, hsb⟩ : ∃ s, s = 80 - b := ⟨_, rfl⟩
  have hs : s = 3 ∨ s = 77 := by rcases hb with z | z <;> omega
  obtain ⟨kk, ⟨s0, s1, s2, s3, s4⟩, kc0, kc1, kc2, kc3, kc4⟩ := bk hs
  obtain ⟨kb, -⟩ := bk hb
  obtain ⟨X, M, e1, e2, hk, hm, hO, hx1⟩ := both_read hn hR hsb
  have hr0 : Sx.2.2 0 3 = s := by rw [hr0, hsb]
  rcases hO with ⟨N, H, hP, o1, o2, o3⟩ | hF
  · -- the text describes a bench
    obtain ⟨k1, k2, k3, k4⟩ := id hk
    obtain ⟨m1, m2, m3⟩ := id hm
    have hBN := BN_ok hP
    obtain ⟨⟨-, nb⟩, -, -, -, -, n1, n2, n3, n4, n5, -⟩ := id hBN
    obtain ⟨⟨x0, x1, x2, x3, x4⟩, -, -, hq, -, -, -, -, -, hH, -⟩ := id hP
    obtain ⟨X2, l1, l2, l3⟩ := lt_lamp (n := n) (s := s) (nb := N 0) (nl := N 7) (ne := N 8) hn hs nb n3 n4 (N 7) 0 n X (by omega) (by have : N 7 ≤ 6 := n3; omega) x0 (hq 3 (by decide)).1 (hq 2 (by decide)).1 (fun l' e' _ q => by omega)
    have l1 : fX0_mixLight sdX n X s = some (X2, ()) := l1
    obtain ⟨l4, l5⟩ := l2
    have e3 : fX3_read n Sx s = some (X2, 1) := by
      rw [e1]
      unfold fX3_read_j74
      rw [if_pos o1, hx1, gd_pos kk, l1, bd_go]
      unfold fX3_read_j88
      rw [l4 151 (by rcases hs with z | z <;> omega), if_pos o1]
    -- the class after the swap
    generalize hY : sR (sR (sI X2 1 1 0) 0 2 s) 0 3 b = Y
    have y1 : Y.1 = (sI X2 1 1 0).1 := by rw [← hY]; rfl
    have y2 : Y.2.1 = X.2.1 := by rw [← hY]; show X2.2.1 = _; rw [l5]
    have y3 : Y.2.2 0 2 = s := by rw [← hY, sR_f (by decide)]; exact sR_at
    have y4 : Y.2.2 0 3 = b := by rw [← hY]; exact sR_at
    have hXs : RXb (BN N M) X2.1 s := BN_X hP (fun a q1 q2 => l4 a (by omega)) (fun l e he hl => l3 l e he hl)
    have hYs : RXb (BN N M) Y.1 s := RXb_frame hXs (fun a q1 q2 => by rw [y1, sI_ne (by omega)]) hBN
    have h40 : M.1 0 40 = 0 ∨ M.1 0 40 = 1 := by
      obtain ⟨h1, h2⟩ := hH 3 (by decide)
      have h2 : M.1 0 40 = nI (H 3) := h2
      rw [h2]
      rcases (show H 3 = 0 ∨ H 3 = 1 by omega) with z | z <;> rw [z]
      · exact Or.inl rfl
      · exact Or.inr rfl
    obtain ⟨M', c1, c2, c3, c4, c5⟩ := copies_M hn h40
    have hMs : RMb (BN N M) M'.1 := BN_M hP c2 (by refine ⟨?_, ?_, ?_, ?_, ?_⟩ <;> (rw [c3]; rfl))
    obtain ⟨Y1, M2, o, d1, d2, d3, d4, d5, d6, d7⟩ := both_fill hn hs hBN hYs ⟨hMs.2.2.2.2.2.1, hMs.2.2.2.2.2.2.2.2.2.1, hMs.2.2.2.2.2.2.2.2.2.2.2.2.2.2.2.2⟩
    obtain ⟨Z, g1, g2, g3, g4, ⟨g5, g6, g7⟩, ⟨g8, g9, g10⟩, g11, g12, g13, g14, g15⟩ := anew_X hn hn2 hs y3 d1 d3.2
    have zr : Z.2.2 0 2 = s := by rw [g15 0 (by decide)]; exact y3
    have z35 : Z.1 (s + 35) 3 = nI (N 9) := by
      rw [g2 _ (by omega) (by omega) (by omega) (by omega) (by omega) (by omega), d3.1 _ (by omega)]
      exact hYs.2.2.2.2.2.2.2.2.2.1
    have m4 : M2.1 4 = M'.1 4 := d4.1 4 (by decide) (by decide) (by decide)
    -- what lies where
    have fz : ∀ a, a ≠ 0 → a ≠ 1 → a < 151 → Z.1 a = X2.1 a := fun a q0 q1 q2 => by
      rw [g2 a q0 (by omega) (by omega) (by omega) (by omega) (by omega), d3.1 a (by omega), y1, sI_ne q1]
    refine ⟨Z, M2, nI (N 9), ?_, ?_, BN N M, s, hBN, ⟨hs, zr, ?_, g14⟩, ?_, ?_, ?_, ?_, ?_, ?_, ?_, ?_, ?_, ?_, ?_, ?_⟩
    · unfold fX10_bench
      rw [hr0, gd_pos kk, e3, bd_go, bn_go, if_neg (by decide)]
      have q2 : (sI X2 1 1 0).2.2 0 2 = b := by show X2.2.2 0 2 = b; rw [l5, k3 0 (by decide)]; exact hr
      have q3 : (sI X2 1 1 0).2.2 0 3 = s := by show X2.2.2 0 3 = s; rw [l5, k3 0 (by decide)]; exact hr0
      rw [q2, q3, gd_pos kb, bn_go, gd_pos kk, bn_go, gd_pos kb, bn_go, hY, g1, bd_go, zr, gd_pos kk, s4, gd_pos kc4, z35]
    · unfold fX11_bench
      rw [e2, bd_go, o2, if_pos (by decide), c1]
      unfold fX11_bench_j281
      rw [d2, bd_go, gd_pos (by decide), show Int32.toNatClampNeg 4 = 4 from rfl, m4]
      have q : M'.1 4 4 = nI (N 9) := hMs.2.2.2.2.2.2.2.2.2.1
      rw [q]
    · rw [g15 0 (by decide), y4]; rcases hb with z | z <;> omega
    · exact RXb_frame hXs (fun a q1 q2 => fz a (by omega) (by omega) (by omega)) hBN
    · have gl : ∀ k, lmC k → Z.1 (s + k) 0 = Sx.1 (s + k) 0 := fun k q => by
        have q' := q
        unfold lmC at q'
        rw [fz _ (by omega) (by omega) (by omega), l4 _ (by omega), k4 k q]
      have gb : ∀ k, lmC k → Z.1 (b + k) 0 = Sx.1 (b + k) 0 := fun k q => by
        have q' := q
        unfold lmC at q'
        obtain ⟨w1, w2, w3, w4, w5, w6, w7, w8, w9⟩ := ab_w hb hsb q
        rw [fz _ w1 w2 w3, l4 _ w4, k1 (b + k) w6 w7 w8 w9 w5]
      exact lim_of hb hsb hlim gl gb
    · unfold RMb at hMs ⊢
      rw [d4.2.1 33 (by decide), d4.2.1 34 (by decide), d4.2.1 35 (by decide), d4.2.1 36 (by decide), d4.2.1 42 (by decide), m4, d4.1 13 (by decide) (by decide) (by decide), d4.1 14 (by decide) (by decide) (by decide), d4.1 15 (by decide) (by decide) (by decide), d4.1 16 (by decide) (by decide) (by decide), d4.1 17 (by decide) (by decide) (by decide), d4.1 18 (by decide) (by decide) (by decide), d4.1 19 (by decide) (by decide) (by decide), d4.1 20 (by decide) (by decide) (by decide)]
      exact hMs
    · have q151 : Z.1 151 = X.1 151 := by
        rw [g2 151 (by decide) (by decide) (by decide) (by decide) (by decide) (by omega), d3.1 151 (by omega), y1, sI_ne (by decide), l4 151 (by omega)]
      refine ⟨⟨0, by decide, ?_, ?_, fun i hi => by omega⟩, ?_, ?_, fun i hi => ?_⟩
      · rw [g2 1 (by decide) (by decide) (by decide) (by decide) (by decide) (by omega), d3.1 1 (by omega), y1, sI_at, if_pos (by omega)]; rfl
      · rw [d4.2.1 1 (by decide), c3]; exact m3
      · rw [q151, o1, d4.2.1 2 (by decide), c3]; exact o2.symm
      · rw [q151, d4.2.1 3 (by decide), c3]; exact o3
      · rw [g13, y2, k2 153 (by decide) (by decide) (by omega)]
        exact ht.2.2.2 i hi
    · have q31 : ∀ d, d < 8 → M2.1 31 d = 0 := fun d hd => by rw [d4.1 31 (by decide) (by decide) (by decide)]; exact c4 d hd
      have q65 : M2.1 0 65 = 0 := by rw [d4.2.1 65 (by decide), c3]; rfl
      refine ⟨fun d hd => (g11 d hd).trans (q31 d hd).symm, g8.trans q65.symm, ?_, ?_, ⟨fun _ => 0, q31, fun _ _ => rfl, by rw [sumN_z]; exact Nat.zero_le _⟩, 0, q65, Or.inr rfl⟩
      · rw [g9, d4.2.1 66 (by decide), c3]; rfl
      · rw [g10, d3.1 261 (by omega), y1, sI_ne (by decide), l4 261 (by omega), k1 261 (by decide) (by decide) (by decide) (by decide) (by omega), d4.2.1 67 (by decide), c3]
        show _ = M.1 0 67
        rw [m2 67 (by omega)]
        exact hv.2.2.2.1
    · intro i hi
      have q : M2.1 42 i = 0 := by rw [d4.1 42 (by decide) (by decide) (by decide)]; exact c5 i hi
      exact ⟨Or.inl q, (g12 i hi).trans q.symm, fun z => absurd (q.symm.trans z) (by decide)⟩
    · obtain ⟨⟨t, t1, t2, t3⟩, -⟩ := hl
      refine ⟨⟨t, t1, ?_, ?_⟩, 0, by decide, g4, ?_, fun i hi => by omega⟩
      · rw [g3, if_neg (by decide), d3.1 0 (by omega), y1, sI_ne (by decide), l4 0 (by omega), k1 0 (by decide) (by decide) (by decide) (by decide) (by omega)]
        exact t2
      · rw [d4.2.1 78 (by decide), c3]
        show M.1 0 78 = _
        rw [m2 78 (by omega)]
        exact t3
      · rw [d4.2.1 77 (by decide), c3]; rfl
    · obtain ⟨q1, q2, q3, q4⟩ := d5
      have fo : ∀ a, 157 ≤ a → a ≤ 232 → Z.1 a = Y1.1 a := fun a h1 h2 => g2 a (by omega) (by omega) (by omega) (by omega) (by omega) (by omega)
      refine ⟨o, d7, d6, by rw [fo 157 (by omega) (by omega)]; exact q1, q2, fun g hg => q4 g hg (by omega), fun i hi => ?_⟩
      rw [fo 158 (by omega) (by omega), fo 159 (by omega) (by omega), fo (161 + i) (by omega) (by omega)]
      exact q3 i hi
    · have q : M2.1 0 50 = 0 := by rw [d4.2.1 50 (by decide), c3]; rfl
      exact ⟨Or.inl q, g5.trans q.symm, fun z => absurd (q.symm.trans z) (by decide)⟩
    · have q : M2.1 0 52 = 0 := by rw [d4.2.1 52 (by decide), c3]; rfl
      exact ⟨Or.inl q, g6.trans q.symm, fun z => absurd (q.symm.trans z) (by decide)⟩
    · exact ⟨0, by decide, g7, by rw [d4.2.1 58 (by decide), c3]; rfl, fun i hi => by omega⟩
    · have q : M2.1 0 63 = 0 := by rw [d4.2.1 63 (by decide), c3]; rfl
      have q' : Z.1 0 11 = 0 := by rw [g3, if_pos rfl]
      exact ⟨Or.inl q, q'.trans q.symm, fun z => absurd (q.symm.trans z) (by decide)⟩
  · -- a fault
    obtain ⟨f, f1, f2, f3, -⟩ := id hF
    have e3 : fX3_read n Sx s = some (X, 0) := by
      rw [e1]
      unfold fX3_read_j74 fX3_read_j88
      rw [f3, if_neg (nI_ne0 f1 (by omega)), if_neg (nI_ne0 f1 (by omega))]
    refine ⟨sI X 1 1 0, M, -1, ?_, ?_, B, b, bench_no hR hsb hk hm hF⟩
    · unfold fX10_bench
      rw [hr0, gd_pos kk, e3, bd_go, bn_go, if_pos rfl]
    · unfold fX11_bench
      rw [e2, bd_go, if_neg (Ft_0 hF).2]
end
