/-- the cells that few calls write -/
def coreF (a : Nat) : Prop := (3 ≤ a ∧ a ≤ 150) ∨ (157 ≤ a ∧ a ≤ 232) ∨ (234 ≤ a ∧ a ≤ 240) ∨ (263 ≤ a ∧ a ≤ 269)
def coreM (a : Nat) : Prop := a = 4 ∨ (13 ≤ a ∧ a ≤ 20) ∨ (32 ≤ a ∧ a ≤ 39) ∨ (42 ≤ a ∧ a ≤ 46)
def core0 (k : Nat) : Prop := (33 ≤ k ∧ k ≤ 36) ∨ k = 42 ∨ k = 70 ∨ k = 77 ∨ k = 78
theorem RMb_frame {B : Bd} {M M' : Nat → Nat → Int32} (h : RMb B M) (hM : ∀ a, coreM a → M' a = M a) (h0 : ∀ k, core0 k → M' 0 k = M 0 k) : RMb B M' := by
  unfold RMb at h ⊢
  rw [h0 33 (by unfold core0; omega), h0 34 (by unfold core0; omega), h0 35 (by unfold core0; omega), h0 36 (by unfold core0; omega), h0 42 (by unfold core0; omega), hM 4 (by unfold coreM; omega), hM 13 (by unfold coreM; omega), hM 14 (by unfold coreM; omega), hM 15 (by unfold coreM; omega), hM 16 (by unfold coreM; omega), hM 17 (by unfold coreM; omega), hM 18 (by unfold coreM; omega), hM 19 (by unfold coreM; omega), hM 20 (by unfold coreM; omega)]
  exact h
theorem Gl_frame {B : Bd} {F F' M M' : Nat → Nat → Int32} (h : Gl B F M) (h12 : F' 0 12 = F 0 12) (hF : ∀ a, coreF a → F' a = F a) (hM : ∀ a, coreM a → M' a = M a) (h0 : ∀ k, core0 k → M' 0 k = M 0 k) : Gl B F' M' := by
  unfold Gl at h ⊢
  rw [h12, h0 77 (by unfold core0; omega), h0 78 (by unfold core0; omega), hF 234 (by unfold coreF; omega), hF 235 (by unfold coreF; omega), hF 236 (by unfold coreF; omega), hF 237 (by unfold coreF; omega), hF 238 (by unfold coreF; omega), hF 239 (by unfold coreF; omega), hF 240 (by unfold coreF; omega), hM 34 (by unfold coreM; omega), hM 35 (by unfold coreM; omega), hM 36 (by unfold coreM; omega), hM 37 (by unfold coreM; omega), hM 38 (by unfold coreM; omega), hM 39 (by unfold coreM; omega)]
  exact h
theorem Glim_frame {F F' : Nat → Nat → Int32} (h : Glim F) (hF : ∀ a, coreF a → F' a = F a) : Glim F' := by
  unfold Glim at h ⊢
  rw [hF 4 (by unfold coreF; omega), hF 15 (by unfold coreF; omega), hF 22 (by unfold coreF; omega), hF 31 (by unfold coreF; omega), hF 38 (by unfold coreF; omega), hF 78 (by unfold coreF; omega), hF 89 (by unfold coreF; omega), hF 96 (by unfold coreF; omega), hF 105 (by unfold coreF; omega), hF 112 (by unfold coreF; omega)]
  exact h
theorem rel_core {B : Bd} {b : Nat} {Sx Sm Sx' Sm' : St} (h : RelB B b Sx Sm) (hF : ∀ a, coreF a → Sx'.1 a = Sx.1 a) (h12 : Sx'.1 0 12 = Sx.1 0 12) (hR : Sx'.2.2 0 = Sx.2.2 0 ∧ Sx'.2.2 243 = Sx.2.2 243) (hM : ∀ a, coreM a → Sm'.1 a = Sm.1 a) (h0 : ∀ k, core0 k → Sm'.1 0 k = Sm.1 0 k)
  (ht : Gt Sx'.1 Sx'.2.1 Sm'.1) (hv : Gv B Sx'.1 Sm'.1) (ha : Ga B Sx'.1 Sm'.1) (hn : Gn Sx'.1 Sm'.1) (hs : Gs B Sx'.1 Sx'.2.1 Sm'.1) (hw : Gw Sx'.1 Sm'.1) : RelB B b Sx' Sm' := by
  obtain ⟨hB, hr, hX, hlim, hM', -, -, hbx, hl, ho, -⟩ := h
  refine ⟨hB, ?_, RXb_frame hX (fun a q1 q2 => hF a (by unfold coreF; rcases hr.1 with q | q <;> omega)) hB, Glim_frame hlim hF, RMb_frame hM' hM h0, ht, hv, Gbx_frame hbx (fun a q1 q2 => hF a (by unfold coreF; omega)) (fun a q1 q2 => hM a (by unfold coreM; omega)), Gl_frame hl h12 hF hM h0, Go_frame ho (fun a q1 q2 => hF a (by unfold coreF; omega)) (h0 70 (by unfold core0; omega)) (hM 32 (by unfold coreM; omega)) (hM 33 (by unfold coreM; omega)), ha, hn, hs, hw⟩
  unfold Gr at hr ⊢
  rw [hR.1, hR.2]
  exact hr
theorem Gt_frame {F F' : Nat → Nat → Int32} {FL FL' : Nat → Nat → Int64} {M M' : Nat → Nat → Int32} (h : Gt F FL M) (h1 : F' 1 = F 1) (h2 : F' 2 = F 2) (h3 : F' 151 = F 151) (h4 : FL' 153 = FL 153) (m1 : M' 1 = M 1) (m0 : ∀ k, k ≤ 3 → M' 0 k = M 0 k) : Gt F' FL' M' := by
  unfold Gt at h ⊢
  rw [h1, h2, h3, h4, m1, m0 1 (by omega), m0 2 (by omega), m0 3 (by omega)]
  exact h
/-- bytes -/
def bX (x s : Int32) : Int32 := vp_nar .byte (((((x).toUInt32 >>> ((s : Int32).toUInt32 &&& Int32.toUInt32 31)).toInt32) : Int32).toInt8.toInt32)
def bM (x s : Int32) : Int32 := (x >>> (s &&& 31)) &&& 255
theorem and255 (y : Int32) : ∃ v : Nat, v < 256 ∧ y &&& 255 = nI v := by
  refine ⟨(y &&& 255).toBitVec.toNat, ?_, ?_⟩
  · show (y.toBitVec &&& 255#32).toNat < 256
    rw [BitVec.toNat_and]
    exact Nat.lt_of_le_of_lt Nat.and_le_right (by decide)
  · apply Int32.toBitVec_inj.mp
    show _ = BitVec.ofNat 32 _
    rw [BitVec.ofNat_toNat, BitVec.setWidth_eq]
theorem nar_byte (y : Int32) : vp_nar .byte (y.toInt8.toInt32) = y.toInt8.toInt32 := by
  show (y.toInt8.toInt32).toInt8.toInt32 = y.toInt8.toInt32
  rw [Int8.toInt8_toInt32]
theorem byte_eq (x s : Int32) (hs : s = 24 ∨ s = 16 ∨ s = 8 ∨ s = 0) : bX x s = (bM x s).toInt8.toInt32 := by
  unfold bX bM
  rw [nar_byte]
  refine congrArg Int8.toInt32 (Int8.toBitVec_inj.mp ?_)
  have h : ∀ k : Nat, k ≤ 24 → ((x.toBitVec >>> k).signExtend 8) = ((x.toBitVec.sshiftRight k &&& 255#32).signExtend 8) := by
    intro k hk
    apply BitVec.eq_of_getLsbD_eq
    intro i hi
    have e : (255#32).getLsbD i = true := by
      have : ∀ i : Fin 8, (255#32).getLsbD i = true := by decide
      exact this ⟨i, hi⟩
    rw [BitVec.getLsbD_signExtend, BitVec.getLsbD_signExtend, BitVec.getLsbD_and, e, BitVec.getLsbD_ushiftRight, BitVec.getLsbD_sshiftRight]
    simp [show i < 32 by omega, show k + i < 32 by omega, show ¬ 32 ≤ i by omega]
  rcases hs with rfl | rfl | rfl | rfl
  · exact h 24 (by omega)
  · exact h 16 (by omega)
  · exact h 8 (by omega)
  · exact h 0 (by omega)
theorem byte_rel (x s : Int32) (hs : s = 24 ∨ s = 16 ∨ s = 8 ∨ s = 0) : ∃ v : Nat, v < 256 ∧ bM x s = nI v ∧ bX x s = (nI v).toInt8.toInt32 := by
  obtain ⟨v, h1, h2⟩ := and255 (x >>> (s &&& 31))
  exact ⟨v, h1, h2, by rw [byte_eq x s hs]; exact congrArg (fun z : Int32 => z.toInt8.toInt32) h2⟩
theorem put_one {n j t : Nat} {S : St} {x s : Int32} (ht : t < 1700) (h : S.1 1 1 = nI t) (hs : ¬ s < 0) : fX6_put_l3 n (j + 1) S x s = fX6_put_l3 n j (sI (sI S 2 t (bX x s)) 1 1 (nI (t + 1))) x (s + -8) := by
  rw [fX6_put_l3, if_neg hs, h, if_neg (show ¬ (1700 : Int32) ≤ nI t from nI_ge (b := 1700) ht (by decide)), gd_pos (ib_nI ht (by decide)), bn_go, bn_go, cl_nI (by omega), sI_ne (by decide), h, nI_1]
  rfl
theorem four_one {n j t : Nat} {S : St} {x s : Int32} (ht : t < 1700) (h : S.1 0 1 = nI t) (hs : ¬ s < 0) : fX11_four_l3 n (j + 1) S x s = fX11_four_l3 n j (sI (sI S 1 t (bM x s)) 0 1 (nI (t + 1))) x (s + -8) := by
  rw [fX11_four_l3, if_neg hs, h, gd_pos (ib_nI ht (by decide)), bn_go, bn_go, bn_go, cl_nI (by omega), sI_ne (by decide), h, nI_1]
  rfl
def Tp (t : Nat) (Sx Sm : St) : Prop := Sx.1 1 1 = nI t ∧ Sm.1 0 1 = nI t ∧ ∀ i, i < t → ∃ v : Nat, v < 256 ∧ Sm.1 1 i = nI v ∧ Sx.1 2 i = (nI v).toInt8.toInt32
theorem Tp_one {t : Nat} {Sx Sm : St} {x s : Int32} (hs : s = 24 ∨ s = 16 ∨ s = 8 ∨ s = 0) (h : Tp t Sx Sm) : Tp (t + 1) (sI (sI Sx 2 t (bX x s)) 1 1 (nI (t + 1))) (sI (sI Sm 1 t (bM x s)) 0 1 (nI (t + 1))) := by
  refine ⟨rfl, rfl, fun i hi => ?_⟩
  show ∃ v : Nat, v < 256 ∧ upd (Sm.1 1) t (bM x s) i = nI v ∧ upd (Sx.1 2) t (bX x s) i = (nI v).toInt8.toInt32
  unfold upd
  by_cases q : i = t
  · rw [if_pos q, if_pos q]; exact byte_rel x s hs
  · rw [if_neg q, if_neg q]; exact h.2.2 i (by omega)
/-- what the tape leaves alone -/
def kT (Sx Sm Sx' Sm' : St) : Prop := (∀ a, a ≠ 1 → a ≠ 2 → Sx'.1 a = Sx.1 a) ∧ Sx'.2 = Sx.2 ∧ (∀ a, a ≠ 0 → a ≠ 1 → Sm'.1 a = Sm.1 a) ∧ (∀ k, k ≠ 1 → Sm'.1 0 k = Sm.1 0 k) ∧ Sm'.2 = Sm.2
theorem kT_tr {A B C D E G : St} (h : kT A B C D) (g : kT C D E G) : kT A B E G :=
  ⟨fun a q r => (g.1 a q r).trans (h.1 a q r), g.2.1.trans h.2.1, fun a q r => (g.2.2.1 a q r).trans (h.2.2.1 a q r), fun a q => (g.2.2.2.1 a q).trans (h.2.2.2.1 a q), g.2.2.2.2.trans h.2.2.2.2⟩
theorem kT_one {Sx Sm : St} {t : Nat} {x y u v : Int32} : kT Sx Sm (sI (sI Sx 2 t x) 1 1 u) (sI (sI Sm 1 t y) 0 1 v) := by
  refine ⟨fun a q r => by rw [sI_ne q, sI_ne r], rfl, fun a q r => by rw [sI_ne q, sI_ne r], fun k hk => ?_, rfl⟩
  show upd (Sm.1 0) 1 v k = Sm.1 0 k
  unfold upd
  rw [if_neg hk]
theorem put_four {n t : Nat} {Sx Sm : St} {x : Int32} (hn : 200000 ≤ n) (ht : t + 4 ≤ 1700) (h : Tp t Sx Sm) : ∃ Sx' Sm', fX6_put n Sx x = some (Sx', ()) ∧ fX11_four n Sm x = some (Sm', ()) ∧ Tp (t + 4) Sx' Sm' ∧ kT Sx Sm Sx' Sm' := by
  obtain ⟨m, rfl⟩ : ∃ m, n = m + 5 := ⟨n - 5, by omega⟩
  have h1 := Tp_one (x := x) (s := 24) (by decide) h
  have h2 := Tp_one (x := x) (s := 16) (by decide) h1
  have h3 := Tp_one (x := x) (s := 8) (by decide) h2
  have h4 := Tp_one (x := x) (s := 0) (by decide) h3
  have k4 := kT_tr (kT_tr (kT_tr (kT_one (Sx := Sx) (Sm := Sm) (t := t) (x := bX x 24) (y := bM x 24) (u := nI (t + 1)) (v := nI (t + 1))) (kT_one (t := t + 1) (x := bX x 16) (y := bM x 16) (u := nI (t + 1 + 1)) (v := nI (t + 1 + 1)))) (kT_one (t := t + 1 + 1) (x := bX x 8) (y := bM x 8) (u := nI (t + 1 + 1 + 1)) (v := nI (t + 1 + 1 + 1)))) (kT_one (t := t + 1 + 1 + 1) (x := bX x 0) (y := bM x 0) (u := nI (t + 1 + 1 + 1 + 1)) (v := nI (t + 1 + 1 + 1 + 1)))
  refine ⟨_, _, ?_, ?_, h4, k4⟩
  · unfold fX6_put
    rw [put_one (by omega) h.1 (by decide), show (24 : Int32) + -8 = 16 from rfl, put_one (by omega) h1.1 (by decide), show (16 : Int32) + -8 = 8 from rfl, put_one (by omega) h2.1 (by decide), show (8 : Int32) + -8 = 0 from rfl, put_one (by omega) h3.1 (by decide), fX6_put_l3, if_pos (by decide)]
  · unfold fX11_four
    rw [four_one (by omega) h.2.1 (by decide), show (24 : Int32) + -8 = 16 from rfl, four_one (by omega) h1.2.1 (by decide), show (16 : Int32) + -8 = 8 from rfl, four_one (by omega) h2.2.1 (by decide), show (8 : Int32) + -8 = 0 from rfl, four_one (by omega) h3.2.1 (by decide), fX11_four_l3, if_pos (by decide)]
section
variable {n : Nat} {Sx Sm : St}
theorem ok_feed (hn : 200000 ≤ n) (h : Rel Sx Sm) : Ok_feed n Rel Sx Sm := by
  intro x1 x2 x3 x4 x5
  obtain ⟨B, b, hR⟩ := id h
  obtain ⟨hB, hr, hX, hlim, hM, ⟨⟨t, t1, t2, t3, t4⟩, t5, t6, t7⟩, hv, hbx, hl, ho, ha, hnn, hs, hw⟩ := id hR
  unfold fX10_feed fX11_feed fX6_hasRoom
  rw [t2, t3]
  by_cases c : t + 20 ≤ 1700
  · have c1 : ¬ (1700 : Int32) < nI t + 20 := by
      rw [show (20 : Int32) = nI 20 from rfl, nI_add]
      show ¬ nI 1700 < nI (t + 20)
      rw [nI_ltI (by omega) (by omega)]
      omega
    have c2 : nI t + 20 ≤ (1700 : Int32) := by
      rw [show (20 : Int32) = nI 20 from rfl, nI_add]
      show nI (t + 20) ≤ nI 1700
      rw [nI_leI (by omega) (by omega)]
      omega
    rw [if_neg c1, if_pos c2, bd_go, if_neg (by decide)]
    have p0 : Tp t Sx Sm := ⟨t2, t3, t4⟩
    obtain ⟨X1, M1, a1, b1, p1, q1⟩ := put_four (x := x1) hn (by omega) p0
    obtain ⟨X2, M2, a2, b2, p2, q2⟩ := put_four (x := x2) hn (by omega) p1
    obtain ⟨X3, M3, a3, b3, p3, q3⟩ := put_four (x := x3) hn (by omega) p2
    obtain ⟨X4, M4, a4, b4, p4, q4⟩ := put_four (x := x4) hn (by omega) p3
    obtain ⟨X5, M5, a5, b5, p5, q5⟩ := put_four (x := x5) hn (by omega) p4
    rw [a1, bd_go, a2, bd_go, a3, bd_go, a4, bd_go, a5, bd_go, b1, bd_go, b2, bd_go, b3, bd_go, b4, bd_go, b5, bd_go, p5.1, p5.2.1]
    obtain ⟨k1, k2, k3, k4, k5⟩ := kT_tr (kT_tr (kT_tr (kT_tr q1 q2) q3) q4) q5
    refine ⟨X5, M5, _, rfl, rfl, B, b, rel_core hR (fun a q => k1 a ?_ ?_) ?_ ?_ (fun a q => k3 a ?_ ?_) (fun k q => k4 k ?_) ?_ ?_ ?_ ?_ ?_ ?_⟩
    · intro e; subst e; unfold coreF at q; omega
    · intro e; subst e; unfold coreF at q; omega
    · rw [k1 0 (by decide) (by decide)]
    · rw [k2]; exact ⟨rfl, rfl⟩
    · intro e; subst e; unfold coreM at q; omega
    · intro e; subst e; unfold coreM at q; omega
    · intro e; subst e; unfold core0 at q; omega
    · refine ⟨⟨t + 4 + 4 + 4 + 4 + 4, by omega, p5⟩, ?_, ?_, ?_⟩
      · rw [k1 151 (by decide) (by decide), k4 2 (by decide)]; exact t5
      · rw [k1 151 (by decide) (by decide), k4 3 (by decide)]; exact t6
      · rw [k2]; exact t7
    · unfold Gv Vok at hv ⊢
      rw [k1 261 (by decide) (by decide), k1 262 (by decide) (by decide), k3 31 (by decide) (by decide), k4 65 (by decide), k4 66 (by decide), k4 67 (by decide)]; exact hv
    · unfold Ga at ha ⊢
      rw [k1 243 (by decide) (by decide), k4 50 (by decide), k4 46 (by decide), k4 47 (by decide), k4 48 (by decide), k4 49 (by decide)]; exact ha
    · unfold Gn at hnn ⊢
      rw [k1 243 (by decide) (by decide), k1 260 (by decide) (by decide), k4 52 (by decide), k3 24 (by decide) (by decide)]; exact hnn
    · unfold Gs at hs ⊢
      rw [k1 243 (by decide) (by decide), k2, k4 58 (by decide), k3 27 (by decide) (by decide), k3 26 (by decide) (by decide)]; exact hs
    · unfold Gw at hw ⊢
      rw [k1 0 (by decide) (by decide), k1 271 (by decide) (by decide), k4 63 (by decide), k3 29 (by decide) (by decide)]; exact hw
  · have c1 : (1700 : Int32) < nI t + 20 := by
      rw [show (20 : Int32) = nI 20 from rfl, nI_add]
      show nI 1700 < nI (t + 20)
      rw [nI_ltI (by omega) (by omega)]
      omega
    have c2 : ¬ nI t + 20 ≤ (1700 : Int32) := by
      rw [show (20 : Int32) = nI 20 from rfl, nI_add]
      show ¬ nI (t + 20) ≤ nI 1700
      rw [nI_leI (by omega) (by omega)]
      omega
    exact ⟨Sx, Sm, -1, by rw [if_pos c1, bd_go, if_pos rfl], by rw [if_neg c2], h⟩
end
/-- what the vat's calls leave alone -/
def kV (Sx Sm Sx' Sm' : St) : Prop := (∀ a, a ≠ 261 → a ≠ 262 → Sx'.1 a = Sx.1 a) ∧ Sx'.2 = Sx.2 ∧ (∀ a, a ≠ 0 → a ≠ 31 → Sm'.1 a = Sm.1 a) ∧ (∀ k, k ≠ 65 → k ≠ 66 → k ≠ 67 → Sm'.1 0 k = Sm.1 0 k) ∧ Sm'.2 = Sm.2
theorem kV_rf {A B : St} : kV A B A B := ⟨fun _ _ _ => rfl, rfl, fun _ _ _ => rfl, fun _ _ _ _ => rfl, rfl⟩
theorem kV_tr {A B C D E G : St} (h : kV A B C D) (g : kV C D E G) : kV A B E G :=
  ⟨fun a q r => (g.1 a q r).trans (h.1 a q r), g.2.1.trans h.2.1, fun a q r => (g.2.2.1 a q r).trans (h.2.2.1 a q r), fun a q r s => (g.2.2.2.1 a q r s).trans (h.2.2.2.1 a q r s), g.2.2.2.2.trans h.2.2.2.2⟩
theorem upd_ne {f : Nat → Int32} {k j : Nat} {v : Int32} (h : j ≠ k) : upd f k v j = f j := if_neg h
theorem upd_eq {f : Nat → Int32} {k : Nat} {v : Int32} : upd f k v k = v := if_pos rfl
theorem kV_p {Sx Sm : St} {d e : Nat} {x y : Int32} : kV Sx Sm (sI Sx 262 d x) (sI Sm 31 e y) := ⟨fun a q r => sI_ne r, rfl, fun a q r => sI_ne r, fun k _ _ _ => rfl, rfl⟩
theorem kV_o {Sx Sm : St} {d e : Nat} {x y : Int32} (he : e = 65 ∨ e = 66 ∨ e = 67) : kV Sx Sm (sI Sx 261 d x) (sI Sm 0 e y) := ⟨fun a q r => sI_ne q, rfl, fun a q r => sI_ne q, fun k q1 q2 q3 => by rw [sI_row]; exact upd_ne (by omega), rfl⟩
theorem rel_vat {B : Bd} {b : Nat} {Sx Sm Sx' Sm' : St} (h : RelB B b Sx Sm) (k : kV Sx Sm Sx' Sm') (hv : Gv B Sx'.1 Sm'.1) : RelB B b Sx' Sm' := by
  obtain ⟨hB, hr, hX, hlim, hM, ht, -, hbx, hl, ho, ha, hnn, hs, hw⟩ := id h
  obtain ⟨k1, k2, k3, k4, k5⟩ := k
  refine rel_core h (fun a q => k1 a ?_ ?_) ?_ ?_ (fun a q => k3 a ?_ ?_) (fun k q => k4 k ?_ ?_ ?_) ?_ hv ?_ ?_ ?_ ?_
  · intro e; subst e; unfold coreF at q; omega
  · intro e; subst e; unfold coreF at q; omega
  · rw [k1 0 (by decide) (by decide)]
  · rw [k2]; exact ⟨rfl, rfl⟩
  · intro e; subst e; unfold coreM at q; omega
  · intro e; subst e; unfold coreM at q; omega
  · intro e; subst e; unfold core0 at q; omega
  · intro e; subst e; unfold core0 at q; omega
  · intro e; subst e; unfold core0 at q; omega
  · exact Gt_frame ht (k1 1 (by decide) (by decide)) (k1 2 (by decide) (by decide)) (k1 151 (by decide) (by decide)) (by rw [k2]) (k3 1 (by decide) (by decide)) (fun k hk => k4 k (by omega) (by omega) (by omega))
  · unfold Ga at ha ⊢
    rw [k1 243 (by decide) (by decide), k4 50 (by decide) (by decide) (by decide), k4 46 (by decide) (by decide) (by decide), k4 47 (by decide) (by decide) (by decide), k4 48 (by decide) (by decide) (by decide), k4 49 (by decide) (by decide) (by decide)]; exact ha
  · unfold Gn at hnn ⊢
    rw [k1 243 (by decide) (by decide), k1 260 (by decide) (by decide), k4 52 (by decide) (by decide) (by decide), k3 24 (by decide) (by decide)]; exact hnn
  · unfold Gs at hs ⊢
    rw [k1 243 (by decide) (by decide), k2, k4 58 (by decide) (by decide) (by decide), k3 27 (by decide) (by decide), k3 26 (by decide) (by decide)]; exact hs
  · unfold Gw at hw ⊢
    rw [k1 0 (by decide) (by decide), k1 271 (by decide) (by decide), k4 63 (by decide) (by decide) (by decide), k3 29 (by decide) (by decide)]; exact hw
theorem sumN_upd {p : Nat → Nat} {d v : Nat} : ∀ {k : Nat}, d < k → sumN (fun i => if i = d then v else p i) k + p d = sumN p k + v := by
  have h0 : ∀ k, k ≤ d → sumN (fun i => if i = d then v else p i) k = sumN p k := by
    intro k
    induction k with
    | zero => intro _; rfl
    | succ k ih => intro h; rw [sumN, sumN, ih (by omega), if_neg (by omega)]
  intro k
  induction k with
  | zero => intro h; omega
  | succ k ih =>
    intro h
    rw [sumN, sumN]
    by_cases q : k = d
    · subst q
      rw [h0 k (by omega), if_pos rfl]
      omega
    · rw [if_neg q]
      have := ih (by omega)
      omega
theorem sumN_ge {p : Nat → Nat} {d : Nat} : ∀ {k : Nat}, d < k → p d ≤ sumN p k
  | 0, h => by omega
  | k + 1, h => by
    rw [sumN]
    by_cases q : d = k
    · subst q; omega
    · have := sumN_ge (p := p) (d := d) (k := k) (by omega); omega
theorem Vok_upd {B : Bd} {f : Nat → Int32} {g : Int32} {p : Nat → Nat} (h8 : b_nd B ≤ 8) (h1 : ∀ d, d < 8 → f d = nI (p d)) (h2 : ∀ d, b_nd B ≤ d → p d = 0) (hg : ∃ k : Nat, g = nI k ∧ (k < b_ng B ∨ k = 0)) {d v : Nat} (hd : d < b_nd B) (hv : sumN p 8 + v ≤ b_most B + p d) : Vok B (upd f d (nI v)) g ∧ sumI (upd f d (nI v)) 8 = nI (sumN p 8 + v - p d) := by
  have e := sumN_upd (p := p) (v := v) (show d < 8 by omega)
  have e1 : ∀ i, i < 8 → upd f d (nI v) i = nI ((fun i => if i = d then v else p i) i) := by
    intro i hi
    show upd f d (nI v) i = nI (if i = d then v else p i)
    unfold upd
    by_cases q : i = d
    · rw [if_pos q, if_pos q]
    · rw [if_neg q, if_neg q, h1 i hi]
  refine ⟨⟨⟨fun i => if i = d then v else p i, e1, fun i hi => ?_, ?_⟩, hg⟩, ?_⟩
  · show (if i = d then v else p i) = 0
    rw [if_neg (by omega), h2 i hi]
  · omega
  · rw [sumI_nI e1]
    congr 1
    omega
theorem Gv_upd {B : Bd} {Sx Sm : St} {p : Nat → Nat} (h8 : b_nd B ≤ 8) (h : Gv B Sx.1 Sm.1) (h1 : ∀ d, d < 8 → Sm.1 31 d = nI (p d)) (h2 : ∀ d, b_nd B ≤ d → p d = 0) {d v : Nat} (hd : d < b_nd B) (hv : sumN p 8 + v ≤ b_most B + p d) : Gv B (sI Sx 262 d (nI v)).1 (sI Sm 31 d (nI v)).1 ∧ sumI ((sI Sm 31 d (nI v)).1 31) 8 = nI (sumN p 8 + v - p d) := by
  obtain ⟨v1, v2, v3, v4, -, hg⟩ := h
  obtain ⟨e1, e2⟩ := Vok_upd h8 h1 h2 hg hd hv
  refine ⟨⟨fun i hi => ?_, v2, v3, v4, e1⟩, e2⟩
  show upd (Sx.1 262) d (nI v) i = upd (Sm.1 31) d (nI v) i
  unfold upd
  rw [v1 i hi]
def dr (w : Int32) : Int32 := w * 1103515245 + 12345
def rr (w : Int32) : Int32 := ((w.toUInt32 >>> ((16 : Int32).toUInt32 &&& Int32.toUInt32 31)).toInt32) - ((w.toUInt32 >>> ((16 : Int32).toUInt32 &&& Int32.toUInt32 31)).toInt32) / 10 * 10
theorem drawX {n : Nat} {S : St} : fX8_drawOfTen sdX n S 261 = some (sI S 261 3 (dr (S.1 261 3)), rr (dr (S.1 261 3))) := by
  unfold fX8_drawOfTen dr
  rw [gd_pos (by decide)]
  generalize S.1 261 3 * 1103515245 + 12345 = v
  rw [bn_go, sI_row, upd_eq]
  unfold rr
  rfl
theorem drawM {n : Nat} {S : St} : fX11_draw n S 10 = some (sI S 0 67 (dr (S.1 0 67)), rr (dr (S.1 0 67))) := by
  unfold fX11_draw dr
  generalize S.1 0 67 * 1103515245 + 12345 = v
  rw [bn_go, gd_pos (by decide), sI_row, upd_eq]
  unfold rr
  rfl
theorem draws {n : Nat} {X M : St} (h : X.1 261 3 = M.1 0 67) : ∃ y z : Int32, fX8_drawOfTen sdX n X 261 = some (sI X 261 3 y, z) ∧ fX11_draw n M 10 = some (sI M 0 67 y, z) :=
  ⟨_, _, drawX, by rw [h]; exact drawM⟩
theorem isIn1 {n : Nat} {S : St} {x lo hi : Int32} : fX11_isIn n S x lo hi = some (S, if x < lo then 0 else if hi < x then 0 else 1) := by
  unfold fX11_isIn
  split
  · rfl
  · split <;> rfl
section
variable {n : Nat} {Sx Sm : St}
theorem ok_drop (hn : 200000 ≤ n) (hn2 : n < 2 ^ 31) (h : Rel Sx Sm) : Ok_drop n Rel Sx Sm := by
  intro x1 x2
  obtain ⟨B, b, hR⟩ := id h
  obtain ⟨hB, ⟨hb, hr, hr2⟩, hX, hlim, hM, ht, hv, hbx, hl, ho, ha, hnn, hs, hw⟩ := id hR
  obtain ⟨k1, ⟨k2, k2', -⟩, k3, k3', -⟩ := bk hb
  have h8 : b_nd B ≤ 8 := hB.2.2.2.2.2.1
  have hg4 : b_ng B ≤ 4 := hB.2.2.2.2.2.2.1
  have hmo : b_most B ≤ 24 := hB.2.1.2
  have xm : Sx.1 b 10 = nI (b_most B) := hX.2.1
  have xs : Sx.1 b 12 = nI (b_slip B) := hX.2.2.2.1
  have mm : Sm.1 0 34 = nI (b_most B) := hM.2.1
  have ms : Sm.1 0 36 = nI (b_slip B) := hM.2.2.2.1
  have xg : Sx.1 (b + 12) 3 = nI (b_ng B) := hX.2.2.2.2.2.2.1
  have mg : Sm.1 4 1 = nI (b_ng B) := hM.2.2.2.2.2.2.1
  have hbne : b ≠ 261 ∧ b ≠ 262 := by rcases hb with q | q <;> omega
  obtain ⟨v1, v2, v3, v4, ⟨p, p1, p2, p3⟩, v6⟩ := id hv
  have es : sumI (Sm.1 31) 8 = nI (sumN p 8) := sumI_nI p1
  have esx : sumI (Sx.1 262) 8 = nI (sumN p 8) := sumI_nI (fun d hd => by rw [v1 d hd, p1 d hd])
  unfold fX10_drop fX11_drop
  rw [isDye_spec hM hB, bd_go, hr, gd_pos k1, k2, gd_pos k3, has_spec k3 hX.2.2.2.2.2.1, bd_go]
  by_cases c1 : inR x1 (b_nd B) = 0
  · exact ⟨Sx, Sm, -1, by rw [if_pos c1], by rw [if_pos c1], h⟩
  rw [if_neg c1, if_neg c1, hr, gd_pos k1, k2', gd_pos k3', xg, isIn1, bd_go]
  by_cases c2 : x2 < 1
  · refine ⟨Sx, Sm, -1, ?_, by rw [if_pos c2, if_pos rfl], h⟩
    split
    · rfl
    · first | rfl | rw [if_pos c2]
  rw [if_neg c2, if_neg c2]
  by_cases c3 : 24 < x2
  · have c3' : ¬ x2 ≤ 24 := by
      rw [Int32.lt_iff_toInt_lt] at c3
      rw [Int32.le_iff_toInt_le]
      omega
    refine ⟨Sx, Sm, -1, ?_, by rw [if_pos c3, if_pos rfl], h⟩
    split
    · rfl
    · first | rfl | rw [if_neg c3']
  have c3' : x2 ≤ 24 := by
    rw [Int32.lt_iff_toInt_lt] at c3
    rw [Int32.le_iff_toInt_le]
    omega
  rw [if_neg c3, if_neg (show ¬ (1 : Int32) = 0 by decide), if_pos c3']
  have c2' : ¬ x2 < 0 := by
    rw [Int32.lt_iff_toInt_lt] at c2 ⊢
    have e1 : (1 : Int32).toInt = 1 := rfl
    have e0 : (0 : Int32).toInt = 0 := rfl
    omega
  obtain ⟨c, hc, rfl⟩ := nI_of c2'
  have c4 : c ≤ 24 := by
    have : nI c ≤ nI 24 := c3'
    rw [nI_leI hc (by decide)] at this
    exact this
  rw [inVat_spec hn, bd_go, es, mm, nI_add]
  by_cases c5 : b_ng B = 0
  · refine ⟨Sx, Sm, -1, by rw [if_pos (by rw [c5]; rfl)], ?_, h⟩
    split
    · rfl
    · rw [gd_pos (show ib 1 5 by decide), if_pos (show Sm.1 4 (Int32.toNatClampNeg 1) = 0 by show Sm.1 4 1 = 0; rw [mg, c5]; rfl)]
  have c5' : ¬ nI (b_ng B) = 0 := fun q => by
    have : nI (b_ng B) = nI 0 := q
    rw [nI_eq (by omega) (by decide)] at this
    omega
  rw [if_neg c5', total_spec hn, bd_go, esx, hr, gd_pos k1, xm, nI_add]
  by_cases c6 : sumN p 8 + c ≤ b_most B
  · rw [if_pos (nI_le c6 (by omega)), if_neg (by rw [nI_ltI (by omega) (by omega)]; omega), gd_pos (show ib 1 5 by decide), if_neg (show ¬ Sm.1 4 (Int32.toNatClampNeg 1) = 0 by show ¬ Sm.1 4 1 = 0; rw [mg]; exact c5')]
    obtain ⟨d, hd, rfl⟩ := inR_of (by omega) c1
    have e8 : ib (nI d) 8 := ib_nI (by omega) (by decide)
    simp only [gd_pos e8, bn_go, cl_nI (show d < 2 ^ 31 by omega), v1 d (show d < 8 by omega), p1 d (show d < 8 by omega), nI_add]
    obtain ⟨g1, g2⟩ := Gv_upd h8 hv p1 p2 (v := p d + c) hd (by omega)
    have q1 : kV Sx Sm (sI Sx 262 d (nI (p d + c))) (sI Sm 31 d (nI (p d + c))) := kV_p
    generalize hX1 : sI Sx 262 d (nI (p d + c)) = X1 at g1 q1 ⊢
    generalize hM1 : sI Sm 31 d (nI (p d + c)) = M1 at g1 g2 q1 ⊢
    have r1 : X1.2.2 0 2 = b := by rw [q1.2.1]; exact hr
    have xs1 : X1.1 b 12 = nI (b_slip B) := by rw [q1.1 b hbne.1 hbne.2]; exact xs
    have ms1 : M1.1 0 36 = nI (b_slip B) := by rw [q1.2.2.2.1 36 (by decide) (by decide) (by decide)]; exact ms
    rw [r1, gd_pos k1, xs1, ms1]
    by_cases c7 : nI (b_slip B) = 0
    · rw [if_pos c7, if_pos c7]
      unfold fX10_drop_j105 fX10_drop_j106
      exact ⟨X1, M1, nI c, by rw [if_pos rfl], rfl, B, b, rel_vat hR q1 g1⟩
    obtain ⟨w1, w2, w3, w4, w5⟩ := id g1
    obtain ⟨y, z, d1, d2⟩ := draws (n := n) w4
    rw [if_neg c7, if_neg c7, d1, d2, bd_go, bd_go]
    have g3 : Gv B (sI X1 261 3 y).1 (sI M1 0 67 y).1 := ⟨w1, w2, w3, rfl, w5⟩
    have g4 : sumI ((sI M1 0 67 y).1 31) 8 = nI (sumN p 8 + (p d + c) - p d) := g2
    have q2 := kV_tr q1 (kV_o (Sx := X1) (Sm := M1) (d := 3) (e := 67) (x := y) (y := y) (by decide))
    generalize sI X1 261 3 y = X2 at g3 q2 ⊢
    generalize sI M1 0 67 y = M2 at g3 g4 q2 ⊢
    have r2 : X2.2.2 0 2 = b := by rw [q2.2.1]; exact hr
    have xs2 : X2.1 b 12 = nI (b_slip B) := by rw [q2.1 b hbne.1 hbne.2]; exact xs
    have xm2 : X2.1 b 10 = nI (b_most B) := by rw [q2.1 b hbne.1 hbne.2]; exact xm
    have ms2 : M2.1 0 36 = nI (b_slip B) := by rw [q2.2.2.2.1 36 (by decide) (by decide) (by decide)]; exact ms
    have mm2 : M2.1 0 34 = nI (b_most B) := by rw [q2.2.2.2.1 34 (by decide) (by decide) (by decide)]; exact mm
    rw [r2, gd_pos k1, xs2, ms2]
    by_cases c8 : nI (b_slip B) ≤ z
    · rw [if_pos c8, if_pos c8]
      unfold fX10_drop_j105 fX10_drop_j106
      exact ⟨X2, M2, nI c, by rw [if_pos rfl], rfl, B, b, rel_vat hR q2 g3⟩
    rw [if_neg c8, if_neg c8, inVat_spec hn, bd_go, g4, mm2]
    unfold fX10_drop_j106
    rw [if_neg (by decide), total_spec hn, bd_go, r2, gd_pos k1, xm2, show sumI (X2.1 262) 8 = sumI (M2.1 31) 8 from sumI_congr g3.1, g4]
    by_cases c9 : sumN p 8 + (p d + c) - p d < b_most B
    · rw [if_pos (nI_lt c9 (by omega)), if_neg (by rw [nI_eq (by omega) (by omega)]; omega), gd_pos e8, gd_pos e8, bn_go, cl_nI (by omega), g3.1 d (by omega)]
      obtain ⟨-, -, -, -, ⟨p', p1', p2', p3'⟩, -⟩ := id g3
      have e3 : sumN p' 8 = sumN p 8 + (p d + c) - p d := by
        have : nI (sumN p' 8) = nI (sumN p 8 + (p d + c) - p d) := (sumI_nI p1').symm.trans g4
        rw [nI_eq (by omega) (by omega)] at this
        exact this
      obtain ⟨g5, -⟩ := Gv_upd h8 g3 p1' p2' (v := p' d + 1) hd (by omega)
      rw [p1' d (by omega), nI_1]
      exact ⟨_, _, _, rfl, rfl, B, b, rel_vat hR (kV_tr q2 kV_p) g5⟩
    · rw [if_neg (by rw [nI_ltI (by omega) (by omega)]; omega), if_pos (by rw [nI_eq (by omega) (by omega)]; omega)]
      exact ⟨X2, M2, nI c, rfl, rfl, B, b, rel_vat hR q2 g3⟩
  · rw [if_neg (by rw [nI_leI (by omega) (by omega)]; omega), if_pos (nI_lt (by omega) (by omega))]
    exact ⟨Sx, Sm, -1, rfl, rfl, h⟩
end
