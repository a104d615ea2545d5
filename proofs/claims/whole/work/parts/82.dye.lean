theorem bd_as {α β ρ : Type} {x : Option (St × α)} {f : St → α → Option (St × β)} {g : St → β → Option ρ} : bd (bd x f) g = bd x (fun S a => bd (f S a) g) := by
  cases x <;> rfl
theorem bd_ite {α ρ : Type} {p : Prop} [Decidable p] {x y : Option (St × α)} {g : St → α → Option ρ} : bd (if p then x else y) g = if p then bd x g else bd y g := by
  split <;> rfl
def dyT3 (n d : Nat) (S : St) : Option (St × Unit) := bd (fX11_readBands n S 5 (nI (16 * d)) 99) (fun S _ => fX11_readLine_j220 n (if S.1 0 2 = 0 then sI S 3 0 (S.1 3 0 + 1) else S))
def dyT2 (n d : Nat) (S : St) : Option (St × Unit) := bd (fX11_told n S 1717662580 0 99) (fun S9 r => dyT3 n d (sI S9 10 d r))
def dyT1 (n d : Nat) (S : St) : Option (St × Unit) := bd (fX11_told n S 482955846501 0 99) (fun S5 r => dyT2 n d (sI S5 9 d r))
theorem dyM {n d : Nat} {M : St} (h : M.1 3 0 = nI d) (hd : d < 8) : bd (fX11_readDye n M) (fun S _ => fX11_readLine_j220 n S) = bd (fX11_readName n M 0) (fun S3 _ => dyT1 n d S3) := by
  have e16 : (16 : Int32) * nI d = nI (16 * d) := pk_mul 16 _
  have c0 : Int32.toNatClampNeg 0 = 0 := by decide
  unfold fX11_readDye dyT1 dyT2 dyT3
  rw [gd_pos (show ib 0 5 by decide), bn_go]
  simp only [c0, h]
  rw [bd_as]
  congr 1
  funext S3 _
  rw [bd_as]
  congr 1
  funext S5 r6
  rw [gd_pos (ib_nI hd (by decide)), bn_go]
  simp only [cl_nI (show d < 2 ^ 31 by omega)]
  rw [bd_as]
  congr 1
  funext S9 r10
  rw [gd_pos (ib_nI hd (by decide)), bn_go, bd_as, e16]
  congr 1
  funext S13 _
  by_cases c : S13.1 0 2 = 0
  · rw [if_pos c, if_pos c, gd_pos (show ib 0 5 by decide), gd_pos (show ib 0 5 by decide), bn_go, bd_go]
  · rw [if_neg c, if_neg c, bd_go]
section
variable {n s c t : Nat} {K P Q R V A : Nat → Nat} {X0 M0 X M : St} {i q : Nat} {N H : Nat → Nat}
theorem Ft_bands (hn : 200000 ≤ n) (h : Ft X M) {a : Nat} {x y : Int32} : fX11_readBands n M a x y = some (M, ()) := by
  unfold fX11_readBands
  rw [Ft_want h, bd_go]
  have : ∀ f, fX11_readBands_l10 n (f + 1) M a x y 0 = some (M, ()) := fun f => by
    rw [fX11_readBands_l10, if_neg (Ft_0 h).1]
    split <;> rfl
  obtain ⟨m, hm⟩ := suc_of (show 0 < n by omega)
  have e := this m
  rw [← hm] at e
  exact e
theorem dyT3_ft (hn : 200000 ≤ n) (h : Ft X M) {d : Nat} : dyT3 n d M = some (M, ()) := by
  unfold dyT3
  rw [Ft_bands hn h, bd_go, if_neg (Ft_0 h).1, Ft_220 h]
theorem Ft_I (h : Ft X M) {a k : Nat} {v : Int32} (ha : a ≠ 0) : Ft X (sI M a k v) := Ft_fr h rfl (by rw [sI_ne (fun e => ha e.symm)]) (by rw [sI_ne (fun e => ha e.symm)])
theorem GM_I {M : St} {a k : Nat} {v : Int32} (h : 5 ≤ a ∧ a ≤ 12) : GM M (sI M a k v) := ⟨fun b _ _ q => sI_ne (by omega), fun k _ => by rw [sI_ne (by omega)]⟩
theorem dyT2_ft (hn : 200000 ≤ n) (h : Ft X M) {d : Nat} : ∃ M', dyT2 n d M = some (M', ()) ∧ GM M M' ∧ Ft X M' := by
  unfold dyT2
  rw [Ft_told h, bd_go]
  have h' : Ft X (sI M 10 d 0) := Ft_I h (by decide)
  rw [dyT3_ft hn h']
  exact ⟨_, rfl, GM_I (by decide), h'⟩
theorem dyT1_ft (hn : 200000 ≤ n) (h : Ft X M) {d : Nat} : ∃ M', dyT1 n d M = some (M', ()) ∧ GM M M' ∧ Ft X M' := by
  unfold dyT1
  rw [Ft_told h, bd_go]
  have h' : Ft X (sI M 9 d 0) := Ft_I h (by decide)
  obtain ⟨M', m1, m2, m3⟩ := dyT2_ft (d := d) hn h'
  rw [m1]
  exact ⟨_, rfl, GM_tr (GM_I (by decide)) m2, m3⟩
/-- a word, then a number -/
theorem both_told (hC : TC n s c t K P Q R V A X0 M0) (h : Sy s c K P Q R V A X0 M0 i X M) {j lo hi : Nat} {x : Int64} {w' lo' hi' : Int32} (hj : j < 14) (hx : x = lN (w8 (kw j))) (hw : w' = nI (5 + j)) (hlo : lo' = nI lo) (hhi : hi' = nI hi) (h1 : lo ≤ 9999) (h2 : hi ≤ 9999) : ∃ X' M' v, fX11_told n M x lo' hi' = some (M', v) ∧ kT1 X X' ∧ kU1 M M' ∧ ((∃ u, lo ≤ u ∧ u ≤ hi ∧ v = nI u ∧ X'.1 151 6 = nI u ∧ Sy s c K P Q R V A X0 M0 (i + 2) X' M' ∧ ∀ k : St → Option (St × Int32), bd (fX3_take n X w') (fun S7 r8 => if r8 = 0 then some (S7, 0) else bd (fX3_takeNumber n S7 lo' hi') (fun S9 r10 => if r10 = 0 then some (S9, 0) else k S9)) = k X') ∨ (Ft X' M' ∧ ∀ k : St → Option (St × Int32), bd (fX3_take n X w') (fun S7 r8 => if r8 = 0 then some (S7, 0) else bd (fX3_takeNumber n S7 lo' hi') (fun S9 r10 => if r10 = 0 then some (S9, 0) else k S9)) = some (X', 0))) := by
  subst hw hlo hhi
  obtain ⟨X1, M1, r, a1, a2, a3, a4, a5⟩ := both_want hC h hj rfl hx
  unfold fX11_told
  rw [a1, a2, bd_go]
  rcases a5 with ⟨rfl, a5⟩ | ⟨rfl, a5⟩
  · obtain ⟨X2, M2, r, v, b1, b2, b3, b4, b5⟩ := both_num hC a5 h1 h2
    rw [b2, bd_go]
    refine ⟨X2, M2, v, rfl, kT1_tr a3 b3, kU1_tr a4 b4, ?_⟩
    rcases b5 with ⟨rfl, v1, v2, v3, v4, v5⟩ | ⟨rfl, v1⟩
    · refine Or.inl ⟨V (i + 1), v1, v2, v3, v4, v5, fun k => ?_⟩
      rw [bd_go, if_neg one_ne, b1, bd_go, if_neg one_ne]
    · refine Or.inr ⟨v1, fun k => ?_⟩
      rw [bd_go, if_neg one_ne, b1, bd_go, if_pos rfl]
  · rw [Ft_num a5, bd_go]
    refine ⟨X1, M1, 0, rfl, a3, a4, Or.inr ⟨a5, fun k => ?_⟩⟩
    rw [bd_go, if_pos rfl]
theorem dye_line (hC : TC n s c t K P Q R V A X0 M0) (h : Sy s c K P Q R V A X0 M0 i X M) (hP : PB s N H X M) (hK : 2 ≤ K i) (h9 : N 9 = 0) (hc : N 5 < 8) : ∃ X' M' r, fX3_readDye n X = some (X', r) ∧ (r = 0 ∨ r = 1) ∧ bd (fX11_readDye n M) (fun S _ => fX11_readLine_j220 n S) = some (M', ()) ∧ LnO s c K P Q R V A X0 M0 i X M X' M' := by
  obtain ⟨⟨c1, c2, c3⟩, -⟩ := id hC
  have hs' : s + 50 < 151 := by rcases c2 with z | z <;> omega
  obtain ⟨kk, -⟩ := bk c2
  obtain ⟨⟨s5, s6, -⟩, ⟨t5, t6, -⟩, l5, l6, -⟩ := bk2 c2
  obtain ⟨k1, -, -, -, -, -, -, -, k9⟩ := shf c2 (show 0 < 5 by decide)
  obtain ⟨k1', -, -, -, -, -, -, -, k9'⟩ := shf c2 (show 4 < 5 by decide)
  have e0 := hP.2.2.2.1 0 (by decide)
  have e4 := hP.2.2.2.1 4 (by decide)
  have e4' : X.1 (s + shA 4) 3 = nI 0 := by rw [e4.1]; show nI (N 9) = _; rw [h9]
  have e0' : X.1 (s + shA 0) 3 = nI (N 5) := e0.1
  have hr : ∀ {Y : St} {j : Nat} {W : St}, Sy s c K P Q R V A X0 M0 j Y W → Y.2.2 151 1 = s := fun z => by rw [z.1.1.2.2.1]; exact c3
  obtain ⟨X1, M1, r, a1, a2, a3, a4, a5⟩ := both_name hC h hP hK (show 0 < 5 by decide) (show N (5 + 0) < lmA 0 from hc)
  have a2 : fX11_readName n M 0 = _ := a2
  rw [dyM (d := N 5) e0.2.2.1 hc, a2, bd_go]
  unfold fX3_readDye
  rw [hr h, gd_pos kk, k9, gd_pos k1, bn_go, k9', gd_pos k1', e4', if_neg (show ¬ (0 : Int32) < nI 0 by decide), e0', a1, bd_go]
  unfold fX3_readDye_j38
  rcases a5 with ⟨rfl, a5, a6⟩ | ⟨rfl, a5⟩
  case inr =>
    obtain ⟨M', m1, m2, m3⟩ := dyT1_ft (d := N 5) c1 a5
    rw [if_pos rfl, Ft_X a5, bd_go, gd_pos (Or.inl rfl), m1]
    exact ⟨X1, M', 0, rfl, Or.inl rfl, rfl, AX_G a3, GM_tr (AM_G a4) m2, Or.inr m3⟩
  rw [if_neg one_ne]
  have hP1 : PB s N H X1 M1 := PB_A hP c2 a3 a4
  obtain ⟨X2, M2, v, b1, b2, b3, b4⟩ := both_told hC a5 (j := 10) (lo := 0) (hi := 99) (x := 482955846501) (w' := 15) (lo' := 0) (hi' := 99) (by decide) rfl rfl rfl rfl (by decide) (by decide)
  unfold dyT1
  rw [b1, bd_go]
  rcases b4 with ⟨u, u1, u2, rfl, u4, u5, u6⟩ | ⟨u1, u2⟩
  case inr =>
    obtain ⟨M', m1, m2, m3⟩ := dyT2_ft (d := N 5) c1 (Ft_I u1 (show 9 ≠ 0 by decide) (k := N 5) (v := v))
    rw [u2, m1]
    exact ⟨X2, M', 0, rfl, Or.inl rfl, rfl, GX_tr (AX_G a3) (kT1_G b2), GM_tr (AM_G a4) (GM_tr (kU1_G b3) (GM_tr (GM_I (by decide)) m2)), Or.inr m3⟩
  rw [u6, hr u5, gd_pos kk, s5, gd_pos t5, l5, gd_pos (ib_nI hc (by decide)), bn_go]
  simp only [cl_nI (show N 5 < 2 ^ 31 by omega)]
  rw [u4]
  -- the price
  have ax1 : AX s N X2 (sI X2 (s + 46) (N 5) (nI u)) := by
    refine ⟨fun a _ z _ _ _ => sI_ne z, fun k z => ⟨by rw [sI_row, upd_ne z], by rw [sI_ne (by omega)]⟩, fun k _ => by rw [sI_ne (by omega)], by rw [sI_ne (by omega)], fun _ _ _ => rfl, fun _ _ _ _ => rfl, rfl⟩
  have am1 : AM N M2 (sI M2 9 (N 5) (nI u)) := ⟨fun a _ z => sI_ne (by omega), fun k _ _ _ _ _ _ => by rw [sI_ne (by decide)], fun q _ i _ => by rw [sI_ne (by omega)], fun k z => ⟨by rw [sI_row, upd_ne z], by rw [sI_ne (by decide)]⟩, fun k _ => by rw [sI_ne (by decide)], fun i _ => by rw [sI_ne (by decide)], fun _ _ _ _ => rfl⟩
  have hP2 : PB s N H (sI X2 (s + 46) (N 5) (nI u)) (sI M2 9 (N 5) (nI u)) := PB_A (PB_A hP1 c2 (kT1_A b2 c2) (kU1_A b3)) c2 ax1 am1
  have hS2 : Sy s c K P Q R V A X0 M0 (i + 2 + 2) (sI X2 (s + 46) (N 5) (nI u)) (sI M2 9 (N 5) (nI u)) := Sy_M (Sy_X u5 (AX_G ax1) (fun k _ => by rw [sI_ne (by omega)]) rfl) (AM_G am1) (fun k _ => by rw [sI_ne (by decide)]) rfl
  obtain ⟨X3, M3, v, d1, d2, d3, d4⟩ := both_told hC hS2 (j := 11) (lo := 0) (hi := 99) (x := 1717662580) (w' := 16) (lo' := 0) (hi' := 99) (by decide) rfl rfl rfl rfl (by decide) (by decide)
  have gx3 : GX s X X3 := GX_tr (AX_G a3) (GX_tr (kT1_G b2) (GX_tr (AX_G ax1) (kT1_G d2)))
  have gm3 : GM M M3 := GM_tr (AM_G a4) (GM_tr (kU1_G b3) (GM_tr (AM_G am1) (kU1_G d3)))
  unfold dyT2
  rw [d1, bd_go]
  rcases d4 with ⟨w, w1, w2, rfl, w4, w5, w6⟩ | ⟨w1, w2⟩
  case inr =>
    have hF : Ft X3 (sI M3 10 (N 5) v) := Ft_I w1 (by decide)
    rw [w2, dyT3_ft c1 hF]
    exact ⟨X3, _, 0, rfl, Or.inl rfl, rfl, gx3, GM_tr gm3 (GM_I (by decide)), Or.inr hF⟩
  have hl6 : ib (nI (N 5)) (lnX (s + 47)) := by
    rw [show lnX (s + 47) = 8 from l6]
    exact ib_nI hc (by decide)
  rw [w6, hr w5, gd_pos kk, s6, gd_pos t6, gd_pos hl6, bn_go, w4]
  have ax2 : AX s N X3 (sI X3 (s + 47) (N 5) (nI w)) := by
    refine ⟨fun a _ _ z _ _ => sI_ne z, fun k z => ⟨by rw [sI_ne (by omega)], by rw [sI_row, upd_ne z]⟩, fun k _ => by rw [sI_ne (by omega)], by rw [sI_ne (by omega)], fun _ _ _ => rfl, fun _ _ _ _ => rfl, rfl⟩
  have am2 : AM N M3 (sI M3 10 (N 5) (nI w)) := ⟨fun a _ z => sI_ne (by omega), fun k _ _ _ _ _ _ => by rw [sI_ne (by decide)], fun q _ i _ => by rw [sI_ne (by omega)], fun k z => ⟨by rw [sI_ne (by decide)], by rw [sI_row, upd_ne z]⟩, fun k _ => by rw [sI_ne (by decide)], fun i _ => by rw [sI_ne (by decide)], fun _ _ _ _ => rfl⟩
  have hP3 : PB s N H (sI X3 (s + 47) (N 5) (nI w)) (sI M3 10 (N 5) (nI w)) := PB_A (PB_A hP2 c2 (kT1_A d2 c2) (kU1_A d3)) c2 ax2 am2
  have hS3 : Sy s c K P Q R V A X0 M0 (i + 2 + 2 + 2) (sI X3 (s + 47) (N 5) (nI w)) (sI M3 10 (N 5) (nI w)) := Sy_M (Sy_X w5 (AX_G ax2) (fun k _ => by rw [sI_ne (by omega)]) rfl) (AM_G am2) (fun k _ => by rw [sI_ne (by decide)]) rfl
  obtain ⟨l, x, y, n1, n2, n3, n4, n5⟩ := a6
  have hsh : s + shA 0 + 1 ≠ 151 := by show s + 1 + 1 ≠ 151; omega
  obtain ⟨X', M', r', f1, f2, f3, f4, f5, f6⟩ := both_bands hC hS3 hP3 (show 0 < 4 by decide) (show N (5 + 0) < lmA 0 from hc) ⟨l, x, y, n1, n2, by show X3.2.1 _ _ = _; rw [d2.2.2.1 _ hsh]; show X2.2.1 _ _ = _; rw [b2.2.2.1 _ hsh]; exact n3, by show M3.2.1 _ _ = _; rw [d3.2.2 _ (by decide)]; show M2.2.1 _ _ = _; rw [b3.2.2 _ (by decide)]; exact n4, fun k hk => by show M3.2.1 _ _ ≠ _; rw [d3.2.2 _ (by decide)]; show M2.2.1 _ _ ≠ _; rw [b3.2.2 _ (by decide)]; exact n5 k hk⟩ (fun _ => ⟨h9, by rw [sI_ne (by omega), d2.1 _ (by omega), sI_row, upd_eq, sI_ne (by decide), d3.1 _ (by decide), sI_row, upd_eq], ⟨u, u2, by rw [sI_ne (by decide), d3.1 _ (by decide), sI_row, upd_eq]⟩, by rw [sI_row, upd_eq, sI_row, upd_eq], ⟨w, w2, by rw [sI_row, upd_eq]⟩⟩)
  have f1 : fX3_takeRow n (sI X3 (s + 47) (N 5) (nI w)) (s + shA 0) 99 = _ := f1
  have f3 : dyT3 n (N 5) (sI M3 10 (N 5) (nI w)) = _ := f3
  rw [f3]
  have hr3 : (sI X3 (s + 47) (N 5) (nI w)).2.2 151 1 = s := hr hS3
  rw [hr3, gd_pos kk, k9, gd_pos k1, f1, bd_go, gd_pos f2]
  refine ⟨X', M', r', rfl, f2, rfl, GX_tr gx3 (GX_tr (AX_G ax2) f4), GM_tr gm3 (GM_tr (AM_G am2) f5), ?_⟩
  rcases f6 with ⟨i'', N', H', z1, z2⟩ | z
  · exact Or.inl ⟨i'', N', H', by omega, z2⟩
  · exact Or.inr z
end
