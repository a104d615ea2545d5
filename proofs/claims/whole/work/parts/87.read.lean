/-! the whole text, on both sides -/
theorem tk_fun (T : Nat → Nat) (t : Nat) : ∃ kd pl nx x y v : Nat → Nat, ∀ a, a ≤ t → TkC T t a (kd a) (pl a) (nx a) (x a) (y a) (v a) := by
  have h : ∀ a, ∃ z : Nat × Nat × Nat × Nat × Nat × Nat, a ≤ t → TkC T t a z.1 z.2.1 z.2.2.1 z.2.2.2.1 z.2.2.2.2.1 z.2.2.2.2.2 := fun a => by
    by_cases c : a ≤ t
    · obtain ⟨kd, pl, nx, x, y, v, h⟩ := tk_ex T c
      exact ⟨(kd, pl, nx, x, y, v), fun _ => h⟩
    · exact ⟨(0, 0, 0, 0, 0, 0), fun z => absurd z c⟩
  exact ⟨fun a => (h a).choose.1, fun a => (h a).choose.2.1, fun a => (h a).choose.2.2.1, fun a => (h a).choose.2.2.2.1, fun a => (h a).choose.2.2.2.2.1, fun a => (h a).choose.2.2.2.2.2, fun a ha => (h a).choose_spec ha⟩
theorem TkC_go {T : Nat → Nat} {t a kd pl nx x y v : Nat} (h : TkC T t a kd pl nx x y v) (hk : 2 ≤ kd) : a < nx ∧ nx ≤ t := by
  obtain ⟨k1, k2, k3, k4, k5⟩ := h
  rcases k5 with ⟨c0, c1, -⟩ | ⟨c0, c1, e, e1, e2, e3, e4, e5⟩ | ⟨c0, c1, c2, e, e1, e2, e3, e4, e5⟩ | ⟨c0, c1, c2, e5⟩
  · omega
  · rcases e5 with ⟨-, -, h3, -⟩ | ⟨-, h3⟩ <;> omega
  · rcases e5 with ⟨-, -, -, h3, -⟩ | ⟨-, h3⟩ | ⟨-, -, -, h3⟩ <;> omega
  · rcases e5 with ⟨-, -, h3⟩ | ⟨-, h3⟩ <;> omega
theorem TkC_b {T : Nat → Nat} {t a kd pl nx x y v : Nat} (ht : t ≤ 1700) (h : TkC T t a kd pl nx x y v) : kd ≤ 18 ∧ pl ≤ 1700 ∧ (4 ≤ kd → KW x kd ∧ ∃ k, k ≤ 8 ∧ WR k x y) ∧ (kd = 2 → v ≤ 9999) := by
  obtain ⟨k1, k2, k3, k4, k5⟩ := h
  rcases k5 with ⟨c0, c1, -⟩ | ⟨c0, c1, e, e1, e2, e3, e4, e5⟩ | ⟨c0, c1, c2, e, e1, e2, e3, e4, e5⟩ | ⟨c0, c1, c2, e5⟩
  · exact ⟨by omega, by omega, fun z => by omega, fun z => by omega⟩
  · rcases e5 with ⟨h1, h2, h3, h4, h5⟩ | ⟨-, h3⟩
    · have hb := KW_b h2
      refine ⟨by omega, by omega, fun _ => ⟨h2, e - pl, h1, ?_⟩, fun z => by omega⟩
      rw [h4, h5]
      exact wv_WR (fun i hi => e3 (pl + i) (by omega) (by omega))
    · exact ⟨by omega, by omega, fun z => by omega, fun z => by omega⟩
  · rcases e5 with ⟨h1, -, h2, h3, h4⟩ | ⟨-, h3⟩ | ⟨-, -, -, h3⟩
    · refine ⟨by omega, by omega, fun z => by omega, fun _ => ?_⟩
      have h5 := dv_lt (T := T) (a := pl) (k := e - pl) (fun i hi => e3 (pl + i) (by omega) (by omega))
      have h6 : 10 ^ (e - pl) ≤ 10 ^ 4 := Nat.pow_le_pow_right (by decide) h1
      have h7 : 10 ^ 4 = 10000 := by decide
      omega
    · exact ⟨by omega, by omega, fun z => by omega, fun z => by omega⟩
    · exact ⟨by omega, by omega, fun z => by omega, fun z => by omega⟩
  · rcases e5 with ⟨-, h2, -⟩ | ⟨-, h3⟩
    · exact ⟨by omega, by omega, fun z => by omega, fun z => by omega⟩
    · exact ⟨by omega, by omega, fun z => by omega, fun z => by omega⟩
/-- where the tokens begin -/
def tkA (nx : Nat → Nat) : Nat → Nat
  | 0 => 0
  | i + 1 => nx (tkA nx i)
section
variable {n t : Nat} {T : Nat → Nat} {kd pl nx x y v : Nat → Nat}
theorem scan_aux {a b w t : Nat} (h : t ≤ w + 1 + a) (hb : a < b) : t ≤ w + b := by omega
theorem scan_aux2 {a b i : Nat} (h : i ≤ a) (hb : a < b) : i + 1 ≤ b := by omega
theorem scan_loop (hn : 200000 ≤ n) (ht : t ≤ 1700) (hk : ∀ a, a ≤ t → TkC T t a (kd a) (pl a) (nx a) (x a) (y a) (v a)) : ∀ (w i j kp : Nat) (X : St), t ≤ w + tkA nx i → w + 2 < j → 2 ≤ kp → kp ≤ 18 → tkA nx i ≤ t → i ≤ tkA nx i → TpX T t X.1 → (∀ i, i < 14 → X.2.1 153 i = pkS i) → X.1 152 4 = nI i → X.1 152 5 = nI (tkA nx i) → (∀ i', i' < i → TA X i' (kd (tkA nx i')) (pl (tkA nx i')) (y (tkA nx i')) (v (tkA nx i'))) → ∃ c X', fX7_scan_l14 n j X (nI kp) (nI i) = some (X', ()) ∧ i < c ∧ c ≤ t + 1 ∧ kS X X' ∧ X'.1 152 4 = nI c ∧ (∀ i', i' < c → TA X' i' (kd (tkA nx i')) (pl (tkA nx i')) (y (tkA nx i')) (v (tkA nx i'))) ∧ (∀ i', i ≤ i' → i' < c → tkA nx i' ≤ t ∧ (2 ≤ kd (tkA nx i') → i' + 1 < c)) := by
  intro w
  induction w with
  | zero =>
    intro i j kp X hw hj hk1 hk2 hA hi hT h153 h4 h5 hta
    obtain ⟨j, rfl⟩ := suc_of hj
    have htk := hk (tkA nx i) hA
    have hb := TkC_b ht htk
    obtain ⟨X', a1, a2, a3, a4, a5, a6⟩ := scan_one (k14 := fX7_scan_l14 n j) hn hT ht h153 (show i < 1701 by omega) h4 h5 htk
    have h01 : kd (tkA nx i) ≤ 1 := Classical.byContradiction fun z => by
      obtain ⟨g1, g2⟩ := TkC_go htk (Nat.lt_of_not_le z)
      rw [Nat.zero_add] at hw
      exact Nat.lt_irrefl _ (Nat.lt_of_lt_of_le g1 (Nat.le_trans g2 hw))
    obtain ⟨j, rfl⟩ := suc_of (show 0 < j by omega)
    have eend : fX7_scan_l14 n (j + 1) X' (nI (kd (tkA nx i))) (nI (i + 1)) = some (X', ()) := by
      rw [fX7_scan_l14]
      split
      · rfl
      · rcases (show kd (tkA nx i) = 0 ∨ kd (tkA nx i) = 1 by omega) with z | z
        · rw [z, if_pos (show nI 0 = 0 from rfl)]
        · rw [z, if_neg (show ¬ nI 1 = 0 by decide), if_pos (show nI 1 = 1 from rfl)]
    refine ⟨i + 1, X', ?_, by omega, by omega, a2, a3, fun i' h1 => ?_, fun i' h1 h2 => ?_⟩
    · rw [fX7_scan_l14, if_neg (show ¬ (1701 : Int32) ≤ nI i from nI_ge (b := 1701) (by omega) (by decide)), if_neg (show ¬ nI kp = 0 from nI_ne0 (by omega) (by omega)), if_neg (show ¬ nI kp = 1 from fun z => by have := (nI_eq (b := 1) (by omega) (by decide)).mp z; omega), a1, eend]
    · by_cases e : i' = i
      · rw [e]; exact a5
      · obtain ⟨b1, b2, b3⟩ := a6 i' e
        obtain ⟨c1, c2, c3, c4⟩ := hta i' (by omega)
        exact ⟨b1.trans c1, b2.trans c2, fun z => b3.trans (c3 z), fun z => b3.trans (c4 z)⟩
    · have e : i' = i := by omega
      rw [e]
      exact ⟨hA, fun z => by omega⟩
  | succ w ih =>
    intro i j kp X hw hj hk1 hk2 hA hi hT h153 h4 h5 hta
    obtain ⟨j, rfl⟩ := suc_of hj
    have htk := hk (tkA nx i) hA
    have hb := TkC_b ht htk
    obtain ⟨X', a1, a2, a3, a4, a5, a6⟩ := scan_one (k14 := fX7_scan_l14 n j) hn hT ht h153 (show i < 1701 by omega) h4 h5 htk
    have hta' : ∀ i', i' < i + 1 → TA X' i' (kd (tkA nx i')) (pl (tkA nx i')) (y (tkA nx i')) (v (tkA nx i')) := fun i' h1 => by
      by_cases e : i' = i
      · rw [e]; exact a5
      · obtain ⟨b1, b2, b3⟩ := a6 i' e
        obtain ⟨c1, c2, c3, c4⟩ := hta i' (by omega)
        exact ⟨b1.trans c1, b2.trans c2, fun z => b3.trans (c3 z), fun z => b3.trans (c4 z)⟩
    have e0 : fX7_scan_l14 n (j + 1) X (nI kp) (nI i) = fX7_scan_l14 n j X' (nI (kd (tkA nx i))) (nI (i + 1)) := by
      rw [fX7_scan_l14, if_neg (show ¬ (1701 : Int32) ≤ nI i from nI_ge (b := 1701) (by omega) (by decide)), if_neg (show ¬ nI kp = 0 from nI_ne0 (by omega) (by omega)), if_neg (show ¬ nI kp = 1 from fun z => by have := (nI_eq (b := 1) (by omega) (by decide)).mp z; omega), a1]
    by_cases z2 : 2 ≤ kd (tkA nx i)
    · obtain ⟨g1, g2⟩ := TkC_go htk z2
      have eA : tkA nx (i + 1) = nx (tkA nx i) := rfl
      obtain ⟨c, X2, f1, f2, f3, f4, f5, f6, f7⟩ := ih (i + 1) j (kd (tkA nx i)) X' (scan_aux hw g1) (by omega) z2 hb.1 g2 (scan_aux2 hi g1) (TpX_fr hT (a2.1 1 (by decide) (by decide) (by decide)) (a2.1 2 (by decide) (by decide) (by decide))) (fun i' h => by rw [a2.2.2.1 153 (by decide)]; exact h153 i' h) a3 (by rw [eA]; exact a4 (by omega)) hta'
      refine ⟨c, X2, by rw [e0, f1], by omega, f3, kS_tr a2 f4, f5, f6, fun i' h1 h2 => ?_⟩
      by_cases e : i' = i
      · rw [e]; exact ⟨hA, fun _ => by omega⟩
      · exact f7 i' (by omega) h2
    · obtain ⟨j, rfl⟩ := suc_of (show 0 < j by omega)
      have eend : fX7_scan_l14 n (j + 1) X' (nI (kd (tkA nx i))) (nI (i + 1)) = some (X', ()) := by
        rw [fX7_scan_l14]
        split
        · rfl
        · rcases (show kd (tkA nx i) = 0 ∨ kd (tkA nx i) = 1 by omega) with z | z
          · rw [z, if_pos (show nI 0 = 0 from rfl)]
          · rw [z, if_neg (show ¬ nI 1 = 0 by decide), if_pos (show nI 1 = 1 from rfl)]
      refine ⟨i + 1, X', by rw [e0, eend], by omega, by omega, a2, a3, hta', fun i' h1 h2 => ?_⟩
      have e : i' = i := by omega
      rw [e]
      exact ⟨hA, fun z => by omega⟩
end
section
variable {n s c t : Nat} {K P Q R V A : Nat → Nat} {X0 M0 : St}
theorem srt_0 {k : Nat} : nI (srt k) = 0 ↔ k = 0 := by
  unfold srt
  by_cases z0 : k = 0
  · rw [if_pos z0]; exact ⟨fun _ => z0, fun _ => rfl⟩
  · rw [if_neg z0]
    refine ⟨fun z => ?_, fun z => absurd z z0⟩
    exfalso
    revert z
    split
    · decide
    · split
      · decide
      · split <;> decide
/-- what was read: a bench, or a fault -/
def RdO (s : Nat) (X M : St) : Prop := (∃ N H, PB s N H X M ∧ X.1 151 7 = 0 ∧ M.1 0 2 = 0 ∧ X.1 151 8 = M.1 0 3) ∨ Ft X M
theorem read_loop (hC : TC n s c t K P Q R V A X0 M0) : ∀ (w i j j' l : Nat) (N H : Nat → Nat) (X M : St), c - i ≤ w → w + 1 < j → w + 1 < j' → l ≤ i → Sy s c K P Q R V A X0 M0 i X M → PB s N H X M → ∃ X' M', fX3_read_l42 n j X (nI l) = fX3_read_j74 n X' ∧ fX11_readAll_l99 n j' M = some (M', ()) ∧ GX s X X' ∧ GM M M' ∧ RdO s X' M' := by
  obtain ⟨-, ⟨c4, c5, c6⟩, -⟩ := id hC
  have ft : ∀ (X M : St) (j j' : Nat) (x : Int32), Ft X M → fX3_read_l42 n (j + 1) X x = fX3_read_j74 n X ∧ fX11_readAll_l99 n (j' + 1) M = some (M, ()) := fun X M j j' x h => by
    obtain ⟨f, f1, f2, f3, f4, -⟩ := id h
    constructor
    · rw [fX3_read_l42, f3, if_neg (nI_ne0 f1 (by omega))]
      split <;> rfl
    · rw [fX11_readAll_l99, if_neg (Ft_0 h).1]
  intro w
  induction w with
  | zero =>
    intro i j j' l N H X M hw hj hj' hl hS hP
    have := hS.1.2.2
    omega
  | succ w ih =>
    intro i j j' l N H X M hw hj hj' hl hS hP
    obtain ⟨j, rfl⟩ := suc_of hj
    obtain ⟨j', rfl⟩ := suc_of hj'
    have hi := hS.1.2.2
    have k18 := (hC.2.2.2.2.1 i hi).1
    obtain ⟨f1, f2, f3⟩ := hS.2.2.2
    have r1 := hS.2.2.1.1
    rw [fX3_read_l42, if_neg (show ¬ (1700 : Int32) < nI l from nI_nlt (b := l) (a := 1700) (by omega) (by decide)), f1, if_pos rfl, hS.2.1.2.1, fX11_readAll_l99, f2, if_pos rfl, r1]
    by_cases z : K i = 0
    · rw [if_pos (show nI (K i) = 0 by rw [z]; rfl), if_pos (srt_0.mpr z)]
      exact ⟨X, M, rfl, rfl, GX_rf, GM_rf, Or.inl ⟨N, H, hP, f1, f2, f3⟩⟩
    · rw [if_neg (show ¬ nI (K i) = 0 from nI_ne0 (by omega) (by omega)), if_neg (fun q => z (srt_0.mp q))]
      obtain ⟨X1, M1, r, a1, a2, a3, a4, a5⟩ := any_line hC hS hP z
      rw [a1, bd_go, bn_go, nI_1, a2, bd_go]
      rcases a5 with ⟨i', N', H', b1, b2, b3⟩ | b1
      · obtain ⟨X', M', g1, g2, g3, g4, g5⟩ := ih i' j j' (l + 1) N' H' X1 M1 (by omega) (by omega) (by omega) (by omega) b2 b3
        exact ⟨X', M', g1, g2, GX_tr a3 g3, GM_tr a4 g4, g5⟩
      · obtain ⟨j, rfl⟩ := suc_of (show 0 < j by omega)
        obtain ⟨j', rfl⟩ := suc_of (show 0 < j' by omega)
        obtain ⟨g1, g2⟩ := ft X1 M1 j j' (nI (l + 1)) b1
        exact ⟨X1, M1, g1, g2, a3, a4, Or.inr b1⟩
end
