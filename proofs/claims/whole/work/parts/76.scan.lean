/-! THE TEXT: the class's tokens. -/
/-- the tape, as the class has it -/
def TpX (T : Nat → Nat) (t : Nat) (F : Nat → Nat → Int32) : Prop := F 1 1 = nI t ∧ ∀ i, i < t → T i < 256 ∧ F 2 i = sgn (T i)
/-- what reading tokens changes -/
def kZ (X X' : St) : Prop := (∀ a, a ≠ 152 → X'.1 a = X.1 a) ∧ (∀ k, k ≠ 5 → X'.1 152 k = X.1 152 k) ∧ (∀ a, a ≠ 156 → X'.2.1 a = X.2.1 a) ∧ X'.2.2 = X.2.2
theorem kZ_rf {X : St} : kZ X X := ⟨fun _ _ => rfl, fun _ _ => rfl, fun _ _ => rfl, rfl⟩
theorem kZ_tr {A B C : St} (h : kZ A B) (g : kZ B C) : kZ A C := ⟨fun a q => (g.1 a q).trans (h.1 a q), fun k q => (g.2.1 k q).trans (h.2.1 k q), fun a q => (g.2.2.1 a q).trans (h.2.2.1 a q), g.2.2.2.trans h.2.2.2⟩
theorem kZ_5 {X : St} {v : Int32} : kZ X (sI X 152 5 v) := ⟨fun a q => sI_ne q, fun k q => by rw [sI_row, upd_ne q], fun _ _ => rfl, rfl⟩
theorem TpX_fr {T : Nat → Nat} {t : Nat} {F F' : Nat → Nat → Int32} (h : TpX T t F) (h1 : F' 1 = F 1) (h2 : F' 2 = F 2) : TpX T t F' := by
  unfold TpX; rw [h1, h2]; exact h
section
variable {n t : Nat} {T : Nat → Nat} {X : St}
theorem sign_in {s : Nat} (hT : TpX T t X.1) (ht : t ≤ 1700) (hs : s < t) : fX6_signAt n X (nI s) = some (X, sgn (T s)) := by
  unfold fX6_signAt
  rw [if_neg (nI_pos (by omega)), hT.1, if_neg (nI_ge hs (by omega)), gd_pos (ib_nI (by omega) (by decide)), cl_nI (by omega), (hT.2 s hs).2]
theorem sign_out {s : Nat} (hT : TpX T t X.1) (hs : t ≤ s) (h31 : s < 2 ^ 31) : fX6_signAt n X (nI s) = some (X, 0) := by
  unfold fX6_signAt
  rw [if_neg (nI_pos (by omega)), hT.1, if_pos (nI_le hs h31)]
theorem word_loop {x2 x3 : Int32} {a e : Nat} (ht : t ≤ 1700) (he : e ≤ t) (hL : ∀ i, a ≤ i → i < e → isL (T i)) (hE : e < t → ¬ isL (T e)) : ∀ (w s j : Nat) (X : St) (x4 : Int64), s + w = e → a ≤ s → w < j → TpX T t X.1 → X.1 152 5 = nI s → (s - a ≤ 8 → x4 = lN (wq T a (s - a))) → ∃ X' x', fX7_readWord_l8 n j X x2 x3 x4 = fX7_readWord_j61 n X' x2 x3 x' ∧ kZ X X' ∧ X'.1 152 5 = nI e ∧ X'.2.1 = X.2.1 ∧ (e - a ≤ 8 → x' = lN (wq T a (e - a))) := by
  intro w
  induction w with
  | zero =>
    intro s j X x4 h hs hj hT h5 hx
    obtain ⟨j, rfl⟩ := suc_of hj
    have e1 : s = e := by omega
    subst e1
    refine ⟨X, x4, ?_, kZ_rf, h5, rfl, hx⟩
    rw [fX7_readWord_l8, hT.1, h5]
    by_cases c : s < t
    · rw [if_neg (nI_ge c (by omega)), sign_in hT ht c, bd_go, fL_X, bd_go, (bl_f (hT.2 s c).1 (hE c)).1, if_pos rfl]
    · rw [if_pos (nI_le (by omega) (by omega))]
  | succ w ih =>
    intro s j X x4 h hs hj hT h5 hx
    obtain ⟨j, rfl⟩ := suc_of hj
    have hl := hL s hs (by omega)
    have hv := (hT.2 s (by omega)).1
    have h128 : sgn (T s) = nI (T s) := (sg_e (T s) hv).2.2.2.2.2.2 (by unfold isL at hl; omega)
    rw [fX7_readWord_l8, hT.1, h5, if_neg (nI_ge (by omega) (by omega)), sign_in hT ht (by omega), bd_go, fL_X, bd_go, (bl_t hv hl).1, if_neg one_ne, h5, sign_in hT ht (by omega), bd_go]
    unfold fX7_addLetter
    rw [bd_go, bn_go, h5, nI_1]
    have h5' : (sI X 152 5 (nI (s + 1))).1 152 5 = nI (s + 1) := by rw [sI_row, upd_eq]
    obtain ⟨X', x', f1, f2, f3, f4, f5⟩ := ih (s + 1) j (sI X 152 5 (nI (s + 1))) ((x4 <<< ((5 : Int32).toInt64 &&& 63)) ||| (sgn (T s) - 97 + 1).toInt64) (by omega) (by omega) (by omega) (TpX_fr hT (sI_ne (by decide)) (sI_ne (by decide))) h5' (fun hk => by
      have hw := WR_b (wv_WR (T := T) (a := a) (k := s - a) (fun i hi => hL (a + i) (by omega) (by omega)))
      have hk8 : 32 ^ (s - a) ≤ 32 ^ 8 := Nat.pow_le_pow_right (by decide) (by omega)
      have e32 : 32 ^ 8 = 2 ^ 40 := by decide
      unfold isL at hl
      have e1 : (sgn (T s) - 97 + 1).toInt64 = lN (T s - 96) := by
        rw [h128, show (97 : Int32) = nI 97 from rfl, nI_subN (by omega), nI_1, nI_l (by omega)]
        congr 1
        omega
      rw [hx (by omega), e1, or_5 (by omega) (by omega), show s + 1 - a = s - a + 1 by omega, wq, show a + (s - a) = s by omega]
      congr 1
      omega)
    exact ⟨X', x', f1, kZ_tr kZ_5 f2, f3, f4, f5⟩
theorem num_loop {x2 x3 : Int32} {a e : Nat} (ht : t ≤ 1700) (he : e ≤ t) (hL : ∀ i, a ≤ i → i < e → isD (T i)) (hE : e < t → ¬ isD (T e)) : ∀ (w s j : Nat) (X : St) (x4 : Int64), s + w = e → a ≤ s → w < j → TpX T t X.1 → X.1 152 5 = nI s → (s - a ≤ 4 → x4 = lN (dv T a (s - a))) → ∃ X' x', fX7_readNumber_l8 n j X x2 x3 x4 = fX7_readNumber_j67 n X' x2 x3 x' ∧ kZ X X' ∧ X'.1 152 5 = nI e ∧ X'.2.1 = X.2.1 ∧ (e - a ≤ 4 → x' = lN (dv T a (e - a))) := by
  intro w
  induction w with
  | zero =>
    intro s j X x4 h hs hj hT h5 hx
    obtain ⟨j, rfl⟩ := suc_of hj
    have e1 : s = e := by omega
    subst e1
    refine ⟨X, x4, ?_, kZ_rf, h5, rfl, hx⟩
    rw [fX7_readNumber_l8, hT.1, h5]
    by_cases c : s < t
    · rw [if_neg (nI_ge c (by omega)), sign_in hT ht c, bd_go, fD_X, bd_go, (bd_f (hT.2 s c).1 (hE c)).1, if_pos rfl]
    · rw [if_pos (nI_le (by omega) (by omega))]
  | succ w ih =>
    intro s j X x4 h hs hj hT h5 hx
    obtain ⟨j, rfl⟩ := suc_of hj
    have hl := hL s hs (by omega)
    have hv := (hT.2 s (by omega)).1
    have h128 : sgn (T s) = nI (T s) := (sg_e (T s) hv).2.2.2.2.2.2 (by unfold isD at hl; omega)
    rw [fX7_readNumber_l8, hT.1, h5, if_neg (nI_ge (by omega) (by omega)), sign_in hT ht (by omega), bd_go, fD_X, bd_go, (bd_t hv hl).1, if_neg one_ne, h5, sign_in hT ht (by omega), bd_go, bn_go, bn_go, h5, nI_1]
    have h5' : (sI X 152 5 (nI (s + 1))).1 152 5 = nI (s + 1) := by rw [sI_row, upd_eq]
    obtain ⟨X', x', f1, f2, f3, f4, f5⟩ := ih (s + 1) j (sI X 152 5 (nI (s + 1))) (x4 * 10 + (sgn (T s) - 48).toInt64) (by omega) (by omega) (by omega) (TpX_fr hT (sI_ne (by decide)) (sI_ne (by decide))) h5' (fun hk => by
      unfold isD at hl
      have e1 : (sgn (T s) - 48).toInt64 = lN (T s - 48) := by
        rw [h128, show (48 : Int32) = nI 48 from rfl, nI_subN (by omega), nI_l (by omega)]
      rw [hx (by omega), e1, show (10 : Int64) = lN 10 from rfl, lN_mul, lN_add, show s + 1 - a = s - a + 1 by omega, dv, show a + (s - a) = s by omega])
    exact ⟨X', x', f1, kZ_tr kZ_5 f2, f3, f4, f5⟩
theorem kind_loop {x y kd k : Nat} (hw : WR k x y) (hk : k ≤ 8) (hkd : KW x kd) (h153 : ∀ i, i < 14 → X.2.1 153 i = pkS i) : ∀ (w i j : Nat), i + w = 14 → w < j → (∀ i', i' < i → kd ≠ 5 + i') → fX7_kindOf_l2 n j X (lN y) (nI i) = some (X, nI kd) := by
  intro w
  induction w with
  | zero =>
    intro i j h hj hno
    obtain ⟨j, rfl⟩ := suc_of hj
    have hb := KW_b hkd
    have e : kd = 4 := by
      rcases hkd with ⟨i', h1, -, h3⟩ | ⟨h1, -⟩
      · exact absurd h3 (hno i' (by omega))
      · exact h1
    rw [fX7_kindOf_l2, if_pos (show (14 : Int32) ≤ nI i from nI_le (a := 14) (by omega) (by omega)), e]
    rfl
  | succ w ih =>
    intro i j h hj hno
    obtain ⟨j, rfl⟩ := suc_of hj
    obtain ⟨q1, q2⟩ := kw_ok i (by omega)
    have hki := WR_of (kw i) q1
    have b1 := (WR_8 hw hk).2
    have b2 := (WR_8 hki q2).2
    rw [fX7_kindOf_l2, if_neg (show ¬ (14 : Int32) ≤ nI i from nI_ge (b := 14) (by omega) (by decide)), gd_pos (ib_nI (by omega) (by decide)), cl_nI (by omega), h153 i (by omega), kw_pk i (by omega)]
    by_cases c : kd = 5 + i
    · have ex : x = w8 (kw i) := (KW_i hkd (by omega)).mpr c
      have ey : w5 (kw i) = y := WR_x hki hw ex.symm
      rw [if_pos (lg_eq.mpr (by rw [ey]))]
      unfold fX7_kindOf_j22
      rw [c]
      exact some_snd (nI_add 5 i)
    · have ey : ¬ lN (w5 (kw i)) = lN y := fun z => by
        have z' := (pk_lEQ b2 b1).mp z
        exact c ((KW_i hkd (by omega)).mp (WR_y hki hw z').symm)
      rw [if_neg (fun z => ey (lg_eq.mp z)), bn_go, nI_1]
      exact ih (i + 1) j (by omega) (by omega) (fun i' h1 => by
        by_cases q : i' = i
        · rw [q]; exact c
        · exact hno i' (by omega))
/-- what lies of a token in the class's rows -/
def TA (X : St) (i kd pl y v : Nat) : Prop := X.1 154 i = nI kd ∧ X.1 155 i = nI pl ∧ (kd = 2 → X.2.1 156 i = lN v) ∧ (4 ≤ kd → X.2.1 156 i = lN y)
theorem token_X {i a kd pl nx x y v : Nat} (hn : 200000 ≤ n) (hT : TpX T t X.1) (ht : t ≤ 1700) (h153 : ∀ i, i < 14 → X.2.1 153 i = pkS i) (hi : i < 1701) (h5 : X.1 152 5 = nI pl) (hk : TkC T t a kd pl nx x y v) : ∃ X', fX7_readToken n X (nI i) = some (X', nI kd) ∧ kZ X X' ∧ (∀ i', i' ≠ i → X'.2.1 156 i' = X.2.1 156 i') ∧ (kd ≠ 1 → X'.1 152 5 = nI nx) ∧ (kd = 2 → X'.2.1 156 i = lN v) ∧ (4 ≤ kd → X'.2.1 156 i = lN y) := by
  obtain ⟨k1, k2, k3, k4, k5⟩ := hk
  unfold fX7_readToken
  rcases k5 with ⟨c0, rfl, rfl⟩ | ⟨c0, c1, e, e1, e2, e3, e4, e5⟩ | ⟨c0, c1, c2, e, e1, e2, e3, e4, e5⟩ | ⟨c0, c1, c2, e5⟩
  · rw [h5, sign_out hT (by omega) (by omega), bd_go, h5, hT.1, if_neg (nI_nlt (by omega) (by omega))]
    exact ⟨X, rfl, kZ_rf, fun _ _ => rfl, fun _ => by rw [h5, c0], fun z => by omega, fun z => by omega⟩
  · have hv := (hT.2 pl c0).1
    rw [h5, sign_in hT ht c0, bd_go, h5, hT.1, if_pos (nI_lt c0 (by omega)), fL_X, bd_go, (bl_t hv c1).1, if_neg one_ne]
    unfold fX7_readWord
    rw [bn_go, h5]
    obtain ⟨X1, x', f1, f2, f3, f4, f5⟩ := word_loop (n := n) (x2 := nI i) (x3 := nI pl) ht e2 e3 e4 (e - pl) pl n X 0 (by omega) (Nat.le_refl _) (by omega) hT h5 (fun _ => by rw [Nat.sub_self]; rfl)
    rw [f1]
    unfold fX7_readWord_j61
    rw [gd_pos (ib_nI hi (by decide)), bn_go, cl_nI (by omega)]
    have f3' : (sL X1 156 i x').1 152 5 = nI e := f3
    have kL : kZ X1 (sL X1 156 i x') := ⟨fun _ _ => rfl, fun _ _ => rfl, fun a q => sL_ne q, rfl⟩
    have r1 : ∀ i', i' ≠ i → (sL X1 156 i x').2.1 156 i' = X.2.1 156 i' := fun i' q => by rw [sL_row, pk_uLn q, f4]
    have r2 : (sL X1 156 i x').2.1 156 i = x' := by rw [sL_row, pk_uLs]
    rw [f3', nI_subN (by omega)]
    rcases e5 with ⟨g1, g2, rfl, rfl, rfl⟩ | ⟨g1, rfl⟩
    · have hw := wv_WR (T := T) (a := pl) (k := nx - pl) (fun i hi => e3 (pl + i) (by omega) (by omega))
      have hb := KW_b g2
      have h153' : ∀ i', i' < 14 → (sL X1 156 i x').2.1 153 i' = pkS i' := fun i' h => by rw [sL_ne (by decide), f4]; exact h153 i' h
      have e := kind_loop (n := n) (X := sL X1 156 i x') hw g1 g2 h153' 14 0 n (by omega) (by omega) (fun i' h => by omega)
      have e : fX7_kindOf n (sL X1 156 i x') (lN (wq T pl (nx - pl))) = _ := e
      rw [if_neg (show ¬ (8 : Int32) < nI (nx - pl) from nI_nlt (b := nx - pl) (a := 8) g1 (by decide)), f5 g1]
      rw [f5 g1] at e f3' kL r1 r2
      rw [e, bd_go, bd_go]
      exact ⟨_, rfl, kZ_tr f2 kL, r1, fun _ => f3', fun z => by omega, fun _ => r2⟩
    · rw [if_pos (show (8 : Int32) < nI (e - pl) from nI_lt (a := 8) g1 (by omega)), bd_go]
      exact ⟨_, rfl, kZ_tr f2 kL, r1, fun z => absurd rfl z, fun z => by omega, fun z => by omega⟩
  · have hv := (hT.2 pl c0).1
    rw [h5, sign_in hT ht c0, bd_go, h5, hT.1, if_pos (nI_lt c0 (by omega)), fL_X, bd_go, (bl_f hv c1).1, if_pos rfl, fD_X, bd_go, (bd_t hv c2).1, if_neg one_ne]
    unfold fX7_readNumber
    rw [bn_go, h5]
    obtain ⟨X1, x', f1, f2, f3, f4, f5⟩ := num_loop (n := n) (x2 := nI i) (x3 := nI pl) ht e2 e3 e4 (e - pl) pl n X 0 (by omega) (Nat.le_refl _) (by omega) hT h5 (fun _ => by rw [Nat.sub_self]; rfl)
    rw [f1]
    unfold fX7_readNumber_j67
    rw [gd_pos (ib_nI hi (by decide)), bn_go, cl_nI (by omega)]
    have f3' : (sL X1 156 i x').1 152 5 = nI e := f3
    have kL : kZ X1 (sL X1 156 i x') := ⟨fun _ _ => rfl, fun _ _ => rfl, fun a q => sL_ne q, rfl⟩
    have r1 : ∀ i', i' ≠ i → (sL X1 156 i x').2.1 156 i' = X.2.1 156 i' := fun i' q => by rw [sL_row, pk_uLn q, f4]
    have r2 : (sL X1 156 i x').2.1 156 i = x' := by rw [sL_row, pk_uLs]
    have hT' : TpX T t (sL X1 156 i x').1 := TpX_fr hT (f2.1 1 (by decide)) (f2.1 2 (by decide))
    rw [f3', nI_subN (by omega)]
    unfold fX7_readNumber_j103 fX7_readNumber_j104
    rcases e5 with ⟨g1, g2, rfl, rfl, rfl⟩ | ⟨g1, rfl⟩ | ⟨g0, g1, g2, rfl⟩
    · have es : ∃ z, fX6_signAt n (sL X1 156 i x') (nI nx) = some (sL X1 156 i x', z) ∧ blL z = 0 := by
        by_cases c : nx < t
        · exact ⟨_, sign_in hT' ht c, (bl_f (hT.2 nx c).1 (g2 c)).1⟩
        · exact ⟨_, sign_out hT' (by omega) (by omega), by decide⟩
      obtain ⟨z, z1, z2⟩ := es
      rw [if_neg (show ¬ (4 : Int32) < nI (nx - pl) from nI_nlt (b := nx - pl) (a := 4) g1 (by decide)), z1, bd_go, fL_X, bd_go, z2, if_pos rfl, if_neg one_ne, bd_go]
      exact ⟨_, rfl, kZ_tr f2 kL, r1, fun _ => f3', fun _ => by rw [r2, f5 g1], fun z => by omega⟩
    · rw [if_pos (show (4 : Int32) < nI (e - pl) from nI_lt (a := 4) g1 (by omega)), if_pos rfl, bd_go]
      exact ⟨_, rfl, kZ_tr f2 kL, r1, fun z => absurd rfl z, fun z => by omega, fun z => by omega⟩
    · rw [if_neg (show ¬ (4 : Int32) < nI (e - pl) from nI_nlt (b := e - pl) (a := 4) g0 (by decide)), sign_in hT' ht g1, bd_go, fL_X, bd_go, (bl_t (hT.2 e g1).1 g2).1, if_neg one_ne, if_pos rfl, bd_go]
      exact ⟨_, rfl, kZ_tr f2 kL, r1, fun z => absurd rfl z, fun z => by omega, fun z => by omega⟩
  · have hv := (hT.2 pl c0).1
    rw [h5, sign_in hT ht c0, bd_go, h5, hT.1, if_pos (nI_lt c0 (by omega)), fL_X, bd_go, (bl_f hv c1).1, if_pos rfl, fD_X, bd_go, (bd_f hv c2).1, if_pos rfl, bn_go, h5, nI_1]
    have h5' : (sI X 152 5 (nI (pl + 1))).1 152 5 = nI (pl + 1) := by rw [sI_row, upd_eq]
    rcases e5 with ⟨g1, rfl, rfl⟩ | ⟨g1, rfl⟩
    · rw [if_pos ((sg_e (T pl) hv).2.2.1.mpr g1)]
      exact ⟨_, rfl, kZ_5, fun _ _ => rfl, fun _ => h5', fun z => by omega, fun z => by omega⟩
    · rw [if_neg (fun z => g1 ((sg_e (T pl) hv).2.2.1.mp z))]
      exact ⟨_, rfl, kZ_5, fun _ _ => rfl, fun z => absurd rfl z, fun z => by omega, fun z => by omega⟩
theorem blank_loop {k14 : St → Int32 → Int32 → Option (St × Unit)} {x3 : Int32} {pl : Nat} (ht : t ≤ 1700) (hp : pl ≤ t) (h3 : pl < t → ¬ isB (T pl)) : ∀ (w s j : Nat) (X : St), s + w = pl → w < j → (∀ i, s ≤ i → i < pl → isB (T i)) → TpX T t X.1 → X.1 152 5 = nI s → ∃ X', fX7_scan_l30 n k14 j X x3 = fX7_scan_j68 n k14 X' x3 ∧ kZ X X' ∧ X'.2.1 = X.2.1 ∧ X'.1 152 5 = nI pl := by
  have bf : ∀ X : St, ∀ v, v < 256 → fX7_isBlank n X (sgn v) = some (X, if v = 32 ∨ v = 10 then 1 else 0) := fun X v hv => by
    obtain ⟨s1, s2, -⟩ := sg_e v hv
    unfold fX7_isBlank fX7_isBlank_j12
    by_cases c1 : v = 32
    · rw [if_pos (s1.mpr c1), if_pos (Or.inl c1)]
    · rw [if_neg (fun z => c1 (s1.mp z))]
      by_cases c2 : v = 10
      · rw [if_pos (s2.mpr c2), if_pos (Or.inr c2)]
      · rw [if_neg (fun z => c2 (s2.mp z)), if_neg (by omega)]
  intro w
  induction w with
  | zero =>
    intro s j X h hj hb hT h5
    obtain ⟨j, rfl⟩ := suc_of hj
    have e : s = pl := by omega
    subst e
    refine ⟨X, ?_, kZ_rf, rfl, h5⟩
    rw [fX7_scan_l30, hT.1, h5]
    by_cases c : s < t
    · have h3' := h3 c
      unfold isB at h3'
      rw [if_neg (nI_ge c (by omega)), sign_in hT ht c, bd_go, bf X _ (hT.2 s c).1, bd_go, if_neg h3', if_pos rfl]
    · rw [if_pos (nI_le (by omega) (by omega))]
  | succ w ih =>
    intro s j X h hj hb hT h5
    obtain ⟨j, rfl⟩ := suc_of hj
    have hb' := hb s (Nat.le_refl _) (by omega)
    unfold isB at hb'
    rw [fX7_scan_l30, hT.1, h5, if_neg (nI_ge (by omega) (by omega)), sign_in hT ht (by omega), bd_go, bf X _ (hT.2 s (by omega)).1, bd_go, if_pos hb', if_neg one_ne, bn_go, h5, nI_1]
    obtain ⟨X', f1, f2, f3, f4⟩ := ih (s + 1) j (sI X 152 5 (nI (s + 1))) (by omega) (by omega) (fun i h1 h2 => hb i (by omega) h2) (TpX_fr hT (sI_ne (by decide)) (sI_ne (by decide))) (by rw [sI_row, upd_eq])
    exact ⟨X', f1, kZ_tr kZ_5 f2, f3, f4⟩
/-- what scanning changes -/
def kS (X X' : St) : Prop := (∀ a, a ≠ 152 → a ≠ 154 → a ≠ 155 → X'.1 a = X.1 a) ∧ (∀ k, k ≠ 4 → k ≠ 5 → X'.1 152 k = X.1 152 k) ∧ (∀ a, a ≠ 156 → X'.2.1 a = X.2.1 a) ∧ X'.2.2 = X.2.2
theorem kS_rf {X : St} : kS X X := ⟨fun _ _ _ _ => rfl, fun _ _ _ => rfl, fun _ _ => rfl, rfl⟩
theorem kS_tr {A B C : St} (h : kS A B) (g : kS B C) : kS A C := ⟨fun a q r s => (g.1 a q r s).trans (h.1 a q r s), fun k q r => (g.2.1 k q r).trans (h.2.1 k q r), fun a q => (g.2.2.1 a q).trans (h.2.2.1 a q), g.2.2.2.trans h.2.2.2⟩
/-- one token -/
theorem scan_one {k14 : St → Int32 → Int32 → Option (St × Unit)} {i a kd pl nx x y v : Nat} (hn : 200000 ≤ n) (hT : TpX T t X.1) (ht : t ≤ 1700) (h153 : ∀ i, i < 14 → X.2.1 153 i = pkS i) (hi : i < 1701) (h4 : X.1 152 4 = nI i) (h5 : X.1 152 5 = nI a) (hk : TkC T t a kd pl nx x y v) : ∃ X', fX7_scan_l30 n k14 n X (nI i) = k14 X' (nI kd) (nI (i + 1)) ∧ kS X X' ∧ X'.1 152 4 = nI (i + 1) ∧ (kd ≠ 1 → X'.1 152 5 = nI nx) ∧ TA X' i kd pl y v ∧ (∀ i', i' ≠ i → X'.1 154 i' = X.1 154 i' ∧ X'.1 155 i' = X.1 155 i' ∧ X'.2.1 156 i' = X.2.1 156 i') := by
  obtain ⟨X1, b1, b2, b3, b4⟩ := blank_loop (n := n) (k14 := k14) (x3 := nI i) ht hk.2.1 hk.2.2.2.1 (pl - a) a n X (by have := hk.1; omega) (by have := hk.2.1; omega) hk.2.2.1 hT h5
  rw [b1]
  unfold fX7_scan_j68
  rw [gd_pos (ib_nI hi (by decide)), bn_go]
  simp only [cl_nI (show i < 2 ^ 31 by omega)]
  rw [b4]
  have hT2 : TpX T t (sI X1 155 i (nI pl)).1 := TpX_fr hT (by rw [sI_ne (by decide), b2.1 1 (by decide)]) (by rw [sI_ne (by decide), b2.1 2 (by decide)])
  obtain ⟨X2, c1, c2, c3, c4, c5, c6⟩ := token_X (X := sI X1 155 i (nI pl)) hn hT2 ht (fun i' h => by show X1.2.1 153 i' = _; rw [b3]; exact h153 i' h) hi (by rw [sI_ne (by decide)]; exact b4) hk
  rw [c1, bd_go, gd_pos (ib_nI hi (by decide)), bn_go, bn_go, bn_go, nI_1]
  have e4 : (sI X2 154 i (nI kd)).1 152 4 = nI i := by rw [sI_ne (by decide), c2.2.1 4 (by decide), sI_ne (by decide), b2.2.1 4 (by decide)]; exact h4
  rw [e4, nI_1]
  refine ⟨_, rfl, ⟨fun a q1 q2 q3 => ?_, fun k q1 q2 => ?_, fun a q => ?_, ?_⟩, by rw [sI_row, upd_eq], fun z => ?_, ⟨?_, ?_, fun z => ?_, fun z => ?_⟩, fun i' q => ⟨?_, ?_, ?_⟩⟩
  · rw [sI_ne q1, sI_ne q2, c2.1 a q1, sI_ne q3, b2.1 a q1]
  · rw [sI_row, upd_ne q1, sI_ne (by decide), c2.2.1 k q2, sI_ne (by decide), b2.2.1 k q2]
  · show X2.2.1 a = _
    rw [c2.2.2.1 a q]
    show X1.2.1 a = _
    rw [b3]
  · show X2.2.2 = _
    rw [c2.2.2.2]
    exact b2.2.2.2
  · rw [sI_row, upd_ne (by decide), sI_ne (by decide)]; exact c4 z
  · rw [sI_ne (by decide), sI_row, upd_eq]
  · rw [sI_ne (by decide), sI_ne (by decide), c2.1 155 (by decide), sI_row, upd_eq]
  · exact c5 z
  · exact c6 z
  · rw [sI_ne (by decide), sI_row, upd_ne q, c2.1 154 (by decide), sI_ne (by decide), b2.1 154 (by decide)]
  · rw [sI_ne (by decide), sI_ne (by decide), c2.1 155 (by decide), sI_row, upd_ne q, b2.1 155 (by decide)]
  · show X2.2.1 156 i' = _
    rw [c3 i' q]
    show X1.2.1 156 i' = _
    rw [b3]
end
