section
variable {G : Gx} {l : Launch} {cy : Nat → ClassId} {ad : Nat → Nat} {D : va_G}
def fX1_choose_j60 (n : Nat) (S : St) : Option (St × Int32) :=
  some (S, S.1 234 8)
set_option maxRecDepth 100000 in
set_option maxHeartbeats 4000000 in
theorem wX1_choose_j60 (C : Cx G sdX cX1_choose 5 RX1 (some .int)) {n : Nat} {S S' : St} {r : Int32} (h : fX1_choose_j60 n S = some (S', r)) : Wp G sdX (rmOf 2 53) 5 (Qm G sdX (some (.int r)) S') S 60 [(0, .ref (gA G 234))] [] := by
  unfold fX1_choose_j60 at h
  refine wp_aload_n (pc := 60) C 0 dX1_choose_60 rfl rfl ?_
  refine wp_getI (pc := 61) C flX1_37 rfl (Nat.le_of_ble_eq_true rfl) rfl dX1_choose_61 ?_
  exact rt_i C rfl h dX1_choose_64
def fX1_choose_j54 (n : Nat) (k8 : St → Nat → Int32 → Int32 → Option (St × Int32)) (S : St) (a1 : Nat) (x3 : Int32) (x4 : Int32) : Option (St × Int32) :=
  bn (x4 + 1) (fun z1 : Int32 =>
  k8 S a1 x3 z1)
set_option maxRecDepth 100000 in
set_option maxHeartbeats 4000000 in
theorem wX1_choose_j54 (C : Cx G sdX cX1_choose 5 RX1 (some .int)) {n : Nat} {k8 : St → Nat → Int32 → Int32 → Option (St × Int32)} {S S' : St} {r : Int32} {a1 : Nat} {x3 : Int32} {x4 : Int32} (hk8 : ∀ (S : St) (a1 : Nat) (x3 : Int32) (x4 : Int32), k8 S a1 x3 x4 = some (S', r) → Wp G sdX (rmOf 2 53) 5 (Qm G sdX (some (.int r)) S') S 8 [(0, .ref (gA G 234)), (1, .ref (gA G a1)), (2, .ref (gA G 157)), (3, .int x3), (4, .int x4)] []) (h : fX1_choose_j54 n k8 S a1 x3 x4 = some (S', r)) : Wp G sdX (rmOf 2 53) 5 (Qm G sdX (some (.int r)) S') S 54 [(0, .ref (gA G 234)), (1, .ref (gA G a1)), (2, .ref (gA G 157)), (3, .int x3), (4, .int x4)] [] := by
  unfold fX1_choose_j54 at h
  obtain ⟨z1, ez1, h⟩ := bn_some h
  refine wp_iinc (q := 4) (pc := 54) C (by decide) ez1 [(4, .int z1), (0, .ref (gA G 234)), (1, .ref (gA G a1)), (2, .ref (gA G 157)), (3, .int x3)] dX1_choose_54 rfl (Nat.le_of_ble_eq_true rfl) rfl ?_
  refine wp_goto (pc := 57) C 8 dX1_choose_57 (by decide) ?_
  exact wp_sub C [1, 2, 3, 4, 0] rfl (hk8 _ _ _ _ h)
def fX1_choose_l8 (n : Nat) : Nat → St → Nat → Int32 → Int32 → Option (St × Int32)
  | 0, _, _, _, _ => none
  | j + 1, S, a1, x3, x4 =>
    if (S.1 157 4) ≤ x4 then
      fX1_choose_j60 n S
    else
      gd (ib x4 72) (
      gd (isK sdX (srX 160 (Int32.toNatClampNeg x4)) 13) (
      bd (fX1_fits n S a1 (srX 160 (Int32.toNatClampNeg x4)) x3) (fun S3 r4 =>
      if r4 = 0 then
        fX1_choose_j54 n (fX1_choose_l8 n j) S3 a1 x3 x4
      else
        gd (ib (S3.1 234 8) 72) (
        bn (sI S3 242 (Int32.toNatClampNeg (S3.1 234 8)) x4) (fun S6 : St =>
        bn (sI S6 234 8 ((S6.1 234 8) + 1)) (fun S7 : St =>
        fX1_choose_j54 n (fX1_choose_l8 n j) S7 a1 x3 x4))))))
set_option maxRecDepth 100000 in
set_option maxHeartbeats 4000000 in
theorem wX1_choose_l8 (C : Cx G sdX cX1_choose 5 RX1 (some .int)) {n : Nat} {S' : St} {r : Int32} : ∀ (j : Nat) (S : St) (a1 : Nat) (x3 : Int32) (x4 : Int32), fX1_choose_l8 n j S a1 x3 x4 = some (S', r) → Wp G sdX (rmOf 2 53) 5 (Qm G sdX (some (.int r)) S') S 8 [(0, .ref (gA G 234)), (1, .ref (gA G a1)), (2, .ref (gA G 157)), (3, .int x3), (4, .int x4)] [] := by
  intro j
  induction j with
  | zero =>
    intro S a1 x3 x4 h
    exact nomatch (show (none : Option (St × Int32)) = some _ from h)
  | succ j ih =>
    intro S a1 x3 x4 h
    rw [fX1_choose_l8] at h
    refine wp_iload (pc := 8) C 4 dX1_choose_8 rfl ?_
    refine wp_aload_n (pc := 10) C 2 dX1_choose_10 rfl rfl ?_
    refine wp_getI (pc := 11) C flX1_48 rfl (Nat.le_of_ble_eq_true rfl) rfl dX1_choose_11 ?_
    refine wp_icmp_ge (pc := 14) C 60 dX1_choose_14 (by decide) (fun q => ?_) (fun q => ?_)
    · have h := it_pos q h
      exact wp_sub C [0] rfl (wX1_choose_j60 C h)
    · have h := it_neg q h
      refine wp_aload_n (pc := 17) C 0 dX1_choose_17 rfl rfl ?_
      refine wp_aload_n (pc := 18) C 1 dX1_choose_18 rfl rfl ?_
      refine wp_aload_n (pc := 19) C 2 dX1_choose_19 rfl rfl ?_
      refine wp_getS (v := 160) (pc := 20) C flX1_51 rfl rfl (Nat.le_of_ble_eq_true rfl) (Nat.le_of_ble_eq_true rfl) rfl dX1_choose_20 ?_
      refine wp_iload (pc := 23) C 4 dX1_choose_23 rfl ?_
      obtain ⟨g1, h⟩ := gd_some h
      obtain ⟨g2, h⟩ := gd_some h
      refine wp_aald (t0 := 5) (pc := 25) C (Nat.le_of_ble_eq_true rfl) rfl (by decide) rfl rfl g1 g2.1 dX1_choose_25 ?_
      refine wp_iload_n (pc := 26) C 3 dX1_choose_26 rfl rfl ?_
      obtain ⟨S3, r4, cS3, h⟩ := bd_some h
      refine wp_callVi (As := [.ref (gA G a1), .ref (gA G (srX 160 (Int32.toNatClampNeg x4))), .int x3]) (st := []) (pc := 27) C (CtX1_fits cS3) mX1_fits iX1_fits kX1_55 (Nat.le_of_ble_eq_true rfl) rfl (by decide) rfl rfl rfl rfl (Nat.le_of_ble_eq_true rfl) ⟨Nat.le_of_ble_eq_true rfl, Nat.le_of_ble_eq_true rfl⟩ dX1_choose_27 ?_
      refine wp_if_eq (pc := 30) C 54 dX1_choose_30 (by decide) (fun q => ?_) (fun q => ?_)
      · have h := it_pos q h
        exact (wX1_choose_j54 C ih h)
      · have h := it_neg q h
        refine wp_aload_n (pc := 33) C 0 dX1_choose_33 rfl rfl ?_
        refine wp_getS (v := 242) (pc := 34) C flX1_34 rfl rfl (Nat.le_of_ble_eq_true rfl) (Nat.le_of_ble_eq_true rfl) rfl dX1_choose_34 ?_
        refine wp_aload_n (pc := 37) C 0 dX1_choose_37 rfl rfl ?_
        refine wp_getI (pc := 38) C flX1_37 rfl (Nat.le_of_ble_eq_true rfl) rfl dX1_choose_38 ?_
        refine wp_iload (pc := 41) C 4 dX1_choose_41 rfl ?_
        obtain ⟨g5, h⟩ := gd_some h
        obtain ⟨S6, eS6, h⟩ := bn_some h
        refine wp_iast (pc := 43) C eS6 (Nat.le_of_ble_eq_true rfl) rfl g5 dX1_choose_43 ?_
        refine wp_aload_n (pc := 44) C 0 dX1_choose_44 rfl rfl ?_
        refine wp_dup (pc := 45) C dX1_choose_45 rfl ?_
        refine wp_getI (pc := 46) C flX1_37 rfl (Nat.le_of_ble_eq_true rfl) rfl dX1_choose_46 ?_
        refine wp_iconst (v := 1) (pc := 49) C dX1_choose_49 (by decide) ?_
        refine wp_iadd (pc := 50) C dX1_choose_50 ?_
        obtain ⟨S7, eS7, h⟩ := bn_some h
        refine wp_putI (pc := 51) C eS7 flX1_37 fpX1_8 rfl (Nat.le_of_ble_eq_true rfl) rfl dX1_choose_51 ?_
        exact (wX1_choose_j54 C ih h)
def fX1_choose (n : Nat) (S : St) (a1 : Nat) (x3 : Int32) : Option (St × Int32) :=
  bn (sI S 234 8 0) (fun S1 : St =>
  fX1_choose_l8 n n S1 a1 x3 0)
set_option maxRecDepth 100000 in
set_option maxHeartbeats 4000000 in
theorem wX1_choose (C : Cx G sdX cX1_choose 5 RX1 (some .int)) {n : Nat} {S S' : St} {r : Int32} {a1 : Nat} {x3 : Int32} (h : fX1_choose n S a1 x3 = some (S', r)) : Wp G sdX (rmOf 2 53) 5 (Qm G sdX (some (.int r)) S') S 0 [(0, .ref (gA G 234)), (1, .ref (gA G a1)), (2, .ref (gA G 157)), (3, .int x3)] [] := by
  unfold fX1_choose at h
  refine wp_aload_n (pc := 0) C 0 dX1_choose_0 rfl rfl ?_
  refine wp_iconst (v := 0) (pc := 1) C dX1_choose_1 (by decide) ?_
  obtain ⟨S1, eS1, h⟩ := bn_some h
  refine wp_putI (pc := 2) C eS1 flX1_37 fpX1_8 rfl (Nat.le_of_ble_eq_true rfl) rfl dX1_choose_2 ?_
  refine wp_iconst (v := 0) (pc := 5) C dX1_choose_5 (by decide) ?_
  refine wp_istore (pc := 6) C rfl [(4, .int 0), (0, .ref (gA G 234)), (1, .ref (gA G a1)), (2, .ref (gA G 157)), (3, .int x3)] dX1_choose_6 (Nat.le_of_ble_eq_true rfl) rfl ?_
  exact wp_sub C [1, 2, 3, 4, 0] rfl (wX1_choose_l8 C _ _ _ _ _ h)
theorem CtX1_choose {n : Nat} {S S' : St} {r : Int32} {a1 : Nat} {x3 : Int32} (h : fX1_choose n S a1 x3 = some (S', r)) : Ct l sdX cy ad D yX1_choose cX1_choose 5 (some .int) 2 53 [.ref (ad 234), .ref (ad a1), .ref (ad 157), .int x3] S (some (.int r)) S' :=
  Ct_of (own := RX1) mX1_choose rfl (Nat.le_of_ble_eq_true rfl) (fun G e1 e2 e3 e4 C => by subst e1 e2 e3 e4; exact wX1_choose C h)
def fX1_greatestCrowd_j52 (n : Nat) (k4 : St → Int32 → Int32 → Option (St × Int32)) (S : St) (x1 : Int32) (x2 : Int32) (x3 : Int32) : Option (St × Int32) :=
  bn (if x1 < x3 then x3 else x1) (fun z1 : Int32 =>
  bn (x2 + 1) (fun z2 : Int32 =>
  k4 S z1 z2))
set_option maxRecDepth 100000 in
set_option maxHeartbeats 4000000 in
theorem wX1_greatestCrowd_j52 (C : Cx G sdX cX1_greatestCrowd 5 RX1 (some .int)) {n : Nat} {k4 : St → Int32 → Int32 → Option (St × Int32)} {S S' : St} {r : Int32} {x1 : Int32} {x2 : Int32} {x3 : Int32} (hk4 : ∀ (S : St) (x1 : Int32) (x2 : Int32), k4 S x1 x2 = some (S', r) → Wp G sdX (rmOf 1 23) 5 (Qm G sdX (some (.int r)) S') S 4 [(0, .ref (gA G 234)), (1, .int x1), (2, .int x2)] []) (h : fX1_greatestCrowd_j52 n k4 S x1 x2 x3 = some (S', r)) : Wp G sdX (rmOf 1 23) 5 (Qm G sdX (some (.int r)) S') S 52 [(0, .ref (gA G 234)), (1, .int x1), (2, .int x2), (3, .int x3)] [] := by
  unfold fX1_greatestCrowd_j52 at h
  refine wp_iload_n (pc := 52) C 1 dX1_greatestCrowd_52 rfl rfl ?_
  refine wp_iload_n (pc := 53) C 3 dX1_greatestCrowd_53 rfl rfl ?_
  refine wp_maxI (pc := 54) C kX1_98 (Nat.le_of_ble_eq_true rfl) (Nat.le_of_ble_eq_true rfl) dX1_greatestCrowd_54 ?_
  obtain ⟨z1, ez1, h⟩ := bn_some h
  refine wp_istore_n (pc := 57) C ez1 [(1, .int z1), (0, .ref (gA G 234)), (2, .int x2), (3, .int x3)] dX1_greatestCrowd_57 rfl (Nat.le_of_ble_eq_true rfl) rfl ?_
  obtain ⟨z2, ez2, h⟩ := bn_some h
  refine wp_iinc (q := 2) (pc := 58) C (by decide) ez2 [(2, .int z2), (1, .int z1), (0, .ref (gA G 234)), (3, .int x3)] dX1_greatestCrowd_58 rfl (Nat.le_of_ble_eq_true rfl) rfl ?_
  refine wp_goto (pc := 61) C 4 dX1_greatestCrowd_61 (by decide) ?_
  exact wp_sub C [2, 1, 0] rfl (hk4 _ _ _ h)
def fX1_greatestCrowd_j46 (n : Nat) (k4 : St → Int32 → Int32 → Option (St × Int32)) (k17 : St → Int32 → Int32 → Int32 → Int32 → Option (St × Int32)) (S : St) (x1 : Int32) (x2 : Int32) (x3 : Int32) (x4 : Int32) : Option (St × Int32) :=
  bn (x4 + 1) (fun z1 : Int32 =>
  k17 S x1 x2 x3 z1)
set_option maxRecDepth 100000 in
set_option maxHeartbeats 4000000 in
theorem wX1_greatestCrowd_j46 (C : Cx G sdX cX1_greatestCrowd 5 RX1 (some .int)) {n : Nat} {k4 : St → Int32 → Int32 → Option (St × Int32)} {k17 : St → Int32 → Int32 → Int32 → Int32 → Option (St × Int32)} {S S' : St} {r : Int32} {x1 : Int32} {x2 : Int32} {x3 : Int32} {x4 : Int32} (hk4 : ∀ (S : St) (x1 : Int32) (x2 : Int32), k4 S x1 x2 = some (S', r) → Wp G sdX (rmOf 1 23) 5 (Qm G sdX (some (.int r)) S') S 4 [(0, .ref (gA G 234)), (1, .int x1), (2, .int x2)] []) (hk17 : ∀ (S : St) (x1 : Int32) (x2 : Int32) (x3 : Int32) (x4 : Int32), k17 S x1 x2 x3 x4 = some (S', r) → Wp G sdX (rmOf 1 23) 5 (Qm G sdX (some (.int r)) S') S 17 [(0, .ref (gA G 234)), (1, .int x1), (2, .int x2), (3, .int x3), (4, .int x4)] []) (h : fX1_greatestCrowd_j46 n k4 k17 S x1 x2 x3 x4 = some (S', r)) : Wp G sdX (rmOf 1 23) 5 (Qm G sdX (some (.int r)) S') S 46 [(0, .ref (gA G 234)), (1, .int x1), (2, .int x2), (3, .int x3), (4, .int x4)] [] := by
  unfold fX1_greatestCrowd_j46 at h
  obtain ⟨z1, ez1, h⟩ := bn_some h
  refine wp_iinc (q := 4) (pc := 46) C (by decide) ez1 [(4, .int z1), (0, .ref (gA G 234)), (1, .int x1), (2, .int x2), (3, .int x3)] dX1_greatestCrowd_46 rfl (Nat.le_of_ble_eq_true rfl) rfl ?_
  refine wp_goto (pc := 49) C 17 dX1_greatestCrowd_49 (by decide) ?_
  exact wp_sub C [1, 2, 3, 4, 0] rfl (hk17 _ _ _ _ _ h)
def fX1_greatestCrowd_l17 (n : Nat) (k4 : St → Int32 → Int32 → Option (St × Int32)) : Nat → St → Int32 → Int32 → Int32 → Int32 → Option (St × Int32)
  | 0, _, _, _, _, _ => none
  | j + 1, S, x1, x2, x3, x4 =>
    if (S.1 234 8) ≤ x4 then
      fX1_greatestCrowd_j52 n k4 S x1 x2 x3
    else
      gd (ib x4 72) (
      gd (ib x2 72) (
      if (lg_cmp (S.2.1 241 (Int32.toNatClampNeg x4)) (S.2.1 241 (Int32.toNatClampNeg x2))) = 0 then
        bn (x3 + 1) (fun z3 : Int32 =>
        fX1_greatestCrowd_j46 n k4 (fX1_greatestCrowd_l17 n k4 j) S x1 x2 z3 x4)
      else
        fX1_greatestCrowd_j46 n k4 (fX1_greatestCrowd_l17 n k4 j) S x1 x2 x3 x4))
set_option maxRecDepth 100000 in
set_option maxHeartbeats 4000000 in
theorem wX1_greatestCrowd_l17 (C : Cx G sdX cX1_greatestCrowd 5 RX1 (some .int)) {n : Nat} {k4 : St → Int32 → Int32 → Option (St × Int32)} {S' : St} {r : Int32} (hk4 : ∀ (S : St) (x1 : Int32) (x2 : Int32), k4 S x1 x2 = some (S', r) → Wp G sdX (rmOf 1 23) 5 (Qm G sdX (some (.int r)) S') S 4 [(0, .ref (gA G 234)), (1, .int x1), (2, .int x2)] []) : ∀ (j : Nat) (S : St) (x1 : Int32) (x2 : Int32) (x3 : Int32) (x4 : Int32), fX1_greatestCrowd_l17 n k4 j S x1 x2 x3 x4 = some (S', r) → Wp G sdX (rmOf 1 23) 5 (Qm G sdX (some (.int r)) S') S 17 [(0, .ref (gA G 234)), (1, .int x1), (2, .int x2), (3, .int x3), (4, .int x4)] [] := by
  intro j
  induction j with
  | zero =>
    intro S x1 x2 x3 x4 h
    exact nomatch (show (none : Option (St × Int32)) = some _ from h)
  | succ j ih =>
    intro S x1 x2 x3 x4 h
    rw [fX1_greatestCrowd_l17] at h
    refine wp_iload (pc := 17) C 4 dX1_greatestCrowd_17 rfl ?_
    refine wp_aload_n (pc := 19) C 0 dX1_greatestCrowd_19 rfl rfl ?_
    refine wp_getI (pc := 20) C flX1_37 rfl (Nat.le_of_ble_eq_true rfl) rfl dX1_greatestCrowd_20 ?_
    refine wp_icmp_ge (pc := 23) C 52 dX1_greatestCrowd_23 (by decide) (fun q => ?_) (fun q => ?_)
    · have h := it_pos q h
      exact wp_sub C [0, 1, 2, 3] rfl (wX1_greatestCrowd_j52 C hk4 h)
    · have h := it_neg q h
      refine wp_aload_n (pc := 26) C 0 dX1_greatestCrowd_26 rfl rfl ?_
      refine wp_getS (v := 241) (pc := 27) C flX1_30 rfl rfl (Nat.le_of_ble_eq_true rfl) (Nat.le_of_ble_eq_true rfl) rfl dX1_greatestCrowd_27 ?_
      refine wp_iload (pc := 30) C 4 dX1_greatestCrowd_30 rfl ?_
      obtain ⟨g1, h⟩ := gd_some h
      refine wp_lald (pc := 32) C (Nat.le_of_ble_eq_true rfl) rfl g1 dX1_greatestCrowd_32 ?_
      refine wp_aload_n (pc := 33) C 0 dX1_greatestCrowd_33 rfl rfl ?_
      refine wp_getS (v := 241) (pc := 34) C flX1_30 rfl rfl (Nat.le_of_ble_eq_true rfl) (Nat.le_of_ble_eq_true rfl) rfl dX1_greatestCrowd_34 ?_
      refine wp_iload_n (pc := 37) C 2 dX1_greatestCrowd_37 rfl rfl ?_
      obtain ⟨g2, h⟩ := gd_some h
      refine wp_lald (pc := 38) C (Nat.le_of_ble_eq_true rfl) rfl g2 dX1_greatestCrowd_38 ?_
      refine wp_lcmp (pc := 39) C dX1_greatestCrowd_39 ?_
      refine wp_if_ne (pc := 40) C 46 dX1_greatestCrowd_40 (by decide) (fun q => ?_) (fun q => ?_)
      · have h := it_neg q h
        exact (wX1_greatestCrowd_j46 C hk4 ih h)
      · have h := it_pos q h
        obtain ⟨z3, ez3, h⟩ := bn_some h
        refine wp_iinc (q := 3) (pc := 43) C (by decide) ez3 [(3, .int z3), (0, .ref (gA G 234)), (1, .int x1), (2, .int x2), (4, .int x4)] dX1_greatestCrowd_43 rfl (Nat.le_of_ble_eq_true rfl) rfl ?_
        exact wp_sub C [1, 2, 3, 0, 4] rfl (wX1_greatestCrowd_j46 C hk4 ih h)
def fX1_greatestCrowd_l4 (n : Nat) : Nat → St → Int32 → Int32 → Option (St × Int32)
  | 0, _, _, _ => none
  | j + 1, S, x1, x2 =>
    if (S.1 234 8) ≤ x2 then
      some (S, x1)
    else
      fX1_greatestCrowd_l17 n (fX1_greatestCrowd_l4 n j) n S x1 x2 0 x2
set_option maxRecDepth 100000 in
set_option maxHeartbeats 4000000 in
theorem wX1_greatestCrowd_l4 (C : Cx G sdX cX1_greatestCrowd 5 RX1 (some .int)) {n : Nat} {S' : St} {r : Int32} : ∀ (j : Nat) (S : St) (x1 : Int32) (x2 : Int32), fX1_greatestCrowd_l4 n j S x1 x2 = some (S', r) → Wp G sdX (rmOf 1 23) 5 (Qm G sdX (some (.int r)) S') S 4 [(0, .ref (gA G 234)), (1, .int x1), (2, .int x2)] [] := by
  intro j
  induction j with
  | zero =>
    intro S x1 x2 h
    exact nomatch (show (none : Option (St × Int32)) = some _ from h)
  | succ j ih =>
    intro S x1 x2 h
    rw [fX1_greatestCrowd_l4] at h
    refine wp_iload_n (pc := 4) C 2 dX1_greatestCrowd_4 rfl rfl ?_
    refine wp_aload_n (pc := 5) C 0 dX1_greatestCrowd_5 rfl rfl ?_
    refine wp_getI (pc := 6) C flX1_37 rfl (Nat.le_of_ble_eq_true rfl) rfl dX1_greatestCrowd_6 ?_
    refine wp_icmp_ge (pc := 9) C 64 dX1_greatestCrowd_9 (by decide) (fun q => ?_) (fun q => ?_)
    · have h := it_pos q h
      refine wp_iload_n (pc := 64) C 1 dX1_greatestCrowd_64 rfl rfl ?_
      exact rt_i C rfl h dX1_greatestCrowd_65
    · have h := it_neg q h
      refine wp_iconst (v := 0) (pc := 12) C dX1_greatestCrowd_12 (by decide) ?_
      refine wp_istore_n (pc := 13) C rfl [(3, .int 0), (0, .ref (gA G 234)), (1, .int x1), (2, .int x2)] dX1_greatestCrowd_13 rfl (Nat.le_of_ble_eq_true rfl) rfl ?_
      refine wp_iload_n (pc := 14) C 3 dX1_greatestCrowd_14 rfl rfl ?_
      refine wp_istore (pc := 15) C rfl [(4, .int x2), (3, .int 0), (0, .ref (gA G 234)), (1, .int x1), (2, .int x2)] dX1_greatestCrowd_15 (Nat.le_of_ble_eq_true rfl) rfl ?_
      exact wp_sub C [2, 3, 4, 1, 0] rfl (wX1_greatestCrowd_l17 C ih _ _ _ _ _ _ h)
def fX1_greatestCrowd (n : Nat) (S : St) : Option (St × Int32) :=
  fX1_greatestCrowd_l4 n n S 0 0
set_option maxRecDepth 100000 in
set_option maxHeartbeats 4000000 in
theorem wX1_greatestCrowd (C : Cx G sdX cX1_greatestCrowd 5 RX1 (some .int)) {n : Nat} {S S' : St} {r : Int32} (h : fX1_greatestCrowd n S = some (S', r)) : Wp G sdX (rmOf 1 23) 5 (Qm G sdX (some (.int r)) S') S 0 [(0, .ref (gA G 234))] [] := by
  unfold fX1_greatestCrowd at h
  refine wp_iconst (v := 0) (pc := 0) C dX1_greatestCrowd_0 (by decide) ?_
  refine wp_istore_n (pc := 1) C rfl [(1, .int 0), (0, .ref (gA G 234))] dX1_greatestCrowd_1 rfl (Nat.le_of_ble_eq_true rfl) rfl ?_
  refine wp_iconst (v := 0) (pc := 2) C dX1_greatestCrowd_2 (by decide) ?_
  refine wp_istore_n (pc := 3) C rfl [(2, .int 0), (1, .int 0), (0, .ref (gA G 234))] dX1_greatestCrowd_3 rfl (Nat.le_of_ble_eq_true rfl) rfl ?_
  exact wp_sub C [2, 1, 0] rfl (wX1_greatestCrowd_l4 C _ _ _ _ h)
theorem CtX1_greatestCrowd {n : Nat} {S S' : St} {r : Int32} (h : fX1_greatestCrowd n S = some (S', r)) : Ct l sdX cy ad D yX1_greatestCrowd cX1_greatestCrowd 5 (some .int) 1 23 [.ref (ad 234)] S (some (.int r)) S' :=
  Ct_of (own := RX1) mX1_greatestCrowd rfl (Nat.le_of_ble_eq_true rfl) (fun G e1 e2 e3 e4 C => by subst e1 e2 e3 e4; exact wX1_greatestCrowd C h)
def fX1_findNext_j120 (n : Nat) (k8 : St → Nat → Int32 → Option (St × Unit)) (S : St) (a1 : Nat) (x3 : Int32) : Option (St × Unit) :=
  bn (x3 + 1) (fun z1 : Int32 =>
  k8 S a1 z1)
set_option maxRecDepth 100000 in
set_option maxHeartbeats 4000000 in
theorem wX1_findNext_j120 (C : Cx G sdX cX1_findNext 6 RX1 none) {n : Nat} {k8 : St → Nat → Int32 → Option (St × Unit)} {S S' : St} {r : Unit} {a1 : Nat} {x3 : Int32} (hk8 : ∀ (S : St) (a1 : Nat) (x3 : Int32), k8 S a1 x3 = some (S', r) → Wp G sdX (rmOf 2 47) 6 (Qm G sdX none S') S 8 [(0, .ref (gA G 234)), (1, .ref (gA G a1)), (2, .ref (gA G 157)), (3, .int x3)] []) (h : fX1_findNext_j120 n k8 S a1 x3 = some (S', r)) : Wp G sdX (rmOf 2 47) 6 (Qm G sdX none S') S 120 [(0, .ref (gA G 234)), (1, .ref (gA G a1)), (2, .ref (gA G 157)), (3, .int x3)] [] := by
  unfold fX1_findNext_j120 at h
  obtain ⟨z1, ez1, h⟩ := bn_some h
  refine wp_iinc (q := 3) (pc := 120) C (by decide) ez1 [(3, .int z1), (0, .ref (gA G 234)), (1, .ref (gA G a1)), (2, .ref (gA G 157))] dX1_findNext_120 rfl (Nat.le_of_ble_eq_true rfl) rfl ?_
  refine wp_goto (pc := 123) C 8 dX1_findNext_123 (by decide) ?_
  exact wp_sub C [1, 2, 3, 0] rfl (hk8 _ _ _ h)
def fX1_findNext_j114 (n : Nat) (k8 : St → Nat → Int32 → Option (St × Unit)) (k22 : St → Nat → Int32 → Int32 → Option (St × Unit)) (S : St) (a1 : Nat) (x3 : Int32) (x4 : Int32) : Option (St × Unit) :=
  bn (x4 + 1) (fun z1 : Int32 =>
  k22 S a1 x3 z1)
set_option maxRecDepth 100000 in
set_option maxHeartbeats 4000000 in
theorem wX1_findNext_j114 (C : Cx G sdX cX1_findNext 6 RX1 none) {n : Nat} {k8 : St → Nat → Int32 → Option (St × Unit)} {k22 : St → Nat → Int32 → Int32 → Option (St × Unit)} {S S' : St} {r : Unit} {a1 : Nat} {x3 : Int32} {x4 : Int32} (hk8 : ∀ (S : St) (a1 : Nat) (x3 : Int32), k8 S a1 x3 = some (S', r) → Wp G sdX (rmOf 2 47) 6 (Qm G sdX none S') S 8 [(0, .ref (gA G 234)), (1, .ref (gA G a1)), (2, .ref (gA G 157)), (3, .int x3)] []) (hk22 : ∀ (S : St) (a1 : Nat) (x3 : Int32) (x4 : Int32), k22 S a1 x3 x4 = some (S', r) → Wp G sdX (rmOf 2 47) 6 (Qm G sdX none S') S 22 [(0, .ref (gA G 234)), (1, .ref (gA G a1)), (2, .ref (gA G 157)), (3, .int x3), (4, .int x4)] []) (h : fX1_findNext_j114 n k8 k22 S a1 x3 x4 = some (S', r)) : Wp G sdX (rmOf 2 47) 6 (Qm G sdX none S') S 114 [(0, .ref (gA G 234)), (1, .ref (gA G a1)), (2, .ref (gA G 157)), (3, .int x3), (4, .int x4)] [] := by
  unfold fX1_findNext_j114 at h
  obtain ⟨z1, ez1, h⟩ := bn_some h
  refine wp_iinc (q := 4) (pc := 114) C (by decide) ez1 [(4, .int z1), (0, .ref (gA G 234)), (1, .ref (gA G a1)), (2, .ref (gA G 157)), (3, .int x3)] dX1_findNext_114 rfl (Nat.le_of_ble_eq_true rfl) rfl ?_
  refine wp_goto (pc := 117) C 22 dX1_findNext_117 (by decide) ?_
  exact wp_sub C [1, 2, 3, 4, 0] rfl (hk22 _ _ _ _ h)
def fX1_findNext_j82 (n : Nat) (k8 : St → Nat → Int32 → Option (St × Unit)) (k22 : St → Nat → Int32 → Int32 → Option (St × Unit)) (S : St) (a1 : Nat) (x3 : Int32) (x4 : Int32) : Option (St × Unit) :=
  bd (fX1_greatestCrowd n S) (fun S1 r2 =>
  if (S1.1 234 12) ≤ r2 then
    fX1_findNext_j114 n k8 k22 S1 a1 x3 x4
  else
    bn (sI S1 234 12 r2) (fun S3 : St =>
    bn (sI S3 234 10 x3) (fun S4 : St =>
    bn (sI S4 234 11 x4) (fun S5 : St =>
    fX1_findNext_j114 n k8 k22 S5 a1 x3 x4))))
set_option maxRecDepth 100000 in
set_option maxHeartbeats 4000000 in
theorem wX1_findNext_j82 (C : Cx G sdX cX1_findNext 6 RX1 none) {n : Nat} {k8 : St → Nat → Int32 → Option (St × Unit)} {k22 : St → Nat → Int32 → Int32 → Option (St × Unit)} {S S' : St} {r : Unit} {a1 : Nat} {x3 : Int32} {x4 : Int32} (hk8 : ∀ (S : St) (a1 : Nat) (x3 : Int32), k8 S a1 x3 = some (S', r) → Wp G sdX (rmOf 2 47) 6 (Qm G sdX none S') S 8 [(0, .ref (gA G 234)), (1, .ref (gA G a1)), (2, .ref (gA G 157)), (3, .int x3)] []) (hk22 : ∀ (S : St) (a1 : Nat) (x3 : Int32) (x4 : Int32), k22 S a1 x3 x4 = some (S', r) → Wp G sdX (rmOf 2 47) 6 (Qm G sdX none S') S 22 [(0, .ref (gA G 234)), (1, .ref (gA G a1)), (2, .ref (gA G 157)), (3, .int x3), (4, .int x4)] []) (h : fX1_findNext_j82 n k8 k22 S a1 x3 x4 = some (S', r)) : Wp G sdX (rmOf 2 47) 6 (Qm G sdX none S') S 82 [(0, .ref (gA G 234)), (1, .ref (gA G a1)), (2, .ref (gA G 157)), (3, .int x3), (4, .int x4)] [] := by
  unfold fX1_findNext_j82 at h
  refine wp_aload_n (pc := 82) C 0 dX1_findNext_82 rfl rfl ?_
  obtain ⟨S1, r2, cS1, h⟩ := bd_some h
  refine wp_callVi (As := []) (st := []) (pc := 83) C (CtX1_greatestCrowd cS1) mX1_greatestCrowd iX1_greatestCrowd kX1_88 (Nat.le_of_ble_eq_true rfl) rfl (by decide) rfl rfl rfl rfl (Nat.le_of_ble_eq_true rfl) ⟨Nat.le_of_ble_eq_true rfl, Nat.le_of_ble_eq_true rfl⟩ dX1_findNext_83 ?_
  refine wp_istore (pc := 86) C rfl [(5, .int r2), (0, .ref (gA G 234)), (1, .ref (gA G a1)), (2, .ref (gA G 157)), (3, .int x3), (4, .int x4)] dX1_findNext_86 (Nat.le_of_ble_eq_true rfl) rfl ?_
  refine wp_iload (pc := 88) C 0 dX1_findNext_88 rfl ?_
  refine wp_aload_n (pc := 90) C 1 dX1_findNext_90 rfl rfl ?_
  refine wp_getI (pc := 91) C flX1_77 rfl (Nat.le_of_ble_eq_true rfl) rfl dX1_findNext_91 ?_
  refine wp_icmp_ge (pc := 94) C 114 dX1_findNext_94 (by decide) (fun q => ?_) (fun q => ?_)
  · have h := it_pos q h
    exact wp_sub C [1, 2, 3, 4, 5] rfl (wX1_findNext_j114 C hk8 hk22 h)
  · have h := it_neg q h
    refine wp_aload_n (pc := 97) C 1 dX1_findNext_97 rfl rfl ?_
    refine wp_iload (pc := 98) C 0 dX1_findNext_98 rfl ?_
    obtain ⟨S3, eS3, h⟩ := bn_some h
    refine wp_putI (pc := 100) C eS3 flX1_77 fpX1_12 rfl (Nat.le_of_ble_eq_true rfl) rfl dX1_findNext_100 ?_
    refine wp_aload_n (pc := 103) C 1 dX1_findNext_103 rfl rfl ?_
    refine wp_iload_n (pc := 104) C 4 dX1_findNext_104 rfl rfl ?_
    obtain ⟨S4, eS4, h⟩ := bn_some h
    refine wp_putI (pc := 105) C eS4 flX1_92 fpX1_10 rfl (Nat.le_of_ble_eq_true rfl) rfl dX1_findNext_105 ?_
    refine wp_aload_n (pc := 108) C 1 dX1_findNext_108 rfl rfl ?_
    refine wp_iload (pc := 109) C 5 dX1_findNext_109 rfl ?_
    obtain ⟨S5, eS5, h⟩ := bn_some h
    refine wp_putI (pc := 111) C eS5 flX1_95 fpX1_11 rfl (Nat.le_of_ble_eq_true rfl) rfl dX1_findNext_111 ?_
    exact wp_sub C [1, 2, 3, 4, 5] rfl (wX1_findNext_j114 C hk8 hk22 h)
def fX1_findNext_l37 (n : Nat) (k8 : St → Nat → Int32 → Option (St × Unit)) (k22 : St → Nat → Int32 → Int32 → Option (St × Unit)) : Nat → St → Nat → Int32 → Int32 → Int32 → Option (St × Unit)
  | 0, _, _, _, _, _ => none
  | j + 1, S, a1, x3, x4, x5 =>
    if (S.1 234 8) ≤ x5 then
      fX1_findNext_j82 n k8 k22 S a1 x3 x4
    else
      gd (ib x5 72) (
      gd (ib (S.1 242 (Int32.toNatClampNeg x5)) 72) (
      gd (isK sdX (srX 160 (Int32.toNatClampNeg (S.1 242 (Int32.toNatClampNeg x5)))) 13) (
      gd (isK sdX a1 0) (
      bd (fX0_seenOf sdX n S a1 (srX 160 (Int32.toNatClampNeg (S.1 242 (Int32.toNatClampNeg x5)))) x3 x4) (fun S5 r6 =>
      gd (ib x5 72) (
      bn (sL S5 241 (Int32.toNatClampNeg x5) (r6 / 1000)) (fun S8 : St =>
      bn (x5 + 1) (fun z9 : Int32 =>
      fX1_findNext_l37 n k8 k22 j S8 a1 x3 x4 z9))))))))
set_option maxRecDepth 100000 in
set_option maxHeartbeats 4000000 in
theorem wX1_findNext_l37 (C : Cx G sdX cX1_findNext 6 RX1 none) {n : Nat} {k8 : St → Nat → Int32 → Option (St × Unit)} {k22 : St → Nat → Int32 → Int32 → Option (St × Unit)} {S' : St} {r : Unit} (hk8 : ∀ (S : St) (a1 : Nat) (x3 : Int32), k8 S a1 x3 = some (S', r) → Wp G sdX (rmOf 2 47) 6 (Qm G sdX none S') S 8 [(0, .ref (gA G 234)), (1, .ref (gA G a1)), (2, .ref (gA G 157)), (3, .int x3)] []) (hk22 : ∀ (S : St) (a1 : Nat) (x3 : Int32) (x4 : Int32), k22 S a1 x3 x4 = some (S', r) → Wp G sdX (rmOf 2 47) 6 (Qm G sdX none S') S 22 [(0, .ref (gA G 234)), (1, .ref (gA G a1)), (2, .ref (gA G 157)), (3, .int x3), (4, .int x4)] []) : ∀ (j : Nat) (S : St) (a1 : Nat) (x3 : Int32) (x4 : Int32) (x5 : Int32), fX1_findNext_l37 n k8 k22 j S a1 x3 x4 x5 = some (S', r) → Wp G sdX (rmOf 2 47) 6 (Qm G sdX none S') S 37 [(0, .ref (gA G 234)), (1, .ref (gA G a1)), (2, .ref (gA G 157)), (3, .int x3), (4, .int x4), (5, .int x5)] [] := by
  intro j
  induction j with
  | zero =>
    intro S a1 x3 x4 x5 h
    exact nomatch (show (none : Option (St × Unit)) = some _ from h)
  | succ j ih =>
    intro S a1 x3 x4 x5 h
    rw [fX1_findNext_l37] at h
    refine wp_iload (pc := 37) C 5 dX1_findNext_37 rfl ?_
    refine wp_aload_n (pc := 39) C 0 dX1_findNext_39 rfl rfl ?_
    refine wp_getI (pc := 40) C flX1_37 rfl (Nat.le_of_ble_eq_true rfl) rfl dX1_findNext_40 ?_
    refine wp_icmp_ge (pc := 43) C 82 dX1_findNext_43 (by decide) (fun q => ?_) (fun q => ?_)
    · have h := it_pos q h
      exact wp_sub C [0, 1, 2, 3, 4] rfl (wX1_findNext_j82 C hk8 hk22 h)
    · have h := it_neg q h
      refine wp_aload_n (pc := 46) C 0 dX1_findNext_46 rfl rfl ?_
      refine wp_getS (v := 241) (pc := 47) C flX1_30 rfl rfl (Nat.le_of_ble_eq_true rfl) (Nat.le_of_ble_eq_true rfl) rfl dX1_findNext_47 ?_
      refine wp_iload (pc := 50) C 5 dX1_findNext_50 rfl ?_
      refine wp_aload_n (pc := 52) C 1 dX1_findNext_52 rfl rfl ?_
      refine wp_aload_n (pc := 53) C 2 dX1_findNext_53 rfl rfl ?_
      refine wp_getS (v := 160) (pc := 54) C flX1_51 rfl rfl (Nat.le_of_ble_eq_true rfl) (Nat.le_of_ble_eq_true rfl) rfl dX1_findNext_54 ?_
      refine wp_aload_n (pc := 57) C 0 dX1_findNext_57 rfl rfl ?_
      refine wp_getS (v := 242) (pc := 58) C flX1_34 rfl rfl (Nat.le_of_ble_eq_true rfl) (Nat.le_of_ble_eq_true rfl) rfl dX1_findNext_58 ?_
      refine wp_iload (pc := 61) C 5 dX1_findNext_61 rfl ?_
      obtain ⟨g1, h⟩ := gd_some h
      refine wp_iald (pc := 63) C (Nat.le_of_ble_eq_true rfl) rfl g1 dX1_findNext_63 ?_
      obtain ⟨g2, h⟩ := gd_some h
      obtain ⟨g3, h⟩ := gd_some h
      refine wp_aald (t0 := 5) (pc := 64) C (Nat.le_of_ble_eq_true rfl) rfl (by decide) rfl rfl g2 g3.1 dX1_findNext_64 ?_
      refine wp_iload_n (pc := 65) C 3 dX1_findNext_65 rfl rfl ?_
      refine wp_iload (pc := 66) C 4 dX1_findNext_66 rfl ?_
      obtain ⟨g4, h⟩ := gd_some h
      obtain ⟨S5, r6, cS5, h⟩ := bd_some h
      refine wp_callVl (As := [.ref (gA G (srX 160 (Int32.toNatClampNeg (S.1 242 (Int32.toNatClampNeg x5))))), .int x3, .int x4]) (st := [.int x5, .ref (gA G 241)]) (pc := 68) C (CtX0_seenOf cS5) mX0_seenOf iX0_seenOf kX1_63 g4.1 g4.2 (by decide) rfl rfl rfl rfl (Nat.le_of_ble_eq_true rfl) ⟨Nat.le_of_ble_eq_true rfl, Nat.le_of_ble_eq_true rfl⟩ dX1_findNext_68 ?_
      refine wp_ldc2 (pc := 71) C qX1_69 dX1_findNext_71 ?_
      refine wp_ldiv (pc := 74) C dX1_findNext_74 (by decide) ?_
      obtain ⟨g7, h⟩ := gd_some h
      obtain ⟨S8, eS8, h⟩ := bn_some h
      refine wp_last (pc := 75) C eS8 (Nat.le_of_ble_eq_true rfl) rfl g7 dX1_findNext_75 ?_
      obtain ⟨z9, ez9, h⟩ := bn_some h
      refine wp_iinc (q := 5) (pc := 76) C (by decide) ez9 [(5, .int z9), (0, .ref (gA G 234)), (1, .ref (gA G a1)), (2, .ref (gA G 157)), (3, .int x3), (4, .int x4)] dX1_findNext_76 rfl (Nat.le_of_ble_eq_true rfl) rfl ?_
      refine wp_goto (pc := 79) C 37 dX1_findNext_79 (by decide) ?_
      exact wp_sub C [1, 2, 3, 4, 5, 0] rfl (ih _ _ _ _ _ h)
def fX1_findNext_l22 (n : Nat) (k8 : St → Nat → Int32 → Option (St × Unit)) : Nat → St → Nat → Int32 → Int32 → Option (St × Unit)
  | 0, _, _, _, _ => none
  | j + 1, S, a1, x3, x4 =>
    gd (isK sdX a1 0) (
    gd (isK sdX (srX a1 3) 5) (
    if (S.1 (srX a1 3) 3) ≤ x4 then
      fX1_findNext_j120 n k8 S a1 x3
    else
      fX1_findNext_l37 n k8 (fX1_findNext_l22 n k8 j) n S a1 x3 x4 0))
set_option maxRecDepth 100000 in
set_option maxHeartbeats 4000000 in
theorem wX1_findNext_l22 (C : Cx G sdX cX1_findNext 6 RX1 none) {n : Nat} {k8 : St → Nat → Int32 → Option (St × Unit)} {S' : St} {r : Unit} (hk8 : ∀ (S : St) (a1 : Nat) (x3 : Int32), k8 S a1 x3 = some (S', r) → Wp G sdX (rmOf 2 47) 6 (Qm G sdX none S') S 8 [(0, .ref (gA G 234)), (1, .ref (gA G a1)), (2, .ref (gA G 157)), (3, .int x3)] []) : ∀ (j : Nat) (S : St) (a1 : Nat) (x3 : Int32) (x4 : Int32), fX1_findNext_l22 n k8 j S a1 x3 x4 = some (S', r) → Wp G sdX (rmOf 2 47) 6 (Qm G sdX none S') S 22 [(0, .ref (gA G 234)), (1, .ref (gA G a1)), (2, .ref (gA G 157)), (3, .int x3), (4, .int x4)] [] := by
  intro j
  induction j with
  | zero =>
    intro S a1 x3 x4 h
    exact nomatch (show (none : Option (St × Unit)) = some _ from h)
  | succ j ih =>
    intro S a1 x3 x4 h
    rw [fX1_findNext_l22] at h
    refine wp_iload (pc := 22) C 4 dX1_findNext_22 rfl ?_
    refine wp_aload_n (pc := 24) C 1 dX1_findNext_24 rfl rfl ?_
    obtain ⟨g1, h⟩ := gd_some h
    obtain ⟨g2, h⟩ := gd_some h
    refine wp_getS (v := srX a1 3) (pc := 25) C flX1_86 rfl rfl g2.1 g1.1 g1.2 dX1_findNext_25 ?_
    refine wp_getI (pc := 28) C flX1_83 rfl g2.1 g2.2 dX1_findNext_28 ?_
    refine wp_icmp_ge (pc := 31) C 120 dX1_findNext_31 (by decide) (fun q => ?_) (fun q => ?_)
    · have h := it_pos q h
      exact wp_sub C [0, 1, 2, 3] rfl (wX1_findNext_j120 C hk8 h)
    · have h := it_neg q h
      refine wp_iconst (v := 0) (pc := 34) C dX1_findNext_34 (by decide) ?_
      refine wp_istore (pc := 35) C rfl [(5, .int 0), (0, .ref (gA G 234)), (1, .ref (gA G a1)), (2, .ref (gA G 157)), (3, .int x3), (4, .int x4)] dX1_findNext_35 (Nat.le_of_ble_eq_true rfl) rfl ?_
      exact wp_sub C [1, 2, 3, 4, 5, 0] rfl (wX1_findNext_l37 C hk8 ih _ _ _ _ _ _ h)
def fX1_findNext_l8 (n : Nat) : Nat → St → Nat → Int32 → Option (St × Unit)
  | 0, _, _, _ => none
  | j + 1, S, a1, x3 =>
    gd (isK sdX a1 0) (
    gd (isK sdX (srX a1 2) 5) (
    if (S.1 (srX a1 2) 3) ≤ x3 then
      some (S, ())
    else
      fX1_findNext_l22 n (fX1_findNext_l8 n j) n S a1 x3 0))
set_option maxRecDepth 100000 in
set_option maxHeartbeats 4000000 in
theorem wX1_findNext_l8 (C : Cx G sdX cX1_findNext 6 RX1 none) {n : Nat} {S' : St} {r : Unit} : ∀ (j : Nat) (S : St) (a1 : Nat) (x3 : Int32), fX1_findNext_l8 n j S a1 x3 = some (S', r) → Wp G sdX (rmOf 2 47) 6 (Qm G sdX none S') S 8 [(0, .ref (gA G 234)), (1, .ref (gA G a1)), (2, .ref (gA G 157)), (3, .int x3)] [] := by
  intro j
  induction j with
  | zero =>
    intro S a1 x3 h
    exact nomatch (show (none : Option (St × Unit)) = some _ from h)
  | succ j ih =>
    intro S a1 x3 h
    rw [fX1_findNext_l8] at h
    refine wp_iload_n (pc := 8) C 3 dX1_findNext_8 rfl rfl ?_
    refine wp_aload_n (pc := 9) C 1 dX1_findNext_9 rfl rfl ?_
    obtain ⟨g1, h⟩ := gd_some h
    obtain ⟨g2, h⟩ := gd_some h
    refine wp_getS (v := srX a1 2) (pc := 10) C flX1_80 rfl rfl g2.1 g1.1 g1.2 dX1_findNext_10 ?_
    refine wp_getI (pc := 13) C flX1_83 rfl g2.1 g2.2 dX1_findNext_13 ?_
    refine wp_icmp_ge (pc := 16) C 126 dX1_findNext_16 (by decide) (fun q => ?_) (fun q => ?_)
    · have h := it_pos q h
      exact rt_v C rfl h dX1_findNext_126
    · have h := it_neg q h
      refine wp_iconst (v := 0) (pc := 19) C dX1_findNext_19 (by decide) ?_
      refine wp_istore (pc := 20) C rfl [(4, .int 0), (0, .ref (gA G 234)), (1, .ref (gA G a1)), (2, .ref (gA G 157)), (3, .int x3)] dX1_findNext_20 (Nat.le_of_ble_eq_true rfl) rfl ?_
      exact wp_sub C [1, 2, 3, 4, 0] rfl (wX1_findNext_l22 C ih _ _ _ _ _ h)
def fX1_findNext (n : Nat) (S : St) (a1 : Nat) : Option (St × Unit) :=
  bn (sI S 234 12 73) (fun S1 : St =>
  fX1_findNext_l8 n n S1 a1 0)
set_option maxRecDepth 100000 in
set_option maxHeartbeats 4000000 in
theorem wX1_findNext (C : Cx G sdX cX1_findNext 6 RX1 none) {n : Nat} {S S' : St} {r : Unit} {a1 : Nat} (h : fX1_findNext n S a1 = some (S', r)) : Wp G sdX (rmOf 2 47) 6 (Qm G sdX none S') S 0 [(0, .ref (gA G 234)), (1, .ref (gA G a1)), (2, .ref (gA G 157))] [] := by
  unfold fX1_findNext at h
  refine wp_aload_n (pc := 0) C 0 dX1_findNext_0 rfl rfl ?_
  refine wp_bipush (v := 73) (pc := 1) C dX1_findNext_1 (by decide) ?_
  obtain ⟨S1, eS1, h⟩ := bn_some h
  refine wp_putI (pc := 3) C eS1 flX1_77 fpX1_12 rfl (Nat.le_of_ble_eq_true rfl) rfl dX1_findNext_3 ?_
  refine wp_iconst (v := 0) (pc := 6) C dX1_findNext_6 (by decide) ?_
  refine wp_istore_n (pc := 7) C rfl [(3, .int 0), (0, .ref (gA G 234)), (1, .ref (gA G a1)), (2, .ref (gA G 157))] dX1_findNext_7 rfl (Nat.le_of_ble_eq_true rfl) rfl ?_
  exact wp_sub C [1, 2, 3, 0] rfl (wX1_findNext_l8 C _ _ _ _ h)
theorem CtX1_findNext {n : Nat} {S S' : St} {r : Unit} {a1 : Nat} (h : fX1_findNext n S a1 = some (S', r)) : Ct l sdX cy ad D yX1_findNext cX1_findNext 6 none 2 47 [.ref (ad 234), .ref (ad a1), .ref (ad 157)] S none S' :=
  Ct_of (own := RX1) mX1_findNext rfl (Nat.le_of_ble_eq_true rfl) (fun G e1 e2 e3 e4 C => by subst e1 e2 e3 e4; exact wX1_findNext C h)
def fX2_add_j60 (n : Nat) (S : St) (a1 : Nat) (x2 : Int32) (x3 : Int32) : Option (St × Unit) :=
  gd (ib (S.1 157 4) 72) (
  bn (sI S 158 (Int32.toNatClampNeg (S.1 157 4)) x2) (fun S2 : St =>
  gd (ib (S2.1 157 4) 72) (
  bn (sI S2 159 (Int32.toNatClampNeg (S2.1 157 4)) x3) (fun S4 : St =>
  gd (isK sdX a1 0) (
  gd (isK sdX (srX a1 7) 13) (
  gd (ib x2 (sdX.2.2.1 (srX a1 7))) (
  gd (ib (S4.1 157 4) 72) (
  gd (isK sdX (srX 160 (Int32.toNatClampNeg (S4.1 157 4))) 13) (
  bd (fX0_throwBack sdX n S4 a1 (S4.1 (srX a1 7) (Int32.toNatClampNeg x2)) 233 (srX 160 (Int32.toNatClampNeg (S4.1 157 4)))) (fun S10 r11 =>
  bn (sI S10 157 4 ((S10.1 157 4) + 1)) (fun S12 : St =>
  some (S12, ()))))))))))))
set_option maxRecDepth 100000 in
set_option maxHeartbeats 4000000 in
theorem wX2_add_j60 (C : Cx G sdX cX2_add 5 RX2 none) {n : Nat} {S S' : St} {r : Unit} {a1 : Nat} {x2 : Int32} {x3 : Int32} (h : fX2_add_j60 n S a1 x2 x3 = some (S', r)) : Wp G sdX (rmOf 2 52) 5 (Qm G sdX none S') S 60 [(0, .ref (gA G 157)), (1, .ref (gA G a1)), (2, .int x2), (3, .int x3)] [] := by
  unfold fX2_add_j60 at h
  refine wp_aload_n (pc := 60) C 0 dX2_add_60 rfl rfl ?_
  refine wp_getS (v := 158) (pc := 61) C flX2_9 rfl rfl (Nat.le_of_ble_eq_true rfl) (Nat.le_of_ble_eq_true rfl) rfl dX2_add_61 ?_
  refine wp_aload_n (pc := 64) C 0 dX2_add_64 rfl rfl ?_
  refine wp_getI (pc := 65) C flX2_26 rfl (Nat.le_of_ble_eq_true rfl) rfl dX2_add_65 ?_
  refine wp_iload_n (pc := 68) C 2 dX2_add_68 rfl rfl ?_
  obtain ⟨g1, h⟩ := gd_some h
  obtain ⟨S2, eS2, h⟩ := bn_some h
  refine wp_iast (pc := 69) C eS2 (Nat.le_of_ble_eq_true rfl) rfl g1 dX2_add_69 ?_
  refine wp_aload_n (pc := 70) C 0 dX2_add_70 rfl rfl ?_
  refine wp_getS (v := 159) (pc := 71) C flX2_15 rfl rfl (Nat.le_of_ble_eq_true rfl) (Nat.le_of_ble_eq_true rfl) rfl dX2_add_71 ?_
  refine wp_aload_n (pc := 74) C 0 dX2_add_74 rfl rfl ?_
  refine wp_getI (pc := 75) C flX2_26 rfl (Nat.le_of_ble_eq_true rfl) rfl dX2_add_75 ?_
  refine wp_iload_n (pc := 78) C 3 dX2_add_78 rfl rfl ?_
  obtain ⟨g3, h⟩ := gd_some h
  obtain ⟨S4, eS4, h⟩ := bn_some h
  refine wp_iast (pc := 79) C eS4 (Nat.le_of_ble_eq_true rfl) rfl g3 dX2_add_79 ?_
  refine wp_aload_n (pc := 80) C 1 dX2_add_80 rfl rfl ?_
  refine wp_aload_n (pc := 81) C 1 dX2_add_81 rfl rfl ?_
  obtain ⟨g5, h⟩ := gd_some h
  obtain ⟨g6, h⟩ := gd_some h
  refine wp_getS (v := srX a1 7) (pc := 82) C flX2_46 rfl rfl g6.1 g5.1 g5.2 dX2_add_82 ?_
  refine wp_iload_n (pc := 85) C 2 dX2_add_85 rfl rfl ?_
  obtain ⟨g7, h⟩ := gd_some h
  refine wp_iald (pc := 86) C g6.1 g6.2 g7 dX2_add_86 ?_
  refine wp_aload_n (pc := 87) C 0 dX2_add_87 rfl rfl ?_
  refine wp_getS (v := 233) (pc := 88) C flX2_23 rfl rfl (Nat.le_of_ble_eq_true rfl) (Nat.le_of_ble_eq_true rfl) rfl dX2_add_88 ?_
  refine wp_aload_n (pc := 91) C 0 dX2_add_91 rfl rfl ?_
  refine wp_getS (v := 160) (pc := 92) C flX2_20 rfl rfl (Nat.le_of_ble_eq_true rfl) (Nat.le_of_ble_eq_true rfl) rfl dX2_add_92 ?_
  refine wp_aload_n (pc := 95) C 0 dX2_add_95 rfl rfl ?_
  refine wp_getI (pc := 96) C flX2_26 rfl (Nat.le_of_ble_eq_true rfl) rfl dX2_add_96 ?_
  obtain ⟨g8, h⟩ := gd_some h
  obtain ⟨g9, h⟩ := gd_some h
  refine wp_aald (t0 := 5) (pc := 99) C (Nat.le_of_ble_eq_true rfl) rfl (by decide) rfl rfl g8 g9.1 dX2_add_99 ?_
  obtain ⟨S10, r11, cS10, h⟩ := bd_some h
  refine wp_callVv (As := [.int (S4.1 (srX a1 7) (Int32.toNatClampNeg x2)), .ref (gA G 233), .ref (gA G (srX 160 (Int32.toNatClampNeg (S4.1 157 4))))]) (st := []) (pc := 100) C (CtX0_throwBack cS10) mX0_throwBack iX0_throwBack kX2_49 g5.1 g5.2 (by decide) rfl rfl rfl rfl (Nat.le_of_ble_eq_true rfl) ⟨Nat.le_of_ble_eq_true rfl, Nat.le_of_ble_eq_true rfl⟩ dX2_add_100 ?_
  refine wp_aload_n (pc := 103) C 0 dX2_add_103 rfl rfl ?_
  refine wp_dup (pc := 104) C dX2_add_104 rfl ?_
  refine wp_getI (pc := 105) C flX2_26 rfl (Nat.le_of_ble_eq_true rfl) rfl dX2_add_105 ?_
  refine wp_iconst (v := 1) (pc := 108) C dX2_add_108 (by decide) ?_
  refine wp_iadd (pc := 109) C dX2_add_109 ?_
  obtain ⟨S12, eS12, h⟩ := bn_some h
  refine wp_putI (pc := 110) C eS12 flX2_26 fpX2_4 rfl (Nat.le_of_ble_eq_true rfl) rfl dX2_add_110 ?_
  exact rt_v C rfl h dX2_add_113
def fX2_add_j53 (n : Nat) (k13 : St → Nat → Int32 → Int32 → Int32 → Option (St × Unit)) (S : St) (a1 : Nat) (x2 : Int32) (x3 : Int32) (x4 : Int32) (y1 : Int32) (y2 : Int32) : Option (St × Unit) :=
  gd (ib y1 8) (
  bn (sI S 233 (Int32.toNatClampNeg y1) y2) (fun S2 : St =>
  bn (x4 + 1) (fun z3 : Int32 =>
  k13 S2 a1 x2 x3 z3)))
set_option maxRecDepth 100000 in
set_option maxHeartbeats 4000000 in
theorem wX2_add_j53 (C : Cx G sdX cX2_add 5 RX2 none) {n : Nat} {k13 : St → Nat → Int32 → Int32 → Int32 → Option (St × Unit)} {S S' : St} {r : Unit} {a1 : Nat} {x2 : Int32} {x3 : Int32} {x4 : Int32} {y1 : Int32} {y2 : Int32} (hk13 : ∀ (S : St) (a1 : Nat) (x2 : Int32) (x3 : Int32) (x4 : Int32), k13 S a1 x2 x3 x4 = some (S', r) → Wp G sdX (rmOf 2 52) 5 (Qm G sdX none S') S 13 [(0, .ref (gA G 157)), (1, .ref (gA G a1)), (2, .int x2), (3, .int x3), (4, .int x4)] []) (h : fX2_add_j53 n k13 S a1 x2 x3 x4 y1 y2 = some (S', r)) : Wp G sdX (rmOf 2 52) 5 (Qm G sdX none S') S 53 [(0, .ref (gA G 157)), (1, .ref (gA G a1)), (2, .int x2), (3, .int x3), (4, .int x4)] [.int y2, .int y1, .ref (gA G 233)] := by
  unfold fX2_add_j53 at h
  obtain ⟨g1, h⟩ := gd_some h
  obtain ⟨S2, eS2, h⟩ := bn_some h
  refine wp_iast (pc := 53) C eS2 (Nat.le_of_ble_eq_true rfl) rfl g1 dX2_add_53 ?_
  obtain ⟨z3, ez3, h⟩ := bn_some h
  refine wp_iinc (q := 4) (pc := 54) C (by decide) ez3 [(4, .int z3), (0, .ref (gA G 157)), (1, .ref (gA G a1)), (2, .int x2), (3, .int x3)] dX2_add_54 rfl (Nat.le_of_ble_eq_true rfl) rfl ?_
  refine wp_goto (pc := 57) C 13 dX2_add_57 (by decide) ?_
  exact wp_sub C [1, 2, 3, 4, 0] rfl (hk13 _ _ _ _ _ h)
def fX2_add_l13 (n : Nat) : Nat → St → Nat → Int32 → Int32 → Int32 → Option (St × Unit)
  | 0, _, _, _, _, _ => none
  | j + 1, S, a1, x2, x3, x4 =>
    gd (isK sdX a1 0) (
    gd (isK sdX (srX a1 0) 5) (
    if (S.1 (srX a1 0) 3) ≤ x4 then
      fX2_add_j60 n S a1 x2 x3
    else
      if x4 = x3 then
        fX2_add_j53 n (fX2_add_l13 n j) S a1 x2 x3 x4 x4 0
      else
        gd (isK sdX (srX a1 4) 5) (
        gd (isK sdX (srX (srX a1 4) 2) 17) (
        gd (ib x2 (sdX.2.2.1 (srX (srX a1 4) 2))) (
        gd (isK sdX (srX (srX (srX a1 4) 2) (Int32.toNatClampNeg x2)) 13) (
        gd (ib x4 (sdX.2.2.1 (srX (srX (srX a1 4) 2) (Int32.toNatClampNeg x2)))) (
        fX2_add_j53 n (fX2_add_l13 n j) S a1 x2 x3 x4 x4 (S.1 (srX (srX (srX a1 4) 2) (Int32.toNatClampNeg x2)) (Int32.toNatClampNeg x4)))))))))
set_option maxRecDepth 100000 in
set_option maxHeartbeats 4000000 in
theorem wX2_add_l13 (C : Cx G sdX cX2_add 5 RX2 none) {n : Nat} {S' : St} {r : Unit} : ∀ (j : Nat) (S : St) (a1 : Nat) (x2 : Int32) (x3 : Int32) (x4 : Int32), fX2_add_l13 n j S a1 x2 x3 x4 = some (S', r) → Wp G sdX (rmOf 2 52) 5 (Qm G sdX none S') S 13 [(0, .ref (gA G 157)), (1, .ref (gA G a1)), (2, .int x2), (3, .int x3), (4, .int x4)] [] := by
  intro j
  induction j with
  | zero =>
    intro S a1 x2 x3 x4 h
    exact nomatch (show (none : Option (St × Unit)) = some _ from h)
  | succ j ih =>
    intro S a1 x2 x3 x4 h
    rw [fX2_add_l13] at h
    refine wp_iload (pc := 13) C 4 dX2_add_13 rfl ?_
    refine wp_aload_n (pc := 15) C 1 dX2_add_15 rfl rfl ?_
    obtain ⟨g1, h⟩ := gd_some h
    obtain ⟨g2, h⟩ := gd_some h
    refine wp_getS (v := srX a1 0) (pc := 16) C flX2_42 rfl rfl g2.1 g1.1 g1.2 dX2_add_16 ?_
    refine wp_getI (pc := 19) C flX2_35 rfl g2.1 g2.2 dX2_add_19 ?_
    refine wp_icmp_ge (pc := 22) C 60 dX2_add_22 (by decide) (fun q => ?_) (fun q => ?_)
    · have h := it_pos q h
      exact wp_sub C [0, 1, 2, 3] rfl (wX2_add_j60 C h)
    · have h := it_neg q h
      refine wp_aload_n (pc := 25) C 0 dX2_add_25 rfl rfl ?_
      refine wp_getS (v := 233) (pc := 26) C flX2_23 rfl rfl (Nat.le_of_ble_eq_true rfl) (Nat.le_of_ble_eq_true rfl) rfl dX2_add_26 ?_
      refine wp_iload (pc := 29) C 4 dX2_add_29 rfl ?_
      refine wp_iload (pc := 31) C 4 dX2_add_31 rfl ?_
      refine wp_iload_n (pc := 33) C 3 dX2_add_33 rfl rfl ?_
      refine wp_icmp_ne (pc := 34) C 41 dX2_add_34 (by decide) (fun q => ?_) (fun q => ?_)
      · have h := it_neg q h
        refine wp_aload_n (pc := 41) C 1 dX2_add_41 rfl rfl ?_
        obtain ⟨g3, h⟩ := gd_some h
        refine wp_getS (v := srX a1 4) (pc := 42) C flX2_30 rfl rfl g3.1 g1.1 g1.2 dX2_add_42 ?_
        obtain ⟨g4, h⟩ := gd_some h
        refine wp_getS (v := srX (srX a1 4) 2) (pc := 45) C flX2_45 rfl rfl g4.1 g3.1 g3.2 dX2_add_45 ?_
        refine wp_iload_n (pc := 48) C 2 dX2_add_48 rfl rfl ?_
        obtain ⟨g5, h⟩ := gd_some h
        obtain ⟨g6, h⟩ := gd_some h
        refine wp_aald (t0 := 5) (pc := 49) C g4.1 g4.2 (by decide) rfl rfl g5 g6.1 dX2_add_49 ?_
        refine wp_iload (pc := 50) C 4 dX2_add_50 rfl ?_
        obtain ⟨g7, h⟩ := gd_some h
        refine wp_iald (pc := 52) C g6.1 g6.2 g7 dX2_add_52 ?_
        exact (wX2_add_j53 C ih h)
      · have h := it_pos q h
        refine wp_iconst (v := 0) (pc := 37) C dX2_add_37 (by decide) ?_
        refine wp_goto (pc := 38) C 53 dX2_add_38 (by decide) ?_
        exact (wX2_add_j53 C ih h)
def fX2_add (n : Nat) (S : St) (a1 : Nat) (x2 : Int32) (x3 : Int32) : Option (St × Unit) :=
  if (S.1 157 4) < 72 then
    fX2_add_l13 n n S a1 x2 x3 0
  else
    some (S, ())
set_option maxRecDepth 100000 in
set_option maxHeartbeats 4000000 in
theorem wX2_add (C : Cx G sdX cX2_add 5 RX2 none) {n : Nat} {S S' : St} {r : Unit} {a1 : Nat} {x2 : Int32} {x3 : Int32} (h : fX2_add n S a1 x2 x3 = some (S', r)) : Wp G sdX (rmOf 2 52) 5 (Qm G sdX none S') S 0 [(0, .ref (gA G 157)), (1, .ref (gA G a1)), (2, .int x2), (3, .int x3)] [] := by
  unfold fX2_add at h
  refine wp_aload_n (pc := 0) C 0 dX2_add_0 rfl rfl ?_
  refine wp_getI (pc := 1) C flX2_26 rfl (Nat.le_of_ble_eq_true rfl) rfl dX2_add_1 ?_
  refine wp_bipush (v := 72) (pc := 4) C dX2_add_4 (by decide) ?_
  refine wp_icmp_lt (pc := 6) C 10 dX2_add_6 (by decide) (fun q => ?_) (fun q => ?_)
  · have h := it_pos q h
    refine wp_iconst (v := 0) (pc := 10) C dX2_add_10 (by decide) ?_
    refine wp_istore (pc := 11) C rfl [(4, .int 0), (0, .ref (gA G 157)), (1, .ref (gA G a1)), (2, .int x2), (3, .int x3)] dX2_add_11 (Nat.le_of_ble_eq_true rfl) rfl ?_
    exact wp_sub C [1, 2, 3, 4, 0] rfl (wX2_add_l13 C _ _ _ _ _ _ h)
  · have h := it_neg q h
    exact rt_v C rfl h dX2_add_9
theorem CtX2_add {n : Nat} {S S' : St} {r : Unit} {a1 : Nat} {x2 : Int32} {x3 : Int32} (h : fX2_add n S a1 x2 x3 = some (S', r)) : Ct l sdX cy ad D yX2_add cX2_add 5 none 2 52 [.ref (ad 157), .ref (ad a1), .int x2, .int x3] S none S' :=
  Ct_of (own := RX2) mX2_add rfl (Nat.le_of_ble_eq_true rfl) (fun G e1 e2 e3 e4 C => by subst e1 e2 e3 e4; exact wX2_add C h)
def fX2_fill_j84 (n : Nat) (k33 : St → Nat → Int32 → Option (St × Unit)) (S : St) (a1 : Nat) (x2 : Int32) : Option (St × Unit) :=
  bn (x2 + 1) (fun z1 : Int32 =>
  k33 S a1 z1)
set_option maxRecDepth 100000 in
set_option maxHeartbeats 4000000 in
theorem wX2_fill_j84 (C : Cx G sdX cX2_fill 4 RX2 none) {n : Nat} {k33 : St → Nat → Int32 → Option (St × Unit)} {S S' : St} {r : Unit} {a1 : Nat} {x2 : Int32} (hk33 : ∀ (S : St) (a1 : Nat) (x2 : Int32), k33 S a1 x2 = some (S', r) → Wp G sdX (rmOf 3 76) 4 (Qm G sdX none S') S 33 [(0, .ref (gA G 157)), (1, .ref (gA G a1)), (2, .int x2)] []) (h : fX2_fill_j84 n k33 S a1 x2 = some (S', r)) : Wp G sdX (rmOf 3 76) 4 (Qm G sdX none S') S 84 [(0, .ref (gA G 157)), (1, .ref (gA G a1)), (2, .int x2)] [] := by
  unfold fX2_fill_j84 at h
  obtain ⟨z1, ez1, h⟩ := bn_some h
  refine wp_iinc (q := 2) (pc := 84) C (by decide) ez1 [(2, .int z1), (0, .ref (gA G 157)), (1, .ref (gA G a1))] dX2_fill_84 rfl (Nat.le_of_ble_eq_true rfl) rfl ?_
  refine wp_goto (pc := 87) C 33 dX2_fill_87 (by decide) ?_
  exact wp_sub C [1, 2, 0] rfl (hk33 _ _ _ h)
def fX2_fill_j78 (n : Nat) (k33 : St → Nat → Int32 → Option (St × Unit)) (k46 : St → Nat → Int32 → Int32 → Option (St × Unit)) (S : St) (a1 : Nat) (x2 : Int32) (x3 : Int32) : Option (St × Unit) :=
  bn (x3 + 1) (fun z1 : Int32 =>
  k46 S a1 x2 z1)
set_option maxRecDepth 100000 in
set_option maxHeartbeats 4000000 in
theorem wX2_fill_j78 (C : Cx G sdX cX2_fill 4 RX2 none) {n : Nat} {k33 : St → Nat → Int32 → Option (St × Unit)} {k46 : St → Nat → Int32 → Int32 → Option (St × Unit)} {S S' : St} {r : Unit} {a1 : Nat} {x2 : Int32} {x3 : Int32} (hk33 : ∀ (S : St) (a1 : Nat) (x2 : Int32), k33 S a1 x2 = some (S', r) → Wp G sdX (rmOf 3 76) 4 (Qm G sdX none S') S 33 [(0, .ref (gA G 157)), (1, .ref (gA G a1)), (2, .int x2)] []) (hk46 : ∀ (S : St) (a1 : Nat) (x2 : Int32) (x3 : Int32), k46 S a1 x2 x3 = some (S', r) → Wp G sdX (rmOf 3 76) 4 (Qm G sdX none S') S 46 [(0, .ref (gA G 157)), (1, .ref (gA G a1)), (2, .int x2), (3, .int x3)] []) (h : fX2_fill_j78 n k33 k46 S a1 x2 x3 = some (S', r)) : Wp G sdX (rmOf 3 76) 4 (Qm G sdX none S') S 78 [(0, .ref (gA G 157)), (1, .ref (gA G a1)), (2, .int x2), (3, .int x3)] [] := by
  unfold fX2_fill_j78 at h
  obtain ⟨z1, ez1, h⟩ := bn_some h
  refine wp_iinc (q := 3) (pc := 78) C (by decide) ez1 [(3, .int z1), (0, .ref (gA G 157)), (1, .ref (gA G a1)), (2, .int x2)] dX2_fill_78 rfl (Nat.le_of_ble_eq_true rfl) rfl ?_
  refine wp_goto (pc := 81) C 46 dX2_fill_81 (by decide) ?_
  exact wp_sub C [1, 2, 3, 0] rfl (hk46 _ _ _ _ h)
def fX2_fill_l46 (n : Nat) (k33 : St → Nat → Int32 → Option (St × Unit)) : Nat → St → Nat → Int32 → Int32 → Option (St × Unit)
  | 0, _, _, _, _ => none
  | j + 1, S, a1, x2, x3 =>
    gd (isK sdX a1 0) (
    gd (isK sdX (srX a1 0) 5) (
    if (S.1 (srX a1 0) 3) ≤ x3 then
      fX2_fill_j84 n k33 S a1 x2
    else
      gd (isK sdX (srX a1 4) 5) (
      gd (isK sdX (srX (srX a1 4) 2) 17) (
      gd (ib x2 (sdX.2.2.1 (srX (srX a1 4) 2))) (
      gd (isK sdX (srX (srX (srX a1 4) 2) (Int32.toNatClampNeg x2)) 13) (
      gd (ib x3 (sdX.2.2.1 (srX (srX (srX a1 4) 2) (Int32.toNatClampNeg x2)))) (
      if (S.1 (srX (srX (srX a1 4) 2) (Int32.toNatClampNeg x2)) (Int32.toNatClampNeg x3)) ≤ 0 then
        fX2_fill_j78 n k33 (fX2_fill_l46 n k33 j) S a1 x2 x3
      else
        bd (fX2_add n S a1 x2 x3) (fun S8 r9 =>
        fX2_fill_j78 n k33 (fX2_fill_l46 n k33 j) S8 a1 x2 x3))))))))
set_option maxRecDepth 100000 in
set_option maxHeartbeats 4000000 in
theorem wX2_fill_l46 (C : Cx G sdX cX2_fill 4 RX2 none) {n : Nat} {k33 : St → Nat → Int32 → Option (St × Unit)} {S' : St} {r : Unit} (hk33 : ∀ (S : St) (a1 : Nat) (x2 : Int32), k33 S a1 x2 = some (S', r) → Wp G sdX (rmOf 3 76) 4 (Qm G sdX none S') S 33 [(0, .ref (gA G 157)), (1, .ref (gA G a1)), (2, .int x2)] []) : ∀ (j : Nat) (S : St) (a1 : Nat) (x2 : Int32) (x3 : Int32), fX2_fill_l46 n k33 j S a1 x2 x3 = some (S', r) → Wp G sdX (rmOf 3 76) 4 (Qm G sdX none S') S 46 [(0, .ref (gA G 157)), (1, .ref (gA G a1)), (2, .int x2), (3, .int x3)] [] := by
  intro j
  induction j with
  | zero =>
    intro S a1 x2 x3 h
    exact nomatch (show (none : Option (St × Unit)) = some _ from h)
  | succ j ih =>
    intro S a1 x2 x3 h
    rw [fX2_fill_l46] at h
    refine wp_iload_n (pc := 46) C 3 dX2_fill_46 rfl rfl ?_
    refine wp_aload_n (pc := 47) C 1 dX2_fill_47 rfl rfl ?_
    obtain ⟨g1, h⟩ := gd_some h
    obtain ⟨g2, h⟩ := gd_some h
    refine wp_getS (v := srX a1 0) (pc := 48) C flX2_42 rfl rfl g2.1 g1.1 g1.2 dX2_fill_48 ?_
    refine wp_getI (pc := 51) C flX2_35 rfl g2.1 g2.2 dX2_fill_51 ?_
    refine wp_icmp_ge (pc := 54) C 84 dX2_fill_54 (by decide) (fun q => ?_) (fun q => ?_)
    · have h := it_pos q h
      exact wp_sub C [0, 1, 2] rfl (wX2_fill_j84 C hk33 h)
    · have h := it_neg q h
      refine wp_aload_n (pc := 57) C 1 dX2_fill_57 rfl rfl ?_
      obtain ⟨g3, h⟩ := gd_some h
      refine wp_getS (v := srX a1 4) (pc := 58) C flX2_30 rfl rfl g3.1 g1.1 g1.2 dX2_fill_58 ?_
      obtain ⟨g4, h⟩ := gd_some h
      refine wp_getS (v := srX (srX a1 4) 2) (pc := 61) C flX2_45 rfl rfl g4.1 g3.1 g3.2 dX2_fill_61 ?_
      refine wp_iload_n (pc := 64) C 2 dX2_fill_64 rfl rfl ?_
      obtain ⟨g5, h⟩ := gd_some h
      obtain ⟨g6, h⟩ := gd_some h
      refine wp_aald (t0 := 5) (pc := 65) C g4.1 g4.2 (by decide) rfl rfl g5 g6.1 dX2_fill_65 ?_
      refine wp_iload_n (pc := 66) C 3 dX2_fill_66 rfl rfl ?_
      obtain ⟨g7, h⟩ := gd_some h
      refine wp_iald (pc := 67) C g6.1 g6.2 g7 dX2_fill_67 ?_
      refine wp_if_le (pc := 68) C 78 dX2_fill_68 (by decide) (fun q => ?_) (fun q => ?_)
      · have h := it_pos q h
        exact (wX2_fill_j78 C hk33 ih h)
      · have h := it_neg q h
        refine wp_aload_n (pc := 71) C 0 dX2_fill_71 rfl rfl ?_
        refine wp_aload_n (pc := 72) C 1 dX2_fill_72 rfl rfl ?_
        refine wp_iload_n (pc := 73) C 2 dX2_fill_73 rfl rfl ?_
        refine wp_iload_n (pc := 74) C 3 dX2_fill_74 rfl rfl ?_
        obtain ⟨S8, r9, cS8, h⟩ := bd_some h
        refine wp_callVv (As := [.ref (gA G a1), .int x2, .int x3]) (st := []) (pc := 75) C (CtX2_add cS8) mX2_add iX2_add kX2_38 (Nat.le_of_ble_eq_true rfl) rfl (by decide) rfl rfl rfl rfl (Nat.le_of_ble_eq_true rfl) ⟨Nat.le_of_ble_eq_true rfl, Nat.le_of_ble_eq_true rfl⟩ dX2_fill_75 ?_
        exact (wX2_fill_j78 C hk33 ih h)
def fX2_fill_l33 (n : Nat) : Nat → St → Nat → Int32 → Option (St × Unit)
  | 0, _, _, _ => none
  | j + 1, S, a1, x2 =>
    gd (isK sdX a1 0) (
    gd (isK sdX (srX a1 4) 5) (
    if (S.1 (srX a1 4) 3) ≤ x2 then
      some (S, ())
    else
      fX2_fill_l46 n (fX2_fill_l33 n j) n S a1 x2 0))
set_option maxRecDepth 100000 in
set_option maxHeartbeats 4000000 in
theorem wX2_fill_l33 (C : Cx G sdX cX2_fill 4 RX2 none) {n : Nat} {S' : St} {r : Unit} : ∀ (j : Nat) (S : St) (a1 : Nat) (x2 : Int32), fX2_fill_l33 n j S a1 x2 = some (S', r) → Wp G sdX (rmOf 3 76) 4 (Qm G sdX none S') S 33 [(0, .ref (gA G 157)), (1, .ref (gA G a1)), (2, .int x2)] [] := by
  intro j
  induction j with
  | zero =>
    intro S a1 x2 h
    exact nomatch (show (none : Option (St × Unit)) = some _ from h)
  | succ j ih =>
    intro S a1 x2 h
    rw [fX2_fill_l33] at h
    refine wp_iload_n (pc := 33) C 2 dX2_fill_33 rfl rfl ?_
    refine wp_aload_n (pc := 34) C 1 dX2_fill_34 rfl rfl ?_
    obtain ⟨g1, h⟩ := gd_some h
    obtain ⟨g2, h⟩ := gd_some h
    refine wp_getS (v := srX a1 4) (pc := 35) C flX2_30 rfl rfl g2.1 g1.1 g1.2 dX2_fill_35 ?_
    refine wp_getI (pc := 38) C flX2_35 rfl g2.1 g2.2 dX2_fill_38 ?_
    refine wp_icmp_ge (pc := 41) C 90 dX2_fill_41 (by decide) (fun q => ?_) (fun q => ?_)
    · have h := it_pos q h
      exact rt_v C rfl h dX2_fill_90
    · have h := it_neg q h
      refine wp_iconst (v := 0) (pc := 44) C dX2_fill_44 (by decide) ?_
      refine wp_istore_n (pc := 45) C rfl [(3, .int 0), (0, .ref (gA G 157)), (1, .ref (gA G a1)), (2, .int x2)] dX2_fill_45 rfl (Nat.le_of_ble_eq_true rfl) rfl ?_
      exact wp_sub C [1, 2, 3, 0] rfl (wX2_fill_l46 C ih _ _ _ _ _ h)
def fX2_fill_j31 (n : Nat) (S : St) (a1 : Nat) : Option (St × Unit) :=
  fX2_fill_l33 n n S a1 0
set_option maxRecDepth 100000 in
set_option maxHeartbeats 4000000 in
theorem wX2_fill_j31 (C : Cx G sdX cX2_fill 4 RX2 none) {n : Nat} {S S' : St} {r : Unit} {a1 : Nat} (h : fX2_fill_j31 n S a1 = some (S', r)) : Wp G sdX (rmOf 3 76) 4 (Qm G sdX none S') S 31 [(0, .ref (gA G 157)), (1, .ref (gA G a1))] [] := by
  unfold fX2_fill_j31 at h
  refine wp_iconst (v := 0) (pc := 31) C dX2_fill_31 (by decide) ?_
  refine wp_istore_n (pc := 32) C rfl [(2, .int 0), (0, .ref (gA G 157)), (1, .ref (gA G a1))] dX2_fill_32 rfl (Nat.le_of_ble_eq_true rfl) rfl ?_
  exact wp_sub C [1, 2, 0] rfl (wX2_fill_l33 C _ _ _ _ h)
def fX2_fill_l7 (n : Nat) : Nat → St → Nat → Int32 → Option (St × Unit)
  | 0, _, _, _ => none
  | j + 1, S, a1, x2 =>
    gd (isK sdX a1 0) (
    gd (isK sdX (srX a1 4) 5) (
    if (S.1 (srX a1 4) 3) ≤ x2 then
      fX2_fill_j31 n S a1
    else
      bd (fX2_add n S a1 x2 (-1)) (fun S3 r4 =>
      bn (x2 + 1) (fun z5 : Int32 =>
      fX2_fill_l7 n j S3 a1 z5))))
set_option maxRecDepth 100000 in
set_option maxHeartbeats 4000000 in
theorem wX2_fill_l7 (C : Cx G sdX cX2_fill 4 RX2 none) {n : Nat} {S' : St} {r : Unit} : ∀ (j : Nat) (S : St) (a1 : Nat) (x2 : Int32), fX2_fill_l7 n j S a1 x2 = some (S', r) → Wp G sdX (rmOf 3 76) 4 (Qm G sdX none S') S 7 [(0, .ref (gA G 157)), (1, .ref (gA G a1)), (2, .int x2)] [] := by
  intro j
  induction j with
  | zero =>
    intro S a1 x2 h
    exact nomatch (show (none : Option (St × Unit)) = some _ from h)
  | succ j ih =>
    intro S a1 x2 h
    rw [fX2_fill_l7] at h
    refine wp_iload_n (pc := 7) C 2 dX2_fill_7 rfl rfl ?_
    refine wp_aload_n (pc := 8) C 1 dX2_fill_8 rfl rfl ?_
    obtain ⟨g1, h⟩ := gd_some h
    obtain ⟨g2, h⟩ := gd_some h
    refine wp_getS (v := srX a1 4) (pc := 9) C flX2_30 rfl rfl g2.1 g1.1 g1.2 dX2_fill_9 ?_
    refine wp_getI (pc := 12) C flX2_35 rfl g2.1 g2.2 dX2_fill_12 ?_
    refine wp_icmp_ge (pc := 15) C 31 dX2_fill_15 (by decide) (fun q => ?_) (fun q => ?_)
    · have h := it_pos q h
      exact wp_sub C [0, 1] rfl (wX2_fill_j31 C h)
    · have h := it_neg q h
      refine wp_aload_n (pc := 18) C 0 dX2_fill_18 rfl rfl ?_
      refine wp_aload_n (pc := 19) C 1 dX2_fill_19 rfl rfl ?_
      refine wp_iload_n (pc := 20) C 2 dX2_fill_20 rfl rfl ?_
      refine wp_iconst (v := (-1)) (pc := 21) C dX2_fill_21 (by decide) ?_
      obtain ⟨S3, r4, cS3, h⟩ := bd_some h
      refine wp_callVv (As := [.ref (gA G a1), .int x2, .int (-1)]) (st := []) (pc := 22) C (CtX2_add cS3) mX2_add iX2_add kX2_38 (Nat.le_of_ble_eq_true rfl) rfl (by decide) rfl rfl rfl rfl (Nat.le_of_ble_eq_true rfl) ⟨Nat.le_of_ble_eq_true rfl, Nat.le_of_ble_eq_true rfl⟩ dX2_fill_22 ?_
      obtain ⟨z5, ez5, h⟩ := bn_some h
      refine wp_iinc (q := 2) (pc := 25) C (by decide) ez5 [(2, .int z5), (0, .ref (gA G 157)), (1, .ref (gA G a1))] dX2_fill_25 rfl (Nat.le_of_ble_eq_true rfl) rfl ?_
      refine wp_goto (pc := 28) C 7 dX2_fill_28 (by decide) ?_
      exact wp_sub C [1, 2, 0] rfl (ih _ _ _ h)
def fX2_fill (n : Nat) (S : St) (a1 : Nat) : Option (St × Unit) :=
  bn (sI S 157 4 0) (fun S1 : St =>
  fX2_fill_l7 n n S1 a1 0)
set_option maxRecDepth 100000 in
set_option maxHeartbeats 4000000 in
theorem wX2_fill (C : Cx G sdX cX2_fill 4 RX2 none) {n : Nat} {S S' : St} {r : Unit} {a1 : Nat} (h : fX2_fill n S a1 = some (S', r)) : Wp G sdX (rmOf 3 76) 4 (Qm G sdX none S') S 0 [(0, .ref (gA G 157)), (1, .ref (gA G a1))] [] := by
  unfold fX2_fill at h
  refine wp_aload_n (pc := 0) C 0 dX2_fill_0 rfl rfl ?_
  refine wp_iconst (v := 0) (pc := 1) C dX2_fill_1 (by decide) ?_
  obtain ⟨S1, eS1, h⟩ := bn_some h
  refine wp_putI (pc := 2) C eS1 flX2_26 fpX2_4 rfl (Nat.le_of_ble_eq_true rfl) rfl dX2_fill_2 ?_
  refine wp_iconst (v := 0) (pc := 5) C dX2_fill_5 (by decide) ?_
  refine wp_istore_n (pc := 6) C rfl [(2, .int 0), (0, .ref (gA G 157)), (1, .ref (gA G a1))] dX2_fill_6 rfl (Nat.le_of_ble_eq_true rfl) rfl ?_
  exact wp_sub C [1, 2, 0] rfl (wX2_fill_l7 C _ _ _ _ h)
theorem CtX2_fill {n : Nat} {S S' : St} {r : Unit} {a1 : Nat} (h : fX2_fill n S a1 = some (S', r)) : Ct l sdX cy ad D yX2_fill cX2_fill 4 none 3 76 [.ref (ad 157), .ref (ad a1)] S none S' :=
  Ct_of (own := RX2) mX2_fill rfl (Nat.le_of_ble_eq_true rfl) (fun G e1 e2 e3 e4 C => by subst e1 e2 e3 e4; exact wX2_fill C h)
def fX3_moveTo (n : Nat) (S : St) (x1 : Int32) : Option (St × Unit) :=
  if x1 < 0 then
    some (S, ())
  else
    if (S.1 152 4) ≤ x1 then
      some (S, ())
    else
      bn (sI S 151 2 x1) (fun S1 : St =>
      gd (ib (S1.1 151 2) 1701) (
      bn (sI S1 151 3 (S1.1 154 (Int32.toNatClampNeg (S1.1 151 2)))) (fun S3 : St =>
      gd (ib (S3.1 151 2) 1701) (
      bn (sL S3 151 4 (S3.2.1 156 (Int32.toNatClampNeg (S3.1 151 2)))) (fun S5 : St =>
      some (S5, ()))))))
set_option maxRecDepth 100000 in
set_option maxHeartbeats 4000000 in
theorem wX3_moveTo (C : Cx G sdX cX3_moveTo 2 RX3 none) {n : Nat} {S S' : St} {r : Unit} {x1 : Int32} (h : fX3_moveTo n S x1 = some (S', r)) : Wp G sdX (rmOf 0 0) 2 (Qm G sdX none S') S 0 [(0, .ref (gA G 151)), (1, .int x1)] [] := by
  unfold fX3_moveTo at h
  refine wp_iload_n (pc := 0) C 1 dX3_moveTo_0 rfl rfl ?_
  refine wp_if_lt (pc := 1) C 52 dX3_moveTo_1 (by decide) (fun q => ?_) (fun q => ?_)
  · have h := it_pos q h
    exact rt_v C rfl h dX3_moveTo_52
  · have h := it_neg q h
    refine wp_iload_n (pc := 4) C 1 dX3_moveTo_4 rfl rfl ?_
    refine wp_aload_n (pc := 5) C 0 dX3_moveTo_5 rfl rfl ?_
    refine wp_getS (v := 152) (pc := 6) C flX3_18 rfl rfl (Nat.le_of_ble_eq_true rfl) (Nat.le_of_ble_eq_true rfl) rfl dX3_moveTo_6 ?_
    refine wp_getI (pc := 9) C flX3_176 rfl (Nat.le_of_ble_eq_true rfl) rfl dX3_moveTo_9 ?_
    refine wp_icmp_ge (pc := 12) C 52 dX3_moveTo_12 (by decide) (fun q => ?_) (fun q => ?_)
    · have h := it_pos q h
      exact rt_v C rfl h dX3_moveTo_52
    · have h := it_neg q h
      refine wp_aload_n (pc := 15) C 0 dX3_moveTo_15 rfl rfl ?_
      refine wp_iload_n (pc := 16) C 1 dX3_moveTo_16 rfl rfl ?_
      obtain ⟨S1, eS1, h⟩ := bn_some h
      refine wp_putI (pc := 17) C eS1 flX3_166 fpX3_2 rfl (Nat.le_of_ble_eq_true rfl) rfl dX3_moveTo_17 ?_
      refine wp_aload_n (pc := 20) C 0 dX3_moveTo_20 rfl rfl ?_
      refine wp_aload_n (pc := 21) C 0 dX3_moveTo_21 rfl rfl ?_
      refine wp_getS (v := 152) (pc := 22) C flX3_18 rfl rfl (Nat.le_of_ble_eq_true rfl) (Nat.le_of_ble_eq_true rfl) rfl dX3_moveTo_22 ?_
      refine wp_getS (v := 154) (pc := 25) C flX3_177 rfl rfl (Nat.le_of_ble_eq_true rfl) (Nat.le_of_ble_eq_true rfl) rfl dX3_moveTo_25 ?_
      refine wp_aload_n (pc := 28) C 0 dX3_moveTo_28 rfl rfl ?_
      refine wp_getI (pc := 29) C flX3_166 rfl (Nat.le_of_ble_eq_true rfl) rfl dX3_moveTo_29 ?_
      obtain ⟨g2, h⟩ := gd_some h
      refine wp_iald (pc := 32) C (Nat.le_of_ble_eq_true rfl) rfl g2 dX3_moveTo_32 ?_
      obtain ⟨S3, eS3, h⟩ := bn_some h
      refine wp_putI (pc := 33) C eS3 flX3_45 fpX3_3 rfl (Nat.le_of_ble_eq_true rfl) rfl dX3_moveTo_33 ?_
      refine wp_aload_n (pc := 36) C 0 dX3_moveTo_36 rfl rfl ?_
      refine wp_aload_n (pc := 37) C 0 dX3_moveTo_37 rfl rfl ?_
      refine wp_getS (v := 152) (pc := 38) C flX3_18 rfl rfl (Nat.le_of_ble_eq_true rfl) (Nat.le_of_ble_eq_true rfl) rfl dX3_moveTo_38 ?_
      refine wp_getS (v := 156) (pc := 41) C flX3_180 rfl rfl (Nat.le_of_ble_eq_true rfl) (Nat.le_of_ble_eq_true rfl) rfl dX3_moveTo_41 ?_
      refine wp_aload_n (pc := 44) C 0 dX3_moveTo_44 rfl rfl ?_
      refine wp_getI (pc := 45) C flX3_166 rfl (Nat.le_of_ble_eq_true rfl) rfl dX3_moveTo_45 ?_
      obtain ⟨g4, h⟩ := gd_some h
      refine wp_lald (pc := 48) C (Nat.le_of_ble_eq_true rfl) rfl g4 dX3_moveTo_48 ?_
      obtain ⟨S5, eS5, h⟩ := bn_some h
      refine wp_putL (pc := 49) C eS5 flX3_155 fpX3_4 rfl (Nat.le_of_ble_eq_true rfl) rfl dX3_moveTo_49 ?_
      exact rt_v C rfl h dX3_moveTo_52
theorem CtX3_moveTo {n : Nat} {S S' : St} {r : Unit} {x1 : Int32} (h : fX3_moveTo n S x1 = some (S', r)) : Ct l sdX cy ad D yX3_moveTo cX3_moveTo 2 none 0 0 [.ref (ad 151), .int x1] S none S' :=
  Ct_of (own := RX3) mX3_moveTo rfl (Nat.le_of_ble_eq_true rfl) (fun G e1 e2 e3 e4 C => by subst e1 e2 e3 e4; exact wX3_moveTo C h)
def fX3_refuse_j21 (n : Nat) (S : St) (y1 : Int32) : Option (St × Int32) :=
  bn (sI S 151 7 y1) (fun S1 : St =>
  gd (ib (S1.1 151 2) 1701) (
  bn (sI S1 151 8 (S1.1 155 (Int32.toNatClampNeg (S1.1 151 2)))) (fun S3 : St =>
  some (S3, 0))))
set_option maxRecDepth 100000 in
set_option maxHeartbeats 4000000 in
theorem wX3_refuse_j21 (C : Cx G sdX cX3_refuse 2 RX3 (some .boolean)) {n : Nat} {S S' : St} {r : Int32} {y1 : Int32} (h : fX3_refuse_j21 n S y1 = some (S', r)) : Wp G sdX (rmOf 0 0) 2 (Qm G sdX (some (.int r)) S') S 21 [(0, .ref (gA G 151))] [.int y1, .ref (gA G 151)] := by
  unfold fX3_refuse_j21 at h
  obtain ⟨S1, eS1, h⟩ := bn_some h
  refine wp_putI (pc := 21) C eS1 flX3_22 fpX3_7 rfl (Nat.le_of_ble_eq_true rfl) rfl dX3_refuse_21 ?_
  refine wp_aload_n (pc := 24) C 0 dX3_refuse_24 rfl rfl ?_
  refine wp_aload_n (pc := 25) C 0 dX3_refuse_25 rfl rfl ?_
  refine wp_getS (v := 152) (pc := 26) C flX3_18 rfl rfl (Nat.le_of_ble_eq_true rfl) (Nat.le_of_ble_eq_true rfl) rfl dX3_refuse_26 ?_
  refine wp_getS (v := 155) (pc := 29) C flX3_183 rfl rfl (Nat.le_of_ble_eq_true rfl) (Nat.le_of_ble_eq_true rfl) rfl dX3_refuse_29 ?_
  refine wp_aload_n (pc := 32) C 0 dX3_refuse_32 rfl rfl ?_
  refine wp_getI (pc := 33) C flX3_166 rfl (Nat.le_of_ble_eq_true rfl) rfl dX3_refuse_33 ?_
  obtain ⟨g2, h⟩ := gd_some h
  refine wp_iald (pc := 36) C (Nat.le_of_ble_eq_true rfl) rfl g2 dX3_refuse_36 ?_
  obtain ⟨S3, eS3, h⟩ := bn_some h
  refine wp_putI (pc := 37) C eS3 flX3_26 fpX3_8 rfl (Nat.le_of_ble_eq_true rfl) rfl dX3_refuse_37 ?_
  refine wp_iconst (v := 0) (pc := 40) C dX3_refuse_40 (by decide) ?_
  exact rt_z C (Or.inl rfl) rfl h dX3_refuse_41
def fX3_refuse (n : Nat) (S : St) (x1 : Int32) : Option (St × Int32) :=
  if (S.1 151 7) = 0 then
    if (S.1 151 3) = 1 then
      fX3_refuse_j21 n S 1
    else
      fX3_refuse_j21 n S x1
  else
    some (S, 0)
set_option maxRecDepth 100000 in
set_option maxHeartbeats 4000000 in
theorem wX3_refuse (C : Cx G sdX cX3_refuse 2 RX3 (some .boolean)) {n : Nat} {S S' : St} {r : Int32} {x1 : Int32} (h : fX3_refuse n S x1 = some (S', r)) : Wp G sdX (rmOf 0 0) 2 (Qm G sdX (some (.int r)) S') S 0 [(0, .ref (gA G 151)), (1, .int x1)] [] := by
  unfold fX3_refuse at h
  refine wp_aload_n (pc := 0) C 0 dX3_refuse_0 rfl rfl ?_
  refine wp_getI (pc := 1) C flX3_22 rfl (Nat.le_of_ble_eq_true rfl) rfl dX3_refuse_1 ?_
  refine wp_if_ne (pc := 4) C 40 dX3_refuse_4 (by decide) (fun q => ?_) (fun q => ?_)
  · have h := it_neg q h
    refine wp_iconst (v := 0) (pc := 40) C dX3_refuse_40 (by decide) ?_
    exact rt_z C (Or.inl rfl) rfl h dX3_refuse_41
  · have h := it_pos q h
    refine wp_aload_n (pc := 7) C 0 dX3_refuse_7 rfl rfl ?_
    refine wp_aload_n (pc := 8) C 0 dX3_refuse_8 rfl rfl ?_
    refine wp_getI (pc := 9) C flX3_45 rfl (Nat.le_of_ble_eq_true rfl) rfl dX3_refuse_9 ?_
    refine wp_iconst (v := 1) (pc := 12) C dX3_refuse_12 (by decide) ?_
    refine wp_icmp_ne (pc := 13) C 20 dX3_refuse_13 (by decide) (fun q => ?_) (fun q => ?_)
    · have h := it_neg q h
      refine wp_iload_n (pc := 20) C 1 dX3_refuse_20 rfl rfl ?_
      exact wp_sub C [0] rfl (wX3_refuse_j21 C h)
    · have h := it_pos q h
      refine wp_iconst (v := 1) (pc := 16) C dX3_refuse_16 (by decide) ?_
      refine wp_goto (pc := 17) C 21 dX3_refuse_17 (by decide) ?_
      exact wp_sub C [0] rfl (wX3_refuse_j21 C h)
theorem CtX3_refuse {n : Nat} {S S' : St} {r : Int32} {x1 : Int32} (h : fX3_refuse n S x1 = some (S', r)) : Ct l sdX cy ad D yX3_refuse cX3_refuse 2 (some .boolean) 0 0 [.ref (ad 151), .int x1] S (some (.int r)) S' :=
  Ct_of (own := RX3) mX3_refuse rfl (Nat.le_of_ble_eq_true rfl) (fun G e1 e2 e3 e4 C => by subst e1 e2 e3 e4; exact wX3_refuse C h)
def fX3_openOnce (n : Nat) (S : St) : Option (St × Int32) :=
  bn (1 <<< ((S.1 151 3) &&& 31)) (fun z1 : Int32 =>
  if ((S.1 151 5) &&& z1) = 0 then
    bn (sI S 151 5 ((S.1 151 5) ||| z1)) (fun S2 : St =>
    bd (fX3_moveTo n S2 ((S2.1 151 2) + 1)) (fun S3 r4 =>
    some (S3, 1)))
  else
    bd (fX3_refuse n S 2) (fun S5 r6 =>
    gd (r6 = 0 ∨ r6 = 1) (
    some (S5, r6))))
set_option maxRecDepth 100000 in
set_option maxHeartbeats 4000000 in
theorem wX3_openOnce (C : Cx G sdX cX3_openOnce 2 RX3 (some .boolean)) {n : Nat} {S S' : St} {r : Int32} (h : fX3_openOnce n S = some (S', r)) : Wp G sdX (rmOf 1 21) 2 (Qm G sdX (some (.int r)) S') S 0 [(0, .ref (gA G 151))] [] := by
  unfold fX3_openOnce at h
  refine wp_iconst (v := 1) (pc := 0) C dX3_openOnce_0 (by decide) ?_
  refine wp_aload_n (pc := 1) C 0 dX3_openOnce_1 rfl rfl ?_
  refine wp_getI (pc := 2) C flX3_45 rfl (Nat.le_of_ble_eq_true rfl) rfl dX3_openOnce_2 ?_
  refine wp_ishl (pc := 5) C dX3_openOnce_5 ?_
  obtain ⟨z1, ez1, h⟩ := bn_some h
  refine wp_istore_n (pc := 6) C ez1 [(1, .int z1), (0, .ref (gA G 151))] dX3_openOnce_6 rfl (Nat.le_of_ble_eq_true rfl) rfl ?_
  refine wp_aload_n (pc := 7) C 1 dX3_openOnce_7 rfl rfl ?_
  refine wp_getI (pc := 8) C flX3_42 rfl (Nat.le_of_ble_eq_true rfl) rfl dX3_openOnce_8 ?_
  refine wp_iload_n (pc := 11) C 0 dX3_openOnce_11 rfl rfl ?_
  refine wp_iand (pc := 12) C dX3_openOnce_12 ?_
  refine wp_if_eq (pc := 13) C 22 dX3_openOnce_13 (by decide) (fun q => ?_) (fun q => ?_)
  · have h := it_pos q h
    refine wp_aload_n (pc := 22) C 1 dX3_openOnce_22 rfl rfl ?_
    refine wp_dup (pc := 23) C dX3_openOnce_23 rfl ?_
    refine wp_getI (pc := 24) C flX3_42 rfl (Nat.le_of_ble_eq_true rfl) rfl dX3_openOnce_24 ?_
    refine wp_iload_n (pc := 27) C 0 dX3_openOnce_27 rfl rfl ?_
    refine wp_ior (pc := 28) C dX3_openOnce_28 ?_
    obtain ⟨S2, eS2, h⟩ := bn_some h
    refine wp_putI (pc := 29) C eS2 flX3_42 fpX3_5 rfl (Nat.le_of_ble_eq_true rfl) rfl dX3_openOnce_29 ?_
    refine wp_aload_n (pc := 32) C 1 dX3_openOnce_32 rfl rfl ?_
    refine wp_aload_n (pc := 33) C 1 dX3_openOnce_33 rfl rfl ?_
    refine wp_getI (pc := 34) C flX3_166 rfl (Nat.le_of_ble_eq_true rfl) rfl dX3_openOnce_34 ?_
    refine wp_iconst (v := 1) (pc := 37) C dX3_openOnce_37 (by decide) ?_
    refine wp_iadd (pc := 38) C dX3_openOnce_38 ?_
    obtain ⟨S3, r4, cS3, h⟩ := bd_some h
    refine wp_callVv (As := [.int ((S2.1 151 2) + 1)]) (st := []) (pc := 39) C (CtX3_moveTo cS3) mX3_moveTo iX3_moveTo kX3_38 (Nat.le_of_ble_eq_true rfl) rfl (by decide) rfl rfl rfl rfl (Nat.le_of_ble_eq_true rfl) ⟨Nat.le_of_ble_eq_true rfl, Nat.le_of_ble_eq_true rfl⟩ dX3_openOnce_39 ?_
    refine wp_iconst (v := 1) (pc := 42) C dX3_openOnce_42 (by decide) ?_
    exact rt_z C (Or.inr rfl) rfl h dX3_openOnce_43
  · have h := it_neg q h
    refine wp_aload_n (pc := 16) C 1 dX3_openOnce_16 rfl rfl ?_
    refine wp_iconst (v := 2) (pc := 17) C dX3_openOnce_17 (by decide) ?_
    obtain ⟨S5, r6, cS5, h⟩ := bd_some h
    refine wp_callVi (As := [.int 2]) (st := []) (pc := 18) C (CtX3_refuse cS5) mX3_refuse iX3_refuse kX3_90 (Nat.le_of_ble_eq_true rfl) rfl (by decide) rfl rfl rfl rfl (Nat.le_of_ble_eq_true rfl) ⟨Nat.le_of_ble_eq_true rfl, Nat.le_of_ble_eq_true rfl⟩ dX3_openOnce_18 ?_
    obtain ⟨g7, h⟩ := gd_some h
    exact rt_z C g7 rfl h dX3_openOnce_21
theorem CtX3_openOnce {n : Nat} {S S' : St} {r : Int32} (h : fX3_openOnce n S = some (S', r)) : Ct l sdX cy ad D yX3_openOnce cX3_openOnce 2 (some .boolean) 1 21 [.ref (ad 151)] S (some (.int r)) S' :=
  Ct_of (own := RX3) mX3_openOnce rfl (Nat.le_of_ble_eq_true rfl) (fun G e1 e2 e3 e4 C => by subst e1 e2 e3 e4; exact wX3_openOnce C h)
def fX3_take (n : Nat) (S : St) (x1 : Int32) : Option (St × Int32) :=
  if (S.1 151 3) = x1 then
    bd (fX3_moveTo n S ((S.1 151 2) + 1)) (fun S1 r2 =>
    some (S1, 1))
  else
    bd (fX3_refuse n S 2) (fun S3 r4 =>
    gd (r4 = 0 ∨ r4 = 1) (
    some (S3, r4)))
set_option maxRecDepth 100000 in
set_option maxHeartbeats 4000000 in
theorem wX3_take (C : Cx G sdX cX3_take 2 RX3 (some .boolean)) {n : Nat} {S S' : St} {r : Int32} {x1 : Int32} (h : fX3_take n S x1 = some (S', r)) : Wp G sdX (rmOf 1 21) 2 (Qm G sdX (some (.int r)) S') S 0 [(0, .ref (gA G 151)), (1, .int x1)] [] := by
  unfold fX3_take at h
  refine wp_aload_n (pc := 0) C 0 dX3_take_0 rfl rfl ?_
  refine wp_getI (pc := 1) C flX3_45 rfl (Nat.le_of_ble_eq_true rfl) rfl dX3_take_1 ?_
  refine wp_iload_n (pc := 4) C 1 dX3_take_4 rfl rfl ?_
  refine wp_icmp_eq (pc := 5) C 14 dX3_take_5 (by decide) (fun q => ?_) (fun q => ?_)
  · have h := it_pos q h
    refine wp_aload_n (pc := 14) C 0 dX3_take_14 rfl rfl ?_
    refine wp_aload_n (pc := 15) C 0 dX3_take_15 rfl rfl ?_
    refine wp_getI (pc := 16) C flX3_166 rfl (Nat.le_of_ble_eq_true rfl) rfl dX3_take_16 ?_
    refine wp_iconst (v := 1) (pc := 19) C dX3_take_19 (by decide) ?_
    refine wp_iadd (pc := 20) C dX3_take_20 ?_
    obtain ⟨S1, r2, cS1, h⟩ := bd_some h
    refine wp_callVv (As := [.int ((S.1 151 2) + 1)]) (st := []) (pc := 21) C (CtX3_moveTo cS1) mX3_moveTo iX3_moveTo kX3_38 (Nat.le_of_ble_eq_true rfl) rfl (by decide) rfl rfl rfl rfl (Nat.le_of_ble_eq_true rfl) ⟨Nat.le_of_ble_eq_true rfl, Nat.le_of_ble_eq_true rfl⟩ dX3_take_21 ?_
    refine wp_iconst (v := 1) (pc := 24) C dX3_take_24 (by decide) ?_
    exact rt_z C (Or.inr rfl) rfl h dX3_take_25
  · have h := it_neg q h
    refine wp_aload_n (pc := 8) C 0 dX3_take_8 rfl rfl ?_
    refine wp_iconst (v := 2) (pc := 9) C dX3_take_9 (by decide) ?_
    obtain ⟨S3, r4, cS3, h⟩ := bd_some h
    refine wp_callVi (As := [.int 2]) (st := []) (pc := 10) C (CtX3_refuse cS3) mX3_refuse iX3_refuse kX3_90 (Nat.le_of_ble_eq_true rfl) rfl (by decide) rfl rfl rfl rfl (Nat.le_of_ble_eq_true rfl) ⟨Nat.le_of_ble_eq_true rfl, Nat.le_of_ble_eq_true rfl⟩ dX3_take_10 ?_
    obtain ⟨g5, h⟩ := gd_some h
    exact rt_z C g5 rfl h dX3_take_13
theorem CtX3_take {n : Nat} {S S' : St} {r : Int32} {x1 : Int32} (h : fX3_take n S x1 = some (S', r)) : Ct l sdX cy ad D yX3_take cX3_take 2 (some .boolean) 1 21 [.ref (ad 151), .int x1] S (some (.int r)) S' :=
  Ct_of (own := RX3) mX3_take rfl (Nat.le_of_ble_eq_true rfl) (fun G e1 e2 e3 e4 C => by subst e1 e2 e3 e4; exact wX3_take C h)
def fX3_takeNumber_j34 (n : Nat) (S : St) : Option (St × Int32) :=
  bd (fX3_refuse n S 4) (fun S1 r2 =>
  gd (r2 = 0 ∨ r2 = 1) (
  some (S1, r2)))
set_option maxRecDepth 100000 in
set_option maxHeartbeats 4000000 in
theorem wX3_takeNumber_j34 (C : Cx G sdX cX3_takeNumber 3 RX3 (some .boolean)) {n : Nat} {S S' : St} {r : Int32} (h : fX3_takeNumber_j34 n S = some (S', r)) : Wp G sdX (rmOf 1 21) 3 (Qm G sdX (some (.int r)) S') S 34 [(0, .ref (gA G 151))] [] := by
  unfold fX3_takeNumber_j34 at h
  refine wp_aload_n (pc := 34) C 0 dX3_takeNumber_34 rfl rfl ?_
  refine wp_iconst (v := 4) (pc := 35) C dX3_takeNumber_35 (by decide) ?_
  obtain ⟨S1, r2, cS1, h⟩ := bd_some h
  refine wp_callVi (As := [.int 4]) (st := []) (pc := 36) C (CtX3_refuse cS1) mX3_refuse iX3_refuse kX3_90 (Nat.le_of_ble_eq_true rfl) rfl (by decide) rfl rfl rfl rfl (Nat.le_of_ble_eq_true rfl) ⟨Nat.le_of_ble_eq_true rfl, Nat.le_of_ble_eq_true rfl⟩ dX3_takeNumber_36 ?_
  obtain ⟨g3, h⟩ := gd_some h
  exact rt_z C g3 rfl h dX3_takeNumber_39
def fX3_takeNumber (n : Nat) (S : St) (x1 : Int32) (x2 : Int32) : Option (St × Int32) :=
  if (S.1 151 3) = 2 then
    if (lg_cmp (S.2.1 151 4) ((x1 : Int32).toInt64)) < 0 then
      fX3_takeNumber_j34 n S
    else
      if (lg_cmp (S.2.1 151 4) ((x2 : Int32).toInt64)) ≤ 0 then
        bn (sI S 151 6 (((S.2.1 151 4) : Int64).toInt32)) (fun S1 : St =>
        bd (fX3_moveTo n S1 ((S1.1 151 2) + 1)) (fun S2 r3 =>
        some (S2, 1)))
      else
        fX3_takeNumber_j34 n S
  else
    bd (fX3_refuse n S 2) (fun S4 r5 =>
    gd (r5 = 0 ∨ r5 = 1) (
    some (S4, r5)))
set_option maxRecDepth 100000 in
set_option maxHeartbeats 4000000 in
theorem wX3_takeNumber (C : Cx G sdX cX3_takeNumber 3 RX3 (some .boolean)) {n : Nat} {S S' : St} {r : Int32} {x1 : Int32} {x2 : Int32} (h : fX3_takeNumber n S x1 x2 = some (S', r)) : Wp G sdX (rmOf 1 21) 3 (Qm G sdX (some (.int r)) S') S 0 [(0, .ref (gA G 151)), (1, .int x1), (2, .int x2)] [] := by
  unfold fX3_takeNumber at h
  refine wp_aload_n (pc := 0) C 0 dX3_takeNumber_0 rfl rfl ?_
  refine wp_getI (pc := 1) C flX3_45 rfl (Nat.le_of_ble_eq_true rfl) rfl dX3_takeNumber_1 ?_
  refine wp_iconst (v := 2) (pc := 4) C dX3_takeNumber_4 (by decide) ?_
  refine wp_icmp_eq (pc := 5) C 14 dX3_takeNumber_5 (by decide) (fun q => ?_) (fun q => ?_)
  · have h := it_pos q h
    refine wp_aload_n (pc := 14) C 0 dX3_takeNumber_14 rfl rfl ?_
    refine wp_getL (pc := 15) C flX3_155 rfl (Nat.le_of_ble_eq_true rfl) rfl dX3_takeNumber_15 ?_
    refine wp_iload_n (pc := 18) C 1 dX3_takeNumber_18 rfl rfl ?_
    refine wp_i2l (pc := 19) C dX3_takeNumber_19 ?_
    refine wp_lcmp (pc := 20) C dX3_takeNumber_20 ?_
    refine wp_if_lt (pc := 21) C 34 dX3_takeNumber_21 (by decide) (fun q => ?_) (fun q => ?_)
    · have h := it_pos q h
      exact wp_sub C [0] rfl (wX3_takeNumber_j34 C h)
    · have h := it_neg q h
      refine wp_aload_n (pc := 24) C 0 dX3_takeNumber_24 rfl rfl ?_
      refine wp_getL (pc := 25) C flX3_155 rfl (Nat.le_of_ble_eq_true rfl) rfl dX3_takeNumber_25 ?_
      refine wp_iload_n (pc := 28) C 2 dX3_takeNumber_28 rfl rfl ?_
      refine wp_i2l (pc := 29) C dX3_takeNumber_29 ?_
      refine wp_lcmp (pc := 30) C dX3_takeNumber_30 ?_
      refine wp_if_le (pc := 31) C 40 dX3_takeNumber_31 (by decide) (fun q => ?_) (fun q => ?_)
      · have h := it_pos q h
        refine wp_aload_n (pc := 40) C 0 dX3_takeNumber_40 rfl rfl ?_
        refine wp_aload_n (pc := 41) C 0 dX3_takeNumber_41 rfl rfl ?_
        refine wp_getL (pc := 42) C flX3_155 rfl (Nat.le_of_ble_eq_true rfl) rfl dX3_takeNumber_42 ?_
        refine wp_l2i (pc := 45) C dX3_takeNumber_45 ?_
        obtain ⟨S1, eS1, h⟩ := bn_some h
        refine wp_putI (pc := 46) C eS1 flX3_109 fpX3_6 rfl (Nat.le_of_ble_eq_true rfl) rfl dX3_takeNumber_46 ?_
        refine wp_aload_n (pc := 49) C 0 dX3_takeNumber_49 rfl rfl ?_
        refine wp_aload_n (pc := 50) C 0 dX3_takeNumber_50 rfl rfl ?_
        refine wp_getI (pc := 51) C flX3_166 rfl (Nat.le_of_ble_eq_true rfl) rfl dX3_takeNumber_51 ?_
        refine wp_iconst (v := 1) (pc := 54) C dX3_takeNumber_54 (by decide) ?_
        refine wp_iadd (pc := 55) C dX3_takeNumber_55 ?_
        obtain ⟨S2, r3, cS2, h⟩ := bd_some h
        refine wp_callVv (As := [.int ((S1.1 151 2) + 1)]) (st := []) (pc := 56) C (CtX3_moveTo cS2) mX3_moveTo iX3_moveTo kX3_38 (Nat.le_of_ble_eq_true rfl) rfl (by decide) rfl rfl rfl rfl (Nat.le_of_ble_eq_true rfl) ⟨Nat.le_of_ble_eq_true rfl, Nat.le_of_ble_eq_true rfl⟩ dX3_takeNumber_56 ?_
        refine wp_iconst (v := 1) (pc := 59) C dX3_takeNumber_59 (by decide) ?_
        exact rt_z C (Or.inr rfl) rfl h dX3_takeNumber_60
      · have h := it_neg q h
        exact wp_sub C [0] rfl (wX3_takeNumber_j34 C h)
  · have h := it_neg q h
    refine wp_aload_n (pc := 8) C 0 dX3_takeNumber_8 rfl rfl ?_
    refine wp_iconst (v := 2) (pc := 9) C dX3_takeNumber_9 (by decide) ?_
    obtain ⟨S4, r5, cS4, h⟩ := bd_some h
    refine wp_callVi (As := [.int 2]) (st := []) (pc := 10) C (CtX3_refuse cS4) mX3_refuse iX3_refuse kX3_90 (Nat.le_of_ble_eq_true rfl) rfl (by decide) rfl rfl rfl rfl (Nat.le_of_ble_eq_true rfl) ⟨Nat.le_of_ble_eq_true rfl, Nat.le_of_ble_eq_true rfl⟩ dX3_takeNumber_10 ?_
    obtain ⟨g6, h⟩ := gd_some h
    exact rt_z C g6 rfl h dX3_takeNumber_13
theorem CtX3_takeNumber {n : Nat} {S S' : St} {r : Int32} {x1 : Int32} {x2 : Int32} (h : fX3_takeNumber n S x1 x2 = some (S', r)) : Ct l sdX cy ad D yX3_takeNumber cX3_takeNumber 3 (some .boolean) 1 21 [.ref (ad 151), .int x1, .int x2] S (some (.int r)) S' :=
  Ct_of (own := RX3) mX3_takeNumber rfl (Nat.le_of_ble_eq_true rfl) (fun G e1 e2 e3 e4 C => by subst e1 e2 e3 e4; exact wX3_takeNumber C h)
def fX3_readAlike (n : Nat) (S : St) : Option (St × Int32) :=
  bd (fX3_openOnce n S) (fun S1 r2 =>
  if r2 = 0 then
    some (S1, 0)
  else
    bd (fX3_takeNumber n S1 0 9999) (fun S3 r4 =>
    if r4 = 0 then
      some (S3, 0)
    else
      gd (isK sdX (S3.2.2 151 1) 0) (
      bn (sI S3 (S3.2.2 151 1) 11 (S3.1 151 6)) (fun S6 : St =>
      bd (fX3_take n S6 3) (fun S7 r8 =>
      gd (r8 = 0 ∨ r8 = 1) (
      some (S7, r8)))))))
set_option maxRecDepth 100000 in
set_option maxHeartbeats 4000000 in
theorem wX3_readAlike (C : Cx G sdX cX3_readAlike 1 RX3 (some .boolean)) {n : Nat} {S S' : St} {r : Int32} (h : fX3_readAlike n S = some (S', r)) : Wp G sdX (rmOf 2 43) 1 (Qm G sdX (some (.int r)) S') S 0 [(0, .ref (gA G 151))] [] := by
  unfold fX3_readAlike at h
  refine wp_aload_n (pc := 0) C 0 dX3_readAlike_0 rfl rfl ?_
  obtain ⟨S1, r2, cS1, h⟩ := bd_some h
  refine wp_callVi (As := []) (st := []) (pc := 1) C (CtX3_openOnce cS1) mX3_openOnce iX3_openOnce kX3_102 (Nat.le_of_ble_eq_true rfl) rfl (by decide) rfl rfl rfl rfl (Nat.le_of_ble_eq_true rfl) ⟨Nat.le_of_ble_eq_true rfl, Nat.le_of_ble_eq_true rfl⟩ dX3_readAlike_1 ?_
  refine wp_if_eq (pc := 4) C 18 dX3_readAlike_4 (by decide) (fun q => ?_) (fun q => ?_)
  · have h := it_pos q h
    refine wp_iconst (v := 0) (pc := 18) C dX3_readAlike_18 (by decide) ?_
    exact rt_z C (Or.inl rfl) rfl h dX3_readAlike_19
  · have h := it_neg q h
    refine wp_aload_n (pc := 7) C 0 dX3_readAlike_7 rfl rfl ?_
    refine wp_iconst (v := 0) (pc := 8) C dX3_readAlike_8 (by decide) ?_
    refine wp_sipush (v := 9999) (pc := 9) C dX3_readAlike_9 (by decide) ?_
    obtain ⟨S3, r4, cS3, h⟩ := bd_some h
    refine wp_callVi (As := [.int 0, .int 9999]) (st := []) (pc := 12) C (CtX3_takeNumber cS3) mX3_takeNumber iX3_takeNumber kX3_105 (Nat.le_of_ble_eq_true rfl) rfl (by decide) rfl rfl rfl rfl (Nat.le_of_ble_eq_true rfl) ⟨Nat.le_of_ble_eq_true rfl, Nat.le_of_ble_eq_true rfl⟩ dX3_readAlike_12 ?_
    refine wp_if_ne (pc := 15) C 20 dX3_readAlike_15 (by decide) (fun q => ?_) (fun q => ?_)
    · have h := it_neg q h
      refine wp_aload_n (pc := 20) C 0 dX3_readAlike_20 rfl rfl ?_
      obtain ⟨g5, h⟩ := gd_some h
      refine wp_getD (pc := 21) C flX3_9 rfl g5.1 (Nat.le_of_ble_eq_true rfl) rfl dX3_readAlike_21 ?_
      refine wp_aload_n (pc := 24) C 0 dX3_readAlike_24 rfl rfl ?_
      refine wp_getI (pc := 25) C flX3_109 rfl (Nat.le_of_ble_eq_true rfl) rfl dX3_readAlike_25 ?_
      obtain ⟨S6, eS6, h⟩ := bn_some h
      refine wp_putI (pc := 28) C eS6 flX3_124 fpX0_11 rfl g5.1 g5.2 dX3_readAlike_28 ?_
      refine wp_aload_n (pc := 31) C 0 dX3_readAlike_31 rfl rfl ?_
      refine wp_iconst (v := 3) (pc := 32) C dX3_readAlike_32 (by decide) ?_
      obtain ⟨S7, r8, cS7, h⟩ := bd_some h
      refine wp_callVi (As := [.int 3]) (st := []) (pc := 33) C (CtX3_take cS7) mX3_take iX3_take kX3_115 (Nat.le_of_ble_eq_true rfl) rfl (by decide) rfl rfl rfl rfl (Nat.le_of_ble_eq_true rfl) ⟨Nat.le_of_ble_eq_true rfl, Nat.le_of_ble_eq_true rfl⟩ dX3_readAlike_33 ?_
      obtain ⟨g9, h⟩ := gd_some h
      exact rt_z C g9 rfl h dX3_readAlike_36
    · have h := it_pos q h
      refine wp_iconst (v := 0) (pc := 18) C dX3_readAlike_18 (by decide) ?_
      exact rt_z C (Or.inl rfl) rfl h dX3_readAlike_19
theorem CtX3_readAlike {n : Nat} {S S' : St} {r : Int32} (h : fX3_readAlike n S = some (S', r)) : Ct l sdX cy ad D yX3_readAlike cX3_readAlike 1 (some .boolean) 2 43 [.ref (ad 151)] S (some (.int r)) S' :=
  Ct_of (own := RX3) mX3_readAlike rfl (Nat.le_of_ble_eq_true rfl) (fun G e1 e2 e3 e4 C => by subst e1 e2 e3 e4; exact wX3_readAlike C h)
def fX3_readBands_j73 (n : Nat) (S : St) : Option (St × Int32) :=
  bd (fX3_refuse n S 2) (fun S1 r2 =>
  gd (r2 = 0 ∨ r2 = 1) (
  some (S1, r2)))
set_option maxRecDepth 100000 in
set_option maxHeartbeats 4000000 in
theorem wX3_readBands_j73 (C : Cx G sdX cX3_readBands 2 RX3 (some .boolean)) {n : Nat} {S S' : St} {r : Int32} (h : fX3_readBands_j73 n S = some (S', r)) : Wp G sdX (rmOf 2 43) 2 (Qm G sdX (some (.int r)) S') S 73 [(0, .ref (gA G 151))] [] := by
  unfold fX3_readBands_j73 at h
  refine wp_aload_n (pc := 73) C 0 dX3_readBands_73 rfl rfl ?_
  refine wp_iconst (v := 2) (pc := 74) C dX3_readBands_74 (by decide) ?_
  obtain ⟨S1, r2, cS1, h⟩ := bd_some h
  refine wp_callVi (As := [.int 2]) (st := []) (pc := 75) C (CtX3_refuse cS1) mX3_refuse iX3_refuse kX3_90 (Nat.le_of_ble_eq_true rfl) rfl (by decide) rfl rfl rfl rfl (Nat.le_of_ble_eq_true rfl) ⟨Nat.le_of_ble_eq_true rfl, Nat.le_of_ble_eq_true rfl⟩ dX3_readBands_75 ?_
  obtain ⟨g3, h⟩ := gd_some h
  exact rt_z C g3 rfl h dX3_readBands_78
def fX3_readBands_j51 (n : Nat) (S : St) (y0 : Int32) : Option (St × Int32) :=
  if y0 = 0 then
    bd (fX3_openOnce n S) (fun S1 r2 =>
    if r2 = 0 then
      fX3_readBands_j73 n S1
    else
      bd (fX3_takeNumber n S1 1 16) (fun S3 r4 =>
      if r4 = 0 then
        fX3_readBands_j73 n S3
      else
        gd (isK sdX (S3.2.2 151 1) 0) (
        bn (sI S3 (S3.2.2 151 1) 9 (S3.1 151 6)) (fun S6 : St =>
        bd (fX3_take n S6 3) (fun S7 r8 =>
        gd (r8 = 0 ∨ r8 = 1) (
        some (S7, r8)))))))
  else
    fX3_readBands_j73 n S
set_option maxRecDepth 100000 in
set_option maxHeartbeats 4000000 in
theorem wX3_readBands_j51 (C : Cx G sdX cX3_readBands 2 RX3 (some .boolean)) {n : Nat} {S S' : St} {r : Int32} {y0 : Int32} (h : fX3_readBands_j51 n S y0 = some (S', r)) : Wp G sdX (rmOf 2 43) 2 (Qm G sdX (some (.int r)) S') S 51 [(0, .ref (gA G 151))] [.int y0] := by
  unfold fX3_readBands_j51 at h
  refine wp_istore_n (pc := 51) C rfl [(1, .int y0), (0, .ref (gA G 151))] dX3_readBands_51 rfl (Nat.le_of_ble_eq_true rfl) rfl ?_
  refine wp_iload_n (pc := 52) C 0 dX3_readBands_52 rfl rfl ?_
  refine wp_if_ne (pc := 53) C 73 dX3_readBands_53 (by decide) (fun q => ?_) (fun q => ?_)
  · have h := it_neg q h
    exact wp_sub C [1] rfl (wX3_readBands_j73 C h)
  · have h := it_pos q h
    refine wp_aload_n (pc := 56) C 1 dX3_readBands_56 rfl rfl ?_
    obtain ⟨S1, r2, cS1, h⟩ := bd_some h
    refine wp_callVi (As := []) (st := []) (pc := 57) C (CtX3_openOnce cS1) mX3_openOnce iX3_openOnce kX3_102 (Nat.le_of_ble_eq_true rfl) rfl (by decide) rfl rfl rfl rfl (Nat.le_of_ble_eq_true rfl) ⟨Nat.le_of_ble_eq_true rfl, Nat.le_of_ble_eq_true rfl⟩ dX3_readBands_57 ?_
    refine wp_if_eq (pc := 60) C 73 dX3_readBands_60 (by decide) (fun q => ?_) (fun q => ?_)
    · have h := it_pos q h
      exact wp_sub C [1] rfl (wX3_readBands_j73 C h)
    · have h := it_neg q h
      refine wp_aload_n (pc := 63) C 1 dX3_readBands_63 rfl rfl ?_
      refine wp_iconst (v := 1) (pc := 64) C dX3_readBands_64 (by decide) ?_
      refine wp_bipush (v := 16) (pc := 65) C dX3_readBands_65 (by decide) ?_
      obtain ⟨S3, r4, cS3, h⟩ := bd_some h
      refine wp_callVi (As := [.int 1, .int 16]) (st := []) (pc := 67) C (CtX3_takeNumber cS3) mX3_takeNumber iX3_takeNumber kX3_105 (Nat.le_of_ble_eq_true rfl) rfl (by decide) rfl rfl rfl rfl (Nat.le_of_ble_eq_true rfl) ⟨Nat.le_of_ble_eq_true rfl, Nat.le_of_ble_eq_true rfl⟩ dX3_readBands_67 ?_
      refine wp_if_ne (pc := 70) C 79 dX3_readBands_70 (by decide) (fun q => ?_) (fun q => ?_)
      · have h := it_neg q h
        refine wp_aload_n (pc := 79) C 1 dX3_readBands_79 rfl rfl ?_
        obtain ⟨g5, h⟩ := gd_some h
        refine wp_getD (pc := 80) C flX3_9 rfl g5.1 (Nat.le_of_ble_eq_true rfl) rfl dX3_readBands_80 ?_
        refine wp_aload_n (pc := 83) C 1 dX3_readBands_83 rfl rfl ?_
        refine wp_getI (pc := 84) C flX3_109 rfl (Nat.le_of_ble_eq_true rfl) rfl dX3_readBands_84 ?_
        obtain ⟨S6, eS6, h⟩ := bn_some h
        refine wp_putI (pc := 87) C eS6 flX3_112 fpX0_9 rfl g5.1 g5.2 dX3_readBands_87 ?_
        refine wp_aload_n (pc := 90) C 1 dX3_readBands_90 rfl rfl ?_
        refine wp_iconst (v := 3) (pc := 91) C dX3_readBands_91 (by decide) ?_
        obtain ⟨S7, r8, cS7, h⟩ := bd_some h
        refine wp_callVi (As := [.int 3]) (st := []) (pc := 92) C (CtX3_take cS7) mX3_take iX3_take kX3_115 (Nat.le_of_ble_eq_true rfl) rfl (by decide) rfl rfl rfl rfl (Nat.le_of_ble_eq_true rfl) ⟨Nat.le_of_ble_eq_true rfl, Nat.le_of_ble_eq_true rfl⟩ dX3_readBands_92 ?_
        obtain ⟨g9, h⟩ := gd_some h
        exact rt_z C g9 rfl h dX3_readBands_95
      · have h := it_pos q h
        exact wp_sub C [1] rfl (wX3_readBands_j73 C h)
def fX3_readBands (n : Nat) (S : St) : Option (St × Int32) :=
  gd (isK sdX (S.2.2 151 1) 0) (
  gd (isK sdX (srX (S.2.2 151 1) 0) 5) (
  gd (isK sdX (srX (S.2.2 151 1) 1) 5) (
  gd (isK sdX (srX (S.2.2 151 1) 2) 5) (
  gd (isK sdX (srX (S.2.2 151 1) 3) 5) (
  if ((((S.1 (srX (S.2.2 151 1) 0) 3) + (S.1 (srX (S.2.2 151 1) 1) 3)) + (S.1 (srX (S.2.2 151 1) 2) 3)) + (S.1 (srX (S.2.2 151 1) 3) 3)) ≤ 0 then
    fX3_readBands_j51 n S 0
  else
    fX3_readBands_j51 n S 1)))))
set_option maxRecDepth 100000 in
set_option maxHeartbeats 4000000 in
theorem wX3_readBands (C : Cx G sdX cX3_readBands 2 RX3 (some .boolean)) {n : Nat} {S S' : St} {r : Int32} (h : fX3_readBands n S = some (S', r)) : Wp G sdX (rmOf 2 43) 2 (Qm G sdX (some (.int r)) S') S 0 [(0, .ref (gA G 151))] [] := by
  unfold fX3_readBands at h
  refine wp_aload_n (pc := 0) C 0 dX3_readBands_0 rfl rfl ?_
  obtain ⟨g1, h⟩ := gd_some h
  refine wp_getD (pc := 1) C flX3_9 rfl g1.1 (Nat.le_of_ble_eq_true rfl) rfl dX3_readBands_1 ?_
  obtain ⟨g2, h⟩ := gd_some h
  refine wp_getS (v := srX (S.2.2 151 1) 0) (pc := 4) C flX3_94 rfl rfl g2.1 g1.1 g1.2 dX3_readBands_4 ?_
  refine wp_getI (pc := 7) C flX3_97 rfl g2.1 g2.2 dX3_readBands_7 ?_
  refine wp_aload_n (pc := 10) C 0 dX3_readBands_10 rfl rfl ?_
  refine wp_getD (pc := 11) C flX3_9 rfl g1.1 (Nat.le_of_ble_eq_true rfl) rfl dX3_readBands_11 ?_
  obtain ⟨g3, h⟩ := gd_some h
  refine wp_getS (v := srX (S.2.2 151 1) 1) (pc := 14) C flX3_73 rfl rfl g3.1 g1.1 g1.2 dX3_readBands_14 ?_
  refine wp_getI (pc := 17) C flX3_97 rfl g3.1 g3.2 dX3_readBands_17 ?_
  refine wp_iadd (pc := 20) C dX3_readBands_20 ?_
  refine wp_aload_n (pc := 21) C 0 dX3_readBands_21 rfl rfl ?_
  refine wp_getD (pc := 22) C flX3_9 rfl g1.1 (Nat.le_of_ble_eq_true rfl) rfl dX3_readBands_22 ?_
  obtain ⟨g4, h⟩ := gd_some h
  refine wp_getS (v := srX (S.2.2 151 1) 2) (pc := 25) C flX3_81 rfl rfl g4.1 g1.1 g1.2 dX3_readBands_25 ?_
  refine wp_getI (pc := 28) C flX3_97 rfl g4.1 g4.2 dX3_readBands_28 ?_
  refine wp_iadd (pc := 31) C dX3_readBands_31 ?_
  refine wp_aload_n (pc := 32) C 0 dX3_readBands_32 rfl rfl ?_
  refine wp_getD (pc := 33) C flX3_9 rfl g1.1 (Nat.le_of_ble_eq_true rfl) rfl dX3_readBands_33 ?_
  obtain ⟨g5, h⟩ := gd_some h
  refine wp_getS (v := srX (S.2.2 151 1) 3) (pc := 36) C flX3_84 rfl rfl g5.1 g1.1 g1.2 dX3_readBands_36 ?_
  refine wp_getI (pc := 39) C flX3_97 rfl g5.1 g5.2 dX3_readBands_39 ?_
  refine wp_iadd (pc := 42) C dX3_readBands_42 ?_
  refine wp_if_le (pc := 43) C 50 dX3_readBands_43 (by decide) (fun q => ?_) (fun q => ?_)
  · have h := it_pos q h
    refine wp_iconst (v := 0) (pc := 50) C dX3_readBands_50 (by decide) ?_
    exact (wX3_readBands_j51 C h)
  · have h := it_neg q h
    refine wp_iconst (v := 1) (pc := 46) C dX3_readBands_46 (by decide) ?_
    refine wp_goto (pc := 47) C 51 dX3_readBands_47 (by decide) ?_
    exact (wX3_readBands_j51 C h)
theorem CtX3_readBands {n : Nat} {S S' : St} {r : Int32} (h : fX3_readBands n S = some (S', r)) : Ct l sdX cy ad D yX3_readBands cX3_readBands 2 (some .boolean) 2 43 [.ref (ad 151)] S (some (.int r)) S' :=
  Ct_of (own := RX3) mX3_readBands rfl (Nat.le_of_ble_eq_true rfl) (fun G e1 e2 e3 e4 C => by subst e1 e2 e3 e4; exact wX3_readBands C h)
def fX5_find_l2 (sd : Sd) (n : Nat) : Nat → St → Nat → Int64 → Int32 → Option (St × Int32)
  | 0, _, _, _, _ => none
  | j + 1, S, a0, x1, x3 =>
    gd (isK sd a0 5) (
    if (S.1 a0 3) ≤ x3 then
      some (S, (-1))
    else
      gd (isK sd (sd.2.2.2 a0 1) 14) (
      gd (ib x3 (sd.2.2.1 (sd.2.2.2 a0 1))) (
      if (lg_cmp (S.2.1 (sd.2.2.2 a0 1) (Int32.toNatClampNeg x3)) x1) = 0 then
        some (S, x3)
      else
        bn (x3 + 1) (fun z4 : Int32 =>
        fX5_find_l2 sd n j S a0 x1 z4))))
set_option maxRecDepth 100000 in
set_option maxHeartbeats 4000000 in
theorem wX5_find_l2 {sd : Sd} (C : Cx G sd cX5_find 4 RX5 (some .int)) {n : Nat} {S' : St} {r : Int32} : ∀ (j : Nat) (S : St) (a0 : Nat) (x1 : Int64) (x3 : Int32), fX5_find_l2 sd n j S a0 x1 x3 = some (S', r) → Wp G sd (rmOf 0 0) 4 (Qm G sd (some (.int r)) S') S 2 [(0, .ref (gA G a0)), (1, .long x1), (3, .int x3)] [] := by
  intro j
  induction j with
  | zero =>
    intro S a0 x1 x3 h
    exact nomatch (show (none : Option (St × Int32)) = some _ from h)
  | succ j ih =>
    intro S a0 x1 x3 h
    rw [fX5_find_l2] at h
    refine wp_iload_n (pc := 2) C 2 dX5_find_2 rfl rfl ?_
    refine wp_aload_n (pc := 3) C 0 dX5_find_3 rfl rfl ?_
    obtain ⟨g1, h⟩ := gd_some h
    refine wp_getI (pc := 4) C flX5_24 rfl g1.1 g1.2 dX5_find_4 ?_
    refine wp_icmp_ge (pc := 7) C 29 dX5_find_7 (by decide) (fun q => ?_) (fun q => ?_)
    · have h := it_pos q h
      refine wp_iconst (v := (-1)) (pc := 29) C dX5_find_29 (by decide) ?_
      exact rt_i C rfl h dX5_find_30
    · have h := it_neg q h
      refine wp_aload_n (pc := 10) C 0 dX5_find_10 rfl rfl ?_
      obtain ⟨g2, h⟩ := gd_some h
      refine wp_getS (v := sd.2.2.2 a0 1) (pc := 11) C flX5_15 rfl rfl g2.1 g1.1 g1.2 dX5_find_11 ?_
      refine wp_iload_n (pc := 14) C 2 dX5_find_14 rfl rfl ?_
      obtain ⟨g3, h⟩ := gd_some h
      refine wp_lald (pc := 15) C g2.1 g2.2 g3 dX5_find_15 ?_
      refine wp_lload_n (pc := 16) C 1 dX5_find_16 rfl rfl ?_
      refine wp_lcmp (pc := 17) C dX5_find_17 ?_
      refine wp_if_ne (pc := 18) C 23 dX5_find_18 (by decide) (fun q => ?_) (fun q => ?_)
      · have h := it_neg q h
        obtain ⟨z4, ez4, h⟩ := bn_some h
        refine wp_iinc (q := 2) (pc := 23) C (by decide) ez4 [(3, .int z4), (0, .ref (gA G a0)), (1, .long x1)] dX5_find_23 rfl (Nat.le_of_ble_eq_true rfl) rfl ?_
        refine wp_goto (pc := 26) C 2 dX5_find_26 (by decide) ?_
        exact wp_sub C [1, 2, 0] rfl (ih _ _ _ _ h)
      · have h := it_pos q h
        refine wp_iload_n (pc := 21) C 2 dX5_find_21 rfl rfl ?_
        exact rt_i C rfl h dX5_find_22
def fX5_find (sd : Sd) (n : Nat) (S : St) (a0 : Nat) (x1 : Int64) : Option (St × Int32) :=
  fX5_find_l2 sd n n S a0 x1 0
set_option maxRecDepth 100000 in
set_option maxHeartbeats 4000000 in
theorem wX5_find {sd : Sd} (C : Cx G sd cX5_find 4 RX5 (some .int)) {n : Nat} {S S' : St} {r : Int32} {a0 : Nat} {x1 : Int64} (h : fX5_find sd n S a0 x1 = some (S', r)) : Wp G sd (rmOf 0 0) 4 (Qm G sd (some (.int r)) S') S 0 [(0, .ref (gA G a0)), (1, .long x1)] [] := by
  unfold fX5_find at h
  refine wp_iconst (v := 0) (pc := 0) C dX5_find_0 (by decide) ?_
  refine wp_istore_n (pc := 1) C rfl [(3, .int 0), (0, .ref (gA G a0)), (1, .long x1)] dX5_find_1 rfl (Nat.le_of_ble_eq_true rfl) rfl ?_
  exact wp_sub C [1, 2, 0] rfl (wX5_find_l2 C _ _ _ _ _ h)
theorem CtX5_find {sd : Sd} {n : Nat} {S S' : St} {r : Int32} {a0 : Nat} {x1 : Int64} (h : fX5_find sd n S a0 x1 = some (S', r)) : Ct l sd cy ad D yX5_find cX5_find 4 (some .int) 0 0 [.ref (ad a0), .long x1] S (some (.int r)) S' :=
  Ct_of (own := RX5) mX5_find rfl (Nat.le_of_ble_eq_true rfl) (fun G e1 e2 e3 e4 C => by subst e1 e2 e3 e4; exact wX5_find C h)
def fX5_isFull (sd : Sd) (n : Nat) (S : St) (a0 : Nat) : Option (St × Int32) :=
  gd (isK sd a0 5) (
  if (S.1 a0 3) < (S.1 a0 0) then
    some (S, 0)
  else
    some (S, 1))
set_option maxRecDepth 100000 in
set_option maxHeartbeats 4000000 in
theorem wX5_isFull {sd : Sd} (C : Cx G sd cX5_isFull 1 RX5 (some .boolean)) {n : Nat} {S S' : St} {r : Int32} {a0 : Nat} (h : fX5_isFull sd n S a0 = some (S', r)) : Wp G sd (rmOf 0 0) 1 (Qm G sd (some (.int r)) S') S 0 [(0, .ref (gA G a0))] [] := by
  unfold fX5_isFull at h
  refine wp_aload_n (pc := 0) C 0 dX5_isFull_0 rfl rfl ?_
  obtain ⟨g1, h⟩ := gd_some h
  refine wp_getI (pc := 1) C flX5_24 rfl g1.1 g1.2 dX5_isFull_1 ?_
  refine wp_aload_n (pc := 4) C 0 dX5_isFull_4 rfl rfl ?_
  refine wp_getI (pc := 5) C flX5_9 rfl g1.1 g1.2 dX5_isFull_5 ?_
  refine wp_icmp_lt (pc := 8) C 15 dX5_isFull_8 (by decide) (fun q => ?_) (fun q => ?_)
  · have h := it_pos q h
    refine wp_iconst (v := 0) (pc := 15) C dX5_isFull_15 (by decide) ?_
    exact rt_z C (Or.inl rfl) rfl h dX5_isFull_16
  · have h := it_neg q h
    refine wp_iconst (v := 1) (pc := 11) C dX5_isFull_11 (by decide) ?_
    refine wp_goto (pc := 12) C 16 dX5_isFull_12 (by decide) ?_
    exact rt_z C (Or.inr rfl) rfl h dX5_isFull_16
theorem CtX5_isFull {sd : Sd} {n : Nat} {S S' : St} {r : Int32} {a0 : Nat} (h : fX5_isFull sd n S a0 = some (S', r)) : Ct l sd cy ad D yX5_isFull cX5_isFull 1 (some .boolean) 0 0 [.ref (ad a0)] S (some (.int r)) S' :=
  Ct_of (own := RX5) mX5_isFull rfl (Nat.le_of_ble_eq_true rfl) (fun G e1 e2 e3 e4 C => by subst e1 e2 e3 e4; exact wX5_isFull C h)
def fX3_openThing_j49 (n : Nat) (S : St) (a1 : Nat) : Option (St × Int32) :=
  gd (isK sdX a1 5) (
  gd (isK sdX (srX a1 1) 14) (
  gd (ib (S.1 a1 3) (sdX.2.2.1 (srX a1 1))) (
  bn (sL S (srX a1 1) (Int32.toNatClampNeg (S.1 a1 3)) (S.2.1 151 4)) (fun S4 : St =>
  bd (fX3_take n S4 4) (fun S5 r6 =>
  gd (r6 = 0 ∨ r6 = 1) (
  some (S5, r6)))))))
set_option maxRecDepth 100000 in
set_option maxHeartbeats 4000000 in
theorem wX3_openThing_j49 (C : Cx G sdX cX3_openThing 2 RX3 (some .boolean)) {n : Nat} {S S' : St} {r : Int32} {a1 : Nat} (h : fX3_openThing_j49 n S a1 = some (S', r)) : Wp G sdX (rmOf 2 42) 2 (Qm G sdX (some (.int r)) S') S 49 [(0, .ref (gA G 151)), (1, .ref (gA G a1))] [] := by
  unfold fX3_openThing_j49 at h
  refine wp_aload_n (pc := 49) C 1 dX3_openThing_49 rfl rfl ?_
  obtain ⟨g1, h⟩ := gd_some h
  obtain ⟨g2, h⟩ := gd_some h
  refine wp_getS (v := srX a1 1) (pc := 50) C flX3_172 rfl rfl g2.1 g1.1 g1.2 dX3_openThing_50 ?_
  refine wp_aload_n (pc := 53) C 1 dX3_openThing_53 rfl rfl ?_
  refine wp_getI (pc := 54) C flX3_97 rfl g1.1 g1.2 dX3_openThing_54 ?_
  refine wp_aload_n (pc := 57) C 0 dX3_openThing_57 rfl rfl ?_
  refine wp_getL (pc := 58) C flX3_155 rfl (Nat.le_of_ble_eq_true rfl) rfl dX3_openThing_58 ?_
  obtain ⟨g3, h⟩ := gd_some h
  obtain ⟨S4, eS4, h⟩ := bn_some h
  refine wp_last (pc := 61) C eS4 g2.1 g2.2 g3 dX3_openThing_61 ?_
  refine wp_aload_n (pc := 62) C 0 dX3_openThing_62 rfl rfl ?_
  refine wp_iconst (v := 4) (pc := 63) C dX3_openThing_63 (by decide) ?_
  obtain ⟨S5, r6, cS5, h⟩ := bd_some h
  refine wp_callVi (As := [.int 4]) (st := []) (pc := 64) C (CtX3_take cS5) mX3_take iX3_take kX3_115 (Nat.le_of_ble_eq_true rfl) rfl (by decide) rfl rfl rfl rfl (Nat.le_of_ble_eq_true rfl) ⟨Nat.le_of_ble_eq_true rfl, Nat.le_of_ble_eq_true rfl⟩ dX3_openThing_64 ?_
  obtain ⟨g7, h⟩ := gd_some h
  exact rt_z C g7 rfl h dX3_openThing_67
def fX3_openThing (n : Nat) (S : St) (a1 : Nat) : Option (St × Int32) :=
  gd (isK sdX a1 5) (
  bd (fX5_isFull sdX n S a1) (fun S2 r3 =>
  if r3 = 0 then
    bd (fX3_moveTo n S2 ((S2.1 151 2) + 1)) (fun S4 r5 =>
    if (S4.1 151 3) = 4 then
      bd (fX5_find sdX n S4 a1 (S4.2.1 151 4)) (fun S6 r7 =>
      if r7 = (-1) then
        fX3_openThing_j49 n S6 a1
      else
        bd (fX3_refuse n S6 3) (fun S8 r9 =>
        gd (r9 = 0 ∨ r9 = 1) (
        some (S8, r9))))
    else
      fX3_openThing_j49 n S4 a1)
  else
    bd (fX3_refuse n S2 2) (fun S11 r12 =>
    gd (r12 = 0 ∨ r12 = 1) (
    some (S11, r12)))))
set_option maxRecDepth 100000 in
set_option maxHeartbeats 4000000 in
theorem wX3_openThing (C : Cx G sdX cX3_openThing 2 RX3 (some .boolean)) {n : Nat} {S S' : St} {r : Int32} {a1 : Nat} (h : fX3_openThing n S a1 = some (S', r)) : Wp G sdX (rmOf 2 42) 2 (Qm G sdX (some (.int r)) S') S 0 [(0, .ref (gA G 151)), (1, .ref (gA G a1))] [] := by
  unfold fX3_openThing at h
  refine wp_aload_n (pc := 0) C 1 dX3_openThing_0 rfl rfl ?_
  obtain ⟨g1, h⟩ := gd_some h
  obtain ⟨S2, r3, cS2, h⟩ := bd_some h
  refine wp_callVi (As := []) (st := []) (pc := 1) C (CtX5_isFull cS2) mX5_isFull iX5_isFull kX3_169 g1.1 g1.2 (by decide) rfl rfl rfl rfl (Nat.le_of_ble_eq_true rfl) ⟨Nat.le_of_ble_eq_true rfl, Nat.le_of_ble_eq_true rfl⟩ dX3_openThing_1 ?_
  refine wp_if_eq (pc := 4) C 13 dX3_openThing_4 (by decide) (fun q => ?_) (fun q => ?_)
  · have h := it_pos q h
    refine wp_aload_n (pc := 13) C 0 dX3_openThing_13 rfl rfl ?_
    refine wp_aload_n (pc := 14) C 0 dX3_openThing_14 rfl rfl ?_
    refine wp_getI (pc := 15) C flX3_166 rfl (Nat.le_of_ble_eq_true rfl) rfl dX3_openThing_15 ?_
    refine wp_iconst (v := 1) (pc := 18) C dX3_openThing_18 (by decide) ?_
    refine wp_iadd (pc := 19) C dX3_openThing_19 ?_
    obtain ⟨S4, r5, cS4, h⟩ := bd_some h
    refine wp_callVv (As := [.int ((S2.1 151 2) + 1)]) (st := []) (pc := 20) C (CtX3_moveTo cS4) mX3_moveTo iX3_moveTo kX3_38 (Nat.le_of_ble_eq_true rfl) rfl (by decide) rfl rfl rfl rfl (Nat.le_of_ble_eq_true rfl) ⟨Nat.le_of_ble_eq_true rfl, Nat.le_of_ble_eq_true rfl⟩ dX3_openThing_20 ?_
    refine wp_aload_n (pc := 23) C 0 dX3_openThing_23 rfl rfl ?_
    refine wp_getI (pc := 24) C flX3_45 rfl (Nat.le_of_ble_eq_true rfl) rfl dX3_openThing_24 ?_
    refine wp_iconst (v := 4) (pc := 27) C dX3_openThing_27 (by decide) ?_
    refine wp_icmp_ne (pc := 28) C 49 dX3_openThing_28 (by decide) (fun q => ?_) (fun q => ?_)
    · have h := it_neg q h
      exact (wX3_openThing_j49 C h)
    · have h := it_pos q h
      refine wp_aload_n (pc := 31) C 1 dX3_openThing_31 rfl rfl ?_
      refine wp_aload_n (pc := 32) C 0 dX3_openThing_32 rfl rfl ?_
      refine wp_getL (pc := 33) C flX3_155 rfl (Nat.le_of_ble_eq_true rfl) rfl dX3_openThing_33 ?_
      obtain ⟨S6, r7, cS6, h⟩ := bd_some h
      refine wp_callVi (As := [.long (S4.2.1 151 4)]) (st := []) (pc := 36) C (CtX5_find cS6) mX5_find iX5_find kX3_159 g1.1 g1.2 (by decide) rfl rfl rfl rfl (Nat.le_of_ble_eq_true rfl) ⟨Nat.le_of_ble_eq_true rfl, Nat.le_of_ble_eq_true rfl⟩ dX3_openThing_36 ?_
      refine wp_iconst (v := (-1)) (pc := 39) C dX3_openThing_39 (by decide) ?_
      refine wp_icmp_eq (pc := 40) C 49 dX3_openThing_40 (by decide) (fun q => ?_) (fun q => ?_)
      · have h := it_pos q h
        exact (wX3_openThing_j49 C h)
      · have h := it_neg q h
        refine wp_aload_n (pc := 43) C 0 dX3_openThing_43 rfl rfl ?_
        refine wp_iconst (v := 3) (pc := 44) C dX3_openThing_44 (by decide) ?_
        obtain ⟨S8, r9, cS8, h⟩ := bd_some h
        refine wp_callVi (As := [.int 3]) (st := []) (pc := 45) C (CtX3_refuse cS8) mX3_refuse iX3_refuse kX3_90 (Nat.le_of_ble_eq_true rfl) rfl (by decide) rfl rfl rfl rfl (Nat.le_of_ble_eq_true rfl) ⟨Nat.le_of_ble_eq_true rfl, Nat.le_of_ble_eq_true rfl⟩ dX3_openThing_45 ?_
        obtain ⟨g10, h⟩ := gd_some h
        exact rt_z C g10 rfl h dX3_openThing_48
  · have h := it_neg q h
    refine wp_aload_n (pc := 7) C 0 dX3_openThing_7 rfl rfl ?_
    refine wp_iconst (v := 2) (pc := 8) C dX3_openThing_8 (by decide) ?_
    obtain ⟨S11, r12, cS11, h⟩ := bd_some h
    refine wp_callVi (As := [.int 2]) (st := []) (pc := 9) C (CtX3_refuse cS11) mX3_refuse iX3_refuse kX3_90 (Nat.le_of_ble_eq_true rfl) rfl (by decide) rfl rfl rfl rfl (Nat.le_of_ble_eq_true rfl) ⟨Nat.le_of_ble_eq_true rfl, Nat.le_of_ble_eq_true rfl⟩ dX3_openThing_9 ?_
    obtain ⟨g13, h⟩ := gd_some h
    exact rt_z C g13 rfl h dX3_openThing_12
theorem CtX3_openThing {n : Nat} {S S' : St} {r : Int32} {a1 : Nat} (h : fX3_openThing n S a1 = some (S', r)) : Ct l sdX cy ad D yX3_openThing cX3_openThing 2 (some .boolean) 2 42 [.ref (ad 151), .ref (ad a1)] S (some (.int r)) S' :=
  Ct_of (own := RX3) mX3_openThing rfl (Nat.le_of_ble_eq_true rfl) (fun G e1 e2 e3 e4 C => by subst e1 e2 e3 e4; exact wX3_openThing C h)
def fX3_takeRow_j56 (n : Nat) (S : St) (a1 : Nat) : Option (St × Int32) :=
  gd (isK sdX a1 5) (
  bn (sI S a1 3 ((S.1 a1 3) + 1)) (fun S2 : St =>
  bd (fX3_take n S2 3) (fun S3 r4 =>
  gd (r4 = 0 ∨ r4 = 1) (
  some (S3, r4)))))
set_option maxRecDepth 100000 in
set_option maxHeartbeats 4000000 in
theorem wX3_takeRow_j56 (C : Cx G sdX cX3_takeRow 4 RX3 (some .boolean)) {n : Nat} {S S' : St} {r : Int32} {a1 : Nat} (h : fX3_takeRow_j56 n S a1 = some (S', r)) : Wp G sdX (rmOf 2 43) 4 (Qm G sdX (some (.int r)) S') S 56 [(0, .ref (gA G 151)), (1, .ref (gA G a1))] [] := by
  unfold fX3_takeRow_j56 at h
  refine wp_aload_n (pc := 56) C 1 dX3_takeRow_56 rfl rfl ?_
  refine wp_dup (pc := 57) C dX3_takeRow_57 rfl ?_
  obtain ⟨g1, h⟩ := gd_some h
  refine wp_getI (pc := 58) C flX3_97 rfl g1.1 g1.2 dX3_takeRow_58 ?_
  refine wp_iconst (v := 1) (pc := 61) C dX3_takeRow_61 (by decide) ?_
  refine wp_iadd (pc := 62) C dX3_takeRow_62 ?_
  obtain ⟨S2, eS2, h⟩ := bn_some h
  refine wp_putI (pc := 63) C eS2 flX3_97 fpX5_3 rfl g1.1 g1.2 dX3_takeRow_63 ?_
  refine wp_aload_n (pc := 66) C 0 dX3_takeRow_66 rfl rfl ?_
  refine wp_iconst (v := 3) (pc := 67) C dX3_takeRow_67 (by decide) ?_
  obtain ⟨S3, r4, cS3, h⟩ := bd_some h
  refine wp_callVi (As := [.int 3]) (st := []) (pc := 68) C (CtX3_take cS3) mX3_take iX3_take kX3_115 (Nat.le_of_ble_eq_true rfl) rfl (by decide) rfl rfl rfl rfl (Nat.le_of_ble_eq_true rfl) ⟨Nat.le_of_ble_eq_true rfl, Nat.le_of_ble_eq_true rfl⟩ dX3_takeRow_68 ?_
  obtain ⟨g5, h⟩ := gd_some h
  exact rt_z C g5 rfl h dX3_takeRow_71
def fX3_takeRow_l13 (n : Nat) : Nat → St → Nat → Int32 → Int32 → Option (St × Int32)
  | 0, _, _, _, _ => none
  | j + 1, S, a1, x2, x3 =>
    gd (isK sdX (S.2.2 151 1) 0) (
    if (S.1 (S.2.2 151 1) 9) ≤ x3 then
      fX3_takeRow_j56 n S a1
    else
      bd (fX3_takeNumber n S 0 x2) (fun S2 r3 =>
      if r3 = 0 then
        some (S2, 0)
      else
        gd (isK sdX a1 5) (
        gd (isK sdX (srX a1 2) 17) (
        gd (ib (S2.1 a1 3) (sdX.2.2.1 (srX a1 2))) (
        gd (isK sdX (srX (srX a1 2) (Int32.toNatClampNeg (S2.1 a1 3))) 13) (
        gd (ib x3 (sdX.2.2.1 (srX (srX a1 2) (Int32.toNatClampNeg (S2.1 a1 3))))) (
        bn (sI S2 (srX (srX a1 2) (Int32.toNatClampNeg (S2.1 a1 3))) (Int32.toNatClampNeg x3) (S2.1 151 6)) (fun S9 : St =>
        bn (x3 + 1) (fun z10 : Int32 =>
        fX3_takeRow_l13 n j S9 a1 x2 z10)))))))))
set_option maxRecDepth 100000 in
set_option maxHeartbeats 4000000 in
theorem wX3_takeRow_l13 (C : Cx G sdX cX3_takeRow 4 RX3 (some .boolean)) {n : Nat} {S' : St} {r : Int32} : ∀ (j : Nat) (S : St) (a1 : Nat) (x2 : Int32) (x3 : Int32), fX3_takeRow_l13 n j S a1 x2 x3 = some (S', r) → Wp G sdX (rmOf 2 43) 4 (Qm G sdX (some (.int r)) S') S 13 [(0, .ref (gA G 151)), (1, .ref (gA G a1)), (2, .int x2), (3, .int x3)] [] := by
  intro j
  induction j with
  | zero =>
    intro S a1 x2 x3 h
    exact nomatch (show (none : Option (St × Int32)) = some _ from h)
  | succ j ih =>
    intro S a1 x2 x3 h
    rw [fX3_takeRow_l13] at h
    refine wp_iload_n (pc := 13) C 3 dX3_takeRow_13 rfl rfl ?_
    refine wp_aload_n (pc := 14) C 0 dX3_takeRow_14 rfl rfl ?_
    obtain ⟨g1, h⟩ := gd_some h
    refine wp_getD (pc := 15) C flX3_9 rfl g1.1 (Nat.le_of_ble_eq_true rfl) rfl dX3_takeRow_15 ?_
    refine wp_getI (pc := 18) C flX3_112 rfl g1.1 g1.2 dX3_takeRow_18 ?_
    refine wp_icmp_ge (pc := 21) C 56 dX3_takeRow_21 (by decide) (fun q => ?_) (fun q => ?_)
    · have h := it_pos q h
      exact wp_sub C [0, 1] rfl (wX3_takeRow_j56 C h)
    · have h := it_neg q h
      refine wp_aload_n (pc := 24) C 0 dX3_takeRow_24 rfl rfl ?_
      refine wp_iconst (v := 0) (pc := 25) C dX3_takeRow_25 (by decide) ?_
      refine wp_iload_n (pc := 26) C 2 dX3_takeRow_26 rfl rfl ?_
      obtain ⟨S2, r3, cS2, h⟩ := bd_some h
      refine wp_callVi (As := [.int 0, .int x2]) (st := []) (pc := 27) C (CtX3_takeNumber cS2) mX3_takeNumber iX3_takeNumber kX3_105 (Nat.le_of_ble_eq_true rfl) rfl (by decide) rfl rfl rfl rfl (Nat.le_of_ble_eq_true rfl) ⟨Nat.le_of_ble_eq_true rfl, Nat.le_of_ble_eq_true rfl⟩ dX3_takeRow_27 ?_
      refine wp_if_ne (pc := 30) C 35 dX3_takeRow_30 (by decide) (fun q => ?_) (fun q => ?_)
      · have h := it_neg q h
        refine wp_aload_n (pc := 35) C 1 dX3_takeRow_35 rfl rfl ?_
        obtain ⟨g4, h⟩ := gd_some h
        obtain ⟨g5, h⟩ := gd_some h
        refine wp_getS (v := srX a1 2) (pc := 36) C flX3_151 rfl rfl g5.1 g4.1 g4.2 dX3_takeRow_36 ?_
        refine wp_aload_n (pc := 39) C 1 dX3_takeRow_39 rfl rfl ?_
        refine wp_getI (pc := 40) C flX3_97 rfl g4.1 g4.2 dX3_takeRow_40 ?_
        obtain ⟨g6, h⟩ := gd_some h
        obtain ⟨g7, h⟩ := gd_some h
        refine wp_aald (t0 := 5) (pc := 43) C g5.1 g5.2 (by decide) rfl rfl g6 g7.1 dX3_takeRow_43 ?_
        refine wp_iload_n (pc := 44) C 3 dX3_takeRow_44 rfl rfl ?_
        refine wp_aload_n (pc := 45) C 0 dX3_takeRow_45 rfl rfl ?_
        refine wp_getI (pc := 46) C flX3_109 rfl (Nat.le_of_ble_eq_true rfl) rfl dX3_takeRow_46 ?_
        obtain ⟨g8, h⟩ := gd_some h
        obtain ⟨S9, eS9, h⟩ := bn_some h
        refine wp_iast (pc := 49) C eS9 g7.1 g7.2 g8 dX3_takeRow_49 ?_
        obtain ⟨z10, ez10, h⟩ := bn_some h
        refine wp_iinc (q := 3) (pc := 50) C (by decide) ez10 [(3, .int z10), (0, .ref (gA G 151)), (1, .ref (gA G a1)), (2, .int x2)] dX3_takeRow_50 rfl (Nat.le_of_ble_eq_true rfl) rfl ?_
        refine wp_goto (pc := 53) C 13 dX3_takeRow_53 (by decide) ?_
        exact wp_sub C [1, 2, 3, 0] rfl (ih _ _ _ _ h)
      · have h := it_pos q h
        refine wp_iconst (v := 0) (pc := 33) C dX3_takeRow_33 (by decide) ?_
        exact rt_z C (Or.inl rfl) rfl h dX3_takeRow_34
def fX3_takeRow (n : Nat) (S : St) (a1 : Nat) (x2 : Int32) : Option (St × Int32) :=
  bd (fX3_take n S 17) (fun S1 r2 =>
  if r2 = 0 then
    some (S1, 0)
  else
    fX3_takeRow_l13 n n S1 a1 x2 0)
set_option maxRecDepth 100000 in
set_option maxHeartbeats 4000000 in
theorem wX3_takeRow (C : Cx G sdX cX3_takeRow 4 RX3 (some .boolean)) {n : Nat} {S S' : St} {r : Int32} {a1 : Nat} {x2 : Int32} (h : fX3_takeRow n S a1 x2 = some (S', r)) : Wp G sdX (rmOf 2 43) 4 (Qm G sdX (some (.int r)) S') S 0 [(0, .ref (gA G 151)), (1, .ref (gA G a1)), (2, .int x2)] [] := by
  unfold fX3_takeRow at h
  refine wp_aload_n (pc := 0) C 0 dX3_takeRow_0 rfl rfl ?_
  refine wp_bipush (v := 17) (pc := 1) C dX3_takeRow_1 (by decide) ?_
  obtain ⟨S1, r2, cS1, h⟩ := bd_some h
  refine wp_callVi (As := [.int 17]) (st := []) (pc := 3) C (CtX3_take cS1) mX3_take iX3_take kX3_115 (Nat.le_of_ble_eq_true rfl) rfl (by decide) rfl rfl rfl rfl (Nat.le_of_ble_eq_true rfl) ⟨Nat.le_of_ble_eq_true rfl, Nat.le_of_ble_eq_true rfl⟩ dX3_takeRow_3 ?_
  refine wp_if_ne (pc := 6) C 11 dX3_takeRow_6 (by decide) (fun q => ?_) (fun q => ?_)
  · have h := it_neg q h
    refine wp_iconst (v := 0) (pc := 11) C dX3_takeRow_11 (by decide) ?_
    refine wp_istore_n (pc := 12) C rfl [(3, .int 0), (0, .ref (gA G 151)), (1, .ref (gA G a1)), (2, .int x2)] dX3_takeRow_12 rfl (Nat.le_of_ble_eq_true rfl) rfl ?_
    exact wp_sub C [1, 2, 3, 0] rfl (wX3_takeRow_l13 C _ _ _ _ _ h)
  · have h := it_pos q h
    refine wp_iconst (v := 0) (pc := 9) C dX3_takeRow_9 (by decide) ?_
    exact rt_z C (Or.inl rfl) rfl h dX3_takeRow_10
theorem CtX3_takeRow {n : Nat} {S S' : St} {r : Int32} {a1 : Nat} {x2 : Int32} (h : fX3_takeRow n S a1 x2 = some (S', r)) : Ct l sdX cy ad D yX3_takeRow cX3_takeRow 4 (some .boolean) 2 43 [.ref (ad 151), .ref (ad a1), .int x2] S (some (.int r)) S' :=
  Ct_of (own := RX3) mX3_takeRow rfl (Nat.le_of_ble_eq_true rfl) (fun G e1 e2 e3 e4 C => by subst e1 e2 e3 e4; exact wX3_takeRow C h)
end
