section
variable {G : Gx} {l : Launch} {cy : Nat → ClassId} {ad : Nat → Nat} {D : va_G}
def fX3_read_j88 (n : Nat) (S : St) : Option (St × Int32) :=
  if (S.1 151 7) = 0 then
    some (S, 1)
  else
    some (S, 0)
set_option maxRecDepth 100000 in
set_option maxHeartbeats 4000000 in
theorem wX3_read_j88 (C : Cx G sdX cX3_read 4 RX3 (some .boolean)) {n : Nat} {S S' : St} {r : Int32} (h : fX3_read_j88 n S = some (S', r)) : Wp G sdX (rmOf 5 108) 4 (Qm G sdX (some (.int r)) S') S 88 [(0, .ref (gA G 151))] [] := by
  unfold fX3_read_j88 at h
  refine wp_aload_n (pc := 88) C 0 dX3_read_88 rfl rfl ?_
  refine wp_getI (pc := 89) C flX3_22 rfl (Nat.le_of_ble_eq_true rfl) rfl dX3_read_89 ?_
  refine wp_if_ne (pc := 92) C 99 dX3_read_92 (by decide) (fun q => ?_) (fun q => ?_)
  · have h := it_neg q h
    refine wp_iconst (v := 0) (pc := 99) C dX3_read_99 (by decide) ?_
    exact rt_z C (Or.inl rfl) rfl h dX3_read_100
  · have h := it_pos q h
    refine wp_iconst (v := 1) (pc := 95) C dX3_read_95 (by decide) ?_
    refine wp_goto (pc := 96) C 100 dX3_read_96 (by decide) ?_
    exact rt_z C (Or.inr rfl) rfl h dX3_read_100
def fX3_read_j74 (n : Nat) (S : St) : Option (St × Int32) :=
  if (S.1 151 7) = 0 then
    gd (isK sdX (S.2.2 151 1) 0) (
    bd (fX0_mixLight sdX n S (S.2.2 151 1)) (fun S2 r3 =>
    fX3_read_j88 n S2))
  else
    fX3_read_j88 n S
set_option maxRecDepth 100000 in
set_option maxHeartbeats 4000000 in
theorem wX3_read_j74 (C : Cx G sdX cX3_read 4 RX3 (some .boolean)) {n : Nat} {S S' : St} {r : Int32} (h : fX3_read_j74 n S = some (S', r)) : Wp G sdX (rmOf 5 108) 4 (Qm G sdX (some (.int r)) S') S 74 [(0, .ref (gA G 151))] [] := by
  unfold fX3_read_j74 at h
  refine wp_aload_n (pc := 74) C 0 dX3_read_74 rfl rfl ?_
  refine wp_getI (pc := 75) C flX3_22 rfl (Nat.le_of_ble_eq_true rfl) rfl dX3_read_75 ?_
  refine wp_if_ne (pc := 78) C 88 dX3_read_78 (by decide) (fun q => ?_) (fun q => ?_)
  · have h := it_neg q h
    exact (wX3_read_j88 C h)
  · have h := it_pos q h
    refine wp_aload_n (pc := 81) C 0 dX3_read_81 rfl rfl ?_
    obtain ⟨g1, h⟩ := gd_some h
    refine wp_getD (pc := 82) C flX3_9 rfl g1.1 (Nat.le_of_ble_eq_true rfl) rfl dX3_read_82 ?_
    obtain ⟨S2, r3, cS2, h⟩ := bd_some h
    refine wp_callVv (As := []) (st := []) (pc := 85) C (CtX0_mixLight cS2) mX0_mixLight iX0_mixLight kX3_52 g1.1 g1.2 (by decide) rfl rfl rfl rfl (Nat.le_of_ble_eq_true rfl) ⟨Nat.le_of_ble_eq_true rfl, Nat.le_of_ble_eq_true rfl⟩ dX3_read_85 ?_
    exact (wX3_read_j88 C h)
def fX3_read_l42 (n : Nat) : Nat → St → Int32 → Option (St × Int32)
  | 0, _, _ => none
  | j + 1, S, x3 =>
    if 1700 < x3 then
      fX3_read_j74 n S
    else
      if (S.1 151 7) = 0 then
        if (S.1 151 3) = 0 then
          fX3_read_j74 n S
        else
          bd (fX3_readLine n S) (fun S1 r2 =>
          bn (x3 + 1) (fun z3 : Int32 =>
          fX3_read_l42 n j S1 z3))
      else
        fX3_read_j74 n S
set_option maxRecDepth 100000 in
set_option maxHeartbeats 4000000 in
theorem wX3_read_l42 (C : Cx G sdX cX3_read 4 RX3 (some .boolean)) {n : Nat} {S' : St} {r : Int32} : ∀ (j : Nat) (S : St) (x3 : Int32), fX3_read_l42 n j S x3 = some (S', r) → Wp G sdX (rmOf 5 108) 4 (Qm G sdX (some (.int r)) S') S 42 [(0, .ref (gA G 151)), (3, .int x3)] [] := by
  intro j
  induction j with
  | zero =>
    intro S x3 h
    exact nomatch (show (none : Option (St × Int32)) = some _ from h)
  | succ j ih =>
    intro S x3 h
    rw [fX3_read_l42] at h
    refine wp_iload_n (pc := 42) C 1 dX3_read_42 rfl rfl ?_
    refine wp_sipush (v := 1700) (pc := 43) C dX3_read_43 (by decide) ?_
    refine wp_icmp_gt (pc := 46) C 74 dX3_read_46 (by decide) (fun q => ?_) (fun q => ?_)
    · have h := it_pos q h
      exact wp_sub C [0] rfl (wX3_read_j74 C h)
    · have h := it_neg q h
      refine wp_aload_n (pc := 49) C 0 dX3_read_49 rfl rfl ?_
      refine wp_getI (pc := 50) C flX3_22 rfl (Nat.le_of_ble_eq_true rfl) rfl dX3_read_50 ?_
      refine wp_if_ne (pc := 53) C 74 dX3_read_53 (by decide) (fun q => ?_) (fun q => ?_)
      · have h := it_neg q h
        exact wp_sub C [0] rfl (wX3_read_j74 C h)
      · have h := it_pos q h
        refine wp_aload_n (pc := 56) C 0 dX3_read_56 rfl rfl ?_
        refine wp_getI (pc := 57) C flX3_45 rfl (Nat.le_of_ble_eq_true rfl) rfl dX3_read_57 ?_
        refine wp_if_eq (pc := 60) C 74 dX3_read_60 (by decide) (fun q => ?_) (fun q => ?_)
        · have h := it_pos q h
          exact wp_sub C [0] rfl (wX3_read_j74 C h)
        · have h := it_neg q h
          refine wp_aload_n (pc := 63) C 0 dX3_read_63 rfl rfl ?_
          obtain ⟨S1, r2, cS1, h⟩ := bd_some h
          refine wp_callVi (As := []) (st := []) (pc := 64) C (CtX3_readLine cS1) mX3_readLine iX3_readLine kX3_48 (Nat.le_of_ble_eq_true rfl) rfl (by decide) rfl rfl rfl rfl (Nat.le_of_ble_eq_true rfl) ⟨Nat.le_of_ble_eq_true rfl, Nat.le_of_ble_eq_true rfl⟩ dX3_read_64 ?_
          refine wp_pop (pc := 67) C dX3_read_67 rfl ?_
          obtain ⟨z3, ez3, h⟩ := bn_some h
          refine wp_iinc (q := 1) (pc := 68) C (by decide) ez3 [(3, .int z3), (0, .ref (gA G 151))] dX3_read_68 rfl (Nat.le_of_ble_eq_true rfl) rfl ?_
          refine wp_goto (pc := 71) C 42 dX3_read_71 (by decide) ?_
          exact wp_sub C [1, 0] rfl (ih _ _ h)
def fX3_read (n : Nat) (S : St) (a2 : Nat) : Option (St × Int32) :=
  gd (isK sdX a2 0) (
  bn (sR S 151 1 a2) (fun S2 : St =>
  gd (isK sdX (S2.2.2 151 1) 0) (
  bd (fX0_clear sdX n S2 (S2.2.2 151 1)) (fun S4 r5 =>
  bd (fX7_scan n S4) (fun S6 r7 =>
  bd (fX3_moveTo n S6 0) (fun S8 r9 =>
  bn (sI S8 151 5 0) (fun S10 : St =>
  bn (sI S10 151 7 0) (fun S11 : St =>
  bn (sI S11 151 8 (-1)) (fun S12 : St =>
  fX3_read_l42 n n S12 0)))))))))
set_option maxRecDepth 100000 in
set_option maxHeartbeats 4000000 in
theorem wX3_read (C : Cx G sdX cX3_read 4 RX3 (some .boolean)) {n : Nat} {S S' : St} {r : Int32} {a2 : Nat} (h : fX3_read n S a2 = some (S', r)) : Wp G sdX (rmOf 5 108) 4 (Qm G sdX (some (.int r)) S') S 0 [(0, .ref (gA G 151)), (1, .ref (gA G 1)), (2, .ref (gA G a2))] [] := by
  unfold fX3_read at h
  refine wp_aload_n (pc := 0) C 0 dX3_read_0 rfl rfl ?_
  refine wp_aload_n (pc := 1) C 2 dX3_read_1 rfl rfl ?_
  obtain ⟨g1, h⟩ := gd_some h
  obtain ⟨S2, eS2, h⟩ := bn_some h
  refine wp_putD (pc := 2) C g1.1 eS2 flX3_9 fpX3_1 rfl (Nat.le_of_ble_eq_true rfl) rfl dX3_read_2 ?_
  refine wp_aload_n (pc := 5) C 0 dX3_read_5 rfl rfl ?_
  obtain ⟨g3, h⟩ := gd_some h
  refine wp_getD (pc := 6) C flX3_9 rfl g3.1 (Nat.le_of_ble_eq_true rfl) rfl dX3_read_6 ?_
  obtain ⟨S4, r5, cS4, h⟩ := bd_some h
  refine wp_callVv (As := []) (st := []) (pc := 9) C (CtX0_clear cS4) mX0_clear iX0_clear kX3_29 g3.1 g3.2 (by decide) rfl rfl rfl rfl (Nat.le_of_ble_eq_true rfl) ⟨Nat.le_of_ble_eq_true rfl, Nat.le_of_ble_eq_true rfl⟩ dX3_read_9 ?_
  refine wp_aload_n (pc := 12) C 0 dX3_read_12 rfl rfl ?_
  refine wp_getS (v := 152) (pc := 13) C flX3_18 rfl rfl (Nat.le_of_ble_eq_true rfl) (Nat.le_of_ble_eq_true rfl) rfl dX3_read_13 ?_
  refine wp_aload_n (pc := 16) C 1 dX3_read_16 rfl rfl ?_
  obtain ⟨S6, r7, cS6, h⟩ := bd_some h
  refine wp_callVv (As := [.ref (gA G 1)]) (st := []) (pc := 17) C (CtX7_scan cS6) mX7_scan iX7_scan kX3_34 (Nat.le_of_ble_eq_true rfl) rfl (by decide) rfl rfl rfl rfl (Nat.le_of_ble_eq_true rfl) ⟨Nat.le_of_ble_eq_true rfl, Nat.le_of_ble_eq_true rfl⟩ dX3_read_17 ?_
  refine wp_aload_n (pc := 20) C 0 dX3_read_20 rfl rfl ?_
  refine wp_iconst (v := 0) (pc := 21) C dX3_read_21 (by decide) ?_
  obtain ⟨S8, r9, cS8, h⟩ := bd_some h
  refine wp_callVv (As := [.int 0]) (st := []) (pc := 22) C (CtX3_moveTo cS8) mX3_moveTo iX3_moveTo kX3_38 (Nat.le_of_ble_eq_true rfl) rfl (by decide) rfl rfl rfl rfl (Nat.le_of_ble_eq_true rfl) ⟨Nat.le_of_ble_eq_true rfl, Nat.le_of_ble_eq_true rfl⟩ dX3_read_22 ?_
  refine wp_aload_n (pc := 25) C 0 dX3_read_25 rfl rfl ?_
  refine wp_iconst (v := 0) (pc := 26) C dX3_read_26 (by decide) ?_
  obtain ⟨S10, eS10, h⟩ := bn_some h
  refine wp_putI (pc := 27) C eS10 flX3_42 fpX3_5 rfl (Nat.le_of_ble_eq_true rfl) rfl dX3_read_27 ?_
  refine wp_aload_n (pc := 30) C 0 dX3_read_30 rfl rfl ?_
  refine wp_iconst (v := 0) (pc := 31) C dX3_read_31 (by decide) ?_
  obtain ⟨S11, eS11, h⟩ := bn_some h
  refine wp_putI (pc := 32) C eS11 flX3_22 fpX3_7 rfl (Nat.le_of_ble_eq_true rfl) rfl dX3_read_32 ?_
  refine wp_aload_n (pc := 35) C 0 dX3_read_35 rfl rfl ?_
  refine wp_iconst (v := (-1)) (pc := 36) C dX3_read_36 (by decide) ?_
  obtain ⟨S12, eS12, h⟩ := bn_some h
  refine wp_putI (pc := 37) C eS12 flX3_26 fpX3_8 rfl (Nat.le_of_ble_eq_true rfl) rfl dX3_read_37 ?_
  refine wp_iconst (v := 0) (pc := 40) C dX3_read_40 (by decide) ?_
  refine wp_istore_n (pc := 41) C rfl [(3, .int 0), (0, .ref (gA G 151)), (1, .ref (gA G 1)), (2, .ref (gA G a2))] dX3_read_41 rfl (Nat.le_of_ble_eq_true rfl) rfl ?_
  exact wp_sub C [1, 0] rfl (wX3_read_l42 C _ _ _ h)
theorem CtX3_read {n : Nat} {S S' : St} {r : Int32} {a2 : Nat} (h : fX3_read n S a2 = some (S', r)) : Ct l sdX cy ad D yX3_read cX3_read 4 (some .boolean) 5 108 [.ref (ad 151), .ref (ad 1), .ref (ad a2)] S (some (.int r)) S' :=
  Ct_of (own := RX3) mX3_read rfl (Nat.le_of_ble_eq_true rfl) (fun G e1 e2 e3 e4 C => by subst e1 e2 e3 e4; exact wX3_read C h)
def fX4_forget (n : Nat) (S : St) (a1 : Nat) : Option (St × Unit) :=
  gd (isK sdX a1 0) (
  bn (sR S 243 0 a1) (fun S2 : St =>
  bn (sI S2 243 13 0) (fun S3 : St =>
  bn (sI S3 243 14 0) (fun S4 : St =>
  bn (sI S4 243 15 0) (fun S5 : St =>
  bn (sI S5 243 17 0) (fun S6 : St =>
  some (S6, ())))))))
set_option maxRecDepth 100000 in
set_option maxHeartbeats 4000000 in
theorem wX4_forget (C : Cx G sdX cX4_forget 2 RX4 none) {n : Nat} {S S' : St} {r : Unit} {a1 : Nat} (h : fX4_forget n S a1 = some (S', r)) : Wp G sdX (rmOf 0 0) 2 (Qm G sdX none S') S 0 [(0, .ref (gA G 243)), (1, .ref (gA G a1))] [] := by
  unfold fX4_forget at h
  refine wp_aload_n (pc := 0) C 0 dX4_forget_0 rfl rfl ?_
  refine wp_aload_n (pc := 1) C 1 dX4_forget_1 rfl rfl ?_
  obtain ⟨g1, h⟩ := gd_some h
  obtain ⟨S2, eS2, h⟩ := bn_some h
  refine wp_putD (pc := 2) C g1.1 eS2 flX4_9 fpX4_0 rfl (Nat.le_of_ble_eq_true rfl) rfl dX4_forget_2 ?_
  refine wp_aload_n (pc := 5) C 0 dX4_forget_5 rfl rfl ?_
  refine wp_iconst (v := 0) (pc := 6) C dX4_forget_6 (by decide) ?_
  obtain ⟨S3, eS3, h⟩ := bn_some h
  refine wp_putZ (pc := 7) C (Or.inl rfl) eS3 flX4_42 fpX4_13 rfl (Nat.le_of_ble_eq_true rfl) rfl dX4_forget_7 ?_
  refine wp_aload_n (pc := 10) C 0 dX4_forget_10 rfl rfl ?_
  refine wp_iconst (v := 0) (pc := 11) C dX4_forget_11 (by decide) ?_
  obtain ⟨S4, eS4, h⟩ := bn_some h
  refine wp_putI (pc := 12) C eS4 flX4_46 fpX4_14 rfl (Nat.le_of_ble_eq_true rfl) rfl dX4_forget_12 ?_
  refine wp_aload_n (pc := 15) C 0 dX4_forget_15 rfl rfl ?_
  refine wp_iconst (v := 0) (pc := 16) C dX4_forget_16 (by decide) ?_
  obtain ⟨S5, eS5, h⟩ := bn_some h
  refine wp_putZ (pc := 17) C (Or.inl rfl) eS5 flX4_50 fpX4_15 rfl (Nat.le_of_ble_eq_true rfl) rfl dX4_forget_17 ?_
  refine wp_aload_n (pc := 20) C 0 dX4_forget_20 rfl rfl ?_
  refine wp_iconst (v := 0) (pc := 21) C dX4_forget_21 (by decide) ?_
  obtain ⟨S6, eS6, h⟩ := bn_some h
  refine wp_putI (pc := 22) C eS6 flX4_53 fpX4_17 rfl (Nat.le_of_ble_eq_true rfl) rfl dX4_forget_22 ?_
  exact rt_v C rfl h dX4_forget_25
theorem CtX4_forget {n : Nat} {S S' : St} {r : Unit} {a1 : Nat} (h : fX4_forget n S a1 = some (S', r)) : Ct l sdX cy ad D yX4_forget cX4_forget 2 none 0 0 [.ref (ad 243), .ref (ad a1)] S none S' :=
  Ct_of (own := RX4) mX4_forget rfl (Nat.le_of_ble_eq_true rfl) (fun G e1 e2 e3 e4 C => by subst e1 e2 e3 e4; exact wX4_forget C h)
def fX4_countMixes_j90 (n : Nat) (S : St) (x5 : Int64) : Option (St × Int32) :=
  some (S, (x5 : Int64).toInt32)
set_option maxRecDepth 100000 in
set_option maxHeartbeats 4000000 in
theorem wX4_countMixes_j90 (C : Cx G sdX cX4_countMixes 9 RX4 (some .int)) {n : Nat} {S S' : St} {r : Int32} {x5 : Int64} (h : fX4_countMixes_j90 n S x5 = some (S', r)) : Wp G sdX (rmOf 1 23) 9 (Qm G sdX (some (.int r)) S') S 90 [(5, .long x5)] [] := by
  unfold fX4_countMixes_j90 at h
  refine wp_lload (pc := 90) C 0 dX4_countMixes_90 rfl ?_
  refine wp_l2i (pc := 92) C dX4_countMixes_92 ?_
  exact rt_i C rfl h dX4_countMixes_93
def fX4_countMixes_l29 (n : Nat) : Nat → St → Int64 → Int64 → Int64 → Int32 → Int32 → Option (St × Int32)
  | 0, _, _, _, _, _, _ => none
  | j + 1, S, x1, x3, x5, x7, x8 =>
    if x7 < x8 then
      fX4_countMixes_j90 n S x5
    else
      gd (isK sdX (S.2.2 243 0) 0) (
      gd (isK sdX (srX (S.2.2 243 0) 0) 5) (
      gd (¬ ((x8 : Int32).toInt64) = 0) (
      bn ((x1 * (((((S.1 (srX (S.2.2 243 0) 0) 3) - x8) + 1) : Int32).toInt64)) / ((x8 : Int32).toInt64)) (fun z4 : Int64 =>
      gd (¬ ((x8 : Int32).toInt64) = 0) (
      bn ((x3 * (((((S.1 243 5) - x8) + 1) : Int32).toInt64)) / ((x8 : Int32).toInt64)) (fun z6 : Int64 =>
      bn (x5 + (z4 * z6)) (fun z7 : Int64 =>
      bn (x8 + 1) (fun z8 : Int32 =>
      fX4_countMixes_l29 n j S z4 z6 z7 x7 z8))))))))
set_option maxRecDepth 100000 in
set_option maxHeartbeats 4000000 in
theorem wX4_countMixes_l29 (C : Cx G sdX cX4_countMixes 9 RX4 (some .int)) {n : Nat} {S' : St} {r : Int32} : ∀ (j : Nat) (S : St) (x1 : Int64) (x3 : Int64) (x5 : Int64) (x7 : Int32) (x8 : Int32), fX4_countMixes_l29 n j S x1 x3 x5 x7 x8 = some (S', r) → Wp G sdX (rmOf 1 23) 9 (Qm G sdX (some (.int r)) S') S 29 [(0, .ref (gA G 243)), (1, .long x1), (3, .long x3), (5, .long x5), (7, .int x7), (8, .int x8)] [] := by
  intro j
  induction j with
  | zero =>
    intro S x1 x3 x5 x7 x8 h
    exact nomatch (show (none : Option (St × Int32)) = some _ from h)
  | succ j ih =>
    intro S x1 x3 x5 x7 x8 h
    rw [fX4_countMixes_l29] at h
    refine wp_iload (pc := 29) C 5 dX4_countMixes_29 rfl ?_
    refine wp_iload (pc := 31) C 4 dX4_countMixes_31 rfl ?_
    refine wp_icmp_gt (pc := 33) C 90 dX4_countMixes_33 (by decide) (fun q => ?_) (fun q => ?_)
    · have h := it_pos q h
      exact wp_sub C [3] rfl (wX4_countMixes_j90 C h)
    · have h := it_neg q h
      refine wp_lload_n (pc := 36) C 1 dX4_countMixes_36 rfl rfl ?_
      refine wp_aload_n (pc := 37) C 0 dX4_countMixes_37 rfl rfl ?_
      obtain ⟨g1, h⟩ := gd_some h
      refine wp_getD (pc := 38) C flX4_9 rfl g1.1 (Nat.le_of_ble_eq_true rfl) rfl dX4_countMixes_38 ?_
      obtain ⟨g2, h⟩ := gd_some h
      refine wp_getS (v := srX (S.2.2 243 0) 0) (pc := 41) C flX4_72 rfl rfl g2.1 g1.1 g1.2 dX4_countMixes_41 ?_
      refine wp_getI (pc := 44) C flX4_78 rfl g2.1 g2.2 dX4_countMixes_44 ?_
      refine wp_iload (pc := 47) C 5 dX4_countMixes_47 rfl ?_
      refine wp_isub (pc := 49) C dX4_countMixes_49 ?_
      refine wp_iconst (v := 1) (pc := 50) C dX4_countMixes_50 (by decide) ?_
      refine wp_iadd (pc := 51) C dX4_countMixes_51 ?_
      refine wp_i2l (pc := 52) C dX4_countMixes_52 ?_
      refine wp_lmul (pc := 53) C dX4_countMixes_53 ?_
      refine wp_iload (pc := 54) C 5 dX4_countMixes_54 rfl ?_
      refine wp_i2l (pc := 56) C dX4_countMixes_56 ?_
      obtain ⟨g3, h⟩ := gd_some h
      refine wp_ldiv (pc := 57) C dX4_countMixes_57 g3 ?_
      obtain ⟨z4, ez4, h⟩ := bn_some h
      refine wp_lstore_n (pc := 58) C ez4 [(1, .long z4), (0, .ref (gA G 243)), (3, .long x3), (5, .long x5), (7, .int x7), (8, .int x8)] dX4_countMixes_58 rfl (Nat.le_of_ble_eq_true rfl) rfl ?_
      refine wp_lload_n (pc := 59) C 2 dX4_countMixes_59 rfl rfl ?_
      refine wp_aload_n (pc := 60) C 1 dX4_countMixes_60 rfl rfl ?_
      refine wp_getI (pc := 61) C flX4_62 rfl (Nat.le_of_ble_eq_true rfl) rfl dX4_countMixes_61 ?_
      refine wp_iload (pc := 64) C 5 dX4_countMixes_64 rfl ?_
      refine wp_isub (pc := 66) C dX4_countMixes_66 ?_
      refine wp_iconst (v := 1) (pc := 67) C dX4_countMixes_67 (by decide) ?_
      refine wp_iadd (pc := 68) C dX4_countMixes_68 ?_
      refine wp_i2l (pc := 69) C dX4_countMixes_69 ?_
      refine wp_lmul (pc := 70) C dX4_countMixes_70 ?_
      refine wp_iload (pc := 71) C 5 dX4_countMixes_71 rfl ?_
      refine wp_i2l (pc := 73) C dX4_countMixes_73 ?_
      obtain ⟨g5, h⟩ := gd_some h
      refine wp_ldiv (pc := 74) C dX4_countMixes_74 g5 ?_
      obtain ⟨z6, ez6, h⟩ := bn_some h
      refine wp_lstore_n (pc := 75) C ez6 [(3, .long z6), (1, .long z4), (0, .ref (gA G 243)), (5, .long x5), (7, .int x7), (8, .int x8)] dX4_countMixes_75 rfl (Nat.le_of_ble_eq_true rfl) rfl ?_
      refine wp_lload (pc := 76) C 3 dX4_countMixes_76 rfl ?_
      refine wp_lload_n (pc := 78) C 1 dX4_countMixes_78 rfl rfl ?_
      refine wp_lload_n (pc := 79) C 0 dX4_countMixes_79 rfl rfl ?_
      refine wp_lmul (pc := 80) C dX4_countMixes_80 ?_
      refine wp_ladd (pc := 81) C dX4_countMixes_81 ?_
      obtain ⟨z7, ez7, h⟩ := bn_some h
      refine wp_lstore (pc := 82) C ez7 [(5, .long z7), (3, .long z6), (1, .long z4), (0, .ref (gA G 243)), (7, .int x7), (8, .int x8)] dX4_countMixes_82 (Nat.le_of_ble_eq_true rfl) rfl ?_
      obtain ⟨z8, ez8, h⟩ := bn_some h
      refine wp_iinc (q := 5) (pc := 84) C (by decide) ez8 [(8, .int z8), (5, .long z7), (3, .long z6), (1, .long z4), (0, .ref (gA G 243)), (7, .int x7)] dX4_countMixes_84 rfl (Nat.le_of_ble_eq_true rfl) rfl ?_
      refine wp_goto (pc := 87) C 29 dX4_countMixes_87 (by decide) ?_
      exact wp_sub C [4, 3, 2, 1, 5, 0] rfl (ih _ _ _ _ _ _ h)
def fX4_countMixes (n : Nat) (S : St) : Option (St × Int32) :=
  gd (isK sdX (S.2.2 243 0) 0) (
  gd (isK sdX (srX (S.2.2 243 0) 0) 5) (
  bn (if (S.1 (srX (S.2.2 243 0) 0) 3) < (S.1 243 6) then (S.1 (srX (S.2.2 243 0) 0) 3) else (S.1 243 6)) (fun z3 : Int32 =>
  fX4_countMixes_l29 n n S 1 1 1 z3 1)))
set_option maxRecDepth 100000 in
set_option maxHeartbeats 4000000 in
theorem wX4_countMixes (C : Cx G sdX cX4_countMixes 9 RX4 (some .int)) {n : Nat} {S S' : St} {r : Int32} (h : fX4_countMixes n S = some (S', r)) : Wp G sdX (rmOf 1 23) 9 (Qm G sdX (some (.int r)) S') S 0 [(0, .ref (gA G 243))] [] := by
  unfold fX4_countMixes at h
  refine wp_lconst (v := 1) (pc := 0) C dX4_countMixes_0 (by decide) ?_
  refine wp_lstore_n (pc := 1) C rfl [(1, .long 1), (0, .ref (gA G 243))] dX4_countMixes_1 rfl (Nat.le_of_ble_eq_true rfl) rfl ?_
  refine wp_lconst (v := 1) (pc := 2) C dX4_countMixes_2 (by decide) ?_
  refine wp_lstore_n (pc := 3) C rfl [(3, .long 1), (1, .long 1), (0, .ref (gA G 243))] dX4_countMixes_3 rfl (Nat.le_of_ble_eq_true rfl) rfl ?_
  refine wp_lconst (v := 1) (pc := 4) C dX4_countMixes_4 (by decide) ?_
  refine wp_lstore (pc := 5) C rfl [(5, .long 1), (3, .long 1), (1, .long 1), (0, .ref (gA G 243))] dX4_countMixes_5 (Nat.le_of_ble_eq_true rfl) rfl ?_
  refine wp_aload_n (pc := 7) C 3 dX4_countMixes_7 rfl rfl ?_
  refine wp_getI (pc := 8) C flX4_65 rfl (Nat.le_of_ble_eq_true rfl) rfl dX4_countMixes_8 ?_
  refine wp_aload_n (pc := 11) C 3 dX4_countMixes_11 rfl rfl ?_
  obtain ⟨g1, h⟩ := gd_some h
  refine wp_getD (pc := 12) C flX4_9 rfl g1.1 (Nat.le_of_ble_eq_true rfl) rfl dX4_countMixes_12 ?_
  obtain ⟨g2, h⟩ := gd_some h
  refine wp_getS (v := srX (S.2.2 243 0) 0) (pc := 15) C flX4_72 rfl rfl g2.1 g1.1 g1.2 dX4_countMixes_15 ?_
  refine wp_getI (pc := 18) C flX4_78 rfl g2.1 g2.2 dX4_countMixes_18 ?_
  refine wp_minI (pc := 21) C kX4_81 (Nat.le_of_ble_eq_true rfl) (Nat.le_of_ble_eq_true rfl) dX4_countMixes_21 ?_
  obtain ⟨z3, ez3, h⟩ := bn_some h
  refine wp_istore (pc := 24) C ez3 [(7, .int z3), (5, .long 1), (3, .long 1), (1, .long 1), (0, .ref (gA G 243))] dX4_countMixes_24 (Nat.le_of_ble_eq_true rfl) rfl ?_
  refine wp_iconst (v := 1) (pc := 26) C dX4_countMixes_26 (by decide) ?_
  refine wp_istore (pc := 27) C rfl [(8, .int 1), (7, .int z3), (5, .long 1), (3, .long 1), (1, .long 1), (0, .ref (gA G 243))] dX4_countMixes_27 (Nat.le_of_ble_eq_true rfl) rfl ?_
  exact wp_sub C [5, 4, 3, 2, 1, 0] rfl (wX4_countMixes_l29 C _ _ _ _ _ _ _ h)
theorem CtX4_countMixes {n : Nat} {S S' : St} {r : Int32} (h : fX4_countMixes n S = some (S', r)) : Ct l sdX cy ad D yX4_countMixes cX4_countMixes 9 (some .int) 1 23 [.ref (ad 243)] S (some (.int r)) S' :=
  Ct_of (own := RX4) mX4_countMixes rfl (Nat.le_of_ble_eq_true rfl) (fun G e1 e2 e3 e4 C => by subst e1 e2 e3 e4; exact wX4_countMixes C h)
def fX4_take (n : Nat) (S : St) (x1 : Int32) (x2 : Int32) (x3 : Int32) (x4 : Int32) : Option (St × Unit) :=
  bn (sI S 243 13 1) (fun S1 : St =>
  bn (sI S1 243 3 x1) (fun S2 : St =>
  bn (sI S2 243 4 x2) (fun S3 : St =>
  bn (sI S3 243 5 x3) (fun S4 : St =>
  bn (sI S4 243 6 x4) (fun S5 : St =>
  bd (fX4_countMixes n S5) (fun S6 r7 =>
  bn (sI S6 243 14 r7) (fun S8 : St =>
  some (S8, ()))))))))
set_option maxRecDepth 100000 in
set_option maxHeartbeats 4000000 in
theorem wX4_take (C : Cx G sdX cX4_take 5 RX4 none) {n : Nat} {S S' : St} {r : Unit} {x1 : Int32} {x2 : Int32} {x3 : Int32} {x4 : Int32} (h : fX4_take n S x1 x2 x3 x4 = some (S', r)) : Wp G sdX (rmOf 2 51) 5 (Qm G sdX none S') S 0 [(0, .ref (gA G 243)), (1, .int x1), (2, .int x2), (3, .int x3), (4, .int x4)] [] := by
  unfold fX4_take at h
  refine wp_aload_n (pc := 0) C 0 dX4_take_0 rfl rfl ?_
  refine wp_iconst (v := 1) (pc := 1) C dX4_take_1 (by decide) ?_
  obtain ⟨S1, eS1, h⟩ := bn_some h
  refine wp_putZ (pc := 2) C (Or.inr rfl) eS1 flX4_42 fpX4_13 rfl (Nat.le_of_ble_eq_true rfl) rfl dX4_take_2 ?_
  refine wp_aload_n (pc := 5) C 0 dX4_take_5 rfl rfl ?_
  refine wp_iload_n (pc := 6) C 1 dX4_take_6 rfl rfl ?_
  obtain ⟨S2, eS2, h⟩ := bn_some h
  refine wp_putI (pc := 7) C eS2 flX4_56 fpX4_3 rfl (Nat.le_of_ble_eq_true rfl) rfl dX4_take_7 ?_
  refine wp_aload_n (pc := 10) C 0 dX4_take_10 rfl rfl ?_
  refine wp_iload_n (pc := 11) C 2 dX4_take_11 rfl rfl ?_
  obtain ⟨S3, eS3, h⟩ := bn_some h
  refine wp_putI (pc := 12) C eS3 flX4_59 fpX4_4 rfl (Nat.le_of_ble_eq_true rfl) rfl dX4_take_12 ?_
  refine wp_aload_n (pc := 15) C 0 dX4_take_15 rfl rfl ?_
  refine wp_iload_n (pc := 16) C 3 dX4_take_16 rfl rfl ?_
  obtain ⟨S4, eS4, h⟩ := bn_some h
  refine wp_putI (pc := 17) C eS4 flX4_62 fpX4_5 rfl (Nat.le_of_ble_eq_true rfl) rfl dX4_take_17 ?_
  refine wp_aload_n (pc := 20) C 0 dX4_take_20 rfl rfl ?_
  refine wp_iload (pc := 21) C 4 dX4_take_21 rfl ?_
  obtain ⟨S5, eS5, h⟩ := bn_some h
  refine wp_putI (pc := 23) C eS5 flX4_65 fpX4_6 rfl (Nat.le_of_ble_eq_true rfl) rfl dX4_take_23 ?_
  refine wp_aload_n (pc := 26) C 0 dX4_take_26 rfl rfl ?_
  refine wp_aload_n (pc := 27) C 0 dX4_take_27 rfl rfl ?_
  obtain ⟨S6, r7, cS6, h⟩ := bd_some h
  refine wp_callVi (As := []) (st := [.ref (gA G 243)]) (pc := 28) C (CtX4_countMixes cS6) mX4_countMixes iX4_countMixes kX4_68 (Nat.le_of_ble_eq_true rfl) rfl (by decide) rfl rfl rfl rfl (Nat.le_of_ble_eq_true rfl) ⟨Nat.le_of_ble_eq_true rfl, Nat.le_of_ble_eq_true rfl⟩ dX4_take_28 ?_
  obtain ⟨S8, eS8, h⟩ := bn_some h
  refine wp_putI (pc := 31) C eS8 flX4_46 fpX4_14 rfl (Nat.le_of_ble_eq_true rfl) rfl dX4_take_31 ?_
  exact rt_v C rfl h dX4_take_34
theorem CtX4_take {n : Nat} {S S' : St} {r : Unit} {x1 : Int32} {x2 : Int32} {x3 : Int32} {x4 : Int32} (h : fX4_take n S x1 x2 x3 x4 = some (S', r)) : Ct l sdX cy ad D yX4_take cX4_take 5 none 2 51 [.ref (ad 243), .int x1, .int x2, .int x3, .int x4] S none S' :=
  Ct_of (own := RX4) mX4_take rfl (Nat.le_of_ble_eq_true rfl) (fun G e1 e2 e3 e4 C => by subst e1 e2 e3 e4; exact wX4_take C h)
def fX4_hasLamps (n : Nat) (S : St) (x1 : Int32) : Option (St × Int32) :=
  if x1 ≤ 0 then
    some (S, 0)
  else
    gd (isK sdX (S.2.2 243 0) 0) (
    gd (isK sdX (srX (S.2.2 243 0) 2) 5) (
    if (1 <<< ((S.1 (srX (S.2.2 243 0) 2) 3) &&& 31)) ≤ x1 then
      some (S, 0)
    else
      some (S, 1)))
set_option maxRecDepth 100000 in
set_option maxHeartbeats 4000000 in
theorem wX4_hasLamps (C : Cx G sdX cX4_hasLamps 2 RX4 (some .boolean)) {n : Nat} {S S' : St} {r : Int32} {x1 : Int32} (h : fX4_hasLamps n S x1 = some (S', r)) : Wp G sdX (rmOf 0 0) 2 (Qm G sdX (some (.int r)) S') S 0 [(0, .ref (gA G 243)), (1, .int x1)] [] := by
  unfold fX4_hasLamps at h
  refine wp_iload_n (pc := 0) C 1 dX4_hasLamps_0 rfl rfl ?_
  refine wp_if_le (pc := 1) C 24 dX4_hasLamps_1 (by decide) (fun q => ?_) (fun q => ?_)
  · have h := it_pos q h
    refine wp_iconst (v := 0) (pc := 24) C dX4_hasLamps_24 (by decide) ?_
    exact rt_z C (Or.inl rfl) rfl h dX4_hasLamps_25
  · have h := it_neg q h
    refine wp_iload_n (pc := 4) C 1 dX4_hasLamps_4 rfl rfl ?_
    refine wp_iconst (v := 1) (pc := 5) C dX4_hasLamps_5 (by decide) ?_
    refine wp_aload_n (pc := 6) C 0 dX4_hasLamps_6 rfl rfl ?_
    obtain ⟨g1, h⟩ := gd_some h
    refine wp_getD (pc := 7) C flX4_9 rfl g1.1 (Nat.le_of_ble_eq_true rfl) rfl dX4_hasLamps_7 ?_
    obtain ⟨g2, h⟩ := gd_some h
    refine wp_getS (v := srX (S.2.2 243 0) 2) (pc := 10) C flX4_87 rfl rfl g2.1 g1.1 g1.2 dX4_hasLamps_10 ?_
    refine wp_getI (pc := 13) C flX4_78 rfl g2.1 g2.2 dX4_hasLamps_13 ?_
    refine wp_ishl (pc := 16) C dX4_hasLamps_16 ?_
    refine wp_icmp_ge (pc := 17) C 24 dX4_hasLamps_17 (by decide) (fun q => ?_) (fun q => ?_)
    · have h := it_pos q h
      refine wp_iconst (v := 0) (pc := 24) C dX4_hasLamps_24 (by decide) ?_
      exact rt_z C (Or.inl rfl) rfl h dX4_hasLamps_25
    · have h := it_neg q h
      refine wp_iconst (v := 1) (pc := 20) C dX4_hasLamps_20 (by decide) ?_
      refine wp_goto (pc := 21) C 25 dX4_hasLamps_21 (by decide) ?_
      exact rt_z C (Or.inr rfl) rfl h dX4_hasLamps_25
theorem CtX4_hasLamps {n : Nat} {S S' : St} {r : Int32} {x1 : Int32} (h : fX4_hasLamps n S x1 = some (S', r)) : Ct l sdX cy ad D yX4_hasLamps cX4_hasLamps 2 (some .boolean) 0 0 [.ref (ad 243), .int x1] S (some (.int r)) S' :=
  Ct_of (own := RX4) mX4_hasLamps rfl (Nat.le_of_ble_eq_true rfl) (fun G e1 e2 e3 e4 C => by subst e1 e2 e3 e4; exact wX4_hasLamps C h)
def fJ7_fill_53178_l5 (sd : Sd) (n : Nat) : Nat → St → Nat → Int32 → Int32 → Int32 → Option (St × Unit)
  | 0, _, _, _, _, _ => none
  | j + 1, S, a0, x1, x2, x3 =>
    if x3 ≤ x2 then
      some (S, ())
    else
      gd (isK sd a0 13) (
      gd (ib x2 (sd.2.2.1 a0)) (
      bn (sI S a0 (Int32.toNatClampNeg x2) x1) (fun S3 : St =>
      bn (x2 + 1) (fun z4 : Int32 =>
      fJ7_fill_53178_l5 sd n j S3 a0 x1 z4 x3))))
set_option maxRecDepth 100000 in
set_option maxHeartbeats 4000000 in
theorem wJ7_fill_53178_l5 {sd : Sd} (C : Cx G sd cJ7_fill_53178 4 RJ7 none) {n : Nat} {S' : St} {r : Unit} : ∀ (j : Nat) (S : St) (a0 : Nat) (x1 : Int32) (x2 : Int32) (x3 : Int32), fJ7_fill_53178_l5 sd n j S a0 x1 x2 x3 = some (S', r) → Wp G sd (rmOf 0 0) 4 (Qm G sd none S') S 5 [(0, .ref (gA G a0)), (1, .int x1), (2, .int x2), (3, .int x3)] [] := by
  intro j
  induction j with
  | zero =>
    intro S a0 x1 x2 x3 h
    exact nomatch (show (none : Option (St × Unit)) = some _ from h)
  | succ j ih =>
    intro S a0 x1 x2 x3 h
    rw [fJ7_fill_53178_l5] at h
    refine wp_iload_n (pc := 5) C 2 dJ7_fill_53178_5 rfl rfl ?_
    refine wp_iload_n (pc := 6) C 3 dJ7_fill_53178_6 rfl rfl ?_
    refine wp_icmp_ge (pc := 7) C 20 dJ7_fill_53178_7 (by decide) (fun q => ?_) (fun q => ?_)
    · have h := it_pos q h
      exact rt_v C rfl h dJ7_fill_53178_20
    · have h := it_neg q h
      refine wp_aload_n (pc := 10) C 0 dJ7_fill_53178_10 rfl rfl ?_
      refine wp_iload_n (pc := 11) C 2 dJ7_fill_53178_11 rfl rfl ?_
      refine wp_iload_n (pc := 12) C 1 dJ7_fill_53178_12 rfl rfl ?_
      obtain ⟨g1, h⟩ := gd_some h
      obtain ⟨g2, h⟩ := gd_some h
      obtain ⟨S3, eS3, h⟩ := bn_some h
      refine wp_iast (pc := 13) C eS3 g1.1 g1.2 g2 dJ7_fill_53178_13 ?_
      obtain ⟨z4, ez4, h⟩ := bn_some h
      refine wp_iinc (q := 2) (pc := 14) C (by decide) ez4 [(2, .int z4), (0, .ref (gA G a0)), (1, .int x1), (3, .int x3)] dJ7_fill_53178_14 rfl (Nat.le_of_ble_eq_true rfl) rfl ?_
      refine wp_goto (pc := 17) C 5 dJ7_fill_53178_17 (by decide) ?_
      exact wp_sub C [1, 2, 0, 3] rfl (ih _ _ _ _ _ h)
def fJ7_fill_53178 (sd : Sd) (n : Nat) (S : St) (a0 : Nat) (x1 : Int32) : Option (St × Unit) :=
  gd (isK sd a0 13) (
  bn (Int32.ofNat (sd.2.2.1 a0)) (fun z2 : Int32 =>
  fJ7_fill_53178_l5 sd n n S a0 x1 0 z2))
set_option maxRecDepth 100000 in
set_option maxHeartbeats 4000000 in
theorem wJ7_fill_53178 {sd : Sd} (C : Cx G sd cJ7_fill_53178 4 RJ7 none) {n : Nat} {S S' : St} {r : Unit} {a0 : Nat} {x1 : Int32} (h : fJ7_fill_53178 sd n S a0 x1 = some (S', r)) : Wp G sd (rmOf 0 0) 4 (Qm G sd none S') S 0 [(0, .ref (gA G a0)), (1, .int x1)] [] := by
  unfold fJ7_fill_53178 at h
  refine wp_iconst (v := 0) (pc := 0) C dJ7_fill_53178_0 (by decide) ?_
  refine wp_istore_n (pc := 1) C rfl [(2, .int 0), (0, .ref (gA G a0)), (1, .int x1)] dJ7_fill_53178_1 rfl (Nat.le_of_ble_eq_true rfl) rfl ?_
  refine wp_aload_n (pc := 2) C 1 dJ7_fill_53178_2 rfl rfl ?_
  obtain ⟨g1, h⟩ := gd_some h
  refine wp_alen (t0 := 1) (v := Int32.ofNat (sd.2.2.1 a0)) (pc := 3) C g1.1 g1.2 (by decide) rfl rfl dJ7_fill_53178_3 ?_
  obtain ⟨z2, ez2, h⟩ := bn_some h
  refine wp_istore_n (pc := 4) C ez2 [(3, .int z2), (2, .int 0), (0, .ref (gA G a0)), (1, .int x1)] dJ7_fill_53178_4 rfl (Nat.le_of_ble_eq_true rfl) rfl ?_
  exact wp_sub C [2, 3, 1, 0] rfl (wJ7_fill_53178_l5 C _ _ _ _ _ _ h)
theorem CtJ7_fill_53178 {sd : Sd} {n : Nat} {S S' : St} {r : Unit} {a0 : Nat} {x1 : Int32} (h : fJ7_fill_53178 sd n S a0 x1 = some (S', r)) : Ct l sd cy ad D yJ7_fill_53178 cJ7_fill_53178 4 none 0 0 [.ref (ad a0), .int x1] S none S' :=
  Ct_of (own := RJ7) mJ7_fill_53178 rfl (Nat.le_of_ble_eq_true rfl) (fun G e1 e2 e3 e4 C => by subst e1 e2 e3 e4; exact wJ7_fill_53178 C h)
def fX9_start (n : Nat) (S : St) (a1 : Nat) (x2 : Int32) (x3 : Int32) (x4 : Int32) : Option (St × Unit) :=
  gd (isK sdX a1 0) (
  bn (sR S 244 2 a1) (fun S2 : St =>
  bn (sI S2 244 3 x2) (fun S3 : St =>
  bn (sI S3 244 4 x3) (fun S4 : St =>
  bn (sI S4 244 5 x4) (fun S5 : St =>
  bn (sI S5 244 6 0) (fun S6 : St =>
  bn (sI S6 244 8 0) (fun S7 : St =>
  bn (sI S7 244 9 0) (fun S8 : St =>
  bd (fJ7_fill_53178 sdX n S8 256 0) (fun S9 r10 =>
  gd (isK sdX (S9.2.2 244 2) 0) (
  gd (ib 0 9) (
  gd (isK sdX (srX 245 (Int32.toNatClampNeg 0)) 13) (
  bd (fX0_layGround sdX n S9 (S9.2.2 244 2) (S9.1 244 3) (srX 245 (Int32.toNatClampNeg 0))) (fun S14 r15 =>
  some (S14, ()))))))))))))))
set_option maxRecDepth 100000 in
set_option maxHeartbeats 4000000 in
theorem wX9_start (C : Cx G sdX cX9_start 5 RX9 none) {n : Nat} {S S' : St} {r : Unit} {a1 : Nat} {x2 : Int32} {x3 : Int32} {x4 : Int32} (h : fX9_start n S a1 x2 x3 x4 = some (S', r)) : Wp G sdX (rmOf 1 24) 5 (Qm G sdX none S') S 0 [(0, .ref (gA G 244)), (1, .ref (gA G a1)), (2, .int x2), (3, .int x3), (4, .int x4)] [] := by
  unfold fX9_start at h
  refine wp_aload_n (pc := 0) C 0 dX9_start_0 rfl rfl ?_
  refine wp_aload_n (pc := 1) C 1 dX9_start_1 rfl rfl ?_
  obtain ⟨g1, h⟩ := gd_some h
  obtain ⟨S2, eS2, h⟩ := bn_some h
  refine wp_putD (pc := 2) C g1.1 eS2 flX9_9 fpX9_2 rfl (Nat.le_of_ble_eq_true rfl) rfl dX9_start_2 ?_
  refine wp_aload_n (pc := 5) C 0 dX9_start_5 rfl rfl ?_
  refine wp_iload_n (pc := 6) C 2 dX9_start_6 rfl rfl ?_
  obtain ⟨S3, eS3, h⟩ := bn_some h
  refine wp_putI (pc := 7) C eS3 flX9_27 fpX9_3 rfl (Nat.le_of_ble_eq_true rfl) rfl dX9_start_7 ?_
  refine wp_aload_n (pc := 10) C 0 dX9_start_10 rfl rfl ?_
  refine wp_iload_n (pc := 11) C 3 dX9_start_11 rfl rfl ?_
  obtain ⟨S4, eS4, h⟩ := bn_some h
  refine wp_putI (pc := 12) C eS4 flX9_31 fpX9_4 rfl (Nat.le_of_ble_eq_true rfl) rfl dX9_start_12 ?_
  refine wp_aload_n (pc := 15) C 0 dX9_start_15 rfl rfl ?_
  refine wp_iload (pc := 16) C 4 dX9_start_16 rfl ?_
  obtain ⟨S5, eS5, h⟩ := bn_some h
  refine wp_putI (pc := 18) C eS5 flX9_34 fpX9_5 rfl (Nat.le_of_ble_eq_true rfl) rfl dX9_start_18 ?_
  refine wp_aload_n (pc := 21) C 0 dX9_start_21 rfl rfl ?_
  refine wp_iconst (v := 0) (pc := 22) C dX9_start_22 (by decide) ?_
  obtain ⟨S6, eS6, h⟩ := bn_some h
  refine wp_putI (pc := 23) C eS6 flX9_37 fpX9_6 rfl (Nat.le_of_ble_eq_true rfl) rfl dX9_start_23 ?_
  refine wp_aload_n (pc := 26) C 0 dX9_start_26 rfl rfl ?_
  refine wp_iconst (v := 0) (pc := 27) C dX9_start_27 (by decide) ?_
  obtain ⟨S7, eS7, h⟩ := bn_some h
  refine wp_putI (pc := 28) C eS7 flX9_40 fpX9_8 rfl (Nat.le_of_ble_eq_true rfl) rfl dX9_start_28 ?_
  refine wp_aload_n (pc := 31) C 0 dX9_start_31 rfl rfl ?_
  refine wp_iconst (v := 0) (pc := 32) C dX9_start_32 (by decide) ?_
  obtain ⟨S8, eS8, h⟩ := bn_some h
  refine wp_putI (pc := 33) C eS8 flX9_43 fpX9_9 rfl (Nat.le_of_ble_eq_true rfl) rfl dX9_start_33 ?_
  refine wp_aload_n (pc := 36) C 0 dX9_start_36 rfl rfl ?_
  refine wp_getS (v := 256) (pc := 37) C flX9_24 rfl rfl (Nat.le_of_ble_eq_true rfl) (Nat.le_of_ble_eq_true rfl) rfl dX9_start_37 ?_
  refine wp_iconst (v := 0) (pc := 40) C dX9_start_40 (by decide) ?_
  obtain ⟨S9, r10, cS9, h⟩ := bd_some h
  refine wp_callSv (As := [.ref (gA G 256), .int 0]) (st := []) (pc := 41) C (CtJ7_fill_53178 cS9) mJ7_fill_53178 sJ7_fill_53178 kX9_46 rfl rfl (Nat.le_of_ble_eq_true rfl) ⟨Nat.le_of_ble_eq_true rfl, Nat.le_of_ble_eq_true rfl⟩ dX9_start_41 ?_
  refine wp_aload_n (pc := 44) C 0 dX9_start_44 rfl rfl ?_
  obtain ⟨g11, h⟩ := gd_some h
  refine wp_getD (pc := 45) C flX9_9 rfl g11.1 (Nat.le_of_ble_eq_true rfl) rfl dX9_start_45 ?_
  refine wp_aload_n (pc := 48) C 0 dX9_start_48 rfl rfl ?_
  refine wp_getI (pc := 49) C flX9_27 rfl (Nat.le_of_ble_eq_true rfl) rfl dX9_start_49 ?_
  refine wp_aload_n (pc := 52) C 0 dX9_start_52 rfl rfl ?_
  refine wp_getS (v := 245) (pc := 53) C flX9_17 rfl rfl (Nat.le_of_ble_eq_true rfl) (Nat.le_of_ble_eq_true rfl) rfl dX9_start_53 ?_
  refine wp_iconst (v := 0) (pc := 56) C dX9_start_56 (by decide) ?_
  obtain ⟨g12, h⟩ := gd_some h
  obtain ⟨g13, h⟩ := gd_some h
  refine wp_aald (t0 := 5) (pc := 57) C (Nat.le_of_ble_eq_true rfl) rfl (by decide) rfl rfl g12 g13.1 dX9_start_57 ?_
  obtain ⟨S14, r15, cS14, h⟩ := bd_some h
  refine wp_callVv (As := [.int (S9.1 244 3), .ref (gA G (srX 245 (Int32.toNatClampNeg 0)))]) (st := []) (pc := 58) C (CtX0_layGround cS14) mX0_layGround iX0_layGround kX9_52 g11.1 g11.2 (by decide) rfl rfl rfl rfl (Nat.le_of_ble_eq_true rfl) ⟨Nat.le_of_ble_eq_true rfl, Nat.le_of_ble_eq_true rfl⟩ dX9_start_58 ?_
  exact rt_v C rfl h dX9_start_61
theorem CtX9_start {n : Nat} {S S' : St} {r : Unit} {a1 : Nat} {x2 : Int32} {x3 : Int32} {x4 : Int32} (h : fX9_start n S a1 x2 x3 x4 = some (S', r)) : Ct l sdX cy ad D yX9_start cX9_start 5 none 1 24 [.ref (ad 244), .ref (ad a1), .int x2, .int x3, .int x4] S none S' :=
  Ct_of (own := RX9) mX9_start rfl (Nat.le_of_ble_eq_true rfl) (fun G e1 e2 e3 e4 C => by subst e1 e2 e3 e4; exact wX9_start C h)
def fX4_start (n : Nat) (S : St) (x1 : Int32) (x2 : Int32) : Option (St × Int32) :=
  bn (sI S 243 15 0) (fun S1 : St =>
  if (S1.1 243 13) = 0 then
    some (S1, (-1))
  else
    if x1 = 0 then
      some (S1, (-1))
    else
      if (S1.1 243 14) ≤ x2 then
        gd (isK sdX (S1.2.2 243 0) 0) (
        bd (fX9_start n S1 (S1.2.2 243 0) (S1.1 243 4) (S1.1 243 5) (S1.1 243 6)) (fun S3 r4 =>
        some (S3, 0)))
      else
        some (S1, (-2)))
set_option maxRecDepth 100000 in
set_option maxHeartbeats 4000000 in
theorem wX4_start (C : Cx G sdX cX4_start 3 RX4 (some .int)) {n : Nat} {S S' : St} {r : Int32} {x1 : Int32} {x2 : Int32} (h : fX4_start n S x1 x2 = some (S', r)) : Wp G sdX (rmOf 2 48) 3 (Qm G sdX (some (.int r)) S') S 0 [(0, .ref (gA G 243)), (1, .int x1), (2, .int x2)] [] := by
  unfold fX4_start at h
  refine wp_aload_n (pc := 0) C 0 dX4_start_0 rfl rfl ?_
  refine wp_iconst (v := 0) (pc := 1) C dX4_start_1 (by decide) ?_
  obtain ⟨S1, eS1, h⟩ := bn_some h
  refine wp_putZ (pc := 2) C (Or.inl rfl) eS1 flX4_50 fpX4_15 rfl (Nat.le_of_ble_eq_true rfl) rfl dX4_start_2 ?_
  refine wp_aload_n (pc := 5) C 0 dX4_start_5 rfl rfl ?_
  refine wp_getI (pc := 6) C flX4_42 rfl (Nat.le_of_ble_eq_true rfl) rfl dX4_start_6 ?_
  refine wp_if_eq (pc := 9) C 16 dX4_start_9 (by decide) (fun q => ?_) (fun q => ?_)
  · have h := it_pos q h
    refine wp_iconst (v := (-1)) (pc := 16) C dX4_start_16 (by decide) ?_
    exact rt_i C rfl h dX4_start_17
  · have h := it_neg q h
    refine wp_iload_n (pc := 12) C 1 dX4_start_12 rfl rfl ?_
    refine wp_if_ne (pc := 13) C 18 dX4_start_13 (by decide) (fun q => ?_) (fun q => ?_)
    · have h := it_neg q h
      refine wp_aload_n (pc := 18) C 0 dX4_start_18 rfl rfl ?_
      refine wp_getI (pc := 19) C flX4_46 rfl (Nat.le_of_ble_eq_true rfl) rfl dX4_start_19 ?_
      refine wp_iload_n (pc := 22) C 2 dX4_start_22 rfl rfl ?_
      refine wp_icmp_le (pc := 23) C 29 dX4_start_23 (by decide) (fun q => ?_) (fun q => ?_)
      · have h := it_pos q h
        refine wp_aload_n (pc := 29) C 0 dX4_start_29 rfl rfl ?_
        refine wp_getS (v := 244) (pc := 30) C flX4_24 rfl rfl (Nat.le_of_ble_eq_true rfl) (Nat.le_of_ble_eq_true rfl) rfl dX4_start_30 ?_
        refine wp_aload_n (pc := 33) C 0 dX4_start_33 rfl rfl ?_
        obtain ⟨g2, h⟩ := gd_some h
        refine wp_getD (pc := 34) C flX4_9 rfl g2.1 (Nat.le_of_ble_eq_true rfl) rfl dX4_start_34 ?_
        refine wp_aload_n (pc := 37) C 0 dX4_start_37 rfl rfl ?_
        refine wp_getI (pc := 38) C flX4_59 rfl (Nat.le_of_ble_eq_true rfl) rfl dX4_start_38 ?_
        refine wp_aload_n (pc := 41) C 0 dX4_start_41 rfl rfl ?_
        refine wp_getI (pc := 42) C flX4_62 rfl (Nat.le_of_ble_eq_true rfl) rfl dX4_start_42 ?_
        refine wp_aload_n (pc := 45) C 0 dX4_start_45 rfl rfl ?_
        refine wp_getI (pc := 46) C flX4_65 rfl (Nat.le_of_ble_eq_true rfl) rfl dX4_start_46 ?_
        obtain ⟨S3, r4, cS3, h⟩ := bd_some h
        refine wp_callVv (As := [.ref (gA G (S1.2.2 243 0)), .int (S1.1 243 4), .int (S1.1 243 5), .int (S1.1 243 6)]) (st := []) (pc := 49) C (CtX9_start cS3) mX9_start iX9_start kX4_90 (Nat.le_of_ble_eq_true rfl) rfl (by decide) rfl rfl rfl rfl (Nat.le_of_ble_eq_true rfl) ⟨Nat.le_of_ble_eq_true rfl, Nat.le_of_ble_eq_true rfl⟩ dX4_start_49 ?_
        refine wp_iconst (v := 0) (pc := 52) C dX4_start_52 (by decide) ?_
        exact rt_i C rfl h dX4_start_53
      · have h := it_neg q h
        refine wp_bipush (v := (-2)) (pc := 26) C dX4_start_26 (by decide) ?_
        exact rt_i C rfl h dX4_start_28
    · have h := it_pos q h
      refine wp_iconst (v := (-1)) (pc := 16) C dX4_start_16 (by decide) ?_
      exact rt_i C rfl h dX4_start_17
theorem CtX4_start {n : Nat} {S S' : St} {r : Int32} {x1 : Int32} {x2 : Int32} (h : fX4_start n S x1 x2 = some (S', r)) : Ct l sdX cy ad D yX4_start cX4_start 3 (some .int) 2 48 [.ref (ad 243), .int x1, .int x2] S (some (.int r)) S' :=
  Ct_of (own := RX4) mX4_start rfl (Nat.le_of_ble_eq_true rfl) (fun G e1 e2 e3 e4 C => by subst e1 e2 e3 e4; exact wX4_start C h)
def fX4_keep (n : Nat) (S : St) : Option (St × Unit) :=
  bn (sI S 243 15 1) (fun S1 : St =>
  bn (sI S1 243 7 (S1.1 244 9)) (fun S2 : St =>
  bn (sI S2 243 8 (S2.1 244 8)) (fun S3 : St =>
  gd (¬ (0 : Int32) < 0 ∧ ¬ (0 : Int32) < 0 ∧ ¬ (8 : Int32) < 0 ∧ (Int32.toNatClampNeg 0) + (Int32.toNatClampNeg 8) ≤ 8 ∧ (Int32.toNatClampNeg 0) + (Int32.toNatClampNeg 8) ≤ 8) (
  bn (cI S3 256 260 (Int32.toNatClampNeg 0) (Int32.toNatClampNeg 0) (Int32.toNatClampNeg 8)) (fun S5 : St =>
  some (S5, ()))))))
set_option maxRecDepth 100000 in
set_option maxHeartbeats 4000000 in
theorem wX4_keep (C : Cx G sdX cX4_keep 1 RX4 none) {n : Nat} {S S' : St} {r : Unit} (h : fX4_keep n S = some (S', r)) : Wp G sdX (rmOf 1 26) 1 (Qm G sdX none S') S 0 [(0, .ref (gA G 243))] [] := by
  unfold fX4_keep at h
  refine wp_aload_n (pc := 0) C 0 dX4_keep_0 rfl rfl ?_
  refine wp_iconst (v := 1) (pc := 1) C dX4_keep_1 (by decide) ?_
  obtain ⟨S1, eS1, h⟩ := bn_some h
  refine wp_putZ (pc := 2) C (Or.inr rfl) eS1 flX4_50 fpX4_15 rfl (Nat.le_of_ble_eq_true rfl) rfl dX4_keep_2 ?_
  refine wp_aload_n (pc := 5) C 0 dX4_keep_5 rfl rfl ?_
  refine wp_aload_n (pc := 6) C 0 dX4_keep_6 rfl rfl ?_
  refine wp_getS (v := 244) (pc := 7) C flX4_24 rfl rfl (Nat.le_of_ble_eq_true rfl) (Nat.le_of_ble_eq_true rfl) rfl dX4_keep_7 ?_
  refine wp_getI (pc := 10) C flX4_94 rfl (Nat.le_of_ble_eq_true rfl) rfl dX4_keep_10 ?_
  obtain ⟨S2, eS2, h⟩ := bn_some h
  refine wp_putI (pc := 13) C eS2 flX4_97 fpX4_7 rfl (Nat.le_of_ble_eq_true rfl) rfl dX4_keep_13 ?_
  refine wp_aload_n (pc := 16) C 0 dX4_keep_16 rfl rfl ?_
  refine wp_aload_n (pc := 17) C 0 dX4_keep_17 rfl rfl ?_
  refine wp_getS (v := 244) (pc := 18) C flX4_24 rfl rfl (Nat.le_of_ble_eq_true rfl) (Nat.le_of_ble_eq_true rfl) rfl dX4_keep_18 ?_
  refine wp_getI (pc := 21) C flX4_100 rfl (Nat.le_of_ble_eq_true rfl) rfl dX4_keep_21 ?_
  obtain ⟨S3, eS3, h⟩ := bn_some h
  refine wp_putI (pc := 24) C eS3 flX4_103 fpX4_8 rfl (Nat.le_of_ble_eq_true rfl) rfl dX4_keep_24 ?_
  refine wp_aload_n (pc := 27) C 0 dX4_keep_27 rfl rfl ?_
  refine wp_getS (v := 244) (pc := 28) C flX4_24 rfl rfl (Nat.le_of_ble_eq_true rfl) (Nat.le_of_ble_eq_true rfl) rfl dX4_keep_28 ?_
  refine wp_getS (v := 256) (pc := 31) C flX4_106 rfl rfl (Nat.le_of_ble_eq_true rfl) (Nat.le_of_ble_eq_true rfl) rfl dX4_keep_31 ?_
  refine wp_iconst (v := 0) (pc := 34) C dX4_keep_34 (by decide) ?_
  refine wp_aload_n (pc := 35) C 0 dX4_keep_35 rfl rfl ?_
  refine wp_getS (v := 260) (pc := 36) C flX4_38 rfl rfl (Nat.le_of_ble_eq_true rfl) (Nat.le_of_ble_eq_true rfl) rfl dX4_keep_36 ?_
  refine wp_iconst (v := 0) (pc := 39) C dX4_keep_39 (by decide) ?_
  refine wp_bipush (v := 8) (pc := 40) C dX4_keep_40 (by decide) ?_
  obtain ⟨g4, h⟩ := gd_some h
  obtain ⟨S5, eS5, h⟩ := bn_some h
  refine wp_copyI (pc := 42) C eS5 kX4_109 acN acS acI (Nat.le_of_ble_eq_true rfl) rfl (Nat.le_of_ble_eq_true rfl) rfl g4.1 g4.2.1 g4.2.2.1 g4.2.2.2.1 g4.2.2.2.2 (Nat.le_of_ble_eq_true rfl) (Nat.le_of_ble_eq_true rfl) dX4_keep_42 ?_
  exact rt_v C rfl h dX4_keep_45
theorem CtX4_keep {n : Nat} {S S' : St} {r : Unit} (h : fX4_keep n S = some (S', r)) : Ct l sdX cy ad D yX4_keep cX4_keep 1 none 1 26 [.ref (ad 243)] S none S' :=
  Ct_of (own := RX4) mX4_keep rfl (Nat.le_of_ble_eq_true rfl) (fun G e1 e2 e3 e4 C => by subst e1 e2 e3 e4; exact wX4_keep C h)
def fX4_isPreferred_j49 (n : Nat) (S : St) : Option (St × Int32) :=
  some (S, 1)
set_option maxRecDepth 100000 in
set_option maxHeartbeats 4000000 in
theorem wX4_isPreferred_j49 (C : Cx G sdX cX4_isPreferred 1 RX4 (some .boolean)) {n : Nat} {S S' : St} {r : Int32} (h : fX4_isPreferred_j49 n S = some (S', r)) : Wp G sdX (rmOf 0 0) 1 (Qm G sdX (some (.int r)) S') S 49 [] [] := by
  unfold fX4_isPreferred_j49 at h
  refine wp_iconst (v := 1) (pc := 49) C dX4_isPreferred_49 (by decide) ?_
  refine wp_goto (pc := 50) C 54 dX4_isPreferred_50 (by decide) ?_
  exact rt_z C (Or.inr rfl) rfl h dX4_isPreferred_54
def fX4_isPreferred (n : Nat) (S : St) : Option (St × Int32) :=
  if (S.1 243 15) = 0 then
    fX4_isPreferred_j49 n S
  else
    if (S.1 244 9) < (S.1 243 7) then
      fX4_isPreferred_j49 n S
    else
      if (S.1 244 9) = (S.1 243 7) then
        if (S.1 243 8) ≤ (S.1 244 8) then
          some (S, 0)
        else
          fX4_isPreferred_j49 n S
      else
        some (S, 0)
set_option maxRecDepth 100000 in
set_option maxHeartbeats 4000000 in
theorem wX4_isPreferred (C : Cx G sdX cX4_isPreferred 1 RX4 (some .boolean)) {n : Nat} {S S' : St} {r : Int32} (h : fX4_isPreferred n S = some (S', r)) : Wp G sdX (rmOf 0 0) 1 (Qm G sdX (some (.int r)) S') S 0 [(0, .ref (gA G 243))] [] := by
  unfold fX4_isPreferred at h
  refine wp_aload_n (pc := 0) C 0 dX4_isPreferred_0 rfl rfl ?_
  refine wp_getI (pc := 1) C flX4_50 rfl (Nat.le_of_ble_eq_true rfl) rfl dX4_isPreferred_1 ?_
  refine wp_if_eq (pc := 4) C 49 dX4_isPreferred_4 (by decide) (fun q => ?_) (fun q => ?_)
  · have h := it_pos q h
    exact wp_sub C [] rfl (wX4_isPreferred_j49 C h)
  · have h := it_neg q h
    refine wp_aload_n (pc := 7) C 0 dX4_isPreferred_7 rfl rfl ?_
    refine wp_getS (v := 244) (pc := 8) C flX4_24 rfl rfl (Nat.le_of_ble_eq_true rfl) (Nat.le_of_ble_eq_true rfl) rfl dX4_isPreferred_8 ?_
    refine wp_getI (pc := 11) C flX4_94 rfl (Nat.le_of_ble_eq_true rfl) rfl dX4_isPreferred_11 ?_
    refine wp_aload_n (pc := 14) C 0 dX4_isPreferred_14 rfl rfl ?_
    refine wp_getI (pc := 15) C flX4_97 rfl (Nat.le_of_ble_eq_true rfl) rfl dX4_isPreferred_15 ?_
    refine wp_icmp_lt (pc := 18) C 49 dX4_isPreferred_18 (by decide) (fun q => ?_) (fun q => ?_)
    · have h := it_pos q h
      exact wp_sub C [] rfl (wX4_isPreferred_j49 C h)
    · have h := it_neg q h
      refine wp_aload_n (pc := 21) C 0 dX4_isPreferred_21 rfl rfl ?_
      refine wp_getS (v := 244) (pc := 22) C flX4_24 rfl rfl (Nat.le_of_ble_eq_true rfl) (Nat.le_of_ble_eq_true rfl) rfl dX4_isPreferred_22 ?_
      refine wp_getI (pc := 25) C flX4_94 rfl (Nat.le_of_ble_eq_true rfl) rfl dX4_isPreferred_25 ?_
      refine wp_aload_n (pc := 28) C 0 dX4_isPreferred_28 rfl rfl ?_
      refine wp_getI (pc := 29) C flX4_97 rfl (Nat.le_of_ble_eq_true rfl) rfl dX4_isPreferred_29 ?_
      refine wp_icmp_ne (pc := 32) C 53 dX4_isPreferred_32 (by decide) (fun q => ?_) (fun q => ?_)
      · have h := it_neg q h
        refine wp_iconst (v := 0) (pc := 53) C dX4_isPreferred_53 (by decide) ?_
        exact rt_z C (Or.inl rfl) rfl h dX4_isPreferred_54
      · have h := it_pos q h
        refine wp_aload_n (pc := 35) C 0 dX4_isPreferred_35 rfl rfl ?_
        refine wp_getS (v := 244) (pc := 36) C flX4_24 rfl rfl (Nat.le_of_ble_eq_true rfl) (Nat.le_of_ble_eq_true rfl) rfl dX4_isPreferred_36 ?_
        refine wp_getI (pc := 39) C flX4_100 rfl (Nat.le_of_ble_eq_true rfl) rfl dX4_isPreferred_39 ?_
        refine wp_aload_n (pc := 42) C 0 dX4_isPreferred_42 rfl rfl ?_
        refine wp_getI (pc := 43) C flX4_103 rfl (Nat.le_of_ble_eq_true rfl) rfl dX4_isPreferred_43 ?_
        refine wp_icmp_ge (pc := 46) C 53 dX4_isPreferred_46 (by decide) (fun q => ?_) (fun q => ?_)
        · have h := it_pos q h
          refine wp_iconst (v := 0) (pc := 53) C dX4_isPreferred_53 (by decide) ?_
          exact rt_z C (Or.inl rfl) rfl h dX4_isPreferred_54
        · have h := it_neg q h
          exact wp_sub C [] rfl (wX4_isPreferred_j49 C h)
theorem CtX4_isPreferred {n : Nat} {S S' : St} {r : Int32} (h : fX4_isPreferred n S = some (S', r)) : Ct l sdX cy ad D yX4_isPreferred cX4_isPreferred 1 (some .boolean) 0 0 [.ref (ad 243)] S (some (.int r)) S' :=
  Ct_of (own := RX4) mX4_isPreferred rfl (Nat.le_of_ble_eq_true rfl) (fun G e1 e2 e3 e4 C => by subst e1 e2 e3 e4; exact wX4_isPreferred C h)
def fX9_thrownBack (n : Nat) (S : St) : Option (St × Nat) :=
  gd (isK sdX (S.2.2 244 2) 0) (
  gd (ib (S.1 244 6) 9) (
  gd (isK sdX (srX 245 (Int32.toNatClampNeg (S.1 244 6))) 13) (
  bd (fX0_settle sdX n S (S.2.2 244 2) (srX 245 (Int32.toNatClampNeg (S.1 244 6))) 255) (fun S4 r5 =>
  some (S4, 255)))))
set_option maxRecDepth 100000 in
set_option maxHeartbeats 4000000 in
theorem wX9_thrownBack (C : Cx G sdX cX9_thrownBack 1 RX9 (some (.array .int))) {n : Nat} {S S' : St} {r : Nat} (h : fX9_thrownBack n S = some (S', r)) : Wp G sdX (rmOf 1 25) 1 (Qm G sdX (some (.ref (gA G r))) S') S 0 [(0, .ref (gA G 244))] [] := by
  unfold fX9_thrownBack at h
  refine wp_aload_n (pc := 0) C 0 dX9_thrownBack_0 rfl rfl ?_
  obtain ⟨g1, h⟩ := gd_some h
  refine wp_getD (pc := 1) C flX9_9 rfl g1.1 (Nat.le_of_ble_eq_true rfl) rfl dX9_thrownBack_1 ?_
  refine wp_aload_n (pc := 4) C 0 dX9_thrownBack_4 rfl rfl ?_
  refine wp_getS (v := 245) (pc := 5) C flX9_17 rfl rfl (Nat.le_of_ble_eq_true rfl) (Nat.le_of_ble_eq_true rfl) rfl dX9_thrownBack_5 ?_
  refine wp_aload_n (pc := 8) C 0 dX9_thrownBack_8 rfl rfl ?_
  refine wp_getI (pc := 9) C flX9_37 rfl (Nat.le_of_ble_eq_true rfl) rfl dX9_thrownBack_9 ?_
  obtain ⟨g2, h⟩ := gd_some h
  obtain ⟨g3, h⟩ := gd_some h
  refine wp_aald (t0 := 5) (pc := 12) C (Nat.le_of_ble_eq_true rfl) rfl (by decide) rfl rfl g2 g3.1 dX9_thrownBack_12 ?_
  refine wp_aload_n (pc := 13) C 0 dX9_thrownBack_13 rfl rfl ?_
  refine wp_getS (v := 255) (pc := 14) C flX9_20 rfl rfl (Nat.le_of_ble_eq_true rfl) (Nat.le_of_ble_eq_true rfl) rfl dX9_thrownBack_14 ?_
  obtain ⟨S4, r5, cS4, h⟩ := bd_some h
  refine wp_callVv (As := [.ref (gA G (srX 245 (Int32.toNatClampNeg (S.1 244 6)))), .ref (gA G 255)]) (st := []) (pc := 17) C (CtX0_settle cS4) mX0_settle iX0_settle kX9_81 g1.1 g1.2 (by decide) rfl rfl rfl rfl (Nat.le_of_ble_eq_true rfl) ⟨Nat.le_of_ble_eq_true rfl, Nat.le_of_ble_eq_true rfl⟩ dX9_thrownBack_17 ?_
  refine wp_aload_n (pc := 20) C 0 dX9_thrownBack_20 rfl rfl ?_
  refine wp_getS (v := 255) (pc := 21) C flX9_20 rfl rfl (Nat.le_of_ble_eq_true rfl) (Nat.le_of_ble_eq_true rfl) rfl dX9_thrownBack_21 ?_
  exact rt_r C rfl h dX9_thrownBack_24
theorem CtX9_thrownBack {n : Nat} {S S' : St} {r : Nat} (h : fX9_thrownBack n S = some (S', r)) : Ct l sdX cy ad D yX9_thrownBack cX9_thrownBack 1 (some (.array .int)) 1 25 [.ref (ad 244)] S (some (.ref (ad r))) S' :=
  Ct_of (own := RX9) mX9_thrownBack rfl (Nat.le_of_ble_eq_true rfl) (fun G e1 e2 e3 e4 C => by subst e1 e2 e3 e4; exact wX9_thrownBack C h)
def fX4_isMatch_j63 (n : Nat) (k11 : St → Int32 → Int32 → Nat → Int32 → Option (St × Int32)) (S : St) (x1 : Int32) (x2 : Int32) (a3 : Nat) (x4 : Int32) : Option (St × Int32) :=
  bn (x4 + 1) (fun z1 : Int32 =>
  k11 S x1 x2 a3 z1)
set_option maxRecDepth 100000 in
set_option maxHeartbeats 4000000 in
theorem wX4_isMatch_j63 (C : Cx G sdX cX4_isMatch 5 RX4 (some .boolean)) {n : Nat} {k11 : St → Int32 → Int32 → Nat → Int32 → Option (St × Int32)} {S S' : St} {r : Int32} {x1 : Int32} {x2 : Int32} {a3 : Nat} {x4 : Int32} (hk11 : ∀ (S : St) (x1 : Int32) (x2 : Int32) (a3 : Nat) (x4 : Int32), k11 S x1 x2 a3 x4 = some (S', r) → Wp G sdX (rmOf 3 79) 5 (Qm G sdX (some (.int r)) S') S 11 [(0, .ref (gA G 243)), (1, .int x1), (2, .int x2), (3, .ref (gA G a3)), (4, .int x4)] []) (h : fX4_isMatch_j63 n k11 S x1 x2 a3 x4 = some (S', r)) : Wp G sdX (rmOf 3 79) 5 (Qm G sdX (some (.int r)) S') S 63 [(0, .ref (gA G 243)), (1, .int x1), (2, .int x2), (3, .ref (gA G a3)), (4, .int x4)] [] := by
  unfold fX4_isMatch_j63 at h
  obtain ⟨z1, ez1, h⟩ := bn_some h
  refine wp_iinc (q := 4) (pc := 63) C (by decide) ez1 [(4, .int z1), (0, .ref (gA G 243)), (1, .int x1), (2, .int x2), (3, .ref (gA G a3))] dX4_isMatch_63 rfl (Nat.le_of_ble_eq_true rfl) rfl ?_
  refine wp_goto (pc := 66) C 11 dX4_isMatch_66 (by decide) ?_
  exact wp_sub C [1, 2, 3, 4, 0] rfl (hk11 _ _ _ _ _ h)
def fX4_isMatch_l11 (n : Nat) : Nat → St → Int32 → Int32 → Nat → Int32 → Option (St × Int32)
  | 0, _, _, _, _, _ => none
  | j + 1, S, x1, x2, a3, x4 =>
    gd (isK sdX (S.2.2 243 0) 0) (
    gd (isK sdX (srX (S.2.2 243 0) 2) 5) (
    if (S.1 (srX (S.2.2 243 0) 2) 3) ≤ x4 then
      some (S, 1)
    else
      if ((x1 >>> (x4 &&& 31)) &&& 1) = 0 then
        fX4_isMatch_j63 n (fX4_isMatch_l11 n j) S x1 x2 a3 x4
      else
        gd (ib (S.1 243 3) 72) (
        gd (isK sdX (srX 160 (Int32.toNatClampNeg (S.1 243 3))) 13) (
        bd (fX0_areAlike sdX n S (S.2.2 243 0) a3 (srX 160 (Int32.toNatClampNeg (S.1 243 3))) x4 x2) (fun S5 r6 =>
        if r6 = 0 then
          some (S5, 0)
        else
          fX4_isMatch_j63 n (fX4_isMatch_l11 n j) S5 x1 x2 a3 x4)))))
set_option maxRecDepth 100000 in
set_option maxHeartbeats 4000000 in
theorem wX4_isMatch_l11 (C : Cx G sdX cX4_isMatch 5 RX4 (some .boolean)) {n : Nat} {S' : St} {r : Int32} : ∀ (j : Nat) (S : St) (x1 : Int32) (x2 : Int32) (a3 : Nat) (x4 : Int32), fX4_isMatch_l11 n j S x1 x2 a3 x4 = some (S', r) → Wp G sdX (rmOf 3 79) 5 (Qm G sdX (some (.int r)) S') S 11 [(0, .ref (gA G 243)), (1, .int x1), (2, .int x2), (3, .ref (gA G a3)), (4, .int x4)] [] := by
  intro j
  induction j with
  | zero =>
    intro S x1 x2 a3 x4 h
    exact nomatch (show (none : Option (St × Int32)) = some _ from h)
  | succ j ih =>
    intro S x1 x2 a3 x4 h
    rw [fX4_isMatch_l11] at h
    refine wp_iload (pc := 11) C 4 dX4_isMatch_11 rfl ?_
    refine wp_aload_n (pc := 13) C 0 dX4_isMatch_13 rfl rfl ?_
    obtain ⟨g1, h⟩ := gd_some h
    refine wp_getD (pc := 14) C flX4_9 rfl g1.1 (Nat.le_of_ble_eq_true rfl) rfl dX4_isMatch_14 ?_
    obtain ⟨g2, h⟩ := gd_some h
    refine wp_getS (v := srX (S.2.2 243 0) 2) (pc := 17) C flX4_87 rfl rfl g2.1 g1.1 g1.2 dX4_isMatch_17 ?_
    refine wp_getI (pc := 20) C flX4_78 rfl g2.1 g2.2 dX4_isMatch_20 ?_
    refine wp_icmp_ge (pc := 23) C 69 dX4_isMatch_23 (by decide) (fun q => ?_) (fun q => ?_)
    · have h := it_pos q h
      refine wp_iconst (v := 1) (pc := 69) C dX4_isMatch_69 (by decide) ?_
      exact rt_z C (Or.inr rfl) rfl h dX4_isMatch_70
    · have h := it_neg q h
      refine wp_iload_n (pc := 26) C 1 dX4_isMatch_26 rfl rfl ?_
      refine wp_iload (pc := 27) C 4 dX4_isMatch_27 rfl ?_
      refine wp_ishr (pc := 29) C dX4_isMatch_29 ?_
      refine wp_iconst (v := 1) (pc := 30) C dX4_isMatch_30 (by decide) ?_
      refine wp_iand (pc := 31) C dX4_isMatch_31 ?_
      refine wp_if_eq (pc := 32) C 63 dX4_isMatch_32 (by decide) (fun q => ?_) (fun q => ?_)
      · have h := it_pos q h
        exact (wX4_isMatch_j63 C ih h)
      · have h := it_neg q h
        refine wp_aload_n (pc := 35) C 0 dX4_isMatch_35 rfl rfl ?_
        refine wp_getD (pc := 36) C flX4_9 rfl g1.1 (Nat.le_of_ble_eq_true rfl) rfl dX4_isMatch_36 ?_
        refine wp_aload_n (pc := 39) C 3 dX4_isMatch_39 rfl rfl ?_
        refine wp_aload_n (pc := 40) C 0 dX4_isMatch_40 rfl rfl ?_
        refine wp_getS (v := 157) (pc := 41) C flX4_15 rfl rfl (Nat.le_of_ble_eq_true rfl) (Nat.le_of_ble_eq_true rfl) rfl dX4_isMatch_41 ?_
        refine wp_getS (v := 160) (pc := 44) C flX4_141 rfl rfl (Nat.le_of_ble_eq_true rfl) (Nat.le_of_ble_eq_true rfl) rfl dX4_isMatch_44 ?_
        refine wp_aload_n (pc := 47) C 0 dX4_isMatch_47 rfl rfl ?_
        refine wp_getI (pc := 48) C flX4_56 rfl (Nat.le_of_ble_eq_true rfl) rfl dX4_isMatch_48 ?_
        obtain ⟨g3, h⟩ := gd_some h
        obtain ⟨g4, h⟩ := gd_some h
        refine wp_aald (t0 := 5) (pc := 51) C (Nat.le_of_ble_eq_true rfl) rfl (by decide) rfl rfl g3 g4.1 dX4_isMatch_51 ?_
        refine wp_iload (pc := 52) C 4 dX4_isMatch_52 rfl ?_
        refine wp_iload_n (pc := 54) C 2 dX4_isMatch_54 rfl rfl ?_
        obtain ⟨S5, r6, cS5, h⟩ := bd_some h
        refine wp_callVi (As := [.ref (gA G a3), .ref (gA G (srX 160 (Int32.toNatClampNeg (S.1 243 3)))), .int x4, .int x2]) (st := []) (pc := 55) C (CtX0_areAlike cS5) mX0_areAlike iX0_areAlike kX4_147 g1.1 g1.2 (by decide) rfl rfl rfl rfl (Nat.le_of_ble_eq_true rfl) ⟨Nat.le_of_ble_eq_true rfl, Nat.le_of_ble_eq_true rfl⟩ dX4_isMatch_55 ?_
        refine wp_if_ne (pc := 58) C 63 dX4_isMatch_58 (by decide) (fun q => ?_) (fun q => ?_)
        · have h := it_neg q h
          exact (wX4_isMatch_j63 C ih h)
        · have h := it_pos q h
          refine wp_iconst (v := 0) (pc := 61) C dX4_isMatch_61 (by decide) ?_
          exact rt_z C (Or.inl rfl) rfl h dX4_isMatch_62
def fX4_isMatch (n : Nat) (S : St) (x1 : Int32) (x2 : Int32) : Option (St × Int32) :=
  bd (fX9_thrownBack n S) (fun S1 r2 =>
  fX4_isMatch_l11 n n S1 x1 x2 r2 0)
set_option maxRecDepth 100000 in
set_option maxHeartbeats 4000000 in
theorem wX4_isMatch (C : Cx G sdX cX4_isMatch 5 RX4 (some .boolean)) {n : Nat} {S S' : St} {r : Int32} {x1 : Int32} {x2 : Int32} (h : fX4_isMatch n S x1 x2 = some (S', r)) : Wp G sdX (rmOf 3 79) 5 (Qm G sdX (some (.int r)) S') S 0 [(0, .ref (gA G 243)), (1, .int x1), (2, .int x2)] [] := by
  unfold fX4_isMatch at h
  refine wp_aload_n (pc := 0) C 0 dX4_isMatch_0 rfl rfl ?_
  refine wp_getS (v := 244) (pc := 1) C flX4_24 rfl rfl (Nat.le_of_ble_eq_true rfl) (Nat.le_of_ble_eq_true rfl) rfl dX4_isMatch_1 ?_
  obtain ⟨S1, r2, cS1, h⟩ := bd_some h
  refine wp_callVrR (As := []) (st := []) (pc := 4) C (CtX9_thrownBack cS1) mX9_thrownBack iX9_thrownBack kX4_137 (Nat.le_of_ble_eq_true rfl) rfl (by decide) rfl rfl rfl rfl (Nat.le_of_ble_eq_true rfl) ⟨Nat.le_of_ble_eq_true rfl, Nat.le_of_ble_eq_true rfl⟩ dX4_isMatch_4 ?_
  refine wp_astore_n (pc := 7) C rfl [(3, .ref (gA G r2)), (0, .ref (gA G 243)), (1, .int x1), (2, .int x2)] dX4_isMatch_7 rfl (Nat.le_of_ble_eq_true rfl) rfl ?_
  refine wp_iconst (v := 0) (pc := 8) C dX4_isMatch_8 (by decide) ?_
  refine wp_istore (pc := 9) C rfl [(4, .int 0), (3, .ref (gA G r2)), (0, .ref (gA G 243)), (1, .int x1), (2, .int x2)] dX4_isMatch_9 (Nat.le_of_ble_eq_true rfl) rfl ?_
  exact wp_sub C [2, 3, 4, 1, 0] rfl (wX4_isMatch_l11 C _ _ _ _ _ _ h)
theorem CtX4_isMatch {n : Nat} {S S' : St} {r : Int32} {x1 : Int32} {x2 : Int32} (h : fX4_isMatch n S x1 x2 = some (S', r)) : Ct l sdX cy ad D yX4_isMatch cX4_isMatch 5 (some .boolean) 3 79 [.ref (ad 243), .int x1, .int x2] S (some (.int r)) S' :=
  Ct_of (own := RX4) mX4_isMatch rfl (Nat.le_of_ble_eq_true rfl) (fun G e1 e2 e3 e4 C => by subst e1 e2 e3 e4; exact wX4_isMatch C h)
def fX9_raise_j33 (n : Nat) (S : St) (x1 : Int32) (x2 : Int32) : Option (St × Unit) :=
  gd (isK sdX (S.2.2 244 2) 0) (
  gd (ib x2 9) (
  gd (isK sdX (srX 245 (Int32.toNatClampNeg x2)) 13) (
  gd (ib (S.1 244 6) 9) (
  gd (isK sdX (srX 245 (Int32.toNatClampNeg (S.1 244 6))) 13) (
  bd (fX0_addPart sdX n S (S.2.2 244 2) (S.1 244 3) x1 (srX 245 (Int32.toNatClampNeg x2)) (srX 245 (Int32.toNatClampNeg (S.1 244 6)))) (fun S6 r7 =>
  gd (ib x1 8) (
  gd (ib x1 8) (
  bn (sI S6 256 (Int32.toNatClampNeg x1) ((S6.1 256 (Int32.toNatClampNeg x1)) + 1)) (fun S10 : St =>
  bn (sI S10 244 8 ((S10.1 244 8) + 1)) (fun S11 : St =>
  gd (isK sdX (S11.2.2 244 2) 0) (
  gd (isK sdX (srX (S11.2.2 244 2) 5) 13) (
  gd (ib x1 (sdX.2.2.1 (srX (S11.2.2 244 2) 5))) (
  bn (sI S11 244 9 ((S11.1 244 9) + (S11.1 (srX (S11.2.2 244 2) 5) (Int32.toNatClampNeg x1)))) (fun S15 : St =>
  some (S15, ())))))))))))))))
set_option maxRecDepth 100000 in
set_option maxHeartbeats 4000000 in
theorem wX9_raise_j33 (C : Cx G sdX cX9_raise 3 RX9 none) {n : Nat} {S S' : St} {r : Unit} {x1 : Int32} {x2 : Int32} (h : fX9_raise_j33 n S x1 x2 = some (S', r)) : Wp G sdX (rmOf 1 27) 3 (Qm G sdX none S') S 33 [(0, .ref (gA G 244)), (1, .int x1), (2, .int x2)] [] := by
  unfold fX9_raise_j33 at h
  refine wp_aload_n (pc := 33) C 0 dX9_raise_33 rfl rfl ?_
  obtain ⟨g1, h⟩ := gd_some h
  refine wp_getD (pc := 34) C flX9_9 rfl g1.1 (Nat.le_of_ble_eq_true rfl) rfl dX9_raise_34 ?_
  refine wp_aload_n (pc := 37) C 0 dX9_raise_37 rfl rfl ?_
  refine wp_getI (pc := 38) C flX9_27 rfl (Nat.le_of_ble_eq_true rfl) rfl dX9_raise_38 ?_
  refine wp_iload_n (pc := 41) C 1 dX9_raise_41 rfl rfl ?_
  refine wp_aload_n (pc := 42) C 0 dX9_raise_42 rfl rfl ?_
  refine wp_getS (v := 245) (pc := 43) C flX9_17 rfl rfl (Nat.le_of_ble_eq_true rfl) (Nat.le_of_ble_eq_true rfl) rfl dX9_raise_43 ?_
  refine wp_iload_n (pc := 46) C 2 dX9_raise_46 rfl rfl ?_
  obtain ⟨g2, h⟩ := gd_some h
  obtain ⟨g3, h⟩ := gd_some h
  refine wp_aald (t0 := 5) (pc := 47) C (Nat.le_of_ble_eq_true rfl) rfl (by decide) rfl rfl g2 g3.1 dX9_raise_47 ?_
  refine wp_aload_n (pc := 48) C 0 dX9_raise_48 rfl rfl ?_
  refine wp_getS (v := 245) (pc := 49) C flX9_17 rfl rfl (Nat.le_of_ble_eq_true rfl) (Nat.le_of_ble_eq_true rfl) rfl dX9_raise_49 ?_
  refine wp_aload_n (pc := 52) C 0 dX9_raise_52 rfl rfl ?_
  refine wp_getI (pc := 53) C flX9_37 rfl (Nat.le_of_ble_eq_true rfl) rfl dX9_raise_53 ?_
  obtain ⟨g4, h⟩ := gd_some h
  obtain ⟨g5, h⟩ := gd_some h
  refine wp_aald (t0 := 5) (pc := 56) C (Nat.le_of_ble_eq_true rfl) rfl (by decide) rfl rfl g4 g5.1 dX9_raise_56 ?_
  obtain ⟨S6, r7, cS6, h⟩ := bd_some h
  refine wp_callVv (As := [.int (S.1 244 3), .int x1, .ref (gA G (srX 245 (Int32.toNatClampNeg x2))), .ref (gA G (srX 245 (Int32.toNatClampNeg (S.1 244 6))))]) (st := []) (pc := 57) C (CtX0_addPart cS6) mX0_addPart iX0_addPart kX9_74 g1.1 g1.2 (by decide) rfl rfl rfl rfl (Nat.le_of_ble_eq_true rfl) ⟨Nat.le_of_ble_eq_true rfl, Nat.le_of_ble_eq_true rfl⟩ dX9_raise_57 ?_
  refine wp_aload_n (pc := 60) C 0 dX9_raise_60 rfl rfl ?_
  refine wp_getS (v := 256) (pc := 61) C flX9_24 rfl rfl (Nat.le_of_ble_eq_true rfl) (Nat.le_of_ble_eq_true rfl) rfl dX9_raise_61 ?_
  refine wp_iload_n (pc := 64) C 1 dX9_raise_64 rfl rfl ?_
  refine wp_dup2_11 (pc := 65) C dX9_raise_65 rfl rfl ?_
  obtain ⟨g8, h⟩ := gd_some h
  refine wp_iald (pc := 66) C (Nat.le_of_ble_eq_true rfl) rfl g8 dX9_raise_66 ?_
  refine wp_iconst (v := 1) (pc := 67) C dX9_raise_67 (by decide) ?_
  refine wp_iadd (pc := 68) C dX9_raise_68 ?_
  obtain ⟨g9, h⟩ := gd_some h
  obtain ⟨S10, eS10, h⟩ := bn_some h
  refine wp_iast (pc := 69) C eS10 (Nat.le_of_ble_eq_true rfl) rfl g9 dX9_raise_69 ?_
  refine wp_aload_n (pc := 70) C 0 dX9_raise_70 rfl rfl ?_
  refine wp_dup (pc := 71) C dX9_raise_71 rfl ?_
  refine wp_getI (pc := 72) C flX9_40 rfl (Nat.le_of_ble_eq_true rfl) rfl dX9_raise_72 ?_
  refine wp_iconst (v := 1) (pc := 75) C dX9_raise_75 (by decide) ?_
  refine wp_iadd (pc := 76) C dX9_raise_76 ?_
  obtain ⟨S11, eS11, h⟩ := bn_some h
  refine wp_putI (pc := 77) C eS11 flX9_40 fpX9_8 rfl (Nat.le_of_ble_eq_true rfl) rfl dX9_raise_77 ?_
  refine wp_aload_n (pc := 80) C 0 dX9_raise_80 rfl rfl ?_
  refine wp_dup (pc := 81) C dX9_raise_81 rfl ?_
  refine wp_getI (pc := 82) C flX9_43 rfl (Nat.le_of_ble_eq_true rfl) rfl dX9_raise_82 ?_
  refine wp_aload_n (pc := 85) C 0 dX9_raise_85 rfl rfl ?_
  obtain ⟨g12, h⟩ := gd_some h
  refine wp_getD (pc := 86) C flX9_9 rfl g12.1 (Nat.le_of_ble_eq_true rfl) rfl dX9_raise_86 ?_
  obtain ⟨g13, h⟩ := gd_some h
  refine wp_getS (v := srX (S11.2.2 244 2) 5) (pc := 89) C flX9_78 rfl rfl g13.1 g12.1 g12.2 dX9_raise_89 ?_
  refine wp_iload_n (pc := 92) C 1 dX9_raise_92 rfl rfl ?_
  obtain ⟨g14, h⟩ := gd_some h
  refine wp_iald (pc := 93) C g13.1 g13.2 g14 dX9_raise_93 ?_
  refine wp_iadd (pc := 94) C dX9_raise_94 ?_
  obtain ⟨S15, eS15, h⟩ := bn_some h
  refine wp_putI (pc := 95) C eS15 flX9_43 fpX9_9 rfl (Nat.le_of_ble_eq_true rfl) rfl dX9_raise_95 ?_
  exact rt_v C rfl h dX9_raise_98
def fX9_raise (n : Nat) (S : St) (x1 : Int32) : Option (St × Unit) :=
  bn (S.1 244 6) (fun z1 : Int32 =>
  gd (ib x1 8) (
  if (S.1 256 (Int32.toNatClampNeg x1)) = 0 then
    if 8 ≤ (S.1 244 6) then
      fX9_raise_j33 n S x1 z1
    else
      bn (sI S 244 6 ((S.1 244 6) + 1)) (fun S3 : St =>
      fX9_raise_j33 n S3 x1 z1)
  else
    fX9_raise_j33 n S x1 z1))
set_option maxRecDepth 100000 in
set_option maxHeartbeats 4000000 in
theorem wX9_raise (C : Cx G sdX cX9_raise 3 RX9 none) {n : Nat} {S S' : St} {r : Unit} {x1 : Int32} (h : fX9_raise n S x1 = some (S', r)) : Wp G sdX (rmOf 1 27) 3 (Qm G sdX none S') S 0 [(0, .ref (gA G 244)), (1, .int x1)] [] := by
  unfold fX9_raise at h
  refine wp_aload_n (pc := 0) C 0 dX9_raise_0 rfl rfl ?_
  refine wp_getI (pc := 1) C flX9_37 rfl (Nat.le_of_ble_eq_true rfl) rfl dX9_raise_1 ?_
  obtain ⟨z1, ez1, h⟩ := bn_some h
  refine wp_istore_n (pc := 4) C ez1 [(2, .int z1), (0, .ref (gA G 244)), (1, .int x1)] dX9_raise_4 rfl (Nat.le_of_ble_eq_true rfl) rfl ?_
  refine wp_aload_n (pc := 5) C 1 dX9_raise_5 rfl rfl ?_
  refine wp_getS (v := 256) (pc := 6) C flX9_24 rfl rfl (Nat.le_of_ble_eq_true rfl) (Nat.le_of_ble_eq_true rfl) rfl dX9_raise_6 ?_
  refine wp_iload_n (pc := 9) C 2 dX9_raise_9 rfl rfl ?_
  obtain ⟨g2, h⟩ := gd_some h
  refine wp_iald (pc := 10) C (Nat.le_of_ble_eq_true rfl) rfl g2 dX9_raise_10 ?_
  refine wp_if_ne (pc := 11) C 33 dX9_raise_11 (by decide) (fun q => ?_) (fun q => ?_)
  · have h := it_neg q h
    exact wp_sub C [1, 2, 0] rfl (wX9_raise_j33 C h)
  · have h := it_pos q h
    refine wp_aload_n (pc := 14) C 1 dX9_raise_14 rfl rfl ?_
    refine wp_getI (pc := 15) C flX9_37 rfl (Nat.le_of_ble_eq_true rfl) rfl dX9_raise_15 ?_
    refine wp_bipush (v := 8) (pc := 18) C dX9_raise_18 (by decide) ?_
    refine wp_icmp_ge (pc := 20) C 33 dX9_raise_20 (by decide) (fun q => ?_) (fun q => ?_)
    · have h := it_pos q h
      exact wp_sub C [1, 2, 0] rfl (wX9_raise_j33 C h)
    · have h := it_neg q h
      refine wp_aload_n (pc := 23) C 1 dX9_raise_23 rfl rfl ?_
      refine wp_dup (pc := 24) C dX9_raise_24 rfl ?_
      refine wp_getI (pc := 25) C flX9_37 rfl (Nat.le_of_ble_eq_true rfl) rfl dX9_raise_25 ?_
      refine wp_iconst (v := 1) (pc := 28) C dX9_raise_28 (by decide) ?_
      refine wp_iadd (pc := 29) C dX9_raise_29 ?_
      obtain ⟨S3, eS3, h⟩ := bn_some h
      refine wp_putI (pc := 30) C eS3 flX9_37 fpX9_6 rfl (Nat.le_of_ble_eq_true rfl) rfl dX9_raise_30 ?_
      exact wp_sub C [1, 2, 0] rfl (wX9_raise_j33 C h)
theorem CtX9_raise {n : Nat} {S S' : St} {r : Unit} {x1 : Int32} (h : fX9_raise n S x1 = some (S', r)) : Ct l sdX cy ad D yX9_raise cX9_raise 3 none 1 27 [.ref (ad 244), .int x1] S none S' :=
  Ct_of (own := RX9) mX9_raise rfl (Nat.le_of_ble_eq_true rfl) (fun G e1 e2 e3 e4 C => by subst e1 e2 e3 e4; exact wX9_raise C h)
def fX9_takeOut (n : Nat) (S : St) (x1 : Int32) : Option (St × Unit) :=
  gd (ib x1 8) (
  if (S.1 256 (Int32.toNatClampNeg x1)) ≤ 0 then
    some (S, ())
  else
    bn (sI S 244 6 ((S.1 244 6) - 1)) (fun S2 : St =>
    gd (ib x1 8) (
    bn (sI S2 244 8 ((S2.1 244 8) - (S2.1 256 (Int32.toNatClampNeg x1)))) (fun S4 : St =>
    gd (ib x1 8) (
    gd (isK sdX (S4.2.2 244 2) 0) (
    gd (isK sdX (srX (S4.2.2 244 2) 5) 13) (
    gd (ib x1 (sdX.2.2.1 (srX (S4.2.2 244 2) 5))) (
    bn (sI S4 244 9 ((S4.1 244 9) - ((S4.1 256 (Int32.toNatClampNeg x1)) * (S4.1 (srX (S4.2.2 244 2) 5) (Int32.toNatClampNeg x1))))) (fun S9 : St =>
    gd (ib x1 8) (
    bn (sI S9 256 (Int32.toNatClampNeg x1) 0) (fun S11 : St =>
    some (S11, ()))))))))))))
set_option maxRecDepth 100000 in
set_option maxHeartbeats 4000000 in
theorem wX9_takeOut (C : Cx G sdX cX9_takeOut 2 RX9 none) {n : Nat} {S S' : St} {r : Unit} {x1 : Int32} (h : fX9_takeOut n S x1 = some (S', r)) : Wp G sdX (rmOf 0 0) 2 (Qm G sdX none S') S 0 [(0, .ref (gA G 244)), (1, .int x1)] [] := by
  unfold fX9_takeOut at h
  refine wp_aload_n (pc := 0) C 0 dX9_takeOut_0 rfl rfl ?_
  refine wp_getS (v := 256) (pc := 1) C flX9_24 rfl rfl (Nat.le_of_ble_eq_true rfl) (Nat.le_of_ble_eq_true rfl) rfl dX9_takeOut_1 ?_
  refine wp_iload_n (pc := 4) C 1 dX9_takeOut_4 rfl rfl ?_
  obtain ⟨g1, h⟩ := gd_some h
  refine wp_iald (pc := 5) C (Nat.le_of_ble_eq_true rfl) rfl g1 dX9_takeOut_5 ?_
  refine wp_if_le (pc := 6) C 66 dX9_takeOut_6 (by decide) (fun q => ?_) (fun q => ?_)
  · have h := it_pos q h
    exact rt_v C rfl h dX9_takeOut_66
  · have h := it_neg q h
    refine wp_aload_n (pc := 9) C 0 dX9_takeOut_9 rfl rfl ?_
    refine wp_dup (pc := 10) C dX9_takeOut_10 rfl ?_
    refine wp_getI (pc := 11) C flX9_37 rfl (Nat.le_of_ble_eq_true rfl) rfl dX9_takeOut_11 ?_
    refine wp_iconst (v := 1) (pc := 14) C dX9_takeOut_14 (by decide) ?_
    refine wp_isub (pc := 15) C dX9_takeOut_15 ?_
    obtain ⟨S2, eS2, h⟩ := bn_some h
    refine wp_putI (pc := 16) C eS2 flX9_37 fpX9_6 rfl (Nat.le_of_ble_eq_true rfl) rfl dX9_takeOut_16 ?_
    refine wp_aload_n (pc := 19) C 0 dX9_takeOut_19 rfl rfl ?_
    refine wp_dup (pc := 20) C dX9_takeOut_20 rfl ?_
    refine wp_getI (pc := 21) C flX9_40 rfl (Nat.le_of_ble_eq_true rfl) rfl dX9_takeOut_21 ?_
    refine wp_aload_n (pc := 24) C 0 dX9_takeOut_24 rfl rfl ?_
    refine wp_getS (v := 256) (pc := 25) C flX9_24 rfl rfl (Nat.le_of_ble_eq_true rfl) (Nat.le_of_ble_eq_true rfl) rfl dX9_takeOut_25 ?_
    refine wp_iload_n (pc := 28) C 1 dX9_takeOut_28 rfl rfl ?_
    obtain ⟨g3, h⟩ := gd_some h
    refine wp_iald (pc := 29) C (Nat.le_of_ble_eq_true rfl) rfl g3 dX9_takeOut_29 ?_
    refine wp_isub (pc := 30) C dX9_takeOut_30 ?_
    obtain ⟨S4, eS4, h⟩ := bn_some h
    refine wp_putI (pc := 31) C eS4 flX9_40 fpX9_8 rfl (Nat.le_of_ble_eq_true rfl) rfl dX9_takeOut_31 ?_
    refine wp_aload_n (pc := 34) C 0 dX9_takeOut_34 rfl rfl ?_
    refine wp_dup (pc := 35) C dX9_takeOut_35 rfl ?_
    refine wp_getI (pc := 36) C flX9_43 rfl (Nat.le_of_ble_eq_true rfl) rfl dX9_takeOut_36 ?_
    refine wp_aload_n (pc := 39) C 0 dX9_takeOut_39 rfl rfl ?_
    refine wp_getS (v := 256) (pc := 40) C flX9_24 rfl rfl (Nat.le_of_ble_eq_true rfl) (Nat.le_of_ble_eq_true rfl) rfl dX9_takeOut_40 ?_
    refine wp_iload_n (pc := 43) C 1 dX9_takeOut_43 rfl rfl ?_
    obtain ⟨g5, h⟩ := gd_some h
    refine wp_iald (pc := 44) C (Nat.le_of_ble_eq_true rfl) rfl g5 dX9_takeOut_44 ?_
    refine wp_aload_n (pc := 45) C 0 dX9_takeOut_45 rfl rfl ?_
    obtain ⟨g6, h⟩ := gd_some h
    refine wp_getD (pc := 46) C flX9_9 rfl g6.1 (Nat.le_of_ble_eq_true rfl) rfl dX9_takeOut_46 ?_
    obtain ⟨g7, h⟩ := gd_some h
    refine wp_getS (v := srX (S4.2.2 244 2) 5) (pc := 49) C flX9_78 rfl rfl g7.1 g6.1 g6.2 dX9_takeOut_49 ?_
    refine wp_iload_n (pc := 52) C 1 dX9_takeOut_52 rfl rfl ?_
    obtain ⟨g8, h⟩ := gd_some h
    refine wp_iald (pc := 53) C g7.1 g7.2 g8 dX9_takeOut_53 ?_
    refine wp_imul (pc := 54) C dX9_takeOut_54 ?_
    refine wp_isub (pc := 55) C dX9_takeOut_55 ?_
    obtain ⟨S9, eS9, h⟩ := bn_some h
    refine wp_putI (pc := 56) C eS9 flX9_43 fpX9_9 rfl (Nat.le_of_ble_eq_true rfl) rfl dX9_takeOut_56 ?_
    refine wp_aload_n (pc := 59) C 0 dX9_takeOut_59 rfl rfl ?_
    refine wp_getS (v := 256) (pc := 60) C flX9_24 rfl rfl (Nat.le_of_ble_eq_true rfl) (Nat.le_of_ble_eq_true rfl) rfl dX9_takeOut_60 ?_
    refine wp_iload_n (pc := 63) C 1 dX9_takeOut_63 rfl rfl ?_
    refine wp_iconst (v := 0) (pc := 64) C dX9_takeOut_64 (by decide) ?_
    obtain ⟨g10, h⟩ := gd_some h
    obtain ⟨S11, eS11, h⟩ := bn_some h
    refine wp_iast (pc := 65) C eS11 (Nat.le_of_ble_eq_true rfl) rfl g10 dX9_takeOut_65 ?_
    exact rt_v C rfl h dX9_takeOut_66
theorem CtX9_takeOut {n : Nat} {S S' : St} {r : Unit} {x1 : Int32} (h : fX9_takeOut n S x1 = some (S', r)) : Ct l sdX cy ad D yX9_takeOut cX9_takeOut 2 none 0 0 [.ref (ad 244), .int x1] S none S' :=
  Ct_of (own := RX9) mX9_takeOut rfl (Nat.le_of_ble_eq_true rfl) (fun G e1 e2 e3 e4 C => by subst e1 e2 e3 e4; exact wX9_takeOut C h)
def fX9_advance_j54 (n : Nat) (k13 : St → Int32 → Option (St × Unit)) (S : St) (x1 : Int32) : Option (St × Unit) :=
  bd (fX9_takeOut n S x1) (fun S1 r2 =>
  bn (x1 + (-1)) (fun z3 : Int32 =>
  k13 S1 z3))
set_option maxRecDepth 100000 in
set_option maxHeartbeats 4000000 in
theorem wX9_advance_j54 (C : Cx G sdX cX9_advance 2 RX9 none) {n : Nat} {k13 : St → Int32 → Option (St × Unit)} {S S' : St} {r : Unit} {x1 : Int32} (hk13 : ∀ (S : St) (x1 : Int32), k13 S x1 = some (S', r) → Wp G sdX (rmOf 2 49) 2 (Qm G sdX none S') S 13 [(0, .ref (gA G 244)), (1, .int x1)] []) (h : fX9_advance_j54 n k13 S x1 = some (S', r)) : Wp G sdX (rmOf 2 49) 2 (Qm G sdX none S') S 54 [(0, .ref (gA G 244)), (1, .int x1)] [] := by
  unfold fX9_advance_j54 at h
  refine wp_aload_n (pc := 54) C 0 dX9_advance_54 rfl rfl ?_
  refine wp_iload_n (pc := 55) C 1 dX9_advance_55 rfl rfl ?_
  obtain ⟨S1, r2, cS1, h⟩ := bd_some h
  refine wp_callVv (As := [.int x1]) (st := []) (pc := 56) C (CtX9_takeOut cS1) mX9_takeOut iX9_takeOut kX9_71 (Nat.le_of_ble_eq_true rfl) rfl (by decide) rfl rfl rfl rfl (Nat.le_of_ble_eq_true rfl) ⟨Nat.le_of_ble_eq_true rfl, Nat.le_of_ble_eq_true rfl⟩ dX9_advance_56 ?_
  obtain ⟨z3, ez3, h⟩ := bn_some h
  refine wp_iinc (q := 1) (pc := 59) C (by decide) ez3 [(1, .int z3), (0, .ref (gA G 244))] dX9_advance_59 rfl (Nat.le_of_ble_eq_true rfl) rfl ?_
  refine wp_goto (pc := 62) C 13 dX9_advance_62 (by decide) ?_
  exact wp_sub C [1, 0] rfl (hk13 _ _ h)
def fX9_advance_j48 (n : Nat) (S : St) (x1 : Int32) : Option (St × Unit) :=
  bd (fX9_raise n S x1) (fun S1 r2 =>
  some (S1, ()))
set_option maxRecDepth 100000 in
set_option maxHeartbeats 4000000 in
theorem wX9_advance_j48 (C : Cx G sdX cX9_advance 2 RX9 none) {n : Nat} {S S' : St} {r : Unit} {x1 : Int32} (h : fX9_advance_j48 n S x1 = some (S', r)) : Wp G sdX (rmOf 2 49) 2 (Qm G sdX none S') S 48 [(0, .ref (gA G 244)), (1, .int x1)] [] := by
  unfold fX9_advance_j48 at h
  refine wp_aload_n (pc := 48) C 0 dX9_advance_48 rfl rfl ?_
  refine wp_iload_n (pc := 49) C 1 dX9_advance_49 rfl rfl ?_
  obtain ⟨S1, r2, cS1, h⟩ := bd_some h
  refine wp_callVv (As := [.int x1]) (st := []) (pc := 50) C (CtX9_raise cS1) mX9_raise iX9_raise kX9_67 (Nat.le_of_ble_eq_true rfl) rfl (by decide) rfl rfl rfl rfl (Nat.le_of_ble_eq_true rfl) ⟨Nat.le_of_ble_eq_true rfl, Nat.le_of_ble_eq_true rfl⟩ dX9_advance_50 ?_
  exact rt_v C rfl h dX9_advance_53
def fX9_advance_l13 (n : Nat) : Nat → St → Int32 → Option (St × Unit)
  | 0, _, _ => none
  | j + 1, S, x1 =>
    if x1 < 0 then
      some (S, ())
    else
      if (S.1 244 4) ≤ (S.1 244 8) then
        fX9_advance_j54 n (fX9_advance_l13 n j) S x1
      else
        gd (ib x1 8) (
        if 0 < (S.1 256 (Int32.toNatClampNeg x1)) then
          fX9_advance_j48 n S x1
        else
          if (S.1 244 5) ≤ (S.1 244 6) then
            fX9_advance_j54 n (fX9_advance_l13 n j) S x1
          else
            fX9_advance_j48 n S x1)
set_option maxRecDepth 100000 in
set_option maxHeartbeats 4000000 in
theorem wX9_advance_l13 (C : Cx G sdX cX9_advance 2 RX9 none) {n : Nat} {S' : St} {r : Unit} : ∀ (j : Nat) (S : St) (x1 : Int32), fX9_advance_l13 n j S x1 = some (S', r) → Wp G sdX (rmOf 2 49) 2 (Qm G sdX none S') S 13 [(0, .ref (gA G 244)), (1, .int x1)] [] := by
  intro j
  induction j with
  | zero =>
    intro S x1 h
    exact nomatch (show (none : Option (St × Unit)) = some _ from h)
  | succ j ih =>
    intro S x1 h
    rw [fX9_advance_l13] at h
    refine wp_iload_n (pc := 13) C 1 dX9_advance_13 rfl rfl ?_
    refine wp_if_lt (pc := 14) C 65 dX9_advance_14 (by decide) (fun q => ?_) (fun q => ?_)
    · have h := it_pos q h
      exact rt_v C rfl h dX9_advance_65
    · have h := it_neg q h
      refine wp_aload_n (pc := 17) C 0 dX9_advance_17 rfl rfl ?_
      refine wp_getI (pc := 18) C flX9_40 rfl (Nat.le_of_ble_eq_true rfl) rfl dX9_advance_18 ?_
      refine wp_aload_n (pc := 21) C 0 dX9_advance_21 rfl rfl ?_
      refine wp_getI (pc := 22) C flX9_31 rfl (Nat.le_of_ble_eq_true rfl) rfl dX9_advance_22 ?_
      refine wp_icmp_ge (pc := 25) C 54 dX9_advance_25 (by decide) (fun q => ?_) (fun q => ?_)
      · have h := it_pos q h
        exact (wX9_advance_j54 C ih h)
      · have h := it_neg q h
        refine wp_aload_n (pc := 28) C 0 dX9_advance_28 rfl rfl ?_
        refine wp_getS (v := 256) (pc := 29) C flX9_24 rfl rfl (Nat.le_of_ble_eq_true rfl) (Nat.le_of_ble_eq_true rfl) rfl dX9_advance_29 ?_
        refine wp_iload_n (pc := 32) C 1 dX9_advance_32 rfl rfl ?_
        obtain ⟨g1, h⟩ := gd_some h
        refine wp_iald (pc := 33) C (Nat.le_of_ble_eq_true rfl) rfl g1 dX9_advance_33 ?_
        refine wp_if_gt (pc := 34) C 48 dX9_advance_34 (by decide) (fun q => ?_) (fun q => ?_)
        · have h := it_pos q h
          exact (wX9_advance_j48 C h)
        · have h := it_neg q h
          refine wp_aload_n (pc := 37) C 0 dX9_advance_37 rfl rfl ?_
          refine wp_getI (pc := 38) C flX9_37 rfl (Nat.le_of_ble_eq_true rfl) rfl dX9_advance_38 ?_
          refine wp_aload_n (pc := 41) C 0 dX9_advance_41 rfl rfl ?_
          refine wp_getI (pc := 42) C flX9_34 rfl (Nat.le_of_ble_eq_true rfl) rfl dX9_advance_42 ?_
          refine wp_icmp_ge (pc := 45) C 54 dX9_advance_45 (by decide) (fun q => ?_) (fun q => ?_)
          · have h := it_pos q h
            exact (wX9_advance_j54 C ih h)
          · have h := it_neg q h
            exact (wX9_advance_j48 C h)
def fX9_advance (n : Nat) (S : St) : Option (St × Unit) :=
  gd (isK sdX (S.2.2 244 2) 0) (
  gd (isK sdX (srX (S.2.2 244 2) 0) 5) (
  bn ((S.1 (srX (S.2.2 244 2) 0) 3) - 1) (fun z3 : Int32 =>
  fX9_advance_l13 n n S z3)))
set_option maxRecDepth 100000 in
set_option maxHeartbeats 4000000 in
theorem wX9_advance (C : Cx G sdX cX9_advance 2 RX9 none) {n : Nat} {S S' : St} {r : Unit} (h : fX9_advance n S = some (S', r)) : Wp G sdX (rmOf 2 49) 2 (Qm G sdX none S') S 0 [(0, .ref (gA G 244))] [] := by
  unfold fX9_advance at h
  refine wp_aload_n (pc := 0) C 0 dX9_advance_0 rfl rfl ?_
  obtain ⟨g1, h⟩ := gd_some h
  refine wp_getD (pc := 1) C flX9_9 rfl g1.1 (Nat.le_of_ble_eq_true rfl) rfl dX9_advance_1 ?_
  obtain ⟨g2, h⟩ := gd_some h
  refine wp_getS (v := srX (S.2.2 244 2) 0) (pc := 4) C flX9_58 rfl rfl g2.1 g1.1 g1.2 dX9_advance_4 ?_
  refine wp_getI (pc := 7) C flX9_62 rfl g2.1 g2.2 dX9_advance_7 ?_
  refine wp_iconst (v := 1) (pc := 10) C dX9_advance_10 (by decide) ?_
  refine wp_isub (pc := 11) C dX9_advance_11 ?_
  obtain ⟨z3, ez3, h⟩ := bn_some h
  refine wp_istore_n (pc := 12) C ez3 [(1, .int z3), (0, .ref (gA G 244))] dX9_advance_12 rfl (Nat.le_of_ble_eq_true rfl) rfl ?_
  exact wp_sub C [1, 0] rfl (wX9_advance_l13 C _ _ _ h)
theorem CtX9_advance {n : Nat} {S S' : St} {r : Unit} (h : fX9_advance n S = some (S', r)) : Ct l sdX cy ad D yX9_advance cX9_advance 2 none 2 49 [.ref (ad 244)] S none S' :=
  Ct_of (own := RX9) mX9_advance rfl (Nat.le_of_ble_eq_true rfl) (fun G e1 e2 e3 e4 C => by subst e1 e2 e3 e4; exact wX9_advance C h)
def fX4_findMatch_j63 (n : Nat) (S : St) : Option (St × Int32) :=
  if (S.1 243 15) = 0 then
    some (S, (-1))
  else
    some (S, S.1 243 7)
set_option maxRecDepth 100000 in
set_option maxHeartbeats 4000000 in
theorem wX4_findMatch_j63 (C : Cx G sdX cX4_findMatch 5 RX4 (some .int)) {n : Nat} {S S' : St} {r : Int32} (h : fX4_findMatch_j63 n S = some (S', r)) : Wp G sdX (rmOf 4 103) 5 (Qm G sdX (some (.int r)) S') S 63 [(0, .ref (gA G 243))] [] := by
  unfold fX4_findMatch_j63 at h
  refine wp_aload_n (pc := 63) C 0 dX4_findMatch_63 rfl rfl ?_
  refine wp_getI (pc := 64) C flX4_50 rfl (Nat.le_of_ble_eq_true rfl) rfl dX4_findMatch_64 ?_
  refine wp_if_eq (pc := 67) C 77 dX4_findMatch_67 (by decide) (fun q => ?_) (fun q => ?_)
  · have h := it_pos q h
    refine wp_iconst (v := (-1)) (pc := 77) C dX4_findMatch_77 (by decide) ?_
    exact rt_i C rfl h dX4_findMatch_78
  · have h := it_neg q h
    refine wp_aload_n (pc := 70) C 0 dX4_findMatch_70 rfl rfl ?_
    refine wp_getI (pc := 71) C flX4_97 rfl (Nat.le_of_ble_eq_true rfl) rfl dX4_findMatch_71 ?_
    refine wp_goto (pc := 74) C 78 dX4_findMatch_74 (by decide) ?_
    exact rt_i C rfl h dX4_findMatch_78
def fX4_findMatch_j50 (n : Nat) (k21 : St → Int32 → Int32 → Int32 → Option (St × Int32)) (S : St) (x1 : Int32) (x2 : Int32) (x4 : Int32) : Option (St × Int32) :=
  bd (fX9_advance n S) (fun S1 r2 =>
  bn (x4 + 1) (fun z3 : Int32 =>
  k21 S1 x1 x2 z3))
set_option maxRecDepth 100000 in
set_option maxHeartbeats 4000000 in
theorem wX4_findMatch_j50 (C : Cx G sdX cX4_findMatch 5 RX4 (some .int)) {n : Nat} {k21 : St → Int32 → Int32 → Int32 → Option (St × Int32)} {S S' : St} {r : Int32} {x1 : Int32} {x2 : Int32} {x4 : Int32} (hk21 : ∀ (S : St) (x1 : Int32) (x2 : Int32) (x4 : Int32), k21 S x1 x2 x4 = some (S', r) → Wp G sdX (rmOf 4 103) 5 (Qm G sdX (some (.int r)) S') S 21 [(0, .ref (gA G 243)), (1, .int x1), (2, .int x2), (4, .int x4)] []) (h : fX4_findMatch_j50 n k21 S x1 x2 x4 = some (S', r)) : Wp G sdX (rmOf 4 103) 5 (Qm G sdX (some (.int r)) S') S 50 [(0, .ref (gA G 243)), (1, .int x1), (2, .int x2), (4, .int x4)] [] := by
  unfold fX4_findMatch_j50 at h
  refine wp_aload_n (pc := 50) C 0 dX4_findMatch_50 rfl rfl ?_
  refine wp_getS (v := 244) (pc := 51) C flX4_24 rfl rfl (Nat.le_of_ble_eq_true rfl) (Nat.le_of_ble_eq_true rfl) rfl dX4_findMatch_51 ?_
  obtain ⟨S1, r2, cS1, h⟩ := bd_some h
  refine wp_callVv (As := []) (st := []) (pc := 54) C (CtX9_advance cS1) mX9_advance iX9_advance kX4_134 (Nat.le_of_ble_eq_true rfl) rfl (by decide) rfl rfl rfl rfl (Nat.le_of_ble_eq_true rfl) ⟨Nat.le_of_ble_eq_true rfl, Nat.le_of_ble_eq_true rfl⟩ dX4_findMatch_54 ?_
  obtain ⟨z3, ez3, h⟩ := bn_some h
  refine wp_iinc (q := 3) (pc := 57) C (by decide) ez3 [(4, .int z3), (0, .ref (gA G 243)), (1, .int x1), (2, .int x2)] dX4_findMatch_57 rfl (Nat.le_of_ble_eq_true rfl) rfl ?_
  refine wp_goto (pc := 60) C 21 dX4_findMatch_60 (by decide) ?_
  exact wp_sub C [1, 2, 3, 0] rfl (hk21 _ _ _ _ h)
def fX4_findMatch_l21 (n : Nat) : Nat → St → Int32 → Int32 → Int32 → Option (St × Int32)
  | 0, _, _, _, _ => none
  | j + 1, S, x1, x2, x4 =>
    if (S.1 243 14) ≤ x4 then
      fX4_findMatch_j63 n S
    else
      bd (fX4_isPreferred n S) (fun S1 r2 =>
      if r2 = 0 then
        fX4_findMatch_j50 n (fX4_findMatch_l21 n j) S1 x1 x2 x4
      else
        bd (fX4_isMatch n S1 x1 x2) (fun S3 r4 =>
        if r4 = 0 then
          fX4_findMatch_j50 n (fX4_findMatch_l21 n j) S3 x1 x2 x4
        else
          bd (fX4_keep n S3) (fun S5 r6 =>
          fX4_findMatch_j50 n (fX4_findMatch_l21 n j) S5 x1 x2 x4)))
set_option maxRecDepth 100000 in
set_option maxHeartbeats 4000000 in
theorem wX4_findMatch_l21 (C : Cx G sdX cX4_findMatch 5 RX4 (some .int)) {n : Nat} {S' : St} {r : Int32} : ∀ (j : Nat) (S : St) (x1 : Int32) (x2 : Int32) (x4 : Int32), fX4_findMatch_l21 n j S x1 x2 x4 = some (S', r) → Wp G sdX (rmOf 4 103) 5 (Qm G sdX (some (.int r)) S') S 21 [(0, .ref (gA G 243)), (1, .int x1), (2, .int x2), (4, .int x4)] [] := by
  intro j
  induction j with
  | zero =>
    intro S x1 x2 x4 h
    exact nomatch (show (none : Option (St × Int32)) = some _ from h)
  | succ j ih =>
    intro S x1 x2 x4 h
    rw [fX4_findMatch_l21] at h
    refine wp_iload (pc := 21) C 3 dX4_findMatch_21 rfl ?_
    refine wp_aload_n (pc := 23) C 0 dX4_findMatch_23 rfl rfl ?_
    refine wp_getI (pc := 24) C flX4_46 rfl (Nat.le_of_ble_eq_true rfl) rfl dX4_findMatch_24 ?_
    refine wp_icmp_ge (pc := 27) C 63 dX4_findMatch_27 (by decide) (fun q => ?_) (fun q => ?_)
    · have h := it_pos q h
      exact wp_sub C [0] rfl (wX4_findMatch_j63 C h)
    · have h := it_neg q h
      refine wp_aload_n (pc := 30) C 0 dX4_findMatch_30 rfl rfl ?_
      obtain ⟨S1, r2, cS1, h⟩ := bd_some h
      refine wp_callVi (As := []) (st := []) (pc := 31) C (CtX4_isPreferred cS1) mX4_isPreferred iX4_isPreferred kX4_123 (Nat.le_of_ble_eq_true rfl) rfl (by decide) rfl rfl rfl rfl (Nat.le_of_ble_eq_true rfl) ⟨Nat.le_of_ble_eq_true rfl, Nat.le_of_ble_eq_true rfl⟩ dX4_findMatch_31 ?_
      refine wp_if_eq (pc := 34) C 50 dX4_findMatch_34 (by decide) (fun q => ?_) (fun q => ?_)
      · have h := it_pos q h
        exact (wX4_findMatch_j50 C ih h)
      · have h := it_neg q h
        refine wp_aload_n (pc := 37) C 0 dX4_findMatch_37 rfl rfl ?_
        refine wp_iload_n (pc := 38) C 1 dX4_findMatch_38 rfl rfl ?_
        refine wp_iload_n (pc := 39) C 2 dX4_findMatch_39 rfl rfl ?_
        obtain ⟨S3, r4, cS3, h⟩ := bd_some h
        refine wp_callVi (As := [.int x1, .int x2]) (st := []) (pc := 40) C (CtX4_isMatch cS3) mX4_isMatch iX4_isMatch kX4_127 (Nat.le_of_ble_eq_true rfl) rfl (by decide) rfl rfl rfl rfl (Nat.le_of_ble_eq_true rfl) ⟨Nat.le_of_ble_eq_true rfl, Nat.le_of_ble_eq_true rfl⟩ dX4_findMatch_40 ?_
        refine wp_if_eq (pc := 43) C 50 dX4_findMatch_43 (by decide) (fun q => ?_) (fun q => ?_)
        · have h := it_pos q h
          exact (wX4_findMatch_j50 C ih h)
        · have h := it_neg q h
          refine wp_aload_n (pc := 46) C 0 dX4_findMatch_46 rfl rfl ?_
          obtain ⟨S5, r6, cS5, h⟩ := bd_some h
          refine wp_callVv (As := []) (st := []) (pc := 47) C (CtX4_keep cS5) mX4_keep iX4_keep kX4_131 (Nat.le_of_ble_eq_true rfl) rfl (by decide) rfl rfl rfl rfl (Nat.le_of_ble_eq_true rfl) ⟨Nat.le_of_ble_eq_true rfl, Nat.le_of_ble_eq_true rfl⟩ dX4_findMatch_47 ?_
          exact (wX4_findMatch_j50 C ih h)
def fX4_findMatch (n : Nat) (S : St) (x1 : Int32) (x2 : Int32) : Option (St × Int32) :=
  bd (fX4_hasLamps n S x1) (fun S1 r2 =>
  bd (fX4_start n S1 r2 100000) (fun S3 r4 =>
  if r4 = 0 then
    fX4_findMatch_l21 n n S3 x1 x2 0
  else
    some (S3, r4)))
set_option maxRecDepth 100000 in
set_option maxHeartbeats 4000000 in
theorem wX4_findMatch (C : Cx G sdX cX4_findMatch 5 RX4 (some .int)) {n : Nat} {S S' : St} {r : Int32} {x1 : Int32} {x2 : Int32} (h : fX4_findMatch n S x1 x2 = some (S', r)) : Wp G sdX (rmOf 4 103) 5 (Qm G sdX (some (.int r)) S') S 0 [(0, .ref (gA G 243)), (1, .int x1), (2, .int x2)] [] := by
  unfold fX4_findMatch at h
  refine wp_aload_n (pc := 0) C 0 dX4_findMatch_0 rfl rfl ?_
  refine wp_aload_n (pc := 1) C 0 dX4_findMatch_1 rfl rfl ?_
  refine wp_iload_n (pc := 2) C 1 dX4_findMatch_2 rfl rfl ?_
  obtain ⟨S1, r2, cS1, h⟩ := bd_some h
  refine wp_callVi (As := [.int x1]) (st := [.ref (gA G 243)]) (pc := 3) C (CtX4_hasLamps cS1) mX4_hasLamps iX4_hasLamps kX4_115 (Nat.le_of_ble_eq_true rfl) rfl (by decide) rfl rfl rfl rfl (Nat.le_of_ble_eq_true rfl) ⟨Nat.le_of_ble_eq_true rfl, Nat.le_of_ble_eq_true rfl⟩ dX4_findMatch_3 ?_
  refine wp_ldc (pc := 6) C qX4_119 dX4_findMatch_6 ?_
  obtain ⟨S3, r4, cS3, h⟩ := bd_some h
  refine wp_callVi (As := [.int r2, .int 100000]) (st := []) (pc := 8) C (CtX4_start cS3) mX4_start iX4_start kX4_120 (Nat.le_of_ble_eq_true rfl) rfl (by decide) rfl rfl rfl rfl (Nat.le_of_ble_eq_true rfl) ⟨Nat.le_of_ble_eq_true rfl, Nat.le_of_ble_eq_true rfl⟩ dX4_findMatch_8 ?_
  refine wp_istore_n (pc := 11) C rfl [(3, .int r4), (0, .ref (gA G 243)), (1, .int x1), (2, .int x2)] dX4_findMatch_11 rfl (Nat.le_of_ble_eq_true rfl) rfl ?_
  refine wp_iload_n (pc := 12) C 0 dX4_findMatch_12 rfl rfl ?_
  refine wp_if_eq (pc := 13) C 18 dX4_findMatch_13 (by decide) (fun q => ?_) (fun q => ?_)
  · have h := it_pos q h
    refine wp_iconst (v := 0) (pc := 18) C dX4_findMatch_18 (by decide) ?_
    refine wp_istore (pc := 19) C rfl [(4, .int 0), (3, .int r4), (0, .ref (gA G 243)), (1, .int x1), (2, .int x2)] dX4_findMatch_19 (Nat.le_of_ble_eq_true rfl) rfl ?_
    exact wp_sub C [2, 3, 4, 0] rfl (wX4_findMatch_l21 C _ _ _ _ _ h)
  · have h := it_neg q h
    refine wp_iload_n (pc := 16) C 0 dX4_findMatch_16 rfl rfl ?_
    exact rt_i C rfl h dX4_findMatch_17
theorem CtX4_findMatch {n : Nat} {S S' : St} {r : Int32} {x1 : Int32} {x2 : Int32} (h : fX4_findMatch n S x1 x2 = some (S', r)) : Ct l sdX cy ad D yX4_findMatch cX4_findMatch 5 (some .int) 4 103 [.ref (ad 243), .int x1, .int x2] S (some (.int r)) S' :=
  Ct_of (own := RX4) mX4_findMatch rfl (Nat.le_of_ble_eq_true rfl) (fun G e1 e2 e3 e4 C => by subst e1 e2 e3 e4; exact wX4_findMatch C h)
def fX4_greatestApart_j77 (n : Nat) (k15 : St → Int32 → Int32 → Int64 → Nat → Int64 → Int32 → Option (St × Int64)) (S : St) (x1 : Int32) (x2 : Int32) (x3 : Int64) (a5 : Nat) (x6 : Int64) (x8 : Int32) : Option (St × Int64) :=
  bn (x8 + 1) (fun z1 : Int32 =>
  k15 S x1 x2 x3 a5 x6 z1)
set_option maxRecDepth 100000 in
set_option maxHeartbeats 4000000 in
theorem wX4_greatestApart_j77 (C : Cx G sdX cX4_greatestApart 9 RX4 (some .long)) {n : Nat} {k15 : St → Int32 → Int32 → Int64 → Nat → Int64 → Int32 → Option (St × Int64)} {S S' : St} {r : Int64} {x1 : Int32} {x2 : Int32} {x3 : Int64} {a5 : Nat} {x6 : Int64} {x8 : Int32} (hk15 : ∀ (S : St) (x1 : Int32) (x2 : Int32) (x3 : Int64) (a5 : Nat) (x6 : Int64) (x8 : Int32), k15 S x1 x2 x3 a5 x6 x8 = some (S', r) → Wp G sdX (rmOf 2 55) 9 (Qm G sdX (some (.long r)) S') S 15 [(0, .ref (gA G 243)), (1, .int x1), (2, .int x2), (3, .long x3), (5, .ref (gA G a5)), (6, .long x6), (8, .int x8)] []) (h : fX4_greatestApart_j77 n k15 S x1 x2 x3 a5 x6 x8 = some (S', r)) : Wp G sdX (rmOf 2 55) 9 (Qm G sdX (some (.long r)) S') S 77 [(0, .ref (gA G 243)), (1, .int x1), (2, .int x2), (3, .long x3), (5, .ref (gA G a5)), (6, .long x6), (8, .int x8)] [] := by
  unfold fX4_greatestApart_j77 at h
  obtain ⟨z1, ez1, h⟩ := bn_some h
  refine wp_iinc (q := 6) (pc := 77) C (by decide) ez1 [(8, .int z1), (0, .ref (gA G 243)), (1, .int x1), (2, .int x2), (3, .long x3), (5, .ref (gA G a5)), (6, .long x6)] dX4_greatestApart_77 rfl (Nat.le_of_ble_eq_true rfl) rfl ?_
  refine wp_goto (pc := 80) C 15 dX4_greatestApart_80 (by decide) ?_
  exact wp_sub C [1, 2, 3, 4, 5, 6, 0] rfl (hk15 _ _ _ _ _ _ _ h)
def fX4_greatestApart_l15 (n : Nat) : Nat → St → Int32 → Int32 → Int64 → Nat → Int64 → Int32 → Option (St × Int64)
  | 0, _, _, _, _, _, _, _ => none
  | j + 1, S, x1, x2, x3, a5, x6, x8 =>
    gd (isK sdX (S.2.2 243 0) 0) (
    gd (isK sdX (srX (S.2.2 243 0) 2) 5) (
    if (S.1 (srX (S.2.2 243 0) 2) 3) ≤ x8 then
      some (S, x6)
    else
      if 0 < (lg_cmp x6 x3) then
        some (S, x6)
      else
        if ((x1 >>> (x8 &&& 31)) &&& 1) = 0 then
          fX4_greatestApart_j77 n (fX4_greatestApart_l15 n j) S x1 x2 x3 a5 x6 x8
        else
          gd (ib (S.1 243 3) 72) (
          gd (isK sdX (srX 160 (Int32.toNatClampNeg (S.1 243 3))) 13) (
          bd (fX0_apartOf sdX n S (S.2.2 243 0) a5 (srX 160 (Int32.toNatClampNeg (S.1 243 3))) x8 x2) (fun S5 r6 =>
          bn (if r6 < x6 then x6 else r6) (fun z7 : Int64 =>
          fX4_greatestApart_j77 n (fX4_greatestApart_l15 n j) S5 x1 x2 x3 a5 z7 x8))))))
set_option maxRecDepth 100000 in
set_option maxHeartbeats 4000000 in
theorem wX4_greatestApart_l15 (C : Cx G sdX cX4_greatestApart 9 RX4 (some .long)) {n : Nat} {S' : St} {r : Int64} : ∀ (j : Nat) (S : St) (x1 : Int32) (x2 : Int32) (x3 : Int64) (a5 : Nat) (x6 : Int64) (x8 : Int32), fX4_greatestApart_l15 n j S x1 x2 x3 a5 x6 x8 = some (S', r) → Wp G sdX (rmOf 2 55) 9 (Qm G sdX (some (.long r)) S') S 15 [(0, .ref (gA G 243)), (1, .int x1), (2, .int x2), (3, .long x3), (5, .ref (gA G a5)), (6, .long x6), (8, .int x8)] [] := by
  intro j
  induction j with
  | zero =>
    intro S x1 x2 x3 a5 x6 x8 h
    exact nomatch (show (none : Option (St × Int64)) = some _ from h)
  | succ j ih =>
    intro S x1 x2 x3 a5 x6 x8 h
    rw [fX4_greatestApart_l15] at h
    refine wp_iload (pc := 15) C 6 dX4_greatestApart_15 rfl ?_
    refine wp_aload_n (pc := 17) C 0 dX4_greatestApart_17 rfl rfl ?_
    obtain ⟨g1, h⟩ := gd_some h
    refine wp_getD (pc := 18) C flX4_9 rfl g1.1 (Nat.le_of_ble_eq_true rfl) rfl dX4_greatestApart_18 ?_
    obtain ⟨g2, h⟩ := gd_some h
    refine wp_getS (v := srX (S.2.2 243 0) 2) (pc := 21) C flX4_87 rfl rfl g2.1 g1.1 g1.2 dX4_greatestApart_21 ?_
    refine wp_getI (pc := 24) C flX4_78 rfl g2.1 g2.2 dX4_greatestApart_24 ?_
    refine wp_icmp_ge (pc := 27) C 83 dX4_greatestApart_27 (by decide) (fun q => ?_) (fun q => ?_)
    · have h := it_pos q h
      refine wp_lload (pc := 83) C 5 dX4_greatestApart_83 rfl ?_
      exact rt_l C rfl h dX4_greatestApart_85
    · have h := it_neg q h
      refine wp_lload (pc := 30) C 5 dX4_greatestApart_30 rfl ?_
      refine wp_lload_n (pc := 32) C 3 dX4_greatestApart_32 rfl rfl ?_
      refine wp_lcmp (pc := 33) C dX4_greatestApart_33 ?_
      refine wp_if_gt (pc := 34) C 83 dX4_greatestApart_34 (by decide) (fun q => ?_) (fun q => ?_)
      · have h := it_pos q h
        refine wp_lload (pc := 83) C 5 dX4_greatestApart_83 rfl ?_
        exact rt_l C rfl h dX4_greatestApart_85
      · have h := it_neg q h
        refine wp_iload_n (pc := 37) C 1 dX4_greatestApart_37 rfl rfl ?_
        refine wp_iload (pc := 38) C 6 dX4_greatestApart_38 rfl ?_
        refine wp_ishr (pc := 40) C dX4_greatestApart_40 ?_
        refine wp_iconst (v := 1) (pc := 41) C dX4_greatestApart_41 (by decide) ?_
        refine wp_iand (pc := 42) C dX4_greatestApart_42 ?_
        refine wp_if_eq (pc := 43) C 77 dX4_greatestApart_43 (by decide) (fun q => ?_) (fun q => ?_)
        · have h := it_pos q h
          exact (wX4_greatestApart_j77 C ih h)
        · have h := it_neg q h
          refine wp_lload (pc := 46) C 5 dX4_greatestApart_46 rfl ?_
          refine wp_aload_n (pc := 48) C 0 dX4_greatestApart_48 rfl rfl ?_
          refine wp_getD (pc := 49) C flX4_9 rfl g1.1 (Nat.le_of_ble_eq_true rfl) rfl dX4_greatestApart_49 ?_
          refine wp_aload (pc := 52) C 4 dX4_greatestApart_52 rfl ?_
          refine wp_aload_n (pc := 54) C 0 dX4_greatestApart_54 rfl rfl ?_
          refine wp_getS (v := 157) (pc := 55) C flX4_15 rfl rfl (Nat.le_of_ble_eq_true rfl) (Nat.le_of_ble_eq_true rfl) rfl dX4_greatestApart_55 ?_
          refine wp_getS (v := 160) (pc := 58) C flX4_141 rfl rfl (Nat.le_of_ble_eq_true rfl) (Nat.le_of_ble_eq_true rfl) rfl dX4_greatestApart_58 ?_
          refine wp_aload_n (pc := 61) C 0 dX4_greatestApart_61 rfl rfl ?_
          refine wp_getI (pc := 62) C flX4_56 rfl (Nat.le_of_ble_eq_true rfl) rfl dX4_greatestApart_62 ?_
          obtain ⟨g3, h⟩ := gd_some h
          obtain ⟨g4, h⟩ := gd_some h
          refine wp_aald (t0 := 5) (pc := 65) C (Nat.le_of_ble_eq_true rfl) rfl (by decide) rfl rfl g3 g4.1 dX4_greatestApart_65 ?_
          refine wp_iload (pc := 66) C 6 dX4_greatestApart_66 rfl ?_
          refine wp_iload_n (pc := 68) C 2 dX4_greatestApart_68 rfl rfl ?_
          obtain ⟨S5, r6, cS5, h⟩ := bd_some h
          refine wp_callVl (As := [.ref (gA G a5), .ref (gA G (srX 160 (Int32.toNatClampNeg (S.1 243 3)))), .int x8, .int x2]) (st := [.long x6]) (pc := 69) C (CtX0_apartOf cS5) mX0_apartOf iX0_apartOf kX4_159 g1.1 g1.2 (by decide) rfl rfl rfl rfl (Nat.le_of_ble_eq_true rfl) ⟨Nat.le_of_ble_eq_true rfl, Nat.le_of_ble_eq_true rfl⟩ dX4_greatestApart_69 ?_
          refine wp_maxL (pc := 72) C kX4_163 (Nat.le_of_ble_eq_true rfl) (Nat.le_of_ble_eq_true rfl) dX4_greatestApart_72 ?_
          obtain ⟨z7, ez7, h⟩ := bn_some h
          refine wp_lstore (pc := 75) C ez7 [(6, .long z7), (0, .ref (gA G 243)), (1, .int x1), (2, .int x2), (3, .long x3), (5, .ref (gA G a5)), (8, .int x8)] dX4_greatestApart_75 (Nat.le_of_ble_eq_true rfl) rfl ?_
          exact wp_sub C [1, 2, 3, 4, 5, 0, 6] rfl (wX4_greatestApart_j77 C ih h)
def fX4_greatestApart (n : Nat) (S : St) (x1 : Int32) (x2 : Int32) (x3 : Int64) : Option (St × Int64) :=
  bd (fX9_thrownBack n S) (fun S1 r2 =>
  fX4_greatestApart_l15 n n S1 x1 x2 x3 r2 0 0)
set_option maxRecDepth 100000 in
set_option maxHeartbeats 4000000 in
theorem wX4_greatestApart (C : Cx G sdX cX4_greatestApart 9 RX4 (some .long)) {n : Nat} {S S' : St} {r : Int64} {x1 : Int32} {x2 : Int32} {x3 : Int64} (h : fX4_greatestApart n S x1 x2 x3 = some (S', r)) : Wp G sdX (rmOf 2 55) 9 (Qm G sdX (some (.long r)) S') S 0 [(0, .ref (gA G 243)), (1, .int x1), (2, .int x2), (3, .long x3)] [] := by
  unfold fX4_greatestApart at h
  refine wp_aload_n (pc := 0) C 0 dX4_greatestApart_0 rfl rfl ?_
  refine wp_getS (v := 244) (pc := 1) C flX4_24 rfl rfl (Nat.le_of_ble_eq_true rfl) (Nat.le_of_ble_eq_true rfl) rfl dX4_greatestApart_1 ?_
  obtain ⟨S1, r2, cS1, h⟩ := bd_some h
  refine wp_callVrR (As := []) (st := []) (pc := 4) C (CtX9_thrownBack cS1) mX9_thrownBack iX9_thrownBack kX4_137 (Nat.le_of_ble_eq_true rfl) rfl (by decide) rfl rfl rfl rfl (Nat.le_of_ble_eq_true rfl) ⟨Nat.le_of_ble_eq_true rfl, Nat.le_of_ble_eq_true rfl⟩ dX4_greatestApart_4 ?_
  refine wp_astore (pc := 7) C rfl [(5, .ref (gA G r2)), (0, .ref (gA G 243)), (1, .int x1), (2, .int x2), (3, .long x3)] dX4_greatestApart_7 (Nat.le_of_ble_eq_true rfl) rfl ?_
  refine wp_lconst (v := 0) (pc := 9) C dX4_greatestApart_9 (by decide) ?_
  refine wp_lstore (pc := 10) C rfl [(6, .long 0), (5, .ref (gA G r2)), (0, .ref (gA G 243)), (1, .int x1), (2, .int x2), (3, .long x3)] dX4_greatestApart_10 (Nat.le_of_ble_eq_true rfl) rfl ?_
  refine wp_iconst (v := 0) (pc := 12) C dX4_greatestApart_12 (by decide) ?_
  refine wp_istore (pc := 13) C rfl [(8, .int 0), (6, .long 0), (5, .ref (gA G r2)), (0, .ref (gA G 243)), (1, .int x1), (2, .int x2), (3, .long x3)] dX4_greatestApart_13 (Nat.le_of_ble_eq_true rfl) rfl ?_
  exact wp_sub C [3, 4, 5, 6, 2, 1, 0] rfl (wX4_greatestApart_l15 C _ _ _ _ _ _ _ _ h)
theorem CtX4_greatestApart {n : Nat} {S S' : St} {r : Int64} {x1 : Int32} {x2 : Int32} {x3 : Int64} (h : fX4_greatestApart n S x1 x2 x3 = some (S', r)) : Ct l sdX cy ad D yX4_greatestApart cX4_greatestApart 9 (some .long) 2 55 [.ref (ad 243), .int x1, .int x2, .long x3] S (some (.long r)) S' :=
  Ct_of (own := RX4) mX4_greatestApart rfl (Nat.le_of_ble_eq_true rfl) (fun G e1 e2 e3 e4 C => by subst e1 e2 e3 e4; exact wX4_greatestApart C h)
def fX4_findNearest_j77 (n : Nat) (k27 : St → Int32 → Int32 → Int64 → Int32 → Option (St × Int64)) (S : St) (x1 : Int32) (x2 : Int32) (x4 : Int64) (x6 : Int32) : Option (St × Int64) :=
  bd (fX9_advance n S) (fun S1 r2 =>
  bn (x6 + 1) (fun z3 : Int32 =>
  k27 S1 x1 x2 x4 z3))
set_option maxRecDepth 100000 in
set_option maxHeartbeats 4000000 in
theorem wX4_findNearest_j77 (C : Cx G sdX cX4_findNearest 9 RX4 (some .long)) {n : Nat} {k27 : St → Int32 → Int32 → Int64 → Int32 → Option (St × Int64)} {S S' : St} {r : Int64} {x1 : Int32} {x2 : Int32} {x4 : Int64} {x6 : Int32} (hk27 : ∀ (S : St) (x1 : Int32) (x2 : Int32) (x4 : Int64) (x6 : Int32), k27 S x1 x2 x4 x6 = some (S', r) → Wp G sdX (rmOf 3 83) 9 (Qm G sdX (some (.long r)) S') S 27 [(0, .ref (gA G 243)), (1, .int x1), (2, .int x2), (4, .long x4), (6, .int x6)] []) (h : fX4_findNearest_j77 n k27 S x1 x2 x4 x6 = some (S', r)) : Wp G sdX (rmOf 3 83) 9 (Qm G sdX (some (.long r)) S') S 77 [(0, .ref (gA G 243)), (1, .int x1), (2, .int x2), (4, .long x4), (6, .int x6)] [] := by
  unfold fX4_findNearest_j77 at h
  refine wp_aload_n (pc := 77) C 0 dX4_findNearest_77 rfl rfl ?_
  refine wp_getS (v := 244) (pc := 78) C flX4_24 rfl rfl (Nat.le_of_ble_eq_true rfl) (Nat.le_of_ble_eq_true rfl) rfl dX4_findNearest_78 ?_
  obtain ⟨S1, r2, cS1, h⟩ := bd_some h
  refine wp_callVv (As := []) (st := []) (pc := 81) C (CtX9_advance cS1) mX9_advance iX9_advance kX4_134 (Nat.le_of_ble_eq_true rfl) rfl (by decide) rfl rfl rfl rfl (Nat.le_of_ble_eq_true rfl) ⟨Nat.le_of_ble_eq_true rfl, Nat.le_of_ble_eq_true rfl⟩ dX4_findNearest_81 ?_
  obtain ⟨z3, ez3, h⟩ := bn_some h
  refine wp_iinc (q := 4) (pc := 84) C (by decide) ez3 [(6, .int z3), (0, .ref (gA G 243)), (1, .int x1), (2, .int x2), (4, .long x4)] dX4_findNearest_84 rfl (Nat.le_of_ble_eq_true rfl) rfl ?_
  refine wp_goto (pc := 87) C 27 dX4_findNearest_87 (by decide) ?_
  exact wp_sub C [1, 2, 3, 4, 0] rfl (hk27 _ _ _ _ _ h)
def fX4_findNearest_j69 (n : Nat) (k27 : St → Int32 → Int32 → Int64 → Int32 → Option (St × Int64)) (S : St) (x1 : Int32) (x2 : Int32) (x6 : Int32) (x7 : Int64) : Option (St × Int64) :=
  bd (fX4_keep n S) (fun S1 r2 =>
  fX4_findNearest_j77 n k27 S1 x1 x2 x7 x6)
set_option maxRecDepth 100000 in
set_option maxHeartbeats 4000000 in
theorem wX4_findNearest_j69 (C : Cx G sdX cX4_findNearest 9 RX4 (some .long)) {n : Nat} {k27 : St → Int32 → Int32 → Int64 → Int32 → Option (St × Int64)} {S S' : St} {r : Int64} {x1 : Int32} {x2 : Int32} {x6 : Int32} {x7 : Int64} (hk27 : ∀ (S : St) (x1 : Int32) (x2 : Int32) (x4 : Int64) (x6 : Int32), k27 S x1 x2 x4 x6 = some (S', r) → Wp G sdX (rmOf 3 83) 9 (Qm G sdX (some (.long r)) S') S 27 [(0, .ref (gA G 243)), (1, .int x1), (2, .int x2), (4, .long x4), (6, .int x6)] []) (h : fX4_findNearest_j69 n k27 S x1 x2 x6 x7 = some (S', r)) : Wp G sdX (rmOf 3 83) 9 (Qm G sdX (some (.long r)) S') S 69 [(0, .ref (gA G 243)), (1, .int x1), (2, .int x2), (6, .int x6), (7, .long x7)] [] := by
  unfold fX4_findNearest_j69 at h
  refine wp_lload (pc := 69) C 4 dX4_findNearest_69 rfl ?_
  refine wp_lstore (pc := 71) C rfl [(4, .long x7), (0, .ref (gA G 243)), (1, .int x1), (2, .int x2), (6, .int x6), (7, .long x7)] dX4_findNearest_71 (Nat.le_of_ble_eq_true rfl) rfl ?_
  refine wp_aload_n (pc := 73) C 1 dX4_findNearest_73 rfl rfl ?_
  obtain ⟨S1, r2, cS1, h⟩ := bd_some h
  refine wp_callVv (As := []) (st := []) (pc := 74) C (CtX4_keep cS1) mX4_keep iX4_keep kX4_131 (Nat.le_of_ble_eq_true rfl) rfl (by decide) rfl rfl rfl rfl (Nat.le_of_ble_eq_true rfl) ⟨Nat.le_of_ble_eq_true rfl, Nat.le_of_ble_eq_true rfl⟩ dX4_findNearest_74 ?_
  exact wp_sub C [1, 2, 3, 0, 4] rfl (wX4_findNearest_j77 C hk27 h)
def fX4_findNearest_l27 (n : Nat) : Nat → St → Int32 → Int32 → Int64 → Int32 → Option (St × Int64)
  | 0, _, _, _, _, _ => none
  | j + 1, S, x1, x2, x4, x6 =>
    if (S.1 243 14) ≤ x6 then
      some (S, x4)
    else
      bd (fX4_greatestApart n S x1 x2 x4) (fun S1 r2 =>
      if (lg_cmp r2 x4) < 0 then
        fX4_findNearest_j69 n (fX4_findNearest_l27 n j) S1 x1 x2 x6 r2
      else
        if (lg_cmp r2 x4) = 0 then
          bd (fX4_isPreferred n S1) (fun S3 r4 =>
          if r4 = 0 then
            fX4_findNearest_j77 n (fX4_findNearest_l27 n j) S3 x1 x2 x4 x6
          else
            fX4_findNearest_j69 n (fX4_findNearest_l27 n j) S3 x1 x2 x6 r2)
        else
          fX4_findNearest_j77 n (fX4_findNearest_l27 n j) S1 x1 x2 x4 x6)
set_option maxRecDepth 100000 in
set_option maxHeartbeats 4000000 in
theorem wX4_findNearest_l27 (C : Cx G sdX cX4_findNearest 9 RX4 (some .long)) {n : Nat} {S' : St} {r : Int64} : ∀ (j : Nat) (S : St) (x1 : Int32) (x2 : Int32) (x4 : Int64) (x6 : Int32), fX4_findNearest_l27 n j S x1 x2 x4 x6 = some (S', r) → Wp G sdX (rmOf 3 83) 9 (Qm G sdX (some (.long r)) S') S 27 [(0, .ref (gA G 243)), (1, .int x1), (2, .int x2), (4, .long x4), (6, .int x6)] [] := by
  intro j
  induction j with
  | zero =>
    intro S x1 x2 x4 x6 h
    exact nomatch (show (none : Option (St × Int64)) = some _ from h)
  | succ j ih =>
    intro S x1 x2 x4 x6 h
    rw [fX4_findNearest_l27] at h
    refine wp_iload (pc := 27) C 4 dX4_findNearest_27 rfl ?_
    refine wp_aload_n (pc := 29) C 0 dX4_findNearest_29 rfl rfl ?_
    refine wp_getI (pc := 30) C flX4_46 rfl (Nat.le_of_ble_eq_true rfl) rfl dX4_findNearest_30 ?_
    refine wp_icmp_ge (pc := 33) C 90 dX4_findNearest_33 (by decide) (fun q => ?_) (fun q => ?_)
    · have h := it_pos q h
      refine wp_lload (pc := 90) C 3 dX4_findNearest_90 rfl ?_
      exact rt_l C rfl h dX4_findNearest_92
    · have h := it_neg q h
      refine wp_aload_n (pc := 36) C 0 dX4_findNearest_36 rfl rfl ?_
      refine wp_iload_n (pc := 37) C 1 dX4_findNearest_37 rfl rfl ?_
      refine wp_iload_n (pc := 38) C 2 dX4_findNearest_38 rfl rfl ?_
      refine wp_lload (pc := 39) C 3 dX4_findNearest_39 rfl ?_
      obtain ⟨S1, r2, cS1, h⟩ := bd_some h
      refine wp_callVl (As := [.int x1, .int x2, .long x4]) (st := []) (pc := 41) C (CtX4_greatestApart cS1) mX4_greatestApart iX4_greatestApart kX4_155 (Nat.le_of_ble_eq_true rfl) rfl (by decide) rfl rfl rfl rfl (Nat.le_of_ble_eq_true rfl) ⟨Nat.le_of_ble_eq_true rfl, Nat.le_of_ble_eq_true rfl⟩ dX4_findNearest_41 ?_
      refine wp_lstore (pc := 44) C rfl [(7, .long r2), (0, .ref (gA G 243)), (1, .int x1), (2, .int x2), (4, .long x4), (6, .int x6)] dX4_findNearest_44 (Nat.le_of_ble_eq_true rfl) rfl ?_
      refine wp_lload (pc := 46) C 0 dX4_findNearest_46 rfl ?_
      refine wp_lload (pc := 48) C 4 dX4_findNearest_48 rfl ?_
      refine wp_lcmp (pc := 50) C dX4_findNearest_50 ?_
      refine wp_if_lt (pc := 51) C 69 dX4_findNearest_51 (by decide) (fun q => ?_) (fun q => ?_)
      · have h := it_pos q h
        exact wp_sub C [1, 2, 3, 5, 0] rfl (wX4_findNearest_j69 C ih h)
      · have h := it_neg q h
        refine wp_lload (pc := 54) C 0 dX4_findNearest_54 rfl ?_
        refine wp_lload (pc := 56) C 4 dX4_findNearest_56 rfl ?_
        refine wp_lcmp (pc := 58) C dX4_findNearest_58 ?_
        refine wp_if_ne (pc := 59) C 77 dX4_findNearest_59 (by decide) (fun q => ?_) (fun q => ?_)
        · have h := it_neg q h
          exact wp_sub C [1, 2, 3, 4, 5] rfl (wX4_findNearest_j77 C ih h)
        · have h := it_pos q h
          refine wp_aload_n (pc := 62) C 1 dX4_findNearest_62 rfl rfl ?_
          obtain ⟨S3, r4, cS3, h⟩ := bd_some h
          refine wp_callVi (As := []) (st := []) (pc := 63) C (CtX4_isPreferred cS3) mX4_isPreferred iX4_isPreferred kX4_123 (Nat.le_of_ble_eq_true rfl) rfl (by decide) rfl rfl rfl rfl (Nat.le_of_ble_eq_true rfl) ⟨Nat.le_of_ble_eq_true rfl, Nat.le_of_ble_eq_true rfl⟩ dX4_findNearest_63 ?_
          refine wp_if_eq (pc := 66) C 77 dX4_findNearest_66 (by decide) (fun q => ?_) (fun q => ?_)
          · have h := it_pos q h
            exact wp_sub C [1, 2, 3, 4, 5] rfl (wX4_findNearest_j77 C ih h)
          · have h := it_neg q h
            exact wp_sub C [1, 2, 3, 5, 0] rfl (wX4_findNearest_j69 C ih h)
def fX4_findNearest (n : Nat) (S : St) (x1 : Int32) (x2 : Int32) : Option (St × Int64) :=
  bd (fX4_hasLamps n S x1) (fun S1 r2 =>
  bd (fX4_start n S1 r2 100000) (fun S3 r4 =>
  if r4 = 0 then
    fX4_findNearest_l27 n n S3 x1 x2 9223372036854775807 0
  else
    some (S3, (r4 : Int32).toInt64)))
set_option maxRecDepth 100000 in
set_option maxHeartbeats 4000000 in
theorem wX4_findNearest (C : Cx G sdX cX4_findNearest 9 RX4 (some .long)) {n : Nat} {S S' : St} {r : Int64} {x1 : Int32} {x2 : Int32} (h : fX4_findNearest n S x1 x2 = some (S', r)) : Wp G sdX (rmOf 3 83) 9 (Qm G sdX (some (.long r)) S') S 0 [(0, .ref (gA G 243)), (1, .int x1), (2, .int x2)] [] := by
  unfold fX4_findNearest at h
  refine wp_aload_n (pc := 0) C 0 dX4_findNearest_0 rfl rfl ?_
  refine wp_aload_n (pc := 1) C 0 dX4_findNearest_1 rfl rfl ?_
  refine wp_iload_n (pc := 2) C 1 dX4_findNearest_2 rfl rfl ?_
  obtain ⟨S1, r2, cS1, h⟩ := bd_some h
  refine wp_callVi (As := [.int x1]) (st := [.ref (gA G 243)]) (pc := 3) C (CtX4_hasLamps cS1) mX4_hasLamps iX4_hasLamps kX4_115 (Nat.le_of_ble_eq_true rfl) rfl (by decide) rfl rfl rfl rfl (Nat.le_of_ble_eq_true rfl) ⟨Nat.le_of_ble_eq_true rfl, Nat.le_of_ble_eq_true rfl⟩ dX4_findNearest_3 ?_
  refine wp_ldc (pc := 6) C qX4_119 dX4_findNearest_6 ?_
  obtain ⟨S3, r4, cS3, h⟩ := bd_some h
  refine wp_callVi (As := [.int r2, .int 100000]) (st := []) (pc := 8) C (CtX4_start cS3) mX4_start iX4_start kX4_120 (Nat.le_of_ble_eq_true rfl) rfl (by decide) rfl rfl rfl rfl (Nat.le_of_ble_eq_true rfl) ⟨Nat.le_of_ble_eq_true rfl, Nat.le_of_ble_eq_true rfl⟩ dX4_findNearest_8 ?_
  refine wp_istore_n (pc := 11) C rfl [(3, .int r4), (0, .ref (gA G 243)), (1, .int x1), (2, .int x2)] dX4_findNearest_11 rfl (Nat.le_of_ble_eq_true rfl) rfl ?_
  refine wp_iload_n (pc := 12) C 0 dX4_findNearest_12 rfl rfl ?_
  refine wp_if_eq (pc := 13) C 19 dX4_findNearest_13 (by decide) (fun q => ?_) (fun q => ?_)
  · have h := it_pos q h
    refine wp_ldc2 (pc := 19) C qX4_153 dX4_findNearest_19 ?_
    refine wp_lstore (pc := 22) C rfl [(4, .long 9223372036854775807), (3, .int r4), (0, .ref (gA G 243)), (1, .int x1), (2, .int x2)] dX4_findNearest_22 (Nat.le_of_ble_eq_true rfl) rfl ?_
    refine wp_iconst (v := 0) (pc := 24) C dX4_findNearest_24 (by decide) ?_
    refine wp_istore (pc := 25) C rfl [(6, .int 0), (4, .long 9223372036854775807), (3, .int r4), (0, .ref (gA G 243)), (1, .int x1), (2, .int x2)] dX4_findNearest_25 (Nat.le_of_ble_eq_true rfl) rfl ?_
    exact wp_sub C [3, 4, 5, 1, 0] rfl (wX4_findNearest_l27 C _ _ _ _ _ _ h)
  · have h := it_neg q h
    refine wp_iload_n (pc := 16) C 0 dX4_findNearest_16 rfl rfl ?_
    refine wp_i2l (pc := 17) C dX4_findNearest_17 ?_
    exact rt_l C rfl h dX4_findNearest_18
theorem CtX4_findNearest {n : Nat} {S S' : St} {r : Int64} {x1 : Int32} {x2 : Int32} (h : fX4_findNearest n S x1 x2 = some (S', r)) : Ct l sdX cy ad D yX4_findNearest cX4_findNearest 9 (some .long) 3 83 [.ref (ad 243), .int x1, .int x2] S (some (.long r)) S' :=
  Ct_of (own := RX4) mX4_findNearest rfl (Nat.le_of_ble_eq_true rfl) (fun G e1 e2 e3 e4 C => by subst e1 e2 e3 e4; exact wX4_findNearest C h)
def fX5_has (sd : Sd) (n : Nat) (S : St) (a0 : Nat) (x1 : Int32) : Option (St × Int32) :=
  if x1 < 0 then
    some (S, 0)
  else
    gd (isK sd a0 5) (
    if (S.1 a0 3) ≤ x1 then
      some (S, 0)
    else
      some (S, 1))
set_option maxRecDepth 100000 in
set_option maxHeartbeats 4000000 in
theorem wX5_has {sd : Sd} (C : Cx G sd cX5_has 2 RX5 (some .boolean)) {n : Nat} {S S' : St} {r : Int32} {a0 : Nat} {x1 : Int32} (h : fX5_has sd n S a0 x1 = some (S', r)) : Wp G sd (rmOf 0 0) 2 (Qm G sd (some (.int r)) S') S 0 [(0, .ref (gA G a0)), (1, .int x1)] [] := by
  unfold fX5_has at h
  refine wp_iload_n (pc := 0) C 1 dX5_has_0 rfl rfl ?_
  refine wp_if_lt (pc := 1) C 16 dX5_has_1 (by decide) (fun q => ?_) (fun q => ?_)
  · have h := it_pos q h
    refine wp_iconst (v := 0) (pc := 16) C dX5_has_16 (by decide) ?_
    exact rt_z C (Or.inl rfl) rfl h dX5_has_17
  · have h := it_neg q h
    refine wp_iload_n (pc := 4) C 1 dX5_has_4 rfl rfl ?_
    refine wp_aload_n (pc := 5) C 0 dX5_has_5 rfl rfl ?_
    obtain ⟨g1, h⟩ := gd_some h
    refine wp_getI (pc := 6) C flX5_24 rfl g1.1 g1.2 dX5_has_6 ?_
    refine wp_icmp_ge (pc := 9) C 16 dX5_has_9 (by decide) (fun q => ?_) (fun q => ?_)
    · have h := it_pos q h
      refine wp_iconst (v := 0) (pc := 16) C dX5_has_16 (by decide) ?_
      exact rt_z C (Or.inl rfl) rfl h dX5_has_17
    · have h := it_neg q h
      refine wp_iconst (v := 1) (pc := 12) C dX5_has_12 (by decide) ?_
      refine wp_goto (pc := 13) C 17 dX5_has_13 (by decide) ?_
      exact rt_z C (Or.inr rfl) rfl h dX5_has_17
theorem CtX5_has {sd : Sd} {n : Nat} {S S' : St} {r : Int32} {a0 : Nat} {x1 : Int32} (h : fX5_has sd n S a0 x1 = some (S', r)) : Ct l sd cy ad D yX5_has cX5_has 2 (some .boolean) 0 0 [.ref (ad a0), .int x1] S (some (.int r)) S' :=
  Ct_of (own := RX5) mX5_has rfl (Nat.le_of_ble_eq_true rfl) (fun G e1 e2 e3 e4 C => by subst e1 e2 e3 e4; exact wX5_has C h)
end
