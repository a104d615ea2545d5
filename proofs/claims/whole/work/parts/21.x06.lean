section
variable {G : Gx} {l : Launch} {cy : Nat → ClassId} {ad : Nat → Nat} {D : va_G}
def fX10_end (n : Nat) (S : St) (x1 : Int32) : Option (St × Int32) :=
  if x1 < 0 then
    some (S, (-1))
  else
    if x1 ≤ (S.1 1 1) then
      bn (sI S 1 1 x1) (fun S1 : St =>
      some (S1, x1))
    else
      some (S, (-1))
set_option maxRecDepth 100000 in
set_option maxHeartbeats 4000000 in
theorem wX10_end (C : Cx G sdX cX10_end 2 RX10 (some .int)) {n : Nat} {S S' : St} {r : Int32} {x1 : Int32} (h : fX10_end n S x1 = some (S', r)) : Wp G sdX (rmOf 0 0) 2 (Qm G sdX (some (.int r)) S') S 0 [(0, .ref (gA G 0)), (1, .int x1)] [] := by
  unfold fX10_end at h
  refine wp_iload_n (pc := 0) C 1 dX10_end_0 rfl rfl ?_
  refine wp_if_lt (pc := 1) C 15 dX10_end_1 (by decide) (fun q => ?_) (fun q => ?_)
  · have h := it_pos q h
    refine wp_iconst (v := (-1)) (pc := 15) C dX10_end_15 (by decide) ?_
    exact rt_i C rfl h dX10_end_16
  · have h := it_neg q h
    refine wp_iload_n (pc := 4) C 1 dX10_end_4 rfl rfl ?_
    refine wp_aload_n (pc := 5) C 0 dX10_end_5 rfl rfl ?_
    refine wp_getS (v := 1) (pc := 6) C flX10_12 rfl rfl (Nat.le_of_ble_eq_true rfl) (Nat.le_of_ble_eq_true rfl) rfl dX10_end_6 ?_
    refine wp_getI (pc := 9) C flX10_92 rfl (Nat.le_of_ble_eq_true rfl) rfl dX10_end_9 ?_
    refine wp_icmp_le (pc := 12) C 17 dX10_end_12 (by decide) (fun q => ?_) (fun q => ?_)
    · have h := it_pos q h
      refine wp_aload_n (pc := 17) C 0 dX10_end_17 rfl rfl ?_
      refine wp_getS (v := 1) (pc := 18) C flX10_12 rfl rfl (Nat.le_of_ble_eq_true rfl) (Nat.le_of_ble_eq_true rfl) rfl dX10_end_18 ?_
      refine wp_iload_n (pc := 21) C 1 dX10_end_21 rfl rfl ?_
      obtain ⟨S1, eS1, h⟩ := bn_some h
      refine wp_putI (pc := 22) C eS1 flX10_92 fpX6_1 rfl (Nat.le_of_ble_eq_true rfl) rfl dX10_end_22 ?_
      refine wp_iload_n (pc := 25) C 1 dX10_end_25 rfl rfl ?_
      exact rt_i C rfl h dX10_end_26
    · have h := it_neg q h
      refine wp_iconst (v := (-1)) (pc := 15) C dX10_end_15 (by decide) ?_
      exact rt_i C rfl h dX10_end_16
theorem CtX10_end {n : Nat} {S S' : St} {r : Int32} {x1 : Int32} (h : fX10_end n S x1 = some (S', r)) : Ct l sdX cy ad D yX10_end cX10_end 2 (some .int) 0 0 [.ref (ad 0), .int x1] S (some (.int r)) S' :=
  Ct_of (own := RX10) mX10_end rfl (Nat.le_of_ble_eq_true rfl) (fun G e1 e2 e3 e4 C => by subst e1 e2 e3 e4; exact wX10_end C h)
def fX10_startAnew_j61 (n : Nat) (S : St) : Option (St × Unit) :=
  bn (sI S 0 11 0) (fun S1 : St =>
  some (S1, ()))
set_option maxRecDepth 100000 in
set_option maxHeartbeats 4000000 in
theorem wX10_startAnew_j61 (C : Cx G sdX cX10_startAnew 2 RX10 none) {n : Nat} {S S' : St} {r : Unit} (h : fX10_startAnew_j61 n S = some (S', r)) : Wp G sdX (rmOf 4 99) 2 (Qm G sdX none S') S 61 [(0, .ref (gA G 0))] [] := by
  unfold fX10_startAnew_j61 at h
  refine wp_aload_n (pc := 61) C 0 dX10_startAnew_61 rfl rfl ?_
  refine wp_iconst (v := 0) (pc := 62) C dX10_startAnew_62 (by decide) ?_
  obtain ⟨S1, eS1, h⟩ := bn_some h
  refine wp_putZ (pc := 63) C (Or.inl rfl) eS1 flX10_76 fpX10_11 rfl (Nat.le_of_ble_eq_true rfl) rfl dX10_startAnew_63 ?_
  exact rt_v C rfl h dX10_startAnew_66
def fX10_startAnew_l40 (n : Nat) : Nat → St → Int32 → Option (St × Unit)
  | 0, _, _ => none
  | j + 1, S, x1 =>
    if 3 ≤ x1 then
      fX10_startAnew_j61 n S
    else
      gd (ib x1 3) (
      gd (isK sdX (srX 263 (Int32.toNatClampNeg x1)) 8) (
      bn (sI S (srX 263 (Int32.toNatClampNeg x1)) 4 0) (fun S3 : St =>
      bn (x1 + 1) (fun z4 : Int32 =>
      fX10_startAnew_l40 n j S3 z4))))
set_option maxRecDepth 100000 in
set_option maxHeartbeats 4000000 in
theorem wX10_startAnew_l40 (C : Cx G sdX cX10_startAnew 2 RX10 none) {n : Nat} {S' : St} {r : Unit} : ∀ (j : Nat) (S : St) (x1 : Int32), fX10_startAnew_l40 n j S x1 = some (S', r) → Wp G sdX (rmOf 4 99) 2 (Qm G sdX none S') S 40 [(0, .ref (gA G 0)), (1, .int x1)] [] := by
  intro j
  induction j with
  | zero =>
    intro S x1 h
    exact nomatch (show (none : Option (St × Unit)) = some _ from h)
  | succ j ih =>
    intro S x1 h
    rw [fX10_startAnew_l40] at h
    refine wp_iload_n (pc := 40) C 1 dX10_startAnew_40 rfl rfl ?_
    refine wp_iconst (v := 3) (pc := 41) C dX10_startAnew_41 (by decide) ?_
    refine wp_icmp_ge (pc := 42) C 61 dX10_startAnew_42 (by decide) (fun q => ?_) (fun q => ?_)
    · have h := it_pos q h
      exact wp_sub C [0] rfl (wX10_startAnew_j61 C h)
    · have h := it_neg q h
      refine wp_aload_n (pc := 45) C 0 dX10_startAnew_45 rfl rfl ?_
      refine wp_getS (v := 263) (pc := 46) C flX10_65 rfl rfl (Nat.le_of_ble_eq_true rfl) (Nat.le_of_ble_eq_true rfl) rfl dX10_startAnew_46 ?_
      refine wp_iload_n (pc := 49) C 1 dX10_startAnew_49 rfl rfl ?_
      obtain ⟨g1, h⟩ := gd_some h
      obtain ⟨g2, h⟩ := gd_some h
      refine wp_aald (t0 := 4) (pc := 50) C (Nat.le_of_ble_eq_true rfl) rfl (by decide) rfl rfl g1 g2.1 dX10_startAnew_50 ?_
      refine wp_iconst (v := 0) (pc := 51) C dX10_startAnew_51 (by decide) ?_
      obtain ⟨S3, eS3, h⟩ := bn_some h
      refine wp_putZ (pc := 52) C (Or.inl rfl) eS3 flX10_127 fpX8_4 rfl g2.1 g2.2 dX10_startAnew_52 ?_
      obtain ⟨z4, ez4, h⟩ := bn_some h
      refine wp_iinc (q := 1) (pc := 55) C (by decide) ez4 [(1, .int z4), (0, .ref (gA G 0))] dX10_startAnew_55 rfl (Nat.le_of_ble_eq_true rfl) rfl ?_
      refine wp_goto (pc := 58) C 40 dX10_startAnew_58 (by decide) ?_
      exact wp_sub C [1, 0] rfl (ih _ _ h)
def fX10_startAnew (n : Nat) (S : St) : Option (St × Unit) :=
  gd (isK sdX (S.2.2 0 2) 0) (
  bd (fX2_fill n S (S.2.2 0 2)) (fun S2 r3 =>
  bn (sI S2 234 9 0) (fun S4 : St =>
  gd (isK sdX (S4.2.2 0 2) 0) (
  bd (fX4_forget n S4 (S4.2.2 0 2)) (fun S6 r7 =>
  bd (fX8_putOn sdX n S6 261 0) (fun S8 r9 =>
  fX10_startAnew_l40 n n S8 0))))))
set_option maxRecDepth 100000 in
set_option maxHeartbeats 4000000 in
theorem wX10_startAnew (C : Cx G sdX cX10_startAnew 2 RX10 none) {n : Nat} {S S' : St} {r : Unit} (h : fX10_startAnew n S = some (S', r)) : Wp G sdX (rmOf 4 99) 2 (Qm G sdX none S') S 0 [(0, .ref (gA G 0))] [] := by
  unfold fX10_startAnew at h
  refine wp_aload_n (pc := 0) C 0 dX10_startAnew_0 rfl rfl ?_
  refine wp_getS (v := 157) (pc := 1) C flX10_38 rfl rfl (Nat.le_of_ble_eq_true rfl) (Nat.le_of_ble_eq_true rfl) rfl dX10_startAnew_1 ?_
  refine wp_aload_n (pc := 4) C 0 dX10_startAnew_4 rfl rfl ?_
  obtain ⟨g1, h⟩ := gd_some h
  refine wp_getD (pc := 5) C flX10_19 rfl g1.1 (Nat.le_of_ble_eq_true rfl) rfl dX10_startAnew_5 ?_
  obtain ⟨S2, r3, cS2, h⟩ := bd_some h
  refine wp_callVv (As := [.ref (gA G (S.2.2 0 2))]) (st := []) (pc := 8) C (CtX2_fill cS2) mX2_fill iX2_fill kX10_117 (Nat.le_of_ble_eq_true rfl) rfl (by decide) rfl rfl rfl rfl (Nat.le_of_ble_eq_true rfl) ⟨Nat.le_of_ble_eq_true rfl, Nat.le_of_ble_eq_true rfl⟩ dX10_startAnew_8 ?_
  refine wp_aload_n (pc := 11) C 0 dX10_startAnew_11 rfl rfl ?_
  refine wp_getS (v := 234) (pc := 12) C flX10_45 rfl rfl (Nat.le_of_ble_eq_true rfl) (Nat.le_of_ble_eq_true rfl) rfl dX10_startAnew_12 ?_
  refine wp_iconst (v := 0) (pc := 15) C dX10_startAnew_15 (by decide) ?_
  obtain ⟨S4, eS4, h⟩ := bn_some h
  refine wp_putI (pc := 16) C eS4 flX10_120 fpX1_9 rfl (Nat.le_of_ble_eq_true rfl) rfl dX10_startAnew_16 ?_
  refine wp_aload_n (pc := 19) C 0 dX10_startAnew_19 rfl rfl ?_
  refine wp_getS (v := 243) (pc := 20) C flX10_54 rfl rfl (Nat.le_of_ble_eq_true rfl) (Nat.le_of_ble_eq_true rfl) rfl dX10_startAnew_20 ?_
  refine wp_aload_n (pc := 23) C 0 dX10_startAnew_23 rfl rfl ?_
  obtain ⟨g5, h⟩ := gd_some h
  refine wp_getD (pc := 24) C flX10_19 rfl g5.1 (Nat.le_of_ble_eq_true rfl) rfl dX10_startAnew_24 ?_
  obtain ⟨S6, r7, cS6, h⟩ := bd_some h
  refine wp_callVv (As := [.ref (gA G (S4.2.2 0 2))]) (st := []) (pc := 27) C (CtX4_forget cS6) mX4_forget iX4_forget kX10_121 (Nat.le_of_ble_eq_true rfl) rfl (by decide) rfl rfl rfl rfl (Nat.le_of_ble_eq_true rfl) ⟨Nat.le_of_ble_eq_true rfl, Nat.le_of_ble_eq_true rfl⟩ dX10_startAnew_27 ?_
  refine wp_aload_n (pc := 30) C 0 dX10_startAnew_30 rfl rfl ?_
  refine wp_getS (v := 261) (pc := 31) C flX10_61 rfl rfl (Nat.le_of_ble_eq_true rfl) (Nat.le_of_ble_eq_true rfl) rfl dX10_startAnew_31 ?_
  refine wp_iconst (v := 0) (pc := 34) C dX10_startAnew_34 (by decide) ?_
  obtain ⟨S8, r9, cS8, h⟩ := bd_some h
  refine wp_callVv (As := [.int 0]) (st := []) (pc := 35) C (CtX8_putOn cS8) mX8_putOn iX8_putOn kX10_124 (Nat.le_of_ble_eq_true rfl) rfl (by decide) rfl rfl rfl rfl (Nat.le_of_ble_eq_true rfl) ⟨Nat.le_of_ble_eq_true rfl, Nat.le_of_ble_eq_true rfl⟩ dX10_startAnew_35 ?_
  refine wp_iconst (v := 0) (pc := 38) C dX10_startAnew_38 (by decide) ?_
  refine wp_istore_n (pc := 39) C rfl [(1, .int 0), (0, .ref (gA G 0))] dX10_startAnew_39 rfl (Nat.le_of_ble_eq_true rfl) rfl ?_
  exact wp_sub C [1, 0] rfl (wX10_startAnew_l40 C _ _ _ h)
theorem CtX10_startAnew {n : Nat} {S S' : St} {r : Unit} (h : fX10_startAnew n S = some (S', r)) : Ct l sdX cy ad D yX10_startAnew cX10_startAnew 2 none 4 99 [.ref (ad 0)] S none S' :=
  Ct_of (own := RX10) mX10_startAnew rfl (Nat.le_of_ble_eq_true rfl) (fun G e1 e2 e3 e4 C => by subst e1 e2 e3 e4; exact wX10_startAnew C h)
def fX10_bench (n : Nat) (S : St) : Option (St × Int32) :=
  gd (isK sdX (S.2.2 0 3) 0) (
  bd (fX3_read n S (S.2.2 0 3)) (fun S2 r3 =>
  bn (sI S2 1 1 0) (fun S4 : St =>
  if r3 = 0 then
    some (S4, (-1))
  else
    gd (isK sdX (S4.2.2 0 2) 0) (
    bn (S4.2.2 0 2) (fun a6 : Nat =>
    gd (isK sdX (S4.2.2 0 3) 0) (
    bn (sR S4 0 2 (S4.2.2 0 3)) (fun S8 : St =>
    gd (isK sdX a6 0) (
    bn (sR S8 0 3 a6) (fun S10 : St =>
    bd (fX10_startAnew n S10) (fun S11 r12 =>
    gd (isK sdX (S11.2.2 0 2) 0) (
    gd (isK sdX (srX (S11.2.2 0 2) 4) 5) (
    some (S11, S11.1 (srX (S11.2.2 0 2) 4) 3)))))))))))))
set_option maxRecDepth 100000 in
set_option maxHeartbeats 4000000 in
theorem wX10_bench (C : Cx G sdX cX10_bench 3 RX10 (some .int)) {n : Nat} {S S' : St} {r : Int32} (h : fX10_bench n S = some (S', r)) : Wp G sdX (rmOf 6 131) 3 (Qm G sdX (some (.int r)) S') S 0 [(0, .ref (gA G 0))] [] := by
  unfold fX10_bench at h
  refine wp_aload_n (pc := 0) C 0 dX10_bench_0 rfl rfl ?_
  refine wp_getS (v := 151) (pc := 1) C flX10_31 rfl rfl (Nat.le_of_ble_eq_true rfl) (Nat.le_of_ble_eq_true rfl) rfl dX10_bench_1 ?_
  refine wp_aload_n (pc := 4) C 0 dX10_bench_4 rfl rfl ?_
  refine wp_getS (v := 1) (pc := 5) C flX10_12 rfl rfl (Nat.le_of_ble_eq_true rfl) (Nat.le_of_ble_eq_true rfl) rfl dX10_bench_5 ?_
  refine wp_aload_n (pc := 8) C 0 dX10_bench_8 rfl rfl ?_
  obtain ⟨g1, h⟩ := gd_some h
  refine wp_getD (pc := 9) C flX10_23 rfl g1.1 (Nat.le_of_ble_eq_true rfl) rfl dX10_bench_9 ?_
  obtain ⟨S2, r3, cS2, h⟩ := bd_some h
  refine wp_callVi (As := [.ref (gA G 1), .ref (gA G (S.2.2 0 3))]) (st := []) (pc := 12) C (CtX3_read cS2) mX3_read iX3_read kX10_95 (Nat.le_of_ble_eq_true rfl) rfl (by decide) rfl rfl rfl rfl (Nat.le_of_ble_eq_true rfl) ⟨Nat.le_of_ble_eq_true rfl, Nat.le_of_ble_eq_true rfl⟩ dX10_bench_12 ?_
  refine wp_istore_n (pc := 15) C rfl [(1, .int r3), (0, .ref (gA G 0))] dX10_bench_15 rfl (Nat.le_of_ble_eq_true rfl) rfl ?_
  refine wp_aload_n (pc := 16) C 1 dX10_bench_16 rfl rfl ?_
  refine wp_getS (v := 1) (pc := 17) C flX10_12 rfl rfl (Nat.le_of_ble_eq_true rfl) (Nat.le_of_ble_eq_true rfl) rfl dX10_bench_17 ?_
  refine wp_iconst (v := 0) (pc := 20) C dX10_bench_20 (by decide) ?_
  obtain ⟨S4, eS4, h⟩ := bn_some h
  refine wp_putI (pc := 21) C eS4 flX10_92 fpX6_1 rfl (Nat.le_of_ble_eq_true rfl) rfl dX10_bench_21 ?_
  refine wp_iload_n (pc := 24) C 0 dX10_bench_24 rfl rfl ?_
  refine wp_if_ne (pc := 25) C 30 dX10_bench_25 (by decide) (fun q => ?_) (fun q => ?_)
  · have h := it_neg q h
    refine wp_aload_n (pc := 30) C 1 dX10_bench_30 rfl rfl ?_
    obtain ⟨g5, h⟩ := gd_some h
    refine wp_getD (pc := 31) C flX10_19 rfl g5.1 (Nat.le_of_ble_eq_true rfl) rfl dX10_bench_31 ?_
    obtain ⟨a6, ea6, h⟩ := bn_some h
    refine wp_astore_n (pc := 34) C (congrArg (gA G) ea6) [(2, .ref (gA G a6)), (1, .int r3), (0, .ref (gA G 0))] dX10_bench_34 rfl (Nat.le_of_ble_eq_true rfl) rfl ?_
    refine wp_aload_n (pc := 35) C 2 dX10_bench_35 rfl rfl ?_
    refine wp_aload_n (pc := 36) C 2 dX10_bench_36 rfl rfl ?_
    obtain ⟨g7, h⟩ := gd_some h
    refine wp_getD (pc := 37) C flX10_23 rfl g7.1 (Nat.le_of_ble_eq_true rfl) rfl dX10_bench_37 ?_
    obtain ⟨S8, eS8, h⟩ := bn_some h
    refine wp_putD (pc := 40) C g7.1 eS8 flX10_19 fpX10_2 rfl (Nat.le_of_ble_eq_true rfl) rfl dX10_bench_40 ?_
    refine wp_aload_n (pc := 43) C 2 dX10_bench_43 rfl rfl ?_
    refine wp_aload_n (pc := 44) C 0 dX10_bench_44 rfl rfl ?_
    obtain ⟨g9, h⟩ := gd_some h
    obtain ⟨S10, eS10, h⟩ := bn_some h
    refine wp_putD (pc := 45) C g9.1 eS10 flX10_23 fpX10_3 rfl (Nat.le_of_ble_eq_true rfl) rfl dX10_bench_45 ?_
    refine wp_aload_n (pc := 48) C 2 dX10_bench_48 rfl rfl ?_
    obtain ⟨S11, r12, cS11, h⟩ := bd_some h
    refine wp_callVv (As := []) (st := []) (pc := 49) C (CtX10_startAnew cS11) mX10_startAnew iX10_startAnew kX10_99 (Nat.le_of_ble_eq_true rfl) rfl (by decide) rfl rfl rfl rfl (Nat.le_of_ble_eq_true rfl) ⟨Nat.le_of_ble_eq_true rfl, Nat.le_of_ble_eq_true rfl⟩ dX10_bench_49 ?_
    refine wp_aload_n (pc := 52) C 2 dX10_bench_52 rfl rfl ?_
    obtain ⟨g13, h⟩ := gd_some h
    refine wp_getD (pc := 53) C flX10_19 rfl g13.1 (Nat.le_of_ble_eq_true rfl) rfl dX10_bench_53 ?_
    obtain ⟨g14, h⟩ := gd_some h
    refine wp_getS (v := srX (S11.2.2 0 2) 4) (pc := 56) C flX10_102 rfl rfl g14.1 g13.1 g13.2 dX10_bench_56 ?_
    refine wp_getI (pc := 59) C flX10_106 rfl g14.1 g14.2 dX10_bench_59 ?_
    exact rt_i C rfl h dX10_bench_62
  · have h := it_pos q h
    refine wp_iconst (v := (-1)) (pc := 28) C dX10_bench_28 (by decide) ?_
    exact rt_i C rfl h dX10_bench_29
theorem CtX10_bench {n : Nat} {S S' : St} {r : Int32} (h : fX10_bench n S = some (S', r)) : Ct l sdX cy ad D yX10_bench cX10_bench 3 (some .int) 6 131 [.ref (ad 0)] S (some (.int r)) S' :=
  Ct_of (own := RX10) mX10_bench rfl (Nat.le_of_ble_eq_true rfl) (fun G e1 e2 e3 e4 C => by subst e1 e2 e3 e4; exact wX10_bench C h)
def fX10_fault (n : Nat) (S : St) (x1 : Int32) : Option (St × Int32) :=
  if x1 = 0 then
    some (S, S.1 151 7)
  else if x1 = 1 then
    some (S, S.1 151 8)
  else some (S, (-1))
set_option maxRecDepth 100000 in
set_option maxHeartbeats 4000000 in
theorem wX10_fault (C : Cx G sdX cX10_fault 2 RX10 (some .int)) {n : Nat} {S S' : St} {r : Int32} {x1 : Int32} (h : fX10_fault n S x1 = some (S', r)) : Wp G sdX (rmOf 0 0) 2 (Qm G sdX (some (.int r)) S') S 0 [(0, .ref (gA G 0)), (1, .int x1)] [] := by
  unfold fX10_fault at h
  refine wp_iload_n (pc := 0) C 1 dX10_fault_0 rfl rfl ?_
  by_cases q : x1 = 0
  · have h := it_pos q h
    refine wp_lookup (pc := 1) C 28 dX10_fault_1 (by decide) (by rw [q]; first | done | rfl) (by decide) ?_
    refine wp_aload_n (pc := 28) C 0 dX10_fault_28 rfl rfl ?_
    refine wp_getS (v := 151) (pc := 29) C flX10_31 rfl rfl (Nat.le_of_ble_eq_true rfl) (Nat.le_of_ble_eq_true rfl) rfl dX10_fault_29 ?_
    refine wp_getI (pc := 32) C flX10_111 rfl (Nat.le_of_ble_eq_true rfl) rfl dX10_fault_32 ?_
    exact rt_i C rfl h dX10_fault_35
  have h := it_neg q h
  have n1 := q
  by_cases q : x1 = 1
  · have h := it_pos q h
    refine wp_lookup (pc := 1) C 36 dX10_fault_1 (by decide) (by rw [q]; first | done | rfl) (by decide) ?_
    refine wp_aload_n (pc := 36) C 0 dX10_fault_36 rfl rfl ?_
    refine wp_getS (v := 151) (pc := 37) C flX10_31 rfl rfl (Nat.le_of_ble_eq_true rfl) (Nat.le_of_ble_eq_true rfl) rfl dX10_fault_37 ?_
    refine wp_getI (pc := 40) C flX10_114 rfl (Nat.le_of_ble_eq_true rfl) rfl dX10_fault_40 ?_
    exact rt_i C rfl h dX10_fault_43
  have h := it_neg q h
  have n2 := q
  refine wp_lookup (off := 43) (pc := 1) C 44 dX10_fault_1 (by decide) (by have m0 := ne_toInt (v := 0) (by decide) n1; have m1 := ne_toInt (v := 1) (by decide) n2; simp [Op.lookupswitch.offset, m0, Ne.symm m0, m1, Ne.symm m1]) (by decide) ?_
  refine wp_iconst (v := (-1)) (pc := 44) C dX10_fault_44 (by decide) ?_
  exact rt_i C rfl h dX10_fault_45
theorem CtX10_fault {n : Nat} {S S' : St} {r : Int32} {x1 : Int32} (h : fX10_fault n S x1 = some (S', r)) : Ct l sdX cy ad D yX10_fault cX10_fault 2 (some .int) 0 0 [.ref (ad 0), .int x1] S (some (.int r)) S' :=
  Ct_of (own := RX10) mX10_fault rfl (Nat.le_of_ble_eq_true rfl) (fun G e1 e2 e3 e4 C => by subst e1 e2 e3 e4; exact wX10_fault C h)
def fX10_canBeLookedAt (n : Nat) (S : St) (x1 : Int32) : Option (St × Int32) :=
  if x1 = (-1) then
    gd (isK sdX (S.2.2 0 2) 0) (
    gd (isK sdX (srX (S.2.2 0 2) 1) 5) (
    if (S.1 (srX (S.2.2 0 2) 1) 3) ≤ 0 then
      some (S, 0)
    else
      some (S, 1)))
  else
    gd (isK sdX (S.2.2 0 2) 0) (
    gd (isK sdX (srX (S.2.2 0 2) 4) 5) (
    bd (fX5_has sdX n S (srX (S.2.2 0 2) 4) x1) (fun S3 r4 =>
    gd (r4 = 0 ∨ r4 = 1) (
    some (S3, r4)))))
set_option maxRecDepth 100000 in
set_option maxHeartbeats 4000000 in
theorem wX10_canBeLookedAt (C : Cx G sdX cX10_canBeLookedAt 2 RX10 (some .boolean)) {n : Nat} {S S' : St} {r : Int32} {x1 : Int32} (h : fX10_canBeLookedAt n S x1 = some (S', r)) : Wp G sdX (rmOf 1 21) 2 (Qm G sdX (some (.int r)) S') S 0 [(0, .ref (gA G 0)), (1, .int x1)] [] := by
  unfold fX10_canBeLookedAt at h
  refine wp_iload_n (pc := 0) C 1 dX10_canBeLookedAt_0 rfl rfl ?_
  refine wp_iconst (v := (-1)) (pc := 1) C dX10_canBeLookedAt_1 (by decide) ?_
  refine wp_icmp_ne (pc := 2) C 26 dX10_canBeLookedAt_2 (by decide) (fun q => ?_) (fun q => ?_)
  · have h := it_neg q h
    refine wp_aload_n (pc := 26) C 0 dX10_canBeLookedAt_26 rfl rfl ?_
    obtain ⟨g1, h⟩ := gd_some h
    refine wp_getD (pc := 27) C flX10_19 rfl g1.1 (Nat.le_of_ble_eq_true rfl) rfl dX10_canBeLookedAt_27 ?_
    obtain ⟨g2, h⟩ := gd_some h
    refine wp_getS (v := srX (S.2.2 0 2) 4) (pc := 30) C flX10_102 rfl rfl g2.1 g1.1 g1.2 dX10_canBeLookedAt_30 ?_
    refine wp_iload_n (pc := 33) C 1 dX10_canBeLookedAt_33 rfl rfl ?_
    obtain ⟨S3, r4, cS3, h⟩ := bd_some h
    refine wp_callVi (As := [.int x1]) (st := []) (pc := 34) C (CtX5_has cS3) mX5_has iX5_has kX10_140 g2.1 g2.2 (by decide) rfl rfl rfl rfl (Nat.le_of_ble_eq_true rfl) ⟨Nat.le_of_ble_eq_true rfl, Nat.le_of_ble_eq_true rfl⟩ dX10_canBeLookedAt_34 ?_
    obtain ⟨g5, h⟩ := gd_some h
    exact rt_z C g5 rfl h dX10_canBeLookedAt_37
  · have h := it_pos q h
    refine wp_aload_n (pc := 5) C 0 dX10_canBeLookedAt_5 rfl rfl ?_
    obtain ⟨g6, h⟩ := gd_some h
    refine wp_getD (pc := 6) C flX10_19 rfl g6.1 (Nat.le_of_ble_eq_true rfl) rfl dX10_canBeLookedAt_6 ?_
    obtain ⟨g7, h⟩ := gd_some h
    refine wp_getS (v := srX (S.2.2 0 2) 1) (pc := 9) C flX10_171 rfl rfl g7.1 g6.1 g6.2 dX10_canBeLookedAt_9 ?_
    refine wp_getI (pc := 12) C flX10_106 rfl g7.1 g7.2 dX10_canBeLookedAt_12 ?_
    refine wp_if_le (pc := 15) C 22 dX10_canBeLookedAt_15 (by decide) (fun q => ?_) (fun q => ?_)
    · have h := it_pos q h
      refine wp_iconst (v := 0) (pc := 22) C dX10_canBeLookedAt_22 (by decide) ?_
      refine wp_goto (pc := 23) C 37 dX10_canBeLookedAt_23 (by decide) ?_
      exact rt_z C (Or.inl rfl) rfl h dX10_canBeLookedAt_37
    · have h := it_neg q h
      refine wp_iconst (v := 1) (pc := 18) C dX10_canBeLookedAt_18 (by decide) ?_
      refine wp_goto (pc := 19) C 37 dX10_canBeLookedAt_19 (by decide) ?_
      exact rt_z C (Or.inr rfl) rfl h dX10_canBeLookedAt_37
theorem CtX10_canBeLookedAt {n : Nat} {S S' : St} {r : Int32} {x1 : Int32} (h : fX10_canBeLookedAt n S x1 = some (S', r)) : Ct l sdX cy ad D yX10_canBeLookedAt cX10_canBeLookedAt 2 (some .boolean) 1 21 [.ref (ad 0), .int x1] S (some (.int r)) S' :=
  Ct_of (own := RX10) mX10_canBeLookedAt rfl (Nat.le_of_ble_eq_true rfl) (fun G e1 e2 e3 e4 C => by subst e1 e2 e3 e4; exact wX10_canBeLookedAt C h)
def fX10_rowOf (n : Nat) (S : St) (x1 : Int32) : Option (St × Option Nat) :=
  bd (fX10_canBeLookedAt n S x1) (fun S1 r2 =>
  if r2 = 0 then
    some (S1, none)
  else
    if x1 = (-1) then
      gd (isK sdX (S1.2.2 0 2) 0) (
      bd (fX0_throwBack sdX n S1 (S1.2.2 0 2) (S1.1 261 1) 262 270) (fun S4 r5 =>
      some (S4, some 270)))
    else
      gd (ib x1 72) (
      gd (isK sdX (srX 160 (Int32.toNatClampNeg x1)) 13) (
      some (S1, some (srX 160 (Int32.toNatClampNeg x1))))))
set_option maxRecDepth 100000 in
set_option maxHeartbeats 4000000 in
theorem wX10_rowOf (C : Cx G sdX cX10_rowOf 2 RX10 (some (.array .int))) {n : Nat} {S S' : St} {r : Option Nat} {x1 : Int32} (h : fX10_rowOf n S x1 = some (S', r)) : Wp G sdX (rmOf 2 52) 2 (Qm G sdX (some (rvv (gA G) r)) S') S 0 [(0, .ref (gA G 0)), (1, .int x1)] [] := by
  unfold fX10_rowOf at h
  refine wp_aload_n (pc := 0) C 0 dX10_rowOf_0 rfl rfl ?_
  refine wp_iload_n (pc := 1) C 1 dX10_rowOf_1 rfl rfl ?_
  obtain ⟨S1, r2, cS1, h⟩ := bd_some h
  refine wp_callVi (As := [.int x1]) (st := []) (pc := 2) C (CtX10_canBeLookedAt cS1) mX10_canBeLookedAt iX10_canBeLookedAt kX10_174 (Nat.le_of_ble_eq_true rfl) rfl (by decide) rfl rfl rfl rfl (Nat.le_of_ble_eq_true rfl) ⟨Nat.le_of_ble_eq_true rfl, Nat.le_of_ble_eq_true rfl⟩ dX10_rowOf_2 ?_
  refine wp_if_ne (pc := 5) C 10 dX10_rowOf_5 (by decide) (fun q => ?_) (fun q => ?_)
  · have h := it_neg q h
    refine wp_iload_n (pc := 10) C 1 dX10_rowOf_10 rfl rfl ?_
    refine wp_iconst (v := (-1)) (pc := 11) C dX10_rowOf_11 (by decide) ?_
    refine wp_icmp_eq (pc := 12) C 25 dX10_rowOf_12 (by decide) (fun q => ?_) (fun q => ?_)
    · have h := it_pos q h
      refine wp_aload_n (pc := 25) C 0 dX10_rowOf_25 rfl rfl ?_
      obtain ⟨g3, h⟩ := gd_some h
      refine wp_getD (pc := 26) C flX10_19 rfl g3.1 (Nat.le_of_ble_eq_true rfl) rfl dX10_rowOf_26 ?_
      refine wp_aload_n (pc := 29) C 0 dX10_rowOf_29 rfl rfl ?_
      refine wp_getS (v := 261) (pc := 30) C flX10_61 rfl rfl (Nat.le_of_ble_eq_true rfl) (Nat.le_of_ble_eq_true rfl) rfl dX10_rowOf_30 ?_
      refine wp_getI (pc := 33) C flX10_178 rfl (Nat.le_of_ble_eq_true rfl) rfl dX10_rowOf_33 ?_
      refine wp_aload_n (pc := 36) C 0 dX10_rowOf_36 rfl rfl ?_
      refine wp_getS (v := 261) (pc := 37) C flX10_61 rfl rfl (Nat.le_of_ble_eq_true rfl) (Nat.le_of_ble_eq_true rfl) rfl dX10_rowOf_37 ?_
      refine wp_getS (v := 262) (pc := 40) C flX10_160 rfl rfl (Nat.le_of_ble_eq_true rfl) (Nat.le_of_ble_eq_true rfl) rfl dX10_rowOf_40 ?_
      refine wp_aload_n (pc := 43) C 0 dX10_rowOf_43 rfl rfl ?_
      refine wp_getS (v := 270) (pc := 44) C flX10_69 rfl rfl (Nat.le_of_ble_eq_true rfl) (Nat.le_of_ble_eq_true rfl) rfl dX10_rowOf_44 ?_
      obtain ⟨S4, r5, cS4, h⟩ := bd_some h
      refine wp_callVv (As := [.int (S1.1 261 1), .ref (gA G 262), .ref (gA G 270)]) (st := []) (pc := 47) C (CtX0_throwBack cS4) mX0_throwBack iX0_throwBack kX10_181 g3.1 g3.2 (by decide) rfl rfl rfl rfl (Nat.le_of_ble_eq_true rfl) ⟨Nat.le_of_ble_eq_true rfl, Nat.le_of_ble_eq_true rfl⟩ dX10_rowOf_47 ?_
      refine wp_aload_n (pc := 50) C 0 dX10_rowOf_50 rfl rfl ?_
      refine wp_getS (v := 270) (pc := 51) C flX10_69 rfl rfl (Nat.le_of_ble_eq_true rfl) (Nat.le_of_ble_eq_true rfl) rfl dX10_rowOf_51 ?_
      exact rt_a C rfl h dX10_rowOf_54
    · have h := it_neg q h
      refine wp_aload_n (pc := 15) C 0 dX10_rowOf_15 rfl rfl ?_
      refine wp_getS (v := 157) (pc := 16) C flX10_38 rfl rfl (Nat.le_of_ble_eq_true rfl) (Nat.le_of_ble_eq_true rfl) rfl dX10_rowOf_16 ?_
      refine wp_getS (v := 160) (pc := 19) C flX10_177 rfl rfl (Nat.le_of_ble_eq_true rfl) (Nat.le_of_ble_eq_true rfl) rfl dX10_rowOf_19 ?_
      refine wp_iload_n (pc := 22) C 1 dX10_rowOf_22 rfl rfl ?_
      obtain ⟨g6, h⟩ := gd_some h
      obtain ⟨g7, h⟩ := gd_some h
      refine wp_aald (t0 := 5) (pc := 23) C (Nat.le_of_ble_eq_true rfl) rfl (by decide) rfl rfl g6 g7.1 dX10_rowOf_23 ?_
      exact rt_a C rfl h dX10_rowOf_24
  · have h := it_pos q h
    refine wp_null (pc := 8) C dX10_rowOf_8 ?_
    exact rt_aN C rfl h dX10_rowOf_9
theorem CtX10_rowOf {n : Nat} {S S' : St} {r : Option Nat} {x1 : Int32} (h : fX10_rowOf n S x1 = some (S', r)) : Ct l sdX cy ad D yX10_rowOf cX10_rowOf 2 (some (.array .int)) 2 52 [.ref (ad 0), .int x1] S (some (rvv (ad) r)) S' :=
  Ct_of (own := RX10) mX10_rowOf rfl (Nat.le_of_ble_eq_true rfl) (fun G e1 e2 e3 e4 C => by subst e1 e2 e3 e4; exact wX10_rowOf C h)
def fX10_throwsBack_j25 (n : Nat) (S : St) : Option (St × Int32) :=
  some (S, (-1))
set_option maxRecDepth 100000 in
set_option maxHeartbeats 4000000 in
theorem wX10_throwsBack_j25 (C : Cx G sdX cX10_throwsBack 4 RX10 (some .int)) {n : Nat} {S S' : St} {r : Int32} (h : fX10_throwsBack_j25 n S = some (S', r)) : Wp G sdX (rmOf 3 73) 4 (Qm G sdX (some (.int r)) S') S 25 [] [] := by
  unfold fX10_throwsBack_j25 at h
  refine wp_iconst (v := (-1)) (pc := 25) C dX10_throwsBack_25 (by decide) ?_
  refine wp_goto (pc := 26) C 32 dX10_throwsBack_26 (by decide) ?_
  exact rt_i C rfl h dX10_throwsBack_32
def fX10_throwsBack (n : Nat) (S : St) (x1 : Int32) (x2 : Int32) : Option (St × Int32) :=
  bq (fX10_rowOf n S x1) (fun S1 =>
    fX10_throwsBack_j25 n S1) (fun S1 r2 =>
    if x2 < 0 then
      fX10_throwsBack_j25 n S1
    else
      gd (isK sdX (S1.2.2 0 2) 0) (
      if x2 < (S1.1 (S1.2.2 0 2) 9) then
        gd (isK sdX r2 13) (
        gd (ib x2 (sdX.2.2.1 r2)) (
        some (S1, S1.1 r2 (Int32.toNatClampNeg x2))))
      else
        fX10_throwsBack_j25 n S1))
set_option maxRecDepth 100000 in
set_option maxHeartbeats 4000000 in
theorem wX10_throwsBack (C : Cx G sdX cX10_throwsBack 4 RX10 (some .int)) {n : Nat} {S S' : St} {r : Int32} {x1 : Int32} {x2 : Int32} (h : fX10_throwsBack n S x1 x2 = some (S', r)) : Wp G sdX (rmOf 3 73) 4 (Qm G sdX (some (.int r)) S') S 0 [(0, .ref (gA G 0)), (1, .int x1), (2, .int x2)] [] := by
  unfold fX10_throwsBack at h
  refine wp_aload_n (pc := 0) C 0 dX10_throwsBack_0 rfl rfl ?_
  refine wp_iload_n (pc := 1) C 1 dX10_throwsBack_1 rfl rfl ?_
  rcases bq_some h with ⟨S1, cS1, h⟩ | ⟨S1, r2, cS1, h⟩
  · refine wp_callVrN (As := [.int x1]) (st := []) (pc := 2) C (CtX10_rowOf cS1) mX10_rowOf iX10_rowOf kX10_130 (Nat.le_of_ble_eq_true rfl) rfl (by decide) rfl rfl rfl rfl (Nat.le_of_ble_eq_true rfl) ⟨Nat.le_of_ble_eq_true rfl, Nat.le_of_ble_eq_true rfl⟩ dX10_throwsBack_2 ?_
    refine wp_astore_nN (pc := 5) C [(3, .null), (0, .ref (gA G 0)), (1, .int x1), (2, .int x2)] dX10_throwsBack_5 rfl (Nat.le_of_ble_eq_true rfl) rfl ?_
    refine wp_aload_nN (pc := 6) C 0 dX10_throwsBack_6 rfl rfl ?_
    refine wp_ifnullN (pc := 7) C 25 dX10_throwsBack_7 (by decide) ?_
    exact wp_sub C [] rfl (wX10_throwsBack_j25 C h)
  · refine wp_callVrR (As := [.int x1]) (st := []) (pc := 2) C (CtX10_rowOf cS1) mX10_rowOf iX10_rowOf kX10_130 (Nat.le_of_ble_eq_true rfl) rfl (by decide) rfl rfl rfl rfl (Nat.le_of_ble_eq_true rfl) ⟨Nat.le_of_ble_eq_true rfl, Nat.le_of_ble_eq_true rfl⟩ dX10_throwsBack_2 ?_
    refine wp_astore_n (pc := 5) C rfl [(3, .ref (gA G r2)), (0, .ref (gA G 0)), (1, .int x1), (2, .int x2)] dX10_throwsBack_5 rfl (Nat.le_of_ble_eq_true rfl) rfl ?_
    refine wp_aload_n (pc := 6) C 0 dX10_throwsBack_6 rfl rfl ?_
    refine wp_ifnull (pc := 7) C dX10_throwsBack_7 ?_
    refine wp_iload_n (pc := 10) C 3 dX10_throwsBack_10 rfl rfl ?_
    refine wp_if_lt (pc := 11) C 25 dX10_throwsBack_11 (by decide) (fun q => ?_) (fun q => ?_)
    · have h := it_pos q h
      exact wp_sub C [] rfl (wX10_throwsBack_j25 C h)
    · have h := it_neg q h
      refine wp_iload_n (pc := 14) C 3 dX10_throwsBack_14 rfl rfl ?_
      refine wp_aload_n (pc := 15) C 1 dX10_throwsBack_15 rfl rfl ?_
      obtain ⟨g3, h⟩ := gd_some h
      refine wp_getD (pc := 16) C flX10_19 rfl g3.1 (Nat.le_of_ble_eq_true rfl) rfl dX10_throwsBack_16 ?_
      refine wp_getI (pc := 19) C flX10_134 rfl g3.1 g3.2 dX10_throwsBack_19 ?_
      refine wp_icmp_lt (pc := 22) C 29 dX10_throwsBack_22 (by decide) (fun q => ?_) (fun q => ?_)
      · have h := it_pos q h
        refine wp_aload_n (pc := 29) C 0 dX10_throwsBack_29 rfl rfl ?_
        refine wp_iload_n (pc := 30) C 3 dX10_throwsBack_30 rfl rfl ?_
        obtain ⟨g4, h⟩ := gd_some h
        obtain ⟨g5, h⟩ := gd_some h
        refine wp_iald (pc := 31) C g4.1 g4.2 g5 dX10_throwsBack_31 ?_
        exact rt_i C rfl h dX10_throwsBack_32
      · have h := it_neg q h
        exact wp_sub C [] rfl (wX10_throwsBack_j25 C h)
theorem CtX10_throwsBack {n : Nat} {S S' : St} {r : Int32} {x1 : Int32} {x2 : Int32} (h : fX10_throwsBack n S x1 x2 = some (S', r)) : Ct l sdX cy ad D yX10_throwsBack cX10_throwsBack 4 (some .int) 3 73 [.ref (ad 0), .int x1, .int x2] S (some (.int r)) S' :=
  Ct_of (own := RX10) mX10_throwsBack rfl (Nat.le_of_ble_eq_true rfl) (fun G e1 e2 e3 e4 C => by subst e1 e2 e3 e4; exact wX10_throwsBack C h)
def fX10_seen (n : Nat) (S : St) (x1 : Int32) (x2 : Int32) (x3 : Int32) : Option (St × Int64) :=
  bq (fX10_rowOf n S x1) (fun S1 =>
    some (S1, (-1))) (fun S1 r2 =>
    gd (isK sdX (S1.2.2 0 2) 0) (
    gd (isK sdX (srX (S1.2.2 0 2) 2) 5) (
    bd (fX5_has sdX n S1 (srX (S1.2.2 0 2) 2) x2) (fun S5 r6 =>
    if r6 = 0 then
      some (S5, (-1))
    else
      gd (isK sdX (S5.2.2 0 2) 0) (
      gd (isK sdX (srX (S5.2.2 0 2) 3) 5) (
      bd (fX5_has sdX n S5 (srX (S5.2.2 0 2) 3) x3) (fun S9 r10 =>
      if r10 = 0 then
        some (S9, (-1))
      else
        gd (isK sdX (S9.2.2 0 2) 0) (
        bd (fX0_seenOf sdX n S9 (S9.2.2 0 2) r2 x2 x3) (fun S12 r13 =>
        some (S12, r13))))))))))
set_option maxRecDepth 100000 in
set_option maxHeartbeats 4000000 in
theorem wX10_seen (C : Cx G sdX cX10_seen 5 RX10 (some .long)) {n : Nat} {S S' : St} {r : Int64} {x1 : Int32} {x2 : Int32} {x3 : Int32} (h : fX10_seen n S x1 x2 x3 = some (S', r)) : Wp G sdX (rmOf 3 73) 5 (Qm G sdX (some (.long r)) S') S 0 [(0, .ref (gA G 0)), (1, .int x1), (2, .int x2), (3, .int x3)] [] := by
  unfold fX10_seen at h
  refine wp_aload_n (pc := 0) C 0 dX10_seen_0 rfl rfl ?_
  refine wp_iload_n (pc := 1) C 1 dX10_seen_1 rfl rfl ?_
  rcases bq_some h with ⟨S1, cS1, h⟩ | ⟨S1, r2, cS1, h⟩
  · refine wp_callVrN (As := [.int x1]) (st := []) (pc := 2) C (CtX10_rowOf cS1) mX10_rowOf iX10_rowOf kX10_130 (Nat.le_of_ble_eq_true rfl) rfl (by decide) rfl rfl rfl rfl (Nat.le_of_ble_eq_true rfl) ⟨Nat.le_of_ble_eq_true rfl, Nat.le_of_ble_eq_true rfl⟩ dX10_seen_2 ?_
    refine wp_astoreN (pc := 5) C [(4, .null), (0, .ref (gA G 0)), (1, .int x1), (2, .int x2), (3, .int x3)] dX10_seen_5 (Nat.le_of_ble_eq_true rfl) rfl ?_
    refine wp_aloadN (pc := 7) C 0 dX10_seen_7 rfl ?_
    refine wp_ifnullN (pc := 9) C 40 dX10_seen_9 (by decide) ?_
    refine wp_ldc2 (pc := 40) C qX10_146 dX10_seen_40 ?_
    exact rt_l C rfl h dX10_seen_43
  · refine wp_callVrR (As := [.int x1]) (st := []) (pc := 2) C (CtX10_rowOf cS1) mX10_rowOf iX10_rowOf kX10_130 (Nat.le_of_ble_eq_true rfl) rfl (by decide) rfl rfl rfl rfl (Nat.le_of_ble_eq_true rfl) ⟨Nat.le_of_ble_eq_true rfl, Nat.le_of_ble_eq_true rfl⟩ dX10_seen_2 ?_
    refine wp_astore (pc := 5) C rfl [(4, .ref (gA G r2)), (0, .ref (gA G 0)), (1, .int x1), (2, .int x2), (3, .int x3)] dX10_seen_5 (Nat.le_of_ble_eq_true rfl) rfl ?_
    refine wp_aload (pc := 7) C 0 dX10_seen_7 rfl ?_
    refine wp_ifnull (pc := 9) C dX10_seen_9 ?_
    refine wp_aload_n (pc := 12) C 1 dX10_seen_12 rfl rfl ?_
    obtain ⟨g3, h⟩ := gd_some h
    refine wp_getD (pc := 13) C flX10_19 rfl g3.1 (Nat.le_of_ble_eq_true rfl) rfl dX10_seen_13 ?_
    obtain ⟨g4, h⟩ := gd_some h
    refine wp_getS (v := srX (S1.2.2 0 2) 2) (pc := 16) C flX10_137 rfl rfl g4.1 g3.1 g3.2 dX10_seen_16 ?_
    refine wp_iload_n (pc := 19) C 3 dX10_seen_19 rfl rfl ?_
    obtain ⟨S5, r6, cS5, h⟩ := bd_some h
    refine wp_callVi (As := [.int x2]) (st := []) (pc := 20) C (CtX5_has cS5) mX5_has iX5_has kX10_140 g4.1 g4.2 (by decide) rfl rfl rfl rfl (Nat.le_of_ble_eq_true rfl) ⟨Nat.le_of_ble_eq_true rfl, Nat.le_of_ble_eq_true rfl⟩ dX10_seen_20 ?_
    refine wp_if_eq (pc := 23) C 40 dX10_seen_23 (by decide) (fun q => ?_) (fun q => ?_)
    · have h := it_pos q h
      refine wp_ldc2 (pc := 40) C qX10_146 dX10_seen_40 ?_
      exact rt_l C rfl h dX10_seen_43
    · have h := it_neg q h
      refine wp_aload_n (pc := 26) C 1 dX10_seen_26 rfl rfl ?_
      obtain ⟨g7, h⟩ := gd_some h
      refine wp_getD (pc := 27) C flX10_19 rfl g7.1 (Nat.le_of_ble_eq_true rfl) rfl dX10_seen_27 ?_
      obtain ⟨g8, h⟩ := gd_some h
      refine wp_getS (v := srX (S5.2.2 0 2) 3) (pc := 30) C flX10_143 rfl rfl g8.1 g7.1 g7.2 dX10_seen_30 ?_
      refine wp_iload_n (pc := 33) C 4 dX10_seen_33 rfl rfl ?_
      obtain ⟨S9, r10, cS9, h⟩ := bd_some h
      refine wp_callVi (As := [.int x3]) (st := []) (pc := 34) C (CtX5_has cS9) mX5_has iX5_has kX10_140 g8.1 g8.2 (by decide) rfl rfl rfl rfl (Nat.le_of_ble_eq_true rfl) ⟨Nat.le_of_ble_eq_true rfl, Nat.le_of_ble_eq_true rfl⟩ dX10_seen_34 ?_
      refine wp_if_ne (pc := 37) C 44 dX10_seen_37 (by decide) (fun q => ?_) (fun q => ?_)
      · have h := it_neg q h
        refine wp_aload_n (pc := 44) C 1 dX10_seen_44 rfl rfl ?_
        obtain ⟨g11, h⟩ := gd_some h
        refine wp_getD (pc := 45) C flX10_19 rfl g11.1 (Nat.le_of_ble_eq_true rfl) rfl dX10_seen_45 ?_
        refine wp_aload (pc := 48) C 0 dX10_seen_48 rfl ?_
        refine wp_iload_n (pc := 50) C 3 dX10_seen_50 rfl rfl ?_
        refine wp_iload_n (pc := 51) C 4 dX10_seen_51 rfl rfl ?_
        obtain ⟨S12, r13, cS12, h⟩ := bd_some h
        refine wp_callVl (As := [.ref (gA G r2), .int x2, .int x3]) (st := []) (pc := 52) C (CtX0_seenOf cS12) mX0_seenOf iX0_seenOf kX10_148 g11.1 g11.2 (by decide) rfl rfl rfl rfl (Nat.le_of_ble_eq_true rfl) ⟨Nat.le_of_ble_eq_true rfl, Nat.le_of_ble_eq_true rfl⟩ dX10_seen_52 ?_
        exact rt_l C rfl h dX10_seen_55
      · have h := it_pos q h
        refine wp_ldc2 (pc := 40) C qX10_146 dX10_seen_40 ?_
        exact rt_l C rfl h dX10_seen_43
theorem CtX10_seen {n : Nat} {S S' : St} {r : Int64} {x1 : Int32} {x2 : Int32} {x3 : Int32} (h : fX10_seen n S x1 x2 x3 = some (S', r)) : Ct l sdX cy ad D yX10_seen cX10_seen 5 (some .long) 3 73 [.ref (ad 0), .int x1, .int x2, .int x3] S (some (.long r)) S' :=
  Ct_of (own := RX10) mX10_seen rfl (Nat.le_of_ble_eq_true rfl) (fun G e1 e2 e3 e4 C => by subst e1 e2 e3 e4; exact wX10_seen C h)
def fX10_apart (n : Nat) (S : St) (x1 : Int32) (x2 : Int32) (x3 : Int32) (x4 : Int32) : Option (St × Int64) :=
  bq (fX10_rowOf n S x1) (fun S1 =>
    bq (fX10_rowOf n S1 x2) (fun S3 =>
      some (S3, (-1))) (fun S3 r4 =>
      some (S3, (-1)))) (fun S1 r2 =>
    bq (fX10_rowOf n S1 x2) (fun S5 =>
      some (S5, (-1))) (fun S5 r6 =>
      gd (isK sdX (S5.2.2 0 2) 0) (
      gd (isK sdX (srX (S5.2.2 0 2) 2) 5) (
      bd (fX5_has sdX n S5 (srX (S5.2.2 0 2) 2) x3) (fun S9 r10 =>
      if r10 = 0 then
        some (S9, (-1))
      else
        gd (isK sdX (S9.2.2 0 2) 0) (
        bd (fX0_apartOf sdX n S9 (S9.2.2 0 2) r2 r6 x3 x4) (fun S12 r13 =>
        some (S12, r13))))))))
set_option maxRecDepth 100000 in
set_option maxHeartbeats 4000000 in
theorem wX10_apart (C : Cx G sdX cX10_apart 7 RX10 (some .long)) {n : Nat} {S S' : St} {r : Int64} {x1 : Int32} {x2 : Int32} {x3 : Int32} {x4 : Int32} (h : fX10_apart n S x1 x2 x3 x4 = some (S', r)) : Wp G sdX (rmOf 3 73) 7 (Qm G sdX (some (.long r)) S') S 0 [(0, .ref (gA G 0)), (1, .int x1), (2, .int x2), (3, .int x3), (4, .int x4)] [] := by
  unfold fX10_apart at h
  refine wp_aload_n (pc := 0) C 0 dX10_apart_0 rfl rfl ?_
  refine wp_iload_n (pc := 1) C 1 dX10_apart_1 rfl rfl ?_
  rcases bq_some h with ⟨S1, cS1, h⟩ | ⟨S1, r2, cS1, h⟩
  · refine wp_callVrN (As := [.int x1]) (st := []) (pc := 2) C (CtX10_rowOf cS1) mX10_rowOf iX10_rowOf kX10_130 (Nat.le_of_ble_eq_true rfl) rfl (by decide) rfl rfl rfl rfl (Nat.le_of_ble_eq_true rfl) ⟨Nat.le_of_ble_eq_true rfl, Nat.le_of_ble_eq_true rfl⟩ dX10_apart_2 ?_
    refine wp_astoreN (pc := 5) C [(5, .null), (0, .ref (gA G 0)), (1, .int x1), (2, .int x2), (3, .int x3), (4, .int x4)] dX10_apart_5 (Nat.le_of_ble_eq_true rfl) rfl ?_
    refine wp_aload_n (pc := 7) C 1 dX10_apart_7 rfl rfl ?_
    refine wp_iload_n (pc := 8) C 3 dX10_apart_8 rfl rfl ?_
    rcases bq_some h with ⟨S3, cS3, h⟩ | ⟨S3, r4, cS3, h⟩
    · refine wp_callVrN (As := [.int x2]) (st := []) (pc := 9) C (CtX10_rowOf cS3) mX10_rowOf iX10_rowOf kX10_130 (Nat.le_of_ble_eq_true rfl) rfl (by decide) rfl rfl rfl rfl (Nat.le_of_ble_eq_true rfl) ⟨Nat.le_of_ble_eq_true rfl, Nat.le_of_ble_eq_true rfl⟩ dX10_apart_9 ?_
      refine wp_astoreN (pc := 12) C [(6, .null), (5, .null), (0, .ref (gA G 0)), (1, .int x1), (2, .int x2), (3, .int x3), (4, .int x4)] dX10_apart_12 (Nat.le_of_ble_eq_true rfl) rfl ?_
      refine wp_aloadN (pc := 14) C 1 dX10_apart_14 rfl ?_
      refine wp_ifnullN (pc := 16) C 38 dX10_apart_16 (by decide) ?_
      refine wp_ldc2 (pc := 38) C qX10_146 dX10_apart_38 ?_
      exact rt_l C rfl h dX10_apart_41
    · refine wp_callVrR (As := [.int x2]) (st := []) (pc := 9) C (CtX10_rowOf cS3) mX10_rowOf iX10_rowOf kX10_130 (Nat.le_of_ble_eq_true rfl) rfl (by decide) rfl rfl rfl rfl (Nat.le_of_ble_eq_true rfl) ⟨Nat.le_of_ble_eq_true rfl, Nat.le_of_ble_eq_true rfl⟩ dX10_apart_9 ?_
      refine wp_astore (pc := 12) C rfl [(6, .ref (gA G r4)), (5, .null), (0, .ref (gA G 0)), (1, .int x1), (2, .int x2), (3, .int x3), (4, .int x4)] dX10_apart_12 (Nat.le_of_ble_eq_true rfl) rfl ?_
      refine wp_aloadN (pc := 14) C 1 dX10_apart_14 rfl ?_
      refine wp_ifnullN (pc := 16) C 38 dX10_apart_16 (by decide) ?_
      refine wp_ldc2 (pc := 38) C qX10_146 dX10_apart_38 ?_
      exact rt_l C rfl h dX10_apart_41
  · refine wp_callVrR (As := [.int x1]) (st := []) (pc := 2) C (CtX10_rowOf cS1) mX10_rowOf iX10_rowOf kX10_130 (Nat.le_of_ble_eq_true rfl) rfl (by decide) rfl rfl rfl rfl (Nat.le_of_ble_eq_true rfl) ⟨Nat.le_of_ble_eq_true rfl, Nat.le_of_ble_eq_true rfl⟩ dX10_apart_2 ?_
    refine wp_astore (pc := 5) C rfl [(5, .ref (gA G r2)), (0, .ref (gA G 0)), (1, .int x1), (2, .int x2), (3, .int x3), (4, .int x4)] dX10_apart_5 (Nat.le_of_ble_eq_true rfl) rfl ?_
    refine wp_aload_n (pc := 7) C 1 dX10_apart_7 rfl rfl ?_
    refine wp_iload_n (pc := 8) C 3 dX10_apart_8 rfl rfl ?_
    rcases bq_some h with ⟨S5, cS5, h⟩ | ⟨S5, r6, cS5, h⟩
    · refine wp_callVrN (As := [.int x2]) (st := []) (pc := 9) C (CtX10_rowOf cS5) mX10_rowOf iX10_rowOf kX10_130 (Nat.le_of_ble_eq_true rfl) rfl (by decide) rfl rfl rfl rfl (Nat.le_of_ble_eq_true rfl) ⟨Nat.le_of_ble_eq_true rfl, Nat.le_of_ble_eq_true rfl⟩ dX10_apart_9 ?_
      refine wp_astoreN (pc := 12) C [(6, .null), (5, .ref (gA G r2)), (0, .ref (gA G 0)), (1, .int x1), (2, .int x2), (3, .int x3), (4, .int x4)] dX10_apart_12 (Nat.le_of_ble_eq_true rfl) rfl ?_
      refine wp_aload (pc := 14) C 1 dX10_apart_14 rfl ?_
      refine wp_ifnull (pc := 16) C dX10_apart_16 ?_
      refine wp_aloadN (pc := 19) C 0 dX10_apart_19 rfl ?_
      refine wp_ifnullN (pc := 21) C 38 dX10_apart_21 (by decide) ?_
      refine wp_ldc2 (pc := 38) C qX10_146 dX10_apart_38 ?_
      exact rt_l C rfl h dX10_apart_41
    · refine wp_callVrR (As := [.int x2]) (st := []) (pc := 9) C (CtX10_rowOf cS5) mX10_rowOf iX10_rowOf kX10_130 (Nat.le_of_ble_eq_true rfl) rfl (by decide) rfl rfl rfl rfl (Nat.le_of_ble_eq_true rfl) ⟨Nat.le_of_ble_eq_true rfl, Nat.le_of_ble_eq_true rfl⟩ dX10_apart_9 ?_
      refine wp_astore (pc := 12) C rfl [(6, .ref (gA G r6)), (5, .ref (gA G r2)), (0, .ref (gA G 0)), (1, .int x1), (2, .int x2), (3, .int x3), (4, .int x4)] dX10_apart_12 (Nat.le_of_ble_eq_true rfl) rfl ?_
      refine wp_aload (pc := 14) C 1 dX10_apart_14 rfl ?_
      refine wp_ifnull (pc := 16) C dX10_apart_16 ?_
      refine wp_aload (pc := 19) C 0 dX10_apart_19 rfl ?_
      refine wp_ifnull (pc := 21) C dX10_apart_21 ?_
      refine wp_aload_n (pc := 24) C 2 dX10_apart_24 rfl rfl ?_
      obtain ⟨g7, h⟩ := gd_some h
      refine wp_getD (pc := 25) C flX10_19 rfl g7.1 (Nat.le_of_ble_eq_true rfl) rfl dX10_apart_25 ?_
      obtain ⟨g8, h⟩ := gd_some h
      refine wp_getS (v := srX (S5.2.2 0 2) 2) (pc := 28) C flX10_137 rfl rfl g8.1 g7.1 g7.2 dX10_apart_28 ?_
      refine wp_iload_n (pc := 31) C 5 dX10_apart_31 rfl rfl ?_
      obtain ⟨S9, r10, cS9, h⟩ := bd_some h
      refine wp_callVi (As := [.int x3]) (st := []) (pc := 32) C (CtX5_has cS9) mX5_has iX5_has kX10_140 g8.1 g8.2 (by decide) rfl rfl rfl rfl (Nat.le_of_ble_eq_true rfl) ⟨Nat.le_of_ble_eq_true rfl, Nat.le_of_ble_eq_true rfl⟩ dX10_apart_32 ?_
      refine wp_if_ne (pc := 35) C 42 dX10_apart_35 (by decide) (fun q => ?_) (fun q => ?_)
      · have h := it_neg q h
        refine wp_aload_n (pc := 42) C 2 dX10_apart_42 rfl rfl ?_
        obtain ⟨g11, h⟩ := gd_some h
        refine wp_getD (pc := 43) C flX10_19 rfl g11.1 (Nat.le_of_ble_eq_true rfl) rfl dX10_apart_43 ?_
        refine wp_aload (pc := 46) C 1 dX10_apart_46 rfl ?_
        refine wp_aload (pc := 48) C 0 dX10_apart_48 rfl ?_
        refine wp_iload_n (pc := 50) C 5 dX10_apart_50 rfl rfl ?_
        refine wp_iload (pc := 51) C 6 dX10_apart_51 rfl ?_
        obtain ⟨S12, r13, cS12, h⟩ := bd_some h
        refine wp_callVl (As := [.ref (gA G r2), .ref (gA G r6), .int x3, .int x4]) (st := []) (pc := 53) C (CtX0_apartOf cS12) mX0_apartOf iX0_apartOf kX10_152 g11.1 g11.2 (by decide) rfl rfl rfl rfl (Nat.le_of_ble_eq_true rfl) ⟨Nat.le_of_ble_eq_true rfl, Nat.le_of_ble_eq_true rfl⟩ dX10_apart_53 ?_
        exact rt_l C rfl h dX10_apart_56
      · have h := it_pos q h
        refine wp_ldc2 (pc := 38) C qX10_146 dX10_apart_38 ?_
        exact rt_l C rfl h dX10_apart_41
theorem CtX10_apart {n : Nat} {S S' : St} {r : Int64} {x1 : Int32} {x2 : Int32} {x3 : Int32} {x4 : Int32} (h : fX10_apart n S x1 x2 x3 x4 = some (S', r)) : Ct l sdX cy ad D yX10_apart cX10_apart 7 (some .long) 3 73 [.ref (ad 0), .int x1, .int x2, .int x3, .int x4] S (some (.long r)) S' :=
  Ct_of (own := RX10) mX10_apart rfl (Nat.le_of_ble_eq_true rfl) (fun G e1 e2 e3 e4 C => by subst e1 e2 e3 e4; exact wX10_apart C h)
def fX10_alike_j73 (n : Nat) (k32 : St → Int32 → Nat → Nat → Int32 → Int32 → Option (St × Int32)) (S : St) (x3 : Int32) (a4 : Nat) (a5 : Nat) (x6 : Int32) (x7 : Int32) : Option (St × Int32) :=
  bn (x7 + 1) (fun z1 : Int32 =>
  k32 S x3 a4 a5 x6 z1)
set_option maxRecDepth 100000 in
set_option maxHeartbeats 4000000 in
theorem wX10_alike_j73 (C : Cx G sdX cX10_alike 8 RX10 (some .int)) {n : Nat} {k32 : St → Int32 → Nat → Nat → Int32 → Int32 → Option (St × Int32)} {S S' : St} {r : Int32} {x3 : Int32} {a4 : Nat} {a5 : Nat} {x6 : Int32} {x7 : Int32} (hk32 : ∀ (S : St) (x3 : Int32) (a4 : Nat) (a5 : Nat) (x6 : Int32) (x7 : Int32), k32 S x3 a4 a5 x6 x7 = some (S', r) → Wp G sdX (rmOf 3 79) 8 (Qm G sdX (some (.int r)) S') S 32 [(0, .ref (gA G 0)), (3, .int x3), (4, .ref (gA G a4)), (5, .ref (gA G a5)), (6, .int x6), (7, .int x7)] []) (h : fX10_alike_j73 n k32 S x3 a4 a5 x6 x7 = some (S', r)) : Wp G sdX (rmOf 3 79) 8 (Qm G sdX (some (.int r)) S') S 73 [(0, .ref (gA G 0)), (3, .int x3), (4, .ref (gA G a4)), (5, .ref (gA G a5)), (6, .int x6), (7, .int x7)] [] := by
  unfold fX10_alike_j73 at h
  obtain ⟨z1, ez1, h⟩ := bn_some h
  refine wp_iinc (q := 5) (pc := 73) C (by decide) ez1 [(7, .int z1), (0, .ref (gA G 0)), (3, .int x3), (4, .ref (gA G a4)), (5, .ref (gA G a5)), (6, .int x6)] dX10_alike_73 rfl (Nat.le_of_ble_eq_true rfl) rfl ?_
  refine wp_goto (pc := 76) C 32 dX10_alike_76 (by decide) ?_
  exact wp_sub C [1, 2, 3, 4, 5, 0] rfl (hk32 _ _ _ _ _ _ h)
def fX10_alike_l32 (n : Nat) : Nat → St → Int32 → Nat → Nat → Int32 → Int32 → Option (St × Int32)
  | 0, _, _, _, _, _, _ => none
  | j + 1, S, x3, a4, a5, x6, x7 =>
    gd (isK sdX (S.2.2 0 2) 0) (
    gd (isK sdX (srX (S.2.2 0 2) 2) 5) (
    if (S.1 (srX (S.2.2 0 2) 2) 3) ≤ x7 then
      some (S, x6)
    else
      bd (fX0_areAlike sdX n S (S.2.2 0 2) a4 a5 x7 x3) (fun S3 r4 =>
      if r4 = 0 then
        fX10_alike_j73 n (fX10_alike_l32 n j) S3 x3 a4 a5 x6 x7
      else
        bn (x6 ||| (1 <<< (x7 &&& 31))) (fun z5 : Int32 =>
        fX10_alike_j73 n (fX10_alike_l32 n j) S3 x3 a4 a5 z5 x7))))
set_option maxRecDepth 100000 in
set_option maxHeartbeats 4000000 in
theorem wX10_alike_l32 (C : Cx G sdX cX10_alike 8 RX10 (some .int)) {n : Nat} {S' : St} {r : Int32} : ∀ (j : Nat) (S : St) (x3 : Int32) (a4 : Nat) (a5 : Nat) (x6 : Int32) (x7 : Int32), fX10_alike_l32 n j S x3 a4 a5 x6 x7 = some (S', r) → Wp G sdX (rmOf 3 79) 8 (Qm G sdX (some (.int r)) S') S 32 [(0, .ref (gA G 0)), (3, .int x3), (4, .ref (gA G a4)), (5, .ref (gA G a5)), (6, .int x6), (7, .int x7)] [] := by
  intro j
  induction j with
  | zero =>
    intro S x3 a4 a5 x6 x7 h
    exact nomatch (show (none : Option (St × Int32)) = some _ from h)
  | succ j ih =>
    intro S x3 a4 a5 x6 x7 h
    rw [fX10_alike_l32] at h
    refine wp_iload (pc := 32) C 5 dX10_alike_32 rfl ?_
    refine wp_aload_n (pc := 34) C 0 dX10_alike_34 rfl rfl ?_
    obtain ⟨g1, h⟩ := gd_some h
    refine wp_getD (pc := 35) C flX10_19 rfl g1.1 (Nat.le_of_ble_eq_true rfl) rfl dX10_alike_35 ?_
    obtain ⟨g2, h⟩ := gd_some h
    refine wp_getS (v := srX (S.2.2 0 2) 2) (pc := 38) C flX10_137 rfl rfl g2.1 g1.1 g1.2 dX10_alike_38 ?_
    refine wp_getI (pc := 41) C flX10_106 rfl g2.1 g2.2 dX10_alike_41 ?_
    refine wp_icmp_ge (pc := 44) C 79 dX10_alike_44 (by decide) (fun q => ?_) (fun q => ?_)
    · have h := it_pos q h
      refine wp_iload (pc := 79) C 4 dX10_alike_79 rfl ?_
      exact rt_i C rfl h dX10_alike_81
    · have h := it_neg q h
      refine wp_aload_n (pc := 47) C 0 dX10_alike_47 rfl rfl ?_
      refine wp_getD (pc := 48) C flX10_19 rfl g1.1 (Nat.le_of_ble_eq_true rfl) rfl dX10_alike_48 ?_
      refine wp_aload (pc := 51) C 2 dX10_alike_51 rfl ?_
      refine wp_aload (pc := 53) C 3 dX10_alike_53 rfl ?_
      refine wp_iload (pc := 55) C 5 dX10_alike_55 rfl ?_
      refine wp_iload_n (pc := 57) C 1 dX10_alike_57 rfl rfl ?_
      obtain ⟨S3, r4, cS3, h⟩ := bd_some h
      refine wp_callVi (As := [.ref (gA G a4), .ref (gA G a5), .int x7, .int x3]) (st := []) (pc := 58) C (CtX0_areAlike cS3) mX0_areAlike iX0_areAlike kX10_156 g1.1 g1.2 (by decide) rfl rfl rfl rfl (Nat.le_of_ble_eq_true rfl) ⟨Nat.le_of_ble_eq_true rfl, Nat.le_of_ble_eq_true rfl⟩ dX10_alike_58 ?_
      refine wp_if_eq (pc := 61) C 73 dX10_alike_61 (by decide) (fun q => ?_) (fun q => ?_)
      · have h := it_pos q h
        exact (wX10_alike_j73 C ih h)
      · have h := it_neg q h
        refine wp_iload (pc := 64) C 4 dX10_alike_64 rfl ?_
        refine wp_iconst (v := 1) (pc := 66) C dX10_alike_66 (by decide) ?_
        refine wp_iload (pc := 67) C 5 dX10_alike_67 rfl ?_
        refine wp_ishl (pc := 69) C dX10_alike_69 ?_
        refine wp_ior (pc := 70) C dX10_alike_70 ?_
        obtain ⟨z5, ez5, h⟩ := bn_some h
        refine wp_istore (pc := 71) C ez5 [(6, .int z5), (0, .ref (gA G 0)), (3, .int x3), (4, .ref (gA G a4)), (5, .ref (gA G a5)), (7, .int x7)] dX10_alike_71 (Nat.le_of_ble_eq_true rfl) rfl ?_
        exact wp_sub C [1, 2, 3, 4, 0, 5] rfl (wX10_alike_j73 C ih h)
def fX10_alike (n : Nat) (S : St) (x1 : Int32) (x2 : Int32) (x3 : Int32) : Option (St × Int32) :=
  bq (fX10_rowOf n S x1) (fun S1 =>
    bq (fX10_rowOf n S1 x2) (fun S3 =>
      some (S3, (-1))) (fun S3 r4 =>
      some (S3, (-1)))) (fun S1 r2 =>
    bq (fX10_rowOf n S1 x2) (fun S5 =>
      some (S5, (-1))) (fun S5 r6 =>
      fX10_alike_l32 n n S5 x3 r2 r6 0 0))
set_option maxRecDepth 100000 in
set_option maxHeartbeats 4000000 in
theorem wX10_alike (C : Cx G sdX cX10_alike 8 RX10 (some .int)) {n : Nat} {S S' : St} {r : Int32} {x1 : Int32} {x2 : Int32} {x3 : Int32} (h : fX10_alike n S x1 x2 x3 = some (S', r)) : Wp G sdX (rmOf 3 79) 8 (Qm G sdX (some (.int r)) S') S 0 [(0, .ref (gA G 0)), (1, .int x1), (2, .int x2), (3, .int x3)] [] := by
  unfold fX10_alike at h
  refine wp_aload_n (pc := 0) C 0 dX10_alike_0 rfl rfl ?_
  refine wp_iload_n (pc := 1) C 1 dX10_alike_1 rfl rfl ?_
  rcases bq_some h with ⟨S1, cS1, h⟩ | ⟨S1, r2, cS1, h⟩
  · refine wp_callVrN (As := [.int x1]) (st := []) (pc := 2) C (CtX10_rowOf cS1) mX10_rowOf iX10_rowOf kX10_130 (Nat.le_of_ble_eq_true rfl) rfl (by decide) rfl rfl rfl rfl (Nat.le_of_ble_eq_true rfl) ⟨Nat.le_of_ble_eq_true rfl, Nat.le_of_ble_eq_true rfl⟩ dX10_alike_2 ?_
    refine wp_astoreN (pc := 5) C [(4, .null), (0, .ref (gA G 0)), (1, .int x1), (2, .int x2), (3, .int x3)] dX10_alike_5 (Nat.le_of_ble_eq_true rfl) rfl ?_
    refine wp_aload_n (pc := 7) C 1 dX10_alike_7 rfl rfl ?_
    refine wp_iload_n (pc := 8) C 3 dX10_alike_8 rfl rfl ?_
    rcases bq_some h with ⟨S3, cS3, h⟩ | ⟨S3, r4, cS3, h⟩
    · refine wp_callVrN (As := [.int x2]) (st := []) (pc := 9) C (CtX10_rowOf cS3) mX10_rowOf iX10_rowOf kX10_130 (Nat.le_of_ble_eq_true rfl) rfl (by decide) rfl rfl rfl rfl (Nat.le_of_ble_eq_true rfl) ⟨Nat.le_of_ble_eq_true rfl, Nat.le_of_ble_eq_true rfl⟩ dX10_alike_9 ?_
      refine wp_astoreN (pc := 12) C [(5, .null), (4, .null), (0, .ref (gA G 0)), (1, .int x1), (2, .int x2), (3, .int x3)] dX10_alike_12 (Nat.le_of_ble_eq_true rfl) rfl ?_
      refine wp_aloadN (pc := 14) C 1 dX10_alike_14 rfl ?_
      refine wp_ifnullN (pc := 16) C 24 dX10_alike_16 (by decide) ?_
      refine wp_iconst (v := (-1)) (pc := 24) C dX10_alike_24 (by decide) ?_
      exact rt_i C rfl h dX10_alike_25
    · refine wp_callVrR (As := [.int x2]) (st := []) (pc := 9) C (CtX10_rowOf cS3) mX10_rowOf iX10_rowOf kX10_130 (Nat.le_of_ble_eq_true rfl) rfl (by decide) rfl rfl rfl rfl (Nat.le_of_ble_eq_true rfl) ⟨Nat.le_of_ble_eq_true rfl, Nat.le_of_ble_eq_true rfl⟩ dX10_alike_9 ?_
      refine wp_astore (pc := 12) C rfl [(5, .ref (gA G r4)), (4, .null), (0, .ref (gA G 0)), (1, .int x1), (2, .int x2), (3, .int x3)] dX10_alike_12 (Nat.le_of_ble_eq_true rfl) rfl ?_
      refine wp_aloadN (pc := 14) C 1 dX10_alike_14 rfl ?_
      refine wp_ifnullN (pc := 16) C 24 dX10_alike_16 (by decide) ?_
      refine wp_iconst (v := (-1)) (pc := 24) C dX10_alike_24 (by decide) ?_
      exact rt_i C rfl h dX10_alike_25
  · refine wp_callVrR (As := [.int x1]) (st := []) (pc := 2) C (CtX10_rowOf cS1) mX10_rowOf iX10_rowOf kX10_130 (Nat.le_of_ble_eq_true rfl) rfl (by decide) rfl rfl rfl rfl (Nat.le_of_ble_eq_true rfl) ⟨Nat.le_of_ble_eq_true rfl, Nat.le_of_ble_eq_true rfl⟩ dX10_alike_2 ?_
    refine wp_astore (pc := 5) C rfl [(4, .ref (gA G r2)), (0, .ref (gA G 0)), (1, .int x1), (2, .int x2), (3, .int x3)] dX10_alike_5 (Nat.le_of_ble_eq_true rfl) rfl ?_
    refine wp_aload_n (pc := 7) C 1 dX10_alike_7 rfl rfl ?_
    refine wp_iload_n (pc := 8) C 3 dX10_alike_8 rfl rfl ?_
    rcases bq_some h with ⟨S5, cS5, h⟩ | ⟨S5, r6, cS5, h⟩
    · refine wp_callVrN (As := [.int x2]) (st := []) (pc := 9) C (CtX10_rowOf cS5) mX10_rowOf iX10_rowOf kX10_130 (Nat.le_of_ble_eq_true rfl) rfl (by decide) rfl rfl rfl rfl (Nat.le_of_ble_eq_true rfl) ⟨Nat.le_of_ble_eq_true rfl, Nat.le_of_ble_eq_true rfl⟩ dX10_alike_9 ?_
      refine wp_astoreN (pc := 12) C [(5, .null), (4, .ref (gA G r2)), (0, .ref (gA G 0)), (1, .int x1), (2, .int x2), (3, .int x3)] dX10_alike_12 (Nat.le_of_ble_eq_true rfl) rfl ?_
      refine wp_aload (pc := 14) C 1 dX10_alike_14 rfl ?_
      refine wp_ifnull (pc := 16) C dX10_alike_16 ?_
      refine wp_aloadN (pc := 19) C 0 dX10_alike_19 rfl ?_
      refine wp_ifnonnullN (pc := 21) C dX10_alike_21 ?_
      refine wp_iconst (v := (-1)) (pc := 24) C dX10_alike_24 (by decide) ?_
      exact rt_i C rfl h dX10_alike_25
    · refine wp_callVrR (As := [.int x2]) (st := []) (pc := 9) C (CtX10_rowOf cS5) mX10_rowOf iX10_rowOf kX10_130 (Nat.le_of_ble_eq_true rfl) rfl (by decide) rfl rfl rfl rfl (Nat.le_of_ble_eq_true rfl) ⟨Nat.le_of_ble_eq_true rfl, Nat.le_of_ble_eq_true rfl⟩ dX10_alike_9 ?_
      refine wp_astore (pc := 12) C rfl [(5, .ref (gA G r6)), (4, .ref (gA G r2)), (0, .ref (gA G 0)), (1, .int x1), (2, .int x2), (3, .int x3)] dX10_alike_12 (Nat.le_of_ble_eq_true rfl) rfl ?_
      refine wp_aload (pc := 14) C 1 dX10_alike_14 rfl ?_
      refine wp_ifnull (pc := 16) C dX10_alike_16 ?_
      refine wp_aload (pc := 19) C 0 dX10_alike_19 rfl ?_
      refine wp_ifnonnull (pc := 21) C 26 dX10_alike_21 (by decide) ?_
      refine wp_iconst (v := 0) (pc := 26) C dX10_alike_26 (by decide) ?_
      refine wp_istore (pc := 27) C rfl [(6, .int 0), (5, .ref (gA G r6)), (4, .ref (gA G r2)), (0, .ref (gA G 0)), (1, .int x1), (2, .int x2), (3, .int x3)] dX10_alike_27 (Nat.le_of_ble_eq_true rfl) rfl ?_
      refine wp_iconst (v := 0) (pc := 29) C dX10_alike_29 (by decide) ?_
      refine wp_istore (pc := 30) C rfl [(7, .int 0), (6, .int 0), (5, .ref (gA G r6)), (4, .ref (gA G r2)), (0, .ref (gA G 0)), (1, .int x1), (2, .int x2), (3, .int x3)] dX10_alike_30 (Nat.le_of_ble_eq_true rfl) rfl ?_
      exact wp_sub C [4, 7, 3, 2, 1, 0] rfl (wX10_alike_l32 C _ _ _ _ _ _ _ h)
theorem CtX10_alike {n : Nat} {S S' : St} {r : Int32} {x1 : Int32} {x2 : Int32} {x3 : Int32} (h : fX10_alike n S x1 x2 x3 = some (S', r)) : Ct l sdX cy ad D yX10_alike cX10_alike 8 (some .int) 3 79 [.ref (ad 0), .int x1, .int x2, .int x3] S (some (.int r)) S' :=
  Ct_of (own := RX10) mX10_alike rfl (Nat.le_of_ble_eq_true rfl) (fun G e1 e2 e3 e4 C => by subst e1 e2 e3 e4; exact wX10_alike C h)
def fX10_cost (n : Nat) (S : St) (x1 : Int32) : Option (St × Int32) :=
  if x1 = (-1) then
    gd (isK sdX (S.2.2 0 2) 0) (
    bd (fX0_priceOf sdX n S (S.2.2 0 2) 262) (fun S13 r14 =>
    some (S13, r14)))
  else
    gd (isK sdX (S.2.2 0 2) 0) (
    gd (isK sdX (srX (S.2.2 0 2) 4) 5) (
    bd (fX5_has sdX n S (srX (S.2.2 0 2) 4) x1) (fun S3 r4 =>
    if r4 = 0 then
      some (S3, (-2))
    else
      gd (isK sdX (S3.2.2 0 2) 0) (
      gd (isK sdX (srX (S3.2.2 0 2) 4) 5) (
      gd (isK sdX (srX (srX (S3.2.2 0 2) 4) 2) 17) (
      gd (ib x1 (sdX.2.2.1 (srX (srX (S3.2.2 0 2) 4) 2))) (
      gd (isK sdX (srX (srX (srX (S3.2.2 0 2) 4) 2) (Int32.toNatClampNeg x1)) 13) (
      bd (fX0_priceOf sdX n S3 (S3.2.2 0 2) (srX (srX (srX (S3.2.2 0 2) 4) 2) (Int32.toNatClampNeg x1))) (fun S10 r11 =>
      some (S10, r11))))))))))
set_option maxRecDepth 100000 in
set_option maxHeartbeats 4000000 in
theorem wX10_cost (C : Cx G sdX cX10_cost 2 RX10 (some .int)) {n : Nat} {S S' : St} {r : Int32} {x1 : Int32} (h : fX10_cost n S x1 = some (S', r)) : Wp G sdX (rmOf 1 23) 2 (Qm G sdX (some (.int r)) S') S 0 [(0, .ref (gA G 0)), (1, .int x1)] [] := by
  unfold fX10_cost at h
  refine wp_iload_n (pc := 0) C 1 dX10_cost_0 rfl rfl ?_
  refine wp_iconst (v := (-1)) (pc := 1) C dX10_cost_1 (by decide) ?_
  refine wp_icmp_ne (pc := 2) C 20 dX10_cost_2 (by decide) (fun q => ?_) (fun q => ?_)
  · have h := it_neg q h
    refine wp_aload_n (pc := 20) C 0 dX10_cost_20 rfl rfl ?_
    obtain ⟨g1, h⟩ := gd_some h
    refine wp_getD (pc := 21) C flX10_19 rfl g1.1 (Nat.le_of_ble_eq_true rfl) rfl dX10_cost_21 ?_
    obtain ⟨g2, h⟩ := gd_some h
    refine wp_getS (v := srX (S.2.2 0 2) 4) (pc := 24) C flX10_102 rfl rfl g2.1 g1.1 g1.2 dX10_cost_24 ?_
    refine wp_iload_n (pc := 27) C 1 dX10_cost_27 rfl rfl ?_
    obtain ⟨S3, r4, cS3, h⟩ := bd_some h
    refine wp_callVi (As := [.int x1]) (st := []) (pc := 28) C (CtX5_has cS3) mX5_has iX5_has kX10_140 g2.1 g2.2 (by decide) rfl rfl rfl rfl (Nat.le_of_ble_eq_true rfl) ⟨Nat.le_of_ble_eq_true rfl, Nat.le_of_ble_eq_true rfl⟩ dX10_cost_28 ?_
    refine wp_if_eq (pc := 31) C 56 dX10_cost_31 (by decide) (fun q => ?_) (fun q => ?_)
    · have h := it_pos q h
      refine wp_bipush (v := (-2)) (pc := 56) C dX10_cost_56 (by decide) ?_
      exact rt_i C rfl h dX10_cost_58
    · have h := it_neg q h
      refine wp_aload_n (pc := 34) C 0 dX10_cost_34 rfl rfl ?_
      obtain ⟨g5, h⟩ := gd_some h
      refine wp_getD (pc := 35) C flX10_19 rfl g5.1 (Nat.le_of_ble_eq_true rfl) rfl dX10_cost_35 ?_
      refine wp_aload_n (pc := 38) C 0 dX10_cost_38 rfl rfl ?_
      refine wp_getD (pc := 39) C flX10_19 rfl g5.1 (Nat.le_of_ble_eq_true rfl) rfl dX10_cost_39 ?_
      obtain ⟨g6, h⟩ := gd_some h
      refine wp_getS (v := srX (S3.2.2 0 2) 4) (pc := 42) C flX10_102 rfl rfl g6.1 g5.1 g5.2 dX10_cost_42 ?_
      obtain ⟨g7, h⟩ := gd_some h
      refine wp_getS (v := srX (srX (S3.2.2 0 2) 4) 2) (pc := 45) C flX10_167 rfl rfl g7.1 g6.1 g6.2 dX10_cost_45 ?_
      refine wp_iload_n (pc := 48) C 1 dX10_cost_48 rfl rfl ?_
      obtain ⟨g8, h⟩ := gd_some h
      obtain ⟨g9, h⟩ := gd_some h
      refine wp_aald (t0 := 5) (pc := 49) C g7.1 g7.2 (by decide) rfl rfl g8 g9.1 dX10_cost_49 ?_
      obtain ⟨S10, r11, cS10, h⟩ := bd_some h
      refine wp_callVi (As := [.ref (gA G (srX (srX (srX (S3.2.2 0 2) 4) 2) (Int32.toNatClampNeg x1)))]) (st := []) (pc := 50) C (CtX0_priceOf cS10) mX0_priceOf iX0_priceOf kX10_163 g5.1 g5.2 (by decide) rfl rfl rfl rfl (Nat.le_of_ble_eq_true rfl) ⟨Nat.le_of_ble_eq_true rfl, Nat.le_of_ble_eq_true rfl⟩ dX10_cost_50 ?_
      refine wp_goto (pc := 53) C 58 dX10_cost_53 (by decide) ?_
      exact rt_i C rfl h dX10_cost_58
  · have h := it_pos q h
    refine wp_aload_n (pc := 5) C 0 dX10_cost_5 rfl rfl ?_
    obtain ⟨g12, h⟩ := gd_some h
    refine wp_getD (pc := 6) C flX10_19 rfl g12.1 (Nat.le_of_ble_eq_true rfl) rfl dX10_cost_6 ?_
    refine wp_aload_n (pc := 9) C 0 dX10_cost_9 rfl rfl ?_
    refine wp_getS (v := 261) (pc := 10) C flX10_61 rfl rfl (Nat.le_of_ble_eq_true rfl) (Nat.le_of_ble_eq_true rfl) rfl dX10_cost_10 ?_
    refine wp_getS (v := 262) (pc := 13) C flX10_160 rfl rfl (Nat.le_of_ble_eq_true rfl) (Nat.le_of_ble_eq_true rfl) rfl dX10_cost_13 ?_
    obtain ⟨S13, r14, cS13, h⟩ := bd_some h
    refine wp_callVi (As := [.ref (gA G 262)]) (st := []) (pc := 16) C (CtX0_priceOf cS13) mX0_priceOf iX0_priceOf kX10_163 g12.1 g12.2 (by decide) rfl rfl rfl rfl (Nat.le_of_ble_eq_true rfl) ⟨Nat.le_of_ble_eq_true rfl, Nat.le_of_ble_eq_true rfl⟩ dX10_cost_16 ?_
    exact rt_i C rfl h dX10_cost_19
theorem CtX10_cost {n : Nat} {S S' : St} {r : Int32} {x1 : Int32} (h : fX10_cost n S x1 = some (S', r)) : Ct l sdX cy ad D yX10_cost cX10_cost 2 (some .int) 1 23 [.ref (ad 0), .int x1] S (some (.int r)) S' :=
  Ct_of (own := RX10) mX10_cost rfl (Nat.le_of_ble_eq_true rfl) (fun G e1 e2 e3 e4 C => by subst e1 e2 e3 e4; exact wX10_cost C h)
def fX10_ask (n : Nat) (S : St) (x1 : Int32) (x2 : Int32) (x3 : Int32) (x4 : Int32) : Option (St × Int32) :=
  gd (isK sdX (S.2.2 0 2) 0) (
  gd (isK sdX (srX (S.2.2 0 2) 4) 5) (
  bd (fX5_has sdX n S (srX (S.2.2 0 2) 4) x1) (fun S3 r4 =>
  if r4 = 0 then
    some (S3, 0)
  else
    gd (isK sdX (S3.2.2 0 2) 0) (
    gd (isK sdX (srX (S3.2.2 0 2) 1) 5) (
    bd (fX5_has sdX n S3 (srX (S3.2.2 0 2) 1) x2) (fun S7 r8 =>
    if r8 = 0 then
      some (S7, 0)
    else
      if x3 < 0 then
        some (S7, 0)
      else
        gd (isK sdX (S7.2.2 0 2) 0) (
        if (S7.1 (S7.2.2 0 2) 10) < x3 then
          some (S7, 0)
        else
          if x4 < 0 then
            some (S7, 0)
          else
            if x4 ≤ 8 then
              bd (fX4_take n S7 x1 x2 x3 x4) (fun S10 r11 =>
              some (S10, 1))
            else
              some (S7, 0))))))))
set_option maxRecDepth 100000 in
set_option maxHeartbeats 4000000 in
theorem wX10_ask (C : Cx G sdX cX10_ask 5 RX10 (some .boolean)) {n : Nat} {S S' : St} {r : Int32} {x1 : Int32} {x2 : Int32} {x3 : Int32} {x4 : Int32} (h : fX10_ask n S x1 x2 x3 x4 = some (S', r)) : Wp G sdX (rmOf 3 75) 5 (Qm G sdX (some (.int r)) S') S 0 [(0, .ref (gA G 0)), (1, .int x1), (2, .int x2), (3, .int x3), (4, .int x4)] [] := by
  unfold fX10_ask at h
  refine wp_aload_n (pc := 0) C 0 dX10_ask_0 rfl rfl ?_
  obtain ⟨g1, h⟩ := gd_some h
  refine wp_getD (pc := 1) C flX10_19 rfl g1.1 (Nat.le_of_ble_eq_true rfl) rfl dX10_ask_1 ?_
  obtain ⟨g2, h⟩ := gd_some h
  refine wp_getS (v := srX (S.2.2 0 2) 4) (pc := 4) C flX10_102 rfl rfl g2.1 g1.1 g1.2 dX10_ask_4 ?_
  refine wp_iload_n (pc := 7) C 1 dX10_ask_7 rfl rfl ?_
  obtain ⟨S3, r4, cS3, h⟩ := bd_some h
  refine wp_callVi (As := [.int x1]) (st := []) (pc := 8) C (CtX5_has cS3) mX5_has iX5_has kX10_140 g2.1 g2.2 (by decide) rfl rfl rfl rfl (Nat.le_of_ble_eq_true rfl) ⟨Nat.le_of_ble_eq_true rfl, Nat.le_of_ble_eq_true rfl⟩ dX10_ask_8 ?_
  refine wp_if_eq (pc := 11) C 28 dX10_ask_11 (by decide) (fun q => ?_) (fun q => ?_)
  · have h := it_pos q h
    refine wp_iconst (v := 0) (pc := 28) C dX10_ask_28 (by decide) ?_
    exact rt_z C (Or.inl rfl) rfl h dX10_ask_29
  · have h := it_neg q h
    refine wp_aload_n (pc := 14) C 0 dX10_ask_14 rfl rfl ?_
    obtain ⟨g5, h⟩ := gd_some h
    refine wp_getD (pc := 15) C flX10_19 rfl g5.1 (Nat.le_of_ble_eq_true rfl) rfl dX10_ask_15 ?_
    obtain ⟨g6, h⟩ := gd_some h
    refine wp_getS (v := srX (S3.2.2 0 2) 1) (pc := 18) C flX10_171 rfl rfl g6.1 g5.1 g5.2 dX10_ask_18 ?_
    refine wp_iload_n (pc := 21) C 2 dX10_ask_21 rfl rfl ?_
    obtain ⟨S7, r8, cS7, h⟩ := bd_some h
    refine wp_callVi (As := [.int x2]) (st := []) (pc := 22) C (CtX5_has cS7) mX5_has iX5_has kX10_140 g6.1 g6.2 (by decide) rfl rfl rfl rfl (Nat.le_of_ble_eq_true rfl) ⟨Nat.le_of_ble_eq_true rfl, Nat.le_of_ble_eq_true rfl⟩ dX10_ask_22 ?_
    refine wp_if_ne (pc := 25) C 30 dX10_ask_25 (by decide) (fun q => ?_) (fun q => ?_)
    · have h := it_neg q h
      refine wp_iload_n (pc := 30) C 3 dX10_ask_30 rfl rfl ?_
      refine wp_if_lt (pc := 31) C 57 dX10_ask_31 (by decide) (fun q => ?_) (fun q => ?_)
      · have h := it_pos q h
        refine wp_iconst (v := 0) (pc := 57) C dX10_ask_57 (by decide) ?_
        exact rt_z C (Or.inl rfl) rfl h dX10_ask_58
      · have h := it_neg q h
        refine wp_iload_n (pc := 34) C 3 dX10_ask_34 rfl rfl ?_
        refine wp_aload_n (pc := 35) C 0 dX10_ask_35 rfl rfl ?_
        obtain ⟨g9, h⟩ := gd_some h
        refine wp_getD (pc := 36) C flX10_19 rfl g9.1 (Nat.le_of_ble_eq_true rfl) rfl dX10_ask_36 ?_
        refine wp_getI (pc := 39) C flX10_185 rfl g9.1 g9.2 dX10_ask_39 ?_
        refine wp_icmp_gt (pc := 42) C 57 dX10_ask_42 (by decide) (fun q => ?_) (fun q => ?_)
        · have h := it_pos q h
          refine wp_iconst (v := 0) (pc := 57) C dX10_ask_57 (by decide) ?_
          exact rt_z C (Or.inl rfl) rfl h dX10_ask_58
        · have h := it_neg q h
          refine wp_iload (pc := 45) C 4 dX10_ask_45 rfl ?_
          refine wp_if_lt (pc := 47) C 57 dX10_ask_47 (by decide) (fun q => ?_) (fun q => ?_)
          · have h := it_pos q h
            refine wp_iconst (v := 0) (pc := 57) C dX10_ask_57 (by decide) ?_
            exact rt_z C (Or.inl rfl) rfl h dX10_ask_58
          · have h := it_neg q h
            refine wp_iload (pc := 50) C 4 dX10_ask_50 rfl ?_
            refine wp_bipush (v := 8) (pc := 52) C dX10_ask_52 (by decide) ?_
            refine wp_icmp_le (pc := 54) C 59 dX10_ask_54 (by decide) (fun q => ?_) (fun q => ?_)
            · have h := it_pos q h
              refine wp_aload_n (pc := 59) C 0 dX10_ask_59 rfl rfl ?_
              refine wp_getS (v := 243) (pc := 60) C flX10_54 rfl rfl (Nat.le_of_ble_eq_true rfl) (Nat.le_of_ble_eq_true rfl) rfl dX10_ask_60 ?_
              refine wp_iload_n (pc := 63) C 1 dX10_ask_63 rfl rfl ?_
              refine wp_iload_n (pc := 64) C 2 dX10_ask_64 rfl rfl ?_
              refine wp_iload_n (pc := 65) C 3 dX10_ask_65 rfl rfl ?_
              refine wp_iload (pc := 66) C 4 dX10_ask_66 rfl ?_
              obtain ⟨S10, r11, cS10, h⟩ := bd_some h
              refine wp_callVv (As := [.int x1, .int x2, .int x3, .int x4]) (st := []) (pc := 68) C (CtX4_take cS10) mX4_take iX4_take kX10_188 (Nat.le_of_ble_eq_true rfl) rfl (by decide) rfl rfl rfl rfl (Nat.le_of_ble_eq_true rfl) ⟨Nat.le_of_ble_eq_true rfl, Nat.le_of_ble_eq_true rfl⟩ dX10_ask_68 ?_
              refine wp_iconst (v := 1) (pc := 71) C dX10_ask_71 (by decide) ?_
              exact rt_z C (Or.inr rfl) rfl h dX10_ask_72
            · have h := it_neg q h
              refine wp_iconst (v := 0) (pc := 57) C dX10_ask_57 (by decide) ?_
              exact rt_z C (Or.inl rfl) rfl h dX10_ask_58
    · have h := it_pos q h
      refine wp_iconst (v := 0) (pc := 28) C dX10_ask_28 (by decide) ?_
      exact rt_z C (Or.inl rfl) rfl h dX10_ask_29
theorem CtX10_ask {n : Nat} {S S' : St} {r : Int32} {x1 : Int32} {x2 : Int32} {x3 : Int32} {x4 : Int32} (h : fX10_ask n S x1 x2 x3 x4 = some (S', r)) : Ct l sdX cy ad D yX10_ask cX10_ask 5 (some .boolean) 3 75 [.ref (ad 0), .int x1, .int x2, .int x3, .int x4] S (some (.int r)) S' :=
  Ct_of (own := RX10) mX10_ask rfl (Nat.le_of_ble_eq_true rfl) (fun G e1 e2 e3 e4 C => by subst e1 e2 e3 e4; exact wX10_ask C h)
def fX10_mixes (n : Nat) (S : St) : Option (St × Int32) :=
  if (S.1 243 13) = 0 then
    some (S, (-1))
  else
    some (S, S.1 243 14)
set_option maxRecDepth 100000 in
set_option maxHeartbeats 4000000 in
theorem wX10_mixes (C : Cx G sdX cX10_mixes 1 RX10 (some .int)) {n : Nat} {S S' : St} {r : Int32} (h : fX10_mixes n S = some (S', r)) : Wp G sdX (rmOf 0 0) 1 (Qm G sdX (some (.int r)) S') S 0 [(0, .ref (gA G 0))] [] := by
  unfold fX10_mixes at h
  refine wp_aload_n (pc := 0) C 0 dX10_mixes_0 rfl rfl ?_
  refine wp_getS (v := 243) (pc := 1) C flX10_54 rfl rfl (Nat.le_of_ble_eq_true rfl) (Nat.le_of_ble_eq_true rfl) rfl dX10_mixes_1 ?_
  refine wp_getI (pc := 4) C flX10_192 rfl (Nat.le_of_ble_eq_true rfl) rfl dX10_mixes_4 ?_
  refine wp_if_eq (pc := 7) C 20 dX10_mixes_7 (by decide) (fun q => ?_) (fun q => ?_)
  · have h := it_pos q h
    refine wp_iconst (v := (-1)) (pc := 20) C dX10_mixes_20 (by decide) ?_
    exact rt_i C rfl h dX10_mixes_21
  · have h := it_neg q h
    refine wp_aload_n (pc := 10) C 0 dX10_mixes_10 rfl rfl ?_
    refine wp_getS (v := 243) (pc := 11) C flX10_54 rfl rfl (Nat.le_of_ble_eq_true rfl) (Nat.le_of_ble_eq_true rfl) rfl dX10_mixes_11 ?_
    refine wp_getI (pc := 14) C flX10_195 rfl (Nat.le_of_ble_eq_true rfl) rfl dX10_mixes_14 ?_
    refine wp_goto (pc := 17) C 21 dX10_mixes_17 (by decide) ?_
    exact rt_i C rfl h dX10_mixes_21
theorem CtX10_mixes {n : Nat} {S S' : St} {r : Int32} (h : fX10_mixes n S = some (S', r)) : Ct l sdX cy ad D yX10_mixes cX10_mixes 1 (some .int) 0 0 [.ref (ad 0)] S (some (.int r)) S' :=
  Ct_of (own := RX10) mX10_mixes rfl (Nat.le_of_ble_eq_true rfl) (fun G e1 e2 e3 e4 C => by subst e1 e2 e3 e4; exact wX10_mixes C h)
def fX10_match (n : Nat) (S : St) (x1 : Int32) (x2 : Int32) : Option (St × Int32) :=
  bd (fX4_findMatch n S x1 x2) (fun S1 r2 =>
  some (S1, r2))
set_option maxRecDepth 100000 in
set_option maxHeartbeats 4000000 in
theorem wX10_match (C : Cx G sdX cX10_match 3 RX10 (some .int)) {n : Nat} {S S' : St} {r : Int32} {x1 : Int32} {x2 : Int32} (h : fX10_match n S x1 x2 = some (S', r)) : Wp G sdX (rmOf 5 127) 3 (Qm G sdX (some (.int r)) S') S 0 [(0, .ref (gA G 0)), (1, .int x1), (2, .int x2)] [] := by
  unfold fX10_match at h
  refine wp_aload_n (pc := 0) C 0 dX10_match_0 rfl rfl ?_
  refine wp_getS (v := 243) (pc := 1) C flX10_54 rfl rfl (Nat.le_of_ble_eq_true rfl) (Nat.le_of_ble_eq_true rfl) rfl dX10_match_1 ?_
  refine wp_iload_n (pc := 4) C 1 dX10_match_4 rfl rfl ?_
  refine wp_iload_n (pc := 5) C 2 dX10_match_5 rfl rfl ?_
  obtain ⟨S1, r2, cS1, h⟩ := bd_some h
  refine wp_callVi (As := [.int x1, .int x2]) (st := []) (pc := 6) C (CtX4_findMatch cS1) mX4_findMatch iX4_findMatch kX10_196 (Nat.le_of_ble_eq_true rfl) rfl (by decide) rfl rfl rfl rfl (Nat.le_of_ble_eq_true rfl) ⟨Nat.le_of_ble_eq_true rfl, Nat.le_of_ble_eq_true rfl⟩ dX10_match_6 ?_
  exact rt_i C rfl h dX10_match_9
theorem CtX10_match {n : Nat} {S S' : St} {r : Int32} {x1 : Int32} {x2 : Int32} (h : fX10_match n S x1 x2 = some (S', r)) : Ct l sdX cy ad D yX10_match cX10_match 3 (some .int) 5 127 [.ref (ad 0), .int x1, .int x2] S (some (.int r)) S' :=
  Ct_of (own := RX10) mX10_match rfl (Nat.le_of_ble_eq_true rfl) (fun G e1 e2 e3 e4 C => by subst e1 e2 e3 e4; exact wX10_match C h)
def fX10_nearest (n : Nat) (S : St) (x1 : Int32) (x2 : Int32) : Option (St × Int64) :=
  bd (fX4_findNearest n S x1 x2) (fun S1 r2 =>
  some (S1, r2))
set_option maxRecDepth 100000 in
set_option maxHeartbeats 4000000 in
theorem wX10_nearest (C : Cx G sdX cX10_nearest 3 RX10 (some .long)) {n : Nat} {S S' : St} {r : Int64} {x1 : Int32} {x2 : Int32} (h : fX10_nearest n S x1 x2 = some (S', r)) : Wp G sdX (rmOf 4 111) 3 (Qm G sdX (some (.long r)) S') S 0 [(0, .ref (gA G 0)), (1, .int x1), (2, .int x2)] [] := by
  unfold fX10_nearest at h
  refine wp_aload_n (pc := 0) C 0 dX10_nearest_0 rfl rfl ?_
  refine wp_getS (v := 243) (pc := 1) C flX10_54 rfl rfl (Nat.le_of_ble_eq_true rfl) (Nat.le_of_ble_eq_true rfl) rfl dX10_nearest_1 ?_
  refine wp_iload_n (pc := 4) C 1 dX10_nearest_4 rfl rfl ?_
  refine wp_iload_n (pc := 5) C 2 dX10_nearest_5 rfl rfl ?_
  obtain ⟨S1, r2, cS1, h⟩ := bd_some h
  refine wp_callVl (As := [.int x1, .int x2]) (st := []) (pc := 6) C (CtX4_findNearest cS1) mX4_findNearest iX4_findNearest kX10_200 (Nat.le_of_ble_eq_true rfl) rfl (by decide) rfl rfl rfl rfl (Nat.le_of_ble_eq_true rfl) ⟨Nat.le_of_ble_eq_true rfl, Nat.le_of_ble_eq_true rfl⟩ dX10_nearest_6 ?_
  exact rt_l C rfl h dX10_nearest_9
theorem CtX10_nearest {n : Nat} {S S' : St} {r : Int64} {x1 : Int32} {x2 : Int32} (h : fX10_nearest n S x1 x2 = some (S', r)) : Ct l sdX cy ad D yX10_nearest cX10_nearest 3 (some .long) 4 111 [.ref (ad 0), .int x1, .int x2] S (some (.long r)) S' :=
  Ct_of (own := RX10) mX10_nearest rfl (Nat.le_of_ble_eq_true rfl) (fun G e1 e2 e3 e4 C => by subst e1 e2 e3 e4; exact wX10_nearest C h)
def fX10_best (n : Nat) (S : St) (x1 : Int32) (x2 : Int32) : Option (St × Int32) :=
  bd (fX4_findBest n S x1 x2) (fun S1 r2 =>
  some (S1, r2))
set_option maxRecDepth 100000 in
set_option maxHeartbeats 4000000 in
theorem wX10_best (C : Cx G sdX cX10_best 3 RX10 (some .int)) {n : Nat} {S S' : St} {r : Int32} {x1 : Int32} {x2 : Int32} (h : fX10_best n S x1 x2 = some (S', r)) : Wp G sdX (rmOf 4 104) 3 (Qm G sdX (some (.int r)) S') S 0 [(0, .ref (gA G 0)), (1, .int x1), (2, .int x2)] [] := by
  unfold fX10_best at h
  refine wp_aload_n (pc := 0) C 0 dX10_best_0 rfl rfl ?_
  refine wp_getS (v := 243) (pc := 1) C flX10_54 rfl rfl (Nat.le_of_ble_eq_true rfl) (Nat.le_of_ble_eq_true rfl) rfl dX10_best_1 ?_
  refine wp_iload_n (pc := 4) C 1 dX10_best_4 rfl rfl ?_
  refine wp_iload_n (pc := 5) C 2 dX10_best_5 rfl rfl ?_
  obtain ⟨S1, r2, cS1, h⟩ := bd_some h
  refine wp_callVi (As := [.int x1, .int x2]) (st := []) (pc := 6) C (CtX4_findBest cS1) mX4_findBest iX4_findBest kX10_204 (Nat.le_of_ble_eq_true rfl) rfl (by decide) rfl rfl rfl rfl (Nat.le_of_ble_eq_true rfl) ⟨Nat.le_of_ble_eq_true rfl, Nat.le_of_ble_eq_true rfl⟩ dX10_best_6 ?_
  exact rt_i C rfl h dX10_best_9
theorem CtX10_best {n : Nat} {S S' : St} {r : Int32} {x1 : Int32} {x2 : Int32} (h : fX10_best n S x1 x2 = some (S', r)) : Ct l sdX cy ad D yX10_best cX10_best 3 (some .int) 4 104 [.ref (ad 0), .int x1, .int x2] S (some (.int r)) S' :=
  Ct_of (own := RX10) mX10_best rfl (Nat.le_of_ble_eq_true rfl) (fun G e1 e2 e3 e4 C => by subst e1 e2 e3 e4; exact wX10_best C h)
def fX10_pick (n : Nat) (S : St) (x1 : Int32) : Option (St × Int32) :=
  if x1 < 0 then
    some (S, (-1))
  else
    if x1 < (S.1 243 17) then
      bd (fX4_layBest n S x1) (fun S1 r2 =>
      gd (isK sdX (S1.2.2 0 2) 0) (
      bd (fX0_priceOf sdX n S1 (S1.2.2 0 2) 260) (fun S4 r5 =>
      some (S4, r5))))
    else
      some (S, (-1))
set_option maxRecDepth 100000 in
set_option maxHeartbeats 4000000 in
theorem wX10_pick (C : Cx G sdX cX10_pick 2 RX10 (some .int)) {n : Nat} {S S' : St} {r : Int32} {x1 : Int32} (h : fX10_pick n S x1 = some (S', r)) : Wp G sdX (rmOf 1 24) 2 (Qm G sdX (some (.int r)) S') S 0 [(0, .ref (gA G 0)), (1, .int x1)] [] := by
  unfold fX10_pick at h
  refine wp_iload_n (pc := 0) C 1 dX10_pick_0 rfl rfl ?_
  refine wp_if_lt (pc := 1) C 15 dX10_pick_1 (by decide) (fun q => ?_) (fun q => ?_)
  · have h := it_pos q h
    refine wp_iconst (v := (-1)) (pc := 15) C dX10_pick_15 (by decide) ?_
    exact rt_i C rfl h dX10_pick_16
  · have h := it_neg q h
    refine wp_iload_n (pc := 4) C 1 dX10_pick_4 rfl rfl ?_
    refine wp_aload_n (pc := 5) C 0 dX10_pick_5 rfl rfl ?_
    refine wp_getS (v := 243) (pc := 6) C flX10_54 rfl rfl (Nat.le_of_ble_eq_true rfl) (Nat.le_of_ble_eq_true rfl) rfl dX10_pick_6 ?_
    refine wp_getI (pc := 9) C flX10_207 rfl (Nat.le_of_ble_eq_true rfl) rfl dX10_pick_9 ?_
    refine wp_icmp_lt (pc := 12) C 17 dX10_pick_12 (by decide) (fun q => ?_) (fun q => ?_)
    · have h := it_pos q h
      refine wp_aload_n (pc := 17) C 0 dX10_pick_17 rfl rfl ?_
      refine wp_getS (v := 243) (pc := 18) C flX10_54 rfl rfl (Nat.le_of_ble_eq_true rfl) (Nat.le_of_ble_eq_true rfl) rfl dX10_pick_18 ?_
      refine wp_iload_n (pc := 21) C 1 dX10_pick_21 rfl rfl ?_
      obtain ⟨S1, r2, cS1, h⟩ := bd_some h
      refine wp_callVv (As := [.int x1]) (st := []) (pc := 22) C (CtX4_layBest cS1) mX4_layBest iX4_layBest kX10_210 (Nat.le_of_ble_eq_true rfl) rfl (by decide) rfl rfl rfl rfl (Nat.le_of_ble_eq_true rfl) ⟨Nat.le_of_ble_eq_true rfl, Nat.le_of_ble_eq_true rfl⟩ dX10_pick_22 ?_
      refine wp_aload_n (pc := 25) C 0 dX10_pick_25 rfl rfl ?_
      obtain ⟨g3, h⟩ := gd_some h
      refine wp_getD (pc := 26) C flX10_19 rfl g3.1 (Nat.le_of_ble_eq_true rfl) rfl dX10_pick_26 ?_
      refine wp_aload_n (pc := 29) C 0 dX10_pick_29 rfl rfl ?_
      refine wp_getS (v := 243) (pc := 30) C flX10_54 rfl rfl (Nat.le_of_ble_eq_true rfl) (Nat.le_of_ble_eq_true rfl) rfl dX10_pick_30 ?_
      refine wp_getS (v := 260) (pc := 33) C flX10_213 rfl rfl (Nat.le_of_ble_eq_true rfl) (Nat.le_of_ble_eq_true rfl) rfl dX10_pick_33 ?_
      obtain ⟨S4, r5, cS4, h⟩ := bd_some h
      refine wp_callVi (As := [.ref (gA G 260)]) (st := []) (pc := 36) C (CtX0_priceOf cS4) mX0_priceOf iX0_priceOf kX10_163 g3.1 g3.2 (by decide) rfl rfl rfl rfl (Nat.le_of_ble_eq_true rfl) ⟨Nat.le_of_ble_eq_true rfl, Nat.le_of_ble_eq_true rfl⟩ dX10_pick_36 ?_
      exact rt_i C rfl h dX10_pick_39
    · have h := it_neg q h
      refine wp_iconst (v := (-1)) (pc := 15) C dX10_pick_15 (by decide) ?_
      exact rt_i C rfl h dX10_pick_16
theorem CtX10_pick {n : Nat} {S S' : St} {r : Int32} {x1 : Int32} (h : fX10_pick n S x1 = some (S', r)) : Ct l sdX cy ad D yX10_pick cX10_pick 2 (some .int) 1 24 [.ref (ad 0), .int x1] S (some (.int r)) S' :=
  Ct_of (own := RX10) mX10_pick rfl (Nat.le_of_ble_eq_true rfl) (fun G e1 e2 e3 e4 C => by subst e1 e2 e3 e4; exact wX10_pick C h)
def fX10_trick (n : Nat) (S : St) (x1 : Int32) (x2 : Int32) (x3 : Int32) : Option (St × Int64) :=
  bd (fX4_findTrick n S x1 x2 x3) (fun S1 r2 =>
  some (S1, r2))
set_option maxRecDepth 100000 in
set_option maxHeartbeats 4000000 in
theorem wX10_trick (C : Cx G sdX cX10_trick 4 RX10 (some .long)) {n : Nat} {S S' : St} {r : Int64} {x1 : Int32} {x2 : Int32} {x3 : Int32} (h : fX10_trick n S x1 x2 x3 = some (S', r)) : Wp G sdX (rmOf 4 109) 4 (Qm G sdX (some (.long r)) S') S 0 [(0, .ref (gA G 0)), (1, .int x1), (2, .int x2), (3, .int x3)] [] := by
  unfold fX10_trick at h
  refine wp_aload_n (pc := 0) C 0 dX10_trick_0 rfl rfl ?_
  refine wp_getS (v := 243) (pc := 1) C flX10_54 rfl rfl (Nat.le_of_ble_eq_true rfl) (Nat.le_of_ble_eq_true rfl) rfl dX10_trick_1 ?_
  refine wp_iload_n (pc := 4) C 1 dX10_trick_4 rfl rfl ?_
  refine wp_iload_n (pc := 5) C 2 dX10_trick_5 rfl rfl ?_
  refine wp_iload_n (pc := 6) C 3 dX10_trick_6 rfl rfl ?_
  obtain ⟨S1, r2, cS1, h⟩ := bd_some h
  refine wp_callVl (As := [.int x1, .int x2, .int x3]) (st := []) (pc := 7) C (CtX4_findTrick cS1) mX4_findTrick iX4_findTrick kX10_216 (Nat.le_of_ble_eq_true rfl) rfl (by decide) rfl rfl rfl rfl (Nat.le_of_ble_eq_true rfl) ⟨Nat.le_of_ble_eq_true rfl, Nat.le_of_ble_eq_true rfl⟩ dX10_trick_7 ?_
  exact rt_l C rfl h dX10_trick_10
theorem CtX10_trick {n : Nat} {S S' : St} {r : Int64} {x1 : Int32} {x2 : Int32} {x3 : Int32} (h : fX10_trick n S x1 x2 x3 = some (S', r)) : Ct l sdX cy ad D yX10_trick cX10_trick 4 (some .long) 4 109 [.ref (ad 0), .int x1, .int x2, .int x3] S (some (.long r)) S' :=
  Ct_of (own := RX10) mX10_trick rfl (Nat.le_of_ble_eq_true rfl) (fun G e1 e2 e3 e4 C => by subst e1 e2 e3 e4; exact wX10_trick C h)
def fX10_parts (n : Nat) (S : St) (x1 : Int32) : Option (St × Int32) :=
  if (S.1 243 15) = 0 then
    some (S, (-1))
  else
    gd (isK sdX (S.2.2 0 2) 0) (
    gd (isK sdX (srX (S.2.2 0 2) 0) 5) (
    bd (fX5_has sdX n S (srX (S.2.2 0 2) 0) x1) (fun S3 r4 =>
    if r4 = 0 then
      some (S3, (-1))
    else
      gd (ib x1 8) (
      some (S3, S3.1 260 (Int32.toNatClampNeg x1))))))
set_option maxRecDepth 100000 in
set_option maxHeartbeats 4000000 in
theorem wX10_parts (C : Cx G sdX cX10_parts 2 RX10 (some .int)) {n : Nat} {S S' : St} {r : Int32} {x1 : Int32} (h : fX10_parts n S x1 = some (S', r)) : Wp G sdX (rmOf 1 21) 2 (Qm G sdX (some (.int r)) S') S 0 [(0, .ref (gA G 0)), (1, .int x1)] [] := by
  unfold fX10_parts at h
  refine wp_aload_n (pc := 0) C 0 dX10_parts_0 rfl rfl ?_
  refine wp_getS (v := 243) (pc := 1) C flX10_54 rfl rfl (Nat.le_of_ble_eq_true rfl) (Nat.le_of_ble_eq_true rfl) rfl dX10_parts_1 ?_
  refine wp_getI (pc := 4) C flX10_220 rfl (Nat.le_of_ble_eq_true rfl) rfl dX10_parts_4 ?_
  refine wp_if_eq (pc := 7) C 36 dX10_parts_7 (by decide) (fun q => ?_) (fun q => ?_)
  · have h := it_pos q h
    refine wp_iconst (v := (-1)) (pc := 36) C dX10_parts_36 (by decide) ?_
    exact rt_i C rfl h dX10_parts_37
  · have h := it_neg q h
    refine wp_aload_n (pc := 10) C 0 dX10_parts_10 rfl rfl ?_
    obtain ⟨g1, h⟩ := gd_some h
    refine wp_getD (pc := 11) C flX10_19 rfl g1.1 (Nat.le_of_ble_eq_true rfl) rfl dX10_parts_11 ?_
    obtain ⟨g2, h⟩ := gd_some h
    refine wp_getS (v := srX (S.2.2 0 2) 0) (pc := 14) C flX10_223 rfl rfl g2.1 g1.1 g1.2 dX10_parts_14 ?_
    refine wp_iload_n (pc := 17) C 1 dX10_parts_17 rfl rfl ?_
    obtain ⟨S3, r4, cS3, h⟩ := bd_some h
    refine wp_callVi (As := [.int x1]) (st := []) (pc := 18) C (CtX5_has cS3) mX5_has iX5_has kX10_140 g2.1 g2.2 (by decide) rfl rfl rfl rfl (Nat.le_of_ble_eq_true rfl) ⟨Nat.le_of_ble_eq_true rfl, Nat.le_of_ble_eq_true rfl⟩ dX10_parts_18 ?_
    refine wp_if_eq (pc := 21) C 36 dX10_parts_21 (by decide) (fun q => ?_) (fun q => ?_)
    · have h := it_pos q h
      refine wp_iconst (v := (-1)) (pc := 36) C dX10_parts_36 (by decide) ?_
      exact rt_i C rfl h dX10_parts_37
    · have h := it_neg q h
      refine wp_aload_n (pc := 24) C 0 dX10_parts_24 rfl rfl ?_
      refine wp_getS (v := 243) (pc := 25) C flX10_54 rfl rfl (Nat.le_of_ble_eq_true rfl) (Nat.le_of_ble_eq_true rfl) rfl dX10_parts_25 ?_
      refine wp_getS (v := 260) (pc := 28) C flX10_213 rfl rfl (Nat.le_of_ble_eq_true rfl) (Nat.le_of_ble_eq_true rfl) rfl dX10_parts_28 ?_
      refine wp_iload_n (pc := 31) C 1 dX10_parts_31 rfl rfl ?_
      obtain ⟨g5, h⟩ := gd_some h
      refine wp_iald (pc := 32) C (Nat.le_of_ble_eq_true rfl) rfl g5 dX10_parts_32 ?_
      refine wp_goto (pc := 33) C 37 dX10_parts_33 (by decide) ?_
      exact rt_i C rfl h dX10_parts_37
theorem CtX10_parts {n : Nat} {S S' : St} {r : Int32} {x1 : Int32} (h : fX10_parts n S x1 = some (S', r)) : Ct l sdX cy ad D yX10_parts cX10_parts 2 (some .int) 1 21 [.ref (ad 0), .int x1] S (some (.int r)) S' :=
  Ct_of (own := RX10) mX10_parts rfl (Nat.le_of_ble_eq_true rfl) (fun G e1 e2 e3 e4 C => by subst e1 e2 e3 e4; exact wX10_parts C h)
def fX10_betray_j102 (n : Nat) (S : St) (x7 : Int64) (x9 : Int32) : Option (St × Int64) :=
  bd (fJ7_fill_53178 sdX n S 271 0) (fun S1 r2 =>
  gd (ib x9 6) (
  bn (sI S1 271 (Int32.toNatClampNeg x9) 10) (fun S4 : St =>
  bn (sI S4 0 11 1) (fun S5 : St =>
  some (S5, x7 * 10)))))
set_option maxRecDepth 100000 in
set_option maxHeartbeats 4000000 in
theorem wX10_betray_j102 (C : Cx G sdX cX10_betray 11 RX10 (some .long)) {n : Nat} {S S' : St} {r : Int64} {x7 : Int64} {x9 : Int32} (h : fX10_betray_j102 n S x7 x9 = some (S', r)) : Wp G sdX (rmOf 3 81) 11 (Qm G sdX (some (.long r)) S') S 102 [(0, .ref (gA G 0)), (7, .long x7), (9, .int x9)] [] := by
  unfold fX10_betray_j102 at h
  refine wp_aload_n (pc := 102) C 0 dX10_betray_102 rfl rfl ?_
  refine wp_getS (v := 271) (pc := 103) C flX10_73 rfl rfl (Nat.le_of_ble_eq_true rfl) (Nat.le_of_ble_eq_true rfl) rfl dX10_betray_103 ?_
  refine wp_iconst (v := 0) (pc := 106) C dX10_betray_106 (by decide) ?_
  obtain ⟨S1, r2, cS1, h⟩ := bd_some h
  refine wp_callSv (As := [.ref (gA G 271), .int 0]) (st := []) (pc := 107) C (CtJ7_fill_53178 cS1) mJ7_fill_53178 sJ7_fill_53178 kX10_230 rfl rfl (Nat.le_of_ble_eq_true rfl) ⟨Nat.le_of_ble_eq_true rfl, Nat.le_of_ble_eq_true rfl⟩ dX10_betray_107 ?_
  refine wp_aload_n (pc := 110) C 0 dX10_betray_110 rfl rfl ?_
  refine wp_getS (v := 271) (pc := 111) C flX10_73 rfl rfl (Nat.le_of_ble_eq_true rfl) (Nat.le_of_ble_eq_true rfl) rfl dX10_betray_111 ?_
  refine wp_iload (pc := 114) C 2 dX10_betray_114 rfl ?_
  refine wp_bipush (v := 10) (pc := 116) C dX10_betray_116 (by decide) ?_
  obtain ⟨g3, h⟩ := gd_some h
  obtain ⟨S4, eS4, h⟩ := bn_some h
  refine wp_iast (pc := 118) C eS4 (Nat.le_of_ble_eq_true rfl) rfl g3 dX10_betray_118 ?_
  refine wp_aload_n (pc := 119) C 0 dX10_betray_119 rfl rfl ?_
  refine wp_iconst (v := 1) (pc := 120) C dX10_betray_120 (by decide) ?_
  obtain ⟨S5, eS5, h⟩ := bn_some h
  refine wp_putZ (pc := 121) C (Or.inr rfl) eS5 flX10_76 fpX10_11 rfl (Nat.le_of_ble_eq_true rfl) rfl dX10_betray_121 ?_
  refine wp_lload (pc := 124) C 1 dX10_betray_124 rfl ?_
  refine wp_ldc2 (pc := 126) C qX10_235 dX10_betray_126 ?_
  refine wp_lmul (pc := 129) C dX10_betray_129 ?_
  exact rt_l C rfl h dX10_betray_130
def fX10_betray_j96 (n : Nat) (k65 : St → Int32 → Nat → Nat → Int32 → Int64 → Int32 → Int32 → Option (St × Int64)) (S : St) (x3 : Int32) (a4 : Nat) (a5 : Nat) (x6 : Int32) (x7 : Int64) (x9 : Int32) (x10 : Int32) : Option (St × Int64) :=
  bn (x10 + 1) (fun z1 : Int32 =>
  k65 S x3 a4 a5 x6 x7 x9 z1)
set_option maxRecDepth 100000 in
set_option maxHeartbeats 4000000 in
theorem wX10_betray_j96 (C : Cx G sdX cX10_betray 11 RX10 (some .long)) {n : Nat} {k65 : St → Int32 → Nat → Nat → Int32 → Int64 → Int32 → Int32 → Option (St × Int64)} {S S' : St} {r : Int64} {x3 : Int32} {a4 : Nat} {a5 : Nat} {x6 : Int32} {x7 : Int64} {x9 : Int32} {x10 : Int32} (hk65 : ∀ (S : St) (x3 : Int32) (a4 : Nat) (a5 : Nat) (x6 : Int32) (x7 : Int64) (x9 : Int32) (x10 : Int32), k65 S x3 a4 a5 x6 x7 x9 x10 = some (S', r) → Wp G sdX (rmOf 3 81) 11 (Qm G sdX (some (.long r)) S') S 65 [(0, .ref (gA G 0)), (3, .int x3), (4, .ref (gA G a4)), (5, .ref (gA G a5)), (6, .int x6), (7, .long x7), (9, .int x9), (10, .int x10)] []) (h : fX10_betray_j96 n k65 S x3 a4 a5 x6 x7 x9 x10 = some (S', r)) : Wp G sdX (rmOf 3 81) 11 (Qm G sdX (some (.long r)) S') S 96 [(0, .ref (gA G 0)), (3, .int x3), (4, .ref (gA G a4)), (5, .ref (gA G a5)), (6, .int x6), (7, .long x7), (9, .int x9), (10, .int x10)] [] := by
  unfold fX10_betray_j96 at h
  obtain ⟨z1, ez1, h⟩ := bn_some h
  refine wp_iinc (q := 7) (pc := 96) C (by decide) ez1 [(10, .int z1), (0, .ref (gA G 0)), (3, .int x3), (4, .ref (gA G a4)), (5, .ref (gA G a5)), (6, .int x6), (7, .long x7), (9, .int x9)] dX10_betray_96 rfl (Nat.le_of_ble_eq_true rfl) rfl ?_
  refine wp_goto (pc := 99) C 65 dX10_betray_99 (by decide) ?_
  exact wp_sub C [1, 2, 3, 4, 5, 6, 7, 0] rfl (hk65 _ _ _ _ _ _ _ _ h)
def fX10_betray_l65 (n : Nat) : Nat → St → Int32 → Nat → Nat → Int32 → Int64 → Int32 → Int32 → Option (St × Int64)
  | 0, _, _, _, _, _, _, _, _ => none
  | j + 1, S, x3, a4, a5, x6, x7, x9, x10 =>
    if x6 ≤ x10 then
      fX10_betray_j102 n S x7 x9
    else
      gd (isK sdX (S.2.2 0 2) 0) (
      bd (fX0_apartOf sdX n S (S.2.2 0 2) a4 a5 x10 x3) (fun S2 r3 =>
      if (lg_cmp r3 x7) = 0 then
        fX10_betray_j96 n (fX10_betray_l65 n j) S2 x3 a4 a5 x6 x7 x10 x10
      else
        fX10_betray_j96 n (fX10_betray_l65 n j) S2 x3 a4 a5 x6 x7 x9 x10))
set_option maxRecDepth 100000 in
set_option maxHeartbeats 4000000 in
theorem wX10_betray_l65 (C : Cx G sdX cX10_betray 11 RX10 (some .long)) {n : Nat} {S' : St} {r : Int64} : ∀ (j : Nat) (S : St) (x3 : Int32) (a4 : Nat) (a5 : Nat) (x6 : Int32) (x7 : Int64) (x9 : Int32) (x10 : Int32), fX10_betray_l65 n j S x3 a4 a5 x6 x7 x9 x10 = some (S', r) → Wp G sdX (rmOf 3 81) 11 (Qm G sdX (some (.long r)) S') S 65 [(0, .ref (gA G 0)), (3, .int x3), (4, .ref (gA G a4)), (5, .ref (gA G a5)), (6, .int x6), (7, .long x7), (9, .int x9), (10, .int x10)] [] := by
  intro j
  induction j with
  | zero =>
    intro S x3 a4 a5 x6 x7 x9 x10 h
    exact nomatch (show (none : Option (St × Int64)) = some _ from h)
  | succ j ih =>
    intro S x3 a4 a5 x6 x7 x9 x10 h
    rw [fX10_betray_l65] at h
    refine wp_iload (pc := 65) C 7 dX10_betray_65 rfl ?_
    refine wp_iload (pc := 67) C 4 dX10_betray_67 rfl ?_
    refine wp_icmp_ge (pc := 69) C 102 dX10_betray_69 (by decide) (fun q => ?_) (fun q => ?_)
    · have h := it_pos q h
      exact wp_sub C [0, 5, 6] rfl (wX10_betray_j102 C h)
    · have h := it_neg q h
      refine wp_aload_n (pc := 72) C 0 dX10_betray_72 rfl rfl ?_
      obtain ⟨g1, h⟩ := gd_some h
      refine wp_getD (pc := 73) C flX10_19 rfl g1.1 (Nat.le_of_ble_eq_true rfl) rfl dX10_betray_73 ?_
      refine wp_aload (pc := 76) C 2 dX10_betray_76 rfl ?_
      refine wp_aload (pc := 78) C 3 dX10_betray_78 rfl ?_
      refine wp_iload (pc := 80) C 7 dX10_betray_80 rfl ?_
      refine wp_iload_n (pc := 82) C 1 dX10_betray_82 rfl rfl ?_
      obtain ⟨S2, r3, cS2, h⟩ := bd_some h
      refine wp_callVl (As := [.ref (gA G a4), .ref (gA G a5), .int x10, .int x3]) (st := []) (pc := 83) C (CtX0_apartOf cS2) mX0_apartOf iX0_apartOf kX10_152 g1.1 g1.2 (by decide) rfl rfl rfl rfl (Nat.le_of_ble_eq_true rfl) ⟨Nat.le_of_ble_eq_true rfl, Nat.le_of_ble_eq_true rfl⟩ dX10_betray_83 ?_
      refine wp_lload (pc := 86) C 5 dX10_betray_86 rfl ?_
      refine wp_lcmp (pc := 88) C dX10_betray_88 ?_
      refine wp_if_ne (pc := 89) C 96 dX10_betray_89 (by decide) (fun q => ?_) (fun q => ?_)
      · have h := it_neg q h
        exact (wX10_betray_j96 C ih h)
      · have h := it_pos q h
        refine wp_iload (pc := 92) C 7 dX10_betray_92 rfl ?_
        refine wp_istore (pc := 94) C rfl [(9, .int x10), (0, .ref (gA G 0)), (3, .int x3), (4, .ref (gA G a4)), (5, .ref (gA G a5)), (6, .int x6), (7, .long x7), (10, .int x10)] dX10_betray_94 (Nat.le_of_ble_eq_true rfl) rfl ?_
        exact wp_sub C [1, 2, 3, 4, 5, 6, 0, 7] rfl (wX10_betray_j96 C ih h)
def fX10_betray (n : Nat) (S : St) (x1 : Int32) (x2 : Int32) (x3 : Int32) : Option (St × Int64) :=
  bq (fX10_rowOf n S x1) (fun S1 =>
    bq (fX10_rowOf n S1 x2) (fun S3 =>
      gd (isK sdX (S3.2.2 0 2) 0) (
      gd (isK sdX (srX (S3.2.2 0 2) 2) 5) (
      bn (S3.1 (srX (S3.2.2 0 2) 2) 3) (fun z7 : Int32 =>
      some (S3, (-1)))))) (fun S3 r4 =>
      gd (isK sdX (S3.2.2 0 2) 0) (
      gd (isK sdX (srX (S3.2.2 0 2) 2) 5) (
      bn (S3.1 (srX (S3.2.2 0 2) 2) 3) (fun z10 : Int32 =>
      some (S3, (-1))))))) (fun S1 r2 =>
    bq (fX10_rowOf n S1 x2) (fun S11 =>
      gd (isK sdX (S11.2.2 0 2) 0) (
      gd (isK sdX (srX (S11.2.2 0 2) 2) 5) (
      bn (S11.1 (srX (S11.2.2 0 2) 2) 3) (fun z15 : Int32 =>
      some (S11, (-1)))))) (fun S11 r12 =>
      gd (isK sdX (S11.2.2 0 2) 0) (
      gd (isK sdX (srX (S11.2.2 0 2) 2) 5) (
      bn (S11.1 (srX (S11.2.2 0 2) 2) 3) (fun z18 : Int32 =>
      if z18 = 0 then
        some (S11, (-1))
      else
        bd (fX0_farthestOf sdX n S11 (S11.2.2 0 2) r2 r12 x3) (fun S19 r20 =>
        fX10_betray_l65 n n S19 x3 r2 r12 z18 r20 0 0))))))
set_option maxRecDepth 100000 in
set_option maxHeartbeats 4000000 in
theorem wX10_betray (C : Cx G sdX cX10_betray 11 RX10 (some .long)) {n : Nat} {S S' : St} {r : Int64} {x1 : Int32} {x2 : Int32} {x3 : Int32} (h : fX10_betray n S x1 x2 x3 = some (S', r)) : Wp G sdX (rmOf 3 81) 11 (Qm G sdX (some (.long r)) S') S 0 [(0, .ref (gA G 0)), (1, .int x1), (2, .int x2), (3, .int x3)] [] := by
  unfold fX10_betray at h
  refine wp_aload_n (pc := 0) C 0 dX10_betray_0 rfl rfl ?_
  refine wp_iload_n (pc := 1) C 1 dX10_betray_1 rfl rfl ?_
  rcases bq_some h with ⟨S1, cS1, h⟩ | ⟨S1, r2, cS1, h⟩
  · refine wp_callVrN (As := [.int x1]) (st := []) (pc := 2) C (CtX10_rowOf cS1) mX10_rowOf iX10_rowOf kX10_130 (Nat.le_of_ble_eq_true rfl) rfl (by decide) rfl rfl rfl rfl (Nat.le_of_ble_eq_true rfl) ⟨Nat.le_of_ble_eq_true rfl, Nat.le_of_ble_eq_true rfl⟩ dX10_betray_2 ?_
    refine wp_astoreN (pc := 5) C [(4, .null), (0, .ref (gA G 0)), (1, .int x1), (2, .int x2), (3, .int x3)] dX10_betray_5 (Nat.le_of_ble_eq_true rfl) rfl ?_
    refine wp_aload_n (pc := 7) C 1 dX10_betray_7 rfl rfl ?_
    refine wp_iload_n (pc := 8) C 3 dX10_betray_8 rfl rfl ?_
    rcases bq_some h with ⟨S3, cS3, h⟩ | ⟨S3, r4, cS3, h⟩
    · refine wp_callVrN (As := [.int x2]) (st := []) (pc := 9) C (CtX10_rowOf cS3) mX10_rowOf iX10_rowOf kX10_130 (Nat.le_of_ble_eq_true rfl) rfl (by decide) rfl rfl rfl rfl (Nat.le_of_ble_eq_true rfl) ⟨Nat.le_of_ble_eq_true rfl, Nat.le_of_ble_eq_true rfl⟩ dX10_betray_9 ?_
      refine wp_astoreN (pc := 12) C [(5, .null), (4, .null), (0, .ref (gA G 0)), (1, .int x1), (2, .int x2), (3, .int x3)] dX10_betray_12 (Nat.le_of_ble_eq_true rfl) rfl ?_
      refine wp_aload_n (pc := 14) C 2 dX10_betray_14 rfl rfl ?_
      obtain ⟨g5, h⟩ := gd_some h
      refine wp_getD (pc := 15) C flX10_19 rfl g5.1 (Nat.le_of_ble_eq_true rfl) rfl dX10_betray_15 ?_
      obtain ⟨g6, h⟩ := gd_some h
      refine wp_getS (v := srX (S3.2.2 0 2) 2) (pc := 18) C flX10_137 rfl rfl g6.1 g5.1 g5.2 dX10_betray_18 ?_
      refine wp_getI (pc := 21) C flX10_106 rfl g6.1 g6.2 dX10_betray_21 ?_
      obtain ⟨z7, ez7, h⟩ := bn_some h
      refine wp_istore (pc := 24) C ez7 [(6, .int z7), (5, .null), (4, .null), (0, .ref (gA G 0)), (1, .int x1), (2, .int x2), (3, .int x3)] dX10_betray_24 (Nat.le_of_ble_eq_true rfl) rfl ?_
      refine wp_aloadN (pc := 26) C 2 dX10_betray_26 rfl ?_
      refine wp_ifnullN (pc := 28) C 41 dX10_betray_28 (by decide) ?_
      refine wp_ldc2 (pc := 41) C qX10_146 dX10_betray_41 ?_
      exact rt_l C rfl h dX10_betray_44
    · refine wp_callVrR (As := [.int x2]) (st := []) (pc := 9) C (CtX10_rowOf cS3) mX10_rowOf iX10_rowOf kX10_130 (Nat.le_of_ble_eq_true rfl) rfl (by decide) rfl rfl rfl rfl (Nat.le_of_ble_eq_true rfl) ⟨Nat.le_of_ble_eq_true rfl, Nat.le_of_ble_eq_true rfl⟩ dX10_betray_9 ?_
      refine wp_astore (pc := 12) C rfl [(5, .ref (gA G r4)), (4, .null), (0, .ref (gA G 0)), (1, .int x1), (2, .int x2), (3, .int x3)] dX10_betray_12 (Nat.le_of_ble_eq_true rfl) rfl ?_
      refine wp_aload_n (pc := 14) C 2 dX10_betray_14 rfl rfl ?_
      obtain ⟨g8, h⟩ := gd_some h
      refine wp_getD (pc := 15) C flX10_19 rfl g8.1 (Nat.le_of_ble_eq_true rfl) rfl dX10_betray_15 ?_
      obtain ⟨g9, h⟩ := gd_some h
      refine wp_getS (v := srX (S3.2.2 0 2) 2) (pc := 18) C flX10_137 rfl rfl g9.1 g8.1 g8.2 dX10_betray_18 ?_
      refine wp_getI (pc := 21) C flX10_106 rfl g9.1 g9.2 dX10_betray_21 ?_
      obtain ⟨z10, ez10, h⟩ := bn_some h
      refine wp_istore (pc := 24) C ez10 [(6, .int z10), (5, .ref (gA G r4)), (4, .null), (0, .ref (gA G 0)), (1, .int x1), (2, .int x2), (3, .int x3)] dX10_betray_24 (Nat.le_of_ble_eq_true rfl) rfl ?_
      refine wp_aloadN (pc := 26) C 2 dX10_betray_26 rfl ?_
      refine wp_ifnullN (pc := 28) C 41 dX10_betray_28 (by decide) ?_
      refine wp_ldc2 (pc := 41) C qX10_146 dX10_betray_41 ?_
      exact rt_l C rfl h dX10_betray_44
  · refine wp_callVrR (As := [.int x1]) (st := []) (pc := 2) C (CtX10_rowOf cS1) mX10_rowOf iX10_rowOf kX10_130 (Nat.le_of_ble_eq_true rfl) rfl (by decide) rfl rfl rfl rfl (Nat.le_of_ble_eq_true rfl) ⟨Nat.le_of_ble_eq_true rfl, Nat.le_of_ble_eq_true rfl⟩ dX10_betray_2 ?_
    refine wp_astore (pc := 5) C rfl [(4, .ref (gA G r2)), (0, .ref (gA G 0)), (1, .int x1), (2, .int x2), (3, .int x3)] dX10_betray_5 (Nat.le_of_ble_eq_true rfl) rfl ?_
    refine wp_aload_n (pc := 7) C 1 dX10_betray_7 rfl rfl ?_
    refine wp_iload_n (pc := 8) C 3 dX10_betray_8 rfl rfl ?_
    rcases bq_some h with ⟨S11, cS11, h⟩ | ⟨S11, r12, cS11, h⟩
    · refine wp_callVrN (As := [.int x2]) (st := []) (pc := 9) C (CtX10_rowOf cS11) mX10_rowOf iX10_rowOf kX10_130 (Nat.le_of_ble_eq_true rfl) rfl (by decide) rfl rfl rfl rfl (Nat.le_of_ble_eq_true rfl) ⟨Nat.le_of_ble_eq_true rfl, Nat.le_of_ble_eq_true rfl⟩ dX10_betray_9 ?_
      refine wp_astoreN (pc := 12) C [(5, .null), (4, .ref (gA G r2)), (0, .ref (gA G 0)), (1, .int x1), (2, .int x2), (3, .int x3)] dX10_betray_12 (Nat.le_of_ble_eq_true rfl) rfl ?_
      refine wp_aload_n (pc := 14) C 2 dX10_betray_14 rfl rfl ?_
      obtain ⟨g13, h⟩ := gd_some h
      refine wp_getD (pc := 15) C flX10_19 rfl g13.1 (Nat.le_of_ble_eq_true rfl) rfl dX10_betray_15 ?_
      obtain ⟨g14, h⟩ := gd_some h
      refine wp_getS (v := srX (S11.2.2 0 2) 2) (pc := 18) C flX10_137 rfl rfl g14.1 g13.1 g13.2 dX10_betray_18 ?_
      refine wp_getI (pc := 21) C flX10_106 rfl g14.1 g14.2 dX10_betray_21 ?_
      obtain ⟨z15, ez15, h⟩ := bn_some h
      refine wp_istore (pc := 24) C ez15 [(6, .int z15), (5, .null), (4, .ref (gA G r2)), (0, .ref (gA G 0)), (1, .int x1), (2, .int x2), (3, .int x3)] dX10_betray_24 (Nat.le_of_ble_eq_true rfl) rfl ?_
      refine wp_aload (pc := 26) C 2 dX10_betray_26 rfl ?_
      refine wp_ifnull (pc := 28) C dX10_betray_28 ?_
      refine wp_aloadN (pc := 31) C 1 dX10_betray_31 rfl ?_
      refine wp_ifnullN (pc := 33) C 41 dX10_betray_33 (by decide) ?_
      refine wp_ldc2 (pc := 41) C qX10_146 dX10_betray_41 ?_
      exact rt_l C rfl h dX10_betray_44
    · refine wp_callVrR (As := [.int x2]) (st := []) (pc := 9) C (CtX10_rowOf cS11) mX10_rowOf iX10_rowOf kX10_130 (Nat.le_of_ble_eq_true rfl) rfl (by decide) rfl rfl rfl rfl (Nat.le_of_ble_eq_true rfl) ⟨Nat.le_of_ble_eq_true rfl, Nat.le_of_ble_eq_true rfl⟩ dX10_betray_9 ?_
      refine wp_astore (pc := 12) C rfl [(5, .ref (gA G r12)), (4, .ref (gA G r2)), (0, .ref (gA G 0)), (1, .int x1), (2, .int x2), (3, .int x3)] dX10_betray_12 (Nat.le_of_ble_eq_true rfl) rfl ?_
      refine wp_aload_n (pc := 14) C 2 dX10_betray_14 rfl rfl ?_
      obtain ⟨g16, h⟩ := gd_some h
      refine wp_getD (pc := 15) C flX10_19 rfl g16.1 (Nat.le_of_ble_eq_true rfl) rfl dX10_betray_15 ?_
      obtain ⟨g17, h⟩ := gd_some h
      refine wp_getS (v := srX (S11.2.2 0 2) 2) (pc := 18) C flX10_137 rfl rfl g17.1 g16.1 g16.2 dX10_betray_18 ?_
      refine wp_getI (pc := 21) C flX10_106 rfl g17.1 g17.2 dX10_betray_21 ?_
      obtain ⟨z18, ez18, h⟩ := bn_some h
      refine wp_istore (pc := 24) C ez18 [(6, .int z18), (5, .ref (gA G r12)), (4, .ref (gA G r2)), (0, .ref (gA G 0)), (1, .int x1), (2, .int x2), (3, .int x3)] dX10_betray_24 (Nat.le_of_ble_eq_true rfl) rfl ?_
      refine wp_aload (pc := 26) C 2 dX10_betray_26 rfl ?_
      refine wp_ifnull (pc := 28) C dX10_betray_28 ?_
      refine wp_aload (pc := 31) C 1 dX10_betray_31 rfl ?_
      refine wp_ifnull (pc := 33) C dX10_betray_33 ?_
      refine wp_iload (pc := 36) C 0 dX10_betray_36 rfl ?_
      refine wp_if_ne (pc := 38) C 45 dX10_betray_38 (by decide) (fun q => ?_) (fun q => ?_)
      · have h := it_neg q h
        refine wp_aload_n (pc := 45) C 3 dX10_betray_45 rfl rfl ?_
        refine wp_getD (pc := 46) C flX10_19 rfl g16.1 (Nat.le_of_ble_eq_true rfl) rfl dX10_betray_46 ?_
        refine wp_aload (pc := 49) C 2 dX10_betray_49 rfl ?_
        refine wp_aload (pc := 51) C 1 dX10_betray_51 rfl ?_
        refine wp_iload_n (pc := 53) C 6 dX10_betray_53 rfl rfl ?_
        obtain ⟨S19, r20, cS19, h⟩ := bd_some h
        refine wp_callVl (As := [.ref (gA G r2), .ref (gA G r12), .int x3]) (st := []) (pc := 54) C (CtX0_farthestOf cS19) mX0_farthestOf iX0_farthestOf kX10_226 g16.1 g16.2 (by decide) rfl rfl rfl rfl (Nat.le_of_ble_eq_true rfl) ⟨Nat.le_of_ble_eq_true rfl, Nat.le_of_ble_eq_true rfl⟩ dX10_betray_54 ?_
        refine wp_lstore (pc := 57) C rfl [(7, .long r20), (6, .int z18), (5, .ref (gA G r12)), (4, .ref (gA G r2)), (0, .ref (gA G 0)), (1, .int x1), (2, .int x2), (3, .int x3)] dX10_betray_57 (Nat.le_of_ble_eq_true rfl) rfl ?_
        refine wp_iconst (v := 0) (pc := 59) C dX10_betray_59 (by decide) ?_
        refine wp_istore (pc := 60) C rfl [(9, .int 0), (7, .long r20), (6, .int z18), (5, .ref (gA G r12)), (4, .ref (gA G r2)), (0, .ref (gA G 0)), (1, .int x1), (2, .int x2), (3, .int x3)] dX10_betray_60 (Nat.le_of_ble_eq_true rfl) rfl ?_
        refine wp_iconst (v := 0) (pc := 62) C dX10_betray_62 (by decide) ?_
        refine wp_istore (pc := 63) C rfl [(10, .int 0), (9, .int 0), (7, .long r20), (6, .int z18), (5, .ref (gA G r12)), (4, .ref (gA G r2)), (0, .ref (gA G 0)), (1, .int x1), (2, .int x2), (3, .int x3)] dX10_betray_63 (Nat.le_of_ble_eq_true rfl) rfl ?_
        exact wp_sub C [6, 9, 5, 4, 3, 2, 1, 0] rfl (wX10_betray_l65 C _ _ _ _ _ _ _ _ _ h)
      · have h := it_pos q h
        refine wp_ldc2 (pc := 41) C qX10_146 dX10_betray_41 ?_
        exact rt_l C rfl h dX10_betray_44
theorem CtX10_betray {n : Nat} {S S' : St} {r : Int64} {x1 : Int32} {x2 : Int32} {x3 : Int32} (h : fX10_betray n S x1 x2 x3 = some (S', r)) : Ct l sdX cy ad D yX10_betray cX10_betray 11 (some .long) 3 81 [.ref (ad 0), .int x1, .int x2, .int x3] S (some (.long r)) S' :=
  Ct_of (own := RX10) mX10_betray rfl (Nat.le_of_ble_eq_true rfl) (fun G e1 e2 e3 e4 C => by subst e1 e2 e3 e4; exact wX10_betray C h)
def fX10_weight (n : Nat) (S : St) (x1 : Int32) : Option (St × Int32) :=
  if (S.1 0 11) = 0 then
    some (S, (-1))
  else
    gd (isK sdX (S.2.2 0 2) 0) (
    gd (isK sdX (srX (S.2.2 0 2) 2) 5) (
    bd (fX5_has sdX n S (srX (S.2.2 0 2) 2) x1) (fun S3 r4 =>
    if r4 = 0 then
      some (S3, (-1))
    else
      gd (ib x1 6) (
      some (S3, S3.1 271 (Int32.toNatClampNeg x1))))))
set_option maxRecDepth 100000 in
set_option maxHeartbeats 4000000 in
theorem wX10_weight (C : Cx G sdX cX10_weight 2 RX10 (some .int)) {n : Nat} {S S' : St} {r : Int32} {x1 : Int32} (h : fX10_weight n S x1 = some (S', r)) : Wp G sdX (rmOf 1 21) 2 (Qm G sdX (some (.int r)) S') S 0 [(0, .ref (gA G 0)), (1, .int x1)] [] := by
  unfold fX10_weight at h
  refine wp_aload_n (pc := 0) C 0 dX10_weight_0 rfl rfl ?_
  refine wp_getI (pc := 1) C flX10_76 rfl (Nat.le_of_ble_eq_true rfl) rfl dX10_weight_1 ?_
  refine wp_if_eq (pc := 4) C 30 dX10_weight_4 (by decide) (fun q => ?_) (fun q => ?_)
  · have h := it_pos q h
    refine wp_iconst (v := (-1)) (pc := 30) C dX10_weight_30 (by decide) ?_
    exact rt_i C rfl h dX10_weight_31
  · have h := it_neg q h
    refine wp_aload_n (pc := 7) C 0 dX10_weight_7 rfl rfl ?_
    obtain ⟨g1, h⟩ := gd_some h
    refine wp_getD (pc := 8) C flX10_19 rfl g1.1 (Nat.le_of_ble_eq_true rfl) rfl dX10_weight_8 ?_
    obtain ⟨g2, h⟩ := gd_some h
    refine wp_getS (v := srX (S.2.2 0 2) 2) (pc := 11) C flX10_137 rfl rfl g2.1 g1.1 g1.2 dX10_weight_11 ?_
    refine wp_iload_n (pc := 14) C 1 dX10_weight_14 rfl rfl ?_
    obtain ⟨S3, r4, cS3, h⟩ := bd_some h
    refine wp_callVi (As := [.int x1]) (st := []) (pc := 15) C (CtX5_has cS3) mX5_has iX5_has kX10_140 g2.1 g2.2 (by decide) rfl rfl rfl rfl (Nat.le_of_ble_eq_true rfl) ⟨Nat.le_of_ble_eq_true rfl, Nat.le_of_ble_eq_true rfl⟩ dX10_weight_15 ?_
    refine wp_if_eq (pc := 18) C 30 dX10_weight_18 (by decide) (fun q => ?_) (fun q => ?_)
    · have h := it_pos q h
      refine wp_iconst (v := (-1)) (pc := 30) C dX10_weight_30 (by decide) ?_
      exact rt_i C rfl h dX10_weight_31
    · have h := it_neg q h
      refine wp_aload_n (pc := 21) C 0 dX10_weight_21 rfl rfl ?_
      refine wp_getS (v := 271) (pc := 22) C flX10_73 rfl rfl (Nat.le_of_ble_eq_true rfl) (Nat.le_of_ble_eq_true rfl) rfl dX10_weight_22 ?_
      refine wp_iload_n (pc := 25) C 1 dX10_weight_25 rfl rfl ?_
      obtain ⟨g5, h⟩ := gd_some h
      refine wp_iald (pc := 26) C (Nat.le_of_ble_eq_true rfl) rfl g5 dX10_weight_26 ?_
      refine wp_goto (pc := 27) C 31 dX10_weight_27 (by decide) ?_
      exact rt_i C rfl h dX10_weight_31
theorem CtX10_weight {n : Nat} {S S' : St} {r : Int32} {x1 : Int32} (h : fX10_weight n S x1 = some (S', r)) : Ct l sdX cy ad D yX10_weight cX10_weight 2 (some .int) 1 21 [.ref (ad 0), .int x1] S (some (.int r)) S' :=
  Ct_of (own := RX10) mX10_weight rfl (Nat.le_of_ble_eq_true rfl) (fun G e1 e2 e3 e4 C => by subst e1 e2 e3 e4; exact wX10_weight C h)
def fX10_lamp_l43 (n : Nat) : Nat → St → Int32 → Nat → Nat → Int64 → Int32 → Option (St × Int32)
  | 0, _, _, _, _, _, _ => none
  | j + 1, S, x3, a4, a5, x6, x8 =>
    gd (isK sdX (S.2.2 0 2) 0) (
    gd (isK sdX (srX (S.2.2 0 2) 2) 5) (
    if (S.1 (srX (S.2.2 0 2) 2) 3) ≤ x8 then
      some (S, (-1))
    else
      bd (fX0_apartOf sdX n S (S.2.2 0 2) a4 a5 x8 x3) (fun S3 r4 =>
      if (lg_cmp r4 x6) = 0 then
        some (S3, x8)
      else
        bn (x8 + 1) (fun z5 : Int32 =>
        fX10_lamp_l43 n j S3 x3 a4 a5 x6 z5))))
set_option maxRecDepth 100000 in
set_option maxHeartbeats 4000000 in
theorem wX10_lamp_l43 (C : Cx G sdX cX10_lamp 9 RX10 (some .int)) {n : Nat} {S' : St} {r : Int32} : ∀ (j : Nat) (S : St) (x3 : Int32) (a4 : Nat) (a5 : Nat) (x6 : Int64) (x8 : Int32), fX10_lamp_l43 n j S x3 a4 a5 x6 x8 = some (S', r) → Wp G sdX (rmOf 3 81) 9 (Qm G sdX (some (.int r)) S') S 43 [(0, .ref (gA G 0)), (3, .int x3), (4, .ref (gA G a4)), (5, .ref (gA G a5)), (6, .long x6), (8, .int x8)] [] := by
  intro j
  induction j with
  | zero =>
    intro S x3 a4 a5 x6 x8 h
    exact nomatch (show (none : Option (St × Int32)) = some _ from h)
  | succ j ih =>
    intro S x3 a4 a5 x6 x8 h
    rw [fX10_lamp_l43] at h
    refine wp_iload (pc := 43) C 5 dX10_lamp_43 rfl ?_
    refine wp_aload_n (pc := 45) C 0 dX10_lamp_45 rfl rfl ?_
    obtain ⟨g1, h⟩ := gd_some h
    refine wp_getD (pc := 46) C flX10_19 rfl g1.1 (Nat.le_of_ble_eq_true rfl) rfl dX10_lamp_46 ?_
    obtain ⟨g2, h⟩ := gd_some h
    refine wp_getS (v := srX (S.2.2 0 2) 2) (pc := 49) C flX10_137 rfl rfl g2.1 g1.1 g1.2 dX10_lamp_49 ?_
    refine wp_getI (pc := 52) C flX10_106 rfl g2.1 g2.2 dX10_lamp_52 ?_
    refine wp_icmp_ge (pc := 55) C 87 dX10_lamp_55 (by decide) (fun q => ?_) (fun q => ?_)
    · have h := it_pos q h
      refine wp_iconst (v := (-1)) (pc := 87) C dX10_lamp_87 (by decide) ?_
      exact rt_i C rfl h dX10_lamp_88
    · have h := it_neg q h
      refine wp_aload_n (pc := 58) C 0 dX10_lamp_58 rfl rfl ?_
      refine wp_getD (pc := 59) C flX10_19 rfl g1.1 (Nat.le_of_ble_eq_true rfl) rfl dX10_lamp_59 ?_
      refine wp_aload (pc := 62) C 2 dX10_lamp_62 rfl ?_
      refine wp_aload (pc := 64) C 3 dX10_lamp_64 rfl ?_
      refine wp_iload (pc := 66) C 5 dX10_lamp_66 rfl ?_
      refine wp_iload_n (pc := 68) C 1 dX10_lamp_68 rfl rfl ?_
      obtain ⟨S3, r4, cS3, h⟩ := bd_some h
      refine wp_callVl (As := [.ref (gA G a4), .ref (gA G a5), .int x8, .int x3]) (st := []) (pc := 69) C (CtX0_apartOf cS3) mX0_apartOf iX0_apartOf kX10_152 g1.1 g1.2 (by decide) rfl rfl rfl rfl (Nat.le_of_ble_eq_true rfl) ⟨Nat.le_of_ble_eq_true rfl, Nat.le_of_ble_eq_true rfl⟩ dX10_lamp_69 ?_
      refine wp_lload (pc := 72) C 4 dX10_lamp_72 rfl ?_
      refine wp_lcmp (pc := 74) C dX10_lamp_74 ?_
      refine wp_if_ne (pc := 75) C 81 dX10_lamp_75 (by decide) (fun q => ?_) (fun q => ?_)
      · have h := it_neg q h
        obtain ⟨z5, ez5, h⟩ := bn_some h
        refine wp_iinc (q := 5) (pc := 81) C (by decide) ez5 [(8, .int z5), (0, .ref (gA G 0)), (3, .int x3), (4, .ref (gA G a4)), (5, .ref (gA G a5)), (6, .long x6)] dX10_lamp_81 rfl (Nat.le_of_ble_eq_true rfl) rfl ?_
        refine wp_goto (pc := 84) C 43 dX10_lamp_84 (by decide) ?_
        exact wp_sub C [1, 2, 3, 4, 5, 0] rfl (ih _ _ _ _ _ _ h)
      · have h := it_pos q h
        refine wp_iload (pc := 78) C 5 dX10_lamp_78 rfl ?_
        exact rt_i C rfl h dX10_lamp_80
def fX10_lamp (n : Nat) (S : St) (x1 : Int32) (x2 : Int32) (x3 : Int32) : Option (St × Int32) :=
  bq (fX10_rowOf n S x1) (fun S1 =>
    bq (fX10_rowOf n S1 x2) (fun S3 =>
      some (S3, (-1))) (fun S3 r4 =>
      some (S3, (-1)))) (fun S1 r2 =>
    bq (fX10_rowOf n S1 x2) (fun S5 =>
      some (S5, (-1))) (fun S5 r6 =>
      gd (isK sdX (S5.2.2 0 2) 0) (
      bd (fX0_farthestOf sdX n S5 (S5.2.2 0 2) r2 r6 x3) (fun S8 r9 =>
      fX10_lamp_l43 n n S8 x3 r2 r6 r9 0))))
set_option maxRecDepth 100000 in
set_option maxHeartbeats 4000000 in
theorem wX10_lamp (C : Cx G sdX cX10_lamp 9 RX10 (some .int)) {n : Nat} {S S' : St} {r : Int32} {x1 : Int32} {x2 : Int32} {x3 : Int32} (h : fX10_lamp n S x1 x2 x3 = some (S', r)) : Wp G sdX (rmOf 3 81) 9 (Qm G sdX (some (.int r)) S') S 0 [(0, .ref (gA G 0)), (1, .int x1), (2, .int x2), (3, .int x3)] [] := by
  unfold fX10_lamp at h
  refine wp_aload_n (pc := 0) C 0 dX10_lamp_0 rfl rfl ?_
  refine wp_iload_n (pc := 1) C 1 dX10_lamp_1 rfl rfl ?_
  rcases bq_some h with ⟨S1, cS1, h⟩ | ⟨S1, r2, cS1, h⟩
  · refine wp_callVrN (As := [.int x1]) (st := []) (pc := 2) C (CtX10_rowOf cS1) mX10_rowOf iX10_rowOf kX10_130 (Nat.le_of_ble_eq_true rfl) rfl (by decide) rfl rfl rfl rfl (Nat.le_of_ble_eq_true rfl) ⟨Nat.le_of_ble_eq_true rfl, Nat.le_of_ble_eq_true rfl⟩ dX10_lamp_2 ?_
    refine wp_astoreN (pc := 5) C [(4, .null), (0, .ref (gA G 0)), (1, .int x1), (2, .int x2), (3, .int x3)] dX10_lamp_5 (Nat.le_of_ble_eq_true rfl) rfl ?_
    refine wp_aload_n (pc := 7) C 1 dX10_lamp_7 rfl rfl ?_
    refine wp_iload_n (pc := 8) C 3 dX10_lamp_8 rfl rfl ?_
    rcases bq_some h with ⟨S3, cS3, h⟩ | ⟨S3, r4, cS3, h⟩
    · refine wp_callVrN (As := [.int x2]) (st := []) (pc := 9) C (CtX10_rowOf cS3) mX10_rowOf iX10_rowOf kX10_130 (Nat.le_of_ble_eq_true rfl) rfl (by decide) rfl rfl rfl rfl (Nat.le_of_ble_eq_true rfl) ⟨Nat.le_of_ble_eq_true rfl, Nat.le_of_ble_eq_true rfl⟩ dX10_lamp_9 ?_
      refine wp_astoreN (pc := 12) C [(5, .null), (4, .null), (0, .ref (gA G 0)), (1, .int x1), (2, .int x2), (3, .int x3)] dX10_lamp_12 (Nat.le_of_ble_eq_true rfl) rfl ?_
      refine wp_aloadN (pc := 14) C 1 dX10_lamp_14 rfl ?_
      refine wp_ifnullN (pc := 16) C 24 dX10_lamp_16 (by decide) ?_
      refine wp_iconst (v := (-1)) (pc := 24) C dX10_lamp_24 (by decide) ?_
      exact rt_i C rfl h dX10_lamp_25
    · refine wp_callVrR (As := [.int x2]) (st := []) (pc := 9) C (CtX10_rowOf cS3) mX10_rowOf iX10_rowOf kX10_130 (Nat.le_of_ble_eq_true rfl) rfl (by decide) rfl rfl rfl rfl (Nat.le_of_ble_eq_true rfl) ⟨Nat.le_of_ble_eq_true rfl, Nat.le_of_ble_eq_true rfl⟩ dX10_lamp_9 ?_
      refine wp_astore (pc := 12) C rfl [(5, .ref (gA G r4)), (4, .null), (0, .ref (gA G 0)), (1, .int x1), (2, .int x2), (3, .int x3)] dX10_lamp_12 (Nat.le_of_ble_eq_true rfl) rfl ?_
      refine wp_aloadN (pc := 14) C 1 dX10_lamp_14 rfl ?_
      refine wp_ifnullN (pc := 16) C 24 dX10_lamp_16 (by decide) ?_
      refine wp_iconst (v := (-1)) (pc := 24) C dX10_lamp_24 (by decide) ?_
      exact rt_i C rfl h dX10_lamp_25
  · refine wp_callVrR (As := [.int x1]) (st := []) (pc := 2) C (CtX10_rowOf cS1) mX10_rowOf iX10_rowOf kX10_130 (Nat.le_of_ble_eq_true rfl) rfl (by decide) rfl rfl rfl rfl (Nat.le_of_ble_eq_true rfl) ⟨Nat.le_of_ble_eq_true rfl, Nat.le_of_ble_eq_true rfl⟩ dX10_lamp_2 ?_
    refine wp_astore (pc := 5) C rfl [(4, .ref (gA G r2)), (0, .ref (gA G 0)), (1, .int x1), (2, .int x2), (3, .int x3)] dX10_lamp_5 (Nat.le_of_ble_eq_true rfl) rfl ?_
    refine wp_aload_n (pc := 7) C 1 dX10_lamp_7 rfl rfl ?_
    refine wp_iload_n (pc := 8) C 3 dX10_lamp_8 rfl rfl ?_
    rcases bq_some h with ⟨S5, cS5, h⟩ | ⟨S5, r6, cS5, h⟩
    · refine wp_callVrN (As := [.int x2]) (st := []) (pc := 9) C (CtX10_rowOf cS5) mX10_rowOf iX10_rowOf kX10_130 (Nat.le_of_ble_eq_true rfl) rfl (by decide) rfl rfl rfl rfl (Nat.le_of_ble_eq_true rfl) ⟨Nat.le_of_ble_eq_true rfl, Nat.le_of_ble_eq_true rfl⟩ dX10_lamp_9 ?_
      refine wp_astoreN (pc := 12) C [(5, .null), (4, .ref (gA G r2)), (0, .ref (gA G 0)), (1, .int x1), (2, .int x2), (3, .int x3)] dX10_lamp_12 (Nat.le_of_ble_eq_true rfl) rfl ?_
      refine wp_aload (pc := 14) C 1 dX10_lamp_14 rfl ?_
      refine wp_ifnull (pc := 16) C dX10_lamp_16 ?_
      refine wp_aloadN (pc := 19) C 0 dX10_lamp_19 rfl ?_
      refine wp_ifnonnullN (pc := 21) C dX10_lamp_21 ?_
      refine wp_iconst (v := (-1)) (pc := 24) C dX10_lamp_24 (by decide) ?_
      exact rt_i C rfl h dX10_lamp_25
    · refine wp_callVrR (As := [.int x2]) (st := []) (pc := 9) C (CtX10_rowOf cS5) mX10_rowOf iX10_rowOf kX10_130 (Nat.le_of_ble_eq_true rfl) rfl (by decide) rfl rfl rfl rfl (Nat.le_of_ble_eq_true rfl) ⟨Nat.le_of_ble_eq_true rfl, Nat.le_of_ble_eq_true rfl⟩ dX10_lamp_9 ?_
      refine wp_astore (pc := 12) C rfl [(5, .ref (gA G r6)), (4, .ref (gA G r2)), (0, .ref (gA G 0)), (1, .int x1), (2, .int x2), (3, .int x3)] dX10_lamp_12 (Nat.le_of_ble_eq_true rfl) rfl ?_
      refine wp_aload (pc := 14) C 1 dX10_lamp_14 rfl ?_
      refine wp_ifnull (pc := 16) C dX10_lamp_16 ?_
      refine wp_aload (pc := 19) C 0 dX10_lamp_19 rfl ?_
      refine wp_ifnonnull (pc := 21) C 26 dX10_lamp_21 (by decide) ?_
      refine wp_aload_n (pc := 26) C 2 dX10_lamp_26 rfl rfl ?_
      obtain ⟨g7, h⟩ := gd_some h
      refine wp_getD (pc := 27) C flX10_19 rfl g7.1 (Nat.le_of_ble_eq_true rfl) rfl dX10_lamp_27 ?_
      refine wp_aload (pc := 30) C 1 dX10_lamp_30 rfl ?_
      refine wp_aload (pc := 32) C 0 dX10_lamp_32 rfl ?_
      refine wp_iload_n (pc := 34) C 5 dX10_lamp_34 rfl rfl ?_
      obtain ⟨S8, r9, cS8, h⟩ := bd_some h
      refine wp_callVl (As := [.ref (gA G r2), .ref (gA G r6), .int x3]) (st := []) (pc := 35) C (CtX0_farthestOf cS8) mX0_farthestOf iX0_farthestOf kX10_226 g7.1 g7.2 (by decide) rfl rfl rfl rfl (Nat.le_of_ble_eq_true rfl) ⟨Nat.le_of_ble_eq_true rfl, Nat.le_of_ble_eq_true rfl⟩ dX10_lamp_35 ?_
      refine wp_lstore (pc := 38) C rfl [(6, .long r9), (5, .ref (gA G r6)), (4, .ref (gA G r2)), (0, .ref (gA G 0)), (1, .int x1), (2, .int x2), (3, .int x3)] dX10_lamp_38 (Nat.le_of_ble_eq_true rfl) rfl ?_
      refine wp_iconst (v := 0) (pc := 40) C dX10_lamp_40 (by decide) ?_
      refine wp_istore (pc := 41) C rfl [(8, .int 0), (6, .long r9), (5, .ref (gA G r6)), (4, .ref (gA G r2)), (0, .ref (gA G 0)), (1, .int x1), (2, .int x2), (3, .int x3)] dX10_lamp_41 (Nat.le_of_ble_eq_true rfl) rfl ?_
      exact wp_sub C [4, 7, 3, 2, 1, 0] rfl (wX10_lamp_l43 C _ _ _ _ _ _ _ h)
theorem CtX10_lamp {n : Nat} {S S' : St} {r : Int32} {x1 : Int32} {x2 : Int32} {x3 : Int32} (h : fX10_lamp n S x1 x2 x3 = some (S', r)) : Ct l sdX cy ad D yX10_lamp cX10_lamp 9 (some .int) 3 81 [.ref (ad 0), .int x1, .int x2, .int x3] S (some (.int r)) S' :=
  Ct_of (own := RX10) mX10_lamp rfl (Nat.le_of_ble_eq_true rfl) (fun G e1 e2 e3 e4 C => by subst e1 e2 e3 e4; exact wX10_lamp C h)
end
