section
variable {G : Gx} {l : Launch} {cy : Nat → ClassId} {ad : Nat → Nat} {D : va_G}
def fX0_clear (sd : Sd) (n : Nat) (S : St) (a0 : Nat) : Option (St × Unit) :=
  gd (isK sd a0 0) (
  gd (isK sd (sd.2.2.2 a0 0) 5) (
  bn (sI S (sd.2.2.2 a0 0) 3 0) (fun S3 : St =>
  gd (isK sd (sd.2.2.2 a0 1) 5) (
  bn (sI S3 (sd.2.2.2 a0 1) 3 0) (fun S5 : St =>
  gd (isK sd (sd.2.2.2 a0 2) 5) (
  bn (sI S5 (sd.2.2.2 a0 2) 3 0) (fun S7 : St =>
  gd (isK sd (sd.2.2.2 a0 3) 5) (
  bn (sI S7 (sd.2.2.2 a0 3) 3 0) (fun S9 : St =>
  gd (isK sd (sd.2.2.2 a0 4) 5) (
  bn (sI S9 (sd.2.2.2 a0 4) 3 0) (fun S11 : St =>
  bn (sI S11 a0 9 4) (fun S12 : St =>
  bn (sI S12 a0 10 12) (fun S13 : St =>
  bn (sI S13 a0 11 10) (fun S14 : St =>
  bn (sI S14 a0 12 0) (fun S15 : St =>
  bn (sI S15 a0 13 0) (fun S16 : St =>
  some (S16, ())))))))))))))))))
set_option maxRecDepth 100000 in
set_option maxHeartbeats 4000000 in
theorem wX0_clear {sd : Sd} (C : Cx G sd cX0_clear 1 RX0 none) {n : Nat} {S S' : St} {r : Unit} {a0 : Nat} (h : fX0_clear sd n S a0 = some (S', r)) : Wp G sd (rmOf 0 0) 1 (Qm G sd none S') S 0 [(0, .ref (gA G a0))] [] := by
  unfold fX0_clear at h
  refine wp_aload_n (pc := 0) C 0 dX0_clear_0 rfl rfl ?_
  obtain ⟨g1, h⟩ := gd_some h
  obtain ⟨g2, h⟩ := gd_some h
  refine wp_getS (v := sd.2.2.2 a0 0) (pc := 1) C flX0_14 rfl rfl g2.1 g1.1 g1.2 dX0_clear_1 ?_
  refine wp_iconst (v := 0) (pc := 4) C dX0_clear_4 (by decide) ?_
  obtain ⟨S3, eS3, h⟩ := bn_some h
  refine wp_putI (pc := 5) C eS3 flX0_50 fpX5_3 rfl g2.1 g2.2 dX0_clear_5 ?_
  refine wp_aload_n (pc := 8) C 0 dX0_clear_8 rfl rfl ?_
  obtain ⟨g4, h⟩ := gd_some h
  refine wp_getS (v := sd.2.2.2 a0 1) (pc := 9) C flX0_20 rfl rfl g4.1 g1.1 g1.2 dX0_clear_9 ?_
  refine wp_iconst (v := 0) (pc := 12) C dX0_clear_12 (by decide) ?_
  obtain ⟨S5, eS5, h⟩ := bn_some h
  refine wp_putI (pc := 13) C eS5 flX0_50 fpX5_3 rfl g4.1 g4.2 dX0_clear_13 ?_
  refine wp_aload_n (pc := 16) C 0 dX0_clear_16 rfl rfl ?_
  obtain ⟨g6, h⟩ := gd_some h
  refine wp_getS (v := sd.2.2.2 a0 2) (pc := 17) C flX0_23 rfl rfl g6.1 g1.1 g1.2 dX0_clear_17 ?_
  refine wp_iconst (v := 0) (pc := 20) C dX0_clear_20 (by decide) ?_
  obtain ⟨S7, eS7, h⟩ := bn_some h
  refine wp_putI (pc := 21) C eS7 flX0_50 fpX5_3 rfl g6.1 g6.2 dX0_clear_21 ?_
  refine wp_aload_n (pc := 24) C 0 dX0_clear_24 rfl rfl ?_
  obtain ⟨g8, h⟩ := gd_some h
  refine wp_getS (v := sd.2.2.2 a0 3) (pc := 25) C flX0_26 rfl rfl g8.1 g1.1 g1.2 dX0_clear_25 ?_
  refine wp_iconst (v := 0) (pc := 28) C dX0_clear_28 (by decide) ?_
  obtain ⟨S9, eS9, h⟩ := bn_some h
  refine wp_putI (pc := 29) C eS9 flX0_50 fpX5_3 rfl g8.1 g8.2 dX0_clear_29 ?_
  refine wp_aload_n (pc := 32) C 0 dX0_clear_32 rfl rfl ?_
  obtain ⟨g10, h⟩ := gd_some h
  refine wp_getS (v := sd.2.2.2 a0 4) (pc := 33) C flX0_29 rfl rfl g10.1 g1.1 g1.2 dX0_clear_33 ?_
  refine wp_iconst (v := 0) (pc := 36) C dX0_clear_36 (by decide) ?_
  obtain ⟨S11, eS11, h⟩ := bn_some h
  refine wp_putI (pc := 37) C eS11 flX0_50 fpX5_3 rfl g10.1 g10.2 dX0_clear_37 ?_
  refine wp_aload_n (pc := 40) C 0 dX0_clear_40 rfl rfl ?_
  refine wp_iconst (v := 4) (pc := 41) C dX0_clear_41 (by decide) ?_
  obtain ⟨S12, eS12, h⟩ := bn_some h
  refine wp_putI (pc := 42) C eS12 flX0_54 fpX0_9 rfl g1.1 g1.2 dX0_clear_42 ?_
  refine wp_aload_n (pc := 45) C 0 dX0_clear_45 rfl rfl ?_
  refine wp_bipush (v := 12) (pc := 46) C dX0_clear_46 (by decide) ?_
  obtain ⟨S13, eS13, h⟩ := bn_some h
  refine wp_putI (pc := 48) C eS13 flX0_57 fpX0_10 rfl g1.1 g1.2 dX0_clear_48 ?_
  refine wp_aload_n (pc := 51) C 0 dX0_clear_51 rfl rfl ?_
  refine wp_bipush (v := 10) (pc := 52) C dX0_clear_52 (by decide) ?_
  obtain ⟨S14, eS14, h⟩ := bn_some h
  refine wp_putI (pc := 54) C eS14 flX0_60 fpX0_11 rfl g1.1 g1.2 dX0_clear_54 ?_
  refine wp_aload_n (pc := 57) C 0 dX0_clear_57 rfl rfl ?_
  refine wp_iconst (v := 0) (pc := 58) C dX0_clear_58 (by decide) ?_
  obtain ⟨S15, eS15, h⟩ := bn_some h
  refine wp_putI (pc := 59) C eS15 flX0_63 fpX0_12 rfl g1.1 g1.2 dX0_clear_59 ?_
  refine wp_aload_n (pc := 62) C 0 dX0_clear_62 rfl rfl ?_
  refine wp_iconst (v := 0) (pc := 63) C dX0_clear_63 (by decide) ?_
  obtain ⟨S16, eS16, h⟩ := bn_some h
  refine wp_putZ (pc := 64) C (Or.inl rfl) eS16 flX0_66 fpX0_13 rfl g1.1 g1.2 dX0_clear_64 ?_
  exact rt_v C rfl h dX0_clear_67
theorem CtX0_clear {sd : Sd} {n : Nat} {S S' : St} {r : Unit} {a0 : Nat} (h : fX0_clear sd n S a0 = some (S', r)) : Ct l sd cy ad D yX0_clear cX0_clear 1 none 0 0 [.ref (ad a0)] S none S' :=
  Ct_of (own := RX0) mX0_clear rfl (Nat.le_of_ble_eq_true rfl) (fun G e1 e2 e3 e4 C => by subst e1 e2 e3 e4; exact wX0_clear C h)
def fX0_mixLight_j90 (sd : Sd) (n : Nat) (k2 : St → Nat → Int32 → Option (St × Unit)) (S : St) (a0 : Nat) (x1 : Int32) : Option (St × Unit) :=
  bn (x1 + 1) (fun z1 : Int32 =>
  k2 S a0 z1)
set_option maxRecDepth 100000 in
set_option maxHeartbeats 4000000 in
theorem wX0_mixLight_j90 {sd : Sd} (C : Cx G sd cX0_mixLight 5 RX0 none) {n : Nat} {k2 : St → Nat → Int32 → Option (St × Unit)} {S S' : St} {r : Unit} {a0 : Nat} {x1 : Int32} (hk2 : ∀ (S : St) (a0 : Nat) (x1 : Int32), k2 S a0 x1 = some (S', r) → Wp G sd (rmOf 0 0) 5 (Qm G sd none S') S 2 [(0, .ref (gA G a0)), (1, .int x1)] []) (h : fX0_mixLight_j90 sd n k2 S a0 x1 = some (S', r)) : Wp G sd (rmOf 0 0) 5 (Qm G sd none S') S 90 [(0, .ref (gA G a0)), (1, .int x1)] [] := by
  unfold fX0_mixLight_j90 at h
  obtain ⟨z1, ez1, h⟩ := bn_some h
  refine wp_iinc (q := 1) (pc := 90) C (by decide) ez1 [(1, .int z1), (0, .ref (gA G a0))] dX0_mixLight_90 rfl (Nat.le_of_ble_eq_true rfl) rfl ?_
  refine wp_goto (pc := 93) C 2 dX0_mixLight_93 (by decide) ?_
  exact wp_sub C [1, 0] rfl (hk2 _ _ _ h)
def fX0_mixLight_j84 (sd : Sd) (n : Nat) (k2 : St → Nat → Int32 → Option (St × Unit)) (k15 : St → Nat → Int32 → Int32 → Option (St × Unit)) (S : St) (a0 : Nat) (x1 : Int32) (x2 : Int32) : Option (St × Unit) :=
  bn (x2 + 1) (fun z1 : Int32 =>
  k15 S a0 x1 z1)
set_option maxRecDepth 100000 in
set_option maxHeartbeats 4000000 in
theorem wX0_mixLight_j84 {sd : Sd} (C : Cx G sd cX0_mixLight 5 RX0 none) {n : Nat} {k2 : St → Nat → Int32 → Option (St × Unit)} {k15 : St → Nat → Int32 → Int32 → Option (St × Unit)} {S S' : St} {r : Unit} {a0 : Nat} {x1 : Int32} {x2 : Int32} (hk2 : ∀ (S : St) (a0 : Nat) (x1 : Int32), k2 S a0 x1 = some (S', r) → Wp G sd (rmOf 0 0) 5 (Qm G sd none S') S 2 [(0, .ref (gA G a0)), (1, .int x1)] []) (hk15 : ∀ (S : St) (a0 : Nat) (x1 : Int32) (x2 : Int32), k15 S a0 x1 x2 = some (S', r) → Wp G sd (rmOf 0 0) 5 (Qm G sd none S') S 15 [(0, .ref (gA G a0)), (1, .int x1), (2, .int x2)] []) (h : fX0_mixLight_j84 sd n k2 k15 S a0 x1 x2 = some (S', r)) : Wp G sd (rmOf 0 0) 5 (Qm G sd none S') S 84 [(0, .ref (gA G a0)), (1, .int x1), (2, .int x2)] [] := by
  unfold fX0_mixLight_j84 at h
  obtain ⟨z1, ez1, h⟩ := bn_some h
  refine wp_iinc (q := 2) (pc := 84) C (by decide) ez1 [(2, .int z1), (0, .ref (gA G a0)), (1, .int x1)] dX0_mixLight_84 rfl (Nat.le_of_ble_eq_true rfl) rfl ?_
  refine wp_goto (pc := 87) C 15 dX0_mixLight_87 (by decide) ?_
  exact wp_sub C [1, 2, 0] rfl (hk15 _ _ _ _ h)
def fX0_mixLight_l40 (sd : Sd) (n : Nat) (k2 : St → Nat → Int32 → Option (St × Unit)) (k15 : St → Nat → Int32 → Int32 → Option (St × Unit)) : Nat → St → Nat → Int32 → Int32 → Nat → Int32 → Option (St × Unit)
  | 0, _, _, _, _, _, _ => none
  | j + 1, S, a0, x1, x2, a3, x4 =>
    gd (isK sd a0 0) (
    if (S.1 a0 9) ≤ x4 then
      fX0_mixLight_j84 sd n k2 k15 S a0 x1 x2
    else
      gd (isK sd (sd.2.2.2 a0 2) 5) (
      gd (isK sd (sd.2.2.2 (sd.2.2.2 a0 2) 2) 17) (
      gd (ib x1 (sd.2.2.1 (sd.2.2.2 (sd.2.2.2 a0 2) 2))) (
      gd (isK sd (sd.2.2.2 (sd.2.2.2 (sd.2.2.2 a0 2) 2) (Int32.toNatClampNeg x1)) 13) (
      gd (ib x4 (sd.2.2.1 (sd.2.2.2 (sd.2.2.2 (sd.2.2.2 a0 2) 2) (Int32.toNatClampNeg x1)))) (
      gd (isK sd (sd.2.2.2 a0 3) 5) (
      gd (isK sd (sd.2.2.2 (sd.2.2.2 a0 3) 2) 17) (
      gd (ib x2 (sd.2.2.1 (sd.2.2.2 (sd.2.2.2 a0 3) 2))) (
      gd (isK sd (sd.2.2.2 (sd.2.2.2 (sd.2.2.2 a0 3) 2) (Int32.toNatClampNeg x2)) 13) (
      gd (ib x4 (sd.2.2.1 (sd.2.2.2 (sd.2.2.2 (sd.2.2.2 a0 3) 2) (Int32.toNatClampNeg x2)))) (
      gd (isK sd a3 13) (
      gd (ib x4 (sd.2.2.1 a3)) (
      bn (sI S a3 (Int32.toNatClampNeg x4) ((S.1 (sd.2.2.2 (sd.2.2.2 (sd.2.2.2 a0 2) 2) (Int32.toNatClampNeg x1)) (Int32.toNatClampNeg x4)) * (S.1 (sd.2.2.2 (sd.2.2.2 (sd.2.2.2 a0 3) 2) (Int32.toNatClampNeg x2)) (Int32.toNatClampNeg x4)))) (fun S14 : St =>
      bn (x4 + 1) (fun z15 : Int32 =>
      fX0_mixLight_l40 sd n k2 k15 j S14 a0 x1 x2 a3 z15)))))))))))))))
set_option maxRecDepth 100000 in
set_option maxHeartbeats 4000000 in
theorem wX0_mixLight_l40 {sd : Sd} (C : Cx G sd cX0_mixLight 5 RX0 none) {n : Nat} {k2 : St → Nat → Int32 → Option (St × Unit)} {k15 : St → Nat → Int32 → Int32 → Option (St × Unit)} {S' : St} {r : Unit} (hk2 : ∀ (S : St) (a0 : Nat) (x1 : Int32), k2 S a0 x1 = some (S', r) → Wp G sd (rmOf 0 0) 5 (Qm G sd none S') S 2 [(0, .ref (gA G a0)), (1, .int x1)] []) (hk15 : ∀ (S : St) (a0 : Nat) (x1 : Int32) (x2 : Int32), k15 S a0 x1 x2 = some (S', r) → Wp G sd (rmOf 0 0) 5 (Qm G sd none S') S 15 [(0, .ref (gA G a0)), (1, .int x1), (2, .int x2)] []) : ∀ (j : Nat) (S : St) (a0 : Nat) (x1 : Int32) (x2 : Int32) (a3 : Nat) (x4 : Int32), fX0_mixLight_l40 sd n k2 k15 j S a0 x1 x2 a3 x4 = some (S', r) → Wp G sd (rmOf 0 0) 5 (Qm G sd none S') S 40 [(0, .ref (gA G a0)), (1, .int x1), (2, .int x2), (3, .ref (gA G a3)), (4, .int x4)] [] := by
  intro j
  induction j with
  | zero =>
    intro S a0 x1 x2 a3 x4 h
    exact nomatch (show (none : Option (St × Unit)) = some _ from h)
  | succ j ih =>
    intro S a0 x1 x2 a3 x4 h
    rw [fX0_mixLight_l40] at h
    refine wp_iload (pc := 40) C 4 dX0_mixLight_40 rfl ?_
    refine wp_aload_n (pc := 42) C 0 dX0_mixLight_42 rfl rfl ?_
    obtain ⟨g1, h⟩ := gd_some h
    refine wp_getI (pc := 43) C flX0_54 rfl g1.1 g1.2 dX0_mixLight_43 ?_
    refine wp_icmp_ge (pc := 46) C 84 dX0_mixLight_46 (by decide) (fun q => ?_) (fun q => ?_)
    · have h := it_pos q h
      exact wp_sub C [0, 1, 2] rfl (wX0_mixLight_j84 C hk2 hk15 h)
    · have h := it_neg q h
      refine wp_aload_n (pc := 49) C 3 dX0_mixLight_49 rfl rfl ?_
      refine wp_iload (pc := 50) C 4 dX0_mixLight_50 rfl ?_
      refine wp_aload_n (pc := 52) C 0 dX0_mixLight_52 rfl rfl ?_
      obtain ⟨g2, h⟩ := gd_some h
      refine wp_getS (v := sd.2.2.2 a0 2) (pc := 53) C flX0_23 rfl rfl g2.1 g1.1 g1.2 dX0_mixLight_53 ?_
      obtain ⟨g3, h⟩ := gd_some h
      refine wp_getS (v := sd.2.2.2 (sd.2.2.2 a0 2) 2) (pc := 56) C flX0_70 rfl rfl g3.1 g2.1 g2.2 dX0_mixLight_56 ?_
      refine wp_iload_n (pc := 59) C 1 dX0_mixLight_59 rfl rfl ?_
      obtain ⟨g4, h⟩ := gd_some h
      obtain ⟨g5, h⟩ := gd_some h
      refine wp_aald (t0 := 5) (pc := 60) C g3.1 g3.2 (by decide) rfl rfl g4 g5.1 dX0_mixLight_60 ?_
      refine wp_iload (pc := 61) C 4 dX0_mixLight_61 rfl ?_
      obtain ⟨g6, h⟩ := gd_some h
      refine wp_iald (pc := 63) C g5.1 g5.2 g6 dX0_mixLight_63 ?_
      refine wp_aload_n (pc := 64) C 0 dX0_mixLight_64 rfl rfl ?_
      obtain ⟨g7, h⟩ := gd_some h
      refine wp_getS (v := sd.2.2.2 a0 3) (pc := 65) C flX0_26 rfl rfl g7.1 g1.1 g1.2 dX0_mixLight_65 ?_
      obtain ⟨g8, h⟩ := gd_some h
      refine wp_getS (v := sd.2.2.2 (sd.2.2.2 a0 3) 2) (pc := 68) C flX0_70 rfl rfl g8.1 g7.1 g7.2 dX0_mixLight_68 ?_
      refine wp_iload_n (pc := 71) C 2 dX0_mixLight_71 rfl rfl ?_
      obtain ⟨g9, h⟩ := gd_some h
      obtain ⟨g10, h⟩ := gd_some h
      refine wp_aald (t0 := 5) (pc := 72) C g8.1 g8.2 (by decide) rfl rfl g9 g10.1 dX0_mixLight_72 ?_
      refine wp_iload (pc := 73) C 4 dX0_mixLight_73 rfl ?_
      obtain ⟨g11, h⟩ := gd_some h
      refine wp_iald (pc := 75) C g10.1 g10.2 g11 dX0_mixLight_75 ?_
      refine wp_imul (pc := 76) C dX0_mixLight_76 ?_
      obtain ⟨g12, h⟩ := gd_some h
      obtain ⟨g13, h⟩ := gd_some h
      obtain ⟨S14, eS14, h⟩ := bn_some h
      refine wp_iast (pc := 77) C eS14 g12.1 g12.2 g13 dX0_mixLight_77 ?_
      obtain ⟨z15, ez15, h⟩ := bn_some h
      refine wp_iinc (q := 4) (pc := 78) C (by decide) ez15 [(4, .int z15), (0, .ref (gA G a0)), (1, .int x1), (2, .int x2), (3, .ref (gA G a3))] dX0_mixLight_78 rfl (Nat.le_of_ble_eq_true rfl) rfl ?_
      refine wp_goto (pc := 81) C 40 dX0_mixLight_81 (by decide) ?_
      exact wp_sub C [1, 2, 3, 4, 0] rfl (ih _ _ _ _ _ _ h)
def fX0_mixLight_l15 (sd : Sd) (n : Nat) (k2 : St → Nat → Int32 → Option (St × Unit)) : Nat → St → Nat → Int32 → Int32 → Option (St × Unit)
  | 0, _, _, _, _ => none
  | j + 1, S, a0, x1, x2 =>
    gd (isK sd a0 0) (
    gd (isK sd (sd.2.2.2 a0 3) 5) (
    if (S.1 (sd.2.2.2 a0 3) 3) ≤ x2 then
      fX0_mixLight_j90 sd n k2 S a0 x1
    else
      gd (isK sd (sd.2.2.2 a0 8) 17) (
      gd (ib ((x1 * 4) + x2) (sd.2.2.1 (sd.2.2.2 a0 8))) (
      gd (isK sd (sd.2.2.2 (sd.2.2.2 a0 8) (Int32.toNatClampNeg ((x1 * 4) + x2))) 13) (
      bn (sd.2.2.2 (sd.2.2.2 a0 8) (Int32.toNatClampNeg ((x1 * 4) + x2))) (fun a6 : Nat =>
      fX0_mixLight_l40 sd n k2 (fX0_mixLight_l15 sd n k2 j) n S a0 x1 x2 a6 0))))))
set_option maxRecDepth 100000 in
set_option maxHeartbeats 4000000 in
theorem wX0_mixLight_l15 {sd : Sd} (C : Cx G sd cX0_mixLight 5 RX0 none) {n : Nat} {k2 : St → Nat → Int32 → Option (St × Unit)} {S' : St} {r : Unit} (hk2 : ∀ (S : St) (a0 : Nat) (x1 : Int32), k2 S a0 x1 = some (S', r) → Wp G sd (rmOf 0 0) 5 (Qm G sd none S') S 2 [(0, .ref (gA G a0)), (1, .int x1)] []) : ∀ (j : Nat) (S : St) (a0 : Nat) (x1 : Int32) (x2 : Int32), fX0_mixLight_l15 sd n k2 j S a0 x1 x2 = some (S', r) → Wp G sd (rmOf 0 0) 5 (Qm G sd none S') S 15 [(0, .ref (gA G a0)), (1, .int x1), (2, .int x2)] [] := by
  intro j
  induction j with
  | zero =>
    intro S a0 x1 x2 h
    exact nomatch (show (none : Option (St × Unit)) = some _ from h)
  | succ j ih =>
    intro S a0 x1 x2 h
    rw [fX0_mixLight_l15] at h
    refine wp_iload_n (pc := 15) C 2 dX0_mixLight_15 rfl rfl ?_
    refine wp_aload_n (pc := 16) C 0 dX0_mixLight_16 rfl rfl ?_
    obtain ⟨g1, h⟩ := gd_some h
    obtain ⟨g2, h⟩ := gd_some h
    refine wp_getS (v := sd.2.2.2 a0 3) (pc := 17) C flX0_26 rfl rfl g2.1 g1.1 g1.2 dX0_mixLight_17 ?_
    refine wp_getI (pc := 20) C flX0_50 rfl g2.1 g2.2 dX0_mixLight_20 ?_
    refine wp_icmp_ge (pc := 23) C 90 dX0_mixLight_23 (by decide) (fun q => ?_) (fun q => ?_)
    · have h := it_pos q h
      exact wp_sub C [0, 1] rfl (wX0_mixLight_j90 C hk2 h)
    · have h := it_neg q h
      refine wp_aload_n (pc := 26) C 0 dX0_mixLight_26 rfl rfl ?_
      obtain ⟨g3, h⟩ := gd_some h
      refine wp_getS (v := sd.2.2.2 a0 8) (pc := 27) C flX0_44 rfl rfl g3.1 g1.1 g1.2 dX0_mixLight_27 ?_
      refine wp_iload_n (pc := 30) C 1 dX0_mixLight_30 rfl rfl ?_
      refine wp_iconst (v := 4) (pc := 31) C dX0_mixLight_31 (by decide) ?_
      refine wp_imul (pc := 32) C dX0_mixLight_32 ?_
      refine wp_iload_n (pc := 33) C 2 dX0_mixLight_33 rfl rfl ?_
      refine wp_iadd (pc := 34) C dX0_mixLight_34 ?_
      obtain ⟨g4, h⟩ := gd_some h
      obtain ⟨g5, h⟩ := gd_some h
      refine wp_aald (t0 := 5) (pc := 35) C g3.1 g3.2 (by decide) rfl rfl g4 g5.1 dX0_mixLight_35 ?_
      obtain ⟨a6, ea6, h⟩ := bn_some h
      refine wp_astore_n (pc := 36) C (congrArg (gA G) ea6) [(3, .ref (gA G a6)), (0, .ref (gA G a0)), (1, .int x1), (2, .int x2)] dX0_mixLight_36 rfl (Nat.le_of_ble_eq_true rfl) rfl ?_
      refine wp_iconst (v := 0) (pc := 37) C dX0_mixLight_37 (by decide) ?_
      refine wp_istore (pc := 38) C rfl [(4, .int 0), (3, .ref (gA G a6)), (0, .ref (gA G a0)), (1, .int x1), (2, .int x2)] dX0_mixLight_38 (Nat.le_of_ble_eq_true rfl) rfl ?_
      exact wp_sub C [2, 3, 4, 1, 0] rfl (wX0_mixLight_l40 C hk2 ih _ _ _ _ _ _ _ h)
def fX0_mixLight_l2 (sd : Sd) (n : Nat) : Nat → St → Nat → Int32 → Option (St × Unit)
  | 0, _, _, _ => none
  | j + 1, S, a0, x1 =>
    gd (isK sd a0 0) (
    gd (isK sd (sd.2.2.2 a0 2) 5) (
    if (S.1 (sd.2.2.2 a0 2) 3) ≤ x1 then
      some (S, ())
    else
      fX0_mixLight_l15 sd n (fX0_mixLight_l2 sd n j) n S a0 x1 0))
set_option maxRecDepth 100000 in
set_option maxHeartbeats 4000000 in
theorem wX0_mixLight_l2 {sd : Sd} (C : Cx G sd cX0_mixLight 5 RX0 none) {n : Nat} {S' : St} {r : Unit} : ∀ (j : Nat) (S : St) (a0 : Nat) (x1 : Int32), fX0_mixLight_l2 sd n j S a0 x1 = some (S', r) → Wp G sd (rmOf 0 0) 5 (Qm G sd none S') S 2 [(0, .ref (gA G a0)), (1, .int x1)] [] := by
  intro j
  induction j with
  | zero =>
    intro S a0 x1 h
    exact nomatch (show (none : Option (St × Unit)) = some _ from h)
  | succ j ih =>
    intro S a0 x1 h
    rw [fX0_mixLight_l2] at h
    refine wp_iload_n (pc := 2) C 1 dX0_mixLight_2 rfl rfl ?_
    refine wp_aload_n (pc := 3) C 0 dX0_mixLight_3 rfl rfl ?_
    obtain ⟨g1, h⟩ := gd_some h
    obtain ⟨g2, h⟩ := gd_some h
    refine wp_getS (v := sd.2.2.2 a0 2) (pc := 4) C flX0_23 rfl rfl g2.1 g1.1 g1.2 dX0_mixLight_4 ?_
    refine wp_getI (pc := 7) C flX0_50 rfl g2.1 g2.2 dX0_mixLight_7 ?_
    refine wp_icmp_ge (pc := 10) C 96 dX0_mixLight_10 (by decide) (fun q => ?_) (fun q => ?_)
    · have h := it_pos q h
      exact rt_v C rfl h dX0_mixLight_96
    · have h := it_neg q h
      refine wp_iconst (v := 0) (pc := 13) C dX0_mixLight_13 (by decide) ?_
      refine wp_istore_n (pc := 14) C rfl [(2, .int 0), (0, .ref (gA G a0)), (1, .int x1)] dX0_mixLight_14 rfl (Nat.le_of_ble_eq_true rfl) rfl ?_
      exact wp_sub C [1, 2, 0] rfl (wX0_mixLight_l15 C ih _ _ _ _ _ h)
def fX0_mixLight (sd : Sd) (n : Nat) (S : St) (a0 : Nat) : Option (St × Unit) :=
  fX0_mixLight_l2 sd n n S a0 0
set_option maxRecDepth 100000 in
set_option maxHeartbeats 4000000 in
theorem wX0_mixLight {sd : Sd} (C : Cx G sd cX0_mixLight 5 RX0 none) {n : Nat} {S S' : St} {r : Unit} {a0 : Nat} (h : fX0_mixLight sd n S a0 = some (S', r)) : Wp G sd (rmOf 0 0) 5 (Qm G sd none S') S 0 [(0, .ref (gA G a0))] [] := by
  unfold fX0_mixLight at h
  refine wp_iconst (v := 0) (pc := 0) C dX0_mixLight_0 (by decide) ?_
  refine wp_istore_n (pc := 1) C rfl [(1, .int 0), (0, .ref (gA G a0))] dX0_mixLight_1 rfl (Nat.le_of_ble_eq_true rfl) rfl ?_
  exact wp_sub C [1, 0] rfl (wX0_mixLight_l2 C _ _ _ _ h)
theorem CtX0_mixLight {sd : Sd} {n : Nat} {S S' : St} {r : Unit} {a0 : Nat} (h : fX0_mixLight sd n S a0 = some (S', r)) : Ct l sd cy ad D yX0_mixLight cX0_mixLight 5 none 0 0 [.ref (ad a0)] S none S' :=
  Ct_of (own := RX0) mX0_mixLight rfl (Nat.le_of_ble_eq_true rfl) (fun G e1 e2 e3 e4 C => by subst e1 e2 e3 e4; exact wX0_mixLight C h)
def fX0_layGround_l21 (sd : Sd) (n : Nat) : Nat → St → Nat → Int32 → Nat → Int32 → Int32 → Option (St × Unit)
  | 0, _, _, _, _, _, _ => none
  | j + 1, S, a0, x1, a2, x3, x4 =>
    gd (isK sd a0 0) (
    if (S.1 a0 9) ≤ x4 then
      some (S, ())
    else
      gd (isK sd (sd.2.2.2 a0 1) 5) (
      gd (isK sd (sd.2.2.2 (sd.2.2.2 a0 1) 2) 17) (
      gd (ib x1 (sd.2.2.1 (sd.2.2.2 (sd.2.2.2 a0 1) 2))) (
      gd (isK sd (sd.2.2.2 (sd.2.2.2 (sd.2.2.2 a0 1) 2) (Int32.toNatClampNeg x1)) 13) (
      gd (ib x4 (sd.2.2.1 (sd.2.2.2 (sd.2.2.2 (sd.2.2.2 a0 1) 2) (Int32.toNatClampNeg x1)))) (
      gd (isK sd a2 13) (
      gd (ib x4 (sd.2.2.1 a2)) (
      bn (sI S a2 (Int32.toNatClampNeg x4) ((S.1 (sd.2.2.2 (sd.2.2.2 (sd.2.2.2 a0 1) 2) (Int32.toNatClampNeg x1)) (Int32.toNatClampNeg x4)) * x3)) (fun S9 : St =>
      bn (x4 + 1) (fun z10 : Int32 =>
      fX0_layGround_l21 sd n j S9 a0 x1 a2 x3 z10))))))))))
set_option maxRecDepth 100000 in
set_option maxHeartbeats 4000000 in
theorem wX0_layGround_l21 {sd : Sd} (C : Cx G sd cX0_layGround 5 RX0 none) {n : Nat} {S' : St} {r : Unit} : ∀ (j : Nat) (S : St) (a0 : Nat) (x1 : Int32) (a2 : Nat) (x3 : Int32) (x4 : Int32), fX0_layGround_l21 sd n j S a0 x1 a2 x3 x4 = some (S', r) → Wp G sd (rmOf 0 0) 5 (Qm G sd none S') S 21 [(0, .ref (gA G a0)), (1, .int x1), (2, .ref (gA G a2)), (3, .int x3), (4, .int x4)] [] := by
  intro j
  induction j with
  | zero =>
    intro S a0 x1 a2 x3 x4 h
    exact nomatch (show (none : Option (St × Unit)) = some _ from h)
  | succ j ih =>
    intro S a0 x1 a2 x3 x4 h
    rw [fX0_layGround_l21] at h
    refine wp_iload (pc := 21) C 4 dX0_layGround_21 rfl ?_
    refine wp_aload_n (pc := 23) C 0 dX0_layGround_23 rfl rfl ?_
    obtain ⟨g1, h⟩ := gd_some h
    refine wp_getI (pc := 24) C flX0_54 rfl g1.1 g1.2 dX0_layGround_24 ?_
    refine wp_icmp_ge (pc := 27) C 54 dX0_layGround_27 (by decide) (fun q => ?_) (fun q => ?_)
    · have h := it_pos q h
      exact rt_v C rfl h dX0_layGround_54
    · have h := it_neg q h
      refine wp_aload_n (pc := 30) C 2 dX0_layGround_30 rfl rfl ?_
      refine wp_iload (pc := 31) C 4 dX0_layGround_31 rfl ?_
      refine wp_aload_n (pc := 33) C 0 dX0_layGround_33 rfl rfl ?_
      obtain ⟨g2, h⟩ := gd_some h
      refine wp_getS (v := sd.2.2.2 a0 1) (pc := 34) C flX0_20 rfl rfl g2.1 g1.1 g1.2 dX0_layGround_34 ?_
      obtain ⟨g3, h⟩ := gd_some h
      refine wp_getS (v := sd.2.2.2 (sd.2.2.2 a0 1) 2) (pc := 37) C flX0_70 rfl rfl g3.1 g2.1 g2.2 dX0_layGround_37 ?_
      refine wp_iload_n (pc := 40) C 1 dX0_layGround_40 rfl rfl ?_
      obtain ⟨g4, h⟩ := gd_some h
      obtain ⟨g5, h⟩ := gd_some h
      refine wp_aald (t0 := 5) (pc := 41) C g3.1 g3.2 (by decide) rfl rfl g4 g5.1 dX0_layGround_41 ?_
      refine wp_iload (pc := 42) C 4 dX0_layGround_42 rfl ?_
      obtain ⟨g6, h⟩ := gd_some h
      refine wp_iald (pc := 44) C g5.1 g5.2 g6 dX0_layGround_44 ?_
      refine wp_iload_n (pc := 45) C 3 dX0_layGround_45 rfl rfl ?_
      refine wp_imul (pc := 46) C dX0_layGround_46 ?_
      obtain ⟨g7, h⟩ := gd_some h
      obtain ⟨g8, h⟩ := gd_some h
      obtain ⟨S9, eS9, h⟩ := bn_some h
      refine wp_iast (pc := 47) C eS9 g7.1 g7.2 g8 dX0_layGround_47 ?_
      obtain ⟨z10, ez10, h⟩ := bn_some h
      refine wp_iinc (q := 4) (pc := 48) C (by decide) ez10 [(4, .int z10), (0, .ref (gA G a0)), (1, .int x1), (2, .ref (gA G a2)), (3, .int x3)] dX0_layGround_48 rfl (Nat.le_of_ble_eq_true rfl) rfl ?_
      refine wp_goto (pc := 51) C 21 dX0_layGround_51 (by decide) ?_
      exact wp_sub C [1, 2, 3, 4, 0] rfl (ih _ _ _ _ _ _ h)
def fX0_layGround_j17 (sd : Sd) (n : Nat) (S : St) (a0 : Nat) (x1 : Int32) (a2 : Nat) (y0 : Int32) : Option (St × Unit) :=
  fX0_layGround_l21 sd n n S a0 x1 a2 y0 0
set_option maxRecDepth 100000 in
set_option maxHeartbeats 4000000 in
theorem wX0_layGround_j17 {sd : Sd} (C : Cx G sd cX0_layGround 5 RX0 none) {n : Nat} {S S' : St} {r : Unit} {a0 : Nat} {x1 : Int32} {a2 : Nat} {y0 : Int32} (h : fX0_layGround_j17 sd n S a0 x1 a2 y0 = some (S', r)) : Wp G sd (rmOf 0 0) 5 (Qm G sd none S') S 17 [(0, .ref (gA G a0)), (1, .int x1), (2, .ref (gA G a2))] [.int y0] := by
  unfold fX0_layGround_j17 at h
  refine wp_istore_n (pc := 17) C rfl [(3, .int y0), (0, .ref (gA G a0)), (1, .int x1), (2, .ref (gA G a2))] dX0_layGround_17 rfl (Nat.le_of_ble_eq_true rfl) rfl ?_
  refine wp_iconst (v := 0) (pc := 18) C dX0_layGround_18 (by decide) ?_
  refine wp_istore (pc := 19) C rfl [(4, .int 0), (3, .int y0), (0, .ref (gA G a0)), (1, .int x1), (2, .ref (gA G a2))] dX0_layGround_19 (Nat.le_of_ble_eq_true rfl) rfl ?_
  exact wp_sub C [2, 3, 4, 1, 0] rfl (wX0_layGround_l21 C _ _ _ _ _ _ _ h)
def fX0_layGround (sd : Sd) (n : Nat) (S : St) (a0 : Nat) (x1 : Int32) (a2 : Nat) : Option (St × Unit) :=
  gd (isK sd a0 0) (
  if (S.1 a0 13) = 0 then
    fX0_layGround_j17 sd n S a0 x1 a2 (S.1 a0 10)
  else
    fX0_layGround_j17 sd n S a0 x1 a2 1000)
set_option maxRecDepth 100000 in
set_option maxHeartbeats 4000000 in
theorem wX0_layGround {sd : Sd} (C : Cx G sd cX0_layGround 5 RX0 none) {n : Nat} {S S' : St} {r : Unit} {a0 : Nat} {x1 : Int32} {a2 : Nat} (h : fX0_layGround sd n S a0 x1 a2 = some (S', r)) : Wp G sd (rmOf 0 0) 5 (Qm G sd none S') S 0 [(0, .ref (gA G a0)), (1, .int x1), (2, .ref (gA G a2))] [] := by
  unfold fX0_layGround at h
  refine wp_aload_n (pc := 0) C 0 dX0_layGround_0 rfl rfl ?_
  obtain ⟨g1, h⟩ := gd_some h
  refine wp_getI (pc := 1) C flX0_66 rfl g1.1 g1.2 dX0_layGround_1 ?_
  refine wp_if_eq (pc := 4) C 13 dX0_layGround_4 (by decide) (fun q => ?_) (fun q => ?_)
  · have h := it_pos q h
    refine wp_aload_n (pc := 13) C 0 dX0_layGround_13 rfl rfl ?_
    refine wp_getI (pc := 14) C flX0_57 rfl g1.1 g1.2 dX0_layGround_14 ?_
    exact (wX0_layGround_j17 C h)
  · have h := it_neg q h
    refine wp_sipush (v := 1000) (pc := 7) C dX0_layGround_7 (by decide) ?_
    refine wp_goto (pc := 10) C 17 dX0_layGround_10 (by decide) ?_
    exact (wX0_layGround_j17 C h)
theorem CtX0_layGround {sd : Sd} {n : Nat} {S S' : St} {r : Unit} {a0 : Nat} {x1 : Int32} {a2 : Nat} (h : fX0_layGround sd n S a0 x1 a2 = some (S', r)) : Ct l sd cy ad D yX0_layGround cX0_layGround 5 none 0 0 [.ref (ad a0), .int x1, .ref (ad a2)] S none S' :=
  Ct_of (own := RX0) mX0_layGround rfl (Nat.le_of_ble_eq_true rfl) (fun G e1 e2 e3 e4 C => by subst e1 e2 e3 e4; exact wX0_layGround C h)
def fX0_addPart_j77 (sd : Sd) (n : Nat) (k25 : St → Nat → Nat → Nat → Nat → Nat → Int32 → Option (St × Unit)) (S : St) (a0 : Nat) (a3 : Nat) (a4 : Nat) (a5 : Nat) (a6 : Nat) (x7 : Int32) (b0 : Nat) (y1 : Int32) (y2 : Int32) : Option (St × Unit) :=
  gd (isK sd b0 13) (
  gd (ib y1 (sd.2.2.1 b0)) (
  bn (sI S b0 (Int32.toNatClampNeg y1) y2) (fun S3 : St =>
  bn (x7 + 1) (fun z4 : Int32 =>
  k25 S3 a0 a3 a4 a5 a6 z4))))
set_option maxRecDepth 100000 in
set_option maxHeartbeats 4000000 in
theorem wX0_addPart_j77 {sd : Sd} (C : Cx G sd cX0_addPart 8 RX0 none) {n : Nat} {k25 : St → Nat → Nat → Nat → Nat → Nat → Int32 → Option (St × Unit)} {S S' : St} {r : Unit} {a0 : Nat} {a3 : Nat} {a4 : Nat} {a5 : Nat} {a6 : Nat} {x7 : Int32} {b0 : Nat} {y1 : Int32} {y2 : Int32} (hk25 : ∀ (S : St) (a0 : Nat) (a3 : Nat) (a4 : Nat) (a5 : Nat) (a6 : Nat) (x7 : Int32), k25 S a0 a3 a4 a5 a6 x7 = some (S', r) → Wp G sd (rmOf 0 0) 8 (Qm G sd none S') S 25 [(0, .ref (gA G a0)), (3, .ref (gA G a3)), (4, .ref (gA G a4)), (5, .ref (gA G a5)), (6, .ref (gA G a6)), (7, .int x7)] []) (h : fX0_addPart_j77 sd n k25 S a0 a3 a4 a5 a6 x7 b0 y1 y2 = some (S', r)) : Wp G sd (rmOf 0 0) 8 (Qm G sd none S') S 77 [(0, .ref (gA G a0)), (3, .ref (gA G a3)), (4, .ref (gA G a4)), (5, .ref (gA G a5)), (6, .ref (gA G a6)), (7, .int x7)] [.int y2, .int y1, .ref (gA G b0)] := by
  unfold fX0_addPart_j77 at h
  obtain ⟨g1, h⟩ := gd_some h
  obtain ⟨g2, h⟩ := gd_some h
  obtain ⟨S3, eS3, h⟩ := bn_some h
  refine wp_iast (pc := 77) C eS3 g1.1 g1.2 g2 dX0_addPart_77 ?_
  obtain ⟨z4, ez4, h⟩ := bn_some h
  refine wp_iinc (q := 5) (pc := 78) C (by decide) ez4 [(7, .int z4), (0, .ref (gA G a0)), (3, .ref (gA G a3)), (4, .ref (gA G a4)), (5, .ref (gA G a5)), (6, .ref (gA G a6))] dX0_addPart_78 rfl (Nat.le_of_ble_eq_true rfl) rfl ?_
  refine wp_goto (pc := 81) C 25 dX0_addPart_81 (by decide) ?_
  exact wp_sub C [1, 2, 3, 4, 5, 0] rfl (hk25 _ _ _ _ _ _ _ h)
def fX0_addPart_l25 (sd : Sd) (n : Nat) : Nat → St → Nat → Nat → Nat → Nat → Nat → Int32 → Option (St × Unit)
  | 0, _, _, _, _, _, _, _ => none
  | j + 1, S, a0, a3, a4, a5, a6, x7 =>
    gd (isK sd a0 0) (
    if (S.1 a0 9) ≤ x7 then
      some (S, ())
    else
      if (S.1 a0 13) = 0 then
        gd (isK sd a3 13) (
        gd (ib x7 (sd.2.2.1 a3)) (
        gd (isK sd a5 13) (
        gd (ib x7 (sd.2.2.1 a5)) (
        gd (isK sd a6 13) (
        gd (ib x7 (sd.2.2.1 a6)) (
        fX0_addPart_j77 sd n (fX0_addPart_l25 sd n j) S a0 a3 a4 a5 a6 x7 a4 x7 (((S.1 a3 (Int32.toNatClampNeg x7)) + (S.1 a5 (Int32.toNatClampNeg x7))) - (S.1 a6 (Int32.toNatClampNeg x7)))))))))
      else
        gd (isK sd a3 13) (
        gd (ib x7 (sd.2.2.1 a3)) (
        gd (isK sd a5 13) (
        gd (ib x7 (sd.2.2.1 a5)) (
        fX0_addPart_j77 sd n (fX0_addPart_l25 sd n j) S a0 a3 a4 a5 a6 x7 a4 x7 (((S.1 a3 (Int32.toNatClampNeg x7)) * (S.1 a5 (Int32.toNatClampNeg x7))) / 100))))))
set_option maxRecDepth 100000 in
set_option maxHeartbeats 4000000 in
theorem wX0_addPart_l25 {sd : Sd} (C : Cx G sd cX0_addPart 8 RX0 none) {n : Nat} {S' : St} {r : Unit} : ∀ (j : Nat) (S : St) (a0 : Nat) (a3 : Nat) (a4 : Nat) (a5 : Nat) (a6 : Nat) (x7 : Int32), fX0_addPart_l25 sd n j S a0 a3 a4 a5 a6 x7 = some (S', r) → Wp G sd (rmOf 0 0) 8 (Qm G sd none S') S 25 [(0, .ref (gA G a0)), (3, .ref (gA G a3)), (4, .ref (gA G a4)), (5, .ref (gA G a5)), (6, .ref (gA G a6)), (7, .int x7)] [] := by
  intro j
  induction j with
  | zero =>
    intro S a0 a3 a4 a5 a6 x7 h
    exact nomatch (show (none : Option (St × Unit)) = some _ from h)
  | succ j ih =>
    intro S a0 a3 a4 a5 a6 x7 h
    rw [fX0_addPart_l25] at h
    refine wp_iload (pc := 25) C 5 dX0_addPart_25 rfl ?_
    refine wp_aload_n (pc := 27) C 0 dX0_addPart_27 rfl rfl ?_
    obtain ⟨g1, h⟩ := gd_some h
    refine wp_getI (pc := 28) C flX0_54 rfl g1.1 g1.2 dX0_addPart_28 ?_
    refine wp_icmp_ge (pc := 31) C 84 dX0_addPart_31 (by decide) (fun q => ?_) (fun q => ?_)
    · have h := it_pos q h
      exact rt_v C rfl h dX0_addPart_84
    · have h := it_neg q h
      refine wp_aload (pc := 34) C 2 dX0_addPart_34 rfl ?_
      refine wp_iload (pc := 36) C 5 dX0_addPart_36 rfl ?_
      refine wp_aload_n (pc := 38) C 0 dX0_addPart_38 rfl rfl ?_
      refine wp_getI (pc := 39) C flX0_66 rfl g1.1 g1.2 dX0_addPart_39 ?_
      refine wp_if_eq (pc := 42) C 61 dX0_addPart_42 (by decide) (fun q => ?_) (fun q => ?_)
      · have h := it_pos q h
        refine wp_aload_n (pc := 61) C 1 dX0_addPart_61 rfl rfl ?_
        refine wp_iload (pc := 62) C 5 dX0_addPart_62 rfl ?_
        obtain ⟨g2, h⟩ := gd_some h
        obtain ⟨g3, h⟩ := gd_some h
        refine wp_iald (pc := 64) C g2.1 g2.2 g3 dX0_addPart_64 ?_
        refine wp_aload (pc := 65) C 3 dX0_addPart_65 rfl ?_
        refine wp_iload (pc := 67) C 5 dX0_addPart_67 rfl ?_
        obtain ⟨g4, h⟩ := gd_some h
        obtain ⟨g5, h⟩ := gd_some h
        refine wp_iald (pc := 69) C g4.1 g4.2 g5 dX0_addPart_69 ?_
        refine wp_iadd (pc := 70) C dX0_addPart_70 ?_
        refine wp_aload (pc := 71) C 4 dX0_addPart_71 rfl ?_
        refine wp_iload (pc := 73) C 5 dX0_addPart_73 rfl ?_
        obtain ⟨g6, h⟩ := gd_some h
        obtain ⟨g7, h⟩ := gd_some h
        refine wp_iald (pc := 75) C g6.1 g6.2 g7 dX0_addPart_75 ?_
        refine wp_isub (pc := 76) C dX0_addPart_76 ?_
        exact (wX0_addPart_j77 C ih h)
      · have h := it_neg q h
        refine wp_aload_n (pc := 45) C 1 dX0_addPart_45 rfl rfl ?_
        refine wp_iload (pc := 46) C 5 dX0_addPart_46 rfl ?_
        obtain ⟨g8, h⟩ := gd_some h
        obtain ⟨g9, h⟩ := gd_some h
        refine wp_iald (pc := 48) C g8.1 g8.2 g9 dX0_addPart_48 ?_
        refine wp_aload (pc := 49) C 3 dX0_addPart_49 rfl ?_
        refine wp_iload (pc := 51) C 5 dX0_addPart_51 rfl ?_
        obtain ⟨g10, h⟩ := gd_some h
        obtain ⟨g11, h⟩ := gd_some h
        refine wp_iald (pc := 53) C g10.1 g10.2 g11 dX0_addPart_53 ?_
        refine wp_imul (pc := 54) C dX0_addPart_54 ?_
        refine wp_bipush (v := 100) (pc := 55) C dX0_addPart_55 (by decide) ?_
        refine wp_idiv (pc := 57) C dX0_addPart_57 (by decide) ?_
        refine wp_goto (pc := 58) C 77 dX0_addPart_58 (by decide) ?_
        exact (wX0_addPart_j77 C ih h)
def fX0_addPart (sd : Sd) (n : Nat) (S : St) (a0 : Nat) (x1 : Int32) (x2 : Int32) (a3 : Nat) (a4 : Nat) : Option (St × Unit) :=
  gd (isK sd a0 0) (
  gd (isK sd (sd.2.2.2 a0 0) 5) (
  gd (isK sd (sd.2.2.2 (sd.2.2.2 a0 0) 2) 17) (
  gd (ib x2 (sd.2.2.1 (sd.2.2.2 (sd.2.2.2 a0 0) 2))) (
  gd (isK sd (sd.2.2.2 (sd.2.2.2 (sd.2.2.2 a0 0) 2) (Int32.toNatClampNeg x2)) 13) (
  bn (sd.2.2.2 (sd.2.2.2 (sd.2.2.2 a0 0) 2) (Int32.toNatClampNeg x2)) (fun a6 : Nat =>
  gd (isK sd (sd.2.2.2 a0 1) 5) (
  gd (isK sd (sd.2.2.2 (sd.2.2.2 a0 1) 2) 17) (
  gd (ib x1 (sd.2.2.1 (sd.2.2.2 (sd.2.2.2 a0 1) 2))) (
  gd (isK sd (sd.2.2.2 (sd.2.2.2 (sd.2.2.2 a0 1) 2) (Int32.toNatClampNeg x1)) 13) (
  bn (sd.2.2.2 (sd.2.2.2 (sd.2.2.2 a0 1) 2) (Int32.toNatClampNeg x1)) (fun a11 : Nat =>
  fX0_addPart_l25 sd n n S a0 a3 a4 a6 a11 0)))))))))))
set_option maxRecDepth 100000 in
set_option maxHeartbeats 4000000 in
theorem wX0_addPart {sd : Sd} (C : Cx G sd cX0_addPart 8 RX0 none) {n : Nat} {S S' : St} {r : Unit} {a0 : Nat} {x1 : Int32} {x2 : Int32} {a3 : Nat} {a4 : Nat} (h : fX0_addPart sd n S a0 x1 x2 a3 a4 = some (S', r)) : Wp G sd (rmOf 0 0) 8 (Qm G sd none S') S 0 [(0, .ref (gA G a0)), (1, .int x1), (2, .int x2), (3, .ref (gA G a3)), (4, .ref (gA G a4))] [] := by
  unfold fX0_addPart at h
  refine wp_aload_n (pc := 0) C 0 dX0_addPart_0 rfl rfl ?_
  obtain ⟨g1, h⟩ := gd_some h
  obtain ⟨g2, h⟩ := gd_some h
  refine wp_getS (v := sd.2.2.2 a0 0) (pc := 1) C flX0_14 rfl rfl g2.1 g1.1 g1.2 dX0_addPart_1 ?_
  obtain ⟨g3, h⟩ := gd_some h
  refine wp_getS (v := sd.2.2.2 (sd.2.2.2 a0 0) 2) (pc := 4) C flX0_70 rfl rfl g3.1 g2.1 g2.2 dX0_addPart_4 ?_
  refine wp_iload_n (pc := 7) C 2 dX0_addPart_7 rfl rfl ?_
  obtain ⟨g4, h⟩ := gd_some h
  obtain ⟨g5, h⟩ := gd_some h
  refine wp_aald (t0 := 5) (pc := 8) C g3.1 g3.2 (by decide) rfl rfl g4 g5.1 dX0_addPart_8 ?_
  obtain ⟨a6, ea6, h⟩ := bn_some h
  refine wp_astore (pc := 9) C (congrArg (gA G) ea6) [(5, .ref (gA G a6)), (0, .ref (gA G a0)), (1, .int x1), (2, .int x2), (3, .ref (gA G a3)), (4, .ref (gA G a4))] dX0_addPart_9 (Nat.le_of_ble_eq_true rfl) rfl ?_
  refine wp_aload_n (pc := 11) C 1 dX0_addPart_11 rfl rfl ?_
  obtain ⟨g7, h⟩ := gd_some h
  refine wp_getS (v := sd.2.2.2 a0 1) (pc := 12) C flX0_20 rfl rfl g7.1 g1.1 g1.2 dX0_addPart_12 ?_
  obtain ⟨g8, h⟩ := gd_some h
  refine wp_getS (v := sd.2.2.2 (sd.2.2.2 a0 1) 2) (pc := 15) C flX0_70 rfl rfl g8.1 g7.1 g7.2 dX0_addPart_15 ?_
  refine wp_iload_n (pc := 18) C 2 dX0_addPart_18 rfl rfl ?_
  obtain ⟨g9, h⟩ := gd_some h
  obtain ⟨g10, h⟩ := gd_some h
  refine wp_aald (t0 := 5) (pc := 19) C g8.1 g8.2 (by decide) rfl rfl g9 g10.1 dX0_addPart_19 ?_
  obtain ⟨a11, ea11, h⟩ := bn_some h
  refine wp_astore (pc := 20) C (congrArg (gA G) ea11) [(6, .ref (gA G a11)), (5, .ref (gA G a6)), (0, .ref (gA G a0)), (1, .int x1), (2, .int x2), (3, .ref (gA G a3)), (4, .ref (gA G a4))] dX0_addPart_20 (Nat.le_of_ble_eq_true rfl) rfl ?_
  refine wp_iconst (v := 0) (pc := 22) C dX0_addPart_22 (by decide) ?_
  refine wp_istore (pc := 23) C rfl [(7, .int 0), (6, .ref (gA G a11)), (5, .ref (gA G a6)), (0, .ref (gA G a0)), (1, .int x1), (2, .int x2), (3, .ref (gA G a3)), (4, .ref (gA G a4))] dX0_addPart_23 (Nat.le_of_ble_eq_true rfl) rfl ?_
  exact wp_sub C [3, 6, 7, 2, 1, 0] rfl (wX0_addPart_l25 C _ _ _ _ _ _ _ _ h)
theorem CtX0_addPart {sd : Sd} {n : Nat} {S S' : St} {r : Unit} {a0 : Nat} {x1 : Int32} {x2 : Int32} {a3 : Nat} {a4 : Nat} (h : fX0_addPart sd n S a0 x1 x2 a3 a4 = some (S', r)) : Ct l sd cy ad D yX0_addPart cX0_addPart 8 none 0 0 [.ref (ad a0), .int x1, .int x2, .ref (ad a3), .ref (ad a4)] S none S' :=
  Ct_of (own := RX0) mX0_addPart rfl (Nat.le_of_ble_eq_true rfl) (fun G e1 e2 e3 e4 C => by subst e1 e2 e3 e4; exact wX0_addPart C h)
def fX0_settle_l41 (sd : Sd) (n : Nat) : Nat → St → Nat → Nat → Nat → Int32 → Int32 → Int32 → Option (St × Unit)
  | 0, _, _, _, _, _, _, _ => none
  | j + 1, S, a0, a1, a2, x3, x4, x5 =>
    gd (isK sd a0 0) (
    if (S.1 a0 9) ≤ x5 then
      some (S, ())
    else
      gd (isK sd a1 13) (
      gd (ib x5 (sd.2.2.1 a1)) (
      gd (¬ x3 = 0) (
      gd (isK sd a2 13) (
      gd (ib x5 (sd.2.2.1 a2)) (
      bn (sI S a2 (Int32.toNatClampNeg x5) (((S.1 a1 (Int32.toNatClampNeg x5)) * x4) / x3)) (fun S7 : St =>
      bn (x5 + 1) (fun z8 : Int32 =>
      fX0_settle_l41 sd n j S7 a0 a1 a2 x3 x4 z8))))))))
set_option maxRecDepth 100000 in
set_option maxHeartbeats 4000000 in
theorem wX0_settle_l41 {sd : Sd} (C : Cx G sd cX0_settle 6 RX0 none) {n : Nat} {S' : St} {r : Unit} : ∀ (j : Nat) (S : St) (a0 : Nat) (a1 : Nat) (a2 : Nat) (x3 : Int32) (x4 : Int32) (x5 : Int32), fX0_settle_l41 sd n j S a0 a1 a2 x3 x4 x5 = some (S', r) → Wp G sd (rmOf 0 0) 6 (Qm G sd none S') S 41 [(0, .ref (gA G a0)), (1, .ref (gA G a1)), (2, .ref (gA G a2)), (3, .int x3), (4, .int x4), (5, .int x5)] [] := by
  intro j
  induction j with
  | zero =>
    intro S a0 a1 a2 x3 x4 x5 h
    exact nomatch (show (none : Option (St × Unit)) = some _ from h)
  | succ j ih =>
    intro S a0 a1 a2 x3 x4 x5 h
    rw [fX0_settle_l41] at h
    refine wp_iload (pc := 41) C 5 dX0_settle_41 rfl ?_
    refine wp_aload_n (pc := 43) C 0 dX0_settle_43 rfl rfl ?_
    obtain ⟨g1, h⟩ := gd_some h
    refine wp_getI (pc := 44) C flX0_54 rfl g1.1 g1.2 dX0_settle_44 ?_
    refine wp_icmp_ge (pc := 47) C 69 dX0_settle_47 (by decide) (fun q => ?_) (fun q => ?_)
    · have h := it_pos q h
      exact rt_v C rfl h dX0_settle_69
    · have h := it_neg q h
      refine wp_aload_n (pc := 50) C 2 dX0_settle_50 rfl rfl ?_
      refine wp_iload (pc := 51) C 5 dX0_settle_51 rfl ?_
      refine wp_aload_n (pc := 53) C 1 dX0_settle_53 rfl rfl ?_
      refine wp_iload (pc := 54) C 5 dX0_settle_54 rfl ?_
      obtain ⟨g2, h⟩ := gd_some h
      obtain ⟨g3, h⟩ := gd_some h
      refine wp_iald (pc := 56) C g2.1 g2.2 g3 dX0_settle_56 ?_
      refine wp_iload (pc := 57) C 4 dX0_settle_57 rfl ?_
      refine wp_imul (pc := 59) C dX0_settle_59 ?_
      refine wp_iload_n (pc := 60) C 3 dX0_settle_60 rfl rfl ?_
      obtain ⟨g4, h⟩ := gd_some h
      refine wp_idiv (pc := 61) C dX0_settle_61 g4 ?_
      obtain ⟨g5, h⟩ := gd_some h
      obtain ⟨g6, h⟩ := gd_some h
      obtain ⟨S7, eS7, h⟩ := bn_some h
      refine wp_iast (pc := 62) C eS7 g5.1 g5.2 g6 dX0_settle_62 ?_
      obtain ⟨z8, ez8, h⟩ := bn_some h
      refine wp_iinc (q := 5) (pc := 63) C (by decide) ez8 [(5, .int z8), (0, .ref (gA G a0)), (1, .ref (gA G a1)), (2, .ref (gA G a2)), (3, .int x3), (4, .int x4)] dX0_settle_63 rfl (Nat.le_of_ble_eq_true rfl) rfl ?_
      refine wp_goto (pc := 66) C 41 dX0_settle_66 (by decide) ?_
      exact wp_sub C [1, 2, 3, 4, 5, 0] rfl (ih _ _ _ _ _ _ _ h)
def fX0_settle_j30 (sd : Sd) (n : Nat) (S : St) (a0 : Nat) (a1 : Nat) (a2 : Nat) (x3 : Int32) (y0 : Int32) : Option (St × Unit) :=
  if 1 ≤ x3 then
    fX0_settle_l41 sd n n S a0 a1 a2 x3 y0 0
  else
    some (S, ())
set_option maxRecDepth 100000 in
set_option maxHeartbeats 4000000 in
theorem wX0_settle_j30 {sd : Sd} (C : Cx G sd cX0_settle 6 RX0 none) {n : Nat} {S S' : St} {r : Unit} {a0 : Nat} {a1 : Nat} {a2 : Nat} {x3 : Int32} {y0 : Int32} (h : fX0_settle_j30 sd n S a0 a1 a2 x3 y0 = some (S', r)) : Wp G sd (rmOf 0 0) 6 (Qm G sd none S') S 30 [(0, .ref (gA G a0)), (1, .ref (gA G a1)), (2, .ref (gA G a2)), (3, .int x3)] [.int y0] := by
  unfold fX0_settle_j30 at h
  refine wp_istore (pc := 30) C rfl [(4, .int y0), (0, .ref (gA G a0)), (1, .ref (gA G a1)), (2, .ref (gA G a2)), (3, .int x3)] dX0_settle_30 (Nat.le_of_ble_eq_true rfl) rfl ?_
  refine wp_iload_n (pc := 32) C 4 dX0_settle_32 rfl rfl ?_
  refine wp_iconst (v := 1) (pc := 33) C dX0_settle_33 (by decide) ?_
  refine wp_icmp_ge (pc := 34) C 38 dX0_settle_34 (by decide) (fun q => ?_) (fun q => ?_)
  · have h := it_pos q h
    refine wp_iconst (v := 0) (pc := 38) C dX0_settle_38 (by decide) ?_
    refine wp_istore (pc := 39) C rfl [(5, .int 0), (4, .int y0), (0, .ref (gA G a0)), (1, .ref (gA G a1)), (2, .ref (gA G a2)), (3, .int x3)] dX0_settle_39 (Nat.le_of_ble_eq_true rfl) rfl ?_
    exact wp_sub C [2, 3, 4, 5, 1, 0] rfl (wX0_settle_l41 C _ _ _ _ _ _ _ _ h)
  · have h := it_neg q h
    exact rt_v C rfl h dX0_settle_37
def fX0_settle_j15 (sd : Sd) (n : Nat) (S : St) (a0 : Nat) (a1 : Nat) (a2 : Nat) (y0 : Int32) : Option (St × Unit) :=
  gd (isK sd a0 0) (
  if (S.1 a0 13) = 0 then
    fX0_settle_j30 sd n S a0 a1 a2 y0 1000
  else
    fX0_settle_j30 sd n S a0 a1 a2 y0 1)
set_option maxRecDepth 100000 in
set_option maxHeartbeats 4000000 in
theorem wX0_settle_j15 {sd : Sd} (C : Cx G sd cX0_settle 6 RX0 none) {n : Nat} {S S' : St} {r : Unit} {a0 : Nat} {a1 : Nat} {a2 : Nat} {y0 : Int32} (h : fX0_settle_j15 sd n S a0 a1 a2 y0 = some (S', r)) : Wp G sd (rmOf 0 0) 6 (Qm G sd none S') S 15 [(0, .ref (gA G a0)), (1, .ref (gA G a1)), (2, .ref (gA G a2))] [.int y0] := by
  unfold fX0_settle_j15 at h
  refine wp_istore_n (pc := 15) C rfl [(3, .int y0), (0, .ref (gA G a0)), (1, .ref (gA G a1)), (2, .ref (gA G a2))] dX0_settle_15 rfl (Nat.le_of_ble_eq_true rfl) rfl ?_
  refine wp_aload_n (pc := 16) C 1 dX0_settle_16 rfl rfl ?_
  obtain ⟨g1, h⟩ := gd_some h
  refine wp_getI (pc := 17) C flX0_66 rfl g1.1 g1.2 dX0_settle_17 ?_
  refine wp_if_eq (pc := 20) C 27 dX0_settle_20 (by decide) (fun q => ?_) (fun q => ?_)
  · have h := it_pos q h
    refine wp_sipush (v := 1000) (pc := 27) C dX0_settle_27 (by decide) ?_
    exact wp_sub C [1, 2, 3, 0] rfl (wX0_settle_j30 C h)
  · have h := it_neg q h
    refine wp_iconst (v := 1) (pc := 23) C dX0_settle_23 (by decide) ?_
    refine wp_goto (pc := 24) C 30 dX0_settle_24 (by decide) ?_
    exact wp_sub C [1, 2, 3, 0] rfl (wX0_settle_j30 C h)
def fX0_settle (sd : Sd) (n : Nat) (S : St) (a0 : Nat) (a1 : Nat) (a2 : Nat) : Option (St × Unit) :=
  gd (isK sd a0 0) (
  if (S.1 a0 13) = 0 then
    fX0_settle_j15 sd n S a0 a1 a2 (S.1 a0 10)
  else
    fX0_settle_j15 sd n S a0 a1 a2 1)
set_option maxRecDepth 100000 in
set_option maxHeartbeats 4000000 in
theorem wX0_settle {sd : Sd} (C : Cx G sd cX0_settle 6 RX0 none) {n : Nat} {S S' : St} {r : Unit} {a0 : Nat} {a1 : Nat} {a2 : Nat} (h : fX0_settle sd n S a0 a1 a2 = some (S', r)) : Wp G sd (rmOf 0 0) 6 (Qm G sd none S') S 0 [(0, .ref (gA G a0)), (1, .ref (gA G a1)), (2, .ref (gA G a2))] [] := by
  unfold fX0_settle at h
  refine wp_aload_n (pc := 0) C 0 dX0_settle_0 rfl rfl ?_
  obtain ⟨g1, h⟩ := gd_some h
  refine wp_getI (pc := 1) C flX0_66 rfl g1.1 g1.2 dX0_settle_1 ?_
  refine wp_if_eq (pc := 4) C 11 dX0_settle_4 (by decide) (fun q => ?_) (fun q => ?_)
  · have h := it_pos q h
    refine wp_aload_n (pc := 11) C 0 dX0_settle_11 rfl rfl ?_
    refine wp_getI (pc := 12) C flX0_57 rfl g1.1 g1.2 dX0_settle_12 ?_
    exact (wX0_settle_j15 C h)
  · have h := it_neg q h
    refine wp_iconst (v := 1) (pc := 7) C dX0_settle_7 (by decide) ?_
    refine wp_goto (pc := 8) C 15 dX0_settle_8 (by decide) ?_
    exact (wX0_settle_j15 C h)
theorem CtX0_settle {sd : Sd} {n : Nat} {S S' : St} {r : Unit} {a0 : Nat} {a1 : Nat} {a2 : Nat} (h : fX0_settle sd n S a0 a1 a2 = some (S', r)) : Ct l sd cy ad D yX0_settle cX0_settle 6 none 0 0 [.ref (ad a0), .ref (ad a1), .ref (ad a2)] S none S' :=
  Ct_of (own := RX0) mX0_settle rfl (Nat.le_of_ble_eq_true rfl) (fun G e1 e2 e3 e4 C => by subst e1 e2 e3 e4; exact wX0_settle C h)
def fX0_throwBack_j54 (sd : Sd) (n : Nat) (S : St) (a0 : Nat) (a3 : Nat) : Option (St × Unit) :=
  gd (isK sd a0 0) (
  bd (fX0_settle sd n S a0 a3 a3) (fun S2 r3 =>
  some (S2, ())))
set_option maxRecDepth 100000 in
set_option maxHeartbeats 4000000 in
theorem wX0_throwBack_j54 {sd : Sd} (C : Cx G sd cX0_throwBack 6 RX0 none) {n : Nat} {S S' : St} {r : Unit} {a0 : Nat} {a3 : Nat} (h : fX0_throwBack_j54 sd n S a0 a3 = some (S', r)) : Wp G sd (rmOf 1 27) 6 (Qm G sd none S') S 54 [(0, .ref (gA G a0)), (3, .ref (gA G a3))] [] := by
  unfold fX0_throwBack_j54 at h
  refine wp_aload_n (pc := 54) C 0 dX0_throwBack_54 rfl rfl ?_
  refine wp_aload_n (pc := 55) C 1 dX0_throwBack_55 rfl rfl ?_
  refine wp_aload_n (pc := 56) C 1 dX0_throwBack_56 rfl rfl ?_
  obtain ⟨g1, h⟩ := gd_some h
  obtain ⟨S2, r3, cS2, h⟩ := bd_some h
  refine wp_callVv (As := [.ref (gA G a3), .ref (gA G a3)]) (st := []) (pc := 57) C (CtX0_settle cS2) mX0_settle iX0_settle kX0_81 g1.1 g1.2 (by decide) rfl rfl rfl rfl (Nat.le_of_ble_eq_true rfl) ⟨Nat.le_of_ble_eq_true rfl, Nat.le_of_ble_eq_true rfl⟩ dX0_throwBack_57 ?_
  exact rt_v C rfl h dX0_throwBack_60
def fX0_throwBack_j48 (sd : Sd) (n : Nat) (k9 : St → Nat → Int32 → Nat → Nat → Int32 → Option (St × Unit)) (S : St) (a0 : Nat) (x1 : Int32) (a2 : Nat) (a3 : Nat) (x4 : Int32) : Option (St × Unit) :=
  bn (x4 + 1) (fun z1 : Int32 =>
  k9 S a0 x1 a2 a3 z1)
set_option maxRecDepth 100000 in
set_option maxHeartbeats 4000000 in
theorem wX0_throwBack_j48 {sd : Sd} (C : Cx G sd cX0_throwBack 6 RX0 none) {n : Nat} {k9 : St → Nat → Int32 → Nat → Nat → Int32 → Option (St × Unit)} {S S' : St} {r : Unit} {a0 : Nat} {x1 : Int32} {a2 : Nat} {a3 : Nat} {x4 : Int32} (hk9 : ∀ (S : St) (a0 : Nat) (x1 : Int32) (a2 : Nat) (a3 : Nat) (x4 : Int32), k9 S a0 x1 a2 a3 x4 = some (S', r) → Wp G sd (rmOf 1 27) 6 (Qm G sd none S') S 9 [(0, .ref (gA G a0)), (1, .int x1), (2, .ref (gA G a2)), (3, .ref (gA G a3)), (4, .int x4)] []) (h : fX0_throwBack_j48 sd n k9 S a0 x1 a2 a3 x4 = some (S', r)) : Wp G sd (rmOf 1 27) 6 (Qm G sd none S') S 48 [(0, .ref (gA G a0)), (1, .int x1), (2, .ref (gA G a2)), (3, .ref (gA G a3)), (4, .int x4)] [] := by
  unfold fX0_throwBack_j48 at h
  obtain ⟨z1, ez1, h⟩ := bn_some h
  refine wp_iinc (q := 4) (pc := 48) C (by decide) ez1 [(4, .int z1), (0, .ref (gA G a0)), (1, .int x1), (2, .ref (gA G a2)), (3, .ref (gA G a3))] dX0_throwBack_48 rfl (Nat.le_of_ble_eq_true rfl) rfl ?_
  refine wp_goto (pc := 51) C 9 dX0_throwBack_51 (by decide) ?_
  exact wp_sub C [1, 2, 3, 4, 0] rfl (hk9 _ _ _ _ _ _ h)
def fX0_throwBack_l24 (sd : Sd) (n : Nat) (k9 : St → Nat → Int32 → Nat → Nat → Int32 → Option (St × Unit)) : Nat → St → Nat → Int32 → Nat → Nat → Int32 → Int32 → Option (St × Unit)
  | 0, _, _, _, _, _, _, _ => none
  | j + 1, S, a0, x1, a2, a3, x4, x5 =>
    gd (isK sd a2 13) (
    gd (ib x4 (sd.2.2.1 a2)) (
    if (S.1 a2 (Int32.toNatClampNeg x4)) ≤ x5 then
      fX0_throwBack_j48 sd n k9 S a0 x1 a2 a3 x4
    else
      gd (isK sd a0 0) (
      bd (fX0_addPart sd n S a0 x1 x4 a3 a3) (fun S4 r5 =>
      bn (x5 + 1) (fun z6 : Int32 =>
      fX0_throwBack_l24 sd n k9 j S4 a0 x1 a2 a3 x4 z6)))))
set_option maxRecDepth 100000 in
set_option maxHeartbeats 4000000 in
theorem wX0_throwBack_l24 {sd : Sd} (C : Cx G sd cX0_throwBack 6 RX0 none) {n : Nat} {k9 : St → Nat → Int32 → Nat → Nat → Int32 → Option (St × Unit)} {S' : St} {r : Unit} (hk9 : ∀ (S : St) (a0 : Nat) (x1 : Int32) (a2 : Nat) (a3 : Nat) (x4 : Int32), k9 S a0 x1 a2 a3 x4 = some (S', r) → Wp G sd (rmOf 1 27) 6 (Qm G sd none S') S 9 [(0, .ref (gA G a0)), (1, .int x1), (2, .ref (gA G a2)), (3, .ref (gA G a3)), (4, .int x4)] []) : ∀ (j : Nat) (S : St) (a0 : Nat) (x1 : Int32) (a2 : Nat) (a3 : Nat) (x4 : Int32) (x5 : Int32), fX0_throwBack_l24 sd n k9 j S a0 x1 a2 a3 x4 x5 = some (S', r) → Wp G sd (rmOf 1 27) 6 (Qm G sd none S') S 24 [(0, .ref (gA G a0)), (1, .int x1), (2, .ref (gA G a2)), (3, .ref (gA G a3)), (4, .int x4), (5, .int x5)] [] := by
  intro j
  induction j with
  | zero =>
    intro S a0 x1 a2 a3 x4 x5 h
    exact nomatch (show (none : Option (St × Unit)) = some _ from h)
  | succ j ih =>
    intro S a0 x1 a2 a3 x4 x5 h
    rw [fX0_throwBack_l24] at h
    refine wp_iload (pc := 24) C 5 dX0_throwBack_24 rfl ?_
    refine wp_aload_n (pc := 26) C 2 dX0_throwBack_26 rfl rfl ?_
    refine wp_iload (pc := 27) C 4 dX0_throwBack_27 rfl ?_
    obtain ⟨g1, h⟩ := gd_some h
    obtain ⟨g2, h⟩ := gd_some h
    refine wp_iald (pc := 29) C g1.1 g1.2 g2 dX0_throwBack_29 ?_
    refine wp_icmp_ge (pc := 30) C 48 dX0_throwBack_30 (by decide) (fun q => ?_) (fun q => ?_)
    · have h := it_pos q h
      exact wp_sub C [0, 1, 2, 3, 4] rfl (wX0_throwBack_j48 C hk9 h)
    · have h := it_neg q h
      refine wp_aload_n (pc := 33) C 0 dX0_throwBack_33 rfl rfl ?_
      refine wp_iload_n (pc := 34) C 1 dX0_throwBack_34 rfl rfl ?_
      refine wp_iload (pc := 35) C 4 dX0_throwBack_35 rfl ?_
      refine wp_aload_n (pc := 37) C 3 dX0_throwBack_37 rfl rfl ?_
      refine wp_aload_n (pc := 38) C 3 dX0_throwBack_38 rfl rfl ?_
      obtain ⟨g3, h⟩ := gd_some h
      obtain ⟨S4, r5, cS4, h⟩ := bd_some h
      refine wp_callVv (As := [.int x1, .int x4, .ref (gA G a3), .ref (gA G a3)]) (st := []) (pc := 39) C (CtX0_addPart cS4) mX0_addPart iX0_addPart kX0_77 g3.1 g3.2 (by decide) rfl rfl rfl rfl (Nat.le_of_ble_eq_true rfl) ⟨Nat.le_of_ble_eq_true rfl, Nat.le_of_ble_eq_true rfl⟩ dX0_throwBack_39 ?_
      obtain ⟨z6, ez6, h⟩ := bn_some h
      refine wp_iinc (q := 5) (pc := 42) C (by decide) ez6 [(5, .int z6), (0, .ref (gA G a0)), (1, .int x1), (2, .ref (gA G a2)), (3, .ref (gA G a3)), (4, .int x4)] dX0_throwBack_42 rfl (Nat.le_of_ble_eq_true rfl) rfl ?_
      refine wp_goto (pc := 45) C 24 dX0_throwBack_45 (by decide) ?_
      exact wp_sub C [1, 2, 3, 4, 5, 0] rfl (ih _ _ _ _ _ _ _ h)
def fX0_throwBack_l9 (sd : Sd) (n : Nat) : Nat → St → Nat → Int32 → Nat → Nat → Int32 → Option (St × Unit)
  | 0, _, _, _, _, _, _ => none
  | j + 1, S, a0, x1, a2, a3, x4 =>
    gd (isK sd a0 0) (
    gd (isK sd (sd.2.2.2 a0 0) 5) (
    if (S.1 (sd.2.2.2 a0 0) 3) ≤ x4 then
      fX0_throwBack_j54 sd n S a0 a3
    else
      fX0_throwBack_l24 sd n (fX0_throwBack_l9 sd n j) n S a0 x1 a2 a3 x4 0))
set_option maxRecDepth 100000 in
set_option maxHeartbeats 4000000 in
theorem wX0_throwBack_l9 {sd : Sd} (C : Cx G sd cX0_throwBack 6 RX0 none) {n : Nat} {S' : St} {r : Unit} : ∀ (j : Nat) (S : St) (a0 : Nat) (x1 : Int32) (a2 : Nat) (a3 : Nat) (x4 : Int32), fX0_throwBack_l9 sd n j S a0 x1 a2 a3 x4 = some (S', r) → Wp G sd (rmOf 1 27) 6 (Qm G sd none S') S 9 [(0, .ref (gA G a0)), (1, .int x1), (2, .ref (gA G a2)), (3, .ref (gA G a3)), (4, .int x4)] [] := by
  intro j
  induction j with
  | zero =>
    intro S a0 x1 a2 a3 x4 h
    exact nomatch (show (none : Option (St × Unit)) = some _ from h)
  | succ j ih =>
    intro S a0 x1 a2 a3 x4 h
    rw [fX0_throwBack_l9] at h
    refine wp_iload (pc := 9) C 4 dX0_throwBack_9 rfl ?_
    refine wp_aload_n (pc := 11) C 0 dX0_throwBack_11 rfl rfl ?_
    obtain ⟨g1, h⟩ := gd_some h
    obtain ⟨g2, h⟩ := gd_some h
    refine wp_getS (v := sd.2.2.2 a0 0) (pc := 12) C flX0_14 rfl rfl g2.1 g1.1 g1.2 dX0_throwBack_12 ?_
    refine wp_getI (pc := 15) C flX0_50 rfl g2.1 g2.2 dX0_throwBack_15 ?_
    refine wp_icmp_ge (pc := 18) C 54 dX0_throwBack_18 (by decide) (fun q => ?_) (fun q => ?_)
    · have h := it_pos q h
      exact wp_sub C [0, 3] rfl (wX0_throwBack_j54 C h)
    · have h := it_neg q h
      refine wp_iconst (v := 0) (pc := 21) C dX0_throwBack_21 (by decide) ?_
      refine wp_istore (pc := 22) C rfl [(5, .int 0), (0, .ref (gA G a0)), (1, .int x1), (2, .ref (gA G a2)), (3, .ref (gA G a3)), (4, .int x4)] dX0_throwBack_22 (Nat.le_of_ble_eq_true rfl) rfl ?_
      exact wp_sub C [1, 2, 3, 4, 5, 0] rfl (wX0_throwBack_l24 C ih _ _ _ _ _ _ _ _ h)
def fX0_throwBack (sd : Sd) (n : Nat) (S : St) (a0 : Nat) (x1 : Int32) (a2 : Nat) (a3 : Nat) : Option (St × Unit) :=
  gd (isK sd a0 0) (
  bd (fX0_layGround sd n S a0 x1 a3) (fun S2 r3 =>
  fX0_throwBack_l9 sd n n S2 a0 x1 a2 a3 0))
set_option maxRecDepth 100000 in
set_option maxHeartbeats 4000000 in
theorem wX0_throwBack {sd : Sd} (C : Cx G sd cX0_throwBack 6 RX0 none) {n : Nat} {S S' : St} {r : Unit} {a0 : Nat} {x1 : Int32} {a2 : Nat} {a3 : Nat} (h : fX0_throwBack sd n S a0 x1 a2 a3 = some (S', r)) : Wp G sd (rmOf 1 27) 6 (Qm G sd none S') S 0 [(0, .ref (gA G a0)), (1, .int x1), (2, .ref (gA G a2)), (3, .ref (gA G a3))] [] := by
  unfold fX0_throwBack at h
  refine wp_aload_n (pc := 0) C 0 dX0_throwBack_0 rfl rfl ?_
  refine wp_iload_n (pc := 1) C 1 dX0_throwBack_1 rfl rfl ?_
  refine wp_aload_n (pc := 2) C 3 dX0_throwBack_2 rfl rfl ?_
  obtain ⟨g1, h⟩ := gd_some h
  obtain ⟨S2, r3, cS2, h⟩ := bd_some h
  refine wp_callVv (As := [.int x1, .ref (gA G a3)]) (st := []) (pc := 3) C (CtX0_layGround cS2) mX0_layGround iX0_layGround kX0_73 g1.1 g1.2 (by decide) rfl rfl rfl rfl (Nat.le_of_ble_eq_true rfl) ⟨Nat.le_of_ble_eq_true rfl, Nat.le_of_ble_eq_true rfl⟩ dX0_throwBack_3 ?_
  refine wp_iconst (v := 0) (pc := 6) C dX0_throwBack_6 (by decide) ?_
  refine wp_istore (pc := 7) C rfl [(4, .int 0), (0, .ref (gA G a0)), (1, .int x1), (2, .ref (gA G a2)), (3, .ref (gA G a3))] dX0_throwBack_7 (Nat.le_of_ble_eq_true rfl) rfl ?_
  exact wp_sub C [1, 2, 3, 4, 0] rfl (wX0_throwBack_l9 C _ _ _ _ _ _ _ h)
theorem CtX0_throwBack {sd : Sd} {n : Nat} {S S' : St} {r : Unit} {a0 : Nat} {x1 : Int32} {a2 : Nat} {a3 : Nat} (h : fX0_throwBack sd n S a0 x1 a2 a3 = some (S', r)) : Ct l sd cy ad D yX0_throwBack cX0_throwBack 6 none 1 27 [.ref (ad a0), .int x1, .ref (ad a2), .ref (ad a3)] S none S' :=
  Ct_of (own := RX0) mX0_throwBack rfl (Nat.le_of_ble_eq_true rfl) (fun G e1 e2 e3 e4 C => by subst e1 e2 e3 e4; exact wX0_throwBack C h)
def fX0_seenOf_l18 (sd : Sd) (n : Nat) : Nat → St → Nat → Nat → Nat → Int64 → Int32 → Option (St × Int64)
  | 0, _, _, _, _, _, _ => none
  | j + 1, S, a0, a1, a4, x5, x7 =>
    gd (isK sd a0 0) (
    if (S.1 a0 9) ≤ x7 then
      some (S, x5)
    else
      gd (isK sd a1 13) (
      gd (ib x7 (sd.2.2.1 a1)) (
      gd (isK sd a4 13) (
      gd (ib x7 (sd.2.2.1 a4)) (
      bn (x5 + ((((S.1 a1 (Int32.toNatClampNeg x7)) : Int32).toInt64) * (((S.1 a4 (Int32.toNatClampNeg x7)) : Int32).toInt64))) (fun z6 : Int64 =>
      bn (x7 + 1) (fun z7 : Int32 =>
      fX0_seenOf_l18 sd n j S a0 a1 a4 z6 z7)))))))
set_option maxRecDepth 100000 in
set_option maxHeartbeats 4000000 in
theorem wX0_seenOf_l18 {sd : Sd} (C : Cx G sd cX0_seenOf 8 RX0 (some .long)) {n : Nat} {S' : St} {r : Int64} : ∀ (j : Nat) (S : St) (a0 : Nat) (a1 : Nat) (a4 : Nat) (x5 : Int64) (x7 : Int32), fX0_seenOf_l18 sd n j S a0 a1 a4 x5 x7 = some (S', r) → Wp G sd (rmOf 0 0) 8 (Qm G sd (some (.long r)) S') S 18 [(0, .ref (gA G a0)), (1, .ref (gA G a1)), (4, .ref (gA G a4)), (5, .long x5), (7, .int x7)] [] := by
  intro j
  induction j with
  | zero =>
    intro S a0 a1 a4 x5 x7 h
    exact nomatch (show (none : Option (St × Int64)) = some _ from h)
  | succ j ih =>
    intro S a0 a1 a4 x5 x7 h
    rw [fX0_seenOf_l18] at h
    refine wp_iload (pc := 18) C 4 dX0_seenOf_18 rfl ?_
    refine wp_aload_n (pc := 20) C 0 dX0_seenOf_20 rfl rfl ?_
    obtain ⟨g1, h⟩ := gd_some h
    refine wp_getI (pc := 21) C flX0_54 rfl g1.1 g1.2 dX0_seenOf_21 ?_
    refine wp_icmp_ge (pc := 24) C 50 dX0_seenOf_24 (by decide) (fun q => ?_) (fun q => ?_)
    · have h := it_pos q h
      refine wp_lload (pc := 50) C 3 dX0_seenOf_50 rfl ?_
      exact rt_l C rfl h dX0_seenOf_52
    · have h := it_neg q h
      refine wp_lload (pc := 27) C 3 dX0_seenOf_27 rfl ?_
      refine wp_aload_n (pc := 29) C 1 dX0_seenOf_29 rfl rfl ?_
      refine wp_iload (pc := 30) C 4 dX0_seenOf_30 rfl ?_
      obtain ⟨g2, h⟩ := gd_some h
      obtain ⟨g3, h⟩ := gd_some h
      refine wp_iald (pc := 32) C g2.1 g2.2 g3 dX0_seenOf_32 ?_
      refine wp_i2l (pc := 33) C dX0_seenOf_33 ?_
      refine wp_aload (pc := 34) C 2 dX0_seenOf_34 rfl ?_
      refine wp_iload (pc := 36) C 4 dX0_seenOf_36 rfl ?_
      obtain ⟨g4, h⟩ := gd_some h
      obtain ⟨g5, h⟩ := gd_some h
      refine wp_iald (pc := 38) C g4.1 g4.2 g5 dX0_seenOf_38 ?_
      refine wp_i2l (pc := 39) C dX0_seenOf_39 ?_
      refine wp_lmul (pc := 40) C dX0_seenOf_40 ?_
      refine wp_ladd (pc := 41) C dX0_seenOf_41 ?_
      obtain ⟨z6, ez6, h⟩ := bn_some h
      refine wp_lstore (pc := 42) C ez6 [(5, .long z6), (0, .ref (gA G a0)), (1, .ref (gA G a1)), (4, .ref (gA G a4)), (7, .int x7)] dX0_seenOf_42 (Nat.le_of_ble_eq_true rfl) rfl ?_
      obtain ⟨z7, ez7, h⟩ := bn_some h
      refine wp_iinc (q := 4) (pc := 44) C (by decide) ez7 [(7, .int z7), (5, .long z6), (0, .ref (gA G a0)), (1, .ref (gA G a1)), (4, .ref (gA G a4))] dX0_seenOf_44 rfl (Nat.le_of_ble_eq_true rfl) rfl ?_
      refine wp_goto (pc := 47) C 18 dX0_seenOf_47 (by decide) ?_
      exact wp_sub C [2, 3, 4, 1, 0] rfl (ih _ _ _ _ _ _ h)
def fX0_seenOf (sd : Sd) (n : Nat) (S : St) (a0 : Nat) (a1 : Nat) (x2 : Int32) (x3 : Int32) : Option (St × Int64) :=
  gd (isK sd a0 0) (
  gd (isK sd (sd.2.2.2 a0 8) 17) (
  gd (ib ((x2 * 4) + x3) (sd.2.2.1 (sd.2.2.2 a0 8))) (
  gd (isK sd (sd.2.2.2 (sd.2.2.2 a0 8) (Int32.toNatClampNeg ((x2 * 4) + x3))) 13) (
  bn (sd.2.2.2 (sd.2.2.2 a0 8) (Int32.toNatClampNeg ((x2 * 4) + x3))) (fun a5 : Nat =>
  fX0_seenOf_l18 sd n n S a0 a1 a5 0 0)))))
set_option maxRecDepth 100000 in
set_option maxHeartbeats 4000000 in
theorem wX0_seenOf {sd : Sd} (C : Cx G sd cX0_seenOf 8 RX0 (some .long)) {n : Nat} {S S' : St} {r : Int64} {a0 : Nat} {a1 : Nat} {x2 : Int32} {x3 : Int32} (h : fX0_seenOf sd n S a0 a1 x2 x3 = some (S', r)) : Wp G sd (rmOf 0 0) 8 (Qm G sd (some (.long r)) S') S 0 [(0, .ref (gA G a0)), (1, .ref (gA G a1)), (2, .int x2), (3, .int x3)] [] := by
  unfold fX0_seenOf at h
  refine wp_aload_n (pc := 0) C 0 dX0_seenOf_0 rfl rfl ?_
  obtain ⟨g1, h⟩ := gd_some h
  obtain ⟨g2, h⟩ := gd_some h
  refine wp_getS (v := sd.2.2.2 a0 8) (pc := 1) C flX0_44 rfl rfl g2.1 g1.1 g1.2 dX0_seenOf_1 ?_
  refine wp_iload_n (pc := 4) C 2 dX0_seenOf_4 rfl rfl ?_
  refine wp_iconst (v := 4) (pc := 5) C dX0_seenOf_5 (by decide) ?_
  refine wp_imul (pc := 6) C dX0_seenOf_6 ?_
  refine wp_iload_n (pc := 7) C 3 dX0_seenOf_7 rfl rfl ?_
  refine wp_iadd (pc := 8) C dX0_seenOf_8 ?_
  obtain ⟨g3, h⟩ := gd_some h
  obtain ⟨g4, h⟩ := gd_some h
  refine wp_aald (t0 := 5) (pc := 9) C g2.1 g2.2 (by decide) rfl rfl g3 g4.1 dX0_seenOf_9 ?_
  obtain ⟨a5, ea5, h⟩ := bn_some h
  refine wp_astore (pc := 10) C (congrArg (gA G) ea5) [(4, .ref (gA G a5)), (0, .ref (gA G a0)), (1, .ref (gA G a1)), (2, .int x2), (3, .int x3)] dX0_seenOf_10 (Nat.le_of_ble_eq_true rfl) rfl ?_
  refine wp_lconst (v := 0) (pc := 12) C dX0_seenOf_12 (by decide) ?_
  refine wp_lstore (pc := 13) C rfl [(5, .long 0), (4, .ref (gA G a5)), (0, .ref (gA G a0)), (1, .ref (gA G a1)), (2, .int x2), (3, .int x3)] dX0_seenOf_13 (Nat.le_of_ble_eq_true rfl) rfl ?_
  refine wp_iconst (v := 0) (pc := 15) C dX0_seenOf_15 (by decide) ?_
  refine wp_istore (pc := 16) C rfl [(7, .int 0), (5, .long 0), (4, .ref (gA G a5)), (0, .ref (gA G a0)), (1, .ref (gA G a1)), (2, .int x2), (3, .int x3)] dX0_seenOf_16 (Nat.le_of_ble_eq_true rfl) rfl ?_
  exact wp_sub C [3, 4, 2, 1, 0] rfl (wX0_seenOf_l18 C _ _ _ _ _ _ _ h)
theorem CtX0_seenOf {sd : Sd} {n : Nat} {S S' : St} {r : Int64} {a0 : Nat} {a1 : Nat} {x2 : Int32} {x3 : Int32} (h : fX0_seenOf sd n S a0 a1 x2 x3 = some (S', r)) : Ct l sd cy ad D yX0_seenOf cX0_seenOf 8 (some .long) 0 0 [.ref (ad a0), .ref (ad a1), .int x2, .int x3] S (some (.long r)) S' :=
  Ct_of (own := RX0) mX0_seenOf rfl (Nat.le_of_ble_eq_true rfl) (fun G e1 e2 e3 e4 C => by subst e1 e2 e3 e4; exact wX0_seenOf C h)
def fX0_apartOf_j105 (sd : Sd) (n : Nat) (k18 : St → Nat → Nat → Nat → Int32 → Int32 → Int64 → Int32 → Option (St × Int64)) (S : St) (a0 : Nat) (a1 : Nat) (a2 : Nat) (x3 : Int32) (x5 : Int32) (x6 : Int64) (x8 : Int32) : Option (St × Int64) :=
  bn (x8 + 1) (fun z1 : Int32 =>
  k18 S a0 a1 a2 x3 x5 x6 z1)
set_option maxRecDepth 100000 in
set_option maxHeartbeats 4000000 in
theorem wX0_apartOf_j105 {sd : Sd} (C : Cx G sd cX0_apartOf 13 RX0 (some .long)) {n : Nat} {k18 : St → Nat → Nat → Nat → Int32 → Int32 → Int64 → Int32 → Option (St × Int64)} {S S' : St} {r : Int64} {a0 : Nat} {a1 : Nat} {a2 : Nat} {x3 : Int32} {x5 : Int32} {x6 : Int64} {x8 : Int32} (hk18 : ∀ (S : St) (a0 : Nat) (a1 : Nat) (a2 : Nat) (x3 : Int32) (x5 : Int32) (x6 : Int64) (x8 : Int32), k18 S a0 a1 a2 x3 x5 x6 x8 = some (S', r) → Wp G sd (rmOf 1 23) 13 (Qm G sd (some (.long r)) S') S 18 [(0, .ref (gA G a0)), (1, .ref (gA G a1)), (2, .ref (gA G a2)), (3, .int x3), (5, .int x5), (6, .long x6), (8, .int x8)] []) (h : fX0_apartOf_j105 sd n k18 S a0 a1 a2 x3 x5 x6 x8 = some (S', r)) : Wp G sd (rmOf 1 23) 13 (Qm G sd (some (.long r)) S') S 105 [(0, .ref (gA G a0)), (1, .ref (gA G a1)), (2, .ref (gA G a2)), (3, .int x3), (5, .int x5), (6, .long x6), (8, .int x8)] [] := by
  unfold fX0_apartOf_j105 at h
  obtain ⟨z1, ez1, h⟩ := bn_some h
  refine wp_iinc (q := 6) (pc := 105) C (by decide) ez1 [(8, .int z1), (0, .ref (gA G a0)), (1, .ref (gA G a1)), (2, .ref (gA G a2)), (3, .int x3), (5, .int x5), (6, .long x6)] dX0_apartOf_105 rfl (Nat.le_of_ble_eq_true rfl) rfl ?_
  refine wp_goto (pc := 108) C 18 dX0_apartOf_108 (by decide) ?_
  exact wp_sub C [1, 2, 3, 4, 5, 6, 0] rfl (hk18 _ _ _ _ _ _ _ _ h)
def fX0_apartOf_j93 (sd : Sd) (n : Nat) (k18 : St → Nat → Nat → Nat → Int32 → Int32 → Int64 → Int32 → Option (St × Int64)) (S : St) (a0 : Nat) (a1 : Nat) (a2 : Nat) (x3 : Int32) (x5 : Int32) (x6 : Int64) (x8 : Int32) (x10 : Int64) : Option (St × Int64) :=
  bn (if (if 0 < x10 then x10 else -x10) < x6 then x6 else (if 0 < x10 then x10 else -x10)) (fun z1 : Int64 =>
  fX0_apartOf_j105 sd n k18 S a0 a1 a2 x3 x5 z1 x8)
set_option maxRecDepth 100000 in
set_option maxHeartbeats 4000000 in
theorem wX0_apartOf_j93 {sd : Sd} (C : Cx G sd cX0_apartOf 13 RX0 (some .long)) {n : Nat} {k18 : St → Nat → Nat → Nat → Int32 → Int32 → Int64 → Int32 → Option (St × Int64)} {S S' : St} {r : Int64} {a0 : Nat} {a1 : Nat} {a2 : Nat} {x3 : Int32} {x5 : Int32} {x6 : Int64} {x8 : Int32} {x10 : Int64} (hk18 : ∀ (S : St) (a0 : Nat) (a1 : Nat) (a2 : Nat) (x3 : Int32) (x5 : Int32) (x6 : Int64) (x8 : Int32), k18 S a0 a1 a2 x3 x5 x6 x8 = some (S', r) → Wp G sd (rmOf 1 23) 13 (Qm G sd (some (.long r)) S') S 18 [(0, .ref (gA G a0)), (1, .ref (gA G a1)), (2, .ref (gA G a2)), (3, .int x3), (5, .int x5), (6, .long x6), (8, .int x8)] []) (h : fX0_apartOf_j93 sd n k18 S a0 a1 a2 x3 x5 x6 x8 x10 = some (S', r)) : Wp G sd (rmOf 1 23) 13 (Qm G sd (some (.long r)) S') S 93 [(0, .ref (gA G a0)), (1, .ref (gA G a1)), (2, .ref (gA G a2)), (3, .int x3), (5, .int x5), (6, .long x6), (8, .int x8), (10, .long x10)] [] := by
  unfold fX0_apartOf_j93 at h
  refine wp_lload (pc := 93) C 5 dX0_apartOf_93 rfl ?_
  refine wp_lload (pc := 95) C 7 dX0_apartOf_95 rfl ?_
  refine wp_absL (pc := 97) C kX0_85 (Nat.le_of_ble_eq_true rfl) (Nat.le_of_ble_eq_true rfl) dX0_apartOf_97 ?_
  refine wp_maxL (pc := 100) C kX0_91 (Nat.le_of_ble_eq_true rfl) (Nat.le_of_ble_eq_true rfl) dX0_apartOf_100 ?_
  obtain ⟨z1, ez1, h⟩ := bn_some h
  refine wp_lstore (pc := 103) C ez1 [(6, .long z1), (0, .ref (gA G a0)), (1, .ref (gA G a1)), (2, .ref (gA G a2)), (3, .int x3), (5, .int x5), (8, .int x8), (10, .long x10)] dX0_apartOf_103 (Nat.le_of_ble_eq_true rfl) rfl ?_
  exact wp_sub C [1, 2, 3, 4, 5, 0, 6] rfl (wX0_apartOf_j105 C hk18 h)
def fX0_apartOf_l56 (sd : Sd) (n : Nat) (k18 : St → Nat → Nat → Nat → Int32 → Int32 → Int64 → Int32 → Option (St × Int64)) : Nat → St → Nat → Nat → Nat → Int32 → Int32 → Int64 → Int32 → Nat → Int64 → Int32 → Option (St × Int64)
  | 0, _, _, _, _, _, _, _, _, _, _, _ => none
  | j + 1, S, a0, a1, a2, x3, x5, x6, x8, a9, x10, x12 =>
    gd (isK sd a0 0) (
    if (S.1 a0 9) ≤ x12 then
      fX0_apartOf_j93 sd n k18 S a0 a1 a2 x3 x5 x6 x8 x10
    else
      gd (isK sd a1 13) (
      gd (ib x12 (sd.2.2.1 a1)) (
      gd (isK sd a2 13) (
      gd (ib x12 (sd.2.2.1 a2)) (
      gd (isK sd a9 13) (
      gd (ib x12 (sd.2.2.1 a9)) (
      bn (x10 + (((((S.1 a1 (Int32.toNatClampNeg x12)) - (S.1 a2 (Int32.toNatClampNeg x12))) : Int32).toInt64) * (((S.1 a9 (Int32.toNatClampNeg x12)) : Int32).toInt64))) (fun z8 : Int64 =>
      bn (x12 + 1) (fun z9 : Int32 =>
      fX0_apartOf_l56 sd n k18 j S a0 a1 a2 x3 x5 x6 x8 a9 z8 z9)))))))))
set_option maxRecDepth 100000 in
set_option maxHeartbeats 4000000 in
theorem wX0_apartOf_l56 {sd : Sd} (C : Cx G sd cX0_apartOf 13 RX0 (some .long)) {n : Nat} {k18 : St → Nat → Nat → Nat → Int32 → Int32 → Int64 → Int32 → Option (St × Int64)} {S' : St} {r : Int64} (hk18 : ∀ (S : St) (a0 : Nat) (a1 : Nat) (a2 : Nat) (x3 : Int32) (x5 : Int32) (x6 : Int64) (x8 : Int32), k18 S a0 a1 a2 x3 x5 x6 x8 = some (S', r) → Wp G sd (rmOf 1 23) 13 (Qm G sd (some (.long r)) S') S 18 [(0, .ref (gA G a0)), (1, .ref (gA G a1)), (2, .ref (gA G a2)), (3, .int x3), (5, .int x5), (6, .long x6), (8, .int x8)] []) : ∀ (j : Nat) (S : St) (a0 : Nat) (a1 : Nat) (a2 : Nat) (x3 : Int32) (x5 : Int32) (x6 : Int64) (x8 : Int32) (a9 : Nat) (x10 : Int64) (x12 : Int32), fX0_apartOf_l56 sd n k18 j S a0 a1 a2 x3 x5 x6 x8 a9 x10 x12 = some (S', r) → Wp G sd (rmOf 1 23) 13 (Qm G sd (some (.long r)) S') S 56 [(0, .ref (gA G a0)), (1, .ref (gA G a1)), (2, .ref (gA G a2)), (3, .int x3), (5, .int x5), (6, .long x6), (8, .int x8), (9, .ref (gA G a9)), (10, .long x10), (12, .int x12)] [] := by
  intro j
  induction j with
  | zero =>
    intro S a0 a1 a2 x3 x5 x6 x8 a9 x10 x12 h
    exact nomatch (show (none : Option (St × Int64)) = some _ from h)
  | succ j ih =>
    intro S a0 a1 a2 x3 x5 x6 x8 a9 x10 x12 h
    rw [fX0_apartOf_l56] at h
    refine wp_iload (pc := 56) C 9 dX0_apartOf_56 rfl ?_
    refine wp_aload_n (pc := 58) C 0 dX0_apartOf_58 rfl rfl ?_
    obtain ⟨g1, h⟩ := gd_some h
    refine wp_getI (pc := 59) C flX0_54 rfl g1.1 g1.2 dX0_apartOf_59 ?_
    refine wp_icmp_ge (pc := 62) C 93 dX0_apartOf_62 (by decide) (fun q => ?_) (fun q => ?_)
    · have h := it_pos q h
      exact wp_sub C [0, 1, 2, 3, 4, 5, 6, 8] rfl (wX0_apartOf_j93 C hk18 h)
    · have h := it_neg q h
      refine wp_lload (pc := 65) C 8 dX0_apartOf_65 rfl ?_
      refine wp_aload_n (pc := 67) C 1 dX0_apartOf_67 rfl rfl ?_
      refine wp_iload (pc := 68) C 9 dX0_apartOf_68 rfl ?_
      obtain ⟨g2, h⟩ := gd_some h
      obtain ⟨g3, h⟩ := gd_some h
      refine wp_iald (pc := 70) C g2.1 g2.2 g3 dX0_apartOf_70 ?_
      refine wp_aload_n (pc := 71) C 2 dX0_apartOf_71 rfl rfl ?_
      refine wp_iload (pc := 72) C 9 dX0_apartOf_72 rfl ?_
      obtain ⟨g4, h⟩ := gd_some h
      obtain ⟨g5, h⟩ := gd_some h
      refine wp_iald (pc := 74) C g4.1 g4.2 g5 dX0_apartOf_74 ?_
      refine wp_isub (pc := 75) C dX0_apartOf_75 ?_
      refine wp_i2l (pc := 76) C dX0_apartOf_76 ?_
      refine wp_aload (pc := 77) C 7 dX0_apartOf_77 rfl ?_
      refine wp_iload (pc := 79) C 9 dX0_apartOf_79 rfl ?_
      obtain ⟨g6, h⟩ := gd_some h
      obtain ⟨g7, h⟩ := gd_some h
      refine wp_iald (pc := 81) C g6.1 g6.2 g7 dX0_apartOf_81 ?_
      refine wp_i2l (pc := 82) C dX0_apartOf_82 ?_
      refine wp_lmul (pc := 83) C dX0_apartOf_83 ?_
      refine wp_ladd (pc := 84) C dX0_apartOf_84 ?_
      obtain ⟨z8, ez8, h⟩ := bn_some h
      refine wp_lstore (pc := 85) C ez8 [(10, .long z8), (0, .ref (gA G a0)), (1, .ref (gA G a1)), (2, .ref (gA G a2)), (3, .int x3), (5, .int x5), (6, .long x6), (8, .int x8), (9, .ref (gA G a9)), (12, .int x12)] dX0_apartOf_85 (Nat.le_of_ble_eq_true rfl) rfl ?_
      obtain ⟨z9, ez9, h⟩ := bn_some h
      refine wp_iinc (q := 9) (pc := 87) C (by decide) ez9 [(12, .int z9), (10, .long z8), (0, .ref (gA G a0)), (1, .ref (gA G a1)), (2, .ref (gA G a2)), (3, .int x3), (5, .int x5), (6, .long x6), (8, .int x8), (9, .ref (gA G a9))] dX0_apartOf_87 rfl (Nat.le_of_ble_eq_true rfl) rfl ?_
      refine wp_goto (pc := 90) C 56 dX0_apartOf_90 (by decide) ?_
      exact wp_sub C [2, 3, 4, 5, 6, 7, 8, 9, 1, 0] rfl (ih _ _ _ _ _ _ _ _ _ _ _ h)
def fX0_apartOf_l18 (sd : Sd) (n : Nat) : Nat → St → Nat → Nat → Nat → Int32 → Int32 → Int64 → Int32 → Option (St × Int64)
  | 0, _, _, _, _, _, _, _, _ => none
  | j + 1, S, a0, a1, a2, x3, x5, x6, x8 =>
    gd (isK sd a0 0) (
    gd (isK sd (sd.2.2.2 a0 3) 5) (
    if (S.1 (sd.2.2.2 a0 3) 3) ≤ x8 then
      some (S, x6)
    else
      if x8 = x5 then
        fX0_apartOf_j105 sd n (fX0_apartOf_l18 sd n j) S a0 a1 a2 x3 x5 x6 x8
      else
        gd (isK sd (sd.2.2.2 a0 8) 17) (
        gd (ib ((x3 * 4) + x8) (sd.2.2.1 (sd.2.2.2 a0 8))) (
        gd (isK sd (sd.2.2.2 (sd.2.2.2 a0 8) (Int32.toNatClampNeg ((x3 * 4) + x8))) 13) (
        bn (sd.2.2.2 (sd.2.2.2 a0 8) (Int32.toNatClampNeg ((x3 * 4) + x8))) (fun a6 : Nat =>
        fX0_apartOf_l56 sd n (fX0_apartOf_l18 sd n j) n S a0 a1 a2 x3 x5 x6 x8 a6 0 0))))))
set_option maxRecDepth 100000 in
set_option maxHeartbeats 4000000 in
theorem wX0_apartOf_l18 {sd : Sd} (C : Cx G sd cX0_apartOf 13 RX0 (some .long)) {n : Nat} {S' : St} {r : Int64} : ∀ (j : Nat) (S : St) (a0 : Nat) (a1 : Nat) (a2 : Nat) (x3 : Int32) (x5 : Int32) (x6 : Int64) (x8 : Int32), fX0_apartOf_l18 sd n j S a0 a1 a2 x3 x5 x6 x8 = some (S', r) → Wp G sd (rmOf 1 23) 13 (Qm G sd (some (.long r)) S') S 18 [(0, .ref (gA G a0)), (1, .ref (gA G a1)), (2, .ref (gA G a2)), (3, .int x3), (5, .int x5), (6, .long x6), (8, .int x8)] [] := by
  intro j
  induction j with
  | zero =>
    intro S a0 a1 a2 x3 x5 x6 x8 h
    exact nomatch (show (none : Option (St × Int64)) = some _ from h)
  | succ j ih =>
    intro S a0 a1 a2 x3 x5 x6 x8 h
    rw [fX0_apartOf_l18] at h
    refine wp_iload (pc := 18) C 6 dX0_apartOf_18 rfl ?_
    refine wp_aload_n (pc := 20) C 0 dX0_apartOf_20 rfl rfl ?_
    obtain ⟨g1, h⟩ := gd_some h
    obtain ⟨g2, h⟩ := gd_some h
    refine wp_getS (v := sd.2.2.2 a0 3) (pc := 21) C flX0_26 rfl rfl g2.1 g1.1 g1.2 dX0_apartOf_21 ?_
    refine wp_getI (pc := 24) C flX0_50 rfl g2.1 g2.2 dX0_apartOf_24 ?_
    refine wp_icmp_ge (pc := 27) C 111 dX0_apartOf_27 (by decide) (fun q => ?_) (fun q => ?_)
    · have h := it_pos q h
      refine wp_lload (pc := 111) C 5 dX0_apartOf_111 rfl ?_
      exact rt_l C rfl h dX0_apartOf_113
    · have h := it_neg q h
      refine wp_iload (pc := 30) C 6 dX0_apartOf_30 rfl ?_
      refine wp_iload (pc := 32) C 4 dX0_apartOf_32 rfl ?_
      refine wp_icmp_eq (pc := 34) C 105 dX0_apartOf_34 (by decide) (fun q => ?_) (fun q => ?_)
      · have h := it_pos q h
        exact (wX0_apartOf_j105 C ih h)
      · have h := it_neg q h
        refine wp_aload_n (pc := 37) C 0 dX0_apartOf_37 rfl rfl ?_
        obtain ⟨g3, h⟩ := gd_some h
        refine wp_getS (v := sd.2.2.2 a0 8) (pc := 38) C flX0_44 rfl rfl g3.1 g1.1 g1.2 dX0_apartOf_38 ?_
        refine wp_iload_n (pc := 41) C 3 dX0_apartOf_41 rfl rfl ?_
        refine wp_iconst (v := 4) (pc := 42) C dX0_apartOf_42 (by decide) ?_
        refine wp_imul (pc := 43) C dX0_apartOf_43 ?_
        refine wp_iload (pc := 44) C 6 dX0_apartOf_44 rfl ?_
        refine wp_iadd (pc := 46) C dX0_apartOf_46 ?_
        obtain ⟨g4, h⟩ := gd_some h
        obtain ⟨g5, h⟩ := gd_some h
        refine wp_aald (t0 := 5) (pc := 47) C g3.1 g3.2 (by decide) rfl rfl g4 g5.1 dX0_apartOf_47 ?_
        obtain ⟨a6, ea6, h⟩ := bn_some h
        refine wp_astore (pc := 48) C (congrArg (gA G) ea6) [(9, .ref (gA G a6)), (0, .ref (gA G a0)), (1, .ref (gA G a1)), (2, .ref (gA G a2)), (3, .int x3), (5, .int x5), (6, .long x6), (8, .int x8)] dX0_apartOf_48 (Nat.le_of_ble_eq_true rfl) rfl ?_
        refine wp_lconst (v := 0) (pc := 50) C dX0_apartOf_50 (by decide) ?_
        refine wp_lstore (pc := 51) C rfl [(10, .long 0), (9, .ref (gA G a6)), (0, .ref (gA G a0)), (1, .ref (gA G a1)), (2, .ref (gA G a2)), (3, .int x3), (5, .int x5), (6, .long x6), (8, .int x8)] dX0_apartOf_51 (Nat.le_of_ble_eq_true rfl) rfl ?_
        refine wp_iconst (v := 0) (pc := 53) C dX0_apartOf_53 (by decide) ?_
        refine wp_istore (pc := 54) C rfl [(12, .int 0), (10, .long 0), (9, .ref (gA G a6)), (0, .ref (gA G a0)), (1, .ref (gA G a1)), (2, .ref (gA G a2)), (3, .int x3), (5, .int x5), (6, .long x6), (8, .int x8)] dX0_apartOf_54 (Nat.le_of_ble_eq_true rfl) rfl ?_
        exact wp_sub C [3, 4, 5, 6, 7, 8, 9, 2, 1, 0] rfl (wX0_apartOf_l56 C ih _ _ _ _ _ _ _ _ _ _ _ _ h)
def fX0_apartOf_j10 (sd : Sd) (n : Nat) (S : St) (a0 : Nat) (a1 : Nat) (a2 : Nat) (x3 : Int32) (y0 : Int32) : Option (St × Int64) :=
  fX0_apartOf_l18 sd n n S a0 a1 a2 x3 y0 0 0
set_option maxRecDepth 100000 in
set_option maxHeartbeats 4000000 in
theorem wX0_apartOf_j10 {sd : Sd} (C : Cx G sd cX0_apartOf 13 RX0 (some .long)) {n : Nat} {S S' : St} {r : Int64} {a0 : Nat} {a1 : Nat} {a2 : Nat} {x3 : Int32} {y0 : Int32} (h : fX0_apartOf_j10 sd n S a0 a1 a2 x3 y0 = some (S', r)) : Wp G sd (rmOf 1 23) 13 (Qm G sd (some (.long r)) S') S 10 [(0, .ref (gA G a0)), (1, .ref (gA G a1)), (2, .ref (gA G a2)), (3, .int x3)] [.int y0] := by
  unfold fX0_apartOf_j10 at h
  refine wp_istore (pc := 10) C rfl [(5, .int y0), (0, .ref (gA G a0)), (1, .ref (gA G a1)), (2, .ref (gA G a2)), (3, .int x3)] dX0_apartOf_10 (Nat.le_of_ble_eq_true rfl) rfl ?_
  refine wp_lconst (v := 0) (pc := 12) C dX0_apartOf_12 (by decide) ?_
  refine wp_lstore (pc := 13) C rfl [(6, .long 0), (5, .int y0), (0, .ref (gA G a0)), (1, .ref (gA G a1)), (2, .ref (gA G a2)), (3, .int x3)] dX0_apartOf_13 (Nat.le_of_ble_eq_true rfl) rfl ?_
  refine wp_iconst (v := 0) (pc := 15) C dX0_apartOf_15 (by decide) ?_
  refine wp_istore (pc := 16) C rfl [(8, .int 0), (6, .long 0), (5, .int y0), (0, .ref (gA G a0)), (1, .ref (gA G a1)), (2, .ref (gA G a2)), (3, .int x3)] dX0_apartOf_16 (Nat.le_of_ble_eq_true rfl) rfl ?_
  exact wp_sub C [3, 4, 5, 6, 2, 1, 0] rfl (wX0_apartOf_l18 C _ _ _ _ _ _ _ _ _ h)
def fX0_apartOf (sd : Sd) (n : Nat) (S : St) (a0 : Nat) (a1 : Nat) (a2 : Nat) (x3 : Int32) (x4 : Int32) : Option (St × Int64) :=
  if x4 = 0 then
    fX0_apartOf_j10 sd n S a0 a1 a2 x3 3
  else
    fX0_apartOf_j10 sd n S a0 a1 a2 x3 2
set_option maxRecDepth 100000 in
set_option maxHeartbeats 4000000 in
theorem wX0_apartOf {sd : Sd} (C : Cx G sd cX0_apartOf 13 RX0 (some .long)) {n : Nat} {S S' : St} {r : Int64} {a0 : Nat} {a1 : Nat} {a2 : Nat} {x3 : Int32} {x4 : Int32} (h : fX0_apartOf sd n S a0 a1 a2 x3 x4 = some (S', r)) : Wp G sd (rmOf 1 23) 13 (Qm G sd (some (.long r)) S') S 0 [(0, .ref (gA G a0)), (1, .ref (gA G a1)), (2, .ref (gA G a2)), (3, .int x3), (4, .int x4)] [] := by
  unfold fX0_apartOf at h
  refine wp_iload (pc := 0) C 4 dX0_apartOf_0 rfl ?_
  refine wp_if_eq (pc := 2) C 9 dX0_apartOf_2 (by decide) (fun q => ?_) (fun q => ?_)
  · have h := it_pos q h
    refine wp_iconst (v := 3) (pc := 9) C dX0_apartOf_9 (by decide) ?_
    exact wp_sub C [0, 1, 2, 3] rfl (wX0_apartOf_j10 C h)
  · have h := it_neg q h
    refine wp_iconst (v := 2) (pc := 5) C dX0_apartOf_5 (by decide) ?_
    refine wp_goto (pc := 6) C 10 dX0_apartOf_6 (by decide) ?_
    exact wp_sub C [0, 1, 2, 3] rfl (wX0_apartOf_j10 C h)
theorem CtX0_apartOf {sd : Sd} {n : Nat} {S S' : St} {r : Int64} {a0 : Nat} {a1 : Nat} {a2 : Nat} {x3 : Int32} {x4 : Int32} (h : fX0_apartOf sd n S a0 a1 a2 x3 x4 = some (S', r)) : Ct l sd cy ad D yX0_apartOf cX0_apartOf 13 (some .long) 1 23 [.ref (ad a0), .ref (ad a1), .ref (ad a2), .int x3, .int x4] S (some (.long r)) S' :=
  Ct_of (own := RX0) mX0_apartOf rfl (Nat.le_of_ble_eq_true rfl) (fun G e1 e2 e3 e4 C => by subst e1 e2 e3 e4; exact wX0_apartOf C h)
def fX0_farthestOf_l6 (sd : Sd) (n : Nat) : Nat → St → Nat → Nat → Nat → Int32 → Int64 → Int32 → Option (St × Int64)
  | 0, _, _, _, _, _, _, _ => none
  | j + 1, S, a0, a1, a2, x3, x4, x6 =>
    gd (isK sd a0 0) (
    gd (isK sd (sd.2.2.2 a0 2) 5) (
    if (S.1 (sd.2.2.2 a0 2) 3) ≤ x6 then
      some (S, x4)
    else
      bd (fX0_apartOf sd n S a0 a1 a2 x6 x3) (fun S3 r4 =>
      bn (if r4 < x4 then x4 else r4) (fun z5 : Int64 =>
      bn (x6 + 1) (fun z6 : Int32 =>
      fX0_farthestOf_l6 sd n j S3 a0 a1 a2 x3 z5 z6)))))
set_option maxRecDepth 100000 in
set_option maxHeartbeats 4000000 in
theorem wX0_farthestOf_l6 {sd : Sd} (C : Cx G sd cX0_farthestOf 7 RX0 (some .long)) {n : Nat} {S' : St} {r : Int64} : ∀ (j : Nat) (S : St) (a0 : Nat) (a1 : Nat) (a2 : Nat) (x3 : Int32) (x4 : Int64) (x6 : Int32), fX0_farthestOf_l6 sd n j S a0 a1 a2 x3 x4 x6 = some (S', r) → Wp G sd (rmOf 2 55) 7 (Qm G sd (some (.long r)) S') S 6 [(0, .ref (gA G a0)), (1, .ref (gA G a1)), (2, .ref (gA G a2)), (3, .int x3), (4, .long x4), (6, .int x6)] [] := by
  intro j
  induction j with
  | zero =>
    intro S a0 a1 a2 x3 x4 x6 h
    exact nomatch (show (none : Option (St × Int64)) = some _ from h)
  | succ j ih =>
    intro S a0 a1 a2 x3 x4 x6 h
    rw [fX0_farthestOf_l6] at h
    refine wp_iload (pc := 6) C 5 dX0_farthestOf_6 rfl ?_
    refine wp_aload_n (pc := 8) C 0 dX0_farthestOf_8 rfl rfl ?_
    obtain ⟨g1, h⟩ := gd_some h
    obtain ⟨g2, h⟩ := gd_some h
    refine wp_getS (v := sd.2.2.2 a0 2) (pc := 9) C flX0_23 rfl rfl g2.1 g1.1 g1.2 dX0_farthestOf_9 ?_
    refine wp_getI (pc := 12) C flX0_50 rfl g2.1 g2.2 dX0_farthestOf_12 ?_
    refine wp_icmp_ge (pc := 15) C 40 dX0_farthestOf_15 (by decide) (fun q => ?_) (fun q => ?_)
    · have h := it_pos q h
      refine wp_lload (pc := 40) C 4 dX0_farthestOf_40 rfl ?_
      exact rt_l C rfl h dX0_farthestOf_42
    · have h := it_neg q h
      refine wp_lload (pc := 18) C 4 dX0_farthestOf_18 rfl ?_
      refine wp_aload_n (pc := 20) C 0 dX0_farthestOf_20 rfl rfl ?_
      refine wp_aload_n (pc := 21) C 1 dX0_farthestOf_21 rfl rfl ?_
      refine wp_aload_n (pc := 22) C 2 dX0_farthestOf_22 rfl rfl ?_
      refine wp_iload (pc := 23) C 5 dX0_farthestOf_23 rfl ?_
      refine wp_iload_n (pc := 25) C 3 dX0_farthestOf_25 rfl rfl ?_
      obtain ⟨S3, r4, cS3, h⟩ := bd_some h
      refine wp_callVl (As := [.ref (gA G a1), .ref (gA G a2), .int x6, .int x3]) (st := [.long x4]) (pc := 26) C (CtX0_apartOf cS3) mX0_apartOf iX0_apartOf kX0_95 g1.1 g1.2 (by decide) rfl rfl rfl rfl (Nat.le_of_ble_eq_true rfl) ⟨Nat.le_of_ble_eq_true rfl, Nat.le_of_ble_eq_true rfl⟩ dX0_farthestOf_26 ?_
      refine wp_maxL (pc := 29) C kX0_91 (Nat.le_of_ble_eq_true rfl) (Nat.le_of_ble_eq_true rfl) dX0_farthestOf_29 ?_
      obtain ⟨z5, ez5, h⟩ := bn_some h
      refine wp_lstore (pc := 32) C ez5 [(4, .long z5), (0, .ref (gA G a0)), (1, .ref (gA G a1)), (2, .ref (gA G a2)), (3, .int x3), (6, .int x6)] dX0_farthestOf_32 (Nat.le_of_ble_eq_true rfl) rfl ?_
      obtain ⟨z6, ez6, h⟩ := bn_some h
      refine wp_iinc (q := 5) (pc := 34) C (by decide) ez6 [(6, .int z6), (4, .long z5), (0, .ref (gA G a0)), (1, .ref (gA G a1)), (2, .ref (gA G a2)), (3, .int x3)] dX0_farthestOf_34 rfl (Nat.le_of_ble_eq_true rfl) rfl ?_
      refine wp_goto (pc := 37) C 6 dX0_farthestOf_37 (by decide) ?_
      exact wp_sub C [2, 3, 4, 5, 1, 0] rfl (ih _ _ _ _ _ _ _ h)
def fX0_farthestOf (sd : Sd) (n : Nat) (S : St) (a0 : Nat) (a1 : Nat) (a2 : Nat) (x3 : Int32) : Option (St × Int64) :=
  fX0_farthestOf_l6 sd n n S a0 a1 a2 x3 0 0
set_option maxRecDepth 100000 in
set_option maxHeartbeats 4000000 in
theorem wX0_farthestOf {sd : Sd} (C : Cx G sd cX0_farthestOf 7 RX0 (some .long)) {n : Nat} {S S' : St} {r : Int64} {a0 : Nat} {a1 : Nat} {a2 : Nat} {x3 : Int32} (h : fX0_farthestOf sd n S a0 a1 a2 x3 = some (S', r)) : Wp G sd (rmOf 2 55) 7 (Qm G sd (some (.long r)) S') S 0 [(0, .ref (gA G a0)), (1, .ref (gA G a1)), (2, .ref (gA G a2)), (3, .int x3)] [] := by
  unfold fX0_farthestOf at h
  refine wp_lconst (v := 0) (pc := 0) C dX0_farthestOf_0 (by decide) ?_
  refine wp_lstore (pc := 1) C rfl [(4, .long 0), (0, .ref (gA G a0)), (1, .ref (gA G a1)), (2, .ref (gA G a2)), (3, .int x3)] dX0_farthestOf_1 (Nat.le_of_ble_eq_true rfl) rfl ?_
  refine wp_iconst (v := 0) (pc := 3) C dX0_farthestOf_3 (by decide) ?_
  refine wp_istore (pc := 4) C rfl [(6, .int 0), (4, .long 0), (0, .ref (gA G a0)), (1, .ref (gA G a1)), (2, .ref (gA G a2)), (3, .int x3)] dX0_farthestOf_4 (Nat.le_of_ble_eq_true rfl) rfl ?_
  exact wp_sub C [2, 3, 4, 5, 1, 0] rfl (wX0_farthestOf_l6 C _ _ _ _ _ _ _ _ h)
theorem CtX0_farthestOf {sd : Sd} {n : Nat} {S S' : St} {r : Int64} {a0 : Nat} {a1 : Nat} {a2 : Nat} {x3 : Int32} (h : fX0_farthestOf sd n S a0 a1 a2 x3 = some (S', r)) : Ct l sd cy ad D yX0_farthestOf cX0_farthestOf 7 (some .long) 2 55 [.ref (ad a0), .ref (ad a1), .ref (ad a2), .int x3] S (some (.long r)) S' :=
  Ct_of (own := RX0) mX0_farthestOf rfl (Nat.le_of_ble_eq_true rfl) (fun G e1 e2 e3 e4 C => by subst e1 e2 e3 e4; exact wX0_farthestOf C h)
def fX0_areAlike (sd : Sd) (n : Nat) (S : St) (a0 : Nat) (a1 : Nat) (a2 : Nat) (x3 : Int32) (x4 : Int32) : Option (St × Int32) :=
  gd (isK sd a0 0) (
  bd (fX0_apartOf sd n S a0 a1 a2 x3 x4) (fun S2 r3 =>
  if 0 < (lg_cmp r3 ((((S2.1 a0 11) : Int32).toInt64) * 1000)) then
    some (S2, 0)
  else
    some (S2, 1)))
set_option maxRecDepth 100000 in
set_option maxHeartbeats 4000000 in
theorem wX0_areAlike {sd : Sd} (C : Cx G sd cX0_areAlike 5 RX0 (some .boolean)) {n : Nat} {S S' : St} {r : Int32} {a0 : Nat} {a1 : Nat} {a2 : Nat} {x3 : Int32} {x4 : Int32} (h : fX0_areAlike sd n S a0 a1 a2 x3 x4 = some (S', r)) : Wp G sd (rmOf 2 55) 5 (Qm G sd (some (.int r)) S') S 0 [(0, .ref (gA G a0)), (1, .ref (gA G a1)), (2, .ref (gA G a2)), (3, .int x3), (4, .int x4)] [] := by
  unfold fX0_areAlike at h
  refine wp_aload_n (pc := 0) C 0 dX0_areAlike_0 rfl rfl ?_
  refine wp_aload_n (pc := 1) C 1 dX0_areAlike_1 rfl rfl ?_
  refine wp_aload_n (pc := 2) C 2 dX0_areAlike_2 rfl rfl ?_
  refine wp_iload_n (pc := 3) C 3 dX0_areAlike_3 rfl rfl ?_
  refine wp_iload (pc := 4) C 4 dX0_areAlike_4 rfl ?_
  obtain ⟨g1, h⟩ := gd_some h
  obtain ⟨S2, r3, cS2, h⟩ := bd_some h
  refine wp_callVl (As := [.ref (gA G a1), .ref (gA G a2), .int x3, .int x4]) (st := []) (pc := 6) C (CtX0_apartOf cS2) mX0_apartOf iX0_apartOf kX0_95 g1.1 g1.2 (by decide) rfl rfl rfl rfl (Nat.le_of_ble_eq_true rfl) ⟨Nat.le_of_ble_eq_true rfl, Nat.le_of_ble_eq_true rfl⟩ dX0_areAlike_6 ?_
  refine wp_aload_n (pc := 9) C 0 dX0_areAlike_9 rfl rfl ?_
  refine wp_getI (pc := 10) C flX0_60 rfl g1.1 g1.2 dX0_areAlike_10 ?_
  refine wp_i2l (pc := 13) C dX0_areAlike_13 ?_
  refine wp_ldc2 (pc := 14) C qX0_99 dX0_areAlike_14 ?_
  refine wp_lmul (pc := 17) C dX0_areAlike_17 ?_
  refine wp_lcmp (pc := 18) C dX0_areAlike_18 ?_
  refine wp_if_gt (pc := 19) C 26 dX0_areAlike_19 (by decide) (fun q => ?_) (fun q => ?_)
  · have h := it_pos q h
    refine wp_iconst (v := 0) (pc := 26) C dX0_areAlike_26 (by decide) ?_
    exact rt_z C (Or.inl rfl) rfl h dX0_areAlike_27
  · have h := it_neg q h
    refine wp_iconst (v := 1) (pc := 22) C dX0_areAlike_22 (by decide) ?_
    refine wp_goto (pc := 23) C 27 dX0_areAlike_23 (by decide) ?_
    exact rt_z C (Or.inr rfl) rfl h dX0_areAlike_27
theorem CtX0_areAlike {sd : Sd} {n : Nat} {S S' : St} {r : Int32} {a0 : Nat} {a1 : Nat} {a2 : Nat} {x3 : Int32} {x4 : Int32} (h : fX0_areAlike sd n S a0 a1 a2 x3 x4 = some (S', r)) : Ct l sd cy ad D yX0_areAlike cX0_areAlike 5 (some .boolean) 2 55 [.ref (ad a0), .ref (ad a1), .ref (ad a2), .int x3, .int x4] S (some (.int r)) S' :=
  Ct_of (own := RX0) mX0_areAlike rfl (Nat.le_of_ble_eq_true rfl) (fun G e1 e2 e3 e4 C => by subst e1 e2 e3 e4; exact wX0_areAlike C h)
def fX0_priceOf_l4 (sd : Sd) (n : Nat) : Nat → St → Nat → Nat → Int32 → Int32 → Option (St × Int32)
  | 0, _, _, _, _, _ => none
  | j + 1, S, a0, a1, x2, x3 =>
    gd (isK sd a0 0) (
    gd (isK sd (sd.2.2.2 a0 0) 5) (
    if (S.1 (sd.2.2.2 a0 0) 3) ≤ x3 then
      some (S, x2)
    else
      gd (isK sd a1 13) (
      gd (ib x3 (sd.2.2.1 a1)) (
      gd (isK sd (sd.2.2.2 a0 5) 13) (
      gd (ib x3 (sd.2.2.1 (sd.2.2.2 a0 5))) (
      bn (x2 + ((S.1 a1 (Int32.toNatClampNeg x3)) * (S.1 (sd.2.2.2 a0 5) (Int32.toNatClampNeg x3)))) (fun z7 : Int32 =>
      bn (x3 + 1) (fun z8 : Int32 =>
      fX0_priceOf_l4 sd n j S a0 a1 z7 z8))))))))
set_option maxRecDepth 100000 in
set_option maxHeartbeats 4000000 in
theorem wX0_priceOf_l4 {sd : Sd} (C : Cx G sd cX0_priceOf 4 RX0 (some .int)) {n : Nat} {S' : St} {r : Int32} : ∀ (j : Nat) (S : St) (a0 : Nat) (a1 : Nat) (x2 : Int32) (x3 : Int32), fX0_priceOf_l4 sd n j S a0 a1 x2 x3 = some (S', r) → Wp G sd (rmOf 0 0) 4 (Qm G sd (some (.int r)) S') S 4 [(0, .ref (gA G a0)), (1, .ref (gA G a1)), (2, .int x2), (3, .int x3)] [] := by
  intro j
  induction j with
  | zero =>
    intro S a0 a1 x2 x3 h
    exact nomatch (show (none : Option (St × Int32)) = some _ from h)
  | succ j ih =>
    intro S a0 a1 x2 x3 h
    rw [fX0_priceOf_l4] at h
    refine wp_iload_n (pc := 4) C 3 dX0_priceOf_4 rfl rfl ?_
    refine wp_aload_n (pc := 5) C 0 dX0_priceOf_5 rfl rfl ?_
    obtain ⟨g1, h⟩ := gd_some h
    obtain ⟨g2, h⟩ := gd_some h
    refine wp_getS (v := sd.2.2.2 a0 0) (pc := 6) C flX0_14 rfl rfl g2.1 g1.1 g1.2 dX0_priceOf_6 ?_
    refine wp_getI (pc := 9) C flX0_50 rfl g2.1 g2.2 dX0_priceOf_9 ?_
    refine wp_icmp_ge (pc := 12) C 34 dX0_priceOf_12 (by decide) (fun q => ?_) (fun q => ?_)
    · have h := it_pos q h
      refine wp_iload_n (pc := 34) C 2 dX0_priceOf_34 rfl rfl ?_
      exact rt_i C rfl h dX0_priceOf_35
    · have h := it_neg q h
      refine wp_iload_n (pc := 15) C 2 dX0_priceOf_15 rfl rfl ?_
      refine wp_aload_n (pc := 16) C 1 dX0_priceOf_16 rfl rfl ?_
      refine wp_iload_n (pc := 17) C 3 dX0_priceOf_17 rfl rfl ?_
      obtain ⟨g3, h⟩ := gd_some h
      obtain ⟨g4, h⟩ := gd_some h
      refine wp_iald (pc := 18) C g3.1 g3.2 g4 dX0_priceOf_18 ?_
      refine wp_aload_n (pc := 19) C 0 dX0_priceOf_19 rfl rfl ?_
      obtain ⟨g5, h⟩ := gd_some h
      refine wp_getS (v := sd.2.2.2 a0 5) (pc := 20) C flX0_32 rfl rfl g5.1 g1.1 g1.2 dX0_priceOf_20 ?_
      refine wp_iload_n (pc := 23) C 3 dX0_priceOf_23 rfl rfl ?_
      obtain ⟨g6, h⟩ := gd_some h
      refine wp_iald (pc := 24) C g5.1 g5.2 g6 dX0_priceOf_24 ?_
      refine wp_imul (pc := 25) C dX0_priceOf_25 ?_
      refine wp_iadd (pc := 26) C dX0_priceOf_26 ?_
      obtain ⟨z7, ez7, h⟩ := bn_some h
      refine wp_istore_n (pc := 27) C ez7 [(2, .int z7), (0, .ref (gA G a0)), (1, .ref (gA G a1)), (3, .int x3)] dX0_priceOf_27 rfl (Nat.le_of_ble_eq_true rfl) rfl ?_
      obtain ⟨z8, ez8, h⟩ := bn_some h
      refine wp_iinc (q := 3) (pc := 28) C (by decide) ez8 [(3, .int z8), (2, .int z7), (0, .ref (gA G a0)), (1, .ref (gA G a1))] dX0_priceOf_28 rfl (Nat.le_of_ble_eq_true rfl) rfl ?_
      refine wp_goto (pc := 31) C 4 dX0_priceOf_31 (by decide) ?_
      exact wp_sub C [2, 3, 1, 0] rfl (ih _ _ _ _ _ h)
def fX0_priceOf (sd : Sd) (n : Nat) (S : St) (a0 : Nat) (a1 : Nat) : Option (St × Int32) :=
  fX0_priceOf_l4 sd n n S a0 a1 0 0
set_option maxRecDepth 100000 in
set_option maxHeartbeats 4000000 in
theorem wX0_priceOf {sd : Sd} (C : Cx G sd cX0_priceOf 4 RX0 (some .int)) {n : Nat} {S S' : St} {r : Int32} {a0 : Nat} {a1 : Nat} (h : fX0_priceOf sd n S a0 a1 = some (S', r)) : Wp G sd (rmOf 0 0) 4 (Qm G sd (some (.int r)) S') S 0 [(0, .ref (gA G a0)), (1, .ref (gA G a1))] [] := by
  unfold fX0_priceOf at h
  refine wp_iconst (v := 0) (pc := 0) C dX0_priceOf_0 (by decide) ?_
  refine wp_istore_n (pc := 1) C rfl [(2, .int 0), (0, .ref (gA G a0)), (1, .ref (gA G a1))] dX0_priceOf_1 rfl (Nat.le_of_ble_eq_true rfl) rfl ?_
  refine wp_iconst (v := 0) (pc := 2) C dX0_priceOf_2 (by decide) ?_
  refine wp_istore_n (pc := 3) C rfl [(3, .int 0), (2, .int 0), (0, .ref (gA G a0)), (1, .ref (gA G a1))] dX0_priceOf_3 rfl (Nat.le_of_ble_eq_true rfl) rfl ?_
  exact wp_sub C [2, 3, 1, 0] rfl (wX0_priceOf_l4 C _ _ _ _ _ _ h)
theorem CtX0_priceOf {sd : Sd} {n : Nat} {S S' : St} {r : Int32} {a0 : Nat} {a1 : Nat} (h : fX0_priceOf sd n S a0 a1 = some (S', r)) : Ct l sd cy ad D yX0_priceOf cX0_priceOf 4 (some .int) 0 0 [.ref (ad a0), .ref (ad a1)] S (some (.int r)) S' :=
  Ct_of (own := RX0) mX0_priceOf rfl (Nat.le_of_ble_eq_true rfl) (fun G e1 e2 e3 e4 C => by subst e1 e2 e3 e4; exact wX0_priceOf C h)
def fX1_isFull (n : Nat) (S : St) : Option (St × Int32) :=
  if (S.1 234 9) < 40 then
    some (S, 0)
  else
    some (S, 1)
set_option maxRecDepth 100000 in
set_option maxHeartbeats 4000000 in
theorem wX1_isFull (C : Cx G sdX cX1_isFull 1 RX1 (some .boolean)) {n : Nat} {S S' : St} {r : Int32} (h : fX1_isFull n S = some (S', r)) : Wp G sdX (rmOf 0 0) 1 (Qm G sdX (some (.int r)) S') S 0 [(0, .ref (gA G 234))] [] := by
  unfold fX1_isFull at h
  refine wp_aload_n (pc := 0) C 0 dX1_isFull_0 rfl rfl ?_
  refine wp_getI (pc := 1) C flX1_41 rfl (Nat.le_of_ble_eq_true rfl) rfl dX1_isFull_1 ?_
  refine wp_bipush (v := 40) (pc := 4) C dX1_isFull_4 (by decide) ?_
  refine wp_icmp_lt (pc := 6) C 13 dX1_isFull_6 (by decide) (fun q => ?_) (fun q => ?_)
  · have h := it_pos q h
    refine wp_iconst (v := 0) (pc := 13) C dX1_isFull_13 (by decide) ?_
    exact rt_z C (Or.inl rfl) rfl h dX1_isFull_14
  · have h := it_neg q h
    refine wp_iconst (v := 1) (pc := 9) C dX1_isFull_9 (by decide) ?_
    refine wp_goto (pc := 10) C 14 dX1_isFull_10 (by decide) ?_
    exact rt_z C (Or.inr rfl) rfl h dX1_isFull_14
theorem CtX1_isFull {n : Nat} {S S' : St} {r : Int32} (h : fX1_isFull n S = some (S', r)) : Ct l sdX cy ad D yX1_isFull cX1_isFull 1 (some .boolean) 0 0 [.ref (ad 234)] S (some (.int r)) S' :=
  Ct_of (own := RX1) mX1_isFull rfl (Nat.le_of_ble_eq_true rfl) (fun G e1 e2 e3 e4 C => by subst e1 e2 e3 e4; exact wX1_isFull C h)
def fX1_tell (n : Nat) (S : St) (x1 : Int32) (x2 : Int32) (x3 : Int32) (x4 : Int32) (x5 : Int32) : Option (St × Int32) :=
  bd (fX1_isFull n S) (fun S1 r2 =>
  if r2 = 0 then
    gd (ib (S1.1 234 9) 40) (
    bn (sI S1 235 (Int32.toNatClampNeg (S1.1 234 9)) x1) (fun S4 : St =>
    gd (ib (S4.1 234 9) 40) (
    bn (sI S4 236 (Int32.toNatClampNeg (S4.1 234 9)) x2) (fun S6 : St =>
    gd (ib (S6.1 234 9) 40) (
    bn (sI S6 237 (Int32.toNatClampNeg (S6.1 234 9)) x3) (fun S8 : St =>
    gd (ib (S8.1 234 9) 40) (
    bn (sI S8 238 (Int32.toNatClampNeg (S8.1 234 9)) x4) (fun S10 : St =>
    gd (ib (S10.1 234 9) 40) (
    bn (sI S10 239 (Int32.toNatClampNeg (S10.1 234 9)) x5) (fun S12 : St =>
    gd (ib (S12.1 234 9) 40) (
    bn (sI S12 240 (Int32.toNatClampNeg (S12.1 234 9)) (-1)) (fun S14 : St =>
    bn (sI S14 234 9 ((S14.1 234 9) + 1)) (fun S15 : St =>
    some (S15, (S15.1 234 9) - 1))))))))))))))
  else
    some (S1, (-1)))
set_option maxRecDepth 100000 in
set_option maxHeartbeats 4000000 in
theorem wX1_tell (C : Cx G sdX cX1_tell 6 RX1 (some .int)) {n : Nat} {S S' : St} {r : Int32} {x1 : Int32} {x2 : Int32} {x3 : Int32} {x4 : Int32} {x5 : Int32} (h : fX1_tell n S x1 x2 x3 x4 x5 = some (S', r)) : Wp G sdX (rmOf 1 20) 6 (Qm G sdX (some (.int r)) S') S 0 [(0, .ref (gA G 234)), (1, .int x1), (2, .int x2), (3, .int x3), (4, .int x4), (5, .int x5)] [] := by
  unfold fX1_tell at h
  refine wp_aload_n (pc := 0) C 0 dX1_tell_0 rfl rfl ?_
  obtain ⟨S1, r2, cS1, h⟩ := bd_some h
  refine wp_callVi (As := []) (st := []) (pc := 1) C (CtX1_isFull cS1) mX1_isFull iX1_isFull kX1_44 (Nat.le_of_ble_eq_true rfl) rfl (by decide) rfl rfl rfl rfl (Nat.le_of_ble_eq_true rfl) ⟨Nat.le_of_ble_eq_true rfl, Nat.le_of_ble_eq_true rfl⟩ dX1_tell_1 ?_
  refine wp_if_eq (pc := 4) C 9 dX1_tell_4 (by decide) (fun q => ?_) (fun q => ?_)
  · have h := it_pos q h
    refine wp_aload_n (pc := 9) C 0 dX1_tell_9 rfl rfl ?_
    refine wp_getS (v := 235) (pc := 10) C flX1_9 rfl rfl (Nat.le_of_ble_eq_true rfl) (Nat.le_of_ble_eq_true rfl) rfl dX1_tell_10 ?_
    refine wp_aload_n (pc := 13) C 0 dX1_tell_13 rfl rfl ?_
    refine wp_getI (pc := 14) C flX1_41 rfl (Nat.le_of_ble_eq_true rfl) rfl dX1_tell_14 ?_
    refine wp_iload_n (pc := 17) C 1 dX1_tell_17 rfl rfl ?_
    obtain ⟨g3, h⟩ := gd_some h
    obtain ⟨S4, eS4, h⟩ := bn_some h
    refine wp_iast (pc := 18) C eS4 (Nat.le_of_ble_eq_true rfl) rfl g3 dX1_tell_18 ?_
    refine wp_aload_n (pc := 19) C 0 dX1_tell_19 rfl rfl ?_
    refine wp_getS (v := 236) (pc := 20) C flX1_15 rfl rfl (Nat.le_of_ble_eq_true rfl) (Nat.le_of_ble_eq_true rfl) rfl dX1_tell_20 ?_
    refine wp_aload_n (pc := 23) C 0 dX1_tell_23 rfl rfl ?_
    refine wp_getI (pc := 24) C flX1_41 rfl (Nat.le_of_ble_eq_true rfl) rfl dX1_tell_24 ?_
    refine wp_iload_n (pc := 27) C 2 dX1_tell_27 rfl rfl ?_
    obtain ⟨g5, h⟩ := gd_some h
    obtain ⟨S6, eS6, h⟩ := bn_some h
    refine wp_iast (pc := 28) C eS6 (Nat.le_of_ble_eq_true rfl) rfl g5 dX1_tell_28 ?_
    refine wp_aload_n (pc := 29) C 0 dX1_tell_29 rfl rfl ?_
    refine wp_getS (v := 237) (pc := 30) C flX1_18 rfl rfl (Nat.le_of_ble_eq_true rfl) (Nat.le_of_ble_eq_true rfl) rfl dX1_tell_30 ?_
    refine wp_aload_n (pc := 33) C 0 dX1_tell_33 rfl rfl ?_
    refine wp_getI (pc := 34) C flX1_41 rfl (Nat.le_of_ble_eq_true rfl) rfl dX1_tell_34 ?_
    refine wp_iload_n (pc := 37) C 3 dX1_tell_37 rfl rfl ?_
    obtain ⟨g7, h⟩ := gd_some h
    obtain ⟨S8, eS8, h⟩ := bn_some h
    refine wp_iast (pc := 38) C eS8 (Nat.le_of_ble_eq_true rfl) rfl g7 dX1_tell_38 ?_
    refine wp_aload_n (pc := 39) C 0 dX1_tell_39 rfl rfl ?_
    refine wp_getS (v := 238) (pc := 40) C flX1_21 rfl rfl (Nat.le_of_ble_eq_true rfl) (Nat.le_of_ble_eq_true rfl) rfl dX1_tell_40 ?_
    refine wp_aload_n (pc := 43) C 0 dX1_tell_43 rfl rfl ?_
    refine wp_getI (pc := 44) C flX1_41 rfl (Nat.le_of_ble_eq_true rfl) rfl dX1_tell_44 ?_
    refine wp_iload (pc := 47) C 4 dX1_tell_47 rfl ?_
    obtain ⟨g9, h⟩ := gd_some h
    obtain ⟨S10, eS10, h⟩ := bn_some h
    refine wp_iast (pc := 49) C eS10 (Nat.le_of_ble_eq_true rfl) rfl g9 dX1_tell_49 ?_
    refine wp_aload_n (pc := 50) C 0 dX1_tell_50 rfl rfl ?_
    refine wp_getS (v := 239) (pc := 51) C flX1_24 rfl rfl (Nat.le_of_ble_eq_true rfl) (Nat.le_of_ble_eq_true rfl) rfl dX1_tell_51 ?_
    refine wp_aload_n (pc := 54) C 0 dX1_tell_54 rfl rfl ?_
    refine wp_getI (pc := 55) C flX1_41 rfl (Nat.le_of_ble_eq_true rfl) rfl dX1_tell_55 ?_
    refine wp_iload (pc := 58) C 5 dX1_tell_58 rfl ?_
    obtain ⟨g11, h⟩ := gd_some h
    obtain ⟨S12, eS12, h⟩ := bn_some h
    refine wp_iast (pc := 60) C eS12 (Nat.le_of_ble_eq_true rfl) rfl g11 dX1_tell_60 ?_
    refine wp_aload_n (pc := 61) C 0 dX1_tell_61 rfl rfl ?_
    refine wp_getS (v := 240) (pc := 62) C flX1_27 rfl rfl (Nat.le_of_ble_eq_true rfl) (Nat.le_of_ble_eq_true rfl) rfl dX1_tell_62 ?_
    refine wp_aload_n (pc := 65) C 0 dX1_tell_65 rfl rfl ?_
    refine wp_getI (pc := 66) C flX1_41 rfl (Nat.le_of_ble_eq_true rfl) rfl dX1_tell_66 ?_
    refine wp_iconst (v := (-1)) (pc := 69) C dX1_tell_69 (by decide) ?_
    obtain ⟨g13, h⟩ := gd_some h
    obtain ⟨S14, eS14, h⟩ := bn_some h
    refine wp_iast (pc := 70) C eS14 (Nat.le_of_ble_eq_true rfl) rfl g13 dX1_tell_70 ?_
    refine wp_aload_n (pc := 71) C 0 dX1_tell_71 rfl rfl ?_
    refine wp_dup (pc := 72) C dX1_tell_72 rfl ?_
    refine wp_getI (pc := 73) C flX1_41 rfl (Nat.le_of_ble_eq_true rfl) rfl dX1_tell_73 ?_
    refine wp_iconst (v := 1) (pc := 76) C dX1_tell_76 (by decide) ?_
    refine wp_iadd (pc := 77) C dX1_tell_77 ?_
    obtain ⟨S15, eS15, h⟩ := bn_some h
    refine wp_putI (pc := 78) C eS15 flX1_41 fpX1_9 rfl (Nat.le_of_ble_eq_true rfl) rfl dX1_tell_78 ?_
    refine wp_aload_n (pc := 81) C 0 dX1_tell_81 rfl rfl ?_
    refine wp_getI (pc := 82) C flX1_41 rfl (Nat.le_of_ble_eq_true rfl) rfl dX1_tell_82 ?_
    refine wp_iconst (v := 1) (pc := 85) C dX1_tell_85 (by decide) ?_
    refine wp_isub (pc := 86) C dX1_tell_86 ?_
    exact rt_i C rfl h dX1_tell_87
  · have h := it_neg q h
    refine wp_iconst (v := (-1)) (pc := 7) C dX1_tell_7 (by decide) ?_
    exact rt_i C rfl h dX1_tell_8
theorem CtX1_tell {n : Nat} {S S' : St} {r : Int32} {x1 : Int32} {x2 : Int32} {x3 : Int32} {x4 : Int32} {x5 : Int32} (h : fX1_tell n S x1 x2 x3 x4 x5 = some (S', r)) : Ct l sdX cy ad D yX1_tell cX1_tell 6 (some .int) 1 20 [.ref (ad 234), .int x1, .int x2, .int x3, .int x4, .int x5] S (some (.int r)) S' :=
  Ct_of (own := RX1) mX1_tell rfl (Nat.le_of_ble_eq_true rfl) (fun G e1 e2 e3 e4 C => by subst e1 e2 e3 e4; exact wX1_tell C h)
def fX1_takeBack (n : Nat) (S : St) (x1 : Int32) (x2 : Int32) : Option (St × Int32) :=
  if x1 < 0 then
    some (S, 0)
  else
    if (S.1 234 9) ≤ x1 then
      some (S, 0)
    else
      gd (ib x1 40) (
      if (S.1 240 (Int32.toNatClampNeg x1)) = (-1) then
        gd (ib x1 40) (
        bn (sI S 240 (Int32.toNatClampNeg x1) x2) (fun S3 : St =>
        some (S3, 1)))
      else
        some (S, 0))
set_option maxRecDepth 100000 in
set_option maxHeartbeats 4000000 in
theorem wX1_takeBack (C : Cx G sdX cX1_takeBack 3 RX1 (some .boolean)) {n : Nat} {S S' : St} {r : Int32} {x1 : Int32} {x2 : Int32} (h : fX1_takeBack n S x1 x2 = some (S', r)) : Wp G sdX (rmOf 0 0) 3 (Qm G sdX (some (.int r)) S') S 0 [(0, .ref (gA G 234)), (1, .int x1), (2, .int x2)] [] := by
  unfold fX1_takeBack at h
  refine wp_iload_n (pc := 0) C 1 dX1_takeBack_0 rfl rfl ?_
  refine wp_if_lt (pc := 1) C 22 dX1_takeBack_1 (by decide) (fun q => ?_) (fun q => ?_)
  · have h := it_pos q h
    refine wp_iconst (v := 0) (pc := 22) C dX1_takeBack_22 (by decide) ?_
    exact rt_z C (Or.inl rfl) rfl h dX1_takeBack_23
  · have h := it_neg q h
    refine wp_iload_n (pc := 4) C 1 dX1_takeBack_4 rfl rfl ?_
    refine wp_aload_n (pc := 5) C 0 dX1_takeBack_5 rfl rfl ?_
    refine wp_getI (pc := 6) C flX1_41 rfl (Nat.le_of_ble_eq_true rfl) rfl dX1_takeBack_6 ?_
    refine wp_icmp_ge (pc := 9) C 22 dX1_takeBack_9 (by decide) (fun q => ?_) (fun q => ?_)
    · have h := it_pos q h
      refine wp_iconst (v := 0) (pc := 22) C dX1_takeBack_22 (by decide) ?_
      exact rt_z C (Or.inl rfl) rfl h dX1_takeBack_23
    · have h := it_neg q h
      refine wp_aload_n (pc := 12) C 0 dX1_takeBack_12 rfl rfl ?_
      refine wp_getS (v := 240) (pc := 13) C flX1_27 rfl rfl (Nat.le_of_ble_eq_true rfl) (Nat.le_of_ble_eq_true rfl) rfl dX1_takeBack_13 ?_
      refine wp_iload_n (pc := 16) C 1 dX1_takeBack_16 rfl rfl ?_
      obtain ⟨g1, h⟩ := gd_some h
      refine wp_iald (pc := 17) C (Nat.le_of_ble_eq_true rfl) rfl g1 dX1_takeBack_17 ?_
      refine wp_iconst (v := (-1)) (pc := 18) C dX1_takeBack_18 (by decide) ?_
      refine wp_icmp_eq (pc := 19) C 24 dX1_takeBack_19 (by decide) (fun q => ?_) (fun q => ?_)
      · have h := it_pos q h
        refine wp_aload_n (pc := 24) C 0 dX1_takeBack_24 rfl rfl ?_
        refine wp_getS (v := 240) (pc := 25) C flX1_27 rfl rfl (Nat.le_of_ble_eq_true rfl) (Nat.le_of_ble_eq_true rfl) rfl dX1_takeBack_25 ?_
        refine wp_iload_n (pc := 28) C 1 dX1_takeBack_28 rfl rfl ?_
        refine wp_iload_n (pc := 29) C 2 dX1_takeBack_29 rfl rfl ?_
        obtain ⟨g2, h⟩ := gd_some h
        obtain ⟨S3, eS3, h⟩ := bn_some h
        refine wp_iast (pc := 30) C eS3 (Nat.le_of_ble_eq_true rfl) rfl g2 dX1_takeBack_30 ?_
        refine wp_iconst (v := 1) (pc := 31) C dX1_takeBack_31 (by decide) ?_
        exact rt_z C (Or.inr rfl) rfl h dX1_takeBack_32
      · have h := it_neg q h
        refine wp_iconst (v := 0) (pc := 22) C dX1_takeBack_22 (by decide) ?_
        exact rt_z C (Or.inl rfl) rfl h dX1_takeBack_23
theorem CtX1_takeBack {n : Nat} {S S' : St} {r : Int32} {x1 : Int32} {x2 : Int32} (h : fX1_takeBack n S x1 x2 = some (S', r)) : Ct l sdX cy ad D yX1_takeBack cX1_takeBack 3 (some .boolean) 0 0 [.ref (ad 234), .int x1, .int x2] S (some (.int r)) S' :=
  Ct_of (own := RX1) mX1_takeBack rfl (Nat.le_of_ble_eq_true rfl) (fun G e1 e2 e3 e4 C => by subst e1 e2 e3 e4; exact wX1_takeBack C h)
def fX1_counts_j30 (n : Nat) (S : St) : Option (St × Int32) :=
  some (S, 1)
set_option maxRecDepth 100000 in
set_option maxHeartbeats 4000000 in
theorem wX1_counts_j30 (C : Cx G sdX cX1_counts 3 RX1 (some .boolean)) {n : Nat} {S S' : St} {r : Int32} (h : fX1_counts_j30 n S = some (S', r)) : Wp G sdX (rmOf 0 0) 3 (Qm G sdX (some (.int r)) S') S 30 [] [] := by
  unfold fX1_counts_j30 at h
  refine wp_iconst (v := 1) (pc := 30) C dX1_counts_30 (by decide) ?_
  refine wp_goto (pc := 31) C 35 dX1_counts_31 (by decide) ?_
  exact rt_z C (Or.inr rfl) rfl h dX1_counts_35
def fX1_counts (n : Nat) (S : St) (x1 : Int32) (x2 : Int32) : Option (St × Int32) :=
  gd (ib x1 40) (
  if x2 < (S.1 239 (Int32.toNatClampNeg x1)) then
    some (S, 0)
  else
    gd (ib x1 40) (
    if (S.1 240 (Int32.toNatClampNeg x1)) = (-1) then
      fX1_counts_j30 n S
    else
      gd (ib x1 40) (
      if (S.1 240 (Int32.toNatClampNeg x1)) ≤ x2 then
        some (S, 0)
      else
        fX1_counts_j30 n S)))
set_option maxRecDepth 100000 in
set_option maxHeartbeats 4000000 in
theorem wX1_counts (C : Cx G sdX cX1_counts 3 RX1 (some .boolean)) {n : Nat} {S S' : St} {r : Int32} {x1 : Int32} {x2 : Int32} (h : fX1_counts n S x1 x2 = some (S', r)) : Wp G sdX (rmOf 0 0) 3 (Qm G sdX (some (.int r)) S') S 0 [(0, .ref (gA G 234)), (1, .int x1), (2, .int x2)] [] := by
  unfold fX1_counts at h
  refine wp_aload_n (pc := 0) C 0 dX1_counts_0 rfl rfl ?_
  refine wp_getS (v := 239) (pc := 1) C flX1_24 rfl rfl (Nat.le_of_ble_eq_true rfl) (Nat.le_of_ble_eq_true rfl) rfl dX1_counts_1 ?_
  refine wp_iload_n (pc := 4) C 1 dX1_counts_4 rfl rfl ?_
  obtain ⟨g1, h⟩ := gd_some h
  refine wp_iald (pc := 5) C (Nat.le_of_ble_eq_true rfl) rfl g1 dX1_counts_5 ?_
  refine wp_iload_n (pc := 6) C 2 dX1_counts_6 rfl rfl ?_
  refine wp_icmp_gt (pc := 7) C 34 dX1_counts_7 (by decide) (fun q => ?_) (fun q => ?_)
  · have h := it_pos q h
    refine wp_iconst (v := 0) (pc := 34) C dX1_counts_34 (by decide) ?_
    exact rt_z C (Or.inl rfl) rfl h dX1_counts_35
  · have h := it_neg q h
    refine wp_aload_n (pc := 10) C 0 dX1_counts_10 rfl rfl ?_
    refine wp_getS (v := 240) (pc := 11) C flX1_27 rfl rfl (Nat.le_of_ble_eq_true rfl) (Nat.le_of_ble_eq_true rfl) rfl dX1_counts_11 ?_
    refine wp_iload_n (pc := 14) C 1 dX1_counts_14 rfl rfl ?_
    obtain ⟨g2, h⟩ := gd_some h
    refine wp_iald (pc := 15) C (Nat.le_of_ble_eq_true rfl) rfl g2 dX1_counts_15 ?_
    refine wp_iconst (v := (-1)) (pc := 16) C dX1_counts_16 (by decide) ?_
    refine wp_icmp_eq (pc := 17) C 30 dX1_counts_17 (by decide) (fun q => ?_) (fun q => ?_)
    · have h := it_pos q h
      exact wp_sub C [] rfl (wX1_counts_j30 C h)
    · have h := it_neg q h
      refine wp_aload_n (pc := 20) C 0 dX1_counts_20 rfl rfl ?_
      refine wp_getS (v := 240) (pc := 21) C flX1_27 rfl rfl (Nat.le_of_ble_eq_true rfl) (Nat.le_of_ble_eq_true rfl) rfl dX1_counts_21 ?_
      refine wp_iload_n (pc := 24) C 1 dX1_counts_24 rfl rfl ?_
      obtain ⟨g3, h⟩ := gd_some h
      refine wp_iald (pc := 25) C (Nat.le_of_ble_eq_true rfl) rfl g3 dX1_counts_25 ?_
      refine wp_iload_n (pc := 26) C 2 dX1_counts_26 rfl rfl ?_
      refine wp_icmp_le (pc := 27) C 34 dX1_counts_27 (by decide) (fun q => ?_) (fun q => ?_)
      · have h := it_pos q h
        refine wp_iconst (v := 0) (pc := 34) C dX1_counts_34 (by decide) ?_
        exact rt_z C (Or.inl rfl) rfl h dX1_counts_35
      · have h := it_neg q h
        exact wp_sub C [] rfl (wX1_counts_j30 C h)
theorem CtX1_counts {n : Nat} {S S' : St} {r : Int32} {x1 : Int32} {x2 : Int32} (h : fX1_counts n S x1 x2 = some (S', r)) : Ct l sdX cy ad D yX1_counts cX1_counts 3 (some .boolean) 0 0 [.ref (ad 234), .int x1, .int x2] S (some (.int r)) S' :=
  Ct_of (own := RX1) mX1_counts rfl (Nat.le_of_ble_eq_true rfl) (fun G e1 e2 e3 e4 C => by subst e1 e2 e3 e4; exact wX1_counts C h)
def fX1_fits_j79 (n : Nat) (k3 : St → Nat → Nat → Int32 → Int32 → Option (St × Int32)) (S : St) (a1 : Nat) (a2 : Nat) (x3 : Int32) (x4 : Int32) : Option (St × Int32) :=
  bn (x4 + 1) (fun z1 : Int32 =>
  k3 S a1 a2 x3 z1)
set_option maxRecDepth 100000 in
set_option maxHeartbeats 4000000 in
theorem wX1_fits_j79 (C : Cx G sdX cX1_fits 7 RX1 (some .boolean)) {n : Nat} {k3 : St → Nat → Nat → Int32 → Int32 → Option (St × Int32)} {S S' : St} {r : Int32} {a1 : Nat} {a2 : Nat} {x3 : Int32} {x4 : Int32} (hk3 : ∀ (S : St) (a1 : Nat) (a2 : Nat) (x3 : Int32) (x4 : Int32), k3 S a1 a2 x3 x4 = some (S', r) → Wp G sdX (rmOf 1 27) 7 (Qm G sdX (some (.int r)) S') S 3 [(0, .ref (gA G 234)), (1, .ref (gA G a1)), (2, .ref (gA G a2)), (3, .int x3), (4, .int x4)] []) (h : fX1_fits_j79 n k3 S a1 a2 x3 x4 = some (S', r)) : Wp G sdX (rmOf 1 27) 7 (Qm G sdX (some (.int r)) S') S 79 [(0, .ref (gA G 234)), (1, .ref (gA G a1)), (2, .ref (gA G a2)), (3, .int x3), (4, .int x4)] [] := by
  unfold fX1_fits_j79 at h
  obtain ⟨z1, ez1, h⟩ := bn_some h
  refine wp_iinc (q := 4) (pc := 79) C (by decide) ez1 [(4, .int z1), (0, .ref (gA G 234)), (1, .ref (gA G a1)), (2, .ref (gA G a2)), (3, .int x3)] dX1_fits_79 rfl (Nat.le_of_ble_eq_true rfl) rfl ?_
  refine wp_goto (pc := 82) C 3 dX1_fits_82 (by decide) ?_
  exact wp_sub C [1, 2, 3, 4, 0] rfl (hk3 _ _ _ _ _ h)
def fX1_fits_l3 (n : Nat) : Nat → St → Nat → Nat → Int32 → Int32 → Option (St × Int32)
  | 0, _, _, _, _, _ => none
  | j + 1, S, a1, a2, x3, x4 =>
    if (S.1 234 9) ≤ x4 then
      some (S, 1)
    else
      bd (fX1_counts n S x4 x3) (fun S1 r2 =>
      if r2 = 0 then
        fX1_fits_j79 n (fX1_fits_l3 n j) S1 a1 a2 x3 x4
      else
        gd (ib x4 40) (
        gd (ib x4 40) (
        gd (isK sdX a1 0) (
        bd (fX0_seenOf sdX n S1 a1 a2 (S1.1 235 (Int32.toNatClampNeg x4)) (S1.1 236 (Int32.toNatClampNeg x4))) (fun S6 r7 =>
        gd (ib x4 40) (
        bn (r7 - ((((S6.1 237 (Int32.toNatClampNeg x4)) : Int32).toInt64) * 1000)) (fun z9 : Int64 =>
        gd (ib x4 40) (
        if (lg_cmp (if 0 < z9 then z9 else -z9) ((((S6.1 238 (Int32.toNatClampNeg x4)) : Int32).toInt64) * 1000)) ≤ 0 then
          fX1_fits_j79 n (fX1_fits_l3 n j) S6 a1 a2 x3 x4
        else
          some (S6, 0)))))))))
set_option maxRecDepth 100000 in
set_option maxHeartbeats 4000000 in
theorem wX1_fits_l3 (C : Cx G sdX cX1_fits 7 RX1 (some .boolean)) {n : Nat} {S' : St} {r : Int32} : ∀ (j : Nat) (S : St) (a1 : Nat) (a2 : Nat) (x3 : Int32) (x4 : Int32), fX1_fits_l3 n j S a1 a2 x3 x4 = some (S', r) → Wp G sdX (rmOf 1 27) 7 (Qm G sdX (some (.int r)) S') S 3 [(0, .ref (gA G 234)), (1, .ref (gA G a1)), (2, .ref (gA G a2)), (3, .int x3), (4, .int x4)] [] := by
  intro j
  induction j with
  | zero =>
    intro S a1 a2 x3 x4 h
    exact nomatch (show (none : Option (St × Int32)) = some _ from h)
  | succ j ih =>
    intro S a1 a2 x3 x4 h
    rw [fX1_fits_l3] at h
    refine wp_iload (pc := 3) C 4 dX1_fits_3 rfl ?_
    refine wp_aload_n (pc := 5) C 0 dX1_fits_5 rfl rfl ?_
    refine wp_getI (pc := 6) C flX1_41 rfl (Nat.le_of_ble_eq_true rfl) rfl dX1_fits_6 ?_
    refine wp_icmp_ge (pc := 9) C 85 dX1_fits_9 (by decide) (fun q => ?_) (fun q => ?_)
    · have h := it_pos q h
      refine wp_iconst (v := 1) (pc := 85) C dX1_fits_85 (by decide) ?_
      exact rt_z C (Or.inr rfl) rfl h dX1_fits_86
    · have h := it_neg q h
      refine wp_aload_n (pc := 12) C 0 dX1_fits_12 rfl rfl ?_
      refine wp_iload (pc := 13) C 4 dX1_fits_13 rfl ?_
      refine wp_iload_n (pc := 15) C 3 dX1_fits_15 rfl rfl ?_
      obtain ⟨S1, r2, cS1, h⟩ := bd_some h
      refine wp_callVi (As := [.int x4, .int x3]) (st := []) (pc := 16) C (CtX1_counts cS1) mX1_counts iX1_counts kX1_59 (Nat.le_of_ble_eq_true rfl) rfl (by decide) rfl rfl rfl rfl (Nat.le_of_ble_eq_true rfl) ⟨Nat.le_of_ble_eq_true rfl, Nat.le_of_ble_eq_true rfl⟩ dX1_fits_16 ?_
      refine wp_if_eq (pc := 19) C 79 dX1_fits_19 (by decide) (fun q => ?_) (fun q => ?_)
      · have h := it_pos q h
        exact (wX1_fits_j79 C ih h)
      · have h := it_neg q h
        refine wp_aload_n (pc := 22) C 1 dX1_fits_22 rfl rfl ?_
        refine wp_aload_n (pc := 23) C 2 dX1_fits_23 rfl rfl ?_
        refine wp_aload_n (pc := 24) C 0 dX1_fits_24 rfl rfl ?_
        refine wp_getS (v := 235) (pc := 25) C flX1_9 rfl rfl (Nat.le_of_ble_eq_true rfl) (Nat.le_of_ble_eq_true rfl) rfl dX1_fits_25 ?_
        refine wp_iload (pc := 28) C 4 dX1_fits_28 rfl ?_
        obtain ⟨g3, h⟩ := gd_some h
        refine wp_iald (pc := 30) C (Nat.le_of_ble_eq_true rfl) rfl g3 dX1_fits_30 ?_
        refine wp_aload_n (pc := 31) C 0 dX1_fits_31 rfl rfl ?_
        refine wp_getS (v := 236) (pc := 32) C flX1_15 rfl rfl (Nat.le_of_ble_eq_true rfl) (Nat.le_of_ble_eq_true rfl) rfl dX1_fits_32 ?_
        refine wp_iload (pc := 35) C 4 dX1_fits_35 rfl ?_
        obtain ⟨g4, h⟩ := gd_some h
        refine wp_iald (pc := 37) C (Nat.le_of_ble_eq_true rfl) rfl g4 dX1_fits_37 ?_
        obtain ⟨g5, h⟩ := gd_some h
        obtain ⟨S6, r7, cS6, h⟩ := bd_some h
        refine wp_callVl (As := [.ref (gA G a2), .int (S1.1 235 (Int32.toNatClampNeg x4)), .int (S1.1 236 (Int32.toNatClampNeg x4))]) (st := []) (pc := 38) C (CtX0_seenOf cS6) mX0_seenOf iX0_seenOf kX1_63 g5.1 g5.2 (by decide) rfl rfl rfl rfl (Nat.le_of_ble_eq_true rfl) ⟨Nat.le_of_ble_eq_true rfl, Nat.le_of_ble_eq_true rfl⟩ dX1_fits_38 ?_
        refine wp_aload_n (pc := 41) C 0 dX1_fits_41 rfl rfl ?_
        refine wp_getS (v := 237) (pc := 42) C flX1_18 rfl rfl (Nat.le_of_ble_eq_true rfl) (Nat.le_of_ble_eq_true rfl) rfl dX1_fits_42 ?_
        refine wp_iload (pc := 45) C 4 dX1_fits_45 rfl ?_
        obtain ⟨g8, h⟩ := gd_some h
        refine wp_iald (pc := 47) C (Nat.le_of_ble_eq_true rfl) rfl g8 dX1_fits_47 ?_
        refine wp_i2l (pc := 48) C dX1_fits_48 ?_
        refine wp_ldc2 (pc := 49) C qX1_69 dX1_fits_49 ?_
        refine wp_lmul (pc := 52) C dX1_fits_52 ?_
        refine wp_lsub (pc := 53) C dX1_fits_53 ?_
        obtain ⟨z9, ez9, h⟩ := bn_some h
        refine wp_lstore (pc := 54) C ez9 [(5, .long z9), (0, .ref (gA G 234)), (1, .ref (gA G a1)), (2, .ref (gA G a2)), (3, .int x3), (4, .int x4)] dX1_fits_54 (Nat.le_of_ble_eq_true rfl) rfl ?_
        refine wp_lload (pc := 56) C 0 dX1_fits_56 rfl ?_
        refine wp_absL (pc := 58) C kX1_71 (Nat.le_of_ble_eq_true rfl) (Nat.le_of_ble_eq_true rfl) dX1_fits_58 ?_
        refine wp_aload_n (pc := 61) C 1 dX1_fits_61 rfl rfl ?_
        refine wp_getS (v := 238) (pc := 62) C flX1_21 rfl rfl (Nat.le_of_ble_eq_true rfl) (Nat.le_of_ble_eq_true rfl) rfl dX1_fits_62 ?_
        refine wp_iload (pc := 65) C 5 dX1_fits_65 rfl ?_
        obtain ⟨g10, h⟩ := gd_some h
        refine wp_iald (pc := 67) C (Nat.le_of_ble_eq_true rfl) rfl g10 dX1_fits_67 ?_
        refine wp_i2l (pc := 68) C dX1_fits_68 ?_
        refine wp_ldc2 (pc := 69) C qX1_69 dX1_fits_69 ?_
        refine wp_lmul (pc := 72) C dX1_fits_72 ?_
        refine wp_lcmp (pc := 73) C dX1_fits_73 ?_
        refine wp_if_le (pc := 74) C 79 dX1_fits_74 (by decide) (fun q => ?_) (fun q => ?_)
        · have h := it_pos q h
          exact wp_sub C [1, 2, 3, 4, 5] rfl (wX1_fits_j79 C ih h)
        · have h := it_neg q h
          refine wp_iconst (v := 0) (pc := 77) C dX1_fits_77 (by decide) ?_
          exact rt_z C (Or.inl rfl) rfl h dX1_fits_78
def fX1_fits (n : Nat) (S : St) (a1 : Nat) (a2 : Nat) (x3 : Int32) : Option (St × Int32) :=
  fX1_fits_l3 n n S a1 a2 x3 0
set_option maxRecDepth 100000 in
set_option maxHeartbeats 4000000 in
theorem wX1_fits (C : Cx G sdX cX1_fits 7 RX1 (some .boolean)) {n : Nat} {S S' : St} {r : Int32} {a1 : Nat} {a2 : Nat} {x3 : Int32} (h : fX1_fits n S a1 a2 x3 = some (S', r)) : Wp G sdX (rmOf 1 27) 7 (Qm G sdX (some (.int r)) S') S 0 [(0, .ref (gA G 234)), (1, .ref (gA G a1)), (2, .ref (gA G a2)), (3, .int x3)] [] := by
  unfold fX1_fits at h
  refine wp_iconst (v := 0) (pc := 0) C dX1_fits_0 (by decide) ?_
  refine wp_istore (pc := 1) C rfl [(4, .int 0), (0, .ref (gA G 234)), (1, .ref (gA G a1)), (2, .ref (gA G a2)), (3, .int x3)] dX1_fits_1 (Nat.le_of_ble_eq_true rfl) rfl ?_
  exact wp_sub C [1, 2, 3, 4, 0] rfl (wX1_fits_l3 C _ _ _ _ _ _ h)
theorem CtX1_fits {n : Nat} {S S' : St} {r : Int32} {a1 : Nat} {a2 : Nat} {x3 : Int32} (h : fX1_fits n S a1 a2 x3 = some (S', r)) : Ct l sdX cy ad D yX1_fits cX1_fits 7 (some .boolean) 1 27 [.ref (ad 234), .ref (ad a1), .ref (ad a2), .int x3] S (some (.int r)) S' :=
  Ct_of (own := RX1) mX1_fits rfl (Nat.le_of_ble_eq_true rfl) (fun G e1 e2 e3 e4 C => by subst e1 e2 e3 e4; exact wX1_fits C h)
end
