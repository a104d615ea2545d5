section
variable {G : Gx} {l : Launch} {cy : Nat → ClassId} {ad : Nat → Nat} {D : va_G}
def fX10_set (n : Nat) (S : St) (x1 : Int32) : Option (St × Int32) :=
  gd (isK sdX (S.2.2 0 2) 0) (
  gd (isK sdX (srX (S.2.2 0 2) 1) 5) (
  bd (fX5_has sdX n S (srX (S.2.2 0 2) 1) x1) (fun S3 r4 =>
  if r4 = 0 then
    some (S3, 0)
  else
    bd (fX8_putOn sdX n S3 261 x1) (fun S5 r6 =>
    some (S5, 1)))))
set_option maxRecDepth 100000 in
set_option maxHeartbeats 4000000 in
theorem wX10_set (C : Cx G sdX cX10_set 2 RX10 (some .boolean)) {n : Nat} {S S' : St} {r : Int32} {x1 : Int32} (h : fX10_set n S x1 = some (S', r)) : Wp G sdX (rmOf 2 44) 2 (Qm G sdX (some (.int r)) S') S 0 [(0, .ref (gA G 0)), (1, .int x1)] [] := by
  unfold fX10_set at h
  refine wp_aload_n (pc := 0) C 0 dX10_set_0 rfl rfl ?_
  obtain ⟨g1, h⟩ := gd_some h
  refine wp_getD (pc := 1) C flX10_19 rfl g1.1 (Nat.le_of_ble_eq_true rfl) rfl dX10_set_1 ?_
  obtain ⟨g2, h⟩ := gd_some h
  refine wp_getS (v := srX (S.2.2 0 2) 1) (pc := 4) C flX10_171 rfl rfl g2.1 g1.1 g1.2 dX10_set_4 ?_
  refine wp_iload_n (pc := 7) C 1 dX10_set_7 rfl rfl ?_
  obtain ⟨S3, r4, cS3, h⟩ := bd_some h
  refine wp_callVi (As := [.int x1]) (st := []) (pc := 8) C (CtX5_has cS3) mX5_has iX5_has kX10_140 g2.1 g2.2 (by decide) rfl rfl rfl rfl (Nat.le_of_ble_eq_true rfl) ⟨Nat.le_of_ble_eq_true rfl, Nat.le_of_ble_eq_true rfl⟩ dX10_set_8 ?_
  refine wp_if_ne (pc := 11) C 16 dX10_set_11 (by decide) (fun q => ?_) (fun q => ?_)
  · have h := it_neg q h
    refine wp_aload_n (pc := 16) C 0 dX10_set_16 rfl rfl ?_
    refine wp_getS (v := 261) (pc := 17) C flX10_61 rfl rfl (Nat.le_of_ble_eq_true rfl) (Nat.le_of_ble_eq_true rfl) rfl dX10_set_17 ?_
    refine wp_iload_n (pc := 20) C 1 dX10_set_20 rfl rfl ?_
    obtain ⟨S5, r6, cS5, h⟩ := bd_some h
    refine wp_callVv (As := [.int x1]) (st := []) (pc := 21) C (CtX8_putOn cS5) mX8_putOn iX8_putOn kX10_124 (Nat.le_of_ble_eq_true rfl) rfl (by decide) rfl rfl rfl rfl (Nat.le_of_ble_eq_true rfl) ⟨Nat.le_of_ble_eq_true rfl, Nat.le_of_ble_eq_true rfl⟩ dX10_set_21 ?_
    refine wp_iconst (v := 1) (pc := 24) C dX10_set_24 (by decide) ?_
    exact rt_z C (Or.inr rfl) rfl h dX10_set_25
  · have h := it_pos q h
    refine wp_iconst (v := 0) (pc := 14) C dX10_set_14 (by decide) ?_
    exact rt_z C (Or.inl rfl) rfl h dX10_set_15
theorem CtX10_set {n : Nat} {S S' : St} {r : Int32} {x1 : Int32} (h : fX10_set n S x1 = some (S', r)) : Ct l sdX cy ad D yX10_set cX10_set 2 (some .boolean) 2 44 [.ref (ad 0), .int x1] S (some (.int r)) S' :=
  Ct_of (own := RX10) mX10_set rfl (Nat.le_of_ble_eq_true rfl) (fun G e1 e2 e3 e4 C => by subst e1 e2 e3 e4; exact wX10_set C h)
def fX10_drop_j106 (n : Nat) (S : St) (x1 : Int32) (x2 : Int32) (y0 : Int32) : Option (St × Int32) :=
  if y0 = 0 then
    some (S, x2)
  else
    bd (fX8_total sdX n S 261) (fun S1 r2 =>
    gd (isK sdX (S1.2.2 0 2) 0) (
    if r2 < (S1.1 (S1.2.2 0 2) 10) then
      gd (ib x1 8) (
      gd (ib x1 8) (
      bn (sI S1 262 (Int32.toNatClampNeg x1) ((S1.1 262 (Int32.toNatClampNeg x1)) + 1)) (fun S6 : St =>
      some (S6, x2 + 1))))
    else
      some (S1, x2)))
set_option maxRecDepth 100000 in
set_option maxHeartbeats 4000000 in
theorem wX10_drop_j106 (C : Cx G sdX cX10_drop 4 RX10 (some .int)) {n : Nat} {S S' : St} {r : Int32} {x1 : Int32} {x2 : Int32} {y0 : Int32} (h : fX10_drop_j106 n S x1 x2 y0 = some (S', r)) : Wp G sdX (rmOf 1 22) 4 (Qm G sdX (some (.int r)) S') S 106 [(0, .ref (gA G 0)), (1, .int x1), (2, .int x2)] [.int y0] := by
  unfold fX10_drop_j106 at h
  refine wp_istore_n (pc := 106) C rfl [(3, .int y0), (0, .ref (gA G 0)), (1, .int x1), (2, .int x2)] dX10_drop_106 rfl (Nat.le_of_ble_eq_true rfl) rfl ?_
  refine wp_iload_n (pc := 107) C 0 dX10_drop_107 rfl rfl ?_
  refine wp_if_eq (pc := 108) C 128 dX10_drop_108 (by decide) (fun q => ?_) (fun q => ?_)
  · have h := it_pos q h
    refine wp_iload_n (pc := 128) C 3 dX10_drop_128 rfl rfl ?_
    exact rt_i C rfl h dX10_drop_129
  · have h := it_neg q h
    refine wp_aload_n (pc := 111) C 1 dX10_drop_111 rfl rfl ?_
    refine wp_getS (v := 261) (pc := 112) C flX10_61 rfl rfl (Nat.le_of_ble_eq_true rfl) (Nat.le_of_ble_eq_true rfl) rfl dX10_drop_112 ?_
    obtain ⟨S1, r2, cS1, h⟩ := bd_some h
    refine wp_callVi (As := []) (st := []) (pc := 115) C (CtX8_total cS1) mX8_total iX8_total kX10_237 (Nat.le_of_ble_eq_true rfl) rfl (by decide) rfl rfl rfl rfl (Nat.le_of_ble_eq_true rfl) ⟨Nat.le_of_ble_eq_true rfl, Nat.le_of_ble_eq_true rfl⟩ dX10_drop_115 ?_
    refine wp_aload_n (pc := 118) C 1 dX10_drop_118 rfl rfl ?_
    obtain ⟨g3, h⟩ := gd_some h
    refine wp_getD (pc := 119) C flX10_19 rfl g3.1 (Nat.le_of_ble_eq_true rfl) rfl dX10_drop_119 ?_
    refine wp_getI (pc := 122) C flX10_185 rfl g3.1 g3.2 dX10_drop_122 ?_
    refine wp_icmp_lt (pc := 125) C 130 dX10_drop_125 (by decide) (fun q => ?_) (fun q => ?_)
    · have h := it_pos q h
      refine wp_aload_n (pc := 130) C 1 dX10_drop_130 rfl rfl ?_
      refine wp_getS (v := 261) (pc := 131) C flX10_61 rfl rfl (Nat.le_of_ble_eq_true rfl) (Nat.le_of_ble_eq_true rfl) rfl dX10_drop_131 ?_
      refine wp_getS (v := 262) (pc := 134) C flX10_160 rfl rfl (Nat.le_of_ble_eq_true rfl) (Nat.le_of_ble_eq_true rfl) rfl dX10_drop_134 ?_
      refine wp_iload_n (pc := 137) C 2 dX10_drop_137 rfl rfl ?_
      refine wp_dup2_11 (pc := 138) C dX10_drop_138 rfl rfl ?_
      obtain ⟨g4, h⟩ := gd_some h
      refine wp_iald (pc := 139) C (Nat.le_of_ble_eq_true rfl) rfl g4 dX10_drop_139 ?_
      refine wp_iconst (v := 1) (pc := 140) C dX10_drop_140 (by decide) ?_
      refine wp_iadd (pc := 141) C dX10_drop_141 ?_
      obtain ⟨g5, h⟩ := gd_some h
      obtain ⟨S6, eS6, h⟩ := bn_some h
      refine wp_iast (pc := 142) C eS6 (Nat.le_of_ble_eq_true rfl) rfl g5 dX10_drop_142 ?_
      refine wp_iload_n (pc := 143) C 3 dX10_drop_143 rfl rfl ?_
      refine wp_iconst (v := 1) (pc := 144) C dX10_drop_144 (by decide) ?_
      refine wp_iadd (pc := 145) C dX10_drop_145 ?_
      exact rt_i C rfl h dX10_drop_146
    · have h := it_neg q h
      refine wp_iload_n (pc := 128) C 3 dX10_drop_128 rfl rfl ?_
      exact rt_i C rfl h dX10_drop_129
def fX10_drop_j105 (n : Nat) (S : St) (x1 : Int32) (x2 : Int32) : Option (St × Int32) :=
  fX10_drop_j106 n S x1 x2 0
set_option maxRecDepth 100000 in
set_option maxHeartbeats 4000000 in
theorem wX10_drop_j105 (C : Cx G sdX cX10_drop 4 RX10 (some .int)) {n : Nat} {S S' : St} {r : Int32} {x1 : Int32} {x2 : Int32} (h : fX10_drop_j105 n S x1 x2 = some (S', r)) : Wp G sdX (rmOf 1 22) 4 (Qm G sdX (some (.int r)) S') S 105 [(0, .ref (gA G 0)), (1, .int x1), (2, .int x2)] [] := by
  unfold fX10_drop_j105 at h
  refine wp_iconst (v := 0) (pc := 105) C dX10_drop_105 (by decide) ?_
  exact (wX10_drop_j106 C h)
def fX10_drop (n : Nat) (S : St) (x1 : Int32) (x2 : Int32) : Option (St × Int32) :=
  gd (isK sdX (S.2.2 0 2) 0) (
  gd (isK sdX (srX (S.2.2 0 2) 0) 5) (
  bd (fX5_has sdX n S (srX (S.2.2 0 2) 0) x1) (fun S3 r4 =>
  if r4 = 0 then
    some (S3, (-1))
  else
    gd (isK sdX (S3.2.2 0 2) 0) (
    gd (isK sdX (srX (S3.2.2 0 2) 1) 5) (
    if (S3.1 (srX (S3.2.2 0 2) 1) 3) = 0 then
      some (S3, (-1))
    else
      if x2 < 1 then
        some (S3, (-1))
      else
        if x2 ≤ 24 then
          bd (fX8_total sdX n S3 261) (fun S7 r8 =>
          gd (isK sdX (S7.2.2 0 2) 0) (
          if (r8 + x2) ≤ (S7.1 (S7.2.2 0 2) 10) then
            gd (ib x1 8) (
            gd (ib x1 8) (
            bn (sI S7 262 (Int32.toNatClampNeg x1) ((S7.1 262 (Int32.toNatClampNeg x1)) + x2)) (fun S12 : St =>
            gd (isK sdX (S12.2.2 0 2) 0) (
            if (S12.1 (S12.2.2 0 2) 12) = 0 then
              fX10_drop_j105 n S12 x1 x2
            else
              bd (fX8_drawOfTen sdX n S12 261) (fun S14 r15 =>
              gd (isK sdX (S14.2.2 0 2) 0) (
              if (S14.1 (S14.2.2 0 2) 12) ≤ r15 then
                fX10_drop_j105 n S14 x1 x2
              else
                fX10_drop_j106 n S14 x1 x2 1))))))
          else
            some (S7, (-1))))
        else
          some (S3, (-1)))))))
set_option maxRecDepth 100000 in
set_option maxHeartbeats 4000000 in
theorem wX10_drop (C : Cx G sdX cX10_drop 4 RX10 (some .int)) {n : Nat} {S S' : St} {r : Int32} {x1 : Int32} {x2 : Int32} (h : fX10_drop n S x1 x2 = some (S', r)) : Wp G sdX (rmOf 1 22) 4 (Qm G sdX (some (.int r)) S') S 0 [(0, .ref (gA G 0)), (1, .int x1), (2, .int x2)] [] := by
  unfold fX10_drop at h
  refine wp_aload_n (pc := 0) C 0 dX10_drop_0 rfl rfl ?_
  obtain ⟨g1, h⟩ := gd_some h
  refine wp_getD (pc := 1) C flX10_19 rfl g1.1 (Nat.le_of_ble_eq_true rfl) rfl dX10_drop_1 ?_
  obtain ⟨g2, h⟩ := gd_some h
  refine wp_getS (v := srX (S.2.2 0 2) 0) (pc := 4) C flX10_223 rfl rfl g2.1 g1.1 g1.2 dX10_drop_4 ?_
  refine wp_iload_n (pc := 7) C 1 dX10_drop_7 rfl rfl ?_
  obtain ⟨S3, r4, cS3, h⟩ := bd_some h
  refine wp_callVi (As := [.int x1]) (st := []) (pc := 8) C (CtX5_has cS3) mX5_has iX5_has kX10_140 g2.1 g2.2 (by decide) rfl rfl rfl rfl (Nat.le_of_ble_eq_true rfl) ⟨Nat.le_of_ble_eq_true rfl, Nat.le_of_ble_eq_true rfl⟩ dX10_drop_8 ?_
  refine wp_if_eq (pc := 11) C 38 dX10_drop_11 (by decide) (fun q => ?_) (fun q => ?_)
  · have h := it_pos q h
    refine wp_iconst (v := (-1)) (pc := 38) C dX10_drop_38 (by decide) ?_
    exact rt_i C rfl h dX10_drop_39
  · have h := it_neg q h
    refine wp_aload_n (pc := 14) C 0 dX10_drop_14 rfl rfl ?_
    obtain ⟨g5, h⟩ := gd_some h
    refine wp_getD (pc := 15) C flX10_19 rfl g5.1 (Nat.le_of_ble_eq_true rfl) rfl dX10_drop_15 ?_
    obtain ⟨g6, h⟩ := gd_some h
    refine wp_getS (v := srX (S3.2.2 0 2) 1) (pc := 18) C flX10_171 rfl rfl g6.1 g5.1 g5.2 dX10_drop_18 ?_
    refine wp_getI (pc := 21) C flX10_106 rfl g6.1 g6.2 dX10_drop_21 ?_
    refine wp_if_eq (pc := 24) C 38 dX10_drop_24 (by decide) (fun q => ?_) (fun q => ?_)
    · have h := it_pos q h
      refine wp_iconst (v := (-1)) (pc := 38) C dX10_drop_38 (by decide) ?_
      exact rt_i C rfl h dX10_drop_39
    · have h := it_neg q h
      refine wp_iload_n (pc := 27) C 2 dX10_drop_27 rfl rfl ?_
      refine wp_iconst (v := 1) (pc := 28) C dX10_drop_28 (by decide) ?_
      refine wp_icmp_lt (pc := 29) C 38 dX10_drop_29 (by decide) (fun q => ?_) (fun q => ?_)
      · have h := it_pos q h
        refine wp_iconst (v := (-1)) (pc := 38) C dX10_drop_38 (by decide) ?_
        exact rt_i C rfl h dX10_drop_39
      · have h := it_neg q h
        refine wp_iload_n (pc := 32) C 2 dX10_drop_32 rfl rfl ?_
        refine wp_bipush (v := 24) (pc := 33) C dX10_drop_33 (by decide) ?_
        refine wp_icmp_le (pc := 35) C 40 dX10_drop_35 (by decide) (fun q => ?_) (fun q => ?_)
        · have h := it_pos q h
          refine wp_aload_n (pc := 40) C 0 dX10_drop_40 rfl rfl ?_
          refine wp_getS (v := 261) (pc := 41) C flX10_61 rfl rfl (Nat.le_of_ble_eq_true rfl) (Nat.le_of_ble_eq_true rfl) rfl dX10_drop_41 ?_
          obtain ⟨S7, r8, cS7, h⟩ := bd_some h
          refine wp_callVi (As := []) (st := []) (pc := 44) C (CtX8_total cS7) mX8_total iX8_total kX10_237 (Nat.le_of_ble_eq_true rfl) rfl (by decide) rfl rfl rfl rfl (Nat.le_of_ble_eq_true rfl) ⟨Nat.le_of_ble_eq_true rfl, Nat.le_of_ble_eq_true rfl⟩ dX10_drop_44 ?_
          refine wp_iload_n (pc := 47) C 2 dX10_drop_47 rfl rfl ?_
          refine wp_iadd (pc := 48) C dX10_drop_48 ?_
          refine wp_aload_n (pc := 49) C 0 dX10_drop_49 rfl rfl ?_
          obtain ⟨g9, h⟩ := gd_some h
          refine wp_getD (pc := 50) C flX10_19 rfl g9.1 (Nat.le_of_ble_eq_true rfl) rfl dX10_drop_50 ?_
          refine wp_getI (pc := 53) C flX10_185 rfl g9.1 g9.2 dX10_drop_53 ?_
          refine wp_icmp_le (pc := 56) C 61 dX10_drop_56 (by decide) (fun q => ?_) (fun q => ?_)
          · have h := it_pos q h
            refine wp_aload_n (pc := 61) C 0 dX10_drop_61 rfl rfl ?_
            refine wp_getS (v := 261) (pc := 62) C flX10_61 rfl rfl (Nat.le_of_ble_eq_true rfl) (Nat.le_of_ble_eq_true rfl) rfl dX10_drop_62 ?_
            refine wp_getS (v := 262) (pc := 65) C flX10_160 rfl rfl (Nat.le_of_ble_eq_true rfl) (Nat.le_of_ble_eq_true rfl) rfl dX10_drop_65 ?_
            refine wp_iload_n (pc := 68) C 1 dX10_drop_68 rfl rfl ?_
            refine wp_dup2_11 (pc := 69) C dX10_drop_69 rfl rfl ?_
            obtain ⟨g10, h⟩ := gd_some h
            refine wp_iald (pc := 70) C (Nat.le_of_ble_eq_true rfl) rfl g10 dX10_drop_70 ?_
            refine wp_iload_n (pc := 71) C 2 dX10_drop_71 rfl rfl ?_
            refine wp_iadd (pc := 72) C dX10_drop_72 ?_
            obtain ⟨g11, h⟩ := gd_some h
            obtain ⟨S12, eS12, h⟩ := bn_some h
            refine wp_iast (pc := 73) C eS12 (Nat.le_of_ble_eq_true rfl) rfl g11 dX10_drop_73 ?_
            refine wp_aload_n (pc := 74) C 0 dX10_drop_74 rfl rfl ?_
            obtain ⟨g13, h⟩ := gd_some h
            refine wp_getD (pc := 75) C flX10_19 rfl g13.1 (Nat.le_of_ble_eq_true rfl) rfl dX10_drop_75 ?_
            refine wp_getI (pc := 78) C flX10_241 rfl g13.1 g13.2 dX10_drop_78 ?_
            refine wp_if_eq (pc := 81) C 105 dX10_drop_81 (by decide) (fun q => ?_) (fun q => ?_)
            · have h := it_pos q h
              exact (wX10_drop_j105 C h)
            · have h := it_neg q h
              refine wp_aload_n (pc := 84) C 0 dX10_drop_84 rfl rfl ?_
              refine wp_getS (v := 261) (pc := 85) C flX10_61 rfl rfl (Nat.le_of_ble_eq_true rfl) (Nat.le_of_ble_eq_true rfl) rfl dX10_drop_85 ?_
              obtain ⟨S14, r15, cS14, h⟩ := bd_some h
              refine wp_callVi (As := []) (st := []) (pc := 88) C (CtX8_drawOfTen cS14) mX8_drawOfTen iX8_drawOfTen kX10_244 (Nat.le_of_ble_eq_true rfl) rfl (by decide) rfl rfl rfl rfl (Nat.le_of_ble_eq_true rfl) ⟨Nat.le_of_ble_eq_true rfl, Nat.le_of_ble_eq_true rfl⟩ dX10_drop_88 ?_
              refine wp_aload_n (pc := 91) C 0 dX10_drop_91 rfl rfl ?_
              obtain ⟨g16, h⟩ := gd_some h
              refine wp_getD (pc := 92) C flX10_19 rfl g16.1 (Nat.le_of_ble_eq_true rfl) rfl dX10_drop_92 ?_
              refine wp_getI (pc := 95) C flX10_241 rfl g16.1 g16.2 dX10_drop_95 ?_
              refine wp_icmp_ge (pc := 98) C 105 dX10_drop_98 (by decide) (fun q => ?_) (fun q => ?_)
              · have h := it_pos q h
                exact (wX10_drop_j105 C h)
              · have h := it_neg q h
                refine wp_iconst (v := 1) (pc := 101) C dX10_drop_101 (by decide) ?_
                refine wp_goto (pc := 102) C 106 dX10_drop_102 (by decide) ?_
                exact (wX10_drop_j106 C h)
          · have h := it_neg q h
            refine wp_iconst (v := (-1)) (pc := 59) C dX10_drop_59 (by decide) ?_
            exact rt_i C rfl h dX10_drop_60
        · have h := it_neg q h
          refine wp_iconst (v := (-1)) (pc := 38) C dX10_drop_38 (by decide) ?_
          exact rt_i C rfl h dX10_drop_39
theorem CtX10_drop {n : Nat} {S S' : St} {r : Int32} {x1 : Int32} {x2 : Int32} (h : fX10_drop n S x1 x2 = some (S', r)) : Ct l sdX cy ad D yX10_drop cX10_drop 4 (some .int) 1 22 [.ref (ad 0), .int x1, .int x2] S (some (.int r)) S' :=
  Ct_of (own := RX10) mX10_drop rfl (Nat.le_of_ble_eq_true rfl) (fun G e1 e2 e3 e4 C => by subst e1 e2 e3 e4; exact wX10_drop C h)
def fX10_days_l17 (n : Nat) : Nat → St → Int32 → Int32 → Int32 → Option (St × Int32)
  | 0, _, _, _, _ => none
  | j + 1, S, x1, x2, x3 =>
    if x1 ≤ x3 then
      some (S, x2)
    else
      gd (isK sdX (S.2.2 0 2) 0) (
      bd (fX8_fadeOneDay sdX n S 261 (S.2.2 0 2)) (fun S2 r3 =>
      bn (x2 + r3) (fun z4 : Int32 =>
      bn (x3 + 1) (fun z5 : Int32 =>
      fX10_days_l17 n j S2 x1 z4 z5))))
set_option maxRecDepth 100000 in
set_option maxHeartbeats 4000000 in
theorem wX10_days_l17 (C : Cx G sdX cX10_days 4 RX10 (some .int)) {n : Nat} {S' : St} {r : Int32} : ∀ (j : Nat) (S : St) (x1 : Int32) (x2 : Int32) (x3 : Int32), fX10_days_l17 n j S x1 x2 x3 = some (S', r) → Wp G sdX (rmOf 1 24) 4 (Qm G sdX (some (.int r)) S') S 17 [(0, .ref (gA G 0)), (1, .int x1), (2, .int x2), (3, .int x3)] [] := by
  intro j
  induction j with
  | zero =>
    intro S x1 x2 x3 h
    exact nomatch (show (none : Option (St × Int32)) = some _ from h)
  | succ j ih =>
    intro S x1 x2 x3 h
    rw [fX10_days_l17] at h
    refine wp_iload_n (pc := 17) C 3 dX10_days_17 rfl rfl ?_
    refine wp_iload_n (pc := 18) C 1 dX10_days_18 rfl rfl ?_
    refine wp_icmp_ge (pc := 19) C 42 dX10_days_19 (by decide) (fun q => ?_) (fun q => ?_)
    · have h := it_pos q h
      refine wp_iload_n (pc := 42) C 2 dX10_days_42 rfl rfl ?_
      exact rt_i C rfl h dX10_days_43
    · have h := it_neg q h
      refine wp_iload_n (pc := 22) C 2 dX10_days_22 rfl rfl ?_
      refine wp_aload_n (pc := 23) C 0 dX10_days_23 rfl rfl ?_
      refine wp_getS (v := 261) (pc := 24) C flX10_61 rfl rfl (Nat.le_of_ble_eq_true rfl) (Nat.le_of_ble_eq_true rfl) rfl dX10_days_24 ?_
      refine wp_aload_n (pc := 27) C 0 dX10_days_27 rfl rfl ?_
      obtain ⟨g1, h⟩ := gd_some h
      refine wp_getD (pc := 28) C flX10_19 rfl g1.1 (Nat.le_of_ble_eq_true rfl) rfl dX10_days_28 ?_
      obtain ⟨S2, r3, cS2, h⟩ := bd_some h
      refine wp_callVi (As := [.ref (gA G (S.2.2 0 2))]) (st := [.int x2]) (pc := 31) C (CtX8_fadeOneDay cS2) mX8_fadeOneDay iX8_fadeOneDay kX10_247 (Nat.le_of_ble_eq_true rfl) rfl (by decide) rfl rfl rfl rfl (Nat.le_of_ble_eq_true rfl) ⟨Nat.le_of_ble_eq_true rfl, Nat.le_of_ble_eq_true rfl⟩ dX10_days_31 ?_
      refine wp_iadd (pc := 34) C dX10_days_34 ?_
      obtain ⟨z4, ez4, h⟩ := bn_some h
      refine wp_istore_n (pc := 35) C ez4 [(2, .int z4), (0, .ref (gA G 0)), (1, .int x1), (3, .int x3)] dX10_days_35 rfl (Nat.le_of_ble_eq_true rfl) rfl ?_
      obtain ⟨z5, ez5, h⟩ := bn_some h
      refine wp_iinc (q := 3) (pc := 36) C (by decide) ez5 [(3, .int z5), (2, .int z4), (0, .ref (gA G 0)), (1, .int x1)] dX10_days_36 rfl (Nat.le_of_ble_eq_true rfl) rfl ?_
      refine wp_goto (pc := 39) C 17 dX10_days_39 (by decide) ?_
      exact wp_sub C [2, 3, 1, 0] rfl (ih _ _ _ _ h)
def fX10_days (n : Nat) (S : St) (x1 : Int32) : Option (St × Int32) :=
  if x1 < 0 then
    some (S, (-1))
  else
    if x1 ≤ 1000 then
      fX10_days_l17 n n S x1 0 0
    else
      some (S, (-1))
set_option maxRecDepth 100000 in
set_option maxHeartbeats 4000000 in
theorem wX10_days (C : Cx G sdX cX10_days 4 RX10 (some .int)) {n : Nat} {S S' : St} {r : Int32} {x1 : Int32} (h : fX10_days n S x1 = some (S', r)) : Wp G sdX (rmOf 1 24) 4 (Qm G sdX (some (.int r)) S') S 0 [(0, .ref (gA G 0)), (1, .int x1)] [] := by
  unfold fX10_days at h
  refine wp_iload_n (pc := 0) C 1 dX10_days_0 rfl rfl ?_
  refine wp_if_lt (pc := 1) C 11 dX10_days_1 (by decide) (fun q => ?_) (fun q => ?_)
  · have h := it_pos q h
    refine wp_iconst (v := (-1)) (pc := 11) C dX10_days_11 (by decide) ?_
    exact rt_i C rfl h dX10_days_12
  · have h := it_neg q h
    refine wp_iload_n (pc := 4) C 1 dX10_days_4 rfl rfl ?_
    refine wp_sipush (v := 1000) (pc := 5) C dX10_days_5 (by decide) ?_
    refine wp_icmp_le (pc := 8) C 13 dX10_days_8 (by decide) (fun q => ?_) (fun q => ?_)
    · have h := it_pos q h
      refine wp_iconst (v := 0) (pc := 13) C dX10_days_13 (by decide) ?_
      refine wp_istore_n (pc := 14) C rfl [(2, .int 0), (0, .ref (gA G 0)), (1, .int x1)] dX10_days_14 rfl (Nat.le_of_ble_eq_true rfl) rfl ?_
      refine wp_iconst (v := 0) (pc := 15) C dX10_days_15 (by decide) ?_
      refine wp_istore_n (pc := 16) C rfl [(3, .int 0), (2, .int 0), (0, .ref (gA G 0)), (1, .int x1)] dX10_days_16 rfl (Nat.le_of_ble_eq_true rfl) rfl ?_
      exact wp_sub C [2, 3, 1, 0] rfl (wX10_days_l17 C _ _ _ _ _ h)
    · have h := it_neg q h
      refine wp_iconst (v := (-1)) (pc := 11) C dX10_days_11 (by decide) ?_
      exact rt_i C rfl h dX10_days_12
theorem CtX10_days {n : Nat} {S S' : St} {r : Int32} {x1 : Int32} (h : fX10_days n S x1 = some (S', r)) : Ct l sdX cy ad D yX10_days cX10_days 4 (some .int) 1 24 [.ref (ad 0), .int x1] S (some (.int r)) S' :=
  Ct_of (own := RX10) mX10_days rfl (Nat.le_of_ble_eq_true rfl) (fun G e1 e2 e3 e4 C => by subst e1 e2 e3 e4; exact wX10_days C h)
def fX10_vat (n : Nat) (S : St) (x1 : Int32) : Option (St × Int32) :=
  gd (isK sdX (S.2.2 0 2) 0) (
  gd (isK sdX (srX (S.2.2 0 2) 0) 5) (
  bd (fX5_has sdX n S (srX (S.2.2 0 2) 0) x1) (fun S3 r4 =>
  if r4 = 0 then
    some (S3, (-1))
  else
    gd (ib x1 8) (
    some (S3, S3.1 262 (Int32.toNatClampNeg x1))))))
set_option maxRecDepth 100000 in
set_option maxHeartbeats 4000000 in
theorem wX10_vat (C : Cx G sdX cX10_vat 2 RX10 (some .int)) {n : Nat} {S S' : St} {r : Int32} {x1 : Int32} (h : fX10_vat n S x1 = some (S', r)) : Wp G sdX (rmOf 1 21) 2 (Qm G sdX (some (.int r)) S') S 0 [(0, .ref (gA G 0)), (1, .int x1)] [] := by
  unfold fX10_vat at h
  refine wp_aload_n (pc := 0) C 0 dX10_vat_0 rfl rfl ?_
  obtain ⟨g1, h⟩ := gd_some h
  refine wp_getD (pc := 1) C flX10_19 rfl g1.1 (Nat.le_of_ble_eq_true rfl) rfl dX10_vat_1 ?_
  obtain ⟨g2, h⟩ := gd_some h
  refine wp_getS (v := srX (S.2.2 0 2) 0) (pc := 4) C flX10_223 rfl rfl g2.1 g1.1 g1.2 dX10_vat_4 ?_
  refine wp_iload_n (pc := 7) C 1 dX10_vat_7 rfl rfl ?_
  obtain ⟨S3, r4, cS3, h⟩ := bd_some h
  refine wp_callVi (As := [.int x1]) (st := []) (pc := 8) C (CtX5_has cS3) mX5_has iX5_has kX10_140 g2.1 g2.2 (by decide) rfl rfl rfl rfl (Nat.le_of_ble_eq_true rfl) ⟨Nat.le_of_ble_eq_true rfl, Nat.le_of_ble_eq_true rfl⟩ dX10_vat_8 ?_
  refine wp_if_eq (pc := 11) C 26 dX10_vat_11 (by decide) (fun q => ?_) (fun q => ?_)
  · have h := it_pos q h
    refine wp_iconst (v := (-1)) (pc := 26) C dX10_vat_26 (by decide) ?_
    exact rt_i C rfl h dX10_vat_27
  · have h := it_neg q h
    refine wp_aload_n (pc := 14) C 0 dX10_vat_14 rfl rfl ?_
    refine wp_getS (v := 261) (pc := 15) C flX10_61 rfl rfl (Nat.le_of_ble_eq_true rfl) (Nat.le_of_ble_eq_true rfl) rfl dX10_vat_15 ?_
    refine wp_getS (v := 262) (pc := 18) C flX10_160 rfl rfl (Nat.le_of_ble_eq_true rfl) (Nat.le_of_ble_eq_true rfl) rfl dX10_vat_18 ?_
    refine wp_iload_n (pc := 21) C 1 dX10_vat_21 rfl rfl ?_
    obtain ⟨g5, h⟩ := gd_some h
    refine wp_iald (pc := 22) C (Nat.le_of_ble_eq_true rfl) rfl g5 dX10_vat_22 ?_
    refine wp_goto (pc := 23) C 27 dX10_vat_23 (by decide) ?_
    exact rt_i C rfl h dX10_vat_27
theorem CtX10_vat {n : Nat} {S S' : St} {r : Int32} {x1 : Int32} (h : fX10_vat n S x1 = some (S', r)) : Ct l sdX cy ad D yX10_vat cX10_vat 2 (some .int) 1 21 [.ref (ad 0), .int x1] S (some (.int r)) S' :=
  Ct_of (own := RX10) mX10_vat rfl (Nat.le_of_ble_eq_true rfl) (fun G e1 e2 e3 e4 C => by subst e1 e2 e3 e4; exact wX10_vat C h)
def fX10_seed (n : Nat) (S : St) (x1 : Int32) : Option (St × Int32) :=
  bn (S.1 261 3) (fun z1 : Int32 =>
  bn (sI S 261 3 x1) (fun S2 : St =>
  some (S2, z1)))
set_option maxRecDepth 100000 in
set_option maxHeartbeats 4000000 in
theorem wX10_seed (C : Cx G sdX cX10_seed 3 RX10 (some .int)) {n : Nat} {S S' : St} {r : Int32} {x1 : Int32} (h : fX10_seed n S x1 = some (S', r)) : Wp G sdX (rmOf 0 0) 3 (Qm G sdX (some (.int r)) S') S 0 [(0, .ref (gA G 0)), (1, .int x1)] [] := by
  unfold fX10_seed at h
  refine wp_aload_n (pc := 0) C 0 dX10_seed_0 rfl rfl ?_
  refine wp_getS (v := 261) (pc := 1) C flX10_61 rfl rfl (Nat.le_of_ble_eq_true rfl) (Nat.le_of_ble_eq_true rfl) rfl dX10_seed_1 ?_
  refine wp_getI (pc := 4) C flX10_251 rfl (Nat.le_of_ble_eq_true rfl) rfl dX10_seed_4 ?_
  obtain ⟨z1, ez1, h⟩ := bn_some h
  refine wp_istore_n (pc := 7) C ez1 [(2, .int z1), (0, .ref (gA G 0)), (1, .int x1)] dX10_seed_7 rfl (Nat.le_of_ble_eq_true rfl) rfl ?_
  refine wp_aload_n (pc := 8) C 1 dX10_seed_8 rfl rfl ?_
  refine wp_getS (v := 261) (pc := 9) C flX10_61 rfl rfl (Nat.le_of_ble_eq_true rfl) (Nat.le_of_ble_eq_true rfl) rfl dX10_seed_9 ?_
  refine wp_iload_n (pc := 12) C 2 dX10_seed_12 rfl rfl ?_
  obtain ⟨S2, eS2, h⟩ := bn_some h
  refine wp_putI (pc := 13) C eS2 flX10_251 fpX8_3 rfl (Nat.le_of_ble_eq_true rfl) rfl dX10_seed_13 ?_
  refine wp_iload_n (pc := 16) C 0 dX10_seed_16 rfl rfl ?_
  exact rt_i C rfl h dX10_seed_17
theorem CtX10_seed {n : Nat} {S S' : St} {r : Int32} {x1 : Int32} (h : fX10_seed n S x1 = some (S', r)) : Ct l sdX cy ad D yX10_seed cX10_seed 3 (some .int) 0 0 [.ref (ad 0), .int x1] S (some (.int r)) S' :=
  Ct_of (own := RX10) mX10_seed rfl (Nat.le_of_ble_eq_true rfl) (fun G e1 e2 e3 e4 C => by subst e1 e2 e3 e4; exact wX10_seed C h)
def fX10_image (n : Nat) (S : St) (x1 : Int32) : Option (St × Int32) :=
  if x1 < 0 then
    some (S, (-1))
  else
    if x1 < 3 then
      gd (ib x1 3) (
      gd (isK sdX (srX 263 (Int32.toNatClampNeg x1)) 8) (
      bd (fX8_copyOf sdX n S (srX 263 (Int32.toNatClampNeg x1)) 261) (fun S3 r4 =>
      gd (ib x1 3) (
      bn (sI S3 (srX 263 (Int32.toNatClampNeg x1)) 4 1) (fun S6 : St =>
      bd (fX8_total sdX n S6 261) (fun S7 r8 =>
      some (S7, r8)))))))
    else
      some (S, (-1))
set_option maxRecDepth 100000 in
set_option maxHeartbeats 4000000 in
theorem wX10_image (C : Cx G sdX cX10_image 2 RX10 (some .int)) {n : Nat} {S S' : St} {r : Int32} {x1 : Int32} (h : fX10_image n S x1 = some (S', r)) : Wp G sdX (rmOf 2 47) 2 (Qm G sdX (some (.int r)) S') S 0 [(0, .ref (gA G 0)), (1, .int x1)] [] := by
  unfold fX10_image at h
  refine wp_iload_n (pc := 0) C 1 dX10_image_0 rfl rfl ?_
  refine wp_if_lt (pc := 1) C 9 dX10_image_1 (by decide) (fun q => ?_) (fun q => ?_)
  · have h := it_pos q h
    refine wp_iconst (v := (-1)) (pc := 9) C dX10_image_9 (by decide) ?_
    exact rt_i C rfl h dX10_image_10
  · have h := it_neg q h
    refine wp_iload_n (pc := 4) C 1 dX10_image_4 rfl rfl ?_
    refine wp_iconst (v := 3) (pc := 5) C dX10_image_5 (by decide) ?_
    refine wp_icmp_lt (pc := 6) C 11 dX10_image_6 (by decide) (fun q => ?_) (fun q => ?_)
    · have h := it_pos q h
      refine wp_aload_n (pc := 11) C 0 dX10_image_11 rfl rfl ?_
      refine wp_getS (v := 263) (pc := 12) C flX10_65 rfl rfl (Nat.le_of_ble_eq_true rfl) (Nat.le_of_ble_eq_true rfl) rfl dX10_image_12 ?_
      refine wp_iload_n (pc := 15) C 1 dX10_image_15 rfl rfl ?_
      obtain ⟨g1, h⟩ := gd_some h
      obtain ⟨g2, h⟩ := gd_some h
      refine wp_aald (t0 := 4) (pc := 16) C (Nat.le_of_ble_eq_true rfl) rfl (by decide) rfl rfl g1 g2.1 dX10_image_16 ?_
      refine wp_aload_n (pc := 17) C 0 dX10_image_17 rfl rfl ?_
      refine wp_getS (v := 261) (pc := 18) C flX10_61 rfl rfl (Nat.le_of_ble_eq_true rfl) (Nat.le_of_ble_eq_true rfl) rfl dX10_image_18 ?_
      obtain ⟨S3, r4, cS3, h⟩ := bd_some h
      refine wp_callVv (As := [.ref (gA G 261)]) (st := []) (pc := 21) C (CtX8_copyOf cS3) mX8_copyOf iX8_copyOf kX10_254 g2.1 g2.2 (by decide) rfl rfl rfl rfl (Nat.le_of_ble_eq_true rfl) ⟨Nat.le_of_ble_eq_true rfl, Nat.le_of_ble_eq_true rfl⟩ dX10_image_21 ?_
      refine wp_aload_n (pc := 24) C 0 dX10_image_24 rfl rfl ?_
      refine wp_getS (v := 263) (pc := 25) C flX10_65 rfl rfl (Nat.le_of_ble_eq_true rfl) (Nat.le_of_ble_eq_true rfl) rfl dX10_image_25 ?_
      refine wp_iload_n (pc := 28) C 1 dX10_image_28 rfl rfl ?_
      obtain ⟨g5, h⟩ := gd_some h
      refine wp_aald (t0 := 4) (pc := 29) C (Nat.le_of_ble_eq_true rfl) rfl (by decide) rfl rfl g5 g2.1 dX10_image_29 ?_
      refine wp_iconst (v := 1) (pc := 30) C dX10_image_30 (by decide) ?_
      obtain ⟨S6, eS6, h⟩ := bn_some h
      refine wp_putZ (pc := 31) C (Or.inr rfl) eS6 flX10_127 fpX8_4 rfl g2.1 g2.2 dX10_image_31 ?_
      refine wp_aload_n (pc := 34) C 0 dX10_image_34 rfl rfl ?_
      refine wp_getS (v := 261) (pc := 35) C flX10_61 rfl rfl (Nat.le_of_ble_eq_true rfl) (Nat.le_of_ble_eq_true rfl) rfl dX10_image_35 ?_
      obtain ⟨S7, r8, cS7, h⟩ := bd_some h
      refine wp_callVi (As := []) (st := []) (pc := 38) C (CtX8_total cS7) mX8_total iX8_total kX10_237 (Nat.le_of_ble_eq_true rfl) rfl (by decide) rfl rfl rfl rfl (Nat.le_of_ble_eq_true rfl) ⟨Nat.le_of_ble_eq_true rfl, Nat.le_of_ble_eq_true rfl⟩ dX10_image_38 ?_
      exact rt_i C rfl h dX10_image_41
    · have h := it_neg q h
      refine wp_iconst (v := (-1)) (pc := 9) C dX10_image_9 (by decide) ?_
      exact rt_i C rfl h dX10_image_10
theorem CtX10_image {n : Nat} {S S' : St} {r : Int32} {x1 : Int32} (h : fX10_image n S x1 = some (S', r)) : Ct l sdX cy ad D yX10_image cX10_image 2 (some .int) 2 47 [.ref (ad 0), .int x1] S (some (.int r)) S' :=
  Ct_of (own := RX10) mX10_image rfl (Nat.le_of_ble_eq_true rfl) (fun G e1 e2 e3 e4 C => by subst e1 e2 e3 e4; exact wX10_image C h)
def fX10_back (n : Nat) (S : St) (x1 : Int32) : Option (St × Int32) :=
  if x1 < 0 then
    some (S, (-1))
  else
    if 3 ≤ x1 then
      some (S, (-1))
    else
      gd (ib x1 3) (
      gd (isK sdX (srX 263 (Int32.toNatClampNeg x1)) 8) (
      if (S.1 (srX 263 (Int32.toNatClampNeg x1)) 4) = 0 then
        some (S, (-1))
      else
        gd (ib x1 3) (
        bd (fX8_copyOf sdX n S 261 (srX 263 (Int32.toNatClampNeg x1))) (fun S4 r5 =>
        bd (fX8_total sdX n S4 261) (fun S6 r7 =>
        some (S6, r7))))))
set_option maxRecDepth 100000 in
set_option maxHeartbeats 4000000 in
theorem wX10_back (C : Cx G sdX cX10_back 2 RX10 (some .int)) {n : Nat} {S S' : St} {r : Int32} {x1 : Int32} (h : fX10_back n S x1 = some (S', r)) : Wp G sdX (rmOf 2 47) 2 (Qm G sdX (some (.int r)) S') S 0 [(0, .ref (gA G 0)), (1, .int x1)] [] := by
  unfold fX10_back at h
  refine wp_iload_n (pc := 0) C 1 dX10_back_0 rfl rfl ?_
  refine wp_if_lt (pc := 1) C 21 dX10_back_1 (by decide) (fun q => ?_) (fun q => ?_)
  · have h := it_pos q h
    refine wp_iconst (v := (-1)) (pc := 21) C dX10_back_21 (by decide) ?_
    exact rt_i C rfl h dX10_back_22
  · have h := it_neg q h
    refine wp_iload_n (pc := 4) C 1 dX10_back_4 rfl rfl ?_
    refine wp_iconst (v := 3) (pc := 5) C dX10_back_5 (by decide) ?_
    refine wp_icmp_ge (pc := 6) C 21 dX10_back_6 (by decide) (fun q => ?_) (fun q => ?_)
    · have h := it_pos q h
      refine wp_iconst (v := (-1)) (pc := 21) C dX10_back_21 (by decide) ?_
      exact rt_i C rfl h dX10_back_22
    · have h := it_neg q h
      refine wp_aload_n (pc := 9) C 0 dX10_back_9 rfl rfl ?_
      refine wp_getS (v := 263) (pc := 10) C flX10_65 rfl rfl (Nat.le_of_ble_eq_true rfl) (Nat.le_of_ble_eq_true rfl) rfl dX10_back_10 ?_
      refine wp_iload_n (pc := 13) C 1 dX10_back_13 rfl rfl ?_
      obtain ⟨g1, h⟩ := gd_some h
      obtain ⟨g2, h⟩ := gd_some h
      refine wp_aald (t0 := 4) (pc := 14) C (Nat.le_of_ble_eq_true rfl) rfl (by decide) rfl rfl g1 g2.1 dX10_back_14 ?_
      refine wp_getI (pc := 15) C flX10_127 rfl g2.1 g2.2 dX10_back_15 ?_
      refine wp_if_ne (pc := 18) C 23 dX10_back_18 (by decide) (fun q => ?_) (fun q => ?_)
      · have h := it_neg q h
        refine wp_aload_n (pc := 23) C 0 dX10_back_23 rfl rfl ?_
        refine wp_getS (v := 261) (pc := 24) C flX10_61 rfl rfl (Nat.le_of_ble_eq_true rfl) (Nat.le_of_ble_eq_true rfl) rfl dX10_back_24 ?_
        refine wp_aload_n (pc := 27) C 0 dX10_back_27 rfl rfl ?_
        refine wp_getS (v := 263) (pc := 28) C flX10_65 rfl rfl (Nat.le_of_ble_eq_true rfl) (Nat.le_of_ble_eq_true rfl) rfl dX10_back_28 ?_
        refine wp_iload_n (pc := 31) C 1 dX10_back_31 rfl rfl ?_
        obtain ⟨g3, h⟩ := gd_some h
        refine wp_aald (t0 := 4) (pc := 32) C (Nat.le_of_ble_eq_true rfl) rfl (by decide) rfl rfl g3 g2.1 dX10_back_32 ?_
        obtain ⟨S4, r5, cS4, h⟩ := bd_some h
        refine wp_callVv (As := [.ref (gA G (srX 263 (Int32.toNatClampNeg x1)))]) (st := []) (pc := 33) C (CtX8_copyOf cS4) mX8_copyOf iX8_copyOf kX10_254 (Nat.le_of_ble_eq_true rfl) rfl (by decide) rfl rfl rfl rfl (Nat.le_of_ble_eq_true rfl) ⟨Nat.le_of_ble_eq_true rfl, Nat.le_of_ble_eq_true rfl⟩ dX10_back_33 ?_
        refine wp_aload_n (pc := 36) C 0 dX10_back_36 rfl rfl ?_
        refine wp_getS (v := 261) (pc := 37) C flX10_61 rfl rfl (Nat.le_of_ble_eq_true rfl) (Nat.le_of_ble_eq_true rfl) rfl dX10_back_37 ?_
        obtain ⟨S6, r7, cS6, h⟩ := bd_some h
        refine wp_callVi (As := []) (st := []) (pc := 40) C (CtX8_total cS6) mX8_total iX8_total kX10_237 (Nat.le_of_ble_eq_true rfl) rfl (by decide) rfl rfl rfl rfl (Nat.le_of_ble_eq_true rfl) ⟨Nat.le_of_ble_eq_true rfl, Nat.le_of_ble_eq_true rfl⟩ dX10_back_40 ?_
        exact rt_i C rfl h dX10_back_43
      · have h := it_pos q h
        refine wp_iconst (v := (-1)) (pc := 21) C dX10_back_21 (by decide) ?_
        exact rt_i C rfl h dX10_back_22
theorem CtX10_back {n : Nat} {S S' : St} {r : Int32} {x1 : Int32} (h : fX10_back n S x1 = some (S', r)) : Ct l sdX cy ad D yX10_back cX10_back 2 (some .int) 2 47 [.ref (ad 0), .int x1] S (some (.int r)) S' :=
  Ct_of (own := RX10) mX10_back rfl (Nat.le_of_ble_eq_true rfl) (fun G e1 e2 e3 e4 C => by subst e1 e2 e3 e4; exact wX10_back C h)
def fX10_old (n : Nat) (S : St) : Option (St × Int32) :=
  some (S, S.1 157 4)
set_option maxRecDepth 100000 in
set_option maxHeartbeats 4000000 in
theorem wX10_old (C : Cx G sdX cX10_old 1 RX10 (some .int)) {n : Nat} {S S' : St} {r : Int32} (h : fX10_old n S = some (S', r)) : Wp G sdX (rmOf 0 0) 1 (Qm G sdX (some (.int r)) S') S 0 [(0, .ref (gA G 0))] [] := by
  unfold fX10_old at h
  refine wp_aload_n (pc := 0) C 0 dX10_old_0 rfl rfl ?_
  refine wp_getS (v := 157) (pc := 1) C flX10_38 rfl rfl (Nat.le_of_ble_eq_true rfl) (Nat.le_of_ble_eq_true rfl) rfl dX10_old_1 ?_
  refine wp_getI (pc := 4) C flX10_258 rfl (Nat.le_of_ble_eq_true rfl) rfl dX10_old_4 ?_
  exact rt_i C rfl h dX10_old_7
theorem CtX10_old {n : Nat} {S S' : St} {r : Int32} (h : fX10_old n S = some (S', r)) : Ct l sdX cy ad D yX10_old cX10_old 1 (some .int) 0 0 [.ref (ad 0)] S (some (.int r)) S' :=
  Ct_of (own := RX10) mX10_old rfl (Nat.le_of_ble_eq_true rfl) (fun G e1 e2 e3 e4 C => by subst e1 e2 e3 e4; exact wX10_old C h)
def fX10_oldOne (n : Nat) (S : St) (x1 : Int32) (x2 : Int32) : Option (St × Int32) :=
  if x1 < 0 then
    some (S, (-2))
  else
    if x1 < (S.1 157 4) then
      if x2 = 0 then
        gd (ib x1 72) (
        some (S, S.1 158 (Int32.toNatClampNeg x1)))
      else if x2 = 1 then
        gd (ib x1 72) (
        some (S, S.1 159 (Int32.toNatClampNeg x1)))
      else some (S, (-2))
    else
      some (S, (-2))
set_option maxRecDepth 100000 in
set_option maxHeartbeats 4000000 in
theorem wX10_oldOne (C : Cx G sdX cX10_oldOne 3 RX10 (some .int)) {n : Nat} {S S' : St} {r : Int32} {x1 : Int32} {x2 : Int32} (h : fX10_oldOne n S x1 x2 = some (S', r)) : Wp G sdX (rmOf 0 0) 3 (Qm G sdX (some (.int r)) S') S 0 [(0, .ref (gA G 0)), (1, .int x1), (2, .int x2)] [] := by
  unfold fX10_oldOne at h
  refine wp_iload_n (pc := 0) C 1 dX10_oldOne_0 rfl rfl ?_
  refine wp_if_lt (pc := 1) C 15 dX10_oldOne_1 (by decide) (fun q => ?_) (fun q => ?_)
  · have h := it_pos q h
    refine wp_bipush (v := (-2)) (pc := 15) C dX10_oldOne_15 (by decide) ?_
    exact rt_i C rfl h dX10_oldOne_17
  · have h := it_neg q h
    refine wp_iload_n (pc := 4) C 1 dX10_oldOne_4 rfl rfl ?_
    refine wp_aload_n (pc := 5) C 0 dX10_oldOne_5 rfl rfl ?_
    refine wp_getS (v := 157) (pc := 6) C flX10_38 rfl rfl (Nat.le_of_ble_eq_true rfl) (Nat.le_of_ble_eq_true rfl) rfl dX10_oldOne_6 ?_
    refine wp_getI (pc := 9) C flX10_258 rfl (Nat.le_of_ble_eq_true rfl) rfl dX10_oldOne_9 ?_
    refine wp_icmp_lt (pc := 12) C 18 dX10_oldOne_12 (by decide) (fun q => ?_) (fun q => ?_)
    · have h := it_pos q h
      refine wp_iload_n (pc := 18) C 2 dX10_oldOne_18 rfl rfl ?_
      by_cases q : x2 = 0
      · have h := it_pos q h
        refine wp_lookup (pc := 19) C 44 dX10_oldOne_19 (by decide) (by rw [q]; first | done | rfl) (by decide) ?_
        refine wp_aload_n (pc := 44) C 0 dX10_oldOne_44 rfl rfl ?_
        refine wp_getS (v := 157) (pc := 45) C flX10_38 rfl rfl (Nat.le_of_ble_eq_true rfl) (Nat.le_of_ble_eq_true rfl) rfl dX10_oldOne_45 ?_
        refine wp_getS (v := 158) (pc := 48) C flX10_259 rfl rfl (Nat.le_of_ble_eq_true rfl) (Nat.le_of_ble_eq_true rfl) rfl dX10_oldOne_48 ?_
        refine wp_iload_n (pc := 51) C 1 dX10_oldOne_51 rfl rfl ?_
        obtain ⟨g1, h⟩ := gd_some h
        refine wp_iald (pc := 52) C (Nat.le_of_ble_eq_true rfl) rfl g1 dX10_oldOne_52 ?_
        exact rt_i C rfl h dX10_oldOne_53
      have h := it_neg q h
      have n2 := q
      by_cases q : x2 = 1
      · have h := it_pos q h
        refine wp_lookup (pc := 19) C 54 dX10_oldOne_19 (by decide) (by rw [q]; first | done | rfl) (by decide) ?_
        refine wp_aload_n (pc := 54) C 0 dX10_oldOne_54 rfl rfl ?_
        refine wp_getS (v := 157) (pc := 55) C flX10_38 rfl rfl (Nat.le_of_ble_eq_true rfl) (Nat.le_of_ble_eq_true rfl) rfl dX10_oldOne_55 ?_
        refine wp_getS (v := 159) (pc := 58) C flX10_261 rfl rfl (Nat.le_of_ble_eq_true rfl) (Nat.le_of_ble_eq_true rfl) rfl dX10_oldOne_58 ?_
        refine wp_iload_n (pc := 61) C 1 dX10_oldOne_61 rfl rfl ?_
        obtain ⟨g3, h⟩ := gd_some h
        refine wp_iald (pc := 62) C (Nat.le_of_ble_eq_true rfl) rfl g3 dX10_oldOne_62 ?_
        exact rt_i C rfl h dX10_oldOne_63
      have h := it_neg q h
      have n4 := q
      refine wp_lookup (off := 45) (pc := 19) C 64 dX10_oldOne_19 (by decide) (by have m0 := ne_toInt (v := 0) (by decide) n2; have m1 := ne_toInt (v := 1) (by decide) n4; simp [Op.lookupswitch.offset, m0, Ne.symm m0, m1, Ne.symm m1]) (by decide) ?_
      refine wp_bipush (v := (-2)) (pc := 64) C dX10_oldOne_64 (by decide) ?_
      exact rt_i C rfl h dX10_oldOne_66
    · have h := it_neg q h
      refine wp_bipush (v := (-2)) (pc := 15) C dX10_oldOne_15 (by decide) ?_
      exact rt_i C rfl h dX10_oldOne_17
theorem CtX10_oldOne {n : Nat} {S S' : St} {r : Int32} {x1 : Int32} {x2 : Int32} (h : fX10_oldOne n S x1 x2 = some (S', r)) : Ct l sdX cy ad D yX10_oldOne cX10_oldOne 3 (some .int) 0 0 [.ref (ad 0), .int x1, .int x2] S (some (.int r)) S' :=
  Ct_of (own := RX10) mX10_oldOne rfl (Nat.le_of_ble_eq_true rfl) (fun G e1 e2 e3 e4 C => by subst e1 e2 e3 e4; exact wX10_oldOne C h)
def fX10_look (n : Nat) (S : St) (x1 : Int32) (x2 : Int32) (x3 : Int32) (x4 : Int32) : Option (St × Int32) :=
  gd (isK sdX (S.2.2 0 2) 0) (
  gd (isK sdX (srX (S.2.2 0 2) 2) 5) (
  bd (fX5_has sdX n S (srX (S.2.2 0 2) 2) x1) (fun S3 r4 =>
  if r4 = 0 then
    some (S3, (-1))
  else
    gd (isK sdX (S3.2.2 0 2) 0) (
    gd (isK sdX (srX (S3.2.2 0 2) 3) 5) (
    bd (fX5_has sdX n S3 (srX (S3.2.2 0 2) 3) x2) (fun S7 r8 =>
    if r8 = 0 then
      some (S7, (-1))
    else
      bd (fX1_isFull n S7) (fun S9 r10 =>
      if r10 = 0 then
        if x3 < 0 then
          some (S9, (-1))
        else
          if 9999999 < x3 then
            some (S9, (-1))
          else
            if x4 < 0 then
              some (S9, (-1))
            else
              if x4 ≤ 9999 then
                bd (fX1_tell n S9 x1 x2 x3 x4 (S9.1 0 12)) (fun S11 r12 =>
                some (S11, r12))
              else
                some (S9, (-1))
      else
        some (S9, (-1)))))))))
set_option maxRecDepth 100000 in
set_option maxHeartbeats 4000000 in
theorem wX10_look (C : Cx G sdX cX10_look 5 RX10 (some .int)) {n : Nat} {S S' : St} {r : Int32} {x1 : Int32} {x2 : Int32} {x3 : Int32} {x4 : Int32} (h : fX10_look n S x1 x2 x3 x4 = some (S', r)) : Wp G sdX (rmOf 2 45) 5 (Qm G sdX (some (.int r)) S') S 0 [(0, .ref (gA G 0)), (1, .int x1), (2, .int x2), (3, .int x3), (4, .int x4)] [] := by
  unfold fX10_look at h
  refine wp_aload_n (pc := 0) C 0 dX10_look_0 rfl rfl ?_
  obtain ⟨g1, h⟩ := gd_some h
  refine wp_getD (pc := 1) C flX10_19 rfl g1.1 (Nat.le_of_ble_eq_true rfl) rfl dX10_look_1 ?_
  obtain ⟨g2, h⟩ := gd_some h
  refine wp_getS (v := srX (S.2.2 0 2) 2) (pc := 4) C flX10_137 rfl rfl g2.1 g1.1 g1.2 dX10_look_4 ?_
  refine wp_iload_n (pc := 7) C 1 dX10_look_7 rfl rfl ?_
  obtain ⟨S3, r4, cS3, h⟩ := bd_some h
  refine wp_callVi (As := [.int x1]) (st := []) (pc := 8) C (CtX5_has cS3) mX5_has iX5_has kX10_140 g2.1 g2.2 (by decide) rfl rfl rfl rfl (Nat.le_of_ble_eq_true rfl) ⟨Nat.le_of_ble_eq_true rfl, Nat.le_of_ble_eq_true rfl⟩ dX10_look_8 ?_
  refine wp_if_eq (pc := 11) C 38 dX10_look_11 (by decide) (fun q => ?_) (fun q => ?_)
  · have h := it_pos q h
    refine wp_iconst (v := (-1)) (pc := 38) C dX10_look_38 (by decide) ?_
    exact rt_i C rfl h dX10_look_39
  · have h := it_neg q h
    refine wp_aload_n (pc := 14) C 0 dX10_look_14 rfl rfl ?_
    obtain ⟨g5, h⟩ := gd_some h
    refine wp_getD (pc := 15) C flX10_19 rfl g5.1 (Nat.le_of_ble_eq_true rfl) rfl dX10_look_15 ?_
    obtain ⟨g6, h⟩ := gd_some h
    refine wp_getS (v := srX (S3.2.2 0 2) 3) (pc := 18) C flX10_143 rfl rfl g6.1 g5.1 g5.2 dX10_look_18 ?_
    refine wp_iload_n (pc := 21) C 2 dX10_look_21 rfl rfl ?_
    obtain ⟨S7, r8, cS7, h⟩ := bd_some h
    refine wp_callVi (As := [.int x2]) (st := []) (pc := 22) C (CtX5_has cS7) mX5_has iX5_has kX10_140 g6.1 g6.2 (by decide) rfl rfl rfl rfl (Nat.le_of_ble_eq_true rfl) ⟨Nat.le_of_ble_eq_true rfl, Nat.le_of_ble_eq_true rfl⟩ dX10_look_22 ?_
    refine wp_if_eq (pc := 25) C 38 dX10_look_25 (by decide) (fun q => ?_) (fun q => ?_)
    · have h := it_pos q h
      refine wp_iconst (v := (-1)) (pc := 38) C dX10_look_38 (by decide) ?_
      exact rt_i C rfl h dX10_look_39
    · have h := it_neg q h
      refine wp_aload_n (pc := 28) C 0 dX10_look_28 rfl rfl ?_
      refine wp_getS (v := 234) (pc := 29) C flX10_45 rfl rfl (Nat.le_of_ble_eq_true rfl) (Nat.le_of_ble_eq_true rfl) rfl dX10_look_29 ?_
      obtain ⟨S9, r10, cS9, h⟩ := bd_some h
      refine wp_callVi (As := []) (st := []) (pc := 32) C (CtX1_isFull cS9) mX1_isFull iX1_isFull kX10_264 (Nat.le_of_ble_eq_true rfl) rfl (by decide) rfl rfl rfl rfl (Nat.le_of_ble_eq_true rfl) ⟨Nat.le_of_ble_eq_true rfl, Nat.le_of_ble_eq_true rfl⟩ dX10_look_32 ?_
      refine wp_if_eq (pc := 35) C 40 dX10_look_35 (by decide) (fun q => ?_) (fun q => ?_)
      · have h := it_pos q h
        refine wp_iload_n (pc := 40) C 3 dX10_look_40 rfl rfl ?_
        refine wp_if_lt (pc := 41) C 64 dX10_look_41 (by decide) (fun q => ?_) (fun q => ?_)
        · have h := it_pos q h
          refine wp_iconst (v := (-1)) (pc := 64) C dX10_look_64 (by decide) ?_
          exact rt_i C rfl h dX10_look_65
        · have h := it_neg q h
          refine wp_iload_n (pc := 44) C 3 dX10_look_44 rfl rfl ?_
          refine wp_ldcw (pc := 45) C qX10_268 dX10_look_45 ?_
          refine wp_icmp_gt (pc := 48) C 64 dX10_look_48 (by decide) (fun q => ?_) (fun q => ?_)
          · have h := it_pos q h
            refine wp_iconst (v := (-1)) (pc := 64) C dX10_look_64 (by decide) ?_
            exact rt_i C rfl h dX10_look_65
          · have h := it_neg q h
            refine wp_iload (pc := 51) C 4 dX10_look_51 rfl ?_
            refine wp_if_lt (pc := 53) C 64 dX10_look_53 (by decide) (fun q => ?_) (fun q => ?_)
            · have h := it_pos q h
              refine wp_iconst (v := (-1)) (pc := 64) C dX10_look_64 (by decide) ?_
              exact rt_i C rfl h dX10_look_65
            · have h := it_neg q h
              refine wp_iload (pc := 56) C 4 dX10_look_56 rfl ?_
              refine wp_sipush (v := 9999) (pc := 58) C dX10_look_58 (by decide) ?_
              refine wp_icmp_le (pc := 61) C 66 dX10_look_61 (by decide) (fun q => ?_) (fun q => ?_)
              · have h := it_pos q h
                refine wp_aload_n (pc := 66) C 0 dX10_look_66 rfl rfl ?_
                refine wp_getS (v := 234) (pc := 67) C flX10_45 rfl rfl (Nat.le_of_ble_eq_true rfl) (Nat.le_of_ble_eq_true rfl) rfl dX10_look_67 ?_
                refine wp_iload_n (pc := 70) C 1 dX10_look_70 rfl rfl ?_
                refine wp_iload_n (pc := 71) C 2 dX10_look_71 rfl rfl ?_
                refine wp_iload_n (pc := 72) C 3 dX10_look_72 rfl rfl ?_
                refine wp_iload (pc := 73) C 4 dX10_look_73 rfl ?_
                refine wp_aload_n (pc := 75) C 0 dX10_look_75 rfl rfl ?_
                refine wp_getI (pc := 76) C flX10_80 rfl (Nat.le_of_ble_eq_true rfl) rfl dX10_look_76 ?_
                obtain ⟨S11, r12, cS11, h⟩ := bd_some h
                refine wp_callVi (As := [.int x1, .int x2, .int x3, .int x4, .int (S9.1 0 12)]) (st := []) (pc := 79) C (CtX1_tell cS11) mX1_tell iX1_tell kX10_269 (Nat.le_of_ble_eq_true rfl) rfl (by decide) rfl rfl rfl rfl (Nat.le_of_ble_eq_true rfl) ⟨Nat.le_of_ble_eq_true rfl, Nat.le_of_ble_eq_true rfl⟩ dX10_look_79 ?_
                exact rt_i C rfl h dX10_look_82
              · have h := it_neg q h
                refine wp_iconst (v := (-1)) (pc := 64) C dX10_look_64 (by decide) ?_
                exact rt_i C rfl h dX10_look_65
      · have h := it_neg q h
        refine wp_iconst (v := (-1)) (pc := 38) C dX10_look_38 (by decide) ?_
        exact rt_i C rfl h dX10_look_39
theorem CtX10_look {n : Nat} {S S' : St} {r : Int32} {x1 : Int32} {x2 : Int32} {x3 : Int32} {x4 : Int32} (h : fX10_look n S x1 x2 x3 x4 = some (S', r)) : Ct l sdX cy ad D yX10_look cX10_look 5 (some .int) 2 45 [.ref (ad 0), .int x1, .int x2, .int x3, .int x4] S (some (.int r)) S' :=
  Ct_of (own := RX10) mX10_look rfl (Nat.le_of_ble_eq_true rfl) (fun G e1 e2 e3 e4 C => by subst e1 e2 e3 e4; exact wX10_look C h)
def fX10_untell (n : Nat) (S : St) (x1 : Int32) : Option (St × Int32) :=
  bd (fX1_takeBack n S x1 (S.1 0 12)) (fun S1 r2 =>
  gd (r2 = 0 ∨ r2 = 1) (
  some (S1, r2)))
set_option maxRecDepth 100000 in
set_option maxHeartbeats 4000000 in
theorem wX10_untell (C : Cx G sdX cX10_untell 2 RX10 (some .boolean)) {n : Nat} {S S' : St} {r : Int32} {x1 : Int32} (h : fX10_untell n S x1 = some (S', r)) : Wp G sdX (rmOf 1 22) 2 (Qm G sdX (some (.int r)) S') S 0 [(0, .ref (gA G 0)), (1, .int x1)] [] := by
  unfold fX10_untell at h
  refine wp_aload_n (pc := 0) C 0 dX10_untell_0 rfl rfl ?_
  refine wp_getS (v := 234) (pc := 1) C flX10_45 rfl rfl (Nat.le_of_ble_eq_true rfl) (Nat.le_of_ble_eq_true rfl) rfl dX10_untell_1 ?_
  refine wp_iload_n (pc := 4) C 1 dX10_untell_4 rfl rfl ?_
  refine wp_aload_n (pc := 5) C 0 dX10_untell_5 rfl rfl ?_
  refine wp_getI (pc := 6) C flX10_80 rfl (Nat.le_of_ble_eq_true rfl) rfl dX10_untell_6 ?_
  obtain ⟨S1, r2, cS1, h⟩ := bd_some h
  refine wp_callVi (As := [.int x1, .int (S.1 0 12)]) (st := []) (pc := 9) C (CtX1_takeBack cS1) mX1_takeBack iX1_takeBack kX10_273 (Nat.le_of_ble_eq_true rfl) rfl (by decide) rfl rfl rfl rfl (Nat.le_of_ble_eq_true rfl) ⟨Nat.le_of_ble_eq_true rfl, Nat.le_of_ble_eq_true rfl⟩ dX10_untell_9 ?_
  obtain ⟨g3, h⟩ := gd_some h
  exact rt_z C g3 rfl h dX10_untell_12
theorem CtX10_untell {n : Nat} {S S' : St} {r : Int32} {x1 : Int32} (h : fX10_untell n S x1 = some (S', r)) : Ct l sdX cy ad D yX10_untell cX10_untell 2 (some .boolean) 1 22 [.ref (ad 0), .int x1] S (some (.int r)) S' :=
  Ct_of (own := RX10) mX10_untell rfl (Nat.le_of_ble_eq_true rfl) (fun G e1 e2 e3 e4 C => by subst e1 e2 e3 e4; exact wX10_untell C h)
def fX10_later (n : Nat) (S : St) (x1 : Int32) : Option (St × Int32) :=
  if x1 < 0 then
    some (S, (-1))
  else
    if 1000 < x1 then
      some (S, (-1))
    else
      if ((S.1 0 12) + x1) ≤ 100000 then
        bn (sI S 0 12 ((S.1 0 12) + x1)) (fun S1 : St =>
        some (S1, S1.1 0 12))
      else
        some (S, (-1))
set_option maxRecDepth 100000 in
set_option maxHeartbeats 4000000 in
theorem wX10_later (C : Cx G sdX cX10_later 2 RX10 (some .int)) {n : Nat} {S S' : St} {r : Int32} {x1 : Int32} (h : fX10_later n S x1 = some (S', r)) : Wp G sdX (rmOf 0 0) 2 (Qm G sdX (some (.int r)) S') S 0 [(0, .ref (gA G 0)), (1, .int x1)] [] := by
  unfold fX10_later at h
  refine wp_iload_n (pc := 0) C 1 dX10_later_0 rfl rfl ?_
  refine wp_if_lt (pc := 1) C 23 dX10_later_1 (by decide) (fun q => ?_) (fun q => ?_)
  · have h := it_pos q h
    refine wp_iconst (v := (-1)) (pc := 23) C dX10_later_23 (by decide) ?_
    exact rt_i C rfl h dX10_later_24
  · have h := it_neg q h
    refine wp_iload_n (pc := 4) C 1 dX10_later_4 rfl rfl ?_
    refine wp_sipush (v := 1000) (pc := 5) C dX10_later_5 (by decide) ?_
    refine wp_icmp_gt (pc := 8) C 23 dX10_later_8 (by decide) (fun q => ?_) (fun q => ?_)
    · have h := it_pos q h
      refine wp_iconst (v := (-1)) (pc := 23) C dX10_later_23 (by decide) ?_
      exact rt_i C rfl h dX10_later_24
    · have h := it_neg q h
      refine wp_aload_n (pc := 11) C 0 dX10_later_11 rfl rfl ?_
      refine wp_getI (pc := 12) C flX10_80 rfl (Nat.le_of_ble_eq_true rfl) rfl dX10_later_12 ?_
      refine wp_iload_n (pc := 15) C 1 dX10_later_15 rfl rfl ?_
      refine wp_iadd (pc := 16) C dX10_later_16 ?_
      refine wp_ldcw (pc := 17) C qX10_277 dX10_later_17 ?_
      refine wp_icmp_le (pc := 20) C 25 dX10_later_20 (by decide) (fun q => ?_) (fun q => ?_)
      · have h := it_pos q h
        refine wp_aload_n (pc := 25) C 0 dX10_later_25 rfl rfl ?_
        refine wp_dup (pc := 26) C dX10_later_26 rfl ?_
        refine wp_getI (pc := 27) C flX10_80 rfl (Nat.le_of_ble_eq_true rfl) rfl dX10_later_27 ?_
        refine wp_iload_n (pc := 30) C 1 dX10_later_30 rfl rfl ?_
        refine wp_iadd (pc := 31) C dX10_later_31 ?_
        obtain ⟨S1, eS1, h⟩ := bn_some h
        refine wp_putI (pc := 32) C eS1 flX10_80 fpX10_12 rfl (Nat.le_of_ble_eq_true rfl) rfl dX10_later_32 ?_
        refine wp_aload_n (pc := 35) C 0 dX10_later_35 rfl rfl ?_
        refine wp_getI (pc := 36) C flX10_80 rfl (Nat.le_of_ble_eq_true rfl) rfl dX10_later_36 ?_
        exact rt_i C rfl h dX10_later_39
      · have h := it_neg q h
        refine wp_iconst (v := (-1)) (pc := 23) C dX10_later_23 (by decide) ?_
        exact rt_i C rfl h dX10_later_24
theorem CtX10_later {n : Nat} {S S' : St} {r : Int32} {x1 : Int32} (h : fX10_later n S x1 = some (S', r)) : Ct l sdX cy ad D yX10_later cX10_later 2 (some .int) 0 0 [.ref (ad 0), .int x1] S (some (.int r)) S' :=
  Ct_of (own := RX10) mX10_later rfl (Nat.le_of_ble_eq_true rfl) (fun G e1 e2 e3 e4 C => by subst e1 e2 e3 e4; exact wX10_later C h)
def fX10_agree (n : Nat) (S : St) (x1 : Int32) : Option (St × Int32) :=
  gd (isK sdX (S.2.2 0 2) 0) (
  bd (fX1_choose n S (S.2.2 0 2) x1) (fun S2 r3 =>
  some (S2, r3)))
set_option maxRecDepth 100000 in
set_option maxHeartbeats 4000000 in
theorem wX10_agree (C : Cx G sdX cX10_agree 2 RX10 (some .int)) {n : Nat} {S S' : St} {r : Int32} {x1 : Int32} (h : fX10_agree n S x1 = some (S', r)) : Wp G sdX (rmOf 3 77) 2 (Qm G sdX (some (.int r)) S') S 0 [(0, .ref (gA G 0)), (1, .int x1)] [] := by
  unfold fX10_agree at h
  refine wp_aload_n (pc := 0) C 0 dX10_agree_0 rfl rfl ?_
  refine wp_getS (v := 234) (pc := 1) C flX10_45 rfl rfl (Nat.le_of_ble_eq_true rfl) (Nat.le_of_ble_eq_true rfl) rfl dX10_agree_1 ?_
  refine wp_aload_n (pc := 4) C 0 dX10_agree_4 rfl rfl ?_
  obtain ⟨g1, h⟩ := gd_some h
  refine wp_getD (pc := 5) C flX10_19 rfl g1.1 (Nat.le_of_ble_eq_true rfl) rfl dX10_agree_5 ?_
  refine wp_aload_n (pc := 8) C 0 dX10_agree_8 rfl rfl ?_
  refine wp_getS (v := 157) (pc := 9) C flX10_38 rfl rfl (Nat.le_of_ble_eq_true rfl) (Nat.le_of_ble_eq_true rfl) rfl dX10_agree_9 ?_
  refine wp_iload_n (pc := 12) C 1 dX10_agree_12 rfl rfl ?_
  obtain ⟨S2, r3, cS2, h⟩ := bd_some h
  refine wp_callVi (As := [.ref (gA G (S.2.2 0 2)), .ref (gA G 157), .int x1]) (st := []) (pc := 13) C (CtX1_choose cS2) mX1_choose iX1_choose kX10_278 (Nat.le_of_ble_eq_true rfl) rfl (by decide) rfl rfl rfl rfl (Nat.le_of_ble_eq_true rfl) ⟨Nat.le_of_ble_eq_true rfl, Nat.le_of_ble_eq_true rfl⟩ dX10_agree_13 ?_
  exact rt_i C rfl h dX10_agree_16
theorem CtX10_agree {n : Nat} {S S' : St} {r : Int32} {x1 : Int32} (h : fX10_agree n S x1 = some (S', r)) : Ct l sdX cy ad D yX10_agree cX10_agree 2 (some .int) 3 77 [.ref (ad 0), .int x1] S (some (.int r)) S' :=
  Ct_of (own := RX10) mX10_agree rfl (Nat.le_of_ble_eq_true rfl) (fun G e1 e2 e3 e4 C => by subst e1 e2 e3 e4; exact wX10_agree C h)
def fX10_agrees_j26 (n : Nat) (S : St) : Option (St × Int32) :=
  some (S, (-1))
set_option maxRecDepth 100000 in
set_option maxHeartbeats 4000000 in
theorem wX10_agrees_j26 (C : Cx G sdX cX10_agrees 4 RX10 (some .int)) {n : Nat} {S S' : St} {r : Int32} (h : fX10_agrees_j26 n S = some (S', r)) : Wp G sdX (rmOf 3 77) 4 (Qm G sdX (some (.int r)) S') S 26 [] [] := by
  unfold fX10_agrees_j26 at h
  refine wp_iconst (v := (-1)) (pc := 26) C dX10_agrees_26 (by decide) ?_
  refine wp_goto (pc := 27) C 39 dX10_agrees_27 (by decide) ?_
  exact rt_i C rfl h dX10_agrees_39
def fX10_agrees (n : Nat) (S : St) (x1 : Int32) (x2 : Int32) : Option (St × Int32) :=
  gd (isK sdX (S.2.2 0 2) 0) (
  bd (fX1_choose n S (S.2.2 0 2) x2) (fun S2 r3 =>
  if x1 < 0 then
    fX10_agrees_j26 n S2
  else
    if x1 < r3 then
      gd (ib x1 72) (
      some (S2, S2.1 242 (Int32.toNatClampNeg x1)))
    else
      fX10_agrees_j26 n S2))
set_option maxRecDepth 100000 in
set_option maxHeartbeats 4000000 in
theorem wX10_agrees (C : Cx G sdX cX10_agrees 4 RX10 (some .int)) {n : Nat} {S S' : St} {r : Int32} {x1 : Int32} {x2 : Int32} (h : fX10_agrees n S x1 x2 = some (S', r)) : Wp G sdX (rmOf 3 77) 4 (Qm G sdX (some (.int r)) S') S 0 [(0, .ref (gA G 0)), (1, .int x1), (2, .int x2)] [] := by
  unfold fX10_agrees at h
  refine wp_aload_n (pc := 0) C 0 dX10_agrees_0 rfl rfl ?_
  refine wp_getS (v := 234) (pc := 1) C flX10_45 rfl rfl (Nat.le_of_ble_eq_true rfl) (Nat.le_of_ble_eq_true rfl) rfl dX10_agrees_1 ?_
  refine wp_aload_n (pc := 4) C 0 dX10_agrees_4 rfl rfl ?_
  obtain ⟨g1, h⟩ := gd_some h
  refine wp_getD (pc := 5) C flX10_19 rfl g1.1 (Nat.le_of_ble_eq_true rfl) rfl dX10_agrees_5 ?_
  refine wp_aload_n (pc := 8) C 0 dX10_agrees_8 rfl rfl ?_
  refine wp_getS (v := 157) (pc := 9) C flX10_38 rfl rfl (Nat.le_of_ble_eq_true rfl) (Nat.le_of_ble_eq_true rfl) rfl dX10_agrees_9 ?_
  refine wp_iload_n (pc := 12) C 2 dX10_agrees_12 rfl rfl ?_
  obtain ⟨S2, r3, cS2, h⟩ := bd_some h
  refine wp_callVi (As := [.ref (gA G (S.2.2 0 2)), .ref (gA G 157), .int x2]) (st := []) (pc := 13) C (CtX1_choose cS2) mX1_choose iX1_choose kX10_278 (Nat.le_of_ble_eq_true rfl) rfl (by decide) rfl rfl rfl rfl (Nat.le_of_ble_eq_true rfl) ⟨Nat.le_of_ble_eq_true rfl, Nat.le_of_ble_eq_true rfl⟩ dX10_agrees_13 ?_
  refine wp_istore_n (pc := 16) C rfl [(3, .int r3), (0, .ref (gA G 0)), (1, .int x1), (2, .int x2)] dX10_agrees_16 rfl (Nat.le_of_ble_eq_true rfl) rfl ?_
  refine wp_iload_n (pc := 17) C 2 dX10_agrees_17 rfl rfl ?_
  refine wp_if_lt (pc := 18) C 26 dX10_agrees_18 (by decide) (fun q => ?_) (fun q => ?_)
  · have h := it_pos q h
    exact wp_sub C [] rfl (wX10_agrees_j26 C h)
  · have h := it_neg q h
    refine wp_iload_n (pc := 21) C 2 dX10_agrees_21 rfl rfl ?_
    refine wp_iload_n (pc := 22) C 0 dX10_agrees_22 rfl rfl ?_
    refine wp_icmp_lt (pc := 23) C 30 dX10_agrees_23 (by decide) (fun q => ?_) (fun q => ?_)
    · have h := it_pos q h
      refine wp_aload_n (pc := 30) C 1 dX10_agrees_30 rfl rfl ?_
      refine wp_getS (v := 234) (pc := 31) C flX10_45 rfl rfl (Nat.le_of_ble_eq_true rfl) (Nat.le_of_ble_eq_true rfl) rfl dX10_agrees_31 ?_
      refine wp_getS (v := 242) (pc := 34) C flX10_282 rfl rfl (Nat.le_of_ble_eq_true rfl) (Nat.le_of_ble_eq_true rfl) rfl dX10_agrees_34 ?_
      refine wp_iload_n (pc := 37) C 2 dX10_agrees_37 rfl rfl ?_
      obtain ⟨g4, h⟩ := gd_some h
      refine wp_iald (pc := 38) C (Nat.le_of_ble_eq_true rfl) rfl g4 dX10_agrees_38 ?_
      exact rt_i C rfl h dX10_agrees_39
    · have h := it_neg q h
      exact wp_sub C [] rfl (wX10_agrees_j26 C h)
theorem CtX10_agrees {n : Nat} {S S' : St} {r : Int32} {x1 : Int32} {x2 : Int32} (h : fX10_agrees n S x1 x2 = some (S', r)) : Ct l sdX cy ad D yX10_agrees cX10_agrees 4 (some .int) 3 77 [.ref (ad 0), .int x1, .int x2] S (some (.int r)) S' :=
  Ct_of (own := RX10) mX10_agrees rfl (Nat.le_of_ble_eq_true rfl) (fun G e1 e2 e3 e4 C => by subst e1 e2 e3 e4; exact wX10_agrees C h)
def fX10_next (n : Nat) (S : St) (x1 : Int32) (x2 : Int32) : Option (St × Int32) :=
  if x1 < 0 then
    some (S, (-1))
  else
    if 2 < x1 then
      some (S, (-1))
    else
      gd (isK sdX (S.2.2 0 2) 0) (
      bd (fX1_choose n S (S.2.2 0 2) x2) (fun S2 r3 =>
      if r3 = 0 then
        some (S2, (-1))
      else
        gd (isK sdX (S2.2.2 0 2) 0) (
        gd (isK sdX (srX (S2.2.2 0 2) 2) 5) (
        if (S2.1 (srX (S2.2.2 0 2) 2) 3) = 0 then
          some (S2, (-1))
        else
          gd (isK sdX (srX (S2.2.2 0 2) 3) 5) (
          if (S2.1 (srX (S2.2.2 0 2) 3) 3) = 0 then
            some (S2, (-1))
          else
            bd (fX1_findNext n S2 (S2.2.2 0 2)) (fun S7 r8 =>
            if x1 = 0 then
              some (S7, S7.1 234 10)
            else if x1 = 1 then
              some (S7, S7.1 234 11)
            else some (S7, S7.1 234 12)))))))
set_option maxRecDepth 100000 in
set_option maxHeartbeats 4000000 in
theorem wX10_next (C : Cx G sdX cX10_next 3 RX10 (some .int)) {n : Nat} {S S' : St} {r : Int32} {x1 : Int32} {x2 : Int32} (h : fX10_next n S x1 x2 = some (S', r)) : Wp G sdX (rmOf 3 77) 3 (Qm G sdX (some (.int r)) S') S 0 [(0, .ref (gA G 0)), (1, .int x1), (2, .int x2)] [] := by
  unfold fX10_next at h
  refine wp_iload_n (pc := 0) C 1 dX10_next_0 rfl rfl ?_
  refine wp_if_lt (pc := 1) C 28 dX10_next_1 (by decide) (fun q => ?_) (fun q => ?_)
  · have h := it_pos q h
    refine wp_iconst (v := (-1)) (pc := 28) C dX10_next_28 (by decide) ?_
    exact rt_i C rfl h dX10_next_29
  · have h := it_neg q h
    refine wp_iload_n (pc := 4) C 1 dX10_next_4 rfl rfl ?_
    refine wp_iconst (v := 2) (pc := 5) C dX10_next_5 (by decide) ?_
    refine wp_icmp_gt (pc := 6) C 28 dX10_next_6 (by decide) (fun q => ?_) (fun q => ?_)
    · have h := it_pos q h
      refine wp_iconst (v := (-1)) (pc := 28) C dX10_next_28 (by decide) ?_
      exact rt_i C rfl h dX10_next_29
    · have h := it_neg q h
      refine wp_aload_n (pc := 9) C 0 dX10_next_9 rfl rfl ?_
      refine wp_getS (v := 234) (pc := 10) C flX10_45 rfl rfl (Nat.le_of_ble_eq_true rfl) (Nat.le_of_ble_eq_true rfl) rfl dX10_next_10 ?_
      refine wp_aload_n (pc := 13) C 0 dX10_next_13 rfl rfl ?_
      obtain ⟨g1, h⟩ := gd_some h
      refine wp_getD (pc := 14) C flX10_19 rfl g1.1 (Nat.le_of_ble_eq_true rfl) rfl dX10_next_14 ?_
      refine wp_aload_n (pc := 17) C 0 dX10_next_17 rfl rfl ?_
      refine wp_getS (v := 157) (pc := 18) C flX10_38 rfl rfl (Nat.le_of_ble_eq_true rfl) (Nat.le_of_ble_eq_true rfl) rfl dX10_next_18 ?_
      refine wp_iload_n (pc := 21) C 2 dX10_next_21 rfl rfl ?_
      obtain ⟨S2, r3, cS2, h⟩ := bd_some h
      refine wp_callVi (As := [.ref (gA G (S.2.2 0 2)), .ref (gA G 157), .int x2]) (st := []) (pc := 22) C (CtX1_choose cS2) mX1_choose iX1_choose kX10_278 (Nat.le_of_ble_eq_true rfl) rfl (by decide) rfl rfl rfl rfl (Nat.le_of_ble_eq_true rfl) ⟨Nat.le_of_ble_eq_true rfl, Nat.le_of_ble_eq_true rfl⟩ dX10_next_22 ?_
      refine wp_if_ne (pc := 25) C 30 dX10_next_25 (by decide) (fun q => ?_) (fun q => ?_)
      · have h := it_neg q h
        refine wp_aload_n (pc := 30) C 0 dX10_next_30 rfl rfl ?_
        obtain ⟨g4, h⟩ := gd_some h
        refine wp_getD (pc := 31) C flX10_19 rfl g4.1 (Nat.le_of_ble_eq_true rfl) rfl dX10_next_31 ?_
        obtain ⟨g5, h⟩ := gd_some h
        refine wp_getS (v := srX (S2.2.2 0 2) 2) (pc := 34) C flX10_137 rfl rfl g5.1 g4.1 g4.2 dX10_next_34 ?_
        refine wp_getI (pc := 37) C flX10_106 rfl g5.1 g5.2 dX10_next_37 ?_
        refine wp_if_eq (pc := 40) C 56 dX10_next_40 (by decide) (fun q => ?_) (fun q => ?_)
        · have h := it_pos q h
          refine wp_iconst (v := (-1)) (pc := 56) C dX10_next_56 (by decide) ?_
          exact rt_i C rfl h dX10_next_57
        · have h := it_neg q h
          refine wp_aload_n (pc := 43) C 0 dX10_next_43 rfl rfl ?_
          refine wp_getD (pc := 44) C flX10_19 rfl g4.1 (Nat.le_of_ble_eq_true rfl) rfl dX10_next_44 ?_
          obtain ⟨g6, h⟩ := gd_some h
          refine wp_getS (v := srX (S2.2.2 0 2) 3) (pc := 47) C flX10_143 rfl rfl g6.1 g4.1 g4.2 dX10_next_47 ?_
          refine wp_getI (pc := 50) C flX10_106 rfl g6.1 g6.2 dX10_next_50 ?_
          refine wp_if_ne (pc := 53) C 58 dX10_next_53 (by decide) (fun q => ?_) (fun q => ?_)
          · have h := it_neg q h
            refine wp_aload_n (pc := 58) C 0 dX10_next_58 rfl rfl ?_
            refine wp_getS (v := 234) (pc := 59) C flX10_45 rfl rfl (Nat.le_of_ble_eq_true rfl) (Nat.le_of_ble_eq_true rfl) rfl dX10_next_59 ?_
            refine wp_aload_n (pc := 62) C 0 dX10_next_62 rfl rfl ?_
            refine wp_getD (pc := 63) C flX10_19 rfl g4.1 (Nat.le_of_ble_eq_true rfl) rfl dX10_next_63 ?_
            refine wp_aload_n (pc := 66) C 0 dX10_next_66 rfl rfl ?_
            refine wp_getS (v := 157) (pc := 67) C flX10_38 rfl rfl (Nat.le_of_ble_eq_true rfl) (Nat.le_of_ble_eq_true rfl) rfl dX10_next_67 ?_
            obtain ⟨S7, r8, cS7, h⟩ := bd_some h
            refine wp_callVv (As := [.ref (gA G (S2.2.2 0 2)), .ref (gA G 157)]) (st := []) (pc := 70) C (CtX1_findNext cS7) mX1_findNext iX1_findNext kX10_285 (Nat.le_of_ble_eq_true rfl) rfl (by decide) rfl rfl rfl rfl (Nat.le_of_ble_eq_true rfl) ⟨Nat.le_of_ble_eq_true rfl, Nat.le_of_ble_eq_true rfl⟩ dX10_next_70 ?_
            refine wp_iload_n (pc := 73) C 1 dX10_next_73 rfl rfl ?_
            by_cases q : x1 = 0
            · have h := it_pos q h
              refine wp_lookup (pc := 74) C 100 dX10_next_74 (by decide) (by rw [q]; first | done | rfl) (by decide) ?_
              refine wp_aload_n (pc := 100) C 0 dX10_next_100 rfl rfl ?_
              refine wp_getS (v := 234) (pc := 101) C flX10_45 rfl rfl (Nat.le_of_ble_eq_true rfl) (Nat.le_of_ble_eq_true rfl) rfl dX10_next_101 ?_
              refine wp_getI (pc := 104) C flX10_288 rfl (Nat.le_of_ble_eq_true rfl) rfl dX10_next_104 ?_
              exact rt_i C rfl h dX10_next_107
            have h := it_neg q h
            have n9 := q
            by_cases q : x1 = 1
            · have h := it_pos q h
              refine wp_lookup (pc := 74) C 108 dX10_next_74 (by decide) (by rw [q]; first | done | rfl) (by decide) ?_
              refine wp_aload_n (pc := 108) C 0 dX10_next_108 rfl rfl ?_
              refine wp_getS (v := 234) (pc := 109) C flX10_45 rfl rfl (Nat.le_of_ble_eq_true rfl) (Nat.le_of_ble_eq_true rfl) rfl dX10_next_109 ?_
              refine wp_getI (pc := 112) C flX10_291 rfl (Nat.le_of_ble_eq_true rfl) rfl dX10_next_112 ?_
              exact rt_i C rfl h dX10_next_115
            have h := it_neg q h
            have n10 := q
            refine wp_lookup (off := 42) (pc := 74) C 116 dX10_next_74 (by decide) (by have m0 := ne_toInt (v := 0) (by decide) n9; have m1 := ne_toInt (v := 1) (by decide) n10; simp [Op.lookupswitch.offset, m0, Ne.symm m0, m1, Ne.symm m1]) (by decide) ?_
            refine wp_aload_n (pc := 116) C 0 dX10_next_116 rfl rfl ?_
            refine wp_getS (v := 234) (pc := 117) C flX10_45 rfl rfl (Nat.le_of_ble_eq_true rfl) (Nat.le_of_ble_eq_true rfl) rfl dX10_next_117 ?_
            refine wp_getI (pc := 120) C flX10_294 rfl (Nat.le_of_ble_eq_true rfl) rfl dX10_next_120 ?_
            exact rt_i C rfl h dX10_next_123
          · have h := it_pos q h
            refine wp_iconst (v := (-1)) (pc := 56) C dX10_next_56 (by decide) ?_
            exact rt_i C rfl h dX10_next_57
      · have h := it_pos q h
        refine wp_iconst (v := (-1)) (pc := 28) C dX10_next_28 (by decide) ?_
        exact rt_i C rfl h dX10_next_29
theorem CtX10_next {n : Nat} {S S' : St} {r : Int32} {x1 : Int32} {x2 : Int32} (h : fX10_next n S x1 x2 = some (S', r)) : Ct l sdX cy ad D yX10_next cX10_next 3 (some .int) 3 77 [.ref (ad 0), .int x1, .int x2] S (some (.int r)) S' :=
  Ct_of (own := RX10) mX10_next rfl (Nat.le_of_ble_eq_true rfl) (fun G e1 e2 e3 e4 C => by subst e1 e2 e3 e4; exact wX10_next C h)
def fX10_about (n : Nat) (S : St) (x1 : Int32) : Option (St × Int32) :=
  if x1 = 0 then
    gd (isK sdX (S.2.2 0 2) 0) (
    some (S, S.1 (S.2.2 0 2) 9))
  else if x1 = 1 then
    gd (isK sdX (S.2.2 0 2) 0) (
    gd (isK sdX (srX (S.2.2 0 2) 0) 5) (
    some (S, S.1 (srX (S.2.2 0 2) 0) 3)))
  else if x1 = 2 then
    gd (isK sdX (S.2.2 0 2) 0) (
    gd (isK sdX (srX (S.2.2 0 2) 1) 5) (
    some (S, S.1 (srX (S.2.2 0 2) 1) 3)))
  else if x1 = 3 then
    gd (isK sdX (S.2.2 0 2) 0) (
    gd (isK sdX (srX (S.2.2 0 2) 2) 5) (
    some (S, S.1 (srX (S.2.2 0 2) 2) 3)))
  else if x1 = 4 then
    gd (isK sdX (S.2.2 0 2) 0) (
    gd (isK sdX (srX (S.2.2 0 2) 3) 5) (
    some (S, S.1 (srX (S.2.2 0 2) 3) 3)))
  else if x1 = 5 then
    gd (isK sdX (S.2.2 0 2) 0) (
    gd (isK sdX (srX (S.2.2 0 2) 4) 5) (
    some (S, S.1 (srX (S.2.2 0 2) 4) 3)))
  else if x1 = 6 then
    some (S, S.1 234 9)
  else if x1 = 7 then
    some (S, S.1 0 12)
  else if x1 = 8 then
    some (S, S.1 1 1)
  else if x1 = 9 then
    some (S, S.1 261 3)
  else if x1 = 10 then
    some (S, S.1 261 2)
  else if x1 = 11 then
    some (S, S.1 261 1)
  else some (S, (-1))
set_option maxRecDepth 100000 in
set_option maxHeartbeats 4000000 in
theorem wX10_about (C : Cx G sdX cX10_about 2 RX10 (some .int)) {n : Nat} {S S' : St} {r : Int32} {x1 : Int32} (h : fX10_about n S x1 = some (S', r)) : Wp G sdX (rmOf 0 0) 2 (Qm G sdX (some (.int r)) S') S 0 [(0, .ref (gA G 0)), (1, .int x1)] [] := by
  unfold fX10_about at h
  refine wp_iload_n (pc := 0) C 1 dX10_about_0 rfl rfl ?_
  by_cases q : x1 = 0
  · have h := it_pos q h
    refine wp_tableIn (pc := 1) C 64 dX10_about_1 (by rw [q]; decide) (by rw [q]; decide) (by rw [q]; rfl) (by decide) ?_
    refine wp_aload_n (pc := 64) C 0 dX10_about_64 rfl rfl ?_
    obtain ⟨g1, h⟩ := gd_some h
    refine wp_getD (pc := 65) C flX10_19 rfl g1.1 (Nat.le_of_ble_eq_true rfl) rfl dX10_about_65 ?_
    refine wp_getI (pc := 68) C flX10_134 rfl g1.1 g1.2 dX10_about_68 ?_
    exact rt_i C rfl h dX10_about_71
  have h := it_neg q h
  have n2 := q
  by_cases q : x1 = 1
  · have h := it_pos q h
    refine wp_tableIn (pc := 1) C 72 dX10_about_1 (by rw [q]; decide) (by rw [q]; decide) (by rw [q]; rfl) (by decide) ?_
    refine wp_aload_n (pc := 72) C 0 dX10_about_72 rfl rfl ?_
    obtain ⟨g3, h⟩ := gd_some h
    refine wp_getD (pc := 73) C flX10_19 rfl g3.1 (Nat.le_of_ble_eq_true rfl) rfl dX10_about_73 ?_
    obtain ⟨g4, h⟩ := gd_some h
    refine wp_getS (v := srX (S.2.2 0 2) 0) (pc := 76) C flX10_223 rfl rfl g4.1 g3.1 g3.2 dX10_about_76 ?_
    refine wp_getI (pc := 79) C flX10_106 rfl g4.1 g4.2 dX10_about_79 ?_
    exact rt_i C rfl h dX10_about_82
  have h := it_neg q h
  have n5 := q
  by_cases q : x1 = 2
  · have h := it_pos q h
    refine wp_tableIn (pc := 1) C 83 dX10_about_1 (by rw [q]; decide) (by rw [q]; decide) (by rw [q]; rfl) (by decide) ?_
    refine wp_aload_n (pc := 83) C 0 dX10_about_83 rfl rfl ?_
    obtain ⟨g6, h⟩ := gd_some h
    refine wp_getD (pc := 84) C flX10_19 rfl g6.1 (Nat.le_of_ble_eq_true rfl) rfl dX10_about_84 ?_
    obtain ⟨g7, h⟩ := gd_some h
    refine wp_getS (v := srX (S.2.2 0 2) 1) (pc := 87) C flX10_171 rfl rfl g7.1 g6.1 g6.2 dX10_about_87 ?_
    refine wp_getI (pc := 90) C flX10_106 rfl g7.1 g7.2 dX10_about_90 ?_
    exact rt_i C rfl h dX10_about_93
  have h := it_neg q h
  have n8 := q
  by_cases q : x1 = 3
  · have h := it_pos q h
    refine wp_tableIn (pc := 1) C 94 dX10_about_1 (by rw [q]; decide) (by rw [q]; decide) (by rw [q]; rfl) (by decide) ?_
    refine wp_aload_n (pc := 94) C 0 dX10_about_94 rfl rfl ?_
    obtain ⟨g9, h⟩ := gd_some h
    refine wp_getD (pc := 95) C flX10_19 rfl g9.1 (Nat.le_of_ble_eq_true rfl) rfl dX10_about_95 ?_
    obtain ⟨g10, h⟩ := gd_some h
    refine wp_getS (v := srX (S.2.2 0 2) 2) (pc := 98) C flX10_137 rfl rfl g10.1 g9.1 g9.2 dX10_about_98 ?_
    refine wp_getI (pc := 101) C flX10_106 rfl g10.1 g10.2 dX10_about_101 ?_
    exact rt_i C rfl h dX10_about_104
  have h := it_neg q h
  have n11 := q
  by_cases q : x1 = 4
  · have h := it_pos q h
    refine wp_tableIn (pc := 1) C 105 dX10_about_1 (by rw [q]; decide) (by rw [q]; decide) (by rw [q]; rfl) (by decide) ?_
    refine wp_aload_n (pc := 105) C 0 dX10_about_105 rfl rfl ?_
    obtain ⟨g12, h⟩ := gd_some h
    refine wp_getD (pc := 106) C flX10_19 rfl g12.1 (Nat.le_of_ble_eq_true rfl) rfl dX10_about_106 ?_
    obtain ⟨g13, h⟩ := gd_some h
    refine wp_getS (v := srX (S.2.2 0 2) 3) (pc := 109) C flX10_143 rfl rfl g13.1 g12.1 g12.2 dX10_about_109 ?_
    refine wp_getI (pc := 112) C flX10_106 rfl g13.1 g13.2 dX10_about_112 ?_
    exact rt_i C rfl h dX10_about_115
  have h := it_neg q h
  have n14 := q
  by_cases q : x1 = 5
  · have h := it_pos q h
    refine wp_tableIn (pc := 1) C 116 dX10_about_1 (by rw [q]; decide) (by rw [q]; decide) (by rw [q]; rfl) (by decide) ?_
    refine wp_aload_n (pc := 116) C 0 dX10_about_116 rfl rfl ?_
    obtain ⟨g15, h⟩ := gd_some h
    refine wp_getD (pc := 117) C flX10_19 rfl g15.1 (Nat.le_of_ble_eq_true rfl) rfl dX10_about_117 ?_
    obtain ⟨g16, h⟩ := gd_some h
    refine wp_getS (v := srX (S.2.2 0 2) 4) (pc := 120) C flX10_102 rfl rfl g16.1 g15.1 g15.2 dX10_about_120 ?_
    refine wp_getI (pc := 123) C flX10_106 rfl g16.1 g16.2 dX10_about_123 ?_
    exact rt_i C rfl h dX10_about_126
  have h := it_neg q h
  have n17 := q
  by_cases q : x1 = 6
  · have h := it_pos q h
    refine wp_tableIn (pc := 1) C 127 dX10_about_1 (by rw [q]; decide) (by rw [q]; decide) (by rw [q]; rfl) (by decide) ?_
    refine wp_aload_n (pc := 127) C 0 dX10_about_127 rfl rfl ?_
    refine wp_getS (v := 234) (pc := 128) C flX10_45 rfl rfl (Nat.le_of_ble_eq_true rfl) (Nat.le_of_ble_eq_true rfl) rfl dX10_about_128 ?_
    refine wp_getI (pc := 131) C flX10_120 rfl (Nat.le_of_ble_eq_true rfl) rfl dX10_about_131 ?_
    exact rt_i C rfl h dX10_about_134
  have h := it_neg q h
  have n18 := q
  by_cases q : x1 = 7
  · have h := it_pos q h
    refine wp_tableIn (pc := 1) C 135 dX10_about_1 (by rw [q]; decide) (by rw [q]; decide) (by rw [q]; rfl) (by decide) ?_
    refine wp_aload_n (pc := 135) C 0 dX10_about_135 rfl rfl ?_
    refine wp_getI (pc := 136) C flX10_80 rfl (Nat.le_of_ble_eq_true rfl) rfl dX10_about_136 ?_
    exact rt_i C rfl h dX10_about_139
  have h := it_neg q h
  have n19 := q
  by_cases q : x1 = 8
  · have h := it_pos q h
    refine wp_tableIn (pc := 1) C 140 dX10_about_1 (by rw [q]; decide) (by rw [q]; decide) (by rw [q]; rfl) (by decide) ?_
    refine wp_aload_n (pc := 140) C 0 dX10_about_140 rfl rfl ?_
    refine wp_getS (v := 1) (pc := 141) C flX10_12 rfl rfl (Nat.le_of_ble_eq_true rfl) (Nat.le_of_ble_eq_true rfl) rfl dX10_about_141 ?_
    refine wp_getI (pc := 144) C flX10_92 rfl (Nat.le_of_ble_eq_true rfl) rfl dX10_about_144 ?_
    exact rt_i C rfl h dX10_about_147
  have h := it_neg q h
  have n20 := q
  by_cases q : x1 = 9
  · have h := it_pos q h
    refine wp_tableIn (pc := 1) C 148 dX10_about_1 (by rw [q]; decide) (by rw [q]; decide) (by rw [q]; rfl) (by decide) ?_
    refine wp_aload_n (pc := 148) C 0 dX10_about_148 rfl rfl ?_
    refine wp_getS (v := 261) (pc := 149) C flX10_61 rfl rfl (Nat.le_of_ble_eq_true rfl) (Nat.le_of_ble_eq_true rfl) rfl dX10_about_149 ?_
    refine wp_getI (pc := 152) C flX10_251 rfl (Nat.le_of_ble_eq_true rfl) rfl dX10_about_152 ?_
    exact rt_i C rfl h dX10_about_155
  have h := it_neg q h
  have n21 := q
  by_cases q : x1 = 10
  · have h := it_pos q h
    refine wp_tableIn (pc := 1) C 156 dX10_about_1 (by rw [q]; decide) (by rw [q]; decide) (by rw [q]; rfl) (by decide) ?_
    refine wp_aload_n (pc := 156) C 0 dX10_about_156 rfl rfl ?_
    refine wp_getS (v := 261) (pc := 157) C flX10_61 rfl rfl (Nat.le_of_ble_eq_true rfl) (Nat.le_of_ble_eq_true rfl) rfl dX10_about_157 ?_
    refine wp_getI (pc := 160) C flX10_297 rfl (Nat.le_of_ble_eq_true rfl) rfl dX10_about_160 ?_
    exact rt_i C rfl h dX10_about_163
  have h := it_neg q h
  have n22 := q
  by_cases q : x1 = 11
  · have h := it_pos q h
    refine wp_tableIn (pc := 1) C 164 dX10_about_1 (by rw [q]; decide) (by rw [q]; decide) (by rw [q]; rfl) (by decide) ?_
    refine wp_aload_n (pc := 164) C 0 dX10_about_164 rfl rfl ?_
    refine wp_getS (v := 261) (pc := 165) C flX10_61 rfl rfl (Nat.le_of_ble_eq_true rfl) (Nat.le_of_ble_eq_true rfl) rfl dX10_about_165 ?_
    refine wp_getI (pc := 168) C flX10_178 rfl (Nat.le_of_ble_eq_true rfl) rfl dX10_about_168 ?_
    exact rt_i C rfl h dX10_about_171
  have h := it_neg q h
  have n23 := q
  refine wp_tableOut (pc := 1) C 172 dX10_about_1 (by have m0 := ne_toInt (v := 0) (by decide) n2; have m1 := ne_toInt (v := 1) (by decide) n5; have m2 := ne_toInt (v := 2) (by decide) n8; have m3 := ne_toInt (v := 3) (by decide) n11; have m4 := ne_toInt (v := 4) (by decide) n14; have m5 := ne_toInt (v := 5) (by decide) n17; have m6 := ne_toInt (v := 6) (by decide) n18; have m7 := ne_toInt (v := 7) (by decide) n19; have m8 := ne_toInt (v := 8) (by decide) n20; have m9 := ne_toInt (v := 9) (by decide) n21; have m10 := ne_toInt (v := 10) (by decide) n22; have m11 := ne_toInt (v := 11) (by decide) n23; omega) (by decide) ?_
  refine wp_iconst (v := (-1)) (pc := 172) C dX10_about_172 (by decide) ?_
  exact rt_i C rfl h dX10_about_173
theorem CtX10_about {n : Nat} {S S' : St} {r : Int32} {x1 : Int32} (h : fX10_about n S x1 = some (S', r)) : Ct l sdX cy ad D yX10_about cX10_about 2 (some .int) 0 0 [.ref (ad 0), .int x1] S (some (.int r)) S' :=
  Ct_of (own := RX10) mX10_about rfl (Nat.le_of_ble_eq_true rfl) (fun G e1 e2 e3 e4 C => by subst e1 e2 e3 e4; exact wX10_about C h)
end
