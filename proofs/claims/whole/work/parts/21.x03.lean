section
variable {G : Gx} {l : Launch} {cy : Nat → ClassId} {ad : Nat → Nat} {D : va_G}
def fX3_readDye_j38 (n : Nat) (S : St) : Option (St × Int32) :=
  bd (fX3_refuse n S 2) (fun S1 r2 =>
  gd (r2 = 0 ∨ r2 = 1) (
  some (S1, r2)))
set_option maxRecDepth 100000 in
set_option maxHeartbeats 4000000 in
theorem wX3_readDye_j38 (C : Cx G sdX cX3_readDye 2 RX3 (some .boolean)) {n : Nat} {S S' : St} {r : Int32} (h : fX3_readDye_j38 n S = some (S', r)) : Wp G sdX (rmOf 3 66) 2 (Qm G sdX (some (.int r)) S') S 38 [(0, .ref (gA G 151))] [] := by
  unfold fX3_readDye_j38 at h
  refine wp_aload_n (pc := 38) C 0 dX3_readDye_38 rfl rfl ?_
  refine wp_iconst (v := 2) (pc := 39) C dX3_readDye_39 (by decide) ?_
  obtain ⟨S1, r2, cS1, h⟩ := bd_some h
  refine wp_callVi (As := [.int 2]) (st := []) (pc := 40) C (CtX3_refuse cS1) mX3_refuse iX3_refuse kX3_90 (Nat.le_of_ble_eq_true rfl) rfl (by decide) rfl rfl rfl rfl (Nat.le_of_ble_eq_true rfl) ⟨Nat.le_of_ble_eq_true rfl, Nat.le_of_ble_eq_true rfl⟩ dX3_readDye_40 ?_
  obtain ⟨g3, h⟩ := gd_some h
  exact rt_z C g3 rfl h dX3_readDye_43
def fX3_readDye (n : Nat) (S : St) : Option (St × Int32) :=
  gd (isK sdX (S.2.2 151 1) 0) (
  gd (isK sdX (srX (S.2.2 151 1) 0) 5) (
  bn (S.1 (srX (S.2.2 151 1) 0) 3) (fun z3 : Int32 =>
  gd (isK sdX (srX (S.2.2 151 1) 4) 5) (
  if 0 < (S.1 (srX (S.2.2 151 1) 4) 3) then
    fX3_readDye_j38 n S
  else
    bd (fX3_openThing n S (srX (S.2.2 151 1) 0)) (fun S5 r6 =>
    if r6 = 0 then
      fX3_readDye_j38 n S5
    else
      bd (fX3_take n S5 15) (fun S7 r8 =>
      if r8 = 0 then
        some (S7, 0)
      else
        bd (fX3_takeNumber n S7 0 99) (fun S9 r10 =>
        if r10 = 0 then
          some (S9, 0)
        else
          gd (isK sdX (S9.2.2 151 1) 0) (
          gd (isK sdX (srX (S9.2.2 151 1) 5) 13) (
          gd (ib z3 (sdX.2.2.1 (srX (S9.2.2 151 1) 5))) (
          bn (sI S9 (srX (S9.2.2 151 1) 5) (Int32.toNatClampNeg z3) (S9.1 151 6)) (fun S14 : St =>
          bd (fX3_take n S14 16) (fun S15 r16 =>
          if r16 = 0 then
            some (S15, 0)
          else
            bd (fX3_takeNumber n S15 0 99) (fun S17 r18 =>
            if r18 = 0 then
              some (S17, 0)
            else
              gd (isK sdX (S17.2.2 151 1) 0) (
              gd (isK sdX (srX (S17.2.2 151 1) 6) 13) (
              gd (ib z3 (sdX.2.2.1 (srX (S17.2.2 151 1) 6))) (
              bn (sI S17 (srX (S17.2.2 151 1) 6) (Int32.toNatClampNeg z3) (S17.1 151 6)) (fun S22 : St =>
              gd (isK sdX (S22.2.2 151 1) 0) (
              gd (isK sdX (srX (S22.2.2 151 1) 0) 5) (
              bd (fX3_takeRow n S22 (srX (S22.2.2 151 1) 0) 99) (fun S25 r26 =>
              gd (r26 = 0 ∨ r26 = 1) (
              some (S25, r26))))))))))))))))))))))
set_option maxRecDepth 100000 in
set_option maxHeartbeats 4000000 in
theorem wX3_readDye (C : Cx G sdX cX3_readDye 2 RX3 (some .boolean)) {n : Nat} {S S' : St} {r : Int32} (h : fX3_readDye n S = some (S', r)) : Wp G sdX (rmOf 3 66) 2 (Qm G sdX (some (.int r)) S') S 0 [(0, .ref (gA G 151))] [] := by
  unfold fX3_readDye at h
  refine wp_aload_n (pc := 0) C 0 dX3_readDye_0 rfl rfl ?_
  obtain ⟨g1, h⟩ := gd_some h
  refine wp_getD (pc := 1) C flX3_9 rfl g1.1 (Nat.le_of_ble_eq_true rfl) rfl dX3_readDye_1 ?_
  obtain ⟨g2, h⟩ := gd_some h
  refine wp_getS (v := srX (S.2.2 151 1) 0) (pc := 4) C flX3_94 rfl rfl g2.1 g1.1 g1.2 dX3_readDye_4 ?_
  refine wp_getI (pc := 7) C flX3_97 rfl g2.1 g2.2 dX3_readDye_7 ?_
  obtain ⟨z3, ez3, h⟩ := bn_some h
  refine wp_istore_n (pc := 10) C ez3 [(1, .int z3), (0, .ref (gA G 151))] dX3_readDye_10 rfl (Nat.le_of_ble_eq_true rfl) rfl ?_
  refine wp_aload_n (pc := 11) C 1 dX3_readDye_11 rfl rfl ?_
  refine wp_getD (pc := 12) C flX3_9 rfl g1.1 (Nat.le_of_ble_eq_true rfl) rfl dX3_readDye_12 ?_
  obtain ⟨g4, h⟩ := gd_some h
  refine wp_getS (v := srX (S.2.2 151 1) 4) (pc := 15) C flX3_118 rfl rfl g4.1 g1.1 g1.2 dX3_readDye_15 ?_
  refine wp_getI (pc := 18) C flX3_97 rfl g4.1 g4.2 dX3_readDye_18 ?_
  refine wp_if_gt (pc := 21) C 38 dX3_readDye_21 (by decide) (fun q => ?_) (fun q => ?_)
  · have h := it_pos q h
    exact wp_sub C [1] rfl (wX3_readDye_j38 C h)
  · have h := it_neg q h
    refine wp_aload_n (pc := 24) C 1 dX3_readDye_24 rfl rfl ?_
    refine wp_aload_n (pc := 25) C 1 dX3_readDye_25 rfl rfl ?_
    refine wp_getD (pc := 26) C flX3_9 rfl g1.1 (Nat.le_of_ble_eq_true rfl) rfl dX3_readDye_26 ?_
    refine wp_getS (v := srX (S.2.2 151 1) 0) (pc := 29) C flX3_94 rfl rfl g2.1 g1.1 g1.2 dX3_readDye_29 ?_
    obtain ⟨S5, r6, cS5, h⟩ := bd_some h
    refine wp_callVi (As := [.ref (gA G (srX (S.2.2 151 1) 0))]) (st := []) (pc := 32) C (CtX3_openThing cS5) mX3_openThing iX3_openThing kX3_134 (Nat.le_of_ble_eq_true rfl) rfl (by decide) rfl rfl rfl rfl (Nat.le_of_ble_eq_true rfl) ⟨Nat.le_of_ble_eq_true rfl, Nat.le_of_ble_eq_true rfl⟩ dX3_readDye_32 ?_
    refine wp_if_ne (pc := 35) C 44 dX3_readDye_35 (by decide) (fun q => ?_) (fun q => ?_)
    · have h := it_neg q h
      refine wp_aload_n (pc := 44) C 1 dX3_readDye_44 rfl rfl ?_
      refine wp_bipush (v := 15) (pc := 45) C dX3_readDye_45 (by decide) ?_
      obtain ⟨S7, r8, cS7, h⟩ := bd_some h
      refine wp_callVi (As := [.int 15]) (st := []) (pc := 47) C (CtX3_take cS7) mX3_take iX3_take kX3_115 (Nat.le_of_ble_eq_true rfl) rfl (by decide) rfl rfl rfl rfl (Nat.le_of_ble_eq_true rfl) ⟨Nat.le_of_ble_eq_true rfl, Nat.le_of_ble_eq_true rfl⟩ dX3_readDye_47 ?_
      refine wp_if_eq (pc := 50) C 63 dX3_readDye_50 (by decide) (fun q => ?_) (fun q => ?_)
      · have h := it_pos q h
        refine wp_iconst (v := 0) (pc := 63) C dX3_readDye_63 (by decide) ?_
        exact rt_z C (Or.inl rfl) rfl h dX3_readDye_64
      · have h := it_neg q h
        refine wp_aload_n (pc := 53) C 1 dX3_readDye_53 rfl rfl ?_
        refine wp_iconst (v := 0) (pc := 54) C dX3_readDye_54 (by decide) ?_
        refine wp_bipush (v := 99) (pc := 55) C dX3_readDye_55 (by decide) ?_
        obtain ⟨S9, r10, cS9, h⟩ := bd_some h
        refine wp_callVi (As := [.int 0, .int 99]) (st := []) (pc := 57) C (CtX3_takeNumber cS9) mX3_takeNumber iX3_takeNumber kX3_105 (Nat.le_of_ble_eq_true rfl) rfl (by decide) rfl rfl rfl rfl (Nat.le_of_ble_eq_true rfl) ⟨Nat.le_of_ble_eq_true rfl, Nat.le_of_ble_eq_true rfl⟩ dX3_readDye_57 ?_
        refine wp_if_ne (pc := 60) C 65 dX3_readDye_60 (by decide) (fun q => ?_) (fun q => ?_)
        · have h := it_neg q h
          refine wp_aload_n (pc := 65) C 1 dX3_readDye_65 rfl rfl ?_
          obtain ⟨g11, h⟩ := gd_some h
          refine wp_getD (pc := 66) C flX3_9 rfl g11.1 (Nat.le_of_ble_eq_true rfl) rfl dX3_readDye_66 ?_
          obtain ⟨g12, h⟩ := gd_some h
          refine wp_getS (v := srX (S9.2.2 151 1) 5) (pc := 69) C flX3_138 rfl rfl g12.1 g11.1 g11.2 dX3_readDye_69 ?_
          refine wp_iload_n (pc := 72) C 0 dX3_readDye_72 rfl rfl ?_
          refine wp_aload_n (pc := 73) C 1 dX3_readDye_73 rfl rfl ?_
          refine wp_getI (pc := 74) C flX3_109 rfl (Nat.le_of_ble_eq_true rfl) rfl dX3_readDye_74 ?_
          obtain ⟨g13, h⟩ := gd_some h
          obtain ⟨S14, eS14, h⟩ := bn_some h
          refine wp_iast (pc := 77) C eS14 g12.1 g12.2 g13 dX3_readDye_77 ?_
          refine wp_aload_n (pc := 78) C 1 dX3_readDye_78 rfl rfl ?_
          refine wp_bipush (v := 16) (pc := 79) C dX3_readDye_79 (by decide) ?_
          obtain ⟨S15, r16, cS15, h⟩ := bd_some h
          refine wp_callVi (As := [.int 16]) (st := []) (pc := 81) C (CtX3_take cS15) mX3_take iX3_take kX3_115 (Nat.le_of_ble_eq_true rfl) rfl (by decide) rfl rfl rfl rfl (Nat.le_of_ble_eq_true rfl) ⟨Nat.le_of_ble_eq_true rfl, Nat.le_of_ble_eq_true rfl⟩ dX3_readDye_81 ?_
          refine wp_if_eq (pc := 84) C 97 dX3_readDye_84 (by decide) (fun q => ?_) (fun q => ?_)
          · have h := it_pos q h
            refine wp_iconst (v := 0) (pc := 97) C dX3_readDye_97 (by decide) ?_
            exact rt_z C (Or.inl rfl) rfl h dX3_readDye_98
          · have h := it_neg q h
            refine wp_aload_n (pc := 87) C 1 dX3_readDye_87 rfl rfl ?_
            refine wp_iconst (v := 0) (pc := 88) C dX3_readDye_88 (by decide) ?_
            refine wp_bipush (v := 99) (pc := 89) C dX3_readDye_89 (by decide) ?_
            obtain ⟨S17, r18, cS17, h⟩ := bd_some h
            refine wp_callVi (As := [.int 0, .int 99]) (st := []) (pc := 91) C (CtX3_takeNumber cS17) mX3_takeNumber iX3_takeNumber kX3_105 (Nat.le_of_ble_eq_true rfl) rfl (by decide) rfl rfl rfl rfl (Nat.le_of_ble_eq_true rfl) ⟨Nat.le_of_ble_eq_true rfl, Nat.le_of_ble_eq_true rfl⟩ dX3_readDye_91 ?_
            refine wp_if_ne (pc := 94) C 99 dX3_readDye_94 (by decide) (fun q => ?_) (fun q => ?_)
            · have h := it_neg q h
              refine wp_aload_n (pc := 99) C 1 dX3_readDye_99 rfl rfl ?_
              obtain ⟨g19, h⟩ := gd_some h
              refine wp_getD (pc := 100) C flX3_9 rfl g19.1 (Nat.le_of_ble_eq_true rfl) rfl dX3_readDye_100 ?_
              obtain ⟨g20, h⟩ := gd_some h
              refine wp_getS (v := srX (S17.2.2 151 1) 6) (pc := 103) C flX3_142 rfl rfl g20.1 g19.1 g19.2 dX3_readDye_103 ?_
              refine wp_iload_n (pc := 106) C 0 dX3_readDye_106 rfl rfl ?_
              refine wp_aload_n (pc := 107) C 1 dX3_readDye_107 rfl rfl ?_
              refine wp_getI (pc := 108) C flX3_109 rfl (Nat.le_of_ble_eq_true rfl) rfl dX3_readDye_108 ?_
              obtain ⟨g21, h⟩ := gd_some h
              obtain ⟨S22, eS22, h⟩ := bn_some h
              refine wp_iast (pc := 111) C eS22 g20.1 g20.2 g21 dX3_readDye_111 ?_
              refine wp_aload_n (pc := 112) C 1 dX3_readDye_112 rfl rfl ?_
              refine wp_aload_n (pc := 113) C 1 dX3_readDye_113 rfl rfl ?_
              obtain ⟨g23, h⟩ := gd_some h
              refine wp_getD (pc := 114) C flX3_9 rfl g23.1 (Nat.le_of_ble_eq_true rfl) rfl dX3_readDye_114 ?_
              obtain ⟨g24, h⟩ := gd_some h
              refine wp_getS (v := srX (S22.2.2 151 1) 0) (pc := 117) C flX3_94 rfl rfl g24.1 g23.1 g23.2 dX3_readDye_117 ?_
              refine wp_bipush (v := 99) (pc := 120) C dX3_readDye_120 (by decide) ?_
              obtain ⟨S25, r26, cS25, h⟩ := bd_some h
              refine wp_callVi (As := [.ref (gA G (srX (S22.2.2 151 1) 0)), .int 99]) (st := []) (pc := 122) C (CtX3_takeRow cS25) mX3_takeRow iX3_takeRow kX3_145 (Nat.le_of_ble_eq_true rfl) rfl (by decide) rfl rfl rfl rfl (Nat.le_of_ble_eq_true rfl) ⟨Nat.le_of_ble_eq_true rfl, Nat.le_of_ble_eq_true rfl⟩ dX3_readDye_122 ?_
              obtain ⟨g27, h⟩ := gd_some h
              exact rt_z C g27 rfl h dX3_readDye_125
            · have h := it_pos q h
              refine wp_iconst (v := 0) (pc := 97) C dX3_readDye_97 (by decide) ?_
              exact rt_z C (Or.inl rfl) rfl h dX3_readDye_98
        · have h := it_pos q h
          refine wp_iconst (v := 0) (pc := 63) C dX3_readDye_63 (by decide) ?_
          exact rt_z C (Or.inl rfl) rfl h dX3_readDye_64
    · have h := it_pos q h
      exact wp_sub C [1] rfl (wX3_readDye_j38 C h)
theorem CtX3_readDye {n : Nat} {S S' : St} {r : Int32} (h : fX3_readDye n S = some (S', r)) : Ct l sdX cy ad D yX3_readDye cX3_readDye 2 (some .boolean) 3 66 [.ref (ad 151)] S (some (.int r)) S' :=
  Ct_of (own := RX3) mX3_readDye rfl (Nat.le_of_ble_eq_true rfl) (fun G e1 e2 e3 e4 C => by subst e1 e2 e3 e4; exact wX3_readDye C h)
def fX3_takeGround_j34 (n : Nat) (S : St) (x1 : Int32) (x2 : Int32) : Option (St × Int32) :=
  gd (isK sdX (S.2.2 151 1) 0) (
  gd (isK sdX (srX (S.2.2 151 1) 7) 13) (
  gd (ib x1 (sdX.2.2.1 (srX (S.2.2 151 1) 7))) (
  bn (sI S (srX (S.2.2 151 1) 7) (Int32.toNatClampNeg x1) x2) (fun S4 : St =>
  bd (fX3_take n S4 4) (fun S5 r6 =>
  gd (r6 = 0 ∨ r6 = 1) (
  some (S5, r6)))))))
set_option maxRecDepth 100000 in
set_option maxHeartbeats 4000000 in
theorem wX3_takeGround_j34 (C : Cx G sdX cX3_takeGround 3 RX3 (some .boolean)) {n : Nat} {S S' : St} {r : Int32} {x1 : Int32} {x2 : Int32} (h : fX3_takeGround_j34 n S x1 x2 = some (S', r)) : Wp G sdX (rmOf 2 42) 3 (Qm G sdX (some (.int r)) S') S 34 [(0, .ref (gA G 151)), (1, .int x1), (2, .int x2)] [] := by
  unfold fX3_takeGround_j34 at h
  refine wp_aload_n (pc := 34) C 0 dX3_takeGround_34 rfl rfl ?_
  obtain ⟨g1, h⟩ := gd_some h
  refine wp_getD (pc := 35) C flX3_9 rfl g1.1 (Nat.le_of_ble_eq_true rfl) rfl dX3_takeGround_35 ?_
  obtain ⟨g2, h⟩ := gd_some h
  refine wp_getS (v := srX (S.2.2 151 1) 7) (pc := 38) C flX3_163 rfl rfl g2.1 g1.1 g1.2 dX3_takeGround_38 ?_
  refine wp_iload_n (pc := 41) C 1 dX3_takeGround_41 rfl rfl ?_
  refine wp_iload_n (pc := 42) C 2 dX3_takeGround_42 rfl rfl ?_
  obtain ⟨g3, h⟩ := gd_some h
  obtain ⟨S4, eS4, h⟩ := bn_some h
  refine wp_iast (pc := 43) C eS4 g2.1 g2.2 g3 dX3_takeGround_43 ?_
  refine wp_aload_n (pc := 44) C 0 dX3_takeGround_44 rfl rfl ?_
  refine wp_iconst (v := 4) (pc := 45) C dX3_takeGround_45 (by decide) ?_
  obtain ⟨S5, r6, cS5, h⟩ := bd_some h
  refine wp_callVi (As := [.int 4]) (st := []) (pc := 46) C (CtX3_take cS5) mX3_take iX3_take kX3_115 (Nat.le_of_ble_eq_true rfl) rfl (by decide) rfl rfl rfl rfl (Nat.le_of_ble_eq_true rfl) ⟨Nat.le_of_ble_eq_true rfl, Nat.le_of_ble_eq_true rfl⟩ dX3_takeGround_46 ?_
  obtain ⟨g7, h⟩ := gd_some h
  exact rt_z C g7 rfl h dX3_takeGround_49
def fX3_takeGround (n : Nat) (S : St) (x1 : Int32) : Option (St × Int32) :=
  gd (isK sdX (S.2.2 151 1) 0) (
  gd (isK sdX (srX (S.2.2 151 1) 1) 5) (
  bd (fX5_find sdX n S (srX (S.2.2 151 1) 1) (S.2.1 151 4)) (fun S3 r4 =>
  if (S3.1 151 3) = 4 then
    if r4 = (-1) then
      bd (fX3_refuse n S3 5) (fun S5 r6 =>
      gd (r6 = 0 ∨ r6 = 1) (
      some (S5, r6)))
    else
      fX3_takeGround_j34 n S3 x1 r4
  else
    fX3_takeGround_j34 n S3 x1 r4)))
set_option maxRecDepth 100000 in
set_option maxHeartbeats 4000000 in
theorem wX3_takeGround (C : Cx G sdX cX3_takeGround 3 RX3 (some .boolean)) {n : Nat} {S S' : St} {r : Int32} {x1 : Int32} (h : fX3_takeGround n S x1 = some (S', r)) : Wp G sdX (rmOf 2 42) 3 (Qm G sdX (some (.int r)) S') S 0 [(0, .ref (gA G 151)), (1, .int x1)] [] := by
  unfold fX3_takeGround at h
  refine wp_aload_n (pc := 0) C 0 dX3_takeGround_0 rfl rfl ?_
  obtain ⟨g1, h⟩ := gd_some h
  refine wp_getD (pc := 1) C flX3_9 rfl g1.1 (Nat.le_of_ble_eq_true rfl) rfl dX3_takeGround_1 ?_
  obtain ⟨g2, h⟩ := gd_some h
  refine wp_getS (v := srX (S.2.2 151 1) 1) (pc := 4) C flX3_73 rfl rfl g2.1 g1.1 g1.2 dX3_takeGround_4 ?_
  refine wp_aload_n (pc := 7) C 0 dX3_takeGround_7 rfl rfl ?_
  refine wp_getL (pc := 8) C flX3_155 rfl (Nat.le_of_ble_eq_true rfl) rfl dX3_takeGround_8 ?_
  obtain ⟨S3, r4, cS3, h⟩ := bd_some h
  refine wp_callVi (As := [.long (S.2.1 151 4)]) (st := []) (pc := 11) C (CtX5_find cS3) mX5_find iX5_find kX3_159 g2.1 g2.2 (by decide) rfl rfl rfl rfl (Nat.le_of_ble_eq_true rfl) ⟨Nat.le_of_ble_eq_true rfl, Nat.le_of_ble_eq_true rfl⟩ dX3_takeGround_11 ?_
  refine wp_istore_n (pc := 14) C rfl [(2, .int r4), (0, .ref (gA G 151)), (1, .int x1)] dX3_takeGround_14 rfl (Nat.le_of_ble_eq_true rfl) rfl ?_
  refine wp_aload_n (pc := 15) C 1 dX3_takeGround_15 rfl rfl ?_
  refine wp_getI (pc := 16) C flX3_45 rfl (Nat.le_of_ble_eq_true rfl) rfl dX3_takeGround_16 ?_
  refine wp_iconst (v := 4) (pc := 19) C dX3_takeGround_19 (by decide) ?_
  refine wp_icmp_ne (pc := 20) C 34 dX3_takeGround_20 (by decide) (fun q => ?_) (fun q => ?_)
  · have h := it_neg q h
    exact wp_sub C [1, 2, 0] rfl (wX3_takeGround_j34 C h)
  · have h := it_pos q h
    refine wp_iload_n (pc := 23) C 0 dX3_takeGround_23 rfl rfl ?_
    refine wp_iconst (v := (-1)) (pc := 24) C dX3_takeGround_24 (by decide) ?_
    refine wp_icmp_ne (pc := 25) C 34 dX3_takeGround_25 (by decide) (fun q => ?_) (fun q => ?_)
    · have h := it_neg q h
      exact wp_sub C [1, 2, 0] rfl (wX3_takeGround_j34 C h)
    · have h := it_pos q h
      refine wp_aload_n (pc := 28) C 1 dX3_takeGround_28 rfl rfl ?_
      refine wp_iconst (v := 5) (pc := 29) C dX3_takeGround_29 (by decide) ?_
      obtain ⟨S5, r6, cS5, h⟩ := bd_some h
      refine wp_callVi (As := [.int 5]) (st := []) (pc := 30) C (CtX3_refuse cS5) mX3_refuse iX3_refuse kX3_90 (Nat.le_of_ble_eq_true rfl) rfl (by decide) rfl rfl rfl rfl (Nat.le_of_ble_eq_true rfl) ⟨Nat.le_of_ble_eq_true rfl, Nat.le_of_ble_eq_true rfl⟩ dX3_takeGround_30 ?_
      obtain ⟨g7, h⟩ := gd_some h
      exact rt_z C g7 rfl h dX3_takeGround_33
theorem CtX3_takeGround {n : Nat} {S S' : St} {r : Int32} {x1 : Int32} (h : fX3_takeGround n S x1 = some (S', r)) : Ct l sdX cy ad D yX3_takeGround cX3_takeGround 3 (some .boolean) 2 42 [.ref (ad 151), .int x1] S (some (.int r)) S' :=
  Ct_of (own := RX3) mX3_takeGround rfl (Nat.le_of_ble_eq_true rfl) (fun G e1 e2 e3 e4 C => by subst e1 e2 e3 e4; exact wX3_takeGround C h)
def fX3_readGood_j138 (n : Nat) (S : St) : Option (St × Int32) :=
  gd (isK sdX (S.2.2 151 1) 0) (
  gd (isK sdX (srX (S.2.2 151 1) 4) 5) (
  bn (sI S (srX (S.2.2 151 1) 4) 3 ((S.1 (srX (S.2.2 151 1) 4) 3) + 1)) (fun S3 : St =>
  bd (fX3_take n S3 3) (fun S4 r5 =>
  gd (r5 = 0 ∨ r5 = 1) (
  some (S4, r5))))))
set_option maxRecDepth 100000 in
set_option maxHeartbeats 4000000 in
theorem wX3_readGood_j138 (C : Cx G sdX cX3_readGood 4 RX3 (some .boolean)) {n : Nat} {S S' : St} {r : Int32} (h : fX3_readGood_j138 n S = some (S', r)) : Wp G sdX (rmOf 3 64) 4 (Qm G sdX (some (.int r)) S') S 138 [(0, .ref (gA G 151))] [] := by
  unfold fX3_readGood_j138 at h
  refine wp_aload_n (pc := 138) C 0 dX3_readGood_138 rfl rfl ?_
  obtain ⟨g1, h⟩ := gd_some h
  refine wp_getD (pc := 139) C flX3_9 rfl g1.1 (Nat.le_of_ble_eq_true rfl) rfl dX3_readGood_139 ?_
  obtain ⟨g2, h⟩ := gd_some h
  refine wp_getS (v := srX (S.2.2 151 1) 4) (pc := 142) C flX3_118 rfl rfl g2.1 g1.1 g1.2 dX3_readGood_142 ?_
  refine wp_dup (pc := 145) C dX3_readGood_145 rfl ?_
  refine wp_getI (pc := 146) C flX3_97 rfl g2.1 g2.2 dX3_readGood_146 ?_
  refine wp_iconst (v := 1) (pc := 149) C dX3_readGood_149 (by decide) ?_
  refine wp_iadd (pc := 150) C dX3_readGood_150 ?_
  obtain ⟨S3, eS3, h⟩ := bn_some h
  refine wp_putI (pc := 151) C eS3 flX3_97 fpX5_3 rfl g2.1 g2.2 dX3_readGood_151 ?_
  refine wp_aload_n (pc := 154) C 0 dX3_readGood_154 rfl rfl ?_
  refine wp_iconst (v := 3) (pc := 155) C dX3_readGood_155 (by decide) ?_
  obtain ⟨S4, r5, cS4, h⟩ := bd_some h
  refine wp_callVi (As := [.int 3]) (st := []) (pc := 156) C (CtX3_take cS4) mX3_take iX3_take kX3_115 (Nat.le_of_ble_eq_true rfl) rfl (by decide) rfl rfl rfl rfl (Nat.le_of_ble_eq_true rfl) ⟨Nat.le_of_ble_eq_true rfl, Nat.le_of_ble_eq_true rfl⟩ dX3_readGood_156 ?_
  obtain ⟨g6, h⟩ := gd_some h
  exact rt_z C g6 rfl h dX3_readGood_159
def fX3_readGood_l82 (n : Nat) : Nat → St → Int32 → Int32 → Int32 → Option (St × Int32)
  | 0, _, _, _, _ => none
  | j + 1, S, x1, x2, x3 =>
    gd (isK sdX (S.2.2 151 1) 0) (
    gd (isK sdX (srX (S.2.2 151 1) 0) 5) (
    if (S.1 (srX (S.2.2 151 1) 0) 3) ≤ x3 then
      fX3_readGood_j138 n S
    else
      bd (fX3_takeNumber n S 0 x2) (fun S3 r4 =>
      if r4 = 0 then
        some (S3, 0)
      else
        gd (isK sdX (S3.2.2 151 1) 0) (
        gd (isK sdX (srX (S3.2.2 151 1) 4) 5) (
        gd (isK sdX (srX (srX (S3.2.2 151 1) 4) 2) 17) (
        gd (ib x1 (sdX.2.2.1 (srX (srX (S3.2.2 151 1) 4) 2))) (
        gd (isK sdX (srX (srX (srX (S3.2.2 151 1) 4) 2) (Int32.toNatClampNeg x1)) 13) (
        gd (ib x3 (sdX.2.2.1 (srX (srX (srX (S3.2.2 151 1) 4) 2) (Int32.toNatClampNeg x1)))) (
        bn (sI S3 (srX (srX (srX (S3.2.2 151 1) 4) 2) (Int32.toNatClampNeg x1)) (Int32.toNatClampNeg x3) (S3.1 151 6)) (fun S11 : St =>
        bn (x2 - (S11.1 151 6)) (fun z12 : Int32 =>
        bn (x3 + 1) (fun z13 : Int32 =>
        fX3_readGood_l82 n j S11 x1 z12 z13))))))))))))
set_option maxRecDepth 100000 in
set_option maxHeartbeats 4000000 in
theorem wX3_readGood_l82 (C : Cx G sdX cX3_readGood 4 RX3 (some .boolean)) {n : Nat} {S' : St} {r : Int32} : ∀ (j : Nat) (S : St) (x1 : Int32) (x2 : Int32) (x3 : Int32), fX3_readGood_l82 n j S x1 x2 x3 = some (S', r) → Wp G sdX (rmOf 3 64) 4 (Qm G sdX (some (.int r)) S') S 82 [(0, .ref (gA G 151)), (1, .int x1), (2, .int x2), (3, .int x3)] [] := by
  intro j
  induction j with
  | zero =>
    intro S x1 x2 x3 h
    exact nomatch (show (none : Option (St × Int32)) = some _ from h)
  | succ j ih =>
    intro S x1 x2 x3 h
    rw [fX3_readGood_l82] at h
    refine wp_iload_n (pc := 82) C 3 dX3_readGood_82 rfl rfl ?_
    refine wp_aload_n (pc := 83) C 0 dX3_readGood_83 rfl rfl ?_
    obtain ⟨g1, h⟩ := gd_some h
    refine wp_getD (pc := 84) C flX3_9 rfl g1.1 (Nat.le_of_ble_eq_true rfl) rfl dX3_readGood_84 ?_
    obtain ⟨g2, h⟩ := gd_some h
    refine wp_getS (v := srX (S.2.2 151 1) 0) (pc := 87) C flX3_94 rfl rfl g2.1 g1.1 g1.2 dX3_readGood_87 ?_
    refine wp_getI (pc := 90) C flX3_97 rfl g2.1 g2.2 dX3_readGood_90 ?_
    refine wp_icmp_ge (pc := 93) C 138 dX3_readGood_93 (by decide) (fun q => ?_) (fun q => ?_)
    · have h := it_pos q h
      exact wp_sub C [0] rfl (wX3_readGood_j138 C h)
    · have h := it_neg q h
      refine wp_aload_n (pc := 96) C 0 dX3_readGood_96 rfl rfl ?_
      refine wp_iconst (v := 0) (pc := 97) C dX3_readGood_97 (by decide) ?_
      refine wp_iload_n (pc := 98) C 2 dX3_readGood_98 rfl rfl ?_
      obtain ⟨S3, r4, cS3, h⟩ := bd_some h
      refine wp_callVi (As := [.int 0, .int x2]) (st := []) (pc := 99) C (CtX3_takeNumber cS3) mX3_takeNumber iX3_takeNumber kX3_105 (Nat.le_of_ble_eq_true rfl) rfl (by decide) rfl rfl rfl rfl (Nat.le_of_ble_eq_true rfl) ⟨Nat.le_of_ble_eq_true rfl, Nat.le_of_ble_eq_true rfl⟩ dX3_readGood_99 ?_
      refine wp_if_ne (pc := 102) C 107 dX3_readGood_102 (by decide) (fun q => ?_) (fun q => ?_)
      · have h := it_neg q h
        refine wp_aload_n (pc := 107) C 0 dX3_readGood_107 rfl rfl ?_
        obtain ⟨g5, h⟩ := gd_some h
        refine wp_getD (pc := 108) C flX3_9 rfl g5.1 (Nat.le_of_ble_eq_true rfl) rfl dX3_readGood_108 ?_
        obtain ⟨g6, h⟩ := gd_some h
        refine wp_getS (v := srX (S3.2.2 151 1) 4) (pc := 111) C flX3_118 rfl rfl g6.1 g5.1 g5.2 dX3_readGood_111 ?_
        obtain ⟨g7, h⟩ := gd_some h
        refine wp_getS (v := srX (srX (S3.2.2 151 1) 4) 2) (pc := 114) C flX3_151 rfl rfl g7.1 g6.1 g6.2 dX3_readGood_114 ?_
        refine wp_iload_n (pc := 117) C 1 dX3_readGood_117 rfl rfl ?_
        obtain ⟨g8, h⟩ := gd_some h
        obtain ⟨g9, h⟩ := gd_some h
        refine wp_aald (t0 := 5) (pc := 118) C g7.1 g7.2 (by decide) rfl rfl g8 g9.1 dX3_readGood_118 ?_
        refine wp_iload_n (pc := 119) C 3 dX3_readGood_119 rfl rfl ?_
        refine wp_aload_n (pc := 120) C 0 dX3_readGood_120 rfl rfl ?_
        refine wp_getI (pc := 121) C flX3_109 rfl (Nat.le_of_ble_eq_true rfl) rfl dX3_readGood_121 ?_
        obtain ⟨g10, h⟩ := gd_some h
        obtain ⟨S11, eS11, h⟩ := bn_some h
        refine wp_iast (pc := 124) C eS11 g9.1 g9.2 g10 dX3_readGood_124 ?_
        refine wp_iload_n (pc := 125) C 2 dX3_readGood_125 rfl rfl ?_
        refine wp_aload_n (pc := 126) C 0 dX3_readGood_126 rfl rfl ?_
        refine wp_getI (pc := 127) C flX3_109 rfl (Nat.le_of_ble_eq_true rfl) rfl dX3_readGood_127 ?_
        refine wp_isub (pc := 130) C dX3_readGood_130 ?_
        obtain ⟨z12, ez12, h⟩ := bn_some h
        refine wp_istore_n (pc := 131) C ez12 [(2, .int z12), (0, .ref (gA G 151)), (1, .int x1), (3, .int x3)] dX3_readGood_131 rfl (Nat.le_of_ble_eq_true rfl) rfl ?_
        obtain ⟨z13, ez13, h⟩ := bn_some h
        refine wp_iinc (q := 3) (pc := 132) C (by decide) ez13 [(3, .int z13), (2, .int z12), (0, .ref (gA G 151)), (1, .int x1)] dX3_readGood_132 rfl (Nat.le_of_ble_eq_true rfl) rfl ?_
        refine wp_goto (pc := 135) C 82 dX3_readGood_135 (by decide) ?_
        exact wp_sub C [2, 3, 1, 0] rfl (ih _ _ _ _ h)
      · have h := it_pos q h
        refine wp_iconst (v := 0) (pc := 105) C dX3_readGood_105 (by decide) ?_
        exact rt_z C (Or.inl rfl) rfl h dX3_readGood_106
def fX3_readGood_j38 (n : Nat) (S : St) : Option (St × Int32) :=
  bd (fX3_refuse n S 2) (fun S1 r2 =>
  gd (r2 = 0 ∨ r2 = 1) (
  some (S1, r2)))
set_option maxRecDepth 100000 in
set_option maxHeartbeats 4000000 in
theorem wX3_readGood_j38 (C : Cx G sdX cX3_readGood 4 RX3 (some .boolean)) {n : Nat} {S S' : St} {r : Int32} (h : fX3_readGood_j38 n S = some (S', r)) : Wp G sdX (rmOf 3 64) 4 (Qm G sdX (some (.int r)) S') S 38 [(0, .ref (gA G 151))] [] := by
  unfold fX3_readGood_j38 at h
  refine wp_aload_n (pc := 38) C 0 dX3_readGood_38 rfl rfl ?_
  refine wp_iconst (v := 2) (pc := 39) C dX3_readGood_39 (by decide) ?_
  obtain ⟨S1, r2, cS1, h⟩ := bd_some h
  refine wp_callVi (As := [.int 2]) (st := []) (pc := 40) C (CtX3_refuse cS1) mX3_refuse iX3_refuse kX3_90 (Nat.le_of_ble_eq_true rfl) rfl (by decide) rfl rfl rfl rfl (Nat.le_of_ble_eq_true rfl) ⟨Nat.le_of_ble_eq_true rfl, Nat.le_of_ble_eq_true rfl⟩ dX3_readGood_40 ?_
  obtain ⟨g3, h⟩ := gd_some h
  exact rt_z C g3 rfl h dX3_readGood_43
def fX3_readGood (n : Nat) (S : St) : Option (St × Int32) :=
  gd (isK sdX (S.2.2 151 1) 0) (
  gd (isK sdX (srX (S.2.2 151 1) 4) 5) (
  bn (S.1 (srX (S.2.2 151 1) 4) 3) (fun z3 : Int32 =>
  gd (isK sdX (srX (S.2.2 151 1) 0) 5) (
  if (S.1 (srX (S.2.2 151 1) 0) 3) = 0 then
    fX3_readGood_j38 n S
  else
    bd (fX3_openThing n S (srX (S.2.2 151 1) 4)) (fun S5 r6 =>
    if r6 = 0 then
      fX3_readGood_j38 n S5
    else
      bd (fX3_take n S5 18) (fun S7 r8 =>
      if r8 = 0 then
        some (S7, 0)
      else
        bd (fX3_takeGround n S7 z3) (fun S9 r10 =>
        if r10 = 0 then
          some (S9, 0)
        else
          bd (fX3_take n S9 17) (fun S11 r12 =>
          if r12 = 0 then
            some (S11, 0)
          else
            gd (isK sdX (S11.2.2 151 1) 0) (
            bn (S11.1 (S11.2.2 151 1) 10) (fun z14 : Int32 =>
            fX3_readGood_l82 n n S11 z3 z14 0))))))))))
set_option maxRecDepth 100000 in
set_option maxHeartbeats 4000000 in
theorem wX3_readGood (C : Cx G sdX cX3_readGood 4 RX3 (some .boolean)) {n : Nat} {S S' : St} {r : Int32} (h : fX3_readGood n S = some (S', r)) : Wp G sdX (rmOf 3 64) 4 (Qm G sdX (some (.int r)) S') S 0 [(0, .ref (gA G 151))] [] := by
  unfold fX3_readGood at h
  refine wp_aload_n (pc := 0) C 0 dX3_readGood_0 rfl rfl ?_
  obtain ⟨g1, h⟩ := gd_some h
  refine wp_getD (pc := 1) C flX3_9 rfl g1.1 (Nat.le_of_ble_eq_true rfl) rfl dX3_readGood_1 ?_
  obtain ⟨g2, h⟩ := gd_some h
  refine wp_getS (v := srX (S.2.2 151 1) 4) (pc := 4) C flX3_118 rfl rfl g2.1 g1.1 g1.2 dX3_readGood_4 ?_
  refine wp_getI (pc := 7) C flX3_97 rfl g2.1 g2.2 dX3_readGood_7 ?_
  obtain ⟨z3, ez3, h⟩ := bn_some h
  refine wp_istore_n (pc := 10) C ez3 [(1, .int z3), (0, .ref (gA G 151))] dX3_readGood_10 rfl (Nat.le_of_ble_eq_true rfl) rfl ?_
  refine wp_aload_n (pc := 11) C 1 dX3_readGood_11 rfl rfl ?_
  refine wp_getD (pc := 12) C flX3_9 rfl g1.1 (Nat.le_of_ble_eq_true rfl) rfl dX3_readGood_12 ?_
  obtain ⟨g4, h⟩ := gd_some h
  refine wp_getS (v := srX (S.2.2 151 1) 0) (pc := 15) C flX3_94 rfl rfl g4.1 g1.1 g1.2 dX3_readGood_15 ?_
  refine wp_getI (pc := 18) C flX3_97 rfl g4.1 g4.2 dX3_readGood_18 ?_
  refine wp_if_eq (pc := 21) C 38 dX3_readGood_21 (by decide) (fun q => ?_) (fun q => ?_)
  · have h := it_pos q h
    exact wp_sub C [1] rfl (wX3_readGood_j38 C h)
  · have h := it_neg q h
    refine wp_aload_n (pc := 24) C 1 dX3_readGood_24 rfl rfl ?_
    refine wp_aload_n (pc := 25) C 1 dX3_readGood_25 rfl rfl ?_
    refine wp_getD (pc := 26) C flX3_9 rfl g1.1 (Nat.le_of_ble_eq_true rfl) rfl dX3_readGood_26 ?_
    refine wp_getS (v := srX (S.2.2 151 1) 4) (pc := 29) C flX3_118 rfl rfl g2.1 g1.1 g1.2 dX3_readGood_29 ?_
    obtain ⟨S5, r6, cS5, h⟩ := bd_some h
    refine wp_callVi (As := [.ref (gA G (srX (S.2.2 151 1) 4))]) (st := []) (pc := 32) C (CtX3_openThing cS5) mX3_openThing iX3_openThing kX3_134 (Nat.le_of_ble_eq_true rfl) rfl (by decide) rfl rfl rfl rfl (Nat.le_of_ble_eq_true rfl) ⟨Nat.le_of_ble_eq_true rfl, Nat.le_of_ble_eq_true rfl⟩ dX3_readGood_32 ?_
    refine wp_if_ne (pc := 35) C 44 dX3_readGood_35 (by decide) (fun q => ?_) (fun q => ?_)
    · have h := it_neg q h
      refine wp_aload_n (pc := 44) C 1 dX3_readGood_44 rfl rfl ?_
      refine wp_bipush (v := 18) (pc := 45) C dX3_readGood_45 (by decide) ?_
      obtain ⟨S7, r8, cS7, h⟩ := bd_some h
      refine wp_callVi (As := [.int 18]) (st := []) (pc := 47) C (CtX3_take cS7) mX3_take iX3_take kX3_115 (Nat.le_of_ble_eq_true rfl) rfl (by decide) rfl rfl rfl rfl (Nat.le_of_ble_eq_true rfl) ⟨Nat.le_of_ble_eq_true rfl, Nat.le_of_ble_eq_true rfl⟩ dX3_readGood_47 ?_
      refine wp_if_eq (pc := 50) C 70 dX3_readGood_50 (by decide) (fun q => ?_) (fun q => ?_)
      · have h := it_pos q h
        refine wp_iconst (v := 0) (pc := 70) C dX3_readGood_70 (by decide) ?_
        exact rt_z C (Or.inl rfl) rfl h dX3_readGood_71
      · have h := it_neg q h
        refine wp_aload_n (pc := 53) C 1 dX3_readGood_53 rfl rfl ?_
        refine wp_iload_n (pc := 54) C 0 dX3_readGood_54 rfl rfl ?_
        obtain ⟨S9, r10, cS9, h⟩ := bd_some h
        refine wp_callVi (As := [.int z3]) (st := []) (pc := 55) C (CtX3_takeGround cS9) mX3_takeGround iX3_takeGround kX3_148 (Nat.le_of_ble_eq_true rfl) rfl (by decide) rfl rfl rfl rfl (Nat.le_of_ble_eq_true rfl) ⟨Nat.le_of_ble_eq_true rfl, Nat.le_of_ble_eq_true rfl⟩ dX3_readGood_55 ?_
        refine wp_if_eq (pc := 58) C 70 dX3_readGood_58 (by decide) (fun q => ?_) (fun q => ?_)
        · have h := it_pos q h
          refine wp_iconst (v := 0) (pc := 70) C dX3_readGood_70 (by decide) ?_
          exact rt_z C (Or.inl rfl) rfl h dX3_readGood_71
        · have h := it_neg q h
          refine wp_aload_n (pc := 61) C 1 dX3_readGood_61 rfl rfl ?_
          refine wp_bipush (v := 17) (pc := 62) C dX3_readGood_62 (by decide) ?_
          obtain ⟨S11, r12, cS11, h⟩ := bd_some h
          refine wp_callVi (As := [.int 17]) (st := []) (pc := 64) C (CtX3_take cS11) mX3_take iX3_take kX3_115 (Nat.le_of_ble_eq_true rfl) rfl (by decide) rfl rfl rfl rfl (Nat.le_of_ble_eq_true rfl) ⟨Nat.le_of_ble_eq_true rfl, Nat.le_of_ble_eq_true rfl⟩ dX3_readGood_64 ?_
          refine wp_if_ne (pc := 67) C 72 dX3_readGood_67 (by decide) (fun q => ?_) (fun q => ?_)
          · have h := it_neg q h
            refine wp_aload_n (pc := 72) C 1 dX3_readGood_72 rfl rfl ?_
            obtain ⟨g13, h⟩ := gd_some h
            refine wp_getD (pc := 73) C flX3_9 rfl g13.1 (Nat.le_of_ble_eq_true rfl) rfl dX3_readGood_73 ?_
            refine wp_getI (pc := 76) C flX3_121 rfl g13.1 g13.2 dX3_readGood_76 ?_
            obtain ⟨z14, ez14, h⟩ := bn_some h
            refine wp_istore_n (pc := 79) C ez14 [(2, .int z14), (1, .int z3), (0, .ref (gA G 151))] dX3_readGood_79 rfl (Nat.le_of_ble_eq_true rfl) rfl ?_
            refine wp_iconst (v := 0) (pc := 80) C dX3_readGood_80 (by decide) ?_
            refine wp_istore_n (pc := 81) C rfl [(3, .int 0), (2, .int z14), (1, .int z3), (0, .ref (gA G 151))] dX3_readGood_81 rfl (Nat.le_of_ble_eq_true rfl) rfl ?_
            exact wp_sub C [3, 2, 1, 0] rfl (wX3_readGood_l82 C _ _ _ _ _ h)
          · have h := it_pos q h
            refine wp_iconst (v := 0) (pc := 70) C dX3_readGood_70 (by decide) ?_
            exact rt_z C (Or.inl rfl) rfl h dX3_readGood_71
    · have h := it_pos q h
      exact wp_sub C [1] rfl (wX3_readGood_j38 C h)
theorem CtX3_readGood {n : Nat} {S S' : St} {r : Int32} (h : fX3_readGood n S = some (S', r)) : Ct l sdX cy ad D yX3_readGood cX3_readGood 4 (some .boolean) 3 64 [.ref (ad 151)] S (some (.int r)) S' :=
  Ct_of (own := RX3) mX3_readGood rfl (Nat.le_of_ble_eq_true rfl) (fun G e1 e2 e3 e4 C => by subst e1 e2 e3 e4; exact wX3_readGood C h)
def fX3_readMost_j30 (n : Nat) (S : St) : Option (St × Int32) :=
  bd (fX3_refuse n S 2) (fun S1 r2 =>
  gd (r2 = 0 ∨ r2 = 1) (
  some (S1, r2)))
set_option maxRecDepth 100000 in
set_option maxHeartbeats 4000000 in
theorem wX3_readMost_j30 (C : Cx G sdX cX3_readMost 1 RX3 (some .boolean)) {n : Nat} {S S' : St} {r : Int32} (h : fX3_readMost_j30 n S = some (S', r)) : Wp G sdX (rmOf 2 43) 1 (Qm G sdX (some (.int r)) S') S 30 [(0, .ref (gA G 151))] [] := by
  unfold fX3_readMost_j30 at h
  refine wp_aload_n (pc := 30) C 0 dX3_readMost_30 rfl rfl ?_
  refine wp_iconst (v := 2) (pc := 31) C dX3_readMost_31 (by decide) ?_
  obtain ⟨S1, r2, cS1, h⟩ := bd_some h
  refine wp_callVi (As := [.int 2]) (st := []) (pc := 32) C (CtX3_refuse cS1) mX3_refuse iX3_refuse kX3_90 (Nat.le_of_ble_eq_true rfl) rfl (by decide) rfl rfl rfl rfl (Nat.le_of_ble_eq_true rfl) ⟨Nat.le_of_ble_eq_true rfl, Nat.le_of_ble_eq_true rfl⟩ dX3_readMost_32 ?_
  obtain ⟨g3, h⟩ := gd_some h
  exact rt_z C g3 rfl h dX3_readMost_35
def fX3_readMost (n : Nat) (S : St) : Option (St × Int32) :=
  gd (isK sdX (S.2.2 151 1) 0) (
  gd (isK sdX (srX (S.2.2 151 1) 4) 5) (
  if 0 < (S.1 (srX (S.2.2 151 1) 4) 3) then
    fX3_readMost_j30 n S
  else
    bd (fX3_openOnce n S) (fun S3 r4 =>
    if r4 = 0 then
      fX3_readMost_j30 n S3
    else
      bd (fX3_takeNumber n S3 1 24) (fun S5 r6 =>
      if r6 = 0 then
        fX3_readMost_j30 n S5
      else
        gd (isK sdX (S5.2.2 151 1) 0) (
        bn (sI S5 (S5.2.2 151 1) 10 (S5.1 151 6)) (fun S8 : St =>
        bd (fX3_take n S8 3) (fun S9 r10 =>
        gd (r10 = 0 ∨ r10 = 1) (
        some (S9, r10)))))))))
set_option maxRecDepth 100000 in
set_option maxHeartbeats 4000000 in
theorem wX3_readMost (C : Cx G sdX cX3_readMost 1 RX3 (some .boolean)) {n : Nat} {S S' : St} {r : Int32} (h : fX3_readMost n S = some (S', r)) : Wp G sdX (rmOf 2 43) 1 (Qm G sdX (some (.int r)) S') S 0 [(0, .ref (gA G 151))] [] := by
  unfold fX3_readMost at h
  refine wp_aload_n (pc := 0) C 0 dX3_readMost_0 rfl rfl ?_
  obtain ⟨g1, h⟩ := gd_some h
  refine wp_getD (pc := 1) C flX3_9 rfl g1.1 (Nat.le_of_ble_eq_true rfl) rfl dX3_readMost_1 ?_
  obtain ⟨g2, h⟩ := gd_some h
  refine wp_getS (v := srX (S.2.2 151 1) 4) (pc := 4) C flX3_118 rfl rfl g2.1 g1.1 g1.2 dX3_readMost_4 ?_
  refine wp_getI (pc := 7) C flX3_97 rfl g2.1 g2.2 dX3_readMost_7 ?_
  refine wp_if_gt (pc := 10) C 30 dX3_readMost_10 (by decide) (fun q => ?_) (fun q => ?_)
  · have h := it_pos q h
    exact (wX3_readMost_j30 C h)
  · have h := it_neg q h
    refine wp_aload_n (pc := 13) C 0 dX3_readMost_13 rfl rfl ?_
    obtain ⟨S3, r4, cS3, h⟩ := bd_some h
    refine wp_callVi (As := []) (st := []) (pc := 14) C (CtX3_openOnce cS3) mX3_openOnce iX3_openOnce kX3_102 (Nat.le_of_ble_eq_true rfl) rfl (by decide) rfl rfl rfl rfl (Nat.le_of_ble_eq_true rfl) ⟨Nat.le_of_ble_eq_true rfl, Nat.le_of_ble_eq_true rfl⟩ dX3_readMost_14 ?_
    refine wp_if_eq (pc := 17) C 30 dX3_readMost_17 (by decide) (fun q => ?_) (fun q => ?_)
    · have h := it_pos q h
      exact (wX3_readMost_j30 C h)
    · have h := it_neg q h
      refine wp_aload_n (pc := 20) C 0 dX3_readMost_20 rfl rfl ?_
      refine wp_iconst (v := 1) (pc := 21) C dX3_readMost_21 (by decide) ?_
      refine wp_bipush (v := 24) (pc := 22) C dX3_readMost_22 (by decide) ?_
      obtain ⟨S5, r6, cS5, h⟩ := bd_some h
      refine wp_callVi (As := [.int 1, .int 24]) (st := []) (pc := 24) C (CtX3_takeNumber cS5) mX3_takeNumber iX3_takeNumber kX3_105 (Nat.le_of_ble_eq_true rfl) rfl (by decide) rfl rfl rfl rfl (Nat.le_of_ble_eq_true rfl) ⟨Nat.le_of_ble_eq_true rfl, Nat.le_of_ble_eq_true rfl⟩ dX3_readMost_24 ?_
      refine wp_if_ne (pc := 27) C 36 dX3_readMost_27 (by decide) (fun q => ?_) (fun q => ?_)
      · have h := it_neg q h
        refine wp_aload_n (pc := 36) C 0 dX3_readMost_36 rfl rfl ?_
        obtain ⟨g7, h⟩ := gd_some h
        refine wp_getD (pc := 37) C flX3_9 rfl g7.1 (Nat.le_of_ble_eq_true rfl) rfl dX3_readMost_37 ?_
        refine wp_aload_n (pc := 40) C 0 dX3_readMost_40 rfl rfl ?_
        refine wp_getI (pc := 41) C flX3_109 rfl (Nat.le_of_ble_eq_true rfl) rfl dX3_readMost_41 ?_
        obtain ⟨S8, eS8, h⟩ := bn_some h
        refine wp_putI (pc := 44) C eS8 flX3_121 fpX0_10 rfl g7.1 g7.2 dX3_readMost_44 ?_
        refine wp_aload_n (pc := 47) C 0 dX3_readMost_47 rfl rfl ?_
        refine wp_iconst (v := 3) (pc := 48) C dX3_readMost_48 (by decide) ?_
        obtain ⟨S9, r10, cS9, h⟩ := bd_some h
        refine wp_callVi (As := [.int 3]) (st := []) (pc := 49) C (CtX3_take cS9) mX3_take iX3_take kX3_115 (Nat.le_of_ble_eq_true rfl) rfl (by decide) rfl rfl rfl rfl (Nat.le_of_ble_eq_true rfl) ⟨Nat.le_of_ble_eq_true rfl, Nat.le_of_ble_eq_true rfl⟩ dX3_readMost_49 ?_
        obtain ⟨g11, h⟩ := gd_some h
        exact rt_z C g11 rfl h dX3_readMost_52
      · have h := it_pos q h
        exact (wX3_readMost_j30 C h)
theorem CtX3_readMost {n : Nat} {S S' : St} {r : Int32} (h : fX3_readMost n S = some (S', r)) : Ct l sdX cy ad D yX3_readMost cX3_readMost 1 (some .boolean) 2 43 [.ref (ad 151)] S (some (.int r)) S' :=
  Ct_of (own := RX3) mX3_readMost rfl (Nat.le_of_ble_eq_true rfl) (fun G e1 e2 e3 e4 C => by subst e1 e2 e3 e4; exact wX3_readMost C h)
def fX3_readOver (n : Nat) (S : St) : Option (St × Int32) :=
  bd (fX3_openOnce n S) (fun S1 r2 =>
  if r2 = 0 then
    some (S1, 0)
  else
    gd (isK sdX (S1.2.2 151 1) 0) (
    bn (sI S1 (S1.2.2 151 1) 13 1) (fun S4 : St =>
    bd (fX3_take n S4 3) (fun S5 r6 =>
    gd (r6 = 0 ∨ r6 = 1) (
    some (S5, r6))))))
set_option maxRecDepth 100000 in
set_option maxHeartbeats 4000000 in
theorem wX3_readOver (C : Cx G sdX cX3_readOver 1 RX3 (some .boolean)) {n : Nat} {S S' : St} {r : Int32} (h : fX3_readOver n S = some (S', r)) : Wp G sdX (rmOf 2 42) 1 (Qm G sdX (some (.int r)) S') S 0 [(0, .ref (gA G 151))] [] := by
  unfold fX3_readOver at h
  refine wp_aload_n (pc := 0) C 0 dX3_readOver_0 rfl rfl ?_
  obtain ⟨S1, r2, cS1, h⟩ := bd_some h
  refine wp_callVi (As := []) (st := []) (pc := 1) C (CtX3_openOnce cS1) mX3_openOnce iX3_openOnce kX3_102 (Nat.le_of_ble_eq_true rfl) rfl (by decide) rfl rfl rfl rfl (Nat.le_of_ble_eq_true rfl) ⟨Nat.le_of_ble_eq_true rfl, Nat.le_of_ble_eq_true rfl⟩ dX3_readOver_1 ?_
  refine wp_if_ne (pc := 4) C 9 dX3_readOver_4 (by decide) (fun q => ?_) (fun q => ?_)
  · have h := it_neg q h
    refine wp_aload_n (pc := 9) C 0 dX3_readOver_9 rfl rfl ?_
    obtain ⟨g3, h⟩ := gd_some h
    refine wp_getD (pc := 10) C flX3_9 rfl g3.1 (Nat.le_of_ble_eq_true rfl) rfl dX3_readOver_10 ?_
    refine wp_iconst (v := 1) (pc := 13) C dX3_readOver_13 (by decide) ?_
    obtain ⟨S4, eS4, h⟩ := bn_some h
    refine wp_putZ (pc := 14) C (Or.inr rfl) eS4 flX3_130 fpX0_13 rfl g3.1 g3.2 dX3_readOver_14 ?_
    refine wp_aload_n (pc := 17) C 0 dX3_readOver_17 rfl rfl ?_
    refine wp_iconst (v := 3) (pc := 18) C dX3_readOver_18 (by decide) ?_
    obtain ⟨S5, r6, cS5, h⟩ := bd_some h
    refine wp_callVi (As := [.int 3]) (st := []) (pc := 19) C (CtX3_take cS5) mX3_take iX3_take kX3_115 (Nat.le_of_ble_eq_true rfl) rfl (by decide) rfl rfl rfl rfl (Nat.le_of_ble_eq_true rfl) ⟨Nat.le_of_ble_eq_true rfl, Nat.le_of_ble_eq_true rfl⟩ dX3_readOver_19 ?_
    obtain ⟨g7, h⟩ := gd_some h
    exact rt_z C g7 rfl h dX3_readOver_22
  · have h := it_pos q h
    refine wp_iconst (v := 0) (pc := 7) C dX3_readOver_7 (by decide) ?_
    exact rt_z C (Or.inl rfl) rfl h dX3_readOver_8
theorem CtX3_readOver {n : Nat} {S S' : St} {r : Int32} (h : fX3_readOver n S = some (S', r)) : Ct l sdX cy ad D yX3_readOver cX3_readOver 1 (some .boolean) 2 42 [.ref (ad 151)] S (some (.int r)) S' :=
  Ct_of (own := RX3) mX3_readOver rfl (Nat.le_of_ble_eq_true rfl) (fun G e1 e2 e3 e4 C => by subst e1 e2 e3 e4; exact wX3_readOver C h)
def fX3_readSlip (n : Nat) (S : St) : Option (St × Int32) :=
  bd (fX3_openOnce n S) (fun S1 r2 =>
  if r2 = 0 then
    some (S1, 0)
  else
    bd (fX3_takeNumber n S1 0 9) (fun S3 r4 =>
    if r4 = 0 then
      some (S3, 0)
    else
      gd (isK sdX (S3.2.2 151 1) 0) (
      bn (sI S3 (S3.2.2 151 1) 12 (S3.1 151 6)) (fun S6 : St =>
      bd (fX3_take n S6 3) (fun S7 r8 =>
      gd (r8 = 0 ∨ r8 = 1) (
      some (S7, r8)))))))
set_option maxRecDepth 100000 in
set_option maxHeartbeats 4000000 in
theorem wX3_readSlip (C : Cx G sdX cX3_readSlip 1 RX3 (some .boolean)) {n : Nat} {S S' : St} {r : Int32} (h : fX3_readSlip n S = some (S', r)) : Wp G sdX (rmOf 2 43) 1 (Qm G sdX (some (.int r)) S') S 0 [(0, .ref (gA G 151))] [] := by
  unfold fX3_readSlip at h
  refine wp_aload_n (pc := 0) C 0 dX3_readSlip_0 rfl rfl ?_
  obtain ⟨S1, r2, cS1, h⟩ := bd_some h
  refine wp_callVi (As := []) (st := []) (pc := 1) C (CtX3_openOnce cS1) mX3_openOnce iX3_openOnce kX3_102 (Nat.le_of_ble_eq_true rfl) rfl (by decide) rfl rfl rfl rfl (Nat.le_of_ble_eq_true rfl) ⟨Nat.le_of_ble_eq_true rfl, Nat.le_of_ble_eq_true rfl⟩ dX3_readSlip_1 ?_
  refine wp_if_eq (pc := 4) C 17 dX3_readSlip_4 (by decide) (fun q => ?_) (fun q => ?_)
  · have h := it_pos q h
    refine wp_iconst (v := 0) (pc := 17) C dX3_readSlip_17 (by decide) ?_
    exact rt_z C (Or.inl rfl) rfl h dX3_readSlip_18
  · have h := it_neg q h
    refine wp_aload_n (pc := 7) C 0 dX3_readSlip_7 rfl rfl ?_
    refine wp_iconst (v := 0) (pc := 8) C dX3_readSlip_8 (by decide) ?_
    refine wp_bipush (v := 9) (pc := 9) C dX3_readSlip_9 (by decide) ?_
    obtain ⟨S3, r4, cS3, h⟩ := bd_some h
    refine wp_callVi (As := [.int 0, .int 9]) (st := []) (pc := 11) C (CtX3_takeNumber cS3) mX3_takeNumber iX3_takeNumber kX3_105 (Nat.le_of_ble_eq_true rfl) rfl (by decide) rfl rfl rfl rfl (Nat.le_of_ble_eq_true rfl) ⟨Nat.le_of_ble_eq_true rfl, Nat.le_of_ble_eq_true rfl⟩ dX3_readSlip_11 ?_
    refine wp_if_ne (pc := 14) C 19 dX3_readSlip_14 (by decide) (fun q => ?_) (fun q => ?_)
    · have h := it_neg q h
      refine wp_aload_n (pc := 19) C 0 dX3_readSlip_19 rfl rfl ?_
      obtain ⟨g5, h⟩ := gd_some h
      refine wp_getD (pc := 20) C flX3_9 rfl g5.1 (Nat.le_of_ble_eq_true rfl) rfl dX3_readSlip_20 ?_
      refine wp_aload_n (pc := 23) C 0 dX3_readSlip_23 rfl rfl ?_
      refine wp_getI (pc := 24) C flX3_109 rfl (Nat.le_of_ble_eq_true rfl) rfl dX3_readSlip_24 ?_
      obtain ⟨S6, eS6, h⟩ := bn_some h
      refine wp_putI (pc := 27) C eS6 flX3_127 fpX0_12 rfl g5.1 g5.2 dX3_readSlip_27 ?_
      refine wp_aload_n (pc := 30) C 0 dX3_readSlip_30 rfl rfl ?_
      refine wp_iconst (v := 3) (pc := 31) C dX3_readSlip_31 (by decide) ?_
      obtain ⟨S7, r8, cS7, h⟩ := bd_some h
      refine wp_callVi (As := [.int 3]) (st := []) (pc := 32) C (CtX3_take cS7) mX3_take iX3_take kX3_115 (Nat.le_of_ble_eq_true rfl) rfl (by decide) rfl rfl rfl rfl (Nat.le_of_ble_eq_true rfl) ⟨Nat.le_of_ble_eq_true rfl, Nat.le_of_ble_eq_true rfl⟩ dX3_readSlip_32 ?_
      obtain ⟨g9, h⟩ := gd_some h
      exact rt_z C g9 rfl h dX3_readSlip_35
    · have h := it_pos q h
      refine wp_iconst (v := 0) (pc := 17) C dX3_readSlip_17 (by decide) ?_
      exact rt_z C (Or.inl rfl) rfl h dX3_readSlip_18
theorem CtX3_readSlip {n : Nat} {S S' : St} {r : Int32} (h : fX3_readSlip n S = some (S', r)) : Ct l sdX cy ad D yX3_readSlip cX3_readSlip 1 (some .boolean) 2 43 [.ref (ad 151)] S (some (.int r)) S' :=
  Ct_of (own := RX3) mX3_readSlip rfl (Nat.le_of_ble_eq_true rfl) (fun G e1 e2 e3 e4 C => by subst e1 e2 e3 e4; exact wX3_readSlip C h)
def fX3_readThing (n : Nat) (S : St) (a1 : Nat) (x2 : Int32) : Option (St × Int32) :=
  bd (fX3_openThing n S a1) (fun S1 r2 =>
  if r2 = 0 then
    some (S1, 0)
  else
    bd (fX3_takeRow n S1 a1 x2) (fun S3 r4 =>
    if r4 = 0 then
      some (S3, 0)
    else
      some (S3, 1)))
set_option maxRecDepth 100000 in
set_option maxHeartbeats 4000000 in
theorem wX3_readThing (C : Cx G sdX cX3_readThing 3 RX3 (some .boolean)) {n : Nat} {S S' : St} {r : Int32} {a1 : Nat} {x2 : Int32} (h : fX3_readThing n S a1 x2 = some (S', r)) : Wp G sdX (rmOf 3 66) 3 (Qm G sdX (some (.int r)) S') S 0 [(0, .ref (gA G 151)), (1, .ref (gA G a1)), (2, .int x2)] [] := by
  unfold fX3_readThing at h
  refine wp_aload_n (pc := 0) C 0 dX3_readThing_0 rfl rfl ?_
  refine wp_aload_n (pc := 1) C 1 dX3_readThing_1 rfl rfl ?_
  obtain ⟨S1, r2, cS1, h⟩ := bd_some h
  refine wp_callVi (As := [.ref (gA G a1)]) (st := []) (pc := 2) C (CtX3_openThing cS1) mX3_openThing iX3_openThing kX3_134 (Nat.le_of_ble_eq_true rfl) rfl (by decide) rfl rfl rfl rfl (Nat.le_of_ble_eq_true rfl) ⟨Nat.le_of_ble_eq_true rfl, Nat.le_of_ble_eq_true rfl⟩ dX3_readThing_2 ?_
  refine wp_if_eq (pc := 5) C 21 dX3_readThing_5 (by decide) (fun q => ?_) (fun q => ?_)
  · have h := it_pos q h
    refine wp_iconst (v := 0) (pc := 21) C dX3_readThing_21 (by decide) ?_
    exact rt_z C (Or.inl rfl) rfl h dX3_readThing_22
  · have h := it_neg q h
    refine wp_aload_n (pc := 8) C 0 dX3_readThing_8 rfl rfl ?_
    refine wp_aload_n (pc := 9) C 1 dX3_readThing_9 rfl rfl ?_
    refine wp_iload_n (pc := 10) C 2 dX3_readThing_10 rfl rfl ?_
    obtain ⟨S3, r4, cS3, h⟩ := bd_some h
    refine wp_callVi (As := [.ref (gA G a1), .int x2]) (st := []) (pc := 11) C (CtX3_takeRow cS3) mX3_takeRow iX3_takeRow kX3_145 (Nat.le_of_ble_eq_true rfl) rfl (by decide) rfl rfl rfl rfl (Nat.le_of_ble_eq_true rfl) ⟨Nat.le_of_ble_eq_true rfl, Nat.le_of_ble_eq_true rfl⟩ dX3_readThing_11 ?_
    refine wp_if_eq (pc := 14) C 21 dX3_readThing_14 (by decide) (fun q => ?_) (fun q => ?_)
    · have h := it_pos q h
      refine wp_iconst (v := 0) (pc := 21) C dX3_readThing_21 (by decide) ?_
      exact rt_z C (Or.inl rfl) rfl h dX3_readThing_22
    · have h := it_neg q h
      refine wp_iconst (v := 1) (pc := 17) C dX3_readThing_17 (by decide) ?_
      refine wp_goto (pc := 18) C 22 dX3_readThing_18 (by decide) ?_
      exact rt_z C (Or.inr rfl) rfl h dX3_readThing_22
theorem CtX3_readThing {n : Nat} {S S' : St} {r : Int32} {a1 : Nat} {x2 : Int32} (h : fX3_readThing n S a1 x2 = some (S', r)) : Ct l sdX cy ad D yX3_readThing cX3_readThing 3 (some .boolean) 3 66 [.ref (ad 151), .ref (ad a1), .int x2] S (some (.int r)) S' :=
  Ct_of (own := RX3) mX3_readThing rfl (Nat.le_of_ble_eq_true rfl) (fun G e1 e2 e3 e4 C => by subst e1 e2 e3 e4; exact wX3_readThing C h)
def fX3_readLine (n : Nat) (S : St) : Option (St × Int32) :=
  if (S.1 151 3) = 5 then
    bd (fX3_readBands n S) (fun S1 r2 =>
    gd (r2 = 0 ∨ r2 = 1) (
    some (S1, r2)))
  else if (S.1 151 3) = 6 then
    bd (fX3_readDye n S) (fun S5 r6 =>
    gd (r6 = 0 ∨ r6 = 1) (
    some (S5, r6)))
  else if (S.1 151 3) = 7 then
    gd (isK sdX (S.2.2 151 1) 0) (
    gd (isK sdX (srX (S.2.2 151 1) 1) 5) (
    bd (fX3_readThing n S (srX (S.2.2 151 1) 1) 99) (fun S11 r12 =>
    gd (r12 = 0 ∨ r12 = 1) (
    some (S11, r12)))))
  else if (S.1 151 3) = 8 then
    gd (isK sdX (S.2.2 151 1) 0) (
    gd (isK sdX (srX (S.2.2 151 1) 2) 5) (
    bd (fX3_readThing n S (srX (S.2.2 151 1) 2) 99) (fun S17 r18 =>
    gd (r18 = 0 ∨ r18 = 1) (
    some (S17, r18)))))
  else if (S.1 151 3) = 9 then
    gd (isK sdX (S.2.2 151 1) 0) (
    gd (isK sdX (srX (S.2.2 151 1) 3) 5) (
    bd (fX3_readThing n S (srX (S.2.2 151 1) 3) 9) (fun S23 r24 =>
    gd (r24 = 0 ∨ r24 = 1) (
    some (S23, r24)))))
  else if (S.1 151 3) = 10 then
    bd (fX3_readGood n S) (fun S27 r28 =>
    gd (r28 = 0 ∨ r28 = 1) (
    some (S27, r28)))
  else if (S.1 151 3) = 11 then
    bd (fX3_readMost n S) (fun S31 r32 =>
    gd (r32 = 0 ∨ r32 = 1) (
    some (S31, r32)))
  else if (S.1 151 3) = 12 then
    bd (fX3_readAlike n S) (fun S35 r36 =>
    gd (r36 = 0 ∨ r36 = 1) (
    some (S35, r36)))
  else if (S.1 151 3) = 13 then
    bd (fX3_readOver n S) (fun S39 r40 =>
    gd (r40 = 0 ∨ r40 = 1) (
    some (S39, r40)))
  else if (S.1 151 3) = 14 then
    bd (fX3_readSlip n S) (fun S43 r44 =>
    gd (r44 = 0 ∨ r44 = 1) (
    some (S43, r44)))
  else bd (fX3_refuse n S 2) (fun S47 r48 =>
  gd (r48 = 0 ∨ r48 = 1) (
  some (S47, r48)))
set_option maxRecDepth 100000 in
set_option maxHeartbeats 4000000 in
theorem wX3_readLine (C : Cx G sdX cX3_readLine 1 RX3 (some .boolean)) {n : Nat} {S S' : St} {r : Int32} (h : fX3_readLine n S = some (S', r)) : Wp G sdX (rmOf 4 88) 1 (Qm G sdX (some (.int r)) S') S 0 [(0, .ref (gA G 151))] [] := by
  unfold fX3_readLine at h
  refine wp_aload_n (pc := 0) C 0 dX3_readLine_0 rfl rfl ?_
  refine wp_getI (pc := 1) C flX3_45 rfl (Nat.le_of_ble_eq_true rfl) rfl dX3_readLine_1 ?_
  by_cases q : (S.1 151 3) = 5
  · have h := it_pos q h
    refine wp_tableIn (pc := 4) C 60 dX3_readLine_4 (by rw [q]; decide) (by rw [q]; decide) (by rw [q]; rfl) (by decide) ?_
    refine wp_aload_n (pc := 60) C 0 dX3_readLine_60 rfl rfl ?_
    obtain ⟨S1, r2, cS1, h⟩ := bd_some h
    refine wp_callVi (As := []) (st := []) (pc := 61) C (CtX3_readBands cS1) mX3_readBands iX3_readBands kX3_55 (Nat.le_of_ble_eq_true rfl) rfl (by decide) rfl rfl rfl rfl (Nat.le_of_ble_eq_true rfl) ⟨Nat.le_of_ble_eq_true rfl, Nat.le_of_ble_eq_true rfl⟩ dX3_readLine_61 ?_
    obtain ⟨g3, h⟩ := gd_some h
    exact rt_z C g3 rfl h dX3_readLine_64
  have h := it_neg q h
  have n4 := q
  by_cases q : (S.1 151 3) = 6
  · have h := it_pos q h
    refine wp_tableIn (pc := 4) C 85 dX3_readLine_4 (by rw [q]; decide) (by rw [q]; decide) (by rw [q]; rfl) (by decide) ?_
    refine wp_aload_n (pc := 85) C 0 dX3_readLine_85 rfl rfl ?_
    obtain ⟨S5, r6, cS5, h⟩ := bd_some h
    refine wp_callVi (As := []) (st := []) (pc := 86) C (CtX3_readDye cS5) mX3_readDye iX3_readDye kX3_70 (Nat.le_of_ble_eq_true rfl) rfl (by decide) rfl rfl rfl rfl (Nat.le_of_ble_eq_true rfl) ⟨Nat.le_of_ble_eq_true rfl, Nat.le_of_ble_eq_true rfl⟩ dX3_readLine_86 ?_
    obtain ⟨g7, h⟩ := gd_some h
    exact rt_z C g7 rfl h dX3_readLine_89
  have h := it_neg q h
  have n8 := q
  by_cases q : (S.1 151 3) = 7
  · have h := it_pos q h
    refine wp_tableIn (pc := 4) C 90 dX3_readLine_4 (by rw [q]; decide) (by rw [q]; decide) (by rw [q]; rfl) (by decide) ?_
    refine wp_aload_n (pc := 90) C 0 dX3_readLine_90 rfl rfl ?_
    refine wp_aload_n (pc := 91) C 0 dX3_readLine_91 rfl rfl ?_
    obtain ⟨g9, h⟩ := gd_some h
    refine wp_getD (pc := 92) C flX3_9 rfl g9.1 (Nat.le_of_ble_eq_true rfl) rfl dX3_readLine_92 ?_
    obtain ⟨g10, h⟩ := gd_some h
    refine wp_getS (v := srX (S.2.2 151 1) 1) (pc := 95) C flX3_73 rfl rfl g10.1 g9.1 g9.2 dX3_readLine_95 ?_
    refine wp_bipush (v := 99) (pc := 98) C dX3_readLine_98 (by decide) ?_
    obtain ⟨S11, r12, cS11, h⟩ := bd_some h
    refine wp_callVi (As := [.ref (gA G (srX (S.2.2 151 1) 1)), .int 99]) (st := []) (pc := 100) C (CtX3_readThing cS11) mX3_readThing iX3_readThing kX3_77 (Nat.le_of_ble_eq_true rfl) rfl (by decide) rfl rfl rfl rfl (Nat.le_of_ble_eq_true rfl) ⟨Nat.le_of_ble_eq_true rfl, Nat.le_of_ble_eq_true rfl⟩ dX3_readLine_100 ?_
    obtain ⟨g13, h⟩ := gd_some h
    exact rt_z C g13 rfl h dX3_readLine_103
  have h := it_neg q h
  have n14 := q
  by_cases q : (S.1 151 3) = 8
  · have h := it_pos q h
    refine wp_tableIn (pc := 4) C 104 dX3_readLine_4 (by rw [q]; decide) (by rw [q]; decide) (by rw [q]; rfl) (by decide) ?_
    refine wp_aload_n (pc := 104) C 0 dX3_readLine_104 rfl rfl ?_
    refine wp_aload_n (pc := 105) C 0 dX3_readLine_105 rfl rfl ?_
    obtain ⟨g15, h⟩ := gd_some h
    refine wp_getD (pc := 106) C flX3_9 rfl g15.1 (Nat.le_of_ble_eq_true rfl) rfl dX3_readLine_106 ?_
    obtain ⟨g16, h⟩ := gd_some h
    refine wp_getS (v := srX (S.2.2 151 1) 2) (pc := 109) C flX3_81 rfl rfl g16.1 g15.1 g15.2 dX3_readLine_109 ?_
    refine wp_bipush (v := 99) (pc := 112) C dX3_readLine_112 (by decide) ?_
    obtain ⟨S17, r18, cS17, h⟩ := bd_some h
    refine wp_callVi (As := [.ref (gA G (srX (S.2.2 151 1) 2)), .int 99]) (st := []) (pc := 114) C (CtX3_readThing cS17) mX3_readThing iX3_readThing kX3_77 (Nat.le_of_ble_eq_true rfl) rfl (by decide) rfl rfl rfl rfl (Nat.le_of_ble_eq_true rfl) ⟨Nat.le_of_ble_eq_true rfl, Nat.le_of_ble_eq_true rfl⟩ dX3_readLine_114 ?_
    obtain ⟨g19, h⟩ := gd_some h
    exact rt_z C g19 rfl h dX3_readLine_117
  have h := it_neg q h
  have n20 := q
  by_cases q : (S.1 151 3) = 9
  · have h := it_pos q h
    refine wp_tableIn (pc := 4) C 118 dX3_readLine_4 (by rw [q]; decide) (by rw [q]; decide) (by rw [q]; rfl) (by decide) ?_
    refine wp_aload_n (pc := 118) C 0 dX3_readLine_118 rfl rfl ?_
    refine wp_aload_n (pc := 119) C 0 dX3_readLine_119 rfl rfl ?_
    obtain ⟨g21, h⟩ := gd_some h
    refine wp_getD (pc := 120) C flX3_9 rfl g21.1 (Nat.le_of_ble_eq_true rfl) rfl dX3_readLine_120 ?_
    obtain ⟨g22, h⟩ := gd_some h
    refine wp_getS (v := srX (S.2.2 151 1) 3) (pc := 123) C flX3_84 rfl rfl g22.1 g21.1 g21.2 dX3_readLine_123 ?_
    refine wp_bipush (v := 9) (pc := 126) C dX3_readLine_126 (by decide) ?_
    obtain ⟨S23, r24, cS23, h⟩ := bd_some h
    refine wp_callVi (As := [.ref (gA G (srX (S.2.2 151 1) 3)), .int 9]) (st := []) (pc := 128) C (CtX3_readThing cS23) mX3_readThing iX3_readThing kX3_77 (Nat.le_of_ble_eq_true rfl) rfl (by decide) rfl rfl rfl rfl (Nat.le_of_ble_eq_true rfl) ⟨Nat.le_of_ble_eq_true rfl, Nat.le_of_ble_eq_true rfl⟩ dX3_readLine_128 ?_
    obtain ⟨g25, h⟩ := gd_some h
    exact rt_z C g25 rfl h dX3_readLine_131
  have h := it_neg q h
  have n26 := q
  by_cases q : (S.1 151 3) = 10
  · have h := it_pos q h
    refine wp_tableIn (pc := 4) C 132 dX3_readLine_4 (by rw [q]; decide) (by rw [q]; decide) (by rw [q]; rfl) (by decide) ?_
    refine wp_aload_n (pc := 132) C 0 dX3_readLine_132 rfl rfl ?_
    obtain ⟨S27, r28, cS27, h⟩ := bd_some h
    refine wp_callVi (As := []) (st := []) (pc := 133) C (CtX3_readGood cS27) mX3_readGood iX3_readGood kX3_87 (Nat.le_of_ble_eq_true rfl) rfl (by decide) rfl rfl rfl rfl (Nat.le_of_ble_eq_true rfl) ⟨Nat.le_of_ble_eq_true rfl, Nat.le_of_ble_eq_true rfl⟩ dX3_readLine_133 ?_
    obtain ⟨g29, h⟩ := gd_some h
    exact rt_z C g29 rfl h dX3_readLine_136
  have h := it_neg q h
  have n30 := q
  by_cases q : (S.1 151 3) = 11
  · have h := it_pos q h
    refine wp_tableIn (pc := 4) C 65 dX3_readLine_4 (by rw [q]; decide) (by rw [q]; decide) (by rw [q]; rfl) (by decide) ?_
    refine wp_aload_n (pc := 65) C 0 dX3_readLine_65 rfl rfl ?_
    obtain ⟨S31, r32, cS31, h⟩ := bd_some h
    refine wp_callVi (As := []) (st := []) (pc := 66) C (CtX3_readMost cS31) mX3_readMost iX3_readMost kX3_58 (Nat.le_of_ble_eq_true rfl) rfl (by decide) rfl rfl rfl rfl (Nat.le_of_ble_eq_true rfl) ⟨Nat.le_of_ble_eq_true rfl, Nat.le_of_ble_eq_true rfl⟩ dX3_readLine_66 ?_
    obtain ⟨g33, h⟩ := gd_some h
    exact rt_z C g33 rfl h dX3_readLine_69
  have h := it_neg q h
  have n34 := q
  by_cases q : (S.1 151 3) = 12
  · have h := it_pos q h
    refine wp_tableIn (pc := 4) C 70 dX3_readLine_4 (by rw [q]; decide) (by rw [q]; decide) (by rw [q]; rfl) (by decide) ?_
    refine wp_aload_n (pc := 70) C 0 dX3_readLine_70 rfl rfl ?_
    obtain ⟨S35, r36, cS35, h⟩ := bd_some h
    refine wp_callVi (As := []) (st := []) (pc := 71) C (CtX3_readAlike cS35) mX3_readAlike iX3_readAlike kX3_61 (Nat.le_of_ble_eq_true rfl) rfl (by decide) rfl rfl rfl rfl (Nat.le_of_ble_eq_true rfl) ⟨Nat.le_of_ble_eq_true rfl, Nat.le_of_ble_eq_true rfl⟩ dX3_readLine_71 ?_
    obtain ⟨g37, h⟩ := gd_some h
    exact rt_z C g37 rfl h dX3_readLine_74
  have h := it_neg q h
  have n38 := q
  by_cases q : (S.1 151 3) = 13
  · have h := it_pos q h
    refine wp_tableIn (pc := 4) C 80 dX3_readLine_4 (by rw [q]; decide) (by rw [q]; decide) (by rw [q]; rfl) (by decide) ?_
    refine wp_aload_n (pc := 80) C 0 dX3_readLine_80 rfl rfl ?_
    obtain ⟨S39, r40, cS39, h⟩ := bd_some h
    refine wp_callVi (As := []) (st := []) (pc := 81) C (CtX3_readOver cS39) mX3_readOver iX3_readOver kX3_67 (Nat.le_of_ble_eq_true rfl) rfl (by decide) rfl rfl rfl rfl (Nat.le_of_ble_eq_true rfl) ⟨Nat.le_of_ble_eq_true rfl, Nat.le_of_ble_eq_true rfl⟩ dX3_readLine_81 ?_
    obtain ⟨g41, h⟩ := gd_some h
    exact rt_z C g41 rfl h dX3_readLine_84
  have h := it_neg q h
  have n42 := q
  by_cases q : (S.1 151 3) = 14
  · have h := it_pos q h
    refine wp_tableIn (pc := 4) C 75 dX3_readLine_4 (by rw [q]; decide) (by rw [q]; decide) (by rw [q]; rfl) (by decide) ?_
    refine wp_aload_n (pc := 75) C 0 dX3_readLine_75 rfl rfl ?_
    obtain ⟨S43, r44, cS43, h⟩ := bd_some h
    refine wp_callVi (As := []) (st := []) (pc := 76) C (CtX3_readSlip cS43) mX3_readSlip iX3_readSlip kX3_64 (Nat.le_of_ble_eq_true rfl) rfl (by decide) rfl rfl rfl rfl (Nat.le_of_ble_eq_true rfl) ⟨Nat.le_of_ble_eq_true rfl, Nat.le_of_ble_eq_true rfl⟩ dX3_readLine_76 ?_
    obtain ⟨g45, h⟩ := gd_some h
    exact rt_z C g45 rfl h dX3_readLine_79
  have h := it_neg q h
  have n46 := q
  refine wp_tableOut (pc := 4) C 137 dX3_readLine_4 (by have m0 := ne_toInt (v := 5) (by decide) n4; have m1 := ne_toInt (v := 6) (by decide) n8; have m2 := ne_toInt (v := 7) (by decide) n14; have m3 := ne_toInt (v := 8) (by decide) n20; have m4 := ne_toInt (v := 9) (by decide) n26; have m5 := ne_toInt (v := 10) (by decide) n30; have m6 := ne_toInt (v := 11) (by decide) n34; have m7 := ne_toInt (v := 12) (by decide) n38; have m8 := ne_toInt (v := 13) (by decide) n42; have m9 := ne_toInt (v := 14) (by decide) n46; omega) (by decide) ?_
  refine wp_aload_n (pc := 137) C 0 dX3_readLine_137 rfl rfl ?_
  refine wp_iconst (v := 2) (pc := 138) C dX3_readLine_138 (by decide) ?_
  obtain ⟨S47, r48, cS47, h⟩ := bd_some h
  refine wp_callVi (As := [.int 2]) (st := []) (pc := 139) C (CtX3_refuse cS47) mX3_refuse iX3_refuse kX3_90 (Nat.le_of_ble_eq_true rfl) rfl (by decide) rfl rfl rfl rfl (Nat.le_of_ble_eq_true rfl) ⟨Nat.le_of_ble_eq_true rfl, Nat.le_of_ble_eq_true rfl⟩ dX3_readLine_139 ?_
  obtain ⟨g49, h⟩ := gd_some h
  exact rt_z C g49 rfl h dX3_readLine_142
theorem CtX3_readLine {n : Nat} {S S' : St} {r : Int32} (h : fX3_readLine n S = some (S', r)) : Ct l sdX cy ad D yX3_readLine cX3_readLine 1 (some .boolean) 4 88 [.ref (ad 151)] S (some (.int r)) S' :=
  Ct_of (own := RX3) mX3_readLine rfl (Nat.le_of_ble_eq_true rfl) (fun G e1 e2 e3 e4 C => by subst e1 e2 e3 e4; exact wX3_readLine C h)
def fX6_signAt (n : Nat) (S : St) (x1 : Int32) : Option (St × Int32) :=
  if x1 < 0 then
    some (S, 0)
  else
    if (S.1 1 1) ≤ x1 then
      some (S, 0)
    else
      gd (ib x1 1700) (
      some (S, S.1 2 (Int32.toNatClampNeg x1)))
set_option maxRecDepth 100000 in
set_option maxHeartbeats 4000000 in
theorem wX6_signAt (C : Cx G sdX cX6_signAt 2 RX6 (some .int)) {n : Nat} {S S' : St} {r : Int32} {x1 : Int32} (h : fX6_signAt n S x1 = some (S', r)) : Wp G sdX (rmOf 0 0) 2 (Qm G sdX (some (.int r)) S') S 0 [(0, .ref (gA G 1)), (1, .int x1)] [] := by
  unfold fX6_signAt at h
  refine wp_iload_n (pc := 0) C 1 dX6_signAt_0 rfl rfl ?_
  refine wp_if_lt (pc := 1) C 21 dX6_signAt_1 (by decide) (fun q => ?_) (fun q => ?_)
  · have h := it_pos q h
    refine wp_iconst (v := 0) (pc := 21) C dX6_signAt_21 (by decide) ?_
    exact rt_i C rfl h dX6_signAt_22
  · have h := it_neg q h
    refine wp_iload_n (pc := 4) C 1 dX6_signAt_4 rfl rfl ?_
    refine wp_aload_n (pc := 5) C 0 dX6_signAt_5 rfl rfl ?_
    refine wp_getI (pc := 6) C flX6_15 rfl (Nat.le_of_ble_eq_true rfl) rfl dX6_signAt_6 ?_
    refine wp_icmp_ge (pc := 9) C 21 dX6_signAt_9 (by decide) (fun q => ?_) (fun q => ?_)
    · have h := it_pos q h
      refine wp_iconst (v := 0) (pc := 21) C dX6_signAt_21 (by decide) ?_
      exact rt_i C rfl h dX6_signAt_22
    · have h := it_neg q h
      refine wp_aload_n (pc := 12) C 0 dX6_signAt_12 rfl rfl ?_
      refine wp_getS (v := 2) (pc := 13) C flX6_9 rfl rfl (Nat.le_of_ble_eq_true rfl) (Nat.le_of_ble_eq_true rfl) rfl dX6_signAt_13 ?_
      refine wp_iload_n (pc := 16) C 1 dX6_signAt_16 rfl rfl ?_
      obtain ⟨g1, h⟩ := gd_some h
      refine wp_bald (pc := 17) C (Nat.le_of_ble_eq_true rfl) rfl g1 dX6_signAt_17 ?_
      refine wp_goto (pc := 18) C 22 dX6_signAt_18 (by decide) ?_
      exact rt_i C rfl h dX6_signAt_22
theorem CtX6_signAt {n : Nat} {S S' : St} {r : Int32} {x1 : Int32} (h : fX6_signAt n S x1 = some (S', r)) : Ct l sdX cy ad D yX6_signAt cX6_signAt 2 (some .int) 0 0 [.ref (ad 1), .int x1] S (some (.int r)) S' :=
  Ct_of (own := RX6) mX6_signAt rfl (Nat.le_of_ble_eq_true rfl) (fun G e1 e2 e3 e4 C => by subst e1 e2 e3 e4; exact wX6_signAt C h)
def fX7_isBlank_j12 (n : Nat) (S : St) : Option (St × Int32) :=
  some (S, 1)
set_option maxRecDepth 100000 in
set_option maxHeartbeats 4000000 in
theorem wX7_isBlank_j12 (C : Cx G sdX cX7_isBlank 1 RX7 (some .boolean)) {n : Nat} {S S' : St} {r : Int32} (h : fX7_isBlank_j12 n S = some (S', r)) : Wp G sdX (rmOf 0 0) 1 (Qm G sdX (some (.int r)) S') S 12 [] [] := by
  unfold fX7_isBlank_j12 at h
  refine wp_iconst (v := 1) (pc := 12) C dX7_isBlank_12 (by decide) ?_
  refine wp_goto (pc := 13) C 17 dX7_isBlank_13 (by decide) ?_
  exact rt_z C (Or.inr rfl) rfl h dX7_isBlank_17
def fX7_isBlank (n : Nat) (S : St) (x0 : Int32) : Option (St × Int32) :=
  if x0 = 32 then
    fX7_isBlank_j12 n S
  else
    if x0 = 10 then
      fX7_isBlank_j12 n S
    else
      some (S, 0)
set_option maxRecDepth 100000 in
set_option maxHeartbeats 4000000 in
theorem wX7_isBlank (C : Cx G sdX cX7_isBlank 1 RX7 (some .boolean)) {n : Nat} {S S' : St} {r : Int32} {x0 : Int32} (h : fX7_isBlank n S x0 = some (S', r)) : Wp G sdX (rmOf 0 0) 1 (Qm G sdX (some (.int r)) S') S 0 [(0, .int x0)] [] := by
  unfold fX7_isBlank at h
  refine wp_iload_n (pc := 0) C 0 dX7_isBlank_0 rfl rfl ?_
  refine wp_bipush (v := 32) (pc := 1) C dX7_isBlank_1 (by decide) ?_
  refine wp_icmp_eq (pc := 3) C 12 dX7_isBlank_3 (by decide) (fun q => ?_) (fun q => ?_)
  · have h := it_pos q h
    exact wp_sub C [] rfl (wX7_isBlank_j12 C h)
  · have h := it_neg q h
    refine wp_iload_n (pc := 6) C 0 dX7_isBlank_6 rfl rfl ?_
    refine wp_bipush (v := 10) (pc := 7) C dX7_isBlank_7 (by decide) ?_
    refine wp_icmp_ne (pc := 9) C 16 dX7_isBlank_9 (by decide) (fun q => ?_) (fun q => ?_)
    · have h := it_neg q h
      refine wp_iconst (v := 0) (pc := 16) C dX7_isBlank_16 (by decide) ?_
      exact rt_z C (Or.inl rfl) rfl h dX7_isBlank_17
    · have h := it_pos q h
      exact wp_sub C [] rfl (wX7_isBlank_j12 C h)
theorem CtX7_isBlank {n : Nat} {S S' : St} {r : Int32} {x0 : Int32} (h : fX7_isBlank n S x0 = some (S', r)) : Ct l sdX cy ad D yX7_isBlank cX7_isBlank 1 (some .boolean) 0 0 [.int x0] S (some (.int r)) S' :=
  Ct_of (own := RX7) mX7_isBlank rfl (Nat.le_of_ble_eq_true rfl) (fun G e1 e2 e3 e4 C => by subst e1 e2 e3 e4; exact wX7_isBlank C h)
def fX7_isDigit (n : Nat) (S : St) (x0 : Int32) : Option (St × Int32) :=
  if x0 < 48 then
    some (S, 0)
  else
    if 57 < x0 then
      some (S, 0)
    else
      some (S, 1)
set_option maxRecDepth 100000 in
set_option maxHeartbeats 4000000 in
theorem wX7_isDigit (C : Cx G sdX cX7_isDigit 1 RX7 (some .boolean)) {n : Nat} {S S' : St} {r : Int32} {x0 : Int32} (h : fX7_isDigit n S x0 = some (S', r)) : Wp G sdX (rmOf 0 0) 1 (Qm G sdX (some (.int r)) S') S 0 [(0, .int x0)] [] := by
  unfold fX7_isDigit at h
  refine wp_iload_n (pc := 0) C 0 dX7_isDigit_0 rfl rfl ?_
  refine wp_bipush (v := 48) (pc := 1) C dX7_isDigit_1 (by decide) ?_
  refine wp_icmp_lt (pc := 3) C 16 dX7_isDigit_3 (by decide) (fun q => ?_) (fun q => ?_)
  · have h := it_pos q h
    refine wp_iconst (v := 0) (pc := 16) C dX7_isDigit_16 (by decide) ?_
    exact rt_z C (Or.inl rfl) rfl h dX7_isDigit_17
  · have h := it_neg q h
    refine wp_iload_n (pc := 6) C 0 dX7_isDigit_6 rfl rfl ?_
    refine wp_bipush (v := 57) (pc := 7) C dX7_isDigit_7 (by decide) ?_
    refine wp_icmp_gt (pc := 9) C 16 dX7_isDigit_9 (by decide) (fun q => ?_) (fun q => ?_)
    · have h := it_pos q h
      refine wp_iconst (v := 0) (pc := 16) C dX7_isDigit_16 (by decide) ?_
      exact rt_z C (Or.inl rfl) rfl h dX7_isDigit_17
    · have h := it_neg q h
      refine wp_iconst (v := 1) (pc := 12) C dX7_isDigit_12 (by decide) ?_
      refine wp_goto (pc := 13) C 17 dX7_isDigit_13 (by decide) ?_
      exact rt_z C (Or.inr rfl) rfl h dX7_isDigit_17
theorem CtX7_isDigit {n : Nat} {S S' : St} {r : Int32} {x0 : Int32} (h : fX7_isDigit n S x0 = some (S', r)) : Ct l sdX cy ad D yX7_isDigit cX7_isDigit 1 (some .boolean) 0 0 [.int x0] S (some (.int r)) S' :=
  Ct_of (own := RX7) mX7_isDigit rfl (Nat.le_of_ble_eq_true rfl) (fun G e1 e2 e3 e4 C => by subst e1 e2 e3 e4; exact wX7_isDigit C h)
def fX7_isLetter (n : Nat) (S : St) (x0 : Int32) : Option (St × Int32) :=
  if x0 < 97 then
    some (S, 0)
  else
    if 122 < x0 then
      some (S, 0)
    else
      some (S, 1)
set_option maxRecDepth 100000 in
set_option maxHeartbeats 4000000 in
theorem wX7_isLetter (C : Cx G sdX cX7_isLetter 1 RX7 (some .boolean)) {n : Nat} {S S' : St} {r : Int32} {x0 : Int32} (h : fX7_isLetter n S x0 = some (S', r)) : Wp G sdX (rmOf 0 0) 1 (Qm G sdX (some (.int r)) S') S 0 [(0, .int x0)] [] := by
  unfold fX7_isLetter at h
  refine wp_iload_n (pc := 0) C 0 dX7_isLetter_0 rfl rfl ?_
  refine wp_bipush (v := 97) (pc := 1) C dX7_isLetter_1 (by decide) ?_
  refine wp_icmp_lt (pc := 3) C 16 dX7_isLetter_3 (by decide) (fun q => ?_) (fun q => ?_)
  · have h := it_pos q h
    refine wp_iconst (v := 0) (pc := 16) C dX7_isLetter_16 (by decide) ?_
    exact rt_z C (Or.inl rfl) rfl h dX7_isLetter_17
  · have h := it_neg q h
    refine wp_iload_n (pc := 6) C 0 dX7_isLetter_6 rfl rfl ?_
    refine wp_bipush (v := 122) (pc := 7) C dX7_isLetter_7 (by decide) ?_
    refine wp_icmp_gt (pc := 9) C 16 dX7_isLetter_9 (by decide) (fun q => ?_) (fun q => ?_)
    · have h := it_pos q h
      refine wp_iconst (v := 0) (pc := 16) C dX7_isLetter_16 (by decide) ?_
      exact rt_z C (Or.inl rfl) rfl h dX7_isLetter_17
    · have h := it_neg q h
      refine wp_iconst (v := 1) (pc := 12) C dX7_isLetter_12 (by decide) ?_
      refine wp_goto (pc := 13) C 17 dX7_isLetter_13 (by decide) ?_
      exact rt_z C (Or.inr rfl) rfl h dX7_isLetter_17
theorem CtX7_isLetter {n : Nat} {S S' : St} {r : Int32} {x0 : Int32} (h : fX7_isLetter n S x0 = some (S', r)) : Ct l sdX cy ad D yX7_isLetter cX7_isLetter 1 (some .boolean) 0 0 [.int x0] S (some (.int r)) S' :=
  Ct_of (own := RX7) mX7_isLetter rfl (Nat.le_of_ble_eq_true rfl) (fun G e1 e2 e3 e4 C => by subst e1 e2 e3 e4; exact wX7_isLetter C h)
def fX7_readNumber_j104 (n : Nat) (S : St) (y0 : Int32) : Option (St × Int32) :=
  if y0 = 0 then
    some (S, 1)
  else
    some (S, 2)
set_option maxRecDepth 100000 in
set_option maxHeartbeats 4000000 in
theorem wX7_readNumber_j104 (C : Cx G sdX cX7_readNumber 7 RX7 (some .int)) {n : Nat} {S S' : St} {r : Int32} {y0 : Int32} (h : fX7_readNumber_j104 n S y0 = some (S', r)) : Wp G sdX (rmOf 1 21) 7 (Qm G sdX (some (.int r)) S') S 104 [] [.int y0] := by
  unfold fX7_readNumber_j104 at h
  refine wp_istore (pc := 104) C rfl [(6, .int y0)] dX7_readNumber_104 (Nat.le_of_ble_eq_true rfl) rfl ?_
  refine wp_iload (pc := 106) C 0 dX7_readNumber_106 rfl ?_
  refine wp_if_eq (pc := 108) C 115 dX7_readNumber_108 (by decide) (fun q => ?_) (fun q => ?_)
  · have h := it_pos q h
    refine wp_iconst (v := 1) (pc := 115) C dX7_readNumber_115 (by decide) ?_
    exact rt_i C rfl h dX7_readNumber_116
  · have h := it_neg q h
    refine wp_iconst (v := 2) (pc := 111) C dX7_readNumber_111 (by decide) ?_
    refine wp_goto (pc := 112) C 116 dX7_readNumber_112 (by decide) ?_
    exact rt_i C rfl h dX7_readNumber_116
def fX7_readNumber_j103 (n : Nat) (S : St) : Option (St × Int32) :=
  fX7_readNumber_j104 n S 0
set_option maxRecDepth 100000 in
set_option maxHeartbeats 4000000 in
theorem wX7_readNumber_j103 (C : Cx G sdX cX7_readNumber 7 RX7 (some .int)) {n : Nat} {S S' : St} {r : Int32} (h : fX7_readNumber_j103 n S = some (S', r)) : Wp G sdX (rmOf 1 21) 7 (Qm G sdX (some (.int r)) S') S 103 [] [] := by
  unfold fX7_readNumber_j103 at h
  refine wp_iconst (v := 0) (pc := 103) C dX7_readNumber_103 (by decide) ?_
  exact (wX7_readNumber_j104 C h)
def fX7_readNumber_j67 (n : Nat) (S : St) (x2 : Int32) (x3 : Int32) (x4 : Int64) : Option (St × Int32) :=
  gd (ib x2 1701) (
  bn (sL S 156 (Int32.toNatClampNeg x2) x4) (fun S2 : St =>
  if 4 < ((S2.1 152 5) - x3) then
    fX7_readNumber_j103 n S2
  else
    bd (fX6_signAt n S2 (S2.1 152 5)) (fun S3 r4 =>
    bd (fX7_isLetter n S3 r4) (fun S5 r6 =>
    if r6 = 0 then
      fX7_readNumber_j104 n S5 1
    else
      fX7_readNumber_j103 n S5))))
set_option maxRecDepth 100000 in
set_option maxHeartbeats 4000000 in
theorem wX7_readNumber_j67 (C : Cx G sdX cX7_readNumber 7 RX7 (some .int)) {n : Nat} {S S' : St} {r : Int32} {x2 : Int32} {x3 : Int32} {x4 : Int64} (h : fX7_readNumber_j67 n S x2 x3 x4 = some (S', r)) : Wp G sdX (rmOf 1 21) 7 (Qm G sdX (some (.int r)) S') S 67 [(0, .ref (gA G 152)), (1, .ref (gA G 1)), (2, .int x2), (3, .int x3), (4, .long x4)] [] := by
  unfold fX7_readNumber_j67 at h
  refine wp_aload_n (pc := 67) C 0 dX7_readNumber_67 rfl rfl ?_
  refine wp_getS (v := 156) (pc := 68) C flX7_54 rfl rfl (Nat.le_of_ble_eq_true rfl) (Nat.le_of_ble_eq_true rfl) rfl dX7_readNumber_68 ?_
  refine wp_iload_n (pc := 71) C 2 dX7_readNumber_71 rfl rfl ?_
  refine wp_lload (pc := 72) C 4 dX7_readNumber_72 rfl ?_
  obtain ⟨g1, h⟩ := gd_some h
  obtain ⟨S2, eS2, h⟩ := bn_some h
  refine wp_last (pc := 74) C eS2 (Nat.le_of_ble_eq_true rfl) rfl g1 dX7_readNumber_74 ?_
  refine wp_aload_n (pc := 75) C 0 dX7_readNumber_75 rfl rfl ?_
  refine wp_getI (pc := 76) C flX7_75 rfl (Nat.le_of_ble_eq_true rfl) rfl dX7_readNumber_76 ?_
  refine wp_iload_n (pc := 79) C 3 dX7_readNumber_79 rfl rfl ?_
  refine wp_isub (pc := 80) C dX7_readNumber_80 ?_
  refine wp_iconst (v := 4) (pc := 81) C dX7_readNumber_81 (by decide) ?_
  refine wp_icmp_gt (pc := 82) C 103 dX7_readNumber_82 (by decide) (fun q => ?_) (fun q => ?_)
  · have h := it_pos q h
    exact wp_sub C [] rfl (wX7_readNumber_j103 C h)
  · have h := it_neg q h
    refine wp_aload_n (pc := 85) C 1 dX7_readNumber_85 rfl rfl ?_
    refine wp_aload_n (pc := 86) C 0 dX7_readNumber_86 rfl rfl ?_
    refine wp_getI (pc := 87) C flX7_75 rfl (Nat.le_of_ble_eq_true rfl) rfl dX7_readNumber_87 ?_
    obtain ⟨S3, r4, cS3, h⟩ := bd_some h
    refine wp_callVi (As := [.int (S2.1 152 5)]) (st := []) (pc := 90) C (CtX6_signAt cS3) mX6_signAt iX6_signAt kX7_82 (Nat.le_of_ble_eq_true rfl) rfl (by decide) rfl rfl rfl rfl (Nat.le_of_ble_eq_true rfl) ⟨Nat.le_of_ble_eq_true rfl, Nat.le_of_ble_eq_true rfl⟩ dX7_readNumber_90 ?_
    obtain ⟨S5, r6, cS5, h⟩ := bd_some h
    refine wp_callSi (As := [.int r4]) (st := []) (pc := 93) C (CtX7_isLetter cS5) mX7_isLetter sX7_isLetter kX7_94 rfl rfl (Nat.le_of_ble_eq_true rfl) ⟨Nat.le_of_ble_eq_true rfl, Nat.le_of_ble_eq_true rfl⟩ dX7_readNumber_93 ?_
    refine wp_if_ne (pc := 96) C 103 dX7_readNumber_96 (by decide) (fun q => ?_) (fun q => ?_)
    · have h := it_neg q h
      exact wp_sub C [] rfl (wX7_readNumber_j103 C h)
    · have h := it_pos q h
      refine wp_iconst (v := 1) (pc := 99) C dX7_readNumber_99 (by decide) ?_
      refine wp_goto (pc := 100) C 104 dX7_readNumber_100 (by decide) ?_
      exact wp_sub C [] rfl (wX7_readNumber_j104 C h)
def fX7_readNumber_l8 (n : Nat) : Nat → St → Int32 → Int32 → Int64 → Option (St × Int32)
  | 0, _, _, _, _ => none
  | j + 1, S, x2, x3, x4 =>
    if (S.1 1 1) ≤ (S.1 152 5) then
      fX7_readNumber_j67 n S x2 x3 x4
    else
      bd (fX6_signAt n S (S.1 152 5)) (fun S1 r2 =>
      bd (fX7_isDigit n S1 r2) (fun S3 r4 =>
      if r4 = 0 then
        fX7_readNumber_j67 n S3 x2 x3 x4
      else
        bd (fX6_signAt n S3 (S3.1 152 5)) (fun S5 r6 =>
        bn ((x4 * 10) + (((r6 - 48) : Int32).toInt64)) (fun z7 : Int64 =>
        bn (sI S5 152 5 ((S5.1 152 5) + 1)) (fun S8 : St =>
        fX7_readNumber_l8 n j S8 x2 x3 z7)))))
set_option maxRecDepth 100000 in
set_option maxHeartbeats 4000000 in
theorem wX7_readNumber_l8 (C : Cx G sdX cX7_readNumber 7 RX7 (some .int)) {n : Nat} {S' : St} {r : Int32} : ∀ (j : Nat) (S : St) (x2 : Int32) (x3 : Int32) (x4 : Int64), fX7_readNumber_l8 n j S x2 x3 x4 = some (S', r) → Wp G sdX (rmOf 1 21) 7 (Qm G sdX (some (.int r)) S') S 8 [(0, .ref (gA G 152)), (1, .ref (gA G 1)), (2, .int x2), (3, .int x3), (4, .long x4)] [] := by
  intro j
  induction j with
  | zero =>
    intro S x2 x3 x4 h
    exact nomatch (show (none : Option (St × Int32)) = some _ from h)
  | succ j ih =>
    intro S x2 x3 x4 h
    rw [fX7_readNumber_l8] at h
    refine wp_aload_n (pc := 8) C 0 dX7_readNumber_8 rfl rfl ?_
    refine wp_getI (pc := 9) C flX7_75 rfl (Nat.le_of_ble_eq_true rfl) rfl dX7_readNumber_9 ?_
    refine wp_aload_n (pc := 12) C 1 dX7_readNumber_12 rfl rfl ?_
    refine wp_getI (pc := 13) C flX7_78 rfl (Nat.le_of_ble_eq_true rfl) rfl dX7_readNumber_13 ?_
    refine wp_icmp_ge (pc := 16) C 67 dX7_readNumber_16 (by decide) (fun q => ?_) (fun q => ?_)
    · have h := it_pos q h
      exact (wX7_readNumber_j67 C h)
    · have h := it_neg q h
      refine wp_aload_n (pc := 19) C 1 dX7_readNumber_19 rfl rfl ?_
      refine wp_aload_n (pc := 20) C 0 dX7_readNumber_20 rfl rfl ?_
      refine wp_getI (pc := 21) C flX7_75 rfl (Nat.le_of_ble_eq_true rfl) rfl dX7_readNumber_21 ?_
      obtain ⟨S1, r2, cS1, h⟩ := bd_some h
      refine wp_callVi (As := [.int (S.1 152 5)]) (st := []) (pc := 24) C (CtX6_signAt cS1) mX6_signAt iX6_signAt kX7_82 (Nat.le_of_ble_eq_true rfl) rfl (by decide) rfl rfl rfl rfl (Nat.le_of_ble_eq_true rfl) ⟨Nat.le_of_ble_eq_true rfl, Nat.le_of_ble_eq_true rfl⟩ dX7_readNumber_24 ?_
      obtain ⟨S3, r4, cS3, h⟩ := bd_some h
      refine wp_callSi (As := [.int r2]) (st := []) (pc := 27) C (CtX7_isDigit cS3) mX7_isDigit sX7_isDigit kX7_100 rfl rfl (Nat.le_of_ble_eq_true rfl) ⟨Nat.le_of_ble_eq_true rfl, Nat.le_of_ble_eq_true rfl⟩ dX7_readNumber_27 ?_
      refine wp_if_eq (pc := 30) C 67 dX7_readNumber_30 (by decide) (fun q => ?_) (fun q => ?_)
      · have h := it_pos q h
        exact (wX7_readNumber_j67 C h)
      · have h := it_neg q h
        refine wp_lload (pc := 33) C 4 dX7_readNumber_33 rfl ?_
        refine wp_ldc2 (pc := 35) C qX7_110 dX7_readNumber_35 ?_
        refine wp_lmul (pc := 38) C dX7_readNumber_38 ?_
        refine wp_aload_n (pc := 39) C 1 dX7_readNumber_39 rfl rfl ?_
        refine wp_aload_n (pc := 40) C 0 dX7_readNumber_40 rfl rfl ?_
        refine wp_getI (pc := 41) C flX7_75 rfl (Nat.le_of_ble_eq_true rfl) rfl dX7_readNumber_41 ?_
        obtain ⟨S5, r6, cS5, h⟩ := bd_some h
        refine wp_callVi (As := [.int (S3.1 152 5)]) (st := [.long (x4 * 10)]) (pc := 44) C (CtX6_signAt cS5) mX6_signAt iX6_signAt kX7_82 (Nat.le_of_ble_eq_true rfl) rfl (by decide) rfl rfl rfl rfl (Nat.le_of_ble_eq_true rfl) ⟨Nat.le_of_ble_eq_true rfl, Nat.le_of_ble_eq_true rfl⟩ dX7_readNumber_44 ?_
        refine wp_bipush (v := 48) (pc := 47) C dX7_readNumber_47 (by decide) ?_
        refine wp_isub (pc := 49) C dX7_readNumber_49 ?_
        refine wp_i2l (pc := 50) C dX7_readNumber_50 ?_
        refine wp_ladd (pc := 51) C dX7_readNumber_51 ?_
        obtain ⟨z7, ez7, h⟩ := bn_some h
        refine wp_lstore (pc := 52) C ez7 [(4, .long z7), (0, .ref (gA G 152)), (1, .ref (gA G 1)), (2, .int x2), (3, .int x3)] dX7_readNumber_52 (Nat.le_of_ble_eq_true rfl) rfl ?_
        refine wp_aload_n (pc := 54) C 1 dX7_readNumber_54 rfl rfl ?_
        refine wp_dup (pc := 55) C dX7_readNumber_55 rfl ?_
        refine wp_getI (pc := 56) C flX7_75 rfl (Nat.le_of_ble_eq_true rfl) rfl dX7_readNumber_56 ?_
        refine wp_iconst (v := 1) (pc := 59) C dX7_readNumber_59 (by decide) ?_
        refine wp_iadd (pc := 60) C dX7_readNumber_60 ?_
        obtain ⟨S8, eS8, h⟩ := bn_some h
        refine wp_putI (pc := 61) C eS8 flX7_75 fpX7_5 rfl (Nat.le_of_ble_eq_true rfl) rfl dX7_readNumber_61 ?_
        refine wp_goto (pc := 64) C 8 dX7_readNumber_64 (by decide) ?_
        exact wp_sub C [1, 2, 3, 4, 0] rfl (ih _ _ _ _ h)
def fX7_readNumber (n : Nat) (S : St) (x2 : Int32) : Option (St × Int32) :=
  bn (S.1 152 5) (fun z1 : Int32 =>
  fX7_readNumber_l8 n n S x2 z1 0)
set_option maxRecDepth 100000 in
set_option maxHeartbeats 4000000 in
theorem wX7_readNumber (C : Cx G sdX cX7_readNumber 7 RX7 (some .int)) {n : Nat} {S S' : St} {r : Int32} {x2 : Int32} (h : fX7_readNumber n S x2 = some (S', r)) : Wp G sdX (rmOf 1 21) 7 (Qm G sdX (some (.int r)) S') S 0 [(0, .ref (gA G 152)), (1, .ref (gA G 1)), (2, .int x2)] [] := by
  unfold fX7_readNumber at h
  refine wp_aload_n (pc := 0) C 0 dX7_readNumber_0 rfl rfl ?_
  refine wp_getI (pc := 1) C flX7_75 rfl (Nat.le_of_ble_eq_true rfl) rfl dX7_readNumber_1 ?_
  obtain ⟨z1, ez1, h⟩ := bn_some h
  refine wp_istore_n (pc := 4) C ez1 [(3, .int z1), (0, .ref (gA G 152)), (1, .ref (gA G 1)), (2, .int x2)] dX7_readNumber_4 rfl (Nat.le_of_ble_eq_true rfl) rfl ?_
  refine wp_lconst (v := 0) (pc := 5) C dX7_readNumber_5 (by decide) ?_
  refine wp_lstore (pc := 6) C rfl [(4, .long 0), (3, .int z1), (0, .ref (gA G 152)), (1, .ref (gA G 1)), (2, .int x2)] dX7_readNumber_6 (Nat.le_of_ble_eq_true rfl) rfl ?_
  exact wp_sub C [2, 3, 4, 1, 0] rfl (wX7_readNumber_l8 C _ _ _ _ _ h)
theorem CtX7_readNumber {n : Nat} {S S' : St} {r : Int32} {x2 : Int32} (h : fX7_readNumber n S x2 = some (S', r)) : Ct l sdX cy ad D yX7_readNumber cX7_readNumber 7 (some .int) 1 21 [.ref (ad 152), .ref (ad 1), .int x2] S (some (.int r)) S' :=
  Ct_of (own := RX7) mX7_readNumber rfl (Nat.le_of_ble_eq_true rfl) (fun G e1 e2 e3 e4 C => by subst e1 e2 e3 e4; exact wX7_readNumber C h)
def fX7_addLetter (n : Nat) (S : St) (x0 : Int64) (x2 : Int32) : Option (St × Int64) :=
  some (S, (x0 <<< ((5 : Int32).toInt64 &&& 63)) ||| ((((x2 - 97) + 1) : Int32).toInt64))
set_option maxRecDepth 100000 in
set_option maxHeartbeats 4000000 in
theorem wX7_addLetter (C : Cx G sdX cX7_addLetter 3 RX7 (some .long)) {n : Nat} {S S' : St} {r : Int64} {x0 : Int64} {x2 : Int32} (h : fX7_addLetter n S x0 x2 = some (S', r)) : Wp G sdX (rmOf 0 0) 3 (Qm G sdX (some (.long r)) S') S 0 [(0, .long x0), (2, .int x2)] [] := by
  unfold fX7_addLetter at h
  refine wp_lload_n (pc := 0) C 0 dX7_addLetter_0 rfl rfl ?_
  refine wp_iconst (v := 5) (pc := 1) C dX7_addLetter_1 (by decide) ?_
  refine wp_lshl (pc := 2) C dX7_addLetter_2 ?_
  refine wp_iload_n (pc := 3) C 1 dX7_addLetter_3 rfl rfl ?_
  refine wp_bipush (v := 97) (pc := 4) C dX7_addLetter_4 (by decide) ?_
  refine wp_isub (pc := 6) C dX7_addLetter_6 ?_
  refine wp_iconst (v := 1) (pc := 7) C dX7_addLetter_7 (by decide) ?_
  refine wp_iadd (pc := 8) C dX7_addLetter_8 ?_
  refine wp_i2l (pc := 9) C dX7_addLetter_9 ?_
  refine wp_lor (pc := 10) C dX7_addLetter_10 ?_
  exact rt_l C rfl h dX7_addLetter_11
theorem CtX7_addLetter {n : Nat} {S S' : St} {r : Int64} {x0 : Int64} {x2 : Int32} (h : fX7_addLetter n S x0 x2 = some (S', r)) : Ct l sdX cy ad D yX7_addLetter cX7_addLetter 3 (some .long) 0 0 [.long x0, .int x2] S (some (.long r)) S' :=
  Ct_of (own := RX7) mX7_addLetter rfl (Nat.le_of_ble_eq_true rfl) (fun G e1 e2 e3 e4 C => by subst e1 e2 e3 e4; exact wX7_addLetter C h)
def fX7_kindOf_j22 (n : Nat) (S : St) (x3 : Int32) : Option (St × Int32) :=
  some (S, 5 + x3)
set_option maxRecDepth 100000 in
set_option maxHeartbeats 4000000 in
theorem wX7_kindOf_j22 (C : Cx G sdX cX7_kindOf 4 RX7 (some .int)) {n : Nat} {S S' : St} {r : Int32} {x3 : Int32} (h : fX7_kindOf_j22 n S x3 = some (S', r)) : Wp G sdX (rmOf 0 0) 4 (Qm G sdX (some (.int r)) S') S 22 [(3, .int x3)] [] := by
  unfold fX7_kindOf_j22 at h
  refine wp_iconst (v := 5) (pc := 22) C dX7_kindOf_22 (by decide) ?_
  refine wp_iload_n (pc := 23) C 0 dX7_kindOf_23 rfl rfl ?_
  refine wp_iadd (pc := 24) C dX7_kindOf_24 ?_
  exact rt_i C rfl h dX7_kindOf_25
def fX7_kindOf_l2 (n : Nat) : Nat → St → Int64 → Int32 → Option (St × Int32)
  | 0, _, _, _ => none
  | j + 1, S, x1, x3 =>
    if 14 ≤ x3 then
      some (S, 4)
    else
      gd (ib x3 14) (
      if (lg_cmp (S.2.1 153 (Int32.toNatClampNeg x3)) x1) = 0 then
        fX7_kindOf_j22 n S x3
      else
        bn (x3 + 1) (fun z2 : Int32 =>
        fX7_kindOf_l2 n j S x1 z2))
set_option maxRecDepth 100000 in
set_option maxHeartbeats 4000000 in
theorem wX7_kindOf_l2 (C : Cx G sdX cX7_kindOf 4 RX7 (some .int)) {n : Nat} {S' : St} {r : Int32} : ∀ (j : Nat) (S : St) (x1 : Int64) (x3 : Int32), fX7_kindOf_l2 n j S x1 x3 = some (S', r) → Wp G sdX (rmOf 0 0) 4 (Qm G sdX (some (.int r)) S') S 2 [(0, .ref (gA G 152)), (1, .long x1), (3, .int x3)] [] := by
  intro j
  induction j with
  | zero =>
    intro S x1 x3 h
    exact nomatch (show (none : Option (St × Int32)) = some _ from h)
  | succ j ih =>
    intro S x1 x3 h
    rw [fX7_kindOf_l2] at h
    refine wp_iload_n (pc := 2) C 2 dX7_kindOf_2 rfl rfl ?_
    refine wp_aload_n (pc := 3) C 0 dX7_kindOf_3 rfl rfl ?_
    refine wp_getS (v := 153) (pc := 4) C flX7_43 rfl rfl (Nat.le_of_ble_eq_true rfl) (Nat.le_of_ble_eq_true rfl) rfl dX7_kindOf_4 ?_
    refine wp_alen (t0 := 2) (v := 14) (pc := 7) C (Nat.le_of_ble_eq_true rfl) rfl (by decide) rfl rfl dX7_kindOf_7 ?_
    refine wp_icmp_ge (pc := 8) C 32 dX7_kindOf_8 (by decide) (fun q => ?_) (fun q => ?_)
    · have h := it_pos q h
      refine wp_iconst (v := 4) (pc := 32) C dX7_kindOf_32 (by decide) ?_
      exact rt_i C rfl h dX7_kindOf_33
    · have h := it_neg q h
      refine wp_aload_n (pc := 11) C 0 dX7_kindOf_11 rfl rfl ?_
      refine wp_getS (v := 153) (pc := 12) C flX7_43 rfl rfl (Nat.le_of_ble_eq_true rfl) (Nat.le_of_ble_eq_true rfl) rfl dX7_kindOf_12 ?_
      refine wp_iload_n (pc := 15) C 2 dX7_kindOf_15 rfl rfl ?_
      obtain ⟨g1, h⟩ := gd_some h
      refine wp_lald (pc := 16) C (Nat.le_of_ble_eq_true rfl) rfl g1 dX7_kindOf_16 ?_
      refine wp_lload_n (pc := 17) C 1 dX7_kindOf_17 rfl rfl ?_
      refine wp_lcmp (pc := 18) C dX7_kindOf_18 ?_
      refine wp_if_ne (pc := 19) C 26 dX7_kindOf_19 (by decide) (fun q => ?_) (fun q => ?_)
      · have h := it_neg q h
        obtain ⟨z2, ez2, h⟩ := bn_some h
        refine wp_iinc (q := 2) (pc := 26) C (by decide) ez2 [(3, .int z2), (0, .ref (gA G 152)), (1, .long x1)] dX7_kindOf_26 rfl (Nat.le_of_ble_eq_true rfl) rfl ?_
        refine wp_goto (pc := 29) C 2 dX7_kindOf_29 (by decide) ?_
        exact wp_sub C [1, 2, 0] rfl (ih _ _ _ h)
      · have h := it_pos q h
        exact wp_sub C [2] rfl (wX7_kindOf_j22 C h)
def fX7_kindOf (n : Nat) (S : St) (x1 : Int64) : Option (St × Int32) :=
  fX7_kindOf_l2 n n S x1 0
set_option maxRecDepth 100000 in
set_option maxHeartbeats 4000000 in
theorem wX7_kindOf (C : Cx G sdX cX7_kindOf 4 RX7 (some .int)) {n : Nat} {S S' : St} {r : Int32} {x1 : Int64} (h : fX7_kindOf n S x1 = some (S', r)) : Wp G sdX (rmOf 0 0) 4 (Qm G sdX (some (.int r)) S') S 0 [(0, .ref (gA G 152)), (1, .long x1)] [] := by
  unfold fX7_kindOf at h
  refine wp_iconst (v := 0) (pc := 0) C dX7_kindOf_0 (by decide) ?_
  refine wp_istore_n (pc := 1) C rfl [(3, .int 0), (0, .ref (gA G 152)), (1, .long x1)] dX7_kindOf_1 rfl (Nat.le_of_ble_eq_true rfl) rfl ?_
  exact wp_sub C [1, 2, 0] rfl (wX7_kindOf_l2 C _ _ _ _ h)
theorem CtX7_kindOf {n : Nat} {S S' : St} {r : Int32} {x1 : Int64} (h : fX7_kindOf n S x1 = some (S', r)) : Ct l sdX cy ad D yX7_kindOf cX7_kindOf 4 (some .int) 0 0 [.ref (ad 152), .long x1] S (some (.int r)) S' :=
  Ct_of (own := RX7) mX7_kindOf rfl (Nat.le_of_ble_eq_true rfl) (fun G e1 e2 e3 e4 C => by subst e1 e2 e3 e4; exact wX7_kindOf C h)
def fX7_readWord_j61 (n : Nat) (S : St) (x2 : Int32) (x3 : Int32) (x4 : Int64) : Option (St × Int32) :=
  gd (ib x2 1701) (
  bn (sL S 156 (Int32.toNatClampNeg x2) x4) (fun S2 : St =>
  if 8 < ((S2.1 152 5) - x3) then
    some (S2, 1)
  else
    bd (fX7_kindOf n S2 x4) (fun S3 r4 =>
    some (S3, r4))))
set_option maxRecDepth 100000 in
set_option maxHeartbeats 4000000 in
theorem wX7_readWord_j61 (C : Cx G sdX cX7_readWord 6 RX7 (some .int)) {n : Nat} {S S' : St} {r : Int32} {x2 : Int32} {x3 : Int32} {x4 : Int64} (h : fX7_readWord_j61 n S x2 x3 x4 = some (S', r)) : Wp G sdX (rmOf 1 23) 6 (Qm G sdX (some (.int r)) S') S 61 [(0, .ref (gA G 152)), (2, .int x2), (3, .int x3), (4, .long x4)] [] := by
  unfold fX7_readWord_j61 at h
  refine wp_aload_n (pc := 61) C 0 dX7_readWord_61 rfl rfl ?_
  refine wp_getS (v := 156) (pc := 62) C flX7_54 rfl rfl (Nat.le_of_ble_eq_true rfl) (Nat.le_of_ble_eq_true rfl) rfl dX7_readWord_62 ?_
  refine wp_iload_n (pc := 65) C 1 dX7_readWord_65 rfl rfl ?_
  refine wp_lload (pc := 66) C 3 dX7_readWord_66 rfl ?_
  obtain ⟨g1, h⟩ := gd_some h
  obtain ⟨S2, eS2, h⟩ := bn_some h
  refine wp_last (pc := 68) C eS2 (Nat.le_of_ble_eq_true rfl) rfl g1 dX7_readWord_68 ?_
  refine wp_aload_n (pc := 69) C 0 dX7_readWord_69 rfl rfl ?_
  refine wp_getI (pc := 70) C flX7_75 rfl (Nat.le_of_ble_eq_true rfl) rfl dX7_readWord_70 ?_
  refine wp_iload_n (pc := 73) C 2 dX7_readWord_73 rfl rfl ?_
  refine wp_isub (pc := 74) C dX7_readWord_74 ?_
  refine wp_bipush (v := 8) (pc := 75) C dX7_readWord_75 (by decide) ?_
  refine wp_icmp_gt (pc := 77) C 89 dX7_readWord_77 (by decide) (fun q => ?_) (fun q => ?_)
  · have h := it_pos q h
    refine wp_iconst (v := 1) (pc := 89) C dX7_readWord_89 (by decide) ?_
    exact rt_i C rfl h dX7_readWord_90
  · have h := it_neg q h
    refine wp_aload_n (pc := 80) C 0 dX7_readWord_80 rfl rfl ?_
    refine wp_lload (pc := 81) C 3 dX7_readWord_81 rfl ?_
    obtain ⟨S3, r4, cS3, h⟩ := bd_some h
    refine wp_callVi (As := [.long x4]) (st := []) (pc := 83) C (CtX7_kindOf cS3) mX7_kindOf iX7_kindOf kX7_106 (Nat.le_of_ble_eq_true rfl) rfl (by decide) rfl rfl rfl rfl (Nat.le_of_ble_eq_true rfl) ⟨Nat.le_of_ble_eq_true rfl, Nat.le_of_ble_eq_true rfl⟩ dX7_readWord_83 ?_
    refine wp_goto (pc := 86) C 90 dX7_readWord_86 (by decide) ?_
    exact rt_i C rfl h dX7_readWord_90
def fX7_readWord_l8 (n : Nat) : Nat → St → Int32 → Int32 → Int64 → Option (St × Int32)
  | 0, _, _, _, _ => none
  | j + 1, S, x2, x3, x4 =>
    if (S.1 1 1) ≤ (S.1 152 5) then
      fX7_readWord_j61 n S x2 x3 x4
    else
      bd (fX6_signAt n S (S.1 152 5)) (fun S1 r2 =>
      bd (fX7_isLetter n S1 r2) (fun S3 r4 =>
      if r4 = 0 then
        fX7_readWord_j61 n S3 x2 x3 x4
      else
        bd (fX6_signAt n S3 (S3.1 152 5)) (fun S5 r6 =>
        bd (fX7_addLetter n S5 x4 r6) (fun S7 r8 =>
        bn (sI S7 152 5 ((S7.1 152 5) + 1)) (fun S9 : St =>
        fX7_readWord_l8 n j S9 x2 x3 r8)))))
set_option maxRecDepth 100000 in
set_option maxHeartbeats 4000000 in
theorem wX7_readWord_l8 (C : Cx G sdX cX7_readWord 6 RX7 (some .int)) {n : Nat} {S' : St} {r : Int32} : ∀ (j : Nat) (S : St) (x2 : Int32) (x3 : Int32) (x4 : Int64), fX7_readWord_l8 n j S x2 x3 x4 = some (S', r) → Wp G sdX (rmOf 1 23) 6 (Qm G sdX (some (.int r)) S') S 8 [(0, .ref (gA G 152)), (1, .ref (gA G 1)), (2, .int x2), (3, .int x3), (4, .long x4)] [] := by
  intro j
  induction j with
  | zero =>
    intro S x2 x3 x4 h
    exact nomatch (show (none : Option (St × Int32)) = some _ from h)
  | succ j ih =>
    intro S x2 x3 x4 h
    rw [fX7_readWord_l8] at h
    refine wp_aload_n (pc := 8) C 0 dX7_readWord_8 rfl rfl ?_
    refine wp_getI (pc := 9) C flX7_75 rfl (Nat.le_of_ble_eq_true rfl) rfl dX7_readWord_9 ?_
    refine wp_aload_n (pc := 12) C 1 dX7_readWord_12 rfl rfl ?_
    refine wp_getI (pc := 13) C flX7_78 rfl (Nat.le_of_ble_eq_true rfl) rfl dX7_readWord_13 ?_
    refine wp_icmp_ge (pc := 16) C 61 dX7_readWord_16 (by decide) (fun q => ?_) (fun q => ?_)
    · have h := it_pos q h
      exact wp_sub C [0, 2, 3, 4] rfl (wX7_readWord_j61 C h)
    · have h := it_neg q h
      refine wp_aload_n (pc := 19) C 1 dX7_readWord_19 rfl rfl ?_
      refine wp_aload_n (pc := 20) C 0 dX7_readWord_20 rfl rfl ?_
      refine wp_getI (pc := 21) C flX7_75 rfl (Nat.le_of_ble_eq_true rfl) rfl dX7_readWord_21 ?_
      obtain ⟨S1, r2, cS1, h⟩ := bd_some h
      refine wp_callVi (As := [.int (S.1 152 5)]) (st := []) (pc := 24) C (CtX6_signAt cS1) mX6_signAt iX6_signAt kX7_82 (Nat.le_of_ble_eq_true rfl) rfl (by decide) rfl rfl rfl rfl (Nat.le_of_ble_eq_true rfl) ⟨Nat.le_of_ble_eq_true rfl, Nat.le_of_ble_eq_true rfl⟩ dX7_readWord_24 ?_
      obtain ⟨S3, r4, cS3, h⟩ := bd_some h
      refine wp_callSi (As := [.int r2]) (st := []) (pc := 27) C (CtX7_isLetter cS3) mX7_isLetter sX7_isLetter kX7_94 rfl rfl (Nat.le_of_ble_eq_true rfl) ⟨Nat.le_of_ble_eq_true rfl, Nat.le_of_ble_eq_true rfl⟩ dX7_readWord_27 ?_
      refine wp_if_eq (pc := 30) C 61 dX7_readWord_30 (by decide) (fun q => ?_) (fun q => ?_)
      · have h := it_pos q h
        exact wp_sub C [0, 2, 3, 4] rfl (wX7_readWord_j61 C h)
      · have h := it_neg q h
        refine wp_lload (pc := 33) C 4 dX7_readWord_33 rfl ?_
        refine wp_aload_n (pc := 35) C 1 dX7_readWord_35 rfl rfl ?_
        refine wp_aload_n (pc := 36) C 0 dX7_readWord_36 rfl rfl ?_
        refine wp_getI (pc := 37) C flX7_75 rfl (Nat.le_of_ble_eq_true rfl) rfl dX7_readWord_37 ?_
        obtain ⟨S5, r6, cS5, h⟩ := bd_some h
        refine wp_callVi (As := [.int (S3.1 152 5)]) (st := [.long x4]) (pc := 40) C (CtX6_signAt cS5) mX6_signAt iX6_signAt kX7_82 (Nat.le_of_ble_eq_true rfl) rfl (by decide) rfl rfl rfl rfl (Nat.le_of_ble_eq_true rfl) ⟨Nat.le_of_ble_eq_true rfl, Nat.le_of_ble_eq_true rfl⟩ dX7_readWord_40 ?_
        obtain ⟨S7, r8, cS7, h⟩ := bd_some h
        refine wp_callSl (As := [.long x4, .int r6]) (st := []) (pc := 43) C (CtX7_addLetter cS7) mX7_addLetter sX7_addLetter kX7_71 rfl rfl (Nat.le_of_ble_eq_true rfl) ⟨Nat.le_of_ble_eq_true rfl, Nat.le_of_ble_eq_true rfl⟩ dX7_readWord_43 ?_
        refine wp_lstore (pc := 46) C rfl [(4, .long r8), (0, .ref (gA G 152)), (1, .ref (gA G 1)), (2, .int x2), (3, .int x3)] dX7_readWord_46 (Nat.le_of_ble_eq_true rfl) rfl ?_
        refine wp_aload_n (pc := 48) C 1 dX7_readWord_48 rfl rfl ?_
        refine wp_dup (pc := 49) C dX7_readWord_49 rfl ?_
        refine wp_getI (pc := 50) C flX7_75 rfl (Nat.le_of_ble_eq_true rfl) rfl dX7_readWord_50 ?_
        refine wp_iconst (v := 1) (pc := 53) C dX7_readWord_53 (by decide) ?_
        refine wp_iadd (pc := 54) C dX7_readWord_54 ?_
        obtain ⟨S9, eS9, h⟩ := bn_some h
        refine wp_putI (pc := 55) C eS9 flX7_75 fpX7_5 rfl (Nat.le_of_ble_eq_true rfl) rfl dX7_readWord_55 ?_
        refine wp_goto (pc := 58) C 8 dX7_readWord_58 (by decide) ?_
        exact wp_sub C [1, 2, 3, 4, 0] rfl (ih _ _ _ _ h)
def fX7_readWord (n : Nat) (S : St) (x2 : Int32) : Option (St × Int32) :=
  bn (S.1 152 5) (fun z1 : Int32 =>
  fX7_readWord_l8 n n S x2 z1 0)
set_option maxRecDepth 100000 in
set_option maxHeartbeats 4000000 in
theorem wX7_readWord (C : Cx G sdX cX7_readWord 6 RX7 (some .int)) {n : Nat} {S S' : St} {r : Int32} {x2 : Int32} (h : fX7_readWord n S x2 = some (S', r)) : Wp G sdX (rmOf 1 23) 6 (Qm G sdX (some (.int r)) S') S 0 [(0, .ref (gA G 152)), (1, .ref (gA G 1)), (2, .int x2)] [] := by
  unfold fX7_readWord at h
  refine wp_aload_n (pc := 0) C 0 dX7_readWord_0 rfl rfl ?_
  refine wp_getI (pc := 1) C flX7_75 rfl (Nat.le_of_ble_eq_true rfl) rfl dX7_readWord_1 ?_
  obtain ⟨z1, ez1, h⟩ := bn_some h
  refine wp_istore_n (pc := 4) C ez1 [(3, .int z1), (0, .ref (gA G 152)), (1, .ref (gA G 1)), (2, .int x2)] dX7_readWord_4 rfl (Nat.le_of_ble_eq_true rfl) rfl ?_
  refine wp_lconst (v := 0) (pc := 5) C dX7_readWord_5 (by decide) ?_
  refine wp_lstore (pc := 6) C rfl [(4, .long 0), (3, .int z1), (0, .ref (gA G 152)), (1, .ref (gA G 1)), (2, .int x2)] dX7_readWord_6 (Nat.le_of_ble_eq_true rfl) rfl ?_
  exact wp_sub C [2, 3, 4, 1, 0] rfl (wX7_readWord_l8 C _ _ _ _ _ h)
theorem CtX7_readWord {n : Nat} {S S' : St} {r : Int32} {x2 : Int32} (h : fX7_readWord n S x2 = some (S', r)) : Ct l sdX cy ad D yX7_readWord cX7_readWord 6 (some .int) 1 23 [.ref (ad 152), .ref (ad 1), .int x2] S (some (.int r)) S' :=
  Ct_of (own := RX7) mX7_readWord rfl (Nat.le_of_ble_eq_true rfl) (fun G e1 e2 e3 e4 C => by subst e1 e2 e3 e4; exact wX7_readWord C h)
def fX7_readToken (n : Nat) (S : St) (x2 : Int32) : Option (St × Int32) :=
  bd (fX6_signAt n S (S.1 152 5)) (fun S1 r2 =>
  if (S1.1 152 5) < (S1.1 1 1) then
    bd (fX7_isLetter n S1 r2) (fun S3 r4 =>
    if r4 = 0 then
      bd (fX7_isDigit n S3 r2) (fun S5 r6 =>
      if r6 = 0 then
        bn (sI S5 152 5 ((S5.1 152 5) + 1)) (fun S7 : St =>
        if r2 = 59 then
          some (S7, 3)
        else
          some (S7, 1))
      else
        bd (fX7_readNumber n S5 x2) (fun S8 r9 =>
        some (S8, r9)))
    else
      bd (fX7_readWord n S3 x2) (fun S10 r11 =>
      some (S10, r11)))
  else
    some (S1, 0))
set_option maxRecDepth 100000 in
set_option maxHeartbeats 4000000 in
theorem wX7_readToken (C : Cx G sdX cX7_readToken 4 RX7 (some .int)) {n : Nat} {S S' : St} {r : Int32} {x2 : Int32} (h : fX7_readToken n S x2 = some (S', r)) : Wp G sdX (rmOf 2 48) 4 (Qm G sdX (some (.int r)) S') S 0 [(0, .ref (gA G 152)), (1, .ref (gA G 1)), (2, .int x2)] [] := by
  unfold fX7_readToken at h
  refine wp_aload_n (pc := 0) C 1 dX7_readToken_0 rfl rfl ?_
  refine wp_aload_n (pc := 1) C 0 dX7_readToken_1 rfl rfl ?_
  refine wp_getI (pc := 2) C flX7_75 rfl (Nat.le_of_ble_eq_true rfl) rfl dX7_readToken_2 ?_
  obtain ⟨S1, r2, cS1, h⟩ := bd_some h
  refine wp_callVi (As := [.int (S.1 152 5)]) (st := []) (pc := 5) C (CtX6_signAt cS1) mX6_signAt iX6_signAt kX7_82 (Nat.le_of_ble_eq_true rfl) rfl (by decide) rfl rfl rfl rfl (Nat.le_of_ble_eq_true rfl) ⟨Nat.le_of_ble_eq_true rfl, Nat.le_of_ble_eq_true rfl⟩ dX7_readToken_5 ?_
  refine wp_istore_n (pc := 8) C rfl [(3, .int r2), (0, .ref (gA G 152)), (1, .ref (gA G 1)), (2, .int x2)] dX7_readToken_8 rfl (Nat.le_of_ble_eq_true rfl) rfl ?_
  refine wp_aload_n (pc := 9) C 1 dX7_readToken_9 rfl rfl ?_
  refine wp_getI (pc := 10) C flX7_75 rfl (Nat.le_of_ble_eq_true rfl) rfl dX7_readToken_10 ?_
  refine wp_aload_n (pc := 13) C 2 dX7_readToken_13 rfl rfl ?_
  refine wp_getI (pc := 14) C flX7_78 rfl (Nat.le_of_ble_eq_true rfl) rfl dX7_readToken_14 ?_
  refine wp_icmp_lt (pc := 17) C 22 dX7_readToken_17 (by decide) (fun q => ?_) (fun q => ?_)
  · have h := it_pos q h
    refine wp_iload_n (pc := 22) C 0 dX7_readToken_22 rfl rfl ?_
    obtain ⟨S3, r4, cS3, h⟩ := bd_some h
    refine wp_callSi (As := [.int r2]) (st := []) (pc := 23) C (CtX7_isLetter cS3) mX7_isLetter sX7_isLetter kX7_94 rfl rfl (Nat.le_of_ble_eq_true rfl) ⟨Nat.le_of_ble_eq_true rfl, Nat.le_of_ble_eq_true rfl⟩ dX7_readToken_23 ?_
    refine wp_if_eq (pc := 26) C 36 dX7_readToken_26 (by decide) (fun q => ?_) (fun q => ?_)
    · have h := it_pos q h
      refine wp_iload_n (pc := 36) C 0 dX7_readToken_36 rfl rfl ?_
      obtain ⟨S5, r6, cS5, h⟩ := bd_some h
      refine wp_callSi (As := [.int r2]) (st := []) (pc := 37) C (CtX7_isDigit cS5) mX7_isDigit sX7_isDigit kX7_100 rfl rfl (Nat.le_of_ble_eq_true rfl) ⟨Nat.le_of_ble_eq_true rfl, Nat.le_of_ble_eq_true rfl⟩ dX7_readToken_37 ?_
      refine wp_if_eq (pc := 40) C 50 dX7_readToken_40 (by decide) (fun q => ?_) (fun q => ?_)
      · have h := it_pos q h
        refine wp_aload_n (pc := 50) C 1 dX7_readToken_50 rfl rfl ?_
        refine wp_dup (pc := 51) C dX7_readToken_51 rfl ?_
        refine wp_getI (pc := 52) C flX7_75 rfl (Nat.le_of_ble_eq_true rfl) rfl dX7_readToken_52 ?_
        refine wp_iconst (v := 1) (pc := 55) C dX7_readToken_55 (by decide) ?_
        refine wp_iadd (pc := 56) C dX7_readToken_56 ?_
        obtain ⟨S7, eS7, h⟩ := bn_some h
        refine wp_putI (pc := 57) C eS7 flX7_75 fpX7_5 rfl (Nat.le_of_ble_eq_true rfl) rfl dX7_readToken_57 ?_
        refine wp_iload_n (pc := 60) C 0 dX7_readToken_60 rfl rfl ?_
        refine wp_bipush (v := 59) (pc := 61) C dX7_readToken_61 (by decide) ?_
        refine wp_icmp_ne (pc := 63) C 70 dX7_readToken_63 (by decide) (fun q => ?_) (fun q => ?_)
        · have h := it_neg q h
          refine wp_iconst (v := 1) (pc := 70) C dX7_readToken_70 (by decide) ?_
          exact rt_i C rfl h dX7_readToken_71
        · have h := it_pos q h
          refine wp_iconst (v := 3) (pc := 66) C dX7_readToken_66 (by decide) ?_
          refine wp_goto (pc := 67) C 71 dX7_readToken_67 (by decide) ?_
          exact rt_i C rfl h dX7_readToken_71
      · have h := it_neg q h
        refine wp_aload_n (pc := 43) C 1 dX7_readToken_43 rfl rfl ?_
        refine wp_aload_n (pc := 44) C 2 dX7_readToken_44 rfl rfl ?_
        refine wp_iload_n (pc := 45) C 3 dX7_readToken_45 rfl rfl ?_
        obtain ⟨S8, r9, cS8, h⟩ := bd_some h
        refine wp_callVi (As := [.ref (gA G 1), .int x2]) (st := []) (pc := 46) C (CtX7_readNumber cS8) mX7_readNumber iX7_readNumber kX7_103 (Nat.le_of_ble_eq_true rfl) rfl (by decide) rfl rfl rfl rfl (Nat.le_of_ble_eq_true rfl) ⟨Nat.le_of_ble_eq_true rfl, Nat.le_of_ble_eq_true rfl⟩ dX7_readToken_46 ?_
        exact rt_i C rfl h dX7_readToken_49
    · have h := it_neg q h
      refine wp_aload_n (pc := 29) C 1 dX7_readToken_29 rfl rfl ?_
      refine wp_aload_n (pc := 30) C 2 dX7_readToken_30 rfl rfl ?_
      refine wp_iload_n (pc := 31) C 3 dX7_readToken_31 rfl rfl ?_
      obtain ⟨S10, r11, cS10, h⟩ := bd_some h
      refine wp_callVi (As := [.ref (gA G 1), .int x2]) (st := []) (pc := 32) C (CtX7_readWord cS10) mX7_readWord iX7_readWord kX7_97 (Nat.le_of_ble_eq_true rfl) rfl (by decide) rfl rfl rfl rfl (Nat.le_of_ble_eq_true rfl) ⟨Nat.le_of_ble_eq_true rfl, Nat.le_of_ble_eq_true rfl⟩ dX7_readToken_32 ?_
      exact rt_i C rfl h dX7_readToken_35
  · have h := it_neg q h
    refine wp_iconst (v := 0) (pc := 20) C dX7_readToken_20 (by decide) ?_
    exact rt_i C rfl h dX7_readToken_21
theorem CtX7_readToken {n : Nat} {S S' : St} {r : Int32} {x2 : Int32} (h : fX7_readToken n S x2 = some (S', r)) : Ct l sdX cy ad D yX7_readToken cX7_readToken 4 (some .int) 2 48 [.ref (ad 152), .ref (ad 1), .int x2] S (some (.int r)) S' :=
  Ct_of (own := RX7) mX7_readToken rfl (Nat.le_of_ble_eq_true rfl) (fun G e1 e2 e3 e4 C => by subst e1 e2 e3 e4; exact wX7_readToken C h)
def fX7_scan_j68 (n : Nat) (k14 : St → Int32 → Int32 → Option (St × Unit)) (S : St) (x3 : Int32) : Option (St × Unit) :=
  gd (ib x3 1701) (
  bn (sI S 155 (Int32.toNatClampNeg x3) (S.1 152 5)) (fun S2 : St =>
  bd (fX7_readToken n S2 x3) (fun S3 r4 =>
  gd (ib x3 1701) (
  bn (sI S3 154 (Int32.toNatClampNeg x3) r4) (fun S6 : St =>
  bn (sI S6 152 4 ((S6.1 152 4) + 1)) (fun S7 : St =>
  bn (x3 + 1) (fun z8 : Int32 =>
  k14 S7 r4 z8)))))))
set_option maxRecDepth 100000 in
set_option maxHeartbeats 4000000 in
theorem wX7_scan_j68 (C : Cx G sdX cX7_scan 4 RX7 none) {n : Nat} {k14 : St → Int32 → Int32 → Option (St × Unit)} {S S' : St} {r : Unit} {x3 : Int32} (hk14 : ∀ (S : St) (x2 : Int32) (x3 : Int32), k14 S x2 x3 = some (S', r) → Wp G sdX (rmOf 3 71) 4 (Qm G sdX none S') S 14 [(0, .ref (gA G 152)), (1, .ref (gA G 1)), (2, .int x2), (3, .int x3)] []) (h : fX7_scan_j68 n k14 S x3 = some (S', r)) : Wp G sdX (rmOf 3 71) 4 (Qm G sdX none S') S 68 [(0, .ref (gA G 152)), (1, .ref (gA G 1)), (3, .int x3)] [] := by
  unfold fX7_scan_j68 at h
  refine wp_aload_n (pc := 68) C 0 dX7_scan_68 rfl rfl ?_
  refine wp_getS (v := 155) (pc := 69) C flX7_51 rfl rfl (Nat.le_of_ble_eq_true rfl) (Nat.le_of_ble_eq_true rfl) rfl dX7_scan_69 ?_
  refine wp_iload_n (pc := 72) C 2 dX7_scan_72 rfl rfl ?_
  refine wp_aload_n (pc := 73) C 0 dX7_scan_73 rfl rfl ?_
  refine wp_getI (pc := 74) C flX7_75 rfl (Nat.le_of_ble_eq_true rfl) rfl dX7_scan_74 ?_
  obtain ⟨g1, h⟩ := gd_some h
  obtain ⟨S2, eS2, h⟩ := bn_some h
  refine wp_iast (pc := 77) C eS2 (Nat.le_of_ble_eq_true rfl) rfl g1 dX7_scan_77 ?_
  refine wp_aload_n (pc := 78) C 0 dX7_scan_78 rfl rfl ?_
  refine wp_aload_n (pc := 79) C 1 dX7_scan_79 rfl rfl ?_
  refine wp_iload_n (pc := 80) C 2 dX7_scan_80 rfl rfl ?_
  obtain ⟨S3, r4, cS3, h⟩ := bd_some h
  refine wp_callVi (As := [.ref (gA G 1), .int x3]) (st := []) (pc := 81) C (CtX7_readToken cS3) mX7_readToken iX7_readToken kX7_90 (Nat.le_of_ble_eq_true rfl) rfl (by decide) rfl rfl rfl rfl (Nat.le_of_ble_eq_true rfl) ⟨Nat.le_of_ble_eq_true rfl, Nat.le_of_ble_eq_true rfl⟩ dX7_scan_81 ?_
  refine wp_istore_n (pc := 84) C rfl [(2, .int r4), (0, .ref (gA G 152)), (1, .ref (gA G 1)), (3, .int x3)] dX7_scan_84 rfl (Nat.le_of_ble_eq_true rfl) rfl ?_
  refine wp_aload_n (pc := 85) C 1 dX7_scan_85 rfl rfl ?_
  refine wp_getS (v := 154) (pc := 86) C flX7_47 rfl rfl (Nat.le_of_ble_eq_true rfl) (Nat.le_of_ble_eq_true rfl) rfl dX7_scan_86 ?_
  refine wp_iload_n (pc := 89) C 3 dX7_scan_89 rfl rfl ?_
  refine wp_iload_n (pc := 90) C 0 dX7_scan_90 rfl rfl ?_
  obtain ⟨g5, h⟩ := gd_some h
  obtain ⟨S6, eS6, h⟩ := bn_some h
  refine wp_iast (pc := 91) C eS6 (Nat.le_of_ble_eq_true rfl) rfl g5 dX7_scan_91 ?_
  refine wp_aload_n (pc := 92) C 1 dX7_scan_92 rfl rfl ?_
  refine wp_dup (pc := 93) C dX7_scan_93 rfl ?_
  refine wp_getI (pc := 94) C flX7_57 rfl (Nat.le_of_ble_eq_true rfl) rfl dX7_scan_94 ?_
  refine wp_iconst (v := 1) (pc := 97) C dX7_scan_97 (by decide) ?_
  refine wp_iadd (pc := 98) C dX7_scan_98 ?_
  obtain ⟨S7, eS7, h⟩ := bn_some h
  refine wp_putI (pc := 99) C eS7 flX7_57 fpX7_4 rfl (Nat.le_of_ble_eq_true rfl) rfl dX7_scan_99 ?_
  obtain ⟨z8, ez8, h⟩ := bn_some h
  refine wp_iinc (q := 3) (pc := 102) C (by decide) ez8 [(3, .int z8), (2, .int r4), (0, .ref (gA G 152)), (1, .ref (gA G 1))] dX7_scan_102 rfl (Nat.le_of_ble_eq_true rfl) rfl ?_
  refine wp_goto (pc := 105) C 14 dX7_scan_105 (by decide) ?_
  exact wp_sub C [2, 3, 1, 0] rfl (hk14 _ _ _ h)
def fX7_scan_l30 (n : Nat) (k14 : St → Int32 → Int32 → Option (St × Unit)) : Nat → St → Int32 → Option (St × Unit)
  | 0, _, _ => none
  | j + 1, S, x3 =>
    if (S.1 1 1) ≤ (S.1 152 5) then
      fX7_scan_j68 n k14 S x3
    else
      bd (fX6_signAt n S (S.1 152 5)) (fun S1 r2 =>
      bd (fX7_isBlank n S1 r2) (fun S3 r4 =>
      if r4 = 0 then
        fX7_scan_j68 n k14 S3 x3
      else
        bn (sI S3 152 5 ((S3.1 152 5) + 1)) (fun S5 : St =>
        fX7_scan_l30 n k14 j S5 x3)))
set_option maxRecDepth 100000 in
set_option maxHeartbeats 4000000 in
theorem wX7_scan_l30 (C : Cx G sdX cX7_scan 4 RX7 none) {n : Nat} {k14 : St → Int32 → Int32 → Option (St × Unit)} {S' : St} {r : Unit} (hk14 : ∀ (S : St) (x2 : Int32) (x3 : Int32), k14 S x2 x3 = some (S', r) → Wp G sdX (rmOf 3 71) 4 (Qm G sdX none S') S 14 [(0, .ref (gA G 152)), (1, .ref (gA G 1)), (2, .int x2), (3, .int x3)] []) : ∀ (j : Nat) (S : St) (x3 : Int32), fX7_scan_l30 n k14 j S x3 = some (S', r) → Wp G sdX (rmOf 3 71) 4 (Qm G sdX none S') S 30 [(0, .ref (gA G 152)), (1, .ref (gA G 1)), (3, .int x3)] [] := by
  intro j
  induction j with
  | zero =>
    intro S x3 h
    exact nomatch (show (none : Option (St × Unit)) = some _ from h)
  | succ j ih =>
    intro S x3 h
    rw [fX7_scan_l30] at h
    refine wp_aload_n (pc := 30) C 0 dX7_scan_30 rfl rfl ?_
    refine wp_getI (pc := 31) C flX7_75 rfl (Nat.le_of_ble_eq_true rfl) rfl dX7_scan_31 ?_
    refine wp_aload_n (pc := 34) C 1 dX7_scan_34 rfl rfl ?_
    refine wp_getI (pc := 35) C flX7_78 rfl (Nat.le_of_ble_eq_true rfl) rfl dX7_scan_35 ?_
    refine wp_icmp_ge (pc := 38) C 68 dX7_scan_38 (by decide) (fun q => ?_) (fun q => ?_)
    · have h := it_pos q h
      exact (wX7_scan_j68 C hk14 h)
    · have h := it_neg q h
      refine wp_aload_n (pc := 41) C 1 dX7_scan_41 rfl rfl ?_
      refine wp_aload_n (pc := 42) C 0 dX7_scan_42 rfl rfl ?_
      refine wp_getI (pc := 43) C flX7_75 rfl (Nat.le_of_ble_eq_true rfl) rfl dX7_scan_43 ?_
      obtain ⟨S1, r2, cS1, h⟩ := bd_some h
      refine wp_callVi (As := [.int (S.1 152 5)]) (st := []) (pc := 46) C (CtX6_signAt cS1) mX6_signAt iX6_signAt kX7_82 (Nat.le_of_ble_eq_true rfl) rfl (by decide) rfl rfl rfl rfl (Nat.le_of_ble_eq_true rfl) ⟨Nat.le_of_ble_eq_true rfl, Nat.le_of_ble_eq_true rfl⟩ dX7_scan_46 ?_
      obtain ⟨S3, r4, cS3, h⟩ := bd_some h
      refine wp_callSi (As := [.int r2]) (st := []) (pc := 49) C (CtX7_isBlank cS3) mX7_isBlank sX7_isBlank kX7_86 rfl rfl (Nat.le_of_ble_eq_true rfl) ⟨Nat.le_of_ble_eq_true rfl, Nat.le_of_ble_eq_true rfl⟩ dX7_scan_49 ?_
      refine wp_if_eq (pc := 52) C 68 dX7_scan_52 (by decide) (fun q => ?_) (fun q => ?_)
      · have h := it_pos q h
        exact (wX7_scan_j68 C hk14 h)
      · have h := it_neg q h
        refine wp_aload_n (pc := 55) C 0 dX7_scan_55 rfl rfl ?_
        refine wp_dup (pc := 56) C dX7_scan_56 rfl ?_
        refine wp_getI (pc := 57) C flX7_75 rfl (Nat.le_of_ble_eq_true rfl) rfl dX7_scan_57 ?_
        refine wp_iconst (v := 1) (pc := 60) C dX7_scan_60 (by decide) ?_
        refine wp_iadd (pc := 61) C dX7_scan_61 ?_
        obtain ⟨S5, eS5, h⟩ := bn_some h
        refine wp_putI (pc := 62) C eS5 flX7_75 fpX7_5 rfl (Nat.le_of_ble_eq_true rfl) rfl dX7_scan_62 ?_
        refine wp_goto (pc := 65) C 30 dX7_scan_65 (by decide) ?_
        exact (ih _ _ h)
def fX7_scan_l14 (n : Nat) : Nat → St → Int32 → Int32 → Option (St × Unit)
  | 0, _, _, _ => none
  | j + 1, S, x2, x3 =>
    if 1701 ≤ x3 then
      some (S, ())
    else
      if x2 = 0 then
        some (S, ())
      else
        if x2 = 1 then
          some (S, ())
        else
          fX7_scan_l30 n (fX7_scan_l14 n j) n S x3
set_option maxRecDepth 100000 in
set_option maxHeartbeats 4000000 in
theorem wX7_scan_l14 (C : Cx G sdX cX7_scan 4 RX7 none) {n : Nat} {S' : St} {r : Unit} : ∀ (j : Nat) (S : St) (x2 : Int32) (x3 : Int32), fX7_scan_l14 n j S x2 x3 = some (S', r) → Wp G sdX (rmOf 3 71) 4 (Qm G sdX none S') S 14 [(0, .ref (gA G 152)), (1, .ref (gA G 1)), (2, .int x2), (3, .int x3)] [] := by
  intro j
  induction j with
  | zero =>
    intro S x2 x3 h
    exact nomatch (show (none : Option (St × Unit)) = some _ from h)
  | succ j ih =>
    intro S x2 x3 h
    rw [fX7_scan_l14] at h
    refine wp_iload_n (pc := 14) C 3 dX7_scan_14 rfl rfl ?_
    refine wp_sipush (v := 1701) (pc := 15) C dX7_scan_15 (by decide) ?_
    refine wp_icmp_ge (pc := 18) C 108 dX7_scan_18 (by decide) (fun q => ?_) (fun q => ?_)
    · have h := it_pos q h
      exact rt_v C rfl h dX7_scan_108
    · have h := it_neg q h
      refine wp_iload_n (pc := 21) C 2 dX7_scan_21 rfl rfl ?_
      refine wp_if_eq (pc := 22) C 108 dX7_scan_22 (by decide) (fun q => ?_) (fun q => ?_)
      · have h := it_pos q h
        exact rt_v C rfl h dX7_scan_108
      · have h := it_neg q h
        refine wp_iload_n (pc := 25) C 2 dX7_scan_25 rfl rfl ?_
        refine wp_iconst (v := 1) (pc := 26) C dX7_scan_26 (by decide) ?_
        refine wp_icmp_eq (pc := 27) C 108 dX7_scan_27 (by decide) (fun q => ?_) (fun q => ?_)
        · have h := it_pos q h
          exact rt_v C rfl h dX7_scan_108
        · have h := it_neg q h
          exact wp_sub C [0, 1, 3] rfl (wX7_scan_l30 C ih _ _ _ h)
def fX7_scan (n : Nat) (S : St) : Option (St × Unit) :=
  bn (sI S 152 4 0) (fun S1 : St =>
  bn (sI S1 152 5 0) (fun S2 : St =>
  fX7_scan_l14 n n S2 3 0))
set_option maxRecDepth 100000 in
set_option maxHeartbeats 4000000 in
theorem wX7_scan (C : Cx G sdX cX7_scan 4 RX7 none) {n : Nat} {S S' : St} {r : Unit} (h : fX7_scan n S = some (S', r)) : Wp G sdX (rmOf 3 71) 4 (Qm G sdX none S') S 0 [(0, .ref (gA G 152)), (1, .ref (gA G 1))] [] := by
  unfold fX7_scan at h
  refine wp_aload_n (pc := 0) C 0 dX7_scan_0 rfl rfl ?_
  refine wp_iconst (v := 0) (pc := 1) C dX7_scan_1 (by decide) ?_
  obtain ⟨S1, eS1, h⟩ := bn_some h
  refine wp_putI (pc := 2) C eS1 flX7_57 fpX7_4 rfl (Nat.le_of_ble_eq_true rfl) rfl dX7_scan_2 ?_
  refine wp_aload_n (pc := 5) C 0 dX7_scan_5 rfl rfl ?_
  refine wp_iconst (v := 0) (pc := 6) C dX7_scan_6 (by decide) ?_
  obtain ⟨S2, eS2, h⟩ := bn_some h
  refine wp_putI (pc := 7) C eS2 flX7_75 fpX7_5 rfl (Nat.le_of_ble_eq_true rfl) rfl dX7_scan_7 ?_
  refine wp_iconst (v := 3) (pc := 10) C dX7_scan_10 (by decide) ?_
  refine wp_istore_n (pc := 11) C rfl [(2, .int 3), (0, .ref (gA G 152)), (1, .ref (gA G 1))] dX7_scan_11 rfl (Nat.le_of_ble_eq_true rfl) rfl ?_
  refine wp_iconst (v := 0) (pc := 12) C dX7_scan_12 (by decide) ?_
  refine wp_istore_n (pc := 13) C rfl [(3, .int 0), (2, .int 3), (0, .ref (gA G 152)), (1, .ref (gA G 1))] dX7_scan_13 rfl (Nat.le_of_ble_eq_true rfl) rfl ?_
  exact wp_sub C [2, 3, 1, 0] rfl (wX7_scan_l14 C _ _ _ _ h)
theorem CtX7_scan {n : Nat} {S S' : St} {r : Unit} (h : fX7_scan n S = some (S', r)) : Ct l sdX cy ad D yX7_scan cX7_scan 4 none 3 71 [.ref (ad 152), .ref (ad 1)] S none S' :=
  Ct_of (own := RX7) mX7_scan rfl (Nat.le_of_ble_eq_true rfl) (fun G e1 e2 e3 e4 C => by subst e1 e2 e3 e4; exact wX7_scan C h)
end
