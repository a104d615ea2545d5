section
variable {G : Gx} {l : Launch} {cy : Nat → ClassId} {ad : Nat → Nat} {D : va_G}
def fX11_readGood_j141 (n : Nat) (S : St) : Option (St × Unit) :=
  if (S.1 0 2) = 0 then
    gd (ib 4 5) (
    gd (ib 4 5) (
    bn (sI S 3 (Int32.toNatClampNeg 4) ((S.1 3 (Int32.toNatClampNeg 4)) + 1)) (fun S3 : St =>
    some (S3, ()))))
  else
    some (S, ())
set_option maxRecDepth 100000 in
set_option maxHeartbeats 4000000 in
theorem wX11_readGood_j141 (C : Cx G sdM cX11_readGood 6 RX11 none) {n : Nat} {S S' : St} {r : Unit} (h : fX11_readGood_j141 n S = some (S', r)) : Wp G sdM (rmOf 3 66) 6 (Qm G sdM none S') S 141 [(0, .ref (gA G 0))] [] := by
  unfold fX11_readGood_j141 at h
  refine wp_aload_n (pc := 141) C 0 dX11_readGood_141 rfl rfl ?_
  refine wp_getI (pc := 142) C flX11_204 rfl (Nat.le_of_ble_eq_true rfl) rfl dX11_readGood_142 ?_
  refine wp_if_ne (pc := 145) C 158 dX11_readGood_145 (by decide) (fun q => ?_) (fun q => ?_)
  · have h := it_neg q h
    exact rt_v C rfl h dX11_readGood_158
  · have h := it_pos q h
    refine wp_aload_n (pc := 148) C 0 dX11_readGood_148 rfl rfl ?_
    refine wp_getS (v := 3) (pc := 149) C flX11_21 rfl rfl (Nat.le_of_ble_eq_true rfl) (Nat.le_of_ble_eq_true rfl) rfl dX11_readGood_149 ?_
    refine wp_iconst (v := 4) (pc := 152) C dX11_readGood_152 (by decide) ?_
    refine wp_dup2_11 (pc := 153) C dX11_readGood_153 rfl rfl ?_
    obtain ⟨g1, h⟩ := gd_some h
    refine wp_iald (pc := 154) C (Nat.le_of_ble_eq_true rfl) rfl g1 dX11_readGood_154 ?_
    refine wp_iconst (v := 1) (pc := 155) C dX11_readGood_155 (by decide) ?_
    refine wp_iadd (pc := 156) C dX11_readGood_156 ?_
    obtain ⟨g2, h⟩ := gd_some h
    obtain ⟨S3, eS3, h⟩ := bn_some h
    refine wp_iast (pc := 157) C eS3 (Nat.le_of_ble_eq_true rfl) rfl g2 dX11_readGood_157 ?_
    exact rt_v C rfl h dX11_readGood_158
def fX11_readGood_l90 (n : Nat) : Nat → St → Int32 → Int32 → Int32 → Option (St × Unit)
  | 0, _, _, _, _ => none
  | j + 1, S, x1, x3, x4 =>
    gd (ib 0 5) (
    if (S.1 3 (Int32.toNatClampNeg 0)) ≤ x4 then
      fX11_readGood_j141 n S
    else
      if (S.1 0 2) = 0 then
        bd (fX11_toldNumber n S 0 x3) (fun S2 r3 =>
        gd (ib ((8 * x1) + x4) 64) (
        bn (sI S2 12 (Int32.toNatClampNeg ((8 * x1) + x4)) r3) (fun S5 : St =>
        bn (x3 - r3) (fun z6 : Int32 =>
        bn (x4 + 1) (fun z7 : Int32 =>
        fX11_readGood_l90 n j S5 x1 z6 z7)))))
      else
        fX11_readGood_j141 n S)
set_option maxRecDepth 100000 in
set_option maxHeartbeats 4000000 in
theorem wX11_readGood_l90 (C : Cx G sdM cX11_readGood 6 RX11 none) {n : Nat} {S' : St} {r : Unit} : ∀ (j : Nat) (S : St) (x1 : Int32) (x3 : Int32) (x4 : Int32), fX11_readGood_l90 n j S x1 x3 x4 = some (S', r) → Wp G sdM (rmOf 3 66) 6 (Qm G sdM none S') S 90 [(0, .ref (gA G 0)), (1, .int x1), (3, .int x3), (4, .int x4)] [] := by
  intro j
  induction j with
  | zero =>
    intro S x1 x3 x4 h
    exact nomatch (show (none : Option (St × Unit)) = some _ from h)
  | succ j ih =>
    intro S x1 x3 x4 h
    rw [fX11_readGood_l90] at h
    refine wp_iload (pc := 90) C 3 dX11_readGood_90 rfl ?_
    refine wp_aload_n (pc := 92) C 0 dX11_readGood_92 rfl rfl ?_
    refine wp_getS (v := 3) (pc := 93) C flX11_21 rfl rfl (Nat.le_of_ble_eq_true rfl) (Nat.le_of_ble_eq_true rfl) rfl dX11_readGood_93 ?_
    refine wp_iconst (v := 0) (pc := 96) C dX11_readGood_96 (by decide) ?_
    obtain ⟨g1, h⟩ := gd_some h
    refine wp_iald (pc := 97) C (Nat.le_of_ble_eq_true rfl) rfl g1 dX11_readGood_97 ?_
    refine wp_icmp_ge (pc := 98) C 141 dX11_readGood_98 (by decide) (fun q => ?_) (fun q => ?_)
    · have h := it_pos q h
      exact wp_sub C [0] rfl (wX11_readGood_j141 C h)
    · have h := it_neg q h
      refine wp_aload_n (pc := 101) C 0 dX11_readGood_101 rfl rfl ?_
      refine wp_getI (pc := 102) C flX11_204 rfl (Nat.le_of_ble_eq_true rfl) rfl dX11_readGood_102 ?_
      refine wp_if_ne (pc := 105) C 141 dX11_readGood_105 (by decide) (fun q => ?_) (fun q => ?_)
      · have h := it_neg q h
        exact wp_sub C [0] rfl (wX11_readGood_j141 C h)
      · have h := it_pos q h
        refine wp_aload_n (pc := 108) C 0 dX11_readGood_108 rfl rfl ?_
        refine wp_iconst (v := 0) (pc := 109) C dX11_readGood_109 (by decide) ?_
        refine wp_iload_n (pc := 110) C 2 dX11_readGood_110 rfl rfl ?_
        obtain ⟨S2, r3, cS2, h⟩ := bd_some h
        refine wp_callVi (As := [.int 0, .int x3]) (st := []) (pc := 111) C (CtX11_toldNumber cS2) mX11_toldNumber iX11_toldNumber kX11_249 (Nat.le_of_ble_eq_true rfl) rfl (by decide) rfl rfl rfl rfl (Nat.le_of_ble_eq_true rfl) ⟨Nat.le_of_ble_eq_true rfl, Nat.le_of_ble_eq_true rfl⟩ dX11_readGood_111 ?_
        refine wp_istore (pc := 114) C rfl [(5, .int r3), (0, .ref (gA G 0)), (1, .int x1), (3, .int x3), (4, .int x4)] dX11_readGood_114 (Nat.le_of_ble_eq_true rfl) rfl ?_
        refine wp_aload_n (pc := 116) C 1 dX11_readGood_116 rfl rfl ?_
        refine wp_getS (v := 12) (pc := 117) C flX11_48 rfl rfl (Nat.le_of_ble_eq_true rfl) (Nat.le_of_ble_eq_true rfl) rfl dX11_readGood_117 ?_
        refine wp_bipush (v := 8) (pc := 120) C dX11_readGood_120 (by decide) ?_
        refine wp_iload_n (pc := 122) C 2 dX11_readGood_122 rfl rfl ?_
        refine wp_imul (pc := 123) C dX11_readGood_123 ?_
        refine wp_iload (pc := 124) C 4 dX11_readGood_124 rfl ?_
        refine wp_iadd (pc := 126) C dX11_readGood_126 ?_
        refine wp_iload (pc := 127) C 0 dX11_readGood_127 rfl ?_
        obtain ⟨g4, h⟩ := gd_some h
        obtain ⟨S5, eS5, h⟩ := bn_some h
        refine wp_iast (pc := 129) C eS5 (Nat.le_of_ble_eq_true rfl) rfl g4 dX11_readGood_129 ?_
        refine wp_iload_n (pc := 130) C 3 dX11_readGood_130 rfl rfl ?_
        refine wp_iload (pc := 131) C 0 dX11_readGood_131 rfl ?_
        refine wp_isub (pc := 133) C dX11_readGood_133 ?_
        obtain ⟨z6, ez6, h⟩ := bn_some h
        refine wp_istore_n (pc := 134) C ez6 [(3, .int z6), (5, .int r3), (0, .ref (gA G 0)), (1, .int x1), (4, .int x4)] dX11_readGood_134 rfl (Nat.le_of_ble_eq_true rfl) rfl ?_
        obtain ⟨z7, ez7, h⟩ := bn_some h
        refine wp_iinc (q := 4) (pc := 135) C (by decide) ez7 [(4, .int z7), (3, .int z6), (5, .int r3), (0, .ref (gA G 0)), (1, .int x1)] dX11_readGood_135 rfl (Nat.le_of_ble_eq_true rfl) rfl ?_
        refine wp_goto (pc := 138) C 90 dX11_readGood_138 (by decide) ?_
        exact wp_sub C [3, 4, 1, 0] rfl (ih _ _ _ _ h)
def fX11_readGood_j68 (n : Nat) (S : St) (x1 : Int32) (x2 : Int32) : Option (St × Unit) :=
  gd (ib x1 8) (
  bn (sI S 11 (Int32.toNatClampNeg x1) x2) (fun S2 : St =>
  bd (fX11_want n S2 28518) (fun S3 r4 =>
  bn (S3.1 0 30) (fun z5 : Int32 =>
  fX11_readGood_l90 n n S3 x1 z5 0))))
set_option maxRecDepth 100000 in
set_option maxHeartbeats 4000000 in
theorem wX11_readGood_j68 (C : Cx G sdM cX11_readGood 6 RX11 none) {n : Nat} {S S' : St} {r : Unit} {x1 : Int32} {x2 : Int32} (h : fX11_readGood_j68 n S x1 x2 = some (S', r)) : Wp G sdM (rmOf 3 66) 6 (Qm G sdM none S') S 68 [(0, .ref (gA G 0)), (1, .int x1), (2, .int x2)] [] := by
  unfold fX11_readGood_j68 at h
  refine wp_aload_n (pc := 68) C 0 dX11_readGood_68 rfl rfl ?_
  refine wp_getS (v := 11) (pc := 69) C flX11_45 rfl rfl (Nat.le_of_ble_eq_true rfl) (Nat.le_of_ble_eq_true rfl) rfl dX11_readGood_69 ?_
  refine wp_iload_n (pc := 72) C 1 dX11_readGood_72 rfl rfl ?_
  refine wp_iload_n (pc := 73) C 2 dX11_readGood_73 rfl rfl ?_
  obtain ⟨g1, h⟩ := gd_some h
  obtain ⟨S2, eS2, h⟩ := bn_some h
  refine wp_iast (pc := 74) C eS2 (Nat.le_of_ble_eq_true rfl) rfl g1 dX11_readGood_74 ?_
  refine wp_aload_n (pc := 75) C 0 dX11_readGood_75 rfl rfl ?_
  refine wp_ldc2 (pc := 76) C qX11_215 dX11_readGood_76 ?_
  obtain ⟨S3, r4, cS3, h⟩ := bd_some h
  refine wp_callVv (As := [.long 28518]) (st := []) (pc := 79) C (CtX11_want cS3) mX11_want iX11_want kX11_245 (Nat.le_of_ble_eq_true rfl) rfl (by decide) rfl rfl rfl rfl (Nat.le_of_ble_eq_true rfl) ⟨Nat.le_of_ble_eq_true rfl, Nat.le_of_ble_eq_true rfl⟩ dX11_readGood_79 ?_
  refine wp_aload_n (pc := 82) C 0 dX11_readGood_82 rfl rfl ?_
  refine wp_getI (pc := 83) C flX11_274 rfl (Nat.le_of_ble_eq_true rfl) rfl dX11_readGood_83 ?_
  obtain ⟨z5, ez5, h⟩ := bn_some h
  refine wp_istore_n (pc := 86) C ez5 [(3, .int z5), (0, .ref (gA G 0)), (1, .int x1), (2, .int x2)] dX11_readGood_86 rfl (Nat.le_of_ble_eq_true rfl) rfl ?_
  refine wp_iconst (v := 0) (pc := 87) C dX11_readGood_87 (by decide) ?_
  refine wp_istore (pc := 88) C rfl [(4, .int 0), (3, .int z5), (0, .ref (gA G 0)), (1, .int x1), (2, .int x2)] dX11_readGood_88 (Nat.le_of_ble_eq_true rfl) rfl ?_
  exact wp_sub C [2, 3, 1, 0] rfl (wX11_readGood_l90 C _ _ _ _ _ h)
def fX11_readGood_j57 (n : Nat) (S : St) (x1 : Int32) (x2 : Int32) : Option (St × Unit) :=
  if (S.1 0 2) = 0 then
    bd (fX11_token n S) (fun S1 r2 =>
    fX11_readGood_j68 n S1 x1 x2)
  else
    fX11_readGood_j68 n S x1 x2
set_option maxRecDepth 100000 in
set_option maxHeartbeats 4000000 in
theorem wX11_readGood_j57 (C : Cx G sdM cX11_readGood 6 RX11 none) {n : Nat} {S S' : St} {r : Unit} {x1 : Int32} {x2 : Int32} (h : fX11_readGood_j57 n S x1 x2 = some (S', r)) : Wp G sdM (rmOf 3 66) 6 (Qm G sdM none S') S 57 [(0, .ref (gA G 0)), (1, .int x1), (2, .int x2)] [] := by
  unfold fX11_readGood_j57 at h
  refine wp_aload_n (pc := 57) C 0 dX11_readGood_57 rfl rfl ?_
  refine wp_getI (pc := 58) C flX11_204 rfl (Nat.le_of_ble_eq_true rfl) rfl dX11_readGood_58 ?_
  refine wp_if_ne (pc := 61) C 68 dX11_readGood_61 (by decide) (fun q => ?_) (fun q => ?_)
  · have h := it_neg q h
    exact (wX11_readGood_j68 C h)
  · have h := it_pos q h
    refine wp_aload_n (pc := 64) C 0 dX11_readGood_64 rfl rfl ?_
    obtain ⟨S1, r2, cS1, h⟩ := bd_some h
    refine wp_callVv (As := []) (st := []) (pc := 65) C (CtX11_token cS1) mX11_token iX11_token kX11_242 (Nat.le_of_ble_eq_true rfl) rfl (by decide) rfl rfl rfl rfl (Nat.le_of_ble_eq_true rfl) ⟨Nat.le_of_ble_eq_true rfl, Nat.le_of_ble_eq_true rfl⟩ dX11_readGood_65 ?_
    exact (wX11_readGood_j68 C h)
def fX11_readGood (n : Nat) (S : St) : Option (St × Unit) :=
  gd (ib 4 5) (
  bn (S.1 3 (Int32.toNatClampNeg 4)) (fun z2 : Int32 =>
  bd (fX11_readName n S 4) (fun S3 r4 =>
  bd (fX11_want n S3 28526) (fun S5 r6 =>
  if (S5.1 0 2) ≤ 0 then
    bd (fX11_find n S5 1) (fun S7 r8 =>
    bd (fX11_isName n S7) (fun S9 r10 =>
    if r10 = 0 then
      bd (fX11_wrong n S9 2) (fun S13 r14 =>
      fX11_readGood_j57 n S13 z2 r8)
    else
      if 0 ≤ r8 then
        fX11_readGood_j57 n S9 z2 r8
      else
        bd (fX11_wrong n S9 5) (fun S11 r12 =>
        fX11_readGood_j57 n S11 z2 r8)))
  else
    some (S5, ())))))
set_option maxRecDepth 100000 in
set_option maxHeartbeats 4000000 in
theorem wX11_readGood (C : Cx G sdM cX11_readGood 6 RX11 none) {n : Nat} {S S' : St} {r : Unit} (h : fX11_readGood n S = some (S', r)) : Wp G sdM (rmOf 3 66) 6 (Qm G sdM none S') S 0 [(0, .ref (gA G 0))] [] := by
  unfold fX11_readGood at h
  refine wp_aload_n (pc := 0) C 0 dX11_readGood_0 rfl rfl ?_
  refine wp_getS (v := 3) (pc := 1) C flX11_21 rfl rfl (Nat.le_of_ble_eq_true rfl) (Nat.le_of_ble_eq_true rfl) rfl dX11_readGood_1 ?_
  refine wp_iconst (v := 4) (pc := 4) C dX11_readGood_4 (by decide) ?_
  obtain ⟨g1, h⟩ := gd_some h
  refine wp_iald (pc := 5) C (Nat.le_of_ble_eq_true rfl) rfl g1 dX11_readGood_5 ?_
  obtain ⟨z2, ez2, h⟩ := bn_some h
  refine wp_istore_n (pc := 6) C ez2 [(1, .int z2), (0, .ref (gA G 0))] dX11_readGood_6 rfl (Nat.le_of_ble_eq_true rfl) rfl ?_
  refine wp_aload_n (pc := 7) C 1 dX11_readGood_7 rfl rfl ?_
  refine wp_iconst (v := 4) (pc := 8) C dX11_readGood_8 (by decide) ?_
  obtain ⟨S3, r4, cS3, h⟩ := bd_some h
  refine wp_callVv (As := [.int 4]) (st := []) (pc := 9) C (CtX11_readName cS3) mX11_readName iX11_readName kX11_263 (Nat.le_of_ble_eq_true rfl) rfl (by decide) rfl rfl rfl rfl (Nat.le_of_ble_eq_true rfl) ⟨Nat.le_of_ble_eq_true rfl, Nat.le_of_ble_eq_true rfl⟩ dX11_readGood_9 ?_
  refine wp_aload_n (pc := 12) C 1 dX11_readGood_12 rfl rfl ?_
  refine wp_ldc2 (pc := 13) C qX11_225 dX11_readGood_13 ?_
  obtain ⟨S5, r6, cS5, h⟩ := bd_some h
  refine wp_callVv (As := [.long 28526]) (st := []) (pc := 16) C (CtX11_want cS5) mX11_want iX11_want kX11_245 (Nat.le_of_ble_eq_true rfl) rfl (by decide) rfl rfl rfl rfl (Nat.le_of_ble_eq_true rfl) ⟨Nat.le_of_ble_eq_true rfl, Nat.le_of_ble_eq_true rfl⟩ dX11_readGood_16 ?_
  refine wp_aload_n (pc := 19) C 1 dX11_readGood_19 rfl rfl ?_
  refine wp_getI (pc := 20) C flX11_204 rfl (Nat.le_of_ble_eq_true rfl) rfl dX11_readGood_20 ?_
  refine wp_if_le (pc := 23) C 27 dX11_readGood_23 (by decide) (fun q => ?_) (fun q => ?_)
  · have h := it_pos q h
    refine wp_aload_n (pc := 27) C 1 dX11_readGood_27 rfl rfl ?_
    refine wp_iconst (v := 1) (pc := 28) C dX11_readGood_28 (by decide) ?_
    obtain ⟨S7, r8, cS7, h⟩ := bd_some h
    refine wp_callVi (As := [.int 1]) (st := []) (pc := 29) C (CtX11_find cS7) mX11_find iX11_find kX11_257 (Nat.le_of_ble_eq_true rfl) rfl (by decide) rfl rfl rfl rfl (Nat.le_of_ble_eq_true rfl) ⟨Nat.le_of_ble_eq_true rfl, Nat.le_of_ble_eq_true rfl⟩ dX11_readGood_29 ?_
    refine wp_istore_n (pc := 32) C rfl [(2, .int r8), (1, .int z2), (0, .ref (gA G 0))] dX11_readGood_32 rfl (Nat.le_of_ble_eq_true rfl) rfl ?_
    refine wp_aload_n (pc := 33) C 2 dX11_readGood_33 rfl rfl ?_
    obtain ⟨S9, r10, cS9, h⟩ := bd_some h
    refine wp_callVi (As := []) (st := []) (pc := 34) C (CtX11_isName cS9) mX11_isName iX11_isName kX11_253 (Nat.le_of_ble_eq_true rfl) rfl (by decide) rfl rfl rfl rfl (Nat.le_of_ble_eq_true rfl) ⟨Nat.le_of_ble_eq_true rfl, Nat.le_of_ble_eq_true rfl⟩ dX11_readGood_34 ?_
    refine wp_if_ne (pc := 37) C 48 dX11_readGood_37 (by decide) (fun q => ?_) (fun q => ?_)
    · have h := it_neg q h
      refine wp_iload_n (pc := 48) C 0 dX11_readGood_48 rfl rfl ?_
      refine wp_if_ge (pc := 49) C 57 dX11_readGood_49 (by decide) (fun q => ?_) (fun q => ?_)
      · have h := it_pos q h
        exact wp_sub C [2, 1, 0] rfl (wX11_readGood_j57 C h)
      · have h := it_neg q h
        refine wp_aload_n (pc := 52) C 2 dX11_readGood_52 rfl rfl ?_
        refine wp_iconst (v := 5) (pc := 53) C dX11_readGood_53 (by decide) ?_
        obtain ⟨S11, r12, cS11, h⟩ := bd_some h
        refine wp_callVv (As := [.int 5]) (st := []) (pc := 54) C (CtX11_wrong cS11) mX11_wrong iX11_wrong kX11_239 (Nat.le_of_ble_eq_true rfl) rfl (by decide) rfl rfl rfl rfl (Nat.le_of_ble_eq_true rfl) ⟨Nat.le_of_ble_eq_true rfl, Nat.le_of_ble_eq_true rfl⟩ dX11_readGood_54 ?_
        exact wp_sub C [2, 1, 0] rfl (wX11_readGood_j57 C h)
    · have h := it_pos q h
      refine wp_aload_n (pc := 40) C 2 dX11_readGood_40 rfl rfl ?_
      refine wp_iconst (v := 2) (pc := 41) C dX11_readGood_41 (by decide) ?_
      obtain ⟨S13, r14, cS13, h⟩ := bd_some h
      refine wp_callVv (As := [.int 2]) (st := []) (pc := 42) C (CtX11_wrong cS13) mX11_wrong iX11_wrong kX11_239 (Nat.le_of_ble_eq_true rfl) rfl (by decide) rfl rfl rfl rfl (Nat.le_of_ble_eq_true rfl) ⟨Nat.le_of_ble_eq_true rfl, Nat.le_of_ble_eq_true rfl⟩ dX11_readGood_42 ?_
      refine wp_goto (pc := 45) C 57 dX11_readGood_45 (by decide) ?_
      exact wp_sub C [2, 1, 0] rfl (wX11_readGood_j57 C h)
  · have h := it_neg q h
    exact rt_v C rfl h dX11_readGood_26
theorem CtX11_readGood {n : Nat} {S S' : St} {r : Unit} (h : fX11_readGood n S = some (S', r)) : Ct l sdM cy ad D yX11_readGood cX11_readGood 6 none 3 66 [.ref (ad 0)] S none S' :=
  Ct_of (own := RX11) mX11_readGood rfl (Nat.le_of_ble_eq_true rfl) (fun G e1 e2 e3 e4 C => by subst e1 e2 e3 e4; exact wX11_readGood C h)
def fX11_hasRows (n : Nat) (S : St) : Option (St × Int32) :=
  gd (ib 0 5) (
  gd (ib 1 5) (
  gd (ib 2 5) (
  gd (ib 3 5) (
  if ((((S.1 3 (Int32.toNatClampNeg 0)) + (S.1 3 (Int32.toNatClampNeg 1))) + (S.1 3 (Int32.toNatClampNeg 2))) + (S.1 3 (Int32.toNatClampNeg 3))) ≤ 0 then
    some (S, 0)
  else
    some (S, 1)))))
set_option maxRecDepth 100000 in
set_option maxHeartbeats 4000000 in
theorem wX11_hasRows (C : Cx G sdM cX11_hasRows 1 RX11 (some .boolean)) {n : Nat} {S S' : St} {r : Int32} (h : fX11_hasRows n S = some (S', r)) : Wp G sdM (rmOf 0 0) 1 (Qm G sdM (some (.int r)) S') S 0 [(0, .ref (gA G 0))] [] := by
  unfold fX11_hasRows at h
  refine wp_aload_n (pc := 0) C 0 dX11_hasRows_0 rfl rfl ?_
  refine wp_getS (v := 3) (pc := 1) C flX11_21 rfl rfl (Nat.le_of_ble_eq_true rfl) (Nat.le_of_ble_eq_true rfl) rfl dX11_hasRows_1 ?_
  refine wp_iconst (v := 0) (pc := 4) C dX11_hasRows_4 (by decide) ?_
  obtain ⟨g1, h⟩ := gd_some h
  refine wp_iald (pc := 5) C (Nat.le_of_ble_eq_true rfl) rfl g1 dX11_hasRows_5 ?_
  refine wp_aload_n (pc := 6) C 0 dX11_hasRows_6 rfl rfl ?_
  refine wp_getS (v := 3) (pc := 7) C flX11_21 rfl rfl (Nat.le_of_ble_eq_true rfl) (Nat.le_of_ble_eq_true rfl) rfl dX11_hasRows_7 ?_
  refine wp_iconst (v := 1) (pc := 10) C dX11_hasRows_10 (by decide) ?_
  obtain ⟨g2, h⟩ := gd_some h
  refine wp_iald (pc := 11) C (Nat.le_of_ble_eq_true rfl) rfl g2 dX11_hasRows_11 ?_
  refine wp_iadd (pc := 12) C dX11_hasRows_12 ?_
  refine wp_aload_n (pc := 13) C 0 dX11_hasRows_13 rfl rfl ?_
  refine wp_getS (v := 3) (pc := 14) C flX11_21 rfl rfl (Nat.le_of_ble_eq_true rfl) (Nat.le_of_ble_eq_true rfl) rfl dX11_hasRows_14 ?_
  refine wp_iconst (v := 2) (pc := 17) C dX11_hasRows_17 (by decide) ?_
  obtain ⟨g3, h⟩ := gd_some h
  refine wp_iald (pc := 18) C (Nat.le_of_ble_eq_true rfl) rfl g3 dX11_hasRows_18 ?_
  refine wp_iadd (pc := 19) C dX11_hasRows_19 ?_
  refine wp_aload_n (pc := 20) C 0 dX11_hasRows_20 rfl rfl ?_
  refine wp_getS (v := 3) (pc := 21) C flX11_21 rfl rfl (Nat.le_of_ble_eq_true rfl) (Nat.le_of_ble_eq_true rfl) rfl dX11_hasRows_21 ?_
  refine wp_iconst (v := 3) (pc := 24) C dX11_hasRows_24 (by decide) ?_
  obtain ⟨g4, h⟩ := gd_some h
  refine wp_iald (pc := 25) C (Nat.le_of_ble_eq_true rfl) rfl g4 dX11_hasRows_25 ?_
  refine wp_iadd (pc := 26) C dX11_hasRows_26 ?_
  refine wp_if_le (pc := 27) C 34 dX11_hasRows_27 (by decide) (fun q => ?_) (fun q => ?_)
  · have h := it_pos q h
    refine wp_iconst (v := 0) (pc := 34) C dX11_hasRows_34 (by decide) ?_
    exact rt_z C (Or.inl rfl) rfl h dX11_hasRows_35
  · have h := it_neg q h
    refine wp_iconst (v := 1) (pc := 30) C dX11_hasRows_30 (by decide) ?_
    refine wp_goto (pc := 31) C 35 dX11_hasRows_31 (by decide) ?_
    exact rt_z C (Or.inr rfl) rfl h dX11_hasRows_35
theorem CtX11_hasRows {n : Nat} {S S' : St} {r : Int32} (h : fX11_hasRows n S = some (S', r)) : Ct l sdM cy ad D yX11_hasRows cX11_hasRows 1 (some .boolean) 0 0 [.ref (ad 0)] S (some (.int r)) S' :=
  Ct_of (own := RX11) mX11_hasRows rfl (Nat.le_of_ble_eq_true rfl) (fun G e1 e2 e3 e4 C => by subst e1 e2 e3 e4; exact wX11_hasRows C h)
def fX11_readNumber (n : Nat) (S : St) (x1 : Int32) (x2 : Int32) : Option (St × Int32) :=
  bd (fX11_token n S) (fun S1 r2 =>
  bd (fX11_toldNumber n S1 x1 x2) (fun S3 r4 =>
  some (S3, r4)))
set_option maxRecDepth 100000 in
set_option maxHeartbeats 4000000 in
theorem wX11_readNumber (C : Cx G sdM cX11_readNumber 3 RX11 (some .int)) {n : Nat} {S S' : St} {r : Int32} {x1 : Int32} {x2 : Int32} (h : fX11_readNumber n S x1 x2 = some (S', r)) : Wp G sdM (rmOf 3 66) 3 (Qm G sdM (some (.int r)) S') S 0 [(0, .ref (gA G 0)), (1, .int x1), (2, .int x2)] [] := by
  unfold fX11_readNumber at h
  refine wp_aload_n (pc := 0) C 0 dX11_readNumber_0 rfl rfl ?_
  obtain ⟨S1, r2, cS1, h⟩ := bd_some h
  refine wp_callVv (As := []) (st := []) (pc := 1) C (CtX11_token cS1) mX11_token iX11_token kX11_242 (Nat.le_of_ble_eq_true rfl) rfl (by decide) rfl rfl rfl rfl (Nat.le_of_ble_eq_true rfl) ⟨Nat.le_of_ble_eq_true rfl, Nat.le_of_ble_eq_true rfl⟩ dX11_readNumber_1 ?_
  refine wp_aload_n (pc := 4) C 0 dX11_readNumber_4 rfl rfl ?_
  refine wp_iload_n (pc := 5) C 1 dX11_readNumber_5 rfl rfl ?_
  refine wp_iload_n (pc := 6) C 2 dX11_readNumber_6 rfl rfl ?_
  obtain ⟨S3, r4, cS3, h⟩ := bd_some h
  refine wp_callVi (As := [.int x1, .int x2]) (st := []) (pc := 7) C (CtX11_toldNumber cS3) mX11_toldNumber iX11_toldNumber kX11_249 (Nat.le_of_ble_eq_true rfl) rfl (by decide) rfl rfl rfl rfl (Nat.le_of_ble_eq_true rfl) ⟨Nat.le_of_ble_eq_true rfl, Nat.le_of_ble_eq_true rfl⟩ dX11_readNumber_7 ?_
  exact rt_i C rfl h dX11_readNumber_10
theorem CtX11_readNumber {n : Nat} {S S' : St} {r : Int32} {x1 : Int32} {x2 : Int32} (h : fX11_readNumber n S x1 x2 = some (S', r)) : Ct l sdM cy ad D yX11_readNumber cX11_readNumber 3 (some .int) 3 66 [.ref (ad 0), .int x1, .int x2] S (some (.int r)) S' :=
  Ct_of (own := RX11) mX11_readNumber rfl (Nat.le_of_ble_eq_true rfl) (fun G e1 e2 e3 e4 C => by subst e1 e2 e3 e4; exact wX11_readNumber C h)
def fX11_readOver (n : Nat) (S : St) : Option (St × Unit) :=
  bd (fX11_token n S) (fun S1 r2 =>
  bn (sI S1 0 40 1) (fun S3 : St =>
  some (S3, ())))
set_option maxRecDepth 100000 in
set_option maxHeartbeats 4000000 in
theorem wX11_readOver (C : Cx G sdM cX11_readOver 1 RX11 none) {n : Nat} {S S' : St} {r : Unit} (h : fX11_readOver n S = some (S', r)) : Wp G sdM (rmOf 2 43) 1 (Qm G sdM none S') S 0 [(0, .ref (gA G 0))] [] := by
  unfold fX11_readOver at h
  refine wp_aload_n (pc := 0) C 0 dX11_readOver_0 rfl rfl ?_
  obtain ⟨S1, r2, cS1, h⟩ := bd_some h
  refine wp_callVv (As := []) (st := []) (pc := 1) C (CtX11_token cS1) mX11_token iX11_token kX11_242 (Nat.le_of_ble_eq_true rfl) rfl (by decide) rfl rfl rfl rfl (Nat.le_of_ble_eq_true rfl) ⟨Nat.le_of_ble_eq_true rfl, Nat.le_of_ble_eq_true rfl⟩ dX11_readOver_1 ?_
  refine wp_aload_n (pc := 4) C 0 dX11_readOver_4 rfl rfl ?_
  refine wp_iconst (v := 1) (pc := 5) C dX11_readOver_5 (by decide) ?_
  obtain ⟨S3, eS3, h⟩ := bn_some h
  refine wp_putZ (pc := 6) C (Or.inr rfl) eS3 flX11_277 fpX11_40 rfl (Nat.le_of_ble_eq_true rfl) rfl dX11_readOver_6 ?_
  exact rt_v C rfl h dX11_readOver_9
theorem CtX11_readOver {n : Nat} {S S' : St} {r : Unit} (h : fX11_readOver n S = some (S', r)) : Ct l sdM cy ad D yX11_readOver cX11_readOver 1 none 2 43 [.ref (ad 0)] S none S' :=
  Ct_of (own := RX11) mX11_readOver rfl (Nat.le_of_ble_eq_true rfl) (fun G e1 e2 e3 e4 C => by subst e1 e2 e3 e4; exact wX11_readOver C h)
def fX11_isNumberLine_j84 (n : Nat) (S : St) : Option (St × Int32) :=
  some (S, 1)
set_option maxRecDepth 100000 in
set_option maxHeartbeats 4000000 in
theorem wX11_isNumberLine_j84 (C : Cx G sdM cX11_isNumberLine 1 RX11 (some .boolean)) {n : Nat} {S S' : St} {r : Int32} (h : fX11_isNumberLine_j84 n S = some (S', r)) : Wp G sdM (rmOf 1 22) 1 (Qm G sdM (some (.int r)) S') S 84 [] [] := by
  unfold fX11_isNumberLine_j84 at h
  refine wp_iconst (v := 1) (pc := 84) C dX11_isNumberLine_84 (by decide) ?_
  refine wp_goto (pc := 85) C 89 dX11_isNumberLine_85 (by decide) ?_
  exact rt_z C (Or.inr rfl) rfl h dX11_isNumberLine_89
def fX11_isNumberLine_j67 (n : Nat) (S : St) : Option (St × Int32) :=
  bd (fX11_isWord n S 1936484720) (fun S1 r2 =>
  if r2 = 0 then
    some (S1, 0)
  else
    if (S1.1 0 41) = 0 then
      fX11_isNumberLine_j84 n S1
    else
      some (S1, 0))
set_option maxRecDepth 100000 in
set_option maxHeartbeats 4000000 in
theorem wX11_isNumberLine_j67 (C : Cx G sdM cX11_isNumberLine 1 RX11 (some .boolean)) {n : Nat} {S S' : St} {r : Int32} (h : fX11_isNumberLine_j67 n S = some (S', r)) : Wp G sdM (rmOf 1 22) 1 (Qm G sdM (some (.int r)) S') S 67 [(0, .ref (gA G 0))] [] := by
  unfold fX11_isNumberLine_j67 at h
  refine wp_aload_n (pc := 67) C 0 dX11_isNumberLine_67 rfl rfl ?_
  refine wp_ldc2 (pc := 68) C qX11_233 dX11_isNumberLine_68 ?_
  obtain ⟨S1, r2, cS1, h⟩ := bd_some h
  refine wp_callVi (As := [.long 1936484720]) (st := []) (pc := 71) C (CtX11_isWord cS1) mX11_isWord iX11_isWord kX11_235 (Nat.le_of_ble_eq_true rfl) rfl (by decide) rfl rfl rfl rfl (Nat.le_of_ble_eq_true rfl) ⟨Nat.le_of_ble_eq_true rfl, Nat.le_of_ble_eq_true rfl⟩ dX11_isNumberLine_71 ?_
  refine wp_if_eq (pc := 74) C 88 dX11_isNumberLine_74 (by decide) (fun q => ?_) (fun q => ?_)
  · have h := it_pos q h
    refine wp_iconst (v := 0) (pc := 88) C dX11_isNumberLine_88 (by decide) ?_
    exact rt_z C (Or.inl rfl) rfl h dX11_isNumberLine_89
  · have h := it_neg q h
    refine wp_aload_n (pc := 77) C 0 dX11_isNumberLine_77 rfl rfl ?_
    refine wp_getI (pc := 78) C flX11_293 rfl (Nat.le_of_ble_eq_true rfl) rfl dX11_isNumberLine_78 ?_
    refine wp_if_ne (pc := 81) C 88 dX11_isNumberLine_81 (by decide) (fun q => ?_) (fun q => ?_)
    · have h := it_neg q h
      refine wp_iconst (v := 0) (pc := 88) C dX11_isNumberLine_88 (by decide) ?_
      exact rt_z C (Or.inl rfl) rfl h dX11_isNumberLine_89
    · have h := it_pos q h
      exact wp_sub C [] rfl (wX11_isNumberLine_j84 C h)
def fX11_isNumberLine_j50 (n : Nat) (S : St) : Option (St × Int32) :=
  bd (fX11_isWord n S 418430675813) (fun S1 r2 =>
  if r2 = 0 then
    fX11_isNumberLine_j67 n S1
  else
    if (S1.1 0 39) = 0 then
      fX11_isNumberLine_j84 n S1
    else
      fX11_isNumberLine_j67 n S1)
set_option maxRecDepth 100000 in
set_option maxHeartbeats 4000000 in
theorem wX11_isNumberLine_j50 (C : Cx G sdM cX11_isNumberLine 1 RX11 (some .boolean)) {n : Nat} {S S' : St} {r : Int32} (h : fX11_isNumberLine_j50 n S = some (S', r)) : Wp G sdM (rmOf 1 22) 1 (Qm G sdM (some (.int r)) S') S 50 [(0, .ref (gA G 0))] [] := by
  unfold fX11_isNumberLine_j50 at h
  refine wp_aload_n (pc := 50) C 0 dX11_isNumberLine_50 rfl rfl ?_
  refine wp_ldc2 (pc := 51) C qX11_229 dX11_isNumberLine_51 ?_
  obtain ⟨S1, r2, cS1, h⟩ := bd_some h
  refine wp_callVi (As := [.long 418430675813]) (st := []) (pc := 54) C (CtX11_isWord cS1) mX11_isWord iX11_isWord kX11_235 (Nat.le_of_ble_eq_true rfl) rfl (by decide) rfl rfl rfl rfl (Nat.le_of_ble_eq_true rfl) ⟨Nat.le_of_ble_eq_true rfl, Nat.le_of_ble_eq_true rfl⟩ dX11_isNumberLine_54 ?_
  refine wp_if_eq (pc := 57) C 67 dX11_isNumberLine_57 (by decide) (fun q => ?_) (fun q => ?_)
  · have h := it_pos q h
    exact (wX11_isNumberLine_j67 C h)
  · have h := it_neg q h
    refine wp_aload_n (pc := 60) C 0 dX11_isNumberLine_60 rfl rfl ?_
    refine wp_getI (pc := 61) C flX11_290 rfl (Nat.le_of_ble_eq_true rfl) rfl dX11_isNumberLine_61 ?_
    refine wp_if_eq (pc := 64) C 84 dX11_isNumberLine_64 (by decide) (fun q => ?_) (fun q => ?_)
    · have h := it_pos q h
      exact wp_sub C [] rfl (wX11_isNumberLine_j84 C h)
    · have h := it_neg q h
      exact (wX11_isNumberLine_j67 C h)
def fX11_isNumberLine_j24 (n : Nat) (S : St) : Option (St × Int32) :=
  bd (fX11_isWord n S 1836020596) (fun S1 r2 =>
  if r2 = 0 then
    fX11_isNumberLine_j50 n S1
  else
    if (S1.1 0 38) = 0 then
      gd (ib 4 5) (
      if (S1.1 3 (Int32.toNatClampNeg 4)) = 0 then
        fX11_isNumberLine_j84 n S1
      else
        fX11_isNumberLine_j50 n S1)
    else
      fX11_isNumberLine_j50 n S1)
set_option maxRecDepth 100000 in
set_option maxHeartbeats 4000000 in
theorem wX11_isNumberLine_j24 (C : Cx G sdM cX11_isNumberLine 1 RX11 (some .boolean)) {n : Nat} {S S' : St} {r : Int32} (h : fX11_isNumberLine_j24 n S = some (S', r)) : Wp G sdM (rmOf 1 22) 1 (Qm G sdM (some (.int r)) S') S 24 [(0, .ref (gA G 0))] [] := by
  unfold fX11_isNumberLine_j24 at h
  refine wp_aload_n (pc := 24) C 0 dX11_isNumberLine_24 rfl rfl ?_
  refine wp_ldc2 (pc := 25) C qX11_227 dX11_isNumberLine_25 ?_
  obtain ⟨S1, r2, cS1, h⟩ := bd_some h
  refine wp_callVi (As := [.long 1836020596]) (st := []) (pc := 28) C (CtX11_isWord cS1) mX11_isWord iX11_isWord kX11_235 (Nat.le_of_ble_eq_true rfl) rfl (by decide) rfl rfl rfl rfl (Nat.le_of_ble_eq_true rfl) ⟨Nat.le_of_ble_eq_true rfl, Nat.le_of_ble_eq_true rfl⟩ dX11_isNumberLine_28 ?_
  refine wp_if_eq (pc := 31) C 50 dX11_isNumberLine_31 (by decide) (fun q => ?_) (fun q => ?_)
  · have h := it_pos q h
    exact (wX11_isNumberLine_j50 C h)
  · have h := it_neg q h
    refine wp_aload_n (pc := 34) C 0 dX11_isNumberLine_34 rfl rfl ?_
    refine wp_getI (pc := 35) C flX11_287 rfl (Nat.le_of_ble_eq_true rfl) rfl dX11_isNumberLine_35 ?_
    refine wp_if_ne (pc := 38) C 50 dX11_isNumberLine_38 (by decide) (fun q => ?_) (fun q => ?_)
    · have h := it_neg q h
      exact (wX11_isNumberLine_j50 C h)
    · have h := it_pos q h
      refine wp_aload_n (pc := 41) C 0 dX11_isNumberLine_41 rfl rfl ?_
      refine wp_getS (v := 3) (pc := 42) C flX11_21 rfl rfl (Nat.le_of_ble_eq_true rfl) (Nat.le_of_ble_eq_true rfl) rfl dX11_isNumberLine_42 ?_
      refine wp_iconst (v := 4) (pc := 45) C dX11_isNumberLine_45 (by decide) ?_
      obtain ⟨g3, h⟩ := gd_some h
      refine wp_iald (pc := 46) C (Nat.le_of_ble_eq_true rfl) rfl g3 dX11_isNumberLine_46 ?_
      refine wp_if_eq (pc := 47) C 84 dX11_isNumberLine_47 (by decide) (fun q => ?_) (fun q => ?_)
      · have h := it_pos q h
        exact wp_sub C [] rfl (wX11_isNumberLine_j84 C h)
      · have h := it_neg q h
        exact (wX11_isNumberLine_j50 C h)
def fX11_isNumberLine (n : Nat) (S : St) : Option (St × Int32) :=
  bd (fX11_isWord n S 422541419635) (fun S1 r2 =>
  if r2 = 0 then
    fX11_isNumberLine_j24 n S1
  else
    if (S1.1 0 37) = 0 then
      bd (fX11_hasRows n S1) (fun S3 r4 =>
      if r4 = 0 then
        fX11_isNumberLine_j84 n S3
      else
        fX11_isNumberLine_j24 n S3)
    else
      fX11_isNumberLine_j24 n S1)
set_option maxRecDepth 100000 in
set_option maxHeartbeats 4000000 in
theorem wX11_isNumberLine (C : Cx G sdM cX11_isNumberLine 1 RX11 (some .boolean)) {n : Nat} {S S' : St} {r : Int32} (h : fX11_isNumberLine n S = some (S', r)) : Wp G sdM (rmOf 1 22) 1 (Qm G sdM (some (.int r)) S') S 0 [(0, .ref (gA G 0))] [] := by
  unfold fX11_isNumberLine at h
  refine wp_aload_n (pc := 0) C 0 dX11_isNumberLine_0 rfl rfl ?_
  refine wp_ldc2 (pc := 1) C qX11_207 dX11_isNumberLine_1 ?_
  obtain ⟨S1, r2, cS1, h⟩ := bd_some h
  refine wp_callVi (As := [.long 422541419635]) (st := []) (pc := 4) C (CtX11_isWord cS1) mX11_isWord iX11_isWord kX11_235 (Nat.le_of_ble_eq_true rfl) rfl (by decide) rfl rfl rfl rfl (Nat.le_of_ble_eq_true rfl) ⟨Nat.le_of_ble_eq_true rfl, Nat.le_of_ble_eq_true rfl⟩ dX11_isNumberLine_4 ?_
  refine wp_if_eq (pc := 7) C 24 dX11_isNumberLine_7 (by decide) (fun q => ?_) (fun q => ?_)
  · have h := it_pos q h
    exact (wX11_isNumberLine_j24 C h)
  · have h := it_neg q h
    refine wp_aload_n (pc := 10) C 0 dX11_isNumberLine_10 rfl rfl ?_
    refine wp_getI (pc := 11) C flX11_281 rfl (Nat.le_of_ble_eq_true rfl) rfl dX11_isNumberLine_11 ?_
    refine wp_if_ne (pc := 14) C 24 dX11_isNumberLine_14 (by decide) (fun q => ?_) (fun q => ?_)
    · have h := it_neg q h
      exact (wX11_isNumberLine_j24 C h)
    · have h := it_pos q h
      refine wp_aload_n (pc := 17) C 0 dX11_isNumberLine_17 rfl rfl ?_
      obtain ⟨S3, r4, cS3, h⟩ := bd_some h
      refine wp_callVi (As := []) (st := []) (pc := 18) C (CtX11_hasRows cS3) mX11_hasRows iX11_hasRows kX11_284 (Nat.le_of_ble_eq_true rfl) rfl (by decide) rfl rfl rfl rfl (Nat.le_of_ble_eq_true rfl) ⟨Nat.le_of_ble_eq_true rfl, Nat.le_of_ble_eq_true rfl⟩ dX11_isNumberLine_18 ?_
      refine wp_if_eq (pc := 21) C 84 dX11_isNumberLine_21 (by decide) (fun q => ?_) (fun q => ?_)
      · have h := it_pos q h
        exact wp_sub C [] rfl (wX11_isNumberLine_j84 C h)
      · have h := it_neg q h
        exact (wX11_isNumberLine_j24 C h)
theorem CtX11_isNumberLine {n : Nat} {S S' : St} {r : Int32} (h : fX11_isNumberLine n S = some (S', r)) : Ct l sdM cy ad D yX11_isNumberLine cX11_isNumberLine 1 (some .boolean) 1 22 [.ref (ad 0)] S (some (.int r)) S' :=
  Ct_of (own := RX11) mX11_isNumberLine rfl (Nat.le_of_ble_eq_true rfl) (fun G e1 e2 e3 e4 C => by subst e1 e2 e3 e4; exact wX11_isNumberLine C h)
def fX11_readNumberLine (n : Nat) (S : St) : Option (St × Unit) :=
  bd (fX11_isWord n S 422541419635) (fun S1 r2 =>
  if r2 = 0 then
    bd (fX11_isWord n S1 1836020596) (fun S3 r4 =>
    if r4 = 0 then
      bd (fX11_isWord n S3 418430675813) (fun S5 r6 =>
      if r6 = 0 then
        bn (sI S5 0 41 1) (fun S7 : St =>
        bd (fX11_readNumber n S7 0 9) (fun S8 r9 =>
        bn (sI S8 0 32 r9) (fun S10 : St =>
        some (S10, ()))))
      else
        bn (sI S5 0 39 1) (fun S11 : St =>
        bd (fX11_readNumber n S11 0 9999) (fun S12 r13 =>
        bn (sI S12 0 31 r13) (fun S14 : St =>
        some (S14, ())))))
    else
      bn (sI S3 0 38 1) (fun S15 : St =>
      bd (fX11_readNumber n S15 1 24) (fun S16 r17 =>
      bn (sI S16 0 30 r17) (fun S18 : St =>
      some (S18, ())))))
  else
    bn (sI S1 0 37 1) (fun S19 : St =>
    bd (fX11_readNumber n S19 1 16) (fun S20 r21 =>
    bn (sI S20 0 29 r21) (fun S22 : St =>
    some (S22, ())))))
set_option maxRecDepth 100000 in
set_option maxHeartbeats 4000000 in
theorem wX11_readNumberLine (C : Cx G sdM cX11_readNumberLine 1 RX11 none) {n : Nat} {S S' : St} {r : Unit} (h : fX11_readNumberLine n S = some (S', r)) : Wp G sdM (rmOf 4 88) 1 (Qm G sdM none S') S 0 [(0, .ref (gA G 0))] [] := by
  unfold fX11_readNumberLine at h
  refine wp_aload_n (pc := 0) C 0 dX11_readNumberLine_0 rfl rfl ?_
  refine wp_ldc2 (pc := 1) C qX11_207 dX11_readNumberLine_1 ?_
  obtain ⟨S1, r2, cS1, h⟩ := bd_some h
  refine wp_callVi (As := [.long 422541419635]) (st := []) (pc := 4) C (CtX11_isWord cS1) mX11_isWord iX11_isWord kX11_235 (Nat.le_of_ble_eq_true rfl) rfl (by decide) rfl rfl rfl rfl (Nat.le_of_ble_eq_true rfl) ⟨Nat.le_of_ble_eq_true rfl, Nat.le_of_ble_eq_true rfl⟩ dX11_readNumberLine_4 ?_
  refine wp_if_eq (pc := 7) C 29 dX11_readNumberLine_7 (by decide) (fun q => ?_) (fun q => ?_)
  · have h := it_pos q h
    refine wp_aload_n (pc := 29) C 0 dX11_readNumberLine_29 rfl rfl ?_
    refine wp_ldc2 (pc := 30) C qX11_227 dX11_readNumberLine_30 ?_
    obtain ⟨S3, r4, cS3, h⟩ := bd_some h
    refine wp_callVi (As := [.long 1836020596]) (st := []) (pc := 33) C (CtX11_isWord cS3) mX11_isWord iX11_isWord kX11_235 (Nat.le_of_ble_eq_true rfl) rfl (by decide) rfl rfl rfl rfl (Nat.le_of_ble_eq_true rfl) ⟨Nat.le_of_ble_eq_true rfl, Nat.le_of_ble_eq_true rfl⟩ dX11_readNumberLine_33 ?_
    refine wp_if_eq (pc := 36) C 58 dX11_readNumberLine_36 (by decide) (fun q => ?_) (fun q => ?_)
    · have h := it_pos q h
      refine wp_aload_n (pc := 58) C 0 dX11_readNumberLine_58 rfl rfl ?_
      refine wp_ldc2 (pc := 59) C qX11_229 dX11_readNumberLine_59 ?_
      obtain ⟨S5, r6, cS5, h⟩ := bd_some h
      refine wp_callVi (As := [.long 418430675813]) (st := []) (pc := 62) C (CtX11_isWord cS5) mX11_isWord iX11_isWord kX11_235 (Nat.le_of_ble_eq_true rfl) rfl (by decide) rfl rfl rfl rfl (Nat.le_of_ble_eq_true rfl) ⟨Nat.le_of_ble_eq_true rfl, Nat.le_of_ble_eq_true rfl⟩ dX11_readNumberLine_62 ?_
      refine wp_if_eq (pc := 65) C 88 dX11_readNumberLine_65 (by decide) (fun q => ?_) (fun q => ?_)
      · have h := it_pos q h
        refine wp_aload_n (pc := 88) C 0 dX11_readNumberLine_88 rfl rfl ?_
        refine wp_iconst (v := 1) (pc := 89) C dX11_readNumberLine_89 (by decide) ?_
        obtain ⟨S7, eS7, h⟩ := bn_some h
        refine wp_putZ (pc := 90) C (Or.inr rfl) eS7 flX11_293 fpX11_41 rfl (Nat.le_of_ble_eq_true rfl) rfl dX11_readNumberLine_90 ?_
        refine wp_aload_n (pc := 93) C 0 dX11_readNumberLine_93 rfl rfl ?_
        refine wp_aload_n (pc := 94) C 0 dX11_readNumberLine_94 rfl rfl ?_
        refine wp_iconst (v := 0) (pc := 95) C dX11_readNumberLine_95 (by decide) ?_
        refine wp_bipush (v := 9) (pc := 96) C dX11_readNumberLine_96 (by decide) ?_
        obtain ⟨S8, r9, cS8, h⟩ := bd_some h
        refine wp_callVi (As := [.int 0, .int 9]) (st := [.ref (gA G 0)]) (pc := 98) C (CtX11_readNumber cS8) mX11_readNumber iX11_readNumber kX11_296 (Nat.le_of_ble_eq_true rfl) rfl (by decide) rfl rfl rfl rfl (Nat.le_of_ble_eq_true rfl) ⟨Nat.le_of_ble_eq_true rfl, Nat.le_of_ble_eq_true rfl⟩ dX11_readNumberLine_98 ?_
        obtain ⟨S10, eS10, h⟩ := bn_some h
        refine wp_putI (pc := 101) C eS10 flX11_302 fpX11_32 rfl (Nat.le_of_ble_eq_true rfl) rfl dX11_readNumberLine_101 ?_
        exact rt_v C rfl h dX11_readNumberLine_104
      · have h := it_neg q h
        refine wp_aload_n (pc := 68) C 0 dX11_readNumberLine_68 rfl rfl ?_
        refine wp_iconst (v := 1) (pc := 69) C dX11_readNumberLine_69 (by decide) ?_
        obtain ⟨S11, eS11, h⟩ := bn_some h
        refine wp_putZ (pc := 70) C (Or.inr rfl) eS11 flX11_290 fpX11_39 rfl (Nat.le_of_ble_eq_true rfl) rfl dX11_readNumberLine_70 ?_
        refine wp_aload_n (pc := 73) C 0 dX11_readNumberLine_73 rfl rfl ?_
        refine wp_aload_n (pc := 74) C 0 dX11_readNumberLine_74 rfl rfl ?_
        refine wp_iconst (v := 0) (pc := 75) C dX11_readNumberLine_75 (by decide) ?_
        refine wp_sipush (v := 9999) (pc := 76) C dX11_readNumberLine_76 (by decide) ?_
        obtain ⟨S12, r13, cS12, h⟩ := bd_some h
        refine wp_callVi (As := [.int 0, .int 9999]) (st := [.ref (gA G 0)]) (pc := 79) C (CtX11_readNumber cS12) mX11_readNumber iX11_readNumber kX11_296 (Nat.le_of_ble_eq_true rfl) rfl (by decide) rfl rfl rfl rfl (Nat.le_of_ble_eq_true rfl) ⟨Nat.le_of_ble_eq_true rfl, Nat.le_of_ble_eq_true rfl⟩ dX11_readNumberLine_79 ?_
        obtain ⟨S14, eS14, h⟩ := bn_some h
        refine wp_putI (pc := 82) C eS14 flX11_299 fpX11_31 rfl (Nat.le_of_ble_eq_true rfl) rfl dX11_readNumberLine_82 ?_
        refine wp_goto (pc := 85) C 104 dX11_readNumberLine_85 (by decide) ?_
        exact rt_v C rfl h dX11_readNumberLine_104
    · have h := it_neg q h
      refine wp_aload_n (pc := 39) C 0 dX11_readNumberLine_39 rfl rfl ?_
      refine wp_iconst (v := 1) (pc := 40) C dX11_readNumberLine_40 (by decide) ?_
      obtain ⟨S15, eS15, h⟩ := bn_some h
      refine wp_putZ (pc := 41) C (Or.inr rfl) eS15 flX11_287 fpX11_38 rfl (Nat.le_of_ble_eq_true rfl) rfl dX11_readNumberLine_41 ?_
      refine wp_aload_n (pc := 44) C 0 dX11_readNumberLine_44 rfl rfl ?_
      refine wp_aload_n (pc := 45) C 0 dX11_readNumberLine_45 rfl rfl ?_
      refine wp_iconst (v := 1) (pc := 46) C dX11_readNumberLine_46 (by decide) ?_
      refine wp_bipush (v := 24) (pc := 47) C dX11_readNumberLine_47 (by decide) ?_
      obtain ⟨S16, r17, cS16, h⟩ := bd_some h
      refine wp_callVi (As := [.int 1, .int 24]) (st := [.ref (gA G 0)]) (pc := 49) C (CtX11_readNumber cS16) mX11_readNumber iX11_readNumber kX11_296 (Nat.le_of_ble_eq_true rfl) rfl (by decide) rfl rfl rfl rfl (Nat.le_of_ble_eq_true rfl) ⟨Nat.le_of_ble_eq_true rfl, Nat.le_of_ble_eq_true rfl⟩ dX11_readNumberLine_49 ?_
      obtain ⟨S18, eS18, h⟩ := bn_some h
      refine wp_putI (pc := 52) C eS18 flX11_274 fpX11_30 rfl (Nat.le_of_ble_eq_true rfl) rfl dX11_readNumberLine_52 ?_
      refine wp_goto (pc := 55) C 104 dX11_readNumberLine_55 (by decide) ?_
      exact rt_v C rfl h dX11_readNumberLine_104
  · have h := it_neg q h
    refine wp_aload_n (pc := 10) C 0 dX11_readNumberLine_10 rfl rfl ?_
    refine wp_iconst (v := 1) (pc := 11) C dX11_readNumberLine_11 (by decide) ?_
    obtain ⟨S19, eS19, h⟩ := bn_some h
    refine wp_putZ (pc := 12) C (Or.inr rfl) eS19 flX11_281 fpX11_37 rfl (Nat.le_of_ble_eq_true rfl) rfl dX11_readNumberLine_12 ?_
    refine wp_aload_n (pc := 15) C 0 dX11_readNumberLine_15 rfl rfl ?_
    refine wp_aload_n (pc := 16) C 0 dX11_readNumberLine_16 rfl rfl ?_
    refine wp_iconst (v := 1) (pc := 17) C dX11_readNumberLine_17 (by decide) ?_
    refine wp_bipush (v := 16) (pc := 18) C dX11_readNumberLine_18 (by decide) ?_
    obtain ⟨S20, r21, cS20, h⟩ := bd_some h
    refine wp_callVi (As := [.int 1, .int 16]) (st := [.ref (gA G 0)]) (pc := 20) C (CtX11_readNumber cS20) mX11_readNumber iX11_readNumber kX11_296 (Nat.le_of_ble_eq_true rfl) rfl (by decide) rfl rfl rfl rfl (Nat.le_of_ble_eq_true rfl) ⟨Nat.le_of_ble_eq_true rfl, Nat.le_of_ble_eq_true rfl⟩ dX11_readNumberLine_20 ?_
    obtain ⟨S22, eS22, h⟩ := bn_some h
    refine wp_putI (pc := 23) C eS22 flX11_260 fpX11_29 rfl (Nat.le_of_ble_eq_true rfl) rfl dX11_readNumberLine_23 ?_
    refine wp_goto (pc := 26) C 104 dX11_readNumberLine_26 (by decide) ?_
    exact rt_v C rfl h dX11_readNumberLine_104
theorem CtX11_readNumberLine {n : Nat} {S S' : St} {r : Unit} (h : fX11_readNumberLine n S = some (S', r)) : Ct l sdM cy ad D yX11_readNumberLine cX11_readNumberLine 1 none 4 88 [.ref (ad 0)] S none S' :=
  Ct_of (own := RX11) mX11_readNumberLine rfl (Nat.le_of_ble_eq_true rfl) (fun G e1 e2 e3 e4 C => by subst e1 e2 e3 e4; exact wX11_readNumberLine C h)
def fX11_readLine_j241 (n : Nat) (S : St) : Option (St × Unit) :=
  if (S.1 0 2) = 0 then
    bd (fX11_token n S) (fun S1 r2 =>
    some (S1, ()))
  else
    some (S, ())
set_option maxRecDepth 100000 in
set_option maxHeartbeats 4000000 in
theorem wX11_readLine_j241 (C : Cx G sdM cX11_readLine 1 RX11 none) {n : Nat} {S S' : St} {r : Unit} (h : fX11_readLine_j241 n S = some (S', r)) : Wp G sdM (rmOf 5 113) 1 (Qm G sdM none S') S 241 [(0, .ref (gA G 0))] [] := by
  unfold fX11_readLine_j241 at h
  refine wp_aload_n (pc := 241) C 0 dX11_readLine_241 rfl rfl ?_
  refine wp_getI (pc := 242) C flX11_204 rfl (Nat.le_of_ble_eq_true rfl) rfl dX11_readLine_242 ?_
  refine wp_if_ne (pc := 245) C 252 dX11_readLine_245 (by decide) (fun q => ?_) (fun q => ?_)
  · have h := it_neg q h
    exact rt_v C rfl h dX11_readLine_252
  · have h := it_pos q h
    refine wp_aload_n (pc := 248) C 0 dX11_readLine_248 rfl rfl ?_
    obtain ⟨S1, r2, cS1, h⟩ := bd_some h
    refine wp_callVv (As := []) (st := []) (pc := 249) C (CtX11_token cS1) mX11_token iX11_token kX11_242 (Nat.le_of_ble_eq_true rfl) rfl (by decide) rfl rfl rfl rfl (Nat.le_of_ble_eq_true rfl) ⟨Nat.le_of_ble_eq_true rfl, Nat.le_of_ble_eq_true rfl⟩ dX11_readLine_249 ?_
    exact rt_v C rfl h dX11_readLine_252
def fX11_readLine_j220 (n : Nat) (S : St) : Option (St × Unit) :=
  if (S.1 0 2) = 0 then
    if (S.1 0 6) = 59 then
      fX11_readLine_j241 n S
    else
      bd (fX11_wrong n S 2) (fun S1 r2 =>
      fX11_readLine_j241 n S1)
  else
    fX11_readLine_j241 n S
set_option maxRecDepth 100000 in
set_option maxHeartbeats 4000000 in
theorem wX11_readLine_j220 (C : Cx G sdM cX11_readLine 1 RX11 none) {n : Nat} {S S' : St} {r : Unit} (h : fX11_readLine_j220 n S = some (S', r)) : Wp G sdM (rmOf 5 113) 1 (Qm G sdM none S') S 220 [(0, .ref (gA G 0))] [] := by
  unfold fX11_readLine_j220 at h
  refine wp_aload_n (pc := 220) C 0 dX11_readLine_220 rfl rfl ?_
  refine wp_getI (pc := 221) C flX11_204 rfl (Nat.le_of_ble_eq_true rfl) rfl dX11_readLine_221 ?_
  refine wp_if_ne (pc := 224) C 241 dX11_readLine_224 (by decide) (fun q => ?_) (fun q => ?_)
  · have h := it_neg q h
    exact (wX11_readLine_j241 C h)
  · have h := it_pos q h
    refine wp_aload_n (pc := 227) C 0 dX11_readLine_227 rfl rfl ?_
    refine wp_getI (pc := 228) C flX11_194 rfl (Nat.le_of_ble_eq_true rfl) rfl dX11_readLine_228 ?_
    refine wp_bipush (v := 59) (pc := 231) C dX11_readLine_231 (by decide) ?_
    refine wp_icmp_eq (pc := 233) C 241 dX11_readLine_233 (by decide) (fun q => ?_) (fun q => ?_)
    · have h := it_pos q h
      exact (wX11_readLine_j241 C h)
    · have h := it_neg q h
      refine wp_aload_n (pc := 236) C 0 dX11_readLine_236 rfl rfl ?_
      refine wp_iconst (v := 2) (pc := 237) C dX11_readLine_237 (by decide) ?_
      obtain ⟨S1, r2, cS1, h⟩ := bd_some h
      refine wp_callVv (As := [.int 2]) (st := []) (pc := 238) C (CtX11_wrong cS1) mX11_wrong iX11_wrong kX11_239 (Nat.le_of_ble_eq_true rfl) rfl (by decide) rfl rfl rfl rfl (Nat.le_of_ble_eq_true rfl) ⟨Nat.le_of_ble_eq_true rfl, Nat.le_of_ble_eq_true rfl⟩ dX11_readLine_238 ?_
      exact (wX11_readLine_j241 C h)
def fX11_readLine_j215 (n : Nat) (S : St) : Option (St × Unit) :=
  bd (fX11_wrong n S 2) (fun S1 r2 =>
  fX11_readLine_j220 n S1)
set_option maxRecDepth 100000 in
set_option maxHeartbeats 4000000 in
theorem wX11_readLine_j215 (C : Cx G sdM cX11_readLine 1 RX11 none) {n : Nat} {S S' : St} {r : Unit} (h : fX11_readLine_j215 n S = some (S', r)) : Wp G sdM (rmOf 5 113) 1 (Qm G sdM none S') S 215 [(0, .ref (gA G 0))] [] := by
  unfold fX11_readLine_j215 at h
  refine wp_aload_n (pc := 215) C 0 dX11_readLine_215 rfl rfl ?_
  refine wp_iconst (v := 2) (pc := 216) C dX11_readLine_216 (by decide) ?_
  obtain ⟨S1, r2, cS1, h⟩ := bd_some h
  refine wp_callVv (As := [.int 2]) (st := []) (pc := 217) C (CtX11_wrong cS1) mX11_wrong iX11_wrong kX11_239 (Nat.le_of_ble_eq_true rfl) rfl (by decide) rfl rfl rfl rfl (Nat.le_of_ble_eq_true rfl) ⟨Nat.le_of_ble_eq_true rfl, Nat.le_of_ble_eq_true rfl⟩ dX11_readLine_217 ?_
  exact (wX11_readLine_j220 C h)
def fX11_readLine_j191 (n : Nat) (S : St) : Option (St × Unit) :=
  bd (fX11_isWord n S 1870030194) (fun S1 r2 =>
  if r2 = 0 then
    fX11_readLine_j215 n S1
  else
    if (S1.1 0 40) = 0 then
      bd (fX11_readOver n S1) (fun S3 r4 =>
      fX11_readLine_j220 n S3)
    else
      fX11_readLine_j215 n S1)
set_option maxRecDepth 100000 in
set_option maxHeartbeats 4000000 in
theorem wX11_readLine_j191 (C : Cx G sdM cX11_readLine 1 RX11 none) {n : Nat} {S S' : St} {r : Unit} (h : fX11_readLine_j191 n S = some (S', r)) : Wp G sdM (rmOf 5 113) 1 (Qm G sdM none S') S 191 [(0, .ref (gA G 0))] [] := by
  unfold fX11_readLine_j191 at h
  refine wp_aload_n (pc := 191) C 0 dX11_readLine_191 rfl rfl ?_
  refine wp_ldc2 (pc := 192) C qX11_231 dX11_readLine_192 ?_
  obtain ⟨S1, r2, cS1, h⟩ := bd_some h
  refine wp_callVi (As := [.long 1870030194]) (st := []) (pc := 195) C (CtX11_isWord cS1) mX11_isWord iX11_isWord kX11_235 (Nat.le_of_ble_eq_true rfl) rfl (by decide) rfl rfl rfl rfl (Nat.le_of_ble_eq_true rfl) ⟨Nat.le_of_ble_eq_true rfl, Nat.le_of_ble_eq_true rfl⟩ dX11_readLine_195 ?_
  refine wp_if_eq (pc := 198) C 215 dX11_readLine_198 (by decide) (fun q => ?_) (fun q => ?_)
  · have h := it_pos q h
    exact (wX11_readLine_j215 C h)
  · have h := it_neg q h
    refine wp_aload_n (pc := 201) C 0 dX11_readLine_201 rfl rfl ?_
    refine wp_getI (pc := 202) C flX11_277 rfl (Nat.le_of_ble_eq_true rfl) rfl dX11_readLine_202 ?_
    refine wp_if_ne (pc := 205) C 215 dX11_readLine_205 (by decide) (fun q => ?_) (fun q => ?_)
    · have h := it_neg q h
      exact (wX11_readLine_j215 C h)
    · have h := it_pos q h
      refine wp_aload_n (pc := 208) C 0 dX11_readLine_208 rfl rfl ?_
      obtain ⟨S3, r4, cS3, h⟩ := bd_some h
      refine wp_callVv (As := []) (st := []) (pc := 209) C (CtX11_readOver cS3) mX11_readOver iX11_readOver kX11_321 (Nat.le_of_ble_eq_true rfl) rfl (by decide) rfl rfl rfl rfl (Nat.le_of_ble_eq_true rfl) ⟨Nat.le_of_ble_eq_true rfl, Nat.le_of_ble_eq_true rfl⟩ dX11_readLine_209 ?_
      refine wp_goto (pc := 212) C 220 dX11_readLine_212 (by decide) ?_
      exact (wX11_readLine_j220 C h)
def fX11_readLine_j154 (n : Nat) (S : St) : Option (St × Unit) :=
  bd (fX11_isWord n S 1735356260) (fun S1 r2 =>
  if r2 = 0 then
    fX11_readLine_j191 n S1
  else
    gd (ib 4 5) (
    if 8 ≤ (S1.1 3 (Int32.toNatClampNeg 4)) then
      fX11_readLine_j191 n S1
    else
      gd (ib 0 5) (
      if (S1.1 3 (Int32.toNatClampNeg 0)) ≤ 0 then
        fX11_readLine_j191 n S1
      else
        bd (fX11_readGood n S1) (fun S5 r6 =>
        fX11_readLine_j220 n S5))))
set_option maxRecDepth 100000 in
set_option maxHeartbeats 4000000 in
theorem wX11_readLine_j154 (C : Cx G sdM cX11_readLine 1 RX11 none) {n : Nat} {S S' : St} {r : Unit} (h : fX11_readLine_j154 n S = some (S', r)) : Wp G sdM (rmOf 5 113) 1 (Qm G sdM none S') S 154 [(0, .ref (gA G 0))] [] := by
  unfold fX11_readLine_j154 at h
  refine wp_aload_n (pc := 154) C 0 dX11_readLine_154 rfl rfl ?_
  refine wp_ldc2 (pc := 155) C qX11_223 dX11_readLine_155 ?_
  obtain ⟨S1, r2, cS1, h⟩ := bd_some h
  refine wp_callVi (As := [.long 1735356260]) (st := []) (pc := 158) C (CtX11_isWord cS1) mX11_isWord iX11_isWord kX11_235 (Nat.le_of_ble_eq_true rfl) rfl (by decide) rfl rfl rfl rfl (Nat.le_of_ble_eq_true rfl) ⟨Nat.le_of_ble_eq_true rfl, Nat.le_of_ble_eq_true rfl⟩ dX11_readLine_158 ?_
  refine wp_if_eq (pc := 161) C 191 dX11_readLine_161 (by decide) (fun q => ?_) (fun q => ?_)
  · have h := it_pos q h
    exact (wX11_readLine_j191 C h)
  · have h := it_neg q h
    refine wp_aload_n (pc := 164) C 0 dX11_readLine_164 rfl rfl ?_
    refine wp_getS (v := 3) (pc := 165) C flX11_21 rfl rfl (Nat.le_of_ble_eq_true rfl) (Nat.le_of_ble_eq_true rfl) rfl dX11_readLine_165 ?_
    refine wp_iconst (v := 4) (pc := 168) C dX11_readLine_168 (by decide) ?_
    obtain ⟨g3, h⟩ := gd_some h
    refine wp_iald (pc := 169) C (Nat.le_of_ble_eq_true rfl) rfl g3 dX11_readLine_169 ?_
    refine wp_bipush (v := 8) (pc := 170) C dX11_readLine_170 (by decide) ?_
    refine wp_icmp_ge (pc := 172) C 191 dX11_readLine_172 (by decide) (fun q => ?_) (fun q => ?_)
    · have h := it_pos q h
      exact (wX11_readLine_j191 C h)
    · have h := it_neg q h
      refine wp_aload_n (pc := 175) C 0 dX11_readLine_175 rfl rfl ?_
      refine wp_getS (v := 3) (pc := 176) C flX11_21 rfl rfl (Nat.le_of_ble_eq_true rfl) (Nat.le_of_ble_eq_true rfl) rfl dX11_readLine_176 ?_
      refine wp_iconst (v := 0) (pc := 179) C dX11_readLine_179 (by decide) ?_
      obtain ⟨g4, h⟩ := gd_some h
      refine wp_iald (pc := 180) C (Nat.le_of_ble_eq_true rfl) rfl g4 dX11_readLine_180 ?_
      refine wp_if_le (pc := 181) C 191 dX11_readLine_181 (by decide) (fun q => ?_) (fun q => ?_)
      · have h := it_pos q h
        exact (wX11_readLine_j191 C h)
      · have h := it_neg q h
        refine wp_aload_n (pc := 184) C 0 dX11_readLine_184 rfl rfl ?_
        obtain ⟨S5, r6, cS5, h⟩ := bd_some h
        refine wp_callVv (As := []) (st := []) (pc := 185) C (CtX11_readGood cS5) mX11_readGood iX11_readGood kX11_318 (Nat.le_of_ble_eq_true rfl) rfl (by decide) rfl rfl rfl rfl (Nat.le_of_ble_eq_true rfl) ⟨Nat.le_of_ble_eq_true rfl, Nat.le_of_ble_eq_true rfl⟩ dX11_readLine_185 ?_
        refine wp_goto (pc := 188) C 220 dX11_readLine_188 (by decide) ?_
        exact (wX11_readLine_j220 C h)
def fX11_readLine_j120 (n : Nat) (S : St) : Option (St × Unit) :=
  bd (fX11_isWord n S 6650213) (fun S1 r2 =>
  if r2 = 0 then
    fX11_readLine_j154 n S1
  else
    gd (ib 3 5) (
    if 4 ≤ (S1.1 3 (Int32.toNatClampNeg 3)) then
      fX11_readLine_j154 n S1
    else
      bd (fX11_readRow n S1 3 8 9) (fun S4 r5 =>
      fX11_readLine_j220 n S4)))
set_option maxRecDepth 100000 in
set_option maxHeartbeats 4000000 in
theorem wX11_readLine_j120 (C : Cx G sdM cX11_readLine 1 RX11 none) {n : Nat} {S S' : St} {r : Unit} (h : fX11_readLine_j120 n S = some (S', r)) : Wp G sdM (rmOf 5 113) 1 (Qm G sdM none S') S 120 [(0, .ref (gA G 0))] [] := by
  unfold fX11_readLine_j120 at h
  refine wp_aload_n (pc := 120) C 0 dX11_readLine_120 rfl rfl ?_
  refine wp_ldc2 (pc := 121) C qX11_221 dX11_readLine_121 ?_
  obtain ⟨S1, r2, cS1, h⟩ := bd_some h
  refine wp_callVi (As := [.long 6650213]) (st := []) (pc := 124) C (CtX11_isWord cS1) mX11_isWord iX11_isWord kX11_235 (Nat.le_of_ble_eq_true rfl) rfl (by decide) rfl rfl rfl rfl (Nat.le_of_ble_eq_true rfl) ⟨Nat.le_of_ble_eq_true rfl, Nat.le_of_ble_eq_true rfl⟩ dX11_readLine_124 ?_
  refine wp_if_eq (pc := 127) C 154 dX11_readLine_127 (by decide) (fun q => ?_) (fun q => ?_)
  · have h := it_pos q h
    exact (wX11_readLine_j154 C h)
  · have h := it_neg q h
    refine wp_aload_n (pc := 130) C 0 dX11_readLine_130 rfl rfl ?_
    refine wp_getS (v := 3) (pc := 131) C flX11_21 rfl rfl (Nat.le_of_ble_eq_true rfl) (Nat.le_of_ble_eq_true rfl) rfl dX11_readLine_131 ?_
    refine wp_iconst (v := 3) (pc := 134) C dX11_readLine_134 (by decide) ?_
    obtain ⟨g3, h⟩ := gd_some h
    refine wp_iald (pc := 135) C (Nat.le_of_ble_eq_true rfl) rfl g3 dX11_readLine_135 ?_
    refine wp_iconst (v := 4) (pc := 136) C dX11_readLine_136 (by decide) ?_
    refine wp_icmp_ge (pc := 137) C 154 dX11_readLine_137 (by decide) (fun q => ?_) (fun q => ?_)
    · have h := it_pos q h
      exact (wX11_readLine_j154 C h)
    · have h := it_neg q h
      refine wp_aload_n (pc := 140) C 0 dX11_readLine_140 rfl rfl ?_
      refine wp_iconst (v := 3) (pc := 141) C dX11_readLine_141 (by decide) ?_
      refine wp_aload_n (pc := 142) C 0 dX11_readLine_142 rfl rfl ?_
      refine wp_getS (v := 8) (pc := 143) C flX11_36 rfl rfl (Nat.le_of_ble_eq_true rfl) (Nat.le_of_ble_eq_true rfl) rfl dX11_readLine_143 ?_
      refine wp_bipush (v := 9) (pc := 146) C dX11_readLine_146 (by decide) ?_
      obtain ⟨S4, r5, cS4, h⟩ := bd_some h
      refine wp_callVv (As := [.int 3, .ref (gA G 8), .int 9]) (st := []) (pc := 148) C (CtX11_readRow cS4) mX11_readRow iX11_readRow kX11_314 (Nat.le_of_ble_eq_true rfl) rfl (by decide) rfl rfl rfl rfl (Nat.le_of_ble_eq_true rfl) ⟨Nat.le_of_ble_eq_true rfl, Nat.le_of_ble_eq_true rfl⟩ dX11_readLine_148 ?_
      refine wp_goto (pc := 151) C 220 dX11_readLine_151 (by decide) ?_
      exact (wX11_readLine_j220 C h)
def fX11_readLine_j85 (n : Nat) (S : St) : Option (St × Unit) :=
  bd (fX11_isWord n S 1818324336) (fun S1 r2 =>
  if r2 = 0 then
    fX11_readLine_j120 n S1
  else
    gd (ib 2 5) (
    if 6 ≤ (S1.1 3 (Int32.toNatClampNeg 2)) then
      fX11_readLine_j120 n S1
    else
      bd (fX11_readRow n S1 2 7 99) (fun S4 r5 =>
      fX11_readLine_j220 n S4)))
set_option maxRecDepth 100000 in
set_option maxHeartbeats 4000000 in
theorem wX11_readLine_j85 (C : Cx G sdM cX11_readLine 1 RX11 none) {n : Nat} {S S' : St} {r : Unit} (h : fX11_readLine_j85 n S = some (S', r)) : Wp G sdM (rmOf 5 113) 1 (Qm G sdM none S') S 85 [(0, .ref (gA G 0))] [] := by
  unfold fX11_readLine_j85 at h
  refine wp_aload_n (pc := 85) C 0 dX11_readLine_85 rfl rfl ?_
  refine wp_ldc2 (pc := 86) C qX11_219 dX11_readLine_86 ?_
  obtain ⟨S1, r2, cS1, h⟩ := bd_some h
  refine wp_callVi (As := [.long 1818324336]) (st := []) (pc := 89) C (CtX11_isWord cS1) mX11_isWord iX11_isWord kX11_235 (Nat.le_of_ble_eq_true rfl) rfl (by decide) rfl rfl rfl rfl (Nat.le_of_ble_eq_true rfl) ⟨Nat.le_of_ble_eq_true rfl, Nat.le_of_ble_eq_true rfl⟩ dX11_readLine_89 ?_
  refine wp_if_eq (pc := 92) C 120 dX11_readLine_92 (by decide) (fun q => ?_) (fun q => ?_)
  · have h := it_pos q h
    exact (wX11_readLine_j120 C h)
  · have h := it_neg q h
    refine wp_aload_n (pc := 95) C 0 dX11_readLine_95 rfl rfl ?_
    refine wp_getS (v := 3) (pc := 96) C flX11_21 rfl rfl (Nat.le_of_ble_eq_true rfl) (Nat.le_of_ble_eq_true rfl) rfl dX11_readLine_96 ?_
    refine wp_iconst (v := 2) (pc := 99) C dX11_readLine_99 (by decide) ?_
    obtain ⟨g3, h⟩ := gd_some h
    refine wp_iald (pc := 100) C (Nat.le_of_ble_eq_true rfl) rfl g3 dX11_readLine_100 ?_
    refine wp_bipush (v := 6) (pc := 101) C dX11_readLine_101 (by decide) ?_
    refine wp_icmp_ge (pc := 103) C 120 dX11_readLine_103 (by decide) (fun q => ?_) (fun q => ?_)
    · have h := it_pos q h
      exact (wX11_readLine_j120 C h)
    · have h := it_neg q h
      refine wp_aload_n (pc := 106) C 0 dX11_readLine_106 rfl rfl ?_
      refine wp_iconst (v := 2) (pc := 107) C dX11_readLine_107 (by decide) ?_
      refine wp_aload_n (pc := 108) C 0 dX11_readLine_108 rfl rfl ?_
      refine wp_getS (v := 7) (pc := 109) C flX11_33 rfl rfl (Nat.le_of_ble_eq_true rfl) (Nat.le_of_ble_eq_true rfl) rfl dX11_readLine_109 ?_
      refine wp_bipush (v := 99) (pc := 112) C dX11_readLine_112 (by decide) ?_
      obtain ⟨S4, r5, cS4, h⟩ := bd_some h
      refine wp_callVv (As := [.int 2, .ref (gA G 7), .int 99]) (st := []) (pc := 114) C (CtX11_readRow cS4) mX11_readRow iX11_readRow kX11_314 (Nat.le_of_ble_eq_true rfl) rfl (by decide) rfl rfl rfl rfl (Nat.le_of_ble_eq_true rfl) ⟨Nat.le_of_ble_eq_true rfl, Nat.le_of_ble_eq_true rfl⟩ dX11_readLine_114 ?_
      refine wp_goto (pc := 117) C 220 dX11_readLine_117 (by decide) ?_
      exact (wX11_readLine_j220 C h)
def fX11_readLine_j51 (n : Nat) (S : St) : Option (St × Unit) :=
  bd (fX11_isWord n S 113741193899620) (fun S1 r2 =>
  if r2 = 0 then
    fX11_readLine_j85 n S1
  else
    gd (ib 1 5) (
    if 4 ≤ (S1.1 3 (Int32.toNatClampNeg 1)) then
      fX11_readLine_j85 n S1
    else
      bd (fX11_readRow n S1 1 6 99) (fun S4 r5 =>
      fX11_readLine_j220 n S4)))
set_option maxRecDepth 100000 in
set_option maxHeartbeats 4000000 in
theorem wX11_readLine_j51 (C : Cx G sdM cX11_readLine 1 RX11 none) {n : Nat} {S S' : St} {r : Unit} (h : fX11_readLine_j51 n S = some (S', r)) : Wp G sdM (rmOf 5 113) 1 (Qm G sdM none S') S 51 [(0, .ref (gA G 0))] [] := by
  unfold fX11_readLine_j51 at h
  refine wp_aload_n (pc := 51) C 0 dX11_readLine_51 rfl rfl ?_
  refine wp_ldc2 (pc := 52) C qX11_217 dX11_readLine_52 ?_
  obtain ⟨S1, r2, cS1, h⟩ := bd_some h
  refine wp_callVi (As := [.long 113741193899620]) (st := []) (pc := 55) C (CtX11_isWord cS1) mX11_isWord iX11_isWord kX11_235 (Nat.le_of_ble_eq_true rfl) rfl (by decide) rfl rfl rfl rfl (Nat.le_of_ble_eq_true rfl) ⟨Nat.le_of_ble_eq_true rfl, Nat.le_of_ble_eq_true rfl⟩ dX11_readLine_55 ?_
  refine wp_if_eq (pc := 58) C 85 dX11_readLine_58 (by decide) (fun q => ?_) (fun q => ?_)
  · have h := it_pos q h
    exact (wX11_readLine_j85 C h)
  · have h := it_neg q h
    refine wp_aload_n (pc := 61) C 0 dX11_readLine_61 rfl rfl ?_
    refine wp_getS (v := 3) (pc := 62) C flX11_21 rfl rfl (Nat.le_of_ble_eq_true rfl) (Nat.le_of_ble_eq_true rfl) rfl dX11_readLine_62 ?_
    refine wp_iconst (v := 1) (pc := 65) C dX11_readLine_65 (by decide) ?_
    obtain ⟨g3, h⟩ := gd_some h
    refine wp_iald (pc := 66) C (Nat.le_of_ble_eq_true rfl) rfl g3 dX11_readLine_66 ?_
    refine wp_iconst (v := 4) (pc := 67) C dX11_readLine_67 (by decide) ?_
    refine wp_icmp_ge (pc := 68) C 85 dX11_readLine_68 (by decide) (fun q => ?_) (fun q => ?_)
    · have h := it_pos q h
      exact (wX11_readLine_j85 C h)
    · have h := it_neg q h
      refine wp_aload_n (pc := 71) C 0 dX11_readLine_71 rfl rfl ?_
      refine wp_iconst (v := 1) (pc := 72) C dX11_readLine_72 (by decide) ?_
      refine wp_aload_n (pc := 73) C 0 dX11_readLine_73 rfl rfl ?_
      refine wp_getS (v := 6) (pc := 74) C flX11_30 rfl rfl (Nat.le_of_ble_eq_true rfl) (Nat.le_of_ble_eq_true rfl) rfl dX11_readLine_74 ?_
      refine wp_bipush (v := 99) (pc := 77) C dX11_readLine_77 (by decide) ?_
      obtain ⟨S4, r5, cS4, h⟩ := bd_some h
      refine wp_callVv (As := [.int 1, .ref (gA G 6), .int 99]) (st := []) (pc := 79) C (CtX11_readRow cS4) mX11_readRow iX11_readRow kX11_314 (Nat.le_of_ble_eq_true rfl) rfl (by decide) rfl rfl rfl rfl (Nat.le_of_ble_eq_true rfl) ⟨Nat.le_of_ble_eq_true rfl, Nat.le_of_ble_eq_true rfl⟩ dX11_readLine_79 ?_
      refine wp_goto (pc := 82) C 220 dX11_readLine_82 (by decide) ?_
      exact (wX11_readLine_j220 C h)
def fX11_readLine (n : Nat) (S : St) : Option (St × Unit) :=
  bd (fX11_isNumberLine n S) (fun S1 r2 =>
  if r2 = 0 then
    bd (fX11_isWord n S1 6584677) (fun S3 r4 =>
    if r4 = 0 then
      fX11_readLine_j51 n S3
    else
      gd (ib 0 5) (
      if 8 ≤ (S3.1 3 (Int32.toNatClampNeg 0)) then
        fX11_readLine_j51 n S3
      else
        gd (ib 4 5) (
        if (S3.1 3 (Int32.toNatClampNeg 4)) = 0 then
          bd (fX11_readDye n S3) (fun S7 r8 =>
          fX11_readLine_j220 n S7)
        else
          fX11_readLine_j51 n S3)))
  else
    bd (fX11_readNumberLine n S1) (fun S9 r10 =>
    fX11_readLine_j220 n S9))
set_option maxRecDepth 100000 in
set_option maxHeartbeats 4000000 in
theorem wX11_readLine (C : Cx G sdM cX11_readLine 1 RX11 none) {n : Nat} {S S' : St} {r : Unit} (h : fX11_readLine n S = some (S', r)) : Wp G sdM (rmOf 5 113) 1 (Qm G sdM none S') S 0 [(0, .ref (gA G 0))] [] := by
  unfold fX11_readLine at h
  refine wp_aload_n (pc := 0) C 0 dX11_readLine_0 rfl rfl ?_
  obtain ⟨S1, r2, cS1, h⟩ := bd_some h
  refine wp_callVi (As := []) (st := []) (pc := 1) C (CtX11_isNumberLine cS1) mX11_isNumberLine iX11_isNumberLine kX11_305 (Nat.le_of_ble_eq_true rfl) rfl (by decide) rfl rfl rfl rfl (Nat.le_of_ble_eq_true rfl) ⟨Nat.le_of_ble_eq_true rfl, Nat.le_of_ble_eq_true rfl⟩ dX11_readLine_1 ?_
  refine wp_if_eq (pc := 4) C 14 dX11_readLine_4 (by decide) (fun q => ?_) (fun q => ?_)
  · have h := it_pos q h
    refine wp_aload_n (pc := 14) C 0 dX11_readLine_14 rfl rfl ?_
    refine wp_ldc2 (pc := 15) C qX11_209 dX11_readLine_15 ?_
    obtain ⟨S3, r4, cS3, h⟩ := bd_some h
    refine wp_callVi (As := [.long 6584677]) (st := []) (pc := 18) C (CtX11_isWord cS3) mX11_isWord iX11_isWord kX11_235 (Nat.le_of_ble_eq_true rfl) rfl (by decide) rfl rfl rfl rfl (Nat.le_of_ble_eq_true rfl) ⟨Nat.le_of_ble_eq_true rfl, Nat.le_of_ble_eq_true rfl⟩ dX11_readLine_18 ?_
    refine wp_if_eq (pc := 21) C 51 dX11_readLine_21 (by decide) (fun q => ?_) (fun q => ?_)
    · have h := it_pos q h
      exact (wX11_readLine_j51 C h)
    · have h := it_neg q h
      refine wp_aload_n (pc := 24) C 0 dX11_readLine_24 rfl rfl ?_
      refine wp_getS (v := 3) (pc := 25) C flX11_21 rfl rfl (Nat.le_of_ble_eq_true rfl) (Nat.le_of_ble_eq_true rfl) rfl dX11_readLine_25 ?_
      refine wp_iconst (v := 0) (pc := 28) C dX11_readLine_28 (by decide) ?_
      obtain ⟨g5, h⟩ := gd_some h
      refine wp_iald (pc := 29) C (Nat.le_of_ble_eq_true rfl) rfl g5 dX11_readLine_29 ?_
      refine wp_bipush (v := 8) (pc := 30) C dX11_readLine_30 (by decide) ?_
      refine wp_icmp_ge (pc := 32) C 51 dX11_readLine_32 (by decide) (fun q => ?_) (fun q => ?_)
      · have h := it_pos q h
        exact (wX11_readLine_j51 C h)
      · have h := it_neg q h
        refine wp_aload_n (pc := 35) C 0 dX11_readLine_35 rfl rfl ?_
        refine wp_getS (v := 3) (pc := 36) C flX11_21 rfl rfl (Nat.le_of_ble_eq_true rfl) (Nat.le_of_ble_eq_true rfl) rfl dX11_readLine_36 ?_
        refine wp_iconst (v := 4) (pc := 39) C dX11_readLine_39 (by decide) ?_
        obtain ⟨g6, h⟩ := gd_some h
        refine wp_iald (pc := 40) C (Nat.le_of_ble_eq_true rfl) rfl g6 dX11_readLine_40 ?_
        refine wp_if_ne (pc := 41) C 51 dX11_readLine_41 (by decide) (fun q => ?_) (fun q => ?_)
        · have h := it_neg q h
          exact (wX11_readLine_j51 C h)
        · have h := it_pos q h
          refine wp_aload_n (pc := 44) C 0 dX11_readLine_44 rfl rfl ?_
          obtain ⟨S7, r8, cS7, h⟩ := bd_some h
          refine wp_callVv (As := []) (st := []) (pc := 45) C (CtX11_readDye cS7) mX11_readDye iX11_readDye kX11_311 (Nat.le_of_ble_eq_true rfl) rfl (by decide) rfl rfl rfl rfl (Nat.le_of_ble_eq_true rfl) ⟨Nat.le_of_ble_eq_true rfl, Nat.le_of_ble_eq_true rfl⟩ dX11_readLine_45 ?_
          refine wp_goto (pc := 48) C 220 dX11_readLine_48 (by decide) ?_
          exact (wX11_readLine_j220 C h)
  · have h := it_neg q h
    refine wp_aload_n (pc := 7) C 0 dX11_readLine_7 rfl rfl ?_
    obtain ⟨S9, r10, cS9, h⟩ := bd_some h
    refine wp_callVv (As := []) (st := []) (pc := 8) C (CtX11_readNumberLine cS9) mX11_readNumberLine iX11_readNumberLine kX11_308 (Nat.le_of_ble_eq_true rfl) rfl (by decide) rfl rfl rfl rfl (Nat.le_of_ble_eq_true rfl) ⟨Nat.le_of_ble_eq_true rfl, Nat.le_of_ble_eq_true rfl⟩ dX11_readLine_8 ?_
    refine wp_goto (pc := 11) C 220 dX11_readLine_11 (by decide) ?_
    exact (wX11_readLine_j220 C h)
theorem CtX11_readLine {n : Nat} {S S' : St} {r : Unit} (h : fX11_readLine n S = some (S', r)) : Ct l sdM cy ad D yX11_readLine cX11_readLine 1 none 5 113 [.ref (ad 0)] S none S' :=
  Ct_of (own := RX11) mX11_readLine rfl (Nat.le_of_ble_eq_true rfl) (fun G e1 e2 e3 e4 C => by subst e1 e2 e3 e4; exact wX11_readLine C h)
def fX11_readAll_l99 (n : Nat) : Nat → St → Option (St × Unit)
  | 0, _ => none
  | j + 1, S =>
    if (S.1 0 2) = 0 then
      if (S.1 0 6) = 0 then
        some (S, ())
      else
        bd (fX11_readLine n S) (fun S1 r2 =>
        fX11_readAll_l99 n j S1)
    else
      some (S, ())
set_option maxRecDepth 100000 in
set_option maxHeartbeats 4000000 in
theorem wX11_readAll_l99 (C : Cx G sdM cX11_readAll 2 RX11 none) {n : Nat} {S' : St} {r : Unit} : ∀ (j : Nat) (S : St), fX11_readAll_l99 n j S = some (S', r) → Wp G sdM (rmOf 6 133) 2 (Qm G sdM none S') S 99 [(0, .ref (gA G 0))] [] := by
  intro j
  induction j with
  | zero =>
    intro S h
    exact nomatch (show (none : Option (St × Unit)) = some _ from h)
  | succ j ih =>
    intro S h
    rw [fX11_readAll_l99] at h
    refine wp_aload_n (pc := 99) C 0 dX11_readAll_99 rfl rfl ?_
    refine wp_getI (pc := 100) C flX11_204 rfl (Nat.le_of_ble_eq_true rfl) rfl dX11_readAll_100 ?_
    refine wp_if_ne (pc := 103) C 120 dX11_readAll_103 (by decide) (fun q => ?_) (fun q => ?_)
    · have h := it_neg q h
      exact rt_v C rfl h dX11_readAll_120
    · have h := it_pos q h
      refine wp_aload_n (pc := 106) C 0 dX11_readAll_106 rfl rfl ?_
      refine wp_getI (pc := 107) C flX11_194 rfl (Nat.le_of_ble_eq_true rfl) rfl dX11_readAll_107 ?_
      refine wp_if_eq (pc := 110) C 120 dX11_readAll_110 (by decide) (fun q => ?_) (fun q => ?_)
      · have h := it_pos q h
        exact rt_v C rfl h dX11_readAll_120
      · have h := it_neg q h
        refine wp_aload_n (pc := 113) C 0 dX11_readAll_113 rfl rfl ?_
        obtain ⟨S1, r2, cS1, h⟩ := bd_some h
        refine wp_callVv (As := []) (st := []) (pc := 114) C (CtX11_readLine cS1) mX11_readLine iX11_readLine kX11_324 (Nat.le_of_ble_eq_true rfl) rfl (by decide) rfl rfl rfl rfl (Nat.le_of_ble_eq_true rfl) ⟨Nat.le_of_ble_eq_true rfl, Nat.le_of_ble_eq_true rfl⟩ dX11_readAll_114 ?_
        refine wp_goto (pc := 117) C 99 dX11_readAll_117 (by decide) ?_
        exact (ih _ h)
def fX11_readAll_j48 (n : Nat) (S : St) : Option (St × Unit) :=
  bn (sI S 0 29 4) (fun S1 : St =>
  bn (sI S1 0 30 12) (fun S2 : St =>
  bn (sI S2 0 31 10) (fun S3 : St =>
  bn (sI S3 0 32 0) (fun S4 : St =>
  bn (sI S4 0 37 0) (fun S5 : St =>
  bn (sI S5 0 38 0) (fun S6 : St =>
  bn (sI S6 0 39 0) (fun S7 : St =>
  bn (sI S7 0 40 0) (fun S8 : St =>
  bn (sI S8 0 41 0) (fun S9 : St =>
  bd (fX11_token n S9) (fun S10 r11 =>
  fX11_readAll_l99 n n S10))))))))))
set_option maxRecDepth 100000 in
set_option maxHeartbeats 4000000 in
theorem wX11_readAll_j48 (C : Cx G sdM cX11_readAll 2 RX11 none) {n : Nat} {S S' : St} {r : Unit} (h : fX11_readAll_j48 n S = some (S', r)) : Wp G sdM (rmOf 6 133) 2 (Qm G sdM none S') S 48 [(0, .ref (gA G 0))] [] := by
  unfold fX11_readAll_j48 at h
  refine wp_aload_n (pc := 48) C 0 dX11_readAll_48 rfl rfl ?_
  refine wp_iconst (v := 4) (pc := 49) C dX11_readAll_49 (by decide) ?_
  obtain ⟨S1, eS1, h⟩ := bn_some h
  refine wp_putI (pc := 50) C eS1 flX11_260 fpX11_29 rfl (Nat.le_of_ble_eq_true rfl) rfl dX11_readAll_50 ?_
  refine wp_aload_n (pc := 53) C 0 dX11_readAll_53 rfl rfl ?_
  refine wp_bipush (v := 12) (pc := 54) C dX11_readAll_54 (by decide) ?_
  obtain ⟨S2, eS2, h⟩ := bn_some h
  refine wp_putI (pc := 56) C eS2 flX11_274 fpX11_30 rfl (Nat.le_of_ble_eq_true rfl) rfl dX11_readAll_56 ?_
  refine wp_aload_n (pc := 59) C 0 dX11_readAll_59 rfl rfl ?_
  refine wp_bipush (v := 10) (pc := 60) C dX11_readAll_60 (by decide) ?_
  obtain ⟨S3, eS3, h⟩ := bn_some h
  refine wp_putI (pc := 62) C eS3 flX11_299 fpX11_31 rfl (Nat.le_of_ble_eq_true rfl) rfl dX11_readAll_62 ?_
  refine wp_aload_n (pc := 65) C 0 dX11_readAll_65 rfl rfl ?_
  refine wp_iconst (v := 0) (pc := 66) C dX11_readAll_66 (by decide) ?_
  obtain ⟨S4, eS4, h⟩ := bn_some h
  refine wp_putI (pc := 67) C eS4 flX11_302 fpX11_32 rfl (Nat.le_of_ble_eq_true rfl) rfl dX11_readAll_67 ?_
  refine wp_aload_n (pc := 70) C 0 dX11_readAll_70 rfl rfl ?_
  refine wp_iconst (v := 0) (pc := 71) C dX11_readAll_71 (by decide) ?_
  obtain ⟨S5, eS5, h⟩ := bn_some h
  refine wp_putZ (pc := 72) C (Or.inl rfl) eS5 flX11_281 fpX11_37 rfl (Nat.le_of_ble_eq_true rfl) rfl dX11_readAll_72 ?_
  refine wp_aload_n (pc := 75) C 0 dX11_readAll_75 rfl rfl ?_
  refine wp_iconst (v := 0) (pc := 76) C dX11_readAll_76 (by decide) ?_
  obtain ⟨S6, eS6, h⟩ := bn_some h
  refine wp_putZ (pc := 77) C (Or.inl rfl) eS6 flX11_287 fpX11_38 rfl (Nat.le_of_ble_eq_true rfl) rfl dX11_readAll_77 ?_
  refine wp_aload_n (pc := 80) C 0 dX11_readAll_80 rfl rfl ?_
  refine wp_iconst (v := 0) (pc := 81) C dX11_readAll_81 (by decide) ?_
  obtain ⟨S7, eS7, h⟩ := bn_some h
  refine wp_putZ (pc := 82) C (Or.inl rfl) eS7 flX11_290 fpX11_39 rfl (Nat.le_of_ble_eq_true rfl) rfl dX11_readAll_82 ?_
  refine wp_aload_n (pc := 85) C 0 dX11_readAll_85 rfl rfl ?_
  refine wp_iconst (v := 0) (pc := 86) C dX11_readAll_86 (by decide) ?_
  obtain ⟨S8, eS8, h⟩ := bn_some h
  refine wp_putZ (pc := 87) C (Or.inl rfl) eS8 flX11_277 fpX11_40 rfl (Nat.le_of_ble_eq_true rfl) rfl dX11_readAll_87 ?_
  refine wp_aload_n (pc := 90) C 0 dX11_readAll_90 rfl rfl ?_
  refine wp_iconst (v := 0) (pc := 91) C dX11_readAll_91 (by decide) ?_
  obtain ⟨S9, eS9, h⟩ := bn_some h
  refine wp_putZ (pc := 92) C (Or.inl rfl) eS9 flX11_293 fpX11_41 rfl (Nat.le_of_ble_eq_true rfl) rfl dX11_readAll_92 ?_
  refine wp_aload_n (pc := 95) C 0 dX11_readAll_95 rfl rfl ?_
  obtain ⟨S10, r11, cS10, h⟩ := bd_some h
  refine wp_callVv (As := []) (st := []) (pc := 96) C (CtX11_token cS10) mX11_token iX11_token kX11_242 (Nat.le_of_ble_eq_true rfl) rfl (by decide) rfl rfl rfl rfl (Nat.le_of_ble_eq_true rfl) ⟨Nat.le_of_ble_eq_true rfl, Nat.le_of_ble_eq_true rfl⟩ dX11_readAll_96 ?_
  exact (wX11_readAll_l99 C _ _ h)
def fX11_readAll_l30 (n : Nat) : Nat → St → Int32 → Option (St × Unit)
  | 0, _, _ => none
  | j + 1, S, x1 =>
    if 5 ≤ x1 then
      fX11_readAll_j48 n S
    else
      gd (ib x1 5) (
      bn (sI S 3 (Int32.toNatClampNeg x1) 0) (fun S2 : St =>
      bn (x1 + 1) (fun z3 : Int32 =>
      fX11_readAll_l30 n j S2 z3)))
set_option maxRecDepth 100000 in
set_option maxHeartbeats 4000000 in
theorem wX11_readAll_l30 (C : Cx G sdM cX11_readAll 2 RX11 none) {n : Nat} {S' : St} {r : Unit} : ∀ (j : Nat) (S : St) (x1 : Int32), fX11_readAll_l30 n j S x1 = some (S', r) → Wp G sdM (rmOf 6 133) 2 (Qm G sdM none S') S 30 [(0, .ref (gA G 0)), (1, .int x1)] [] := by
  intro j
  induction j with
  | zero =>
    intro S x1 h
    exact nomatch (show (none : Option (St × Unit)) = some _ from h)
  | succ j ih =>
    intro S x1 h
    rw [fX11_readAll_l30] at h
    refine wp_iload_n (pc := 30) C 1 dX11_readAll_30 rfl rfl ?_
    refine wp_iconst (v := 5) (pc := 31) C dX11_readAll_31 (by decide) ?_
    refine wp_icmp_ge (pc := 32) C 48 dX11_readAll_32 (by decide) (fun q => ?_) (fun q => ?_)
    · have h := it_pos q h
      exact wp_sub C [0] rfl (wX11_readAll_j48 C h)
    · have h := it_neg q h
      refine wp_aload_n (pc := 35) C 0 dX11_readAll_35 rfl rfl ?_
      refine wp_getS (v := 3) (pc := 36) C flX11_21 rfl rfl (Nat.le_of_ble_eq_true rfl) (Nat.le_of_ble_eq_true rfl) rfl dX11_readAll_36 ?_
      refine wp_iload_n (pc := 39) C 1 dX11_readAll_39 rfl rfl ?_
      refine wp_iconst (v := 0) (pc := 40) C dX11_readAll_40 (by decide) ?_
      obtain ⟨g1, h⟩ := gd_some h
      obtain ⟨S2, eS2, h⟩ := bn_some h
      refine wp_iast (pc := 41) C eS2 (Nat.le_of_ble_eq_true rfl) rfl g1 dX11_readAll_41 ?_
      obtain ⟨z3, ez3, h⟩ := bn_some h
      refine wp_iinc (q := 1) (pc := 42) C (by decide) ez3 [(1, .int z3), (0, .ref (gA G 0))] dX11_readAll_42 rfl (Nat.le_of_ble_eq_true rfl) rfl ?_
      refine wp_goto (pc := 45) C 30 dX11_readAll_45 (by decide) ?_
      exact wp_sub C [1, 0] rfl (ih _ _ h)
def fX11_readAll (n : Nat) (S : St) : Option (St × Unit) :=
  bn (sI S 0 5 (S.1 0 1)) (fun S1 : St =>
  bn (sI S1 0 1 0) (fun S2 : St =>
  bn (sI S2 0 4 0) (fun S3 : St =>
  bn (sI S3 0 2 0) (fun S4 : St =>
  bn (sI S4 0 3 (-1)) (fun S5 : St =>
  fX11_readAll_l30 n n S5 0)))))
set_option maxRecDepth 100000 in
set_option maxHeartbeats 4000000 in
theorem wX11_readAll (C : Cx G sdM cX11_readAll 2 RX11 none) {n : Nat} {S S' : St} {r : Unit} (h : fX11_readAll n S = some (S', r)) : Wp G sdM (rmOf 6 133) 2 (Qm G sdM none S') S 0 [(0, .ref (gA G 0))] [] := by
  unfold fX11_readAll at h
  refine wp_aload_n (pc := 0) C 0 dX11_readAll_0 rfl rfl ?_
  refine wp_aload_n (pc := 1) C 0 dX11_readAll_1 rfl rfl ?_
  refine wp_getI (pc := 2) C flX11_167 rfl (Nat.le_of_ble_eq_true rfl) rfl dX11_readAll_2 ?_
  obtain ⟨S1, eS1, h⟩ := bn_some h
  refine wp_putI (pc := 5) C eS1 flX11_177 fpX11_5 rfl (Nat.le_of_ble_eq_true rfl) rfl dX11_readAll_5 ?_
  refine wp_aload_n (pc := 8) C 0 dX11_readAll_8 rfl rfl ?_
  refine wp_iconst (v := 0) (pc := 9) C dX11_readAll_9 (by decide) ?_
  obtain ⟨S2, eS2, h⟩ := bn_some h
  refine wp_putI (pc := 10) C eS2 flX11_167 fpX11_1 rfl (Nat.le_of_ble_eq_true rfl) rfl dX11_readAll_10 ?_
  refine wp_aload_n (pc := 13) C 0 dX11_readAll_13 rfl rfl ?_
  refine wp_iconst (v := 0) (pc := 14) C dX11_readAll_14 (by decide) ?_
  obtain ⟨S3, eS3, h⟩ := bn_some h
  refine wp_putI (pc := 15) C eS3 flX11_174 fpX11_4 rfl (Nat.le_of_ble_eq_true rfl) rfl dX11_readAll_15 ?_
  refine wp_aload_n (pc := 18) C 0 dX11_readAll_18 rfl rfl ?_
  refine wp_iconst (v := 0) (pc := 19) C dX11_readAll_19 (by decide) ?_
  obtain ⟨S4, eS4, h⟩ := bn_some h
  refine wp_putI (pc := 20) C eS4 flX11_204 fpX11_2 rfl (Nat.le_of_ble_eq_true rfl) rfl dX11_readAll_20 ?_
  refine wp_aload_n (pc := 23) C 0 dX11_readAll_23 rfl rfl ?_
  refine wp_iconst (v := (-1)) (pc := 24) C dX11_readAll_24 (by decide) ?_
  obtain ⟨S5, eS5, h⟩ := bn_some h
  refine wp_putI (pc := 25) C eS5 flX11_13 fpX11_3 rfl (Nat.le_of_ble_eq_true rfl) rfl dX11_readAll_25 ?_
  refine wp_iconst (v := 0) (pc := 28) C dX11_readAll_28 (by decide) ?_
  refine wp_istore_n (pc := 29) C rfl [(1, .int 0), (0, .ref (gA G 0))] dX11_readAll_29 rfl (Nat.le_of_ble_eq_true rfl) rfl ?_
  exact wp_sub C [1, 0] rfl (wX11_readAll_l30 C _ _ _ h)
theorem CtX11_readAll {n : Nat} {S S' : St} {r : Unit} (h : fX11_readAll n S = some (S', r)) : Ct l sdM cy ad D yX11_readAll cX11_readAll 2 none 6 133 [.ref (ad 0)] S none S' :=
  Ct_of (own := RX11) mX11_readAll rfl (Nat.le_of_ble_eq_true rfl) (fun G e1 e2 e3 e4 C => by subst e1 e2 e3 e4; exact wX11_readAll C h)
def fX11_addOld (n : Nat) (S : St) (x1 : Int32) (x2 : Int32) : Option (St × Unit) :=
  gd (ib (S.1 0 70) 72) (
  bn (sI S 32 (Int32.toNatClampNeg (S.1 0 70)) x1) (fun S2 : St =>
  gd (ib (S2.1 0 70) 72) (
  bn (sI S2 33 (Int32.toNatClampNeg (S2.1 0 70)) x2) (fun S4 : St =>
  bn (sI S4 0 70 ((S4.1 0 70) + 1)) (fun S5 : St =>
  some (S5, ()))))))
set_option maxRecDepth 100000 in
set_option maxHeartbeats 4000000 in
theorem wX11_addOld (C : Cx G sdM cX11_addOld 3 RX11 none) {n : Nat} {S S' : St} {r : Unit} {x1 : Int32} {x2 : Int32} (h : fX11_addOld n S x1 x2 = some (S', r)) : Wp G sdM (rmOf 0 0) 3 (Qm G sdM none S') S 0 [(0, .ref (gA G 0)), (1, .int x1), (2, .int x2)] [] := by
  unfold fX11_addOld at h
  refine wp_aload_n (pc := 0) C 0 dX11_addOld_0 rfl rfl ?_
  refine wp_getS (v := 32) (pc := 1) C flX11_112 rfl rfl (Nat.le_of_ble_eq_true rfl) (Nat.le_of_ble_eq_true rfl) rfl dX11_addOld_1 ?_
  refine wp_aload_n (pc := 4) C 0 dX11_addOld_4 rfl rfl ?_
  refine wp_getI (pc := 5) C flX11_516 rfl (Nat.le_of_ble_eq_true rfl) rfl dX11_addOld_5 ?_
  refine wp_iload_n (pc := 8) C 1 dX11_addOld_8 rfl rfl ?_
  obtain ⟨g1, h⟩ := gd_some h
  obtain ⟨S2, eS2, h⟩ := bn_some h
  refine wp_iast (pc := 9) C eS2 (Nat.le_of_ble_eq_true rfl) rfl g1 dX11_addOld_9 ?_
  refine wp_aload_n (pc := 10) C 0 dX11_addOld_10 rfl rfl ?_
  refine wp_getS (v := 33) (pc := 11) C flX11_115 rfl rfl (Nat.le_of_ble_eq_true rfl) (Nat.le_of_ble_eq_true rfl) rfl dX11_addOld_11 ?_
  refine wp_aload_n (pc := 14) C 0 dX11_addOld_14 rfl rfl ?_
  refine wp_getI (pc := 15) C flX11_516 rfl (Nat.le_of_ble_eq_true rfl) rfl dX11_addOld_15 ?_
  refine wp_iload_n (pc := 18) C 2 dX11_addOld_18 rfl rfl ?_
  obtain ⟨g3, h⟩ := gd_some h
  obtain ⟨S4, eS4, h⟩ := bn_some h
  refine wp_iast (pc := 19) C eS4 (Nat.le_of_ble_eq_true rfl) rfl g3 dX11_addOld_19 ?_
  refine wp_aload_n (pc := 20) C 0 dX11_addOld_20 rfl rfl ?_
  refine wp_dup (pc := 21) C dX11_addOld_21 rfl ?_
  refine wp_getI (pc := 22) C flX11_516 rfl (Nat.le_of_ble_eq_true rfl) rfl dX11_addOld_22 ?_
  refine wp_iconst (v := 1) (pc := 25) C dX11_addOld_25 (by decide) ?_
  refine wp_iadd (pc := 26) C dX11_addOld_26 ?_
  obtain ⟨S5, eS5, h⟩ := bn_some h
  refine wp_putI (pc := 27) C eS5 flX11_516 fpX11_70 rfl (Nat.le_of_ble_eq_true rfl) rfl dX11_addOld_27 ?_
  exact rt_v C rfl h dX11_addOld_30
theorem CtX11_addOld {n : Nat} {S S' : St} {r : Unit} {x1 : Int32} {x2 : Int32} (h : fX11_addOld n S x1 x2 = some (S', r)) : Ct l sdM cy ad D yX11_addOld cX11_addOld 3 none 0 0 [.ref (ad 0), .int x1, .int x2] S none S' :=
  Ct_of (own := RX11) mX11_addOld rfl (Nat.le_of_ble_eq_true rfl) (fun G e1 e2 e3 e4 C => by subst e1 e2 e3 e4; exact wX11_addOld C h)
def fX11_dyes (n : Nat) (S : St) : Option (St × Int32) :=
  gd (ib 0 5) (
  some (S, S.1 4 (Int32.toNatClampNeg 0)))
set_option maxRecDepth 100000 in
set_option maxHeartbeats 4000000 in
theorem wX11_dyes (C : Cx G sdM cX11_dyes 1 RX11 (some .int)) {n : Nat} {S S' : St} {r : Int32} (h : fX11_dyes n S = some (S', r)) : Wp G sdM (rmOf 0 0) 1 (Qm G sdM (some (.int r)) S') S 0 [(0, .ref (gA G 0))] [] := by
  unfold fX11_dyes at h
  refine wp_aload_n (pc := 0) C 0 dX11_dyes_0 rfl rfl ?_
  refine wp_getS (v := 4) (pc := 1) C flX11_24 rfl rfl (Nat.le_of_ble_eq_true rfl) (Nat.le_of_ble_eq_true rfl) rfl dX11_dyes_1 ?_
  refine wp_iconst (v := 0) (pc := 4) C dX11_dyes_4 (by decide) ?_
  obtain ⟨g1, h⟩ := gd_some h
  refine wp_iald (pc := 5) C (Nat.le_of_ble_eq_true rfl) rfl g1 dX11_dyes_5 ?_
  exact rt_i C rfl h dX11_dyes_6
theorem CtX11_dyes {n : Nat} {S S' : St} {r : Int32} (h : fX11_dyes n S = some (S', r)) : Ct l sdM cy ad D yX11_dyes cX11_dyes 1 (some .int) 0 0 [.ref (ad 0)] S (some (.int r)) S' :=
  Ct_of (own := RX11) mX11_dyes rfl (Nat.le_of_ble_eq_true rfl) (fun G e1 e2 e3 e4 C => by subst e1 e2 e3 e4; exact wX11_dyes C h)
def fX11_layOld_j77 (n : Nat) (k31 : St → Int32 → Option (St × Unit)) (S : St) (x1 : Int32) : Option (St × Unit) :=
  bn (x1 + 1) (fun z1 : Int32 =>
  k31 S z1)
set_option maxRecDepth 100000 in
set_option maxHeartbeats 4000000 in
theorem wX11_layOld_j77 (C : Cx G sdM cX11_layOld 3 RX11 none) {n : Nat} {k31 : St → Int32 → Option (St × Unit)} {S S' : St} {r : Unit} {x1 : Int32} (hk31 : ∀ (S : St) (x1 : Int32), k31 S x1 = some (S', r) → Wp G sdM (rmOf 1 22) 3 (Qm G sdM none S') S 31 [(0, .ref (gA G 0)), (1, .int x1)] []) (h : fX11_layOld_j77 n k31 S x1 = some (S', r)) : Wp G sdM (rmOf 1 22) 3 (Qm G sdM none S') S 77 [(0, .ref (gA G 0)), (1, .int x1)] [] := by
  unfold fX11_layOld_j77 at h
  obtain ⟨z1, ez1, h⟩ := bn_some h
  refine wp_iinc (q := 1) (pc := 77) C (by decide) ez1 [(1, .int z1), (0, .ref (gA G 0))] dX11_layOld_77 rfl (Nat.le_of_ble_eq_true rfl) rfl ?_
  refine wp_goto (pc := 80) C 31 dX11_layOld_80 (by decide) ?_
  exact wp_sub C [1, 0] rfl (hk31 _ _ h)
def fX11_layOld_j71 (n : Nat) (k31 : St → Int32 → Option (St × Unit)) (k43 : St → Int32 → Int32 → Option (St × Unit)) (S : St) (x1 : Int32) (x2 : Int32) : Option (St × Unit) :=
  bn (x2 + 1) (fun z1 : Int32 =>
  k43 S x1 z1)
set_option maxRecDepth 100000 in
set_option maxHeartbeats 4000000 in
theorem wX11_layOld_j71 (C : Cx G sdM cX11_layOld 3 RX11 none) {n : Nat} {k31 : St → Int32 → Option (St × Unit)} {k43 : St → Int32 → Int32 → Option (St × Unit)} {S S' : St} {r : Unit} {x1 : Int32} {x2 : Int32} (hk31 : ∀ (S : St) (x1 : Int32), k31 S x1 = some (S', r) → Wp G sdM (rmOf 1 22) 3 (Qm G sdM none S') S 31 [(0, .ref (gA G 0)), (1, .int x1)] []) (hk43 : ∀ (S : St) (x1 : Int32) (x2 : Int32), k43 S x1 x2 = some (S', r) → Wp G sdM (rmOf 1 22) 3 (Qm G sdM none S') S 43 [(0, .ref (gA G 0)), (1, .int x1), (2, .int x2)] []) (h : fX11_layOld_j71 n k31 k43 S x1 x2 = some (S', r)) : Wp G sdM (rmOf 1 22) 3 (Qm G sdM none S') S 71 [(0, .ref (gA G 0)), (1, .int x1), (2, .int x2)] [] := by
  unfold fX11_layOld_j71 at h
  obtain ⟨z1, ez1, h⟩ := bn_some h
  refine wp_iinc (q := 2) (pc := 71) C (by decide) ez1 [(2, .int z1), (0, .ref (gA G 0)), (1, .int x1)] dX11_layOld_71 rfl (Nat.le_of_ble_eq_true rfl) rfl ?_
  refine wp_goto (pc := 74) C 43 dX11_layOld_74 (by decide) ?_
  exact wp_sub C [1, 2, 0] rfl (hk43 _ _ _ h)
def fX11_layOld_l43 (n : Nat) (k31 : St → Int32 → Option (St × Unit)) : Nat → St → Int32 → Int32 → Option (St × Unit)
  | 0, _, _, _ => none
  | j + 1, S, x1, x2 =>
    bd (fX11_dyes n S) (fun S1 r2 =>
    if r2 ≤ x2 then
      fX11_layOld_j77 n k31 S1 x1
    else
      gd (ib ((8 * x1) + x2) 64) (
      if (S1.1 20 (Int32.toNatClampNeg ((8 * x1) + x2))) ≤ 0 then
        fX11_layOld_j71 n k31 (fX11_layOld_l43 n k31 j) S1 x1 x2
      else
        bd (fX11_addOld n S1 x1 x2) (fun S4 r5 =>
        fX11_layOld_j71 n k31 (fX11_layOld_l43 n k31 j) S4 x1 x2)))
set_option maxRecDepth 100000 in
set_option maxHeartbeats 4000000 in
theorem wX11_layOld_l43 (C : Cx G sdM cX11_layOld 3 RX11 none) {n : Nat} {k31 : St → Int32 → Option (St × Unit)} {S' : St} {r : Unit} (hk31 : ∀ (S : St) (x1 : Int32), k31 S x1 = some (S', r) → Wp G sdM (rmOf 1 22) 3 (Qm G sdM none S') S 31 [(0, .ref (gA G 0)), (1, .int x1)] []) : ∀ (j : Nat) (S : St) (x1 : Int32) (x2 : Int32), fX11_layOld_l43 n k31 j S x1 x2 = some (S', r) → Wp G sdM (rmOf 1 22) 3 (Qm G sdM none S') S 43 [(0, .ref (gA G 0)), (1, .int x1), (2, .int x2)] [] := by
  intro j
  induction j with
  | zero =>
    intro S x1 x2 h
    exact nomatch (show (none : Option (St × Unit)) = some _ from h)
  | succ j ih =>
    intro S x1 x2 h
    rw [fX11_layOld_l43] at h
    refine wp_iload_n (pc := 43) C 2 dX11_layOld_43 rfl rfl ?_
    refine wp_aload_n (pc := 44) C 0 dX11_layOld_44 rfl rfl ?_
    obtain ⟨S1, r2, cS1, h⟩ := bd_some h
    refine wp_callVi (As := []) (st := [.int x2]) (pc := 45) C (CtX11_dyes cS1) mX11_dyes iX11_dyes kX11_357 (Nat.le_of_ble_eq_true rfl) rfl (by decide) rfl rfl rfl rfl (Nat.le_of_ble_eq_true rfl) ⟨Nat.le_of_ble_eq_true rfl, Nat.le_of_ble_eq_true rfl⟩ dX11_layOld_45 ?_
    refine wp_icmp_ge (pc := 48) C 77 dX11_layOld_48 (by decide) (fun q => ?_) (fun q => ?_)
    · have h := it_pos q h
      exact wp_sub C [0, 1] rfl (wX11_layOld_j77 C hk31 h)
    · have h := it_neg q h
      refine wp_aload_n (pc := 51) C 0 dX11_layOld_51 rfl rfl ?_
      refine wp_getS (v := 20) (pc := 52) C flX11_72 rfl rfl (Nat.le_of_ble_eq_true rfl) (Nat.le_of_ble_eq_true rfl) rfl dX11_layOld_52 ?_
      refine wp_bipush (v := 8) (pc := 55) C dX11_layOld_55 (by decide) ?_
      refine wp_iload_n (pc := 57) C 1 dX11_layOld_57 rfl rfl ?_
      refine wp_imul (pc := 58) C dX11_layOld_58 ?_
      refine wp_iload_n (pc := 59) C 2 dX11_layOld_59 rfl rfl ?_
      refine wp_iadd (pc := 60) C dX11_layOld_60 ?_
      obtain ⟨g3, h⟩ := gd_some h
      refine wp_iald (pc := 61) C (Nat.le_of_ble_eq_true rfl) rfl g3 dX11_layOld_61 ?_
      refine wp_if_le (pc := 62) C 71 dX11_layOld_62 (by decide) (fun q => ?_) (fun q => ?_)
      · have h := it_pos q h
        exact (wX11_layOld_j71 C hk31 ih h)
      · have h := it_neg q h
        refine wp_aload_n (pc := 65) C 0 dX11_layOld_65 rfl rfl ?_
        refine wp_iload_n (pc := 66) C 1 dX11_layOld_66 rfl rfl ?_
        refine wp_iload_n (pc := 67) C 2 dX11_layOld_67 rfl rfl ?_
        obtain ⟨S4, r5, cS4, h⟩ := bd_some h
        refine wp_callVv (As := [.int x1, .int x2]) (st := []) (pc := 68) C (CtX11_addOld cS4) mX11_addOld iX11_addOld kX11_519 (Nat.le_of_ble_eq_true rfl) rfl (by decide) rfl rfl rfl rfl (Nat.le_of_ble_eq_true rfl) ⟨Nat.le_of_ble_eq_true rfl, Nat.le_of_ble_eq_true rfl⟩ dX11_layOld_68 ?_
        exact (wX11_layOld_j71 C hk31 ih h)
def fX11_layOld_l31 (n : Nat) : Nat → St → Int32 → Option (St × Unit)
  | 0, _, _ => none
  | j + 1, S, x1 =>
    gd (ib 4 5) (
    if (S.1 4 (Int32.toNatClampNeg 4)) ≤ x1 then
      some (S, ())
    else
      fX11_layOld_l43 n (fX11_layOld_l31 n j) n S x1 0)
set_option maxRecDepth 100000 in
set_option maxHeartbeats 4000000 in
theorem wX11_layOld_l31 (C : Cx G sdM cX11_layOld 3 RX11 none) {n : Nat} {S' : St} {r : Unit} : ∀ (j : Nat) (S : St) (x1 : Int32), fX11_layOld_l31 n j S x1 = some (S', r) → Wp G sdM (rmOf 1 22) 3 (Qm G sdM none S') S 31 [(0, .ref (gA G 0)), (1, .int x1)] [] := by
  intro j
  induction j with
  | zero =>
    intro S x1 h
    exact nomatch (show (none : Option (St × Unit)) = some _ from h)
  | succ j ih =>
    intro S x1 h
    rw [fX11_layOld_l31] at h
    refine wp_iload_n (pc := 31) C 1 dX11_layOld_31 rfl rfl ?_
    refine wp_aload_n (pc := 32) C 0 dX11_layOld_32 rfl rfl ?_
    refine wp_getS (v := 4) (pc := 33) C flX11_24 rfl rfl (Nat.le_of_ble_eq_true rfl) (Nat.le_of_ble_eq_true rfl) rfl dX11_layOld_33 ?_
    refine wp_iconst (v := 4) (pc := 36) C dX11_layOld_36 (by decide) ?_
    obtain ⟨g1, h⟩ := gd_some h
    refine wp_iald (pc := 37) C (Nat.le_of_ble_eq_true rfl) rfl g1 dX11_layOld_37 ?_
    refine wp_icmp_ge (pc := 38) C 83 dX11_layOld_38 (by decide) (fun q => ?_) (fun q => ?_)
    · have h := it_pos q h
      exact rt_v C rfl h dX11_layOld_83
    · have h := it_neg q h
      refine wp_iconst (v := 0) (pc := 41) C dX11_layOld_41 (by decide) ?_
      refine wp_istore_n (pc := 42) C rfl [(2, .int 0), (0, .ref (gA G 0)), (1, .int x1)] dX11_layOld_42 rfl (Nat.le_of_ble_eq_true rfl) rfl ?_
      exact wp_sub C [1, 2, 0] rfl (wX11_layOld_l43 C ih _ _ _ _ h)
def fX11_layOld_j29 (n : Nat) (S : St) : Option (St × Unit) :=
  fX11_layOld_l31 n n S 0
set_option maxRecDepth 100000 in
set_option maxHeartbeats 4000000 in
theorem wX11_layOld_j29 (C : Cx G sdM cX11_layOld 3 RX11 none) {n : Nat} {S S' : St} {r : Unit} (h : fX11_layOld_j29 n S = some (S', r)) : Wp G sdM (rmOf 1 22) 3 (Qm G sdM none S') S 29 [(0, .ref (gA G 0))] [] := by
  unfold fX11_layOld_j29 at h
  refine wp_iconst (v := 0) (pc := 29) C dX11_layOld_29 (by decide) ?_
  refine wp_istore_n (pc := 30) C rfl [(1, .int 0), (0, .ref (gA G 0))] dX11_layOld_30 rfl (Nat.le_of_ble_eq_true rfl) rfl ?_
  exact wp_sub C [1, 0] rfl (wX11_layOld_l31 C _ _ _ h)
def fX11_layOld_l7 (n : Nat) : Nat → St → Int32 → Option (St × Unit)
  | 0, _, _ => none
  | j + 1, S, x1 =>
    gd (ib 4 5) (
    if (S.1 4 (Int32.toNatClampNeg 4)) ≤ x1 then
      fX11_layOld_j29 n S
    else
      bd (fX11_addOld n S x1 (-1)) (fun S2 r3 =>
      bn (x1 + 1) (fun z4 : Int32 =>
      fX11_layOld_l7 n j S2 z4)))
set_option maxRecDepth 100000 in
set_option maxHeartbeats 4000000 in
theorem wX11_layOld_l7 (C : Cx G sdM cX11_layOld 3 RX11 none) {n : Nat} {S' : St} {r : Unit} : ∀ (j : Nat) (S : St) (x1 : Int32), fX11_layOld_l7 n j S x1 = some (S', r) → Wp G sdM (rmOf 1 22) 3 (Qm G sdM none S') S 7 [(0, .ref (gA G 0)), (1, .int x1)] [] := by
  intro j
  induction j with
  | zero =>
    intro S x1 h
    exact nomatch (show (none : Option (St × Unit)) = some _ from h)
  | succ j ih =>
    intro S x1 h
    rw [fX11_layOld_l7] at h
    refine wp_iload_n (pc := 7) C 1 dX11_layOld_7 rfl rfl ?_
    refine wp_aload_n (pc := 8) C 0 dX11_layOld_8 rfl rfl ?_
    refine wp_getS (v := 4) (pc := 9) C flX11_24 rfl rfl (Nat.le_of_ble_eq_true rfl) (Nat.le_of_ble_eq_true rfl) rfl dX11_layOld_9 ?_
    refine wp_iconst (v := 4) (pc := 12) C dX11_layOld_12 (by decide) ?_
    obtain ⟨g1, h⟩ := gd_some h
    refine wp_iald (pc := 13) C (Nat.le_of_ble_eq_true rfl) rfl g1 dX11_layOld_13 ?_
    refine wp_icmp_ge (pc := 14) C 29 dX11_layOld_14 (by decide) (fun q => ?_) (fun q => ?_)
    · have h := it_pos q h
      exact wp_sub C [0] rfl (wX11_layOld_j29 C h)
    · have h := it_neg q h
      refine wp_aload_n (pc := 17) C 0 dX11_layOld_17 rfl rfl ?_
      refine wp_iload_n (pc := 18) C 1 dX11_layOld_18 rfl rfl ?_
      refine wp_iconst (v := (-1)) (pc := 19) C dX11_layOld_19 (by decide) ?_
      obtain ⟨S2, r3, cS2, h⟩ := bd_some h
      refine wp_callVv (As := [.int x1, .int (-1)]) (st := []) (pc := 20) C (CtX11_addOld cS2) mX11_addOld iX11_addOld kX11_519 (Nat.le_of_ble_eq_true rfl) rfl (by decide) rfl rfl rfl rfl (Nat.le_of_ble_eq_true rfl) ⟨Nat.le_of_ble_eq_true rfl, Nat.le_of_ble_eq_true rfl⟩ dX11_layOld_20 ?_
      obtain ⟨z4, ez4, h⟩ := bn_some h
      refine wp_iinc (q := 1) (pc := 23) C (by decide) ez4 [(1, .int z4), (0, .ref (gA G 0))] dX11_layOld_23 rfl (Nat.le_of_ble_eq_true rfl) rfl ?_
      refine wp_goto (pc := 26) C 7 dX11_layOld_26 (by decide) ?_
      exact wp_sub C [1, 0] rfl (ih _ _ h)
def fX11_layOld (n : Nat) (S : St) : Option (St × Unit) :=
  bn (sI S 0 70 0) (fun S1 : St =>
  fX11_layOld_l7 n n S1 0)
set_option maxRecDepth 100000 in
set_option maxHeartbeats 4000000 in
theorem wX11_layOld (C : Cx G sdM cX11_layOld 3 RX11 none) {n : Nat} {S S' : St} {r : Unit} (h : fX11_layOld n S = some (S', r)) : Wp G sdM (rmOf 1 22) 3 (Qm G sdM none S') S 0 [(0, .ref (gA G 0))] [] := by
  unfold fX11_layOld at h
  refine wp_aload_n (pc := 0) C 0 dX11_layOld_0 rfl rfl ?_
  refine wp_iconst (v := 0) (pc := 1) C dX11_layOld_1 (by decide) ?_
  obtain ⟨S1, eS1, h⟩ := bn_some h
  refine wp_putI (pc := 2) C eS1 flX11_516 fpX11_70 rfl (Nat.le_of_ble_eq_true rfl) rfl dX11_layOld_2 ?_
  refine wp_iconst (v := 0) (pc := 5) C dX11_layOld_5 (by decide) ?_
  refine wp_istore_n (pc := 6) C rfl [(1, .int 0), (0, .ref (gA G 0))] dX11_layOld_6 rfl (Nat.le_of_ble_eq_true rfl) rfl ?_
  exact wp_sub C [1, 0] rfl (wX11_layOld_l7 C _ _ _ h)
theorem CtX11_layOld {n : Nat} {S S' : St} {r : Unit} (h : fX11_layOld n S = some (S', r)) : Ct l sdM cy ad D yX11_layOld cX11_layOld 3 none 1 22 [.ref (ad 0)] S none S' :=
  Ct_of (own := RX11) mX11_layOld rfl (Nat.le_of_ble_eq_true rfl) (fun G e1 e2 e3 e4 C => by subst e1 e2 e3 e4; exact wX11_layOld C h)
def fX11_setVat_j21 (n : Nat) (S : St) (x1 : Int32) : Option (St × Unit) :=
  bn (sI S 0 65 x1) (fun S1 : St =>
  bn (sI S1 0 66 0) (fun S2 : St =>
  some (S2, ())))
set_option maxRecDepth 100000 in
set_option maxHeartbeats 4000000 in
theorem wX11_setVat_j21 (C : Cx G sdM cX11_setVat 3 RX11 none) {n : Nat} {S S' : St} {r : Unit} {x1 : Int32} (h : fX11_setVat_j21 n S x1 = some (S', r)) : Wp G sdM (rmOf 0 0) 3 (Qm G sdM none S') S 21 [(0, .ref (gA G 0)), (1, .int x1)] [] := by
  unfold fX11_setVat_j21 at h
  refine wp_aload_n (pc := 21) C 0 dX11_setVat_21 rfl rfl ?_
  refine wp_iload_n (pc := 22) C 1 dX11_setVat_22 rfl rfl ?_
  obtain ⟨S1, eS1, h⟩ := bn_some h
  refine wp_putI (pc := 23) C eS1 flX11_379 fpX11_65 rfl (Nat.le_of_ble_eq_true rfl) rfl dX11_setVat_23 ?_
  refine wp_aload_n (pc := 26) C 0 dX11_setVat_26 rfl rfl ?_
  refine wp_iconst (v := 0) (pc := 27) C dX11_setVat_27 (by decide) ?_
  obtain ⟨S2, eS2, h⟩ := bn_some h
  refine wp_putI (pc := 28) C eS2 flX11_506 fpX11_66 rfl (Nat.le_of_ble_eq_true rfl) rfl dX11_setVat_28 ?_
  exact rt_v C rfl h dX11_setVat_31
def fX11_setVat_l2 (n : Nat) : Nat → St → Int32 → Int32 → Option (St × Unit)
  | 0, _, _, _ => none
  | j + 1, S, x1, x2 =>
    if 8 ≤ x2 then
      fX11_setVat_j21 n S x1
    else
      gd (ib x2 8) (
      bn (sI S 31 (Int32.toNatClampNeg x2) 0) (fun S2 : St =>
      bn (x2 + 1) (fun z3 : Int32 =>
      fX11_setVat_l2 n j S2 x1 z3)))
set_option maxRecDepth 100000 in
set_option maxHeartbeats 4000000 in
theorem wX11_setVat_l2 (C : Cx G sdM cX11_setVat 3 RX11 none) {n : Nat} {S' : St} {r : Unit} : ∀ (j : Nat) (S : St) (x1 : Int32) (x2 : Int32), fX11_setVat_l2 n j S x1 x2 = some (S', r) → Wp G sdM (rmOf 0 0) 3 (Qm G sdM none S') S 2 [(0, .ref (gA G 0)), (1, .int x1), (2, .int x2)] [] := by
  intro j
  induction j with
  | zero =>
    intro S x1 x2 h
    exact nomatch (show (none : Option (St × Unit)) = some _ from h)
  | succ j ih =>
    intro S x1 x2 h
    rw [fX11_setVat_l2] at h
    refine wp_iload_n (pc := 2) C 2 dX11_setVat_2 rfl rfl ?_
    refine wp_bipush (v := 8) (pc := 3) C dX11_setVat_3 (by decide) ?_
    refine wp_icmp_ge (pc := 5) C 21 dX11_setVat_5 (by decide) (fun q => ?_) (fun q => ?_)
    · have h := it_pos q h
      exact wp_sub C [0, 1] rfl (wX11_setVat_j21 C h)
    · have h := it_neg q h
      refine wp_aload_n (pc := 8) C 0 dX11_setVat_8 rfl rfl ?_
      refine wp_getS (v := 31) (pc := 9) C flX11_106 rfl rfl (Nat.le_of_ble_eq_true rfl) (Nat.le_of_ble_eq_true rfl) rfl dX11_setVat_9 ?_
      refine wp_iload_n (pc := 12) C 2 dX11_setVat_12 rfl rfl ?_
      refine wp_iconst (v := 0) (pc := 13) C dX11_setVat_13 (by decide) ?_
      obtain ⟨g1, h⟩ := gd_some h
      obtain ⟨S2, eS2, h⟩ := bn_some h
      refine wp_iast (pc := 14) C eS2 (Nat.le_of_ble_eq_true rfl) rfl g1 dX11_setVat_14 ?_
      obtain ⟨z3, ez3, h⟩ := bn_some h
      refine wp_iinc (q := 2) (pc := 15) C (by decide) ez3 [(2, .int z3), (0, .ref (gA G 0)), (1, .int x1)] dX11_setVat_15 rfl (Nat.le_of_ble_eq_true rfl) rfl ?_
      refine wp_goto (pc := 18) C 2 dX11_setVat_18 (by decide) ?_
      exact wp_sub C [1, 2, 0] rfl (ih _ _ _ h)
def fX11_setVat (n : Nat) (S : St) (x1 : Int32) : Option (St × Unit) :=
  fX11_setVat_l2 n n S x1 0
set_option maxRecDepth 100000 in
set_option maxHeartbeats 4000000 in
theorem wX11_setVat (C : Cx G sdM cX11_setVat 3 RX11 none) {n : Nat} {S S' : St} {r : Unit} {x1 : Int32} (h : fX11_setVat n S x1 = some (S', r)) : Wp G sdM (rmOf 0 0) 3 (Qm G sdM none S') S 0 [(0, .ref (gA G 0)), (1, .int x1)] [] := by
  unfold fX11_setVat at h
  refine wp_iconst (v := 0) (pc := 0) C dX11_setVat_0 (by decide) ?_
  refine wp_istore_n (pc := 1) C rfl [(2, .int 0), (0, .ref (gA G 0)), (1, .int x1)] dX11_setVat_1 rfl (Nat.le_of_ble_eq_true rfl) rfl ?_
  exact wp_sub C [1, 2, 0] rfl (wX11_setVat_l2 C _ _ _ _ h)
theorem CtX11_setVat {n : Nat} {S S' : St} {r : Unit} {x1 : Int32} (h : fX11_setVat n S x1 = some (S', r)) : Ct l sdM cy ad D yX11_setVat cX11_setVat 3 none 0 0 [.ref (ad 0), .int x1] S none S' :=
  Ct_of (own := RX11) mX11_setVat rfl (Nat.le_of_ble_eq_true rfl) (fun G e1 e2 e3 e4 C => by subst e1 e2 e3 e4; exact wX11_setVat C h)
end
