section
variable {G : Gx} {l : Launch} {cy : Nat → ClassId} {ad : Nat → Nat} {D : va_G}
def fX4_findTrick_j158 (n : Nat) (k58 : St → Int32 → Int32 → Int32 → Int64 → Int32 → Option (St × Int64)) (S : St) (x1 : Int32) (x2 : Int32) (x3 : Int32) (x5 : Int64) (x7 : Int32) : Option (St × Int64) :=
  bd (fX9_advance n S) (fun S1 r2 =>
  bn (x7 + 1) (fun z3 : Int32 =>
  k58 S1 x1 x2 x3 x5 z3))
set_option maxRecDepth 100000 in
set_option maxHeartbeats 4000000 in
theorem wX4_findTrick_j158 (C : Cx G sdX cX4_findTrick 11 RX4 (some .long)) {n : Nat} {k58 : St → Int32 → Int32 → Int32 → Int64 → Int32 → Option (St × Int64)} {S S' : St} {r : Int64} {x1 : Int32} {x2 : Int32} {x3 : Int32} {x5 : Int64} {x7 : Int32} (hk58 : ∀ (S : St) (x1 : Int32) (x2 : Int32) (x3 : Int32) (x5 : Int64) (x7 : Int32), k58 S x1 x2 x3 x5 x7 = some (S', r) → Wp G sdX (rmOf 3 79) 11 (Qm G sdX (some (.long r)) S') S 58 [(0, .ref (gA G 243)), (1, .int x1), (2, .int x2), (3, .int x3), (5, .long x5), (7, .int x7)] []) (h : fX4_findTrick_j158 n k58 S x1 x2 x3 x5 x7 = some (S', r)) : Wp G sdX (rmOf 3 79) 11 (Qm G sdX (some (.long r)) S') S 158 [(0, .ref (gA G 243)), (1, .int x1), (2, .int x2), (3, .int x3), (5, .long x5), (7, .int x7)] [] := by
  unfold fX4_findTrick_j158 at h
  refine wp_aload_n (pc := 158) C 0 dX4_findTrick_158 rfl rfl ?_
  refine wp_getS (v := 244) (pc := 159) C flX4_24 rfl rfl (Nat.le_of_ble_eq_true rfl) (Nat.le_of_ble_eq_true rfl) rfl dX4_findTrick_159 ?_
  obtain ⟨S1, r2, cS1, h⟩ := bd_some h
  refine wp_callVv (As := []) (st := []) (pc := 162) C (CtX9_advance cS1) mX9_advance iX9_advance kX4_134 (Nat.le_of_ble_eq_true rfl) rfl (by decide) rfl rfl rfl rfl (Nat.le_of_ble_eq_true rfl) ⟨Nat.le_of_ble_eq_true rfl, Nat.le_of_ble_eq_true rfl⟩ dX4_findTrick_162 ?_
  obtain ⟨z3, ez3, h⟩ := bn_some h
  refine wp_iinc (q := 5) (pc := 165) C (by decide) ez3 [(7, .int z3), (0, .ref (gA G 243)), (1, .int x1), (2, .int x2), (3, .int x3), (5, .long x5)] dX4_findTrick_165 rfl (Nat.le_of_ble_eq_true rfl) rfl ?_
  refine wp_goto (pc := 168) C 58 dX4_findTrick_168 (by decide) ?_
  exact wp_sub C [1, 2, 3, 4, 5, 0] rfl (hk58 _ _ _ _ _ _ h)
def fX4_findTrick_j150 (n : Nat) (k58 : St → Int32 → Int32 → Int32 → Int64 → Int32 → Option (St × Int64)) (S : St) (x1 : Int32) (x2 : Int32) (x3 : Int32) (x7 : Int32) (x9 : Int64) : Option (St × Int64) :=
  bd (fX4_keep n S) (fun S1 r2 =>
  fX4_findTrick_j158 n k58 S1 x1 x2 x3 x9 x7)
set_option maxRecDepth 100000 in
set_option maxHeartbeats 4000000 in
theorem wX4_findTrick_j150 (C : Cx G sdX cX4_findTrick 11 RX4 (some .long)) {n : Nat} {k58 : St → Int32 → Int32 → Int32 → Int64 → Int32 → Option (St × Int64)} {S S' : St} {r : Int64} {x1 : Int32} {x2 : Int32} {x3 : Int32} {x7 : Int32} {x9 : Int64} (hk58 : ∀ (S : St) (x1 : Int32) (x2 : Int32) (x3 : Int32) (x5 : Int64) (x7 : Int32), k58 S x1 x2 x3 x5 x7 = some (S', r) → Wp G sdX (rmOf 3 79) 11 (Qm G sdX (some (.long r)) S') S 58 [(0, .ref (gA G 243)), (1, .int x1), (2, .int x2), (3, .int x3), (5, .long x5), (7, .int x7)] []) (h : fX4_findTrick_j150 n k58 S x1 x2 x3 x7 x9 = some (S', r)) : Wp G sdX (rmOf 3 79) 11 (Qm G sdX (some (.long r)) S') S 150 [(0, .ref (gA G 243)), (1, .int x1), (2, .int x2), (3, .int x3), (7, .int x7), (9, .long x9)] [] := by
  unfold fX4_findTrick_j150 at h
  refine wp_lload (pc := 150) C 5 dX4_findTrick_150 rfl ?_
  refine wp_lstore (pc := 152) C rfl [(5, .long x9), (0, .ref (gA G 243)), (1, .int x1), (2, .int x2), (3, .int x3), (7, .int x7), (9, .long x9)] dX4_findTrick_152 (Nat.le_of_ble_eq_true rfl) rfl ?_
  refine wp_aload_n (pc := 154) C 1 dX4_findTrick_154 rfl rfl ?_
  obtain ⟨S1, r2, cS1, h⟩ := bd_some h
  refine wp_callVv (As := []) (st := []) (pc := 155) C (CtX4_keep cS1) mX4_keep iX4_keep kX4_131 (Nat.le_of_ble_eq_true rfl) rfl (by decide) rfl rfl rfl rfl (Nat.le_of_ble_eq_true rfl) ⟨Nat.le_of_ble_eq_true rfl, Nat.le_of_ble_eq_true rfl⟩ dX4_findTrick_155 ?_
  exact wp_sub C [1, 2, 3, 4, 0, 5] rfl (wX4_findTrick_j158 C hk58 h)
def fX4_findTrick_l58 (n : Nat) : Nat → St → Int32 → Int32 → Int32 → Int64 → Int32 → Option (St × Int64)
  | 0, _, _, _, _, _, _ => none
  | j + 1, S, x1, x2, x3, x5, x7 =>
    if (S.1 243 14) ≤ x7 then
      some (S, x5)
    else
      bd (fX9_thrownBack n S) (fun S1 r2 =>
      gd (isK sdX (S1.2.2 243 0) 0) (
      gd (ib (S1.1 243 3) 72) (
      gd (isK sdX (srX 160 (Int32.toNatClampNeg (S1.1 243 3))) 13) (
      bd (fX0_areAlike sdX n S1 (S1.2.2 243 0) r2 (srX 160 (Int32.toNatClampNeg (S1.1 243 3))) x1 x3) (fun S6 r7 =>
      if r7 = 0 then
        fX4_findTrick_j158 n (fX4_findTrick_l58 n j) S6 x1 x2 x3 x5 x7
      else
        gd (isK sdX (S6.2.2 243 0) 0) (
        gd (ib (S6.1 243 3) 72) (
        gd (isK sdX (srX 160 (Int32.toNatClampNeg (S6.1 243 3))) 13) (
        bd (fX0_apartOf sdX n S6 (S6.2.2 243 0) r2 (srX 160 (Int32.toNatClampNeg (S6.1 243 3))) x2 x3) (fun S11 r12 =>
        if 0 < (lg_cmp r12 x5) then
          fX4_findTrick_j150 n (fX4_findTrick_l58 n j) S11 x1 x2 x3 x7 r12
        else
          if (lg_cmp r12 x5) = 0 then
            bd (fX4_isPreferred n S11) (fun S13 r14 =>
            if r14 = 0 then
              fX4_findTrick_j158 n (fX4_findTrick_l58 n j) S13 x1 x2 x3 x5 x7
            else
              fX4_findTrick_j150 n (fX4_findTrick_l58 n j) S13 x1 x2 x3 x7 r12)
          else
            fX4_findTrick_j158 n (fX4_findTrick_l58 n j) S11 x1 x2 x3 x5 x7)))))))))
set_option maxRecDepth 100000 in
set_option maxHeartbeats 4000000 in
theorem wX4_findTrick_l58 (C : Cx G sdX cX4_findTrick 11 RX4 (some .long)) {n : Nat} {S' : St} {r : Int64} : ∀ (j : Nat) (S : St) (x1 : Int32) (x2 : Int32) (x3 : Int32) (x5 : Int64) (x7 : Int32), fX4_findTrick_l58 n j S x1 x2 x3 x5 x7 = some (S', r) → Wp G sdX (rmOf 3 79) 11 (Qm G sdX (some (.long r)) S') S 58 [(0, .ref (gA G 243)), (1, .int x1), (2, .int x2), (3, .int x3), (5, .long x5), (7, .int x7)] [] := by
  intro j
  induction j with
  | zero =>
    intro S x1 x2 x3 x5 x7 h
    exact nomatch (show (none : Option (St × Int64)) = some _ from h)
  | succ j ih =>
    intro S x1 x2 x3 x5 x7 h
    rw [fX4_findTrick_l58] at h
    refine wp_iload (pc := 58) C 5 dX4_findTrick_58 rfl ?_
    refine wp_aload_n (pc := 60) C 0 dX4_findTrick_60 rfl rfl ?_
    refine wp_getI (pc := 61) C flX4_46 rfl (Nat.le_of_ble_eq_true rfl) rfl dX4_findTrick_61 ?_
    refine wp_icmp_ge (pc := 64) C 171 dX4_findTrick_64 (by decide) (fun q => ?_) (fun q => ?_)
    · have h := it_pos q h
      refine wp_lload (pc := 171) C 4 dX4_findTrick_171 rfl ?_
      exact rt_l C rfl h dX4_findTrick_173
    · have h := it_neg q h
      refine wp_aload_n (pc := 67) C 0 dX4_findTrick_67 rfl rfl ?_
      refine wp_getS (v := 244) (pc := 68) C flX4_24 rfl rfl (Nat.le_of_ble_eq_true rfl) (Nat.le_of_ble_eq_true rfl) rfl dX4_findTrick_68 ?_
      obtain ⟨S1, r2, cS1, h⟩ := bd_some h
      refine wp_callVrR (As := []) (st := []) (pc := 71) C (CtX9_thrownBack cS1) mX9_thrownBack iX9_thrownBack kX4_137 (Nat.le_of_ble_eq_true rfl) rfl (by decide) rfl rfl rfl rfl (Nat.le_of_ble_eq_true rfl) ⟨Nat.le_of_ble_eq_true rfl, Nat.le_of_ble_eq_true rfl⟩ dX4_findTrick_71 ?_
      refine wp_astore (pc := 74) C rfl [(8, .ref (gA G r2)), (0, .ref (gA G 243)), (1, .int x1), (2, .int x2), (3, .int x3), (5, .long x5), (7, .int x7)] dX4_findTrick_74 (Nat.le_of_ble_eq_true rfl) rfl ?_
      refine wp_aload_n (pc := 76) C 1 dX4_findTrick_76 rfl rfl ?_
      obtain ⟨g3, h⟩ := gd_some h
      refine wp_getD (pc := 77) C flX4_9 rfl g3.1 (Nat.le_of_ble_eq_true rfl) rfl dX4_findTrick_77 ?_
      refine wp_aload (pc := 80) C 0 dX4_findTrick_80 rfl ?_
      refine wp_aload_n (pc := 82) C 1 dX4_findTrick_82 rfl rfl ?_
      refine wp_getS (v := 157) (pc := 83) C flX4_15 rfl rfl (Nat.le_of_ble_eq_true rfl) (Nat.le_of_ble_eq_true rfl) rfl dX4_findTrick_83 ?_
      refine wp_getS (v := 160) (pc := 86) C flX4_141 rfl rfl (Nat.le_of_ble_eq_true rfl) (Nat.le_of_ble_eq_true rfl) rfl dX4_findTrick_86 ?_
      refine wp_aload_n (pc := 89) C 1 dX4_findTrick_89 rfl rfl ?_
      refine wp_getI (pc := 90) C flX4_56 rfl (Nat.le_of_ble_eq_true rfl) rfl dX4_findTrick_90 ?_
      obtain ⟨g4, h⟩ := gd_some h
      obtain ⟨g5, h⟩ := gd_some h
      refine wp_aald (t0 := 5) (pc := 93) C (Nat.le_of_ble_eq_true rfl) rfl (by decide) rfl rfl g4 g5.1 dX4_findTrick_93 ?_
      refine wp_iload_n (pc := 94) C 2 dX4_findTrick_94 rfl rfl ?_
      refine wp_iload_n (pc := 95) C 4 dX4_findTrick_95 rfl rfl ?_
      obtain ⟨S6, r7, cS6, h⟩ := bd_some h
      refine wp_callVi (As := [.ref (gA G r2), .ref (gA G (srX 160 (Int32.toNatClampNeg (S1.1 243 3)))), .int x1, .int x3]) (st := []) (pc := 96) C (CtX0_areAlike cS6) mX0_areAlike iX0_areAlike kX4_147 g3.1 g3.2 (by decide) rfl rfl rfl rfl (Nat.le_of_ble_eq_true rfl) ⟨Nat.le_of_ble_eq_true rfl, Nat.le_of_ble_eq_true rfl⟩ dX4_findTrick_96 ?_
      refine wp_if_eq (pc := 99) C 158 dX4_findTrick_99 (by decide) (fun q => ?_) (fun q => ?_)
      · have h := it_pos q h
        exact wp_sub C [1, 2, 3, 4, 5, 6] rfl (wX4_findTrick_j158 C ih h)
      · have h := it_neg q h
        refine wp_aload_n (pc := 102) C 1 dX4_findTrick_102 rfl rfl ?_
        obtain ⟨g8, h⟩ := gd_some h
        refine wp_getD (pc := 103) C flX4_9 rfl g8.1 (Nat.le_of_ble_eq_true rfl) rfl dX4_findTrick_103 ?_
        refine wp_aload (pc := 106) C 0 dX4_findTrick_106 rfl ?_
        refine wp_aload_n (pc := 108) C 1 dX4_findTrick_108 rfl rfl ?_
        refine wp_getS (v := 157) (pc := 109) C flX4_15 rfl rfl (Nat.le_of_ble_eq_true rfl) (Nat.le_of_ble_eq_true rfl) rfl dX4_findTrick_109 ?_
        refine wp_getS (v := 160) (pc := 112) C flX4_141 rfl rfl (Nat.le_of_ble_eq_true rfl) (Nat.le_of_ble_eq_true rfl) rfl dX4_findTrick_112 ?_
        refine wp_aload_n (pc := 115) C 1 dX4_findTrick_115 rfl rfl ?_
        refine wp_getI (pc := 116) C flX4_56 rfl (Nat.le_of_ble_eq_true rfl) rfl dX4_findTrick_116 ?_
        obtain ⟨g9, h⟩ := gd_some h
        obtain ⟨g10, h⟩ := gd_some h
        refine wp_aald (t0 := 5) (pc := 119) C (Nat.le_of_ble_eq_true rfl) rfl (by decide) rfl rfl g9 g10.1 dX4_findTrick_119 ?_
        refine wp_iload_n (pc := 120) C 3 dX4_findTrick_120 rfl rfl ?_
        refine wp_iload_n (pc := 121) C 4 dX4_findTrick_121 rfl rfl ?_
        obtain ⟨S11, r12, cS11, h⟩ := bd_some h
        refine wp_callVl (As := [.ref (gA G r2), .ref (gA G (srX 160 (Int32.toNatClampNeg (S6.1 243 3)))), .int x2, .int x3]) (st := []) (pc := 122) C (CtX0_apartOf cS11) mX0_apartOf iX0_apartOf kX4_159 g8.1 g8.2 (by decide) rfl rfl rfl rfl (Nat.le_of_ble_eq_true rfl) ⟨Nat.le_of_ble_eq_true rfl, Nat.le_of_ble_eq_true rfl⟩ dX4_findTrick_122 ?_
        refine wp_lstore (pc := 125) C rfl [(9, .long r12), (8, .ref (gA G r2)), (0, .ref (gA G 243)), (1, .int x1), (2, .int x2), (3, .int x3), (5, .long x5), (7, .int x7)] dX4_findTrick_125 (Nat.le_of_ble_eq_true rfl) rfl ?_
        refine wp_lload (pc := 127) C 0 dX4_findTrick_127 rfl ?_
        refine wp_lload (pc := 129) C 6 dX4_findTrick_129 rfl ?_
        refine wp_lcmp (pc := 131) C dX4_findTrick_131 ?_
        refine wp_if_gt (pc := 132) C 150 dX4_findTrick_132 (by decide) (fun q => ?_) (fun q => ?_)
        · have h := it_pos q h
          exact wp_sub C [2, 3, 4, 5, 7, 0] rfl (wX4_findTrick_j150 C ih h)
        · have h := it_neg q h
          refine wp_lload (pc := 135) C 0 dX4_findTrick_135 rfl ?_
          refine wp_lload (pc := 137) C 6 dX4_findTrick_137 rfl ?_
          refine wp_lcmp (pc := 139) C dX4_findTrick_139 ?_
          refine wp_if_ne (pc := 140) C 158 dX4_findTrick_140 (by decide) (fun q => ?_) (fun q => ?_)
          · have h := it_neg q h
            exact wp_sub C [2, 3, 4, 5, 6, 7] rfl (wX4_findTrick_j158 C ih h)
          · have h := it_pos q h
            refine wp_aload_n (pc := 143) C 2 dX4_findTrick_143 rfl rfl ?_
            obtain ⟨S13, r14, cS13, h⟩ := bd_some h
            refine wp_callVi (As := []) (st := []) (pc := 144) C (CtX4_isPreferred cS13) mX4_isPreferred iX4_isPreferred kX4_123 (Nat.le_of_ble_eq_true rfl) rfl (by decide) rfl rfl rfl rfl (Nat.le_of_ble_eq_true rfl) ⟨Nat.le_of_ble_eq_true rfl, Nat.le_of_ble_eq_true rfl⟩ dX4_findTrick_144 ?_
            refine wp_if_eq (pc := 147) C 158 dX4_findTrick_147 (by decide) (fun q => ?_) (fun q => ?_)
            · have h := it_pos q h
              exact wp_sub C [2, 3, 4, 5, 6, 7] rfl (wX4_findTrick_j158 C ih h)
            · have h := it_neg q h
              exact wp_sub C [2, 3, 4, 5, 7, 0] rfl (wX4_findTrick_j150 C ih h)
def fX4_findTrick_j34 (n : Nat) (S : St) (x1 : Int32) (x2 : Int32) (x3 : Int32) (y1 : Int32) : Option (St × Int64) :=
  bd (fX4_start n S y1 100000) (fun S1 r2 =>
  if r2 = 0 then
    fX4_findTrick_l58 n n S1 x1 x2 x3 (-1) 0
  else
    some (S1, (r2 : Int32).toInt64))
set_option maxRecDepth 100000 in
set_option maxHeartbeats 4000000 in
theorem wX4_findTrick_j34 (C : Cx G sdX cX4_findTrick 11 RX4 (some .long)) {n : Nat} {S S' : St} {r : Int64} {x1 : Int32} {x2 : Int32} {x3 : Int32} {y1 : Int32} (h : fX4_findTrick_j34 n S x1 x2 x3 y1 = some (S', r)) : Wp G sdX (rmOf 3 79) 11 (Qm G sdX (some (.long r)) S') S 34 [(0, .ref (gA G 243)), (1, .int x1), (2, .int x2), (3, .int x3)] [.int y1, .ref (gA G 243)] := by
  unfold fX4_findTrick_j34 at h
  refine wp_ldc (pc := 34) C qX4_119 dX4_findTrick_34 ?_
  obtain ⟨S1, r2, cS1, h⟩ := bd_some h
  refine wp_callVi (As := [.int y1, .int 100000]) (st := []) (pc := 36) C (CtX4_start cS1) mX4_start iX4_start kX4_120 (Nat.le_of_ble_eq_true rfl) rfl (by decide) rfl rfl rfl rfl (Nat.le_of_ble_eq_true rfl) ⟨Nat.le_of_ble_eq_true rfl, Nat.le_of_ble_eq_true rfl⟩ dX4_findTrick_36 ?_
  refine wp_istore (pc := 39) C rfl [(4, .int r2), (0, .ref (gA G 243)), (1, .int x1), (2, .int x2), (3, .int x3)] dX4_findTrick_39 (Nat.le_of_ble_eq_true rfl) rfl ?_
  refine wp_iload (pc := 41) C 0 dX4_findTrick_41 rfl ?_
  refine wp_if_eq (pc := 43) C 50 dX4_findTrick_43 (by decide) (fun q => ?_) (fun q => ?_)
  · have h := it_pos q h
    refine wp_ldc2 (pc := 50) C qX4_170 dX4_findTrick_50 ?_
    refine wp_lstore (pc := 53) C rfl [(5, .long (-1)), (4, .int r2), (0, .ref (gA G 243)), (1, .int x1), (2, .int x2), (3, .int x3)] dX4_findTrick_53 (Nat.le_of_ble_eq_true rfl) rfl ?_
    refine wp_iconst (v := 0) (pc := 55) C dX4_findTrick_55 (by decide) ?_
    refine wp_istore (pc := 56) C rfl [(7, .int 0), (5, .long (-1)), (4, .int r2), (0, .ref (gA G 243)), (1, .int x1), (2, .int x2), (3, .int x3)] dX4_findTrick_56 (Nat.le_of_ble_eq_true rfl) rfl ?_
    exact wp_sub C [3, 4, 5, 6, 1, 0] rfl (wX4_findTrick_l58 C _ _ _ _ _ _ _ h)
  · have h := it_neg q h
    refine wp_iload (pc := 46) C 0 dX4_findTrick_46 rfl ?_
    refine wp_i2l (pc := 48) C dX4_findTrick_48 ?_
    exact rt_l C rfl h dX4_findTrick_49
def fX4_findTrick_j33 (n : Nat) (S : St) (x1 : Int32) (x2 : Int32) (x3 : Int32) : Option (St × Int64) :=
  fX4_findTrick_j34 n S x1 x2 x3 0
set_option maxRecDepth 100000 in
set_option maxHeartbeats 4000000 in
theorem wX4_findTrick_j33 (C : Cx G sdX cX4_findTrick 11 RX4 (some .long)) {n : Nat} {S S' : St} {r : Int64} {x1 : Int32} {x2 : Int32} {x3 : Int32} (h : fX4_findTrick_j33 n S x1 x2 x3 = some (S', r)) : Wp G sdX (rmOf 3 79) 11 (Qm G sdX (some (.long r)) S') S 33 [(0, .ref (gA G 243)), (1, .int x1), (2, .int x2), (3, .int x3)] [.ref (gA G 243)] := by
  unfold fX4_findTrick_j33 at h
  refine wp_iconst (v := 0) (pc := 33) C dX4_findTrick_33 (by decide) ?_
  exact (wX4_findTrick_j34 C h)
def fX4_findTrick (n : Nat) (S : St) (x1 : Int32) (x2 : Int32) (x3 : Int32) : Option (St × Int64) :=
  gd (isK sdX (S.2.2 243 0) 0) (
  gd (isK sdX (srX (S.2.2 243 0) 2) 5) (
  bd (fX5_has sdX n S (srX (S.2.2 243 0) 2) x1) (fun S3 r4 =>
  if r4 = 0 then
    fX4_findTrick_j33 n S3 x1 x2 x3
  else
    gd (isK sdX (S3.2.2 243 0) 0) (
    gd (isK sdX (srX (S3.2.2 243 0) 2) 5) (
    bd (fX5_has sdX n S3 (srX (S3.2.2 243 0) 2) x2) (fun S7 r8 =>
    if r8 = 0 then
      fX4_findTrick_j33 n S7 x1 x2 x3
    else
      fX4_findTrick_j34 n S7 x1 x2 x3 1))))))
set_option maxRecDepth 100000 in
set_option maxHeartbeats 4000000 in
theorem wX4_findTrick (C : Cx G sdX cX4_findTrick 11 RX4 (some .long)) {n : Nat} {S S' : St} {r : Int64} {x1 : Int32} {x2 : Int32} {x3 : Int32} (h : fX4_findTrick n S x1 x2 x3 = some (S', r)) : Wp G sdX (rmOf 3 79) 11 (Qm G sdX (some (.long r)) S') S 0 [(0, .ref (gA G 243)), (1, .int x1), (2, .int x2), (3, .int x3)] [] := by
  unfold fX4_findTrick at h
  refine wp_aload_n (pc := 0) C 0 dX4_findTrick_0 rfl rfl ?_
  refine wp_aload_n (pc := 1) C 0 dX4_findTrick_1 rfl rfl ?_
  obtain ⟨g1, h⟩ := gd_some h
  refine wp_getD (pc := 2) C flX4_9 rfl g1.1 (Nat.le_of_ble_eq_true rfl) rfl dX4_findTrick_2 ?_
  obtain ⟨g2, h⟩ := gd_some h
  refine wp_getS (v := srX (S.2.2 243 0) 2) (pc := 5) C flX4_87 rfl rfl g2.1 g1.1 g1.2 dX4_findTrick_5 ?_
  refine wp_iload_n (pc := 8) C 1 dX4_findTrick_8 rfl rfl ?_
  obtain ⟨S3, r4, cS3, h⟩ := bd_some h
  refine wp_callVi (As := [.int x1]) (st := [.ref (gA G 243)]) (pc := 9) C (CtX5_has cS3) mX5_has iX5_has kX4_167 g2.1 g2.2 (by decide) rfl rfl rfl rfl (Nat.le_of_ble_eq_true rfl) ⟨Nat.le_of_ble_eq_true rfl, Nat.le_of_ble_eq_true rfl⟩ dX4_findTrick_9 ?_
  refine wp_if_eq (pc := 12) C 33 dX4_findTrick_12 (by decide) (fun q => ?_) (fun q => ?_)
  · have h := it_pos q h
    exact (wX4_findTrick_j33 C h)
  · have h := it_neg q h
    refine wp_aload_n (pc := 15) C 0 dX4_findTrick_15 rfl rfl ?_
    obtain ⟨g5, h⟩ := gd_some h
    refine wp_getD (pc := 16) C flX4_9 rfl g5.1 (Nat.le_of_ble_eq_true rfl) rfl dX4_findTrick_16 ?_
    obtain ⟨g6, h⟩ := gd_some h
    refine wp_getS (v := srX (S3.2.2 243 0) 2) (pc := 19) C flX4_87 rfl rfl g6.1 g5.1 g5.2 dX4_findTrick_19 ?_
    refine wp_iload_n (pc := 22) C 2 dX4_findTrick_22 rfl rfl ?_
    obtain ⟨S7, r8, cS7, h⟩ := bd_some h
    refine wp_callVi (As := [.int x2]) (st := [.ref (gA G 243)]) (pc := 23) C (CtX5_has cS7) mX5_has iX5_has kX4_167 g6.1 g6.2 (by decide) rfl rfl rfl rfl (Nat.le_of_ble_eq_true rfl) ⟨Nat.le_of_ble_eq_true rfl, Nat.le_of_ble_eq_true rfl⟩ dX4_findTrick_23 ?_
    refine wp_if_eq (pc := 26) C 33 dX4_findTrick_26 (by decide) (fun q => ?_) (fun q => ?_)
    · have h := it_pos q h
      exact (wX4_findTrick_j33 C h)
    · have h := it_neg q h
      refine wp_iconst (v := 1) (pc := 29) C dX4_findTrick_29 (by decide) ?_
      refine wp_goto (pc := 30) C 34 dX4_findTrick_30 (by decide) ?_
      exact (wX4_findTrick_j34 C h)
theorem CtX4_findTrick {n : Nat} {S S' : St} {r : Int64} {x1 : Int32} {x2 : Int32} {x3 : Int32} (h : fX4_findTrick n S x1 x2 x3 = some (S', r)) : Ct l sdX cy ad D yX4_findTrick cX4_findTrick 11 (some .long) 3 79 [.ref (ad 243), .int x1, .int x2, .int x3] S (some (.long r)) S' :=
  Ct_of (own := RX4) mX4_findTrick rfl (Nat.le_of_ble_eq_true rfl) (fun G e1 e2 e3 e4 C => by subst e1 e2 e3 e4; exact wX4_findTrick C h)
def fJ6_bitCount_0f7a4 (sd : Sd) (n : Nat) (S : St) (x0 : Int32) : Option (St × Int32) :=
  bn (x0 - ((((x0).toUInt32 >>> ((1 : Int32).toUInt32 &&& Int32.toUInt32 31)).toInt32) &&& 1431655765)) (fun z1 : Int32 =>
  bn ((z1 &&& 858993459) + ((((z1).toUInt32 >>> ((2 : Int32).toUInt32 &&& Int32.toUInt32 31)).toInt32) &&& 858993459)) (fun z2 : Int32 =>
  bn ((z2 + (((z2).toUInt32 >>> ((4 : Int32).toUInt32 &&& Int32.toUInt32 31)).toInt32)) &&& 252645135) (fun z3 : Int32 =>
  bn (z3 + (((z3).toUInt32 >>> ((8 : Int32).toUInt32 &&& Int32.toUInt32 31)).toInt32)) (fun z4 : Int32 =>
  bn (z4 + (((z4).toUInt32 >>> ((16 : Int32).toUInt32 &&& Int32.toUInt32 31)).toInt32)) (fun z5 : Int32 =>
  some (S, z5 &&& 63))))))
set_option maxRecDepth 100000 in
set_option maxHeartbeats 4000000 in
theorem wJ6_bitCount_0f7a4 {sd : Sd} (C : Cx G sd cJ6_bitCount_0f7a4 1 RJ6 (some .int)) {n : Nat} {S S' : St} {r : Int32} {x0 : Int32} (h : fJ6_bitCount_0f7a4 sd n S x0 = some (S', r)) : Wp G sd (rmOf 0 0) 1 (Qm G sd (some (.int r)) S') S 0 [(0, .int x0)] [] := by
  unfold fJ6_bitCount_0f7a4 at h
  refine wp_iload_n (pc := 0) C 0 dJ6_bitCount_0f7a4_0 rfl rfl ?_
  refine wp_iload_n (pc := 1) C 0 dJ6_bitCount_0f7a4_1 rfl rfl ?_
  refine wp_iconst (v := 1) (pc := 2) C dJ6_bitCount_0f7a4_2 (by decide) ?_
  refine wp_iushr (pc := 3) C dJ6_bitCount_0f7a4_3 ?_
  refine wp_ldcw (pc := 4) C qJ6_265 dJ6_bitCount_0f7a4_4 ?_
  refine wp_iand (pc := 7) C dJ6_bitCount_0f7a4_7 ?_
  refine wp_isub (pc := 8) C dJ6_bitCount_0f7a4_8 ?_
  obtain ⟨z1, ez1, h⟩ := bn_some h
  refine wp_istore_n (pc := 9) C ez1 [(0, .int z1)] dJ6_bitCount_0f7a4_9 rfl (Nat.le_of_ble_eq_true rfl) rfl ?_
  refine wp_iload_n (pc := 10) C 0 dJ6_bitCount_0f7a4_10 rfl rfl ?_
  refine wp_ldcw (pc := 11) C qJ6_266 dJ6_bitCount_0f7a4_11 ?_
  refine wp_iand (pc := 14) C dJ6_bitCount_0f7a4_14 ?_
  refine wp_iload_n (pc := 15) C 0 dJ6_bitCount_0f7a4_15 rfl rfl ?_
  refine wp_iconst (v := 2) (pc := 16) C dJ6_bitCount_0f7a4_16 (by decide) ?_
  refine wp_iushr (pc := 17) C dJ6_bitCount_0f7a4_17 ?_
  refine wp_ldcw (pc := 18) C qJ6_266 dJ6_bitCount_0f7a4_18 ?_
  refine wp_iand (pc := 21) C dJ6_bitCount_0f7a4_21 ?_
  refine wp_iadd (pc := 22) C dJ6_bitCount_0f7a4_22 ?_
  obtain ⟨z2, ez2, h⟩ := bn_some h
  refine wp_istore_n (pc := 23) C ez2 [(0, .int z2)] dJ6_bitCount_0f7a4_23 rfl (Nat.le_of_ble_eq_true rfl) rfl ?_
  refine wp_iload_n (pc := 24) C 0 dJ6_bitCount_0f7a4_24 rfl rfl ?_
  refine wp_iload_n (pc := 25) C 0 dJ6_bitCount_0f7a4_25 rfl rfl ?_
  refine wp_iconst (v := 4) (pc := 26) C dJ6_bitCount_0f7a4_26 (by decide) ?_
  refine wp_iushr (pc := 27) C dJ6_bitCount_0f7a4_27 ?_
  refine wp_iadd (pc := 28) C dJ6_bitCount_0f7a4_28 ?_
  refine wp_ldcw (pc := 29) C qJ6_267 dJ6_bitCount_0f7a4_29 ?_
  refine wp_iand (pc := 32) C dJ6_bitCount_0f7a4_32 ?_
  obtain ⟨z3, ez3, h⟩ := bn_some h
  refine wp_istore_n (pc := 33) C ez3 [(0, .int z3)] dJ6_bitCount_0f7a4_33 rfl (Nat.le_of_ble_eq_true rfl) rfl ?_
  refine wp_iload_n (pc := 34) C 0 dJ6_bitCount_0f7a4_34 rfl rfl ?_
  refine wp_iload_n (pc := 35) C 0 dJ6_bitCount_0f7a4_35 rfl rfl ?_
  refine wp_bipush (v := 8) (pc := 36) C dJ6_bitCount_0f7a4_36 (by decide) ?_
  refine wp_iushr (pc := 38) C dJ6_bitCount_0f7a4_38 ?_
  refine wp_iadd (pc := 39) C dJ6_bitCount_0f7a4_39 ?_
  obtain ⟨z4, ez4, h⟩ := bn_some h
  refine wp_istore_n (pc := 40) C ez4 [(0, .int z4)] dJ6_bitCount_0f7a4_40 rfl (Nat.le_of_ble_eq_true rfl) rfl ?_
  refine wp_iload_n (pc := 41) C 0 dJ6_bitCount_0f7a4_41 rfl rfl ?_
  refine wp_iload_n (pc := 42) C 0 dJ6_bitCount_0f7a4_42 rfl rfl ?_
  refine wp_bipush (v := 16) (pc := 43) C dJ6_bitCount_0f7a4_43 (by decide) ?_
  refine wp_iushr (pc := 45) C dJ6_bitCount_0f7a4_45 ?_
  refine wp_iadd (pc := 46) C dJ6_bitCount_0f7a4_46 ?_
  obtain ⟨z5, ez5, h⟩ := bn_some h
  refine wp_istore_n (pc := 47) C ez5 [(0, .int z5)] dJ6_bitCount_0f7a4_47 rfl (Nat.le_of_ble_eq_true rfl) rfl ?_
  refine wp_iload_n (pc := 48) C 0 dJ6_bitCount_0f7a4_48 rfl rfl ?_
  refine wp_bipush (v := 63) (pc := 49) C dJ6_bitCount_0f7a4_49 (by decide) ?_
  refine wp_iand (pc := 51) C dJ6_bitCount_0f7a4_51 ?_
  exact rt_i C rfl h dJ6_bitCount_0f7a4_52
theorem CtJ6_bitCount_0f7a4 {sd : Sd} {n : Nat} {S S' : St} {r : Int32} {x0 : Int32} (h : fJ6_bitCount_0f7a4 sd n S x0 = some (S', r)) : Ct l sd cy ad D yJ6_bitCount_0f7a4 cJ6_bitCount_0f7a4 1 (some .int) 0 0 [.int x0] S (some (.int r)) S' :=
  Ct_of (own := RJ6) mJ6_bitCount_0f7a4 rfl (Nat.le_of_ble_eq_true rfl) (fun G e1 e2 e3 e4 C => by subst e1 e2 e3 e4; exact wJ6_bitCount_0f7a4 C h)
def fX4_addBest_j41 (n : Nat) (S : St) (x1 : Int64) : Option (St × Unit) :=
  gd (ib (S.1 243 17) 5000) (
  bn (sL S 257 (Int32.toNatClampNeg (S.1 243 17)) x1) (fun S2 : St =>
  gd (¬ (0 : Int32) < 0 ∧ ¬ ((S2.1 243 17) * 6) < 0 ∧ ¬ (S2.1 243 12) < 0 ∧ (Int32.toNatClampNeg 0) + (Int32.toNatClampNeg (S2.1 243 12)) ≤ 6 ∧ (Int32.toNatClampNeg ((S2.1 243 17) * 6)) + (Int32.toNatClampNeg (S2.1 243 12)) ≤ 30000) (
  bn (cL S2 259 258 (Int32.toNatClampNeg 0) (Int32.toNatClampNeg ((S2.1 243 17) * 6)) (Int32.toNatClampNeg (S2.1 243 12))) (fun S4 : St =>
  bn (sI S4 243 17 ((S4.1 243 17) + 1)) (fun S5 : St =>
  some (S5, ()))))))
set_option maxRecDepth 100000 in
set_option maxHeartbeats 4000000 in
theorem wX4_addBest_j41 (C : Cx G sdX cX4_addBest 4 RX4 none) {n : Nat} {S S' : St} {r : Unit} {x1 : Int64} (h : fX4_addBest_j41 n S x1 = some (S', r)) : Wp G sdX (rmOf 1 26) 4 (Qm G sdX none S') S 41 [(0, .ref (gA G 243)), (1, .long x1)] [] := by
  unfold fX4_addBest_j41 at h
  refine wp_aload_n (pc := 41) C 0 dX4_addBest_41 rfl rfl ?_
  refine wp_getS (v := 257) (pc := 42) C flX4_28 rfl rfl (Nat.le_of_ble_eq_true rfl) (Nat.le_of_ble_eq_true rfl) rfl dX4_addBest_42 ?_
  refine wp_aload_n (pc := 45) C 0 dX4_addBest_45 rfl rfl ?_
  refine wp_getI (pc := 46) C flX4_53 rfl (Nat.le_of_ble_eq_true rfl) rfl dX4_addBest_46 ?_
  refine wp_lload_n (pc := 49) C 1 dX4_addBest_49 rfl rfl ?_
  obtain ⟨g1, h⟩ := gd_some h
  obtain ⟨S2, eS2, h⟩ := bn_some h
  refine wp_last (pc := 50) C eS2 (Nat.le_of_ble_eq_true rfl) rfl g1 dX4_addBest_50 ?_
  refine wp_aload_n (pc := 51) C 0 dX4_addBest_51 rfl rfl ?_
  refine wp_getS (v := 259) (pc := 52) C flX4_35 rfl rfl (Nat.le_of_ble_eq_true rfl) (Nat.le_of_ble_eq_true rfl) rfl dX4_addBest_52 ?_
  refine wp_iconst (v := 0) (pc := 55) C dX4_addBest_55 (by decide) ?_
  refine wp_aload_n (pc := 56) C 0 dX4_addBest_56 rfl rfl ?_
  refine wp_getS (v := 258) (pc := 57) C flX4_32 rfl rfl (Nat.le_of_ble_eq_true rfl) (Nat.le_of_ble_eq_true rfl) rfl dX4_addBest_57 ?_
  refine wp_aload_n (pc := 60) C 0 dX4_addBest_60 rfl rfl ?_
  refine wp_getI (pc := 61) C flX4_53 rfl (Nat.le_of_ble_eq_true rfl) rfl dX4_addBest_61 ?_
  refine wp_bipush (v := 6) (pc := 64) C dX4_addBest_64 (by decide) ?_
  refine wp_imul (pc := 66) C dX4_addBest_66 ?_
  refine wp_aload_n (pc := 67) C 0 dX4_addBest_67 rfl rfl ?_
  refine wp_getI (pc := 68) C flX4_178 rfl (Nat.le_of_ble_eq_true rfl) rfl dX4_addBest_68 ?_
  obtain ⟨g3, h⟩ := gd_some h
  obtain ⟨S4, eS4, h⟩ := bn_some h
  refine wp_copyL (pc := 71) C eS4 kX4_109 acN acS acI (Nat.le_of_ble_eq_true rfl) rfl (Nat.le_of_ble_eq_true rfl) rfl g3.1 g3.2.1 g3.2.2.1 g3.2.2.2.1 g3.2.2.2.2 (Nat.le_of_ble_eq_true rfl) (Nat.le_of_ble_eq_true rfl) dX4_addBest_71 ?_
  refine wp_aload_n (pc := 74) C 0 dX4_addBest_74 rfl rfl ?_
  refine wp_dup (pc := 75) C dX4_addBest_75 rfl ?_
  refine wp_getI (pc := 76) C flX4_53 rfl (Nat.le_of_ble_eq_true rfl) rfl dX4_addBest_76 ?_
  refine wp_iconst (v := 1) (pc := 79) C dX4_addBest_79 (by decide) ?_
  refine wp_iadd (pc := 80) C dX4_addBest_80 ?_
  obtain ⟨S5, eS5, h⟩ := bn_some h
  refine wp_putI (pc := 81) C eS5 flX4_53 fpX4_17 rfl (Nat.le_of_ble_eq_true rfl) rfl dX4_addBest_81 ?_
  exact rt_v C rfl h dX4_addBest_84
def fX4_addBest_l16 (n : Nat) : Nat → St → Int64 → Int32 → Option (St × Unit)
  | 0, _, _, _ => none
  | j + 1, S, x1, x3 =>
    if x3 < 0 then
      fX4_addBest_j41 n S x1
    else
      gd (ib x3 8) (
      bn ((x1 <<< ((5 : Int32).toInt64 &&& 63)) ||| (((S.1 256 (Int32.toNatClampNeg x3)) : Int32).toInt64)) (fun z2 : Int64 =>
      bn (x3 + (-1)) (fun z3 : Int32 =>
      fX4_addBest_l16 n j S z2 z3)))
set_option maxRecDepth 100000 in
set_option maxHeartbeats 4000000 in
theorem wX4_addBest_l16 (C : Cx G sdX cX4_addBest 4 RX4 none) {n : Nat} {S' : St} {r : Unit} : ∀ (j : Nat) (S : St) (x1 : Int64) (x3 : Int32), fX4_addBest_l16 n j S x1 x3 = some (S', r) → Wp G sdX (rmOf 1 26) 4 (Qm G sdX none S') S 16 [(0, .ref (gA G 243)), (1, .long x1), (3, .int x3)] [] := by
  intro j
  induction j with
  | zero =>
    intro S x1 x3 h
    exact nomatch (show (none : Option (St × Unit)) = some _ from h)
  | succ j ih =>
    intro S x1 x3 h
    rw [fX4_addBest_l16] at h
    refine wp_iload_n (pc := 16) C 2 dX4_addBest_16 rfl rfl ?_
    refine wp_if_lt (pc := 17) C 41 dX4_addBest_17 (by decide) (fun q => ?_) (fun q => ?_)
    · have h := it_pos q h
      exact wp_sub C [0, 1] rfl (wX4_addBest_j41 C h)
    · have h := it_neg q h
      refine wp_lload_n (pc := 20) C 1 dX4_addBest_20 rfl rfl ?_
      refine wp_iconst (v := 5) (pc := 21) C dX4_addBest_21 (by decide) ?_
      refine wp_lshl (pc := 22) C dX4_addBest_22 ?_
      refine wp_aload_n (pc := 23) C 0 dX4_addBest_23 rfl rfl ?_
      refine wp_getS (v := 244) (pc := 24) C flX4_24 rfl rfl (Nat.le_of_ble_eq_true rfl) (Nat.le_of_ble_eq_true rfl) rfl dX4_addBest_24 ?_
      refine wp_getS (v := 256) (pc := 27) C flX4_106 rfl rfl (Nat.le_of_ble_eq_true rfl) (Nat.le_of_ble_eq_true rfl) rfl dX4_addBest_27 ?_
      refine wp_iload_n (pc := 30) C 2 dX4_addBest_30 rfl rfl ?_
      obtain ⟨g1, h⟩ := gd_some h
      refine wp_iald (pc := 31) C (Nat.le_of_ble_eq_true rfl) rfl g1 dX4_addBest_31 ?_
      refine wp_i2l (pc := 32) C dX4_addBest_32 ?_
      refine wp_lor (pc := 33) C dX4_addBest_33 ?_
      obtain ⟨z2, ez2, h⟩ := bn_some h
      refine wp_lstore_n (pc := 34) C ez2 [(1, .long z2), (0, .ref (gA G 243)), (3, .int x3)] dX4_addBest_34 rfl (Nat.le_of_ble_eq_true rfl) rfl ?_
      obtain ⟨z3, ez3, h⟩ := bn_some h
      refine wp_iinc (q := 2) (pc := 35) C (by decide) ez3 [(3, .int z3), (1, .long z2), (0, .ref (gA G 243))] dX4_addBest_35 rfl (Nat.le_of_ble_eq_true rfl) rfl ?_
      refine wp_goto (pc := 38) C 16 dX4_addBest_38 (by decide) ?_
      exact wp_sub C [2, 1, 0] rfl (ih _ _ _ h)
def fX4_addBest (n : Nat) (S : St) : Option (St × Unit) :=
  if (S.1 243 17) < 5000 then
    fX4_addBest_l16 n n S 0 7
  else
    some (S, ())
set_option maxRecDepth 100000 in
set_option maxHeartbeats 4000000 in
theorem wX4_addBest (C : Cx G sdX cX4_addBest 4 RX4 none) {n : Nat} {S S' : St} {r : Unit} (h : fX4_addBest n S = some (S', r)) : Wp G sdX (rmOf 1 26) 4 (Qm G sdX none S') S 0 [(0, .ref (gA G 243))] [] := by
  unfold fX4_addBest at h
  refine wp_aload_n (pc := 0) C 0 dX4_addBest_0 rfl rfl ?_
  refine wp_getI (pc := 1) C flX4_53 rfl (Nat.le_of_ble_eq_true rfl) rfl dX4_addBest_1 ?_
  refine wp_sipush (v := 5000) (pc := 4) C dX4_addBest_4 (by decide) ?_
  refine wp_icmp_lt (pc := 7) C 11 dX4_addBest_7 (by decide) (fun q => ?_) (fun q => ?_)
  · have h := it_pos q h
    refine wp_lconst (v := 0) (pc := 11) C dX4_addBest_11 (by decide) ?_
    refine wp_lstore_n (pc := 12) C rfl [(1, .long 0), (0, .ref (gA G 243))] dX4_addBest_12 rfl (Nat.le_of_ble_eq_true rfl) rfl ?_
    refine wp_bipush (v := 7) (pc := 13) C dX4_addBest_13 (by decide) ?_
    refine wp_istore_n (pc := 15) C rfl [(3, .int 7), (1, .long 0), (0, .ref (gA G 243))] dX4_addBest_15 rfl (Nat.le_of_ble_eq_true rfl) rfl ?_
    exact wp_sub C [2, 1, 0] rfl (wX4_addBest_l16 C _ _ _ _ h)
  · have h := it_neg q h
    exact rt_v C rfl h dX4_addBest_10
theorem CtX4_addBest {n : Nat} {S S' : St} {r : Unit} (h : fX4_addBest n S = some (S', r)) : Ct l sdX cy ad D yX4_addBest cX4_addBest 4 none 1 26 [.ref (ad 243)] S none S' :=
  Ct_of (own := RX4) mX4_addBest rfl (Nat.le_of_ble_eq_true rfl) (fun G e1 e2 e3 e4 C => by subst e1 e2 e3 e4; exact wX4_addBest C h)
def fX4_isNoFarther_l3 (n : Nat) : Nat → St → Nat → Int32 → Nat → Int32 → Int32 → Option (St × Int32)
  | 0, _, _, _, _, _, _ => none
  | j + 1, S, a1, x2, a3, x4, x5 =>
    if (S.1 243 12) ≤ x5 then
      some (S, 1)
    else
      gd (isK sdX a1 14) (
      gd (ib (x2 + x5) (sdX.2.2.1 a1)) (
      gd (isK sdX a3 14) (
      gd (ib (x4 + x5) (sdX.2.2.1 a3)) (
      if (lg_cmp (S.2.1 a1 (Int32.toNatClampNeg (x2 + x5))) (S.2.1 a3 (Int32.toNatClampNeg (x4 + x5)))) ≤ 0 then
        bn (x5 + 1) (fun z5 : Int32 =>
        fX4_isNoFarther_l3 n j S a1 x2 a3 x4 z5)
      else
        some (S, 0)))))
set_option maxRecDepth 100000 in
set_option maxHeartbeats 4000000 in
theorem wX4_isNoFarther_l3 (C : Cx G sdX cX4_isNoFarther 6 RX4 (some .boolean)) {n : Nat} {S' : St} {r : Int32} : ∀ (j : Nat) (S : St) (a1 : Nat) (x2 : Int32) (a3 : Nat) (x4 : Int32) (x5 : Int32), fX4_isNoFarther_l3 n j S a1 x2 a3 x4 x5 = some (S', r) → Wp G sdX (rmOf 0 0) 6 (Qm G sdX (some (.int r)) S') S 3 [(0, .ref (gA G 243)), (1, .ref (gA G a1)), (2, .int x2), (3, .ref (gA G a3)), (4, .int x4), (5, .int x5)] [] := by
  intro j
  induction j with
  | zero =>
    intro S a1 x2 a3 x4 x5 h
    exact nomatch (show (none : Option (St × Int32)) = some _ from h)
  | succ j ih =>
    intro S a1 x2 a3 x4 x5 h
    rw [fX4_isNoFarther_l3] at h
    refine wp_iload (pc := 3) C 5 dX4_isNoFarther_3 rfl ?_
    refine wp_aload_n (pc := 5) C 0 dX4_isNoFarther_5 rfl rfl ?_
    refine wp_getI (pc := 6) C flX4_178 rfl (Nat.le_of_ble_eq_true rfl) rfl dX4_isNoFarther_6 ?_
    refine wp_icmp_ge (pc := 9) C 37 dX4_isNoFarther_9 (by decide) (fun q => ?_) (fun q => ?_)
    · have h := it_pos q h
      refine wp_iconst (v := 1) (pc := 37) C dX4_isNoFarther_37 (by decide) ?_
      exact rt_z C (Or.inr rfl) rfl h dX4_isNoFarther_38
    · have h := it_neg q h
      refine wp_aload_n (pc := 12) C 1 dX4_isNoFarther_12 rfl rfl ?_
      refine wp_iload_n (pc := 13) C 2 dX4_isNoFarther_13 rfl rfl ?_
      refine wp_iload (pc := 14) C 5 dX4_isNoFarther_14 rfl ?_
      refine wp_iadd (pc := 16) C dX4_isNoFarther_16 ?_
      obtain ⟨g1, h⟩ := gd_some h
      obtain ⟨g2, h⟩ := gd_some h
      refine wp_lald (pc := 17) C g1.1 g1.2 g2 dX4_isNoFarther_17 ?_
      refine wp_aload_n (pc := 18) C 3 dX4_isNoFarther_18 rfl rfl ?_
      refine wp_iload (pc := 19) C 4 dX4_isNoFarther_19 rfl ?_
      refine wp_iload (pc := 21) C 5 dX4_isNoFarther_21 rfl ?_
      refine wp_iadd (pc := 23) C dX4_isNoFarther_23 ?_
      obtain ⟨g3, h⟩ := gd_some h
      obtain ⟨g4, h⟩ := gd_some h
      refine wp_lald (pc := 24) C g3.1 g3.2 g4 dX4_isNoFarther_24 ?_
      refine wp_lcmp (pc := 25) C dX4_isNoFarther_25 ?_
      refine wp_if_le (pc := 26) C 31 dX4_isNoFarther_26 (by decide) (fun q => ?_) (fun q => ?_)
      · have h := it_pos q h
        obtain ⟨z5, ez5, h⟩ := bn_some h
        refine wp_iinc (q := 5) (pc := 31) C (by decide) ez5 [(5, .int z5), (0, .ref (gA G 243)), (1, .ref (gA G a1)), (2, .int x2), (3, .ref (gA G a3)), (4, .int x4)] dX4_isNoFarther_31 rfl (Nat.le_of_ble_eq_true rfl) rfl ?_
        refine wp_goto (pc := 34) C 3 dX4_isNoFarther_34 (by decide) ?_
        exact wp_sub C [1, 2, 3, 4, 5, 0] rfl (ih _ _ _ _ _ _ h)
      · have h := it_neg q h
        refine wp_iconst (v := 0) (pc := 29) C dX4_isNoFarther_29 (by decide) ?_
        exact rt_z C (Or.inl rfl) rfl h dX4_isNoFarther_30
def fX4_isNoFarther (n : Nat) (S : St) (a1 : Nat) (x2 : Int32) (a3 : Nat) (x4 : Int32) : Option (St × Int32) :=
  fX4_isNoFarther_l3 n n S a1 x2 a3 x4 0
set_option maxRecDepth 100000 in
set_option maxHeartbeats 4000000 in
theorem wX4_isNoFarther (C : Cx G sdX cX4_isNoFarther 6 RX4 (some .boolean)) {n : Nat} {S S' : St} {r : Int32} {a1 : Nat} {x2 : Int32} {a3 : Nat} {x4 : Int32} (h : fX4_isNoFarther n S a1 x2 a3 x4 = some (S', r)) : Wp G sdX (rmOf 0 0) 6 (Qm G sdX (some (.int r)) S') S 0 [(0, .ref (gA G 243)), (1, .ref (gA G a1)), (2, .int x2), (3, .ref (gA G a3)), (4, .int x4)] [] := by
  unfold fX4_isNoFarther at h
  refine wp_iconst (v := 0) (pc := 0) C dX4_isNoFarther_0 (by decide) ?_
  refine wp_istore (pc := 1) C rfl [(5, .int 0), (0, .ref (gA G 243)), (1, .ref (gA G a1)), (2, .int x2), (3, .ref (gA G a3)), (4, .int x4)] dX4_isNoFarther_1 (Nat.le_of_ble_eq_true rfl) rfl ?_
  exact wp_sub C [1, 2, 3, 4, 5, 0] rfl (wX4_isNoFarther_l3 C _ _ _ _ _ _ _ h)
theorem CtX4_isNoFarther {n : Nat} {S S' : St} {r : Int32} {a1 : Nat} {x2 : Int32} {a3 : Nat} {x4 : Int32} (h : fX4_isNoFarther n S a1 x2 a3 x4 = some (S', r)) : Ct l sdX cy ad D yX4_isNoFarther cX4_isNoFarther 6 (some .boolean) 0 0 [.ref (ad 243), .ref (ad a1), .int x2, .ref (ad a3), .int x4] S (some (.int r)) S' :=
  Ct_of (own := RX4) mX4_isNoFarther rfl (Nat.le_of_ble_eq_true rfl) (fun G e1 e2 e3 e4 C => by subst e1 e2 e3 e4; exact wX4_isNoFarther C h)
def fX4_findRival_l2 (n : Nat) : Nat → St → Int32 → Option (St × Int32)
  | 0, _, _ => none
  | j + 1, S, x1 =>
    if (S.1 243 17) ≤ x1 then
      some (S, (-1))
    else
      bd (fX4_isNoFarther n S 258 (x1 * 6) 259 0) (fun S1 r2 =>
      if r2 = 0 then
        bn (x1 + 1) (fun z3 : Int32 =>
        fX4_findRival_l2 n j S1 z3)
      else
        some (S1, x1))
set_option maxRecDepth 100000 in
set_option maxHeartbeats 4000000 in
theorem wX4_findRival_l2 (C : Cx G sdX cX4_findRival 2 RX4 (some .int)) {n : Nat} {S' : St} {r : Int32} : ∀ (j : Nat) (S : St) (x1 : Int32), fX4_findRival_l2 n j S x1 = some (S', r) → Wp G sdX (rmOf 1 25) 2 (Qm G sdX (some (.int r)) S') S 2 [(0, .ref (gA G 243)), (1, .int x1)] [] := by
  intro j
  induction j with
  | zero =>
    intro S x1 h
    exact nomatch (show (none : Option (St × Int32)) = some _ from h)
  | succ j ih =>
    intro S x1 h
    rw [fX4_findRival_l2] at h
    refine wp_iload_n (pc := 2) C 1 dX4_findRival_2 rfl rfl ?_
    refine wp_aload_n (pc := 3) C 0 dX4_findRival_3 rfl rfl ?_
    refine wp_getI (pc := 4) C flX4_53 rfl (Nat.le_of_ble_eq_true rfl) rfl dX4_findRival_4 ?_
    refine wp_icmp_ge (pc := 7) C 38 dX4_findRival_7 (by decide) (fun q => ?_) (fun q => ?_)
    · have h := it_pos q h
      refine wp_iconst (v := (-1)) (pc := 38) C dX4_findRival_38 (by decide) ?_
      exact rt_i C rfl h dX4_findRival_39
    · have h := it_neg q h
      refine wp_aload_n (pc := 10) C 0 dX4_findRival_10 rfl rfl ?_
      refine wp_aload_n (pc := 11) C 0 dX4_findRival_11 rfl rfl ?_
      refine wp_getS (v := 258) (pc := 12) C flX4_32 rfl rfl (Nat.le_of_ble_eq_true rfl) (Nat.le_of_ble_eq_true rfl) rfl dX4_findRival_12 ?_
      refine wp_iload_n (pc := 15) C 1 dX4_findRival_15 rfl rfl ?_
      refine wp_bipush (v := 6) (pc := 16) C dX4_findRival_16 (by decide) ?_
      refine wp_imul (pc := 18) C dX4_findRival_18 ?_
      refine wp_aload_n (pc := 19) C 0 dX4_findRival_19 rfl rfl ?_
      refine wp_getS (v := 259) (pc := 20) C flX4_35 rfl rfl (Nat.le_of_ble_eq_true rfl) (Nat.le_of_ble_eq_true rfl) rfl dX4_findRival_20 ?_
      refine wp_iconst (v := 0) (pc := 23) C dX4_findRival_23 (by decide) ?_
      obtain ⟨S1, r2, cS1, h⟩ := bd_some h
      refine wp_callVi (As := [.ref (gA G 258), .int (x1 * 6), .ref (gA G 259), .int 0]) (st := []) (pc := 24) C (CtX4_isNoFarther cS1) mX4_isNoFarther iX4_isNoFarther kX4_201 (Nat.le_of_ble_eq_true rfl) rfl (by decide) rfl rfl rfl rfl (Nat.le_of_ble_eq_true rfl) ⟨Nat.le_of_ble_eq_true rfl, Nat.le_of_ble_eq_true rfl⟩ dX4_findRival_24 ?_
      refine wp_if_eq (pc := 27) C 32 dX4_findRival_27 (by decide) (fun q => ?_) (fun q => ?_)
      · have h := it_pos q h
        obtain ⟨z3, ez3, h⟩ := bn_some h
        refine wp_iinc (q := 1) (pc := 32) C (by decide) ez3 [(1, .int z3), (0, .ref (gA G 243))] dX4_findRival_32 rfl (Nat.le_of_ble_eq_true rfl) rfl ?_
        refine wp_goto (pc := 35) C 2 dX4_findRival_35 (by decide) ?_
        exact wp_sub C [1, 0] rfl (ih _ _ h)
      · have h := it_neg q h
        refine wp_iload_n (pc := 30) C 1 dX4_findRival_30 rfl rfl ?_
        exact rt_i C rfl h dX4_findRival_31
def fX4_findRival (n : Nat) (S : St) : Option (St × Int32) :=
  fX4_findRival_l2 n n S 0
set_option maxRecDepth 100000 in
set_option maxHeartbeats 4000000 in
theorem wX4_findRival (C : Cx G sdX cX4_findRival 2 RX4 (some .int)) {n : Nat} {S S' : St} {r : Int32} (h : fX4_findRival n S = some (S', r)) : Wp G sdX (rmOf 1 25) 2 (Qm G sdX (some (.int r)) S') S 0 [(0, .ref (gA G 243))] [] := by
  unfold fX4_findRival at h
  refine wp_iconst (v := 0) (pc := 0) C dX4_findRival_0 (by decide) ?_
  refine wp_istore_n (pc := 1) C rfl [(1, .int 0), (0, .ref (gA G 243))] dX4_findRival_1 rfl (Nat.le_of_ble_eq_true rfl) rfl ?_
  exact wp_sub C [1, 0] rfl (wX4_findRival_l2 C _ _ _ h)
theorem CtX4_findRival {n : Nat} {S S' : St} {r : Int32} (h : fX4_findRival n S = some (S', r)) : Ct l sdX cy ad D yX4_findRival cX4_findRival 2 (some .int) 1 25 [.ref (ad 243)] S (some (.int r)) S' :=
  Ct_of (own := RX4) mX4_findRival rfl (Nat.le_of_ble_eq_true rfl) (fun G e1 e2 e3 e4 C => by subst e1 e2 e3 e4; exact wX4_findRival C h)
def fX4_removeBeaten_j81 (n : Nat) (S : St) (x1 : Int32) : Option (St × Unit) :=
  bn (sI S 243 17 x1) (fun S1 : St =>
  some (S1, ()))
set_option maxRecDepth 100000 in
set_option maxHeartbeats 4000000 in
theorem wX4_removeBeaten_j81 (C : Cx G sdX cX4_removeBeaten 3 RX4 none) {n : Nat} {S S' : St} {r : Unit} {x1 : Int32} (h : fX4_removeBeaten_j81 n S x1 = some (S', r)) : Wp G sdX (rmOf 1 26) 3 (Qm G sdX none S') S 81 [(0, .ref (gA G 243)), (1, .int x1)] [] := by
  unfold fX4_removeBeaten_j81 at h
  refine wp_aload_n (pc := 81) C 0 dX4_removeBeaten_81 rfl rfl ?_
  refine wp_iload_n (pc := 82) C 1 dX4_removeBeaten_82 rfl rfl ?_
  obtain ⟨S1, eS1, h⟩ := bn_some h
  refine wp_putI (pc := 83) C eS1 flX4_53 fpX4_17 rfl (Nat.le_of_ble_eq_true rfl) rfl dX4_removeBeaten_83 ?_
  exact rt_v C rfl h dX4_removeBeaten_86
def fX4_removeBeaten_j75 (n : Nat) (k4 : St → Int32 → Int32 → Option (St × Unit)) (S : St) (x1 : Int32) (x2 : Int32) : Option (St × Unit) :=
  bn (x2 + 1) (fun z1 : Int32 =>
  k4 S x1 z1)
set_option maxRecDepth 100000 in
set_option maxHeartbeats 4000000 in
theorem wX4_removeBeaten_j75 (C : Cx G sdX cX4_removeBeaten 3 RX4 none) {n : Nat} {k4 : St → Int32 → Int32 → Option (St × Unit)} {S S' : St} {r : Unit} {x1 : Int32} {x2 : Int32} (hk4 : ∀ (S : St) (x1 : Int32) (x2 : Int32), k4 S x1 x2 = some (S', r) → Wp G sdX (rmOf 1 26) 3 (Qm G sdX none S') S 4 [(0, .ref (gA G 243)), (1, .int x1), (2, .int x2)] []) (h : fX4_removeBeaten_j75 n k4 S x1 x2 = some (S', r)) : Wp G sdX (rmOf 1 26) 3 (Qm G sdX none S') S 75 [(0, .ref (gA G 243)), (1, .int x1), (2, .int x2)] [] := by
  unfold fX4_removeBeaten_j75 at h
  obtain ⟨z1, ez1, h⟩ := bn_some h
  refine wp_iinc (q := 2) (pc := 75) C (by decide) ez1 [(2, .int z1), (0, .ref (gA G 243)), (1, .int x1)] dX4_removeBeaten_75 rfl (Nat.le_of_ble_eq_true rfl) rfl ?_
  refine wp_goto (pc := 78) C 4 dX4_removeBeaten_78 (by decide) ?_
  exact wp_sub C [1, 2, 0] rfl (hk4 _ _ _ h)
def fX4_removeBeaten_j72 (n : Nat) (k4 : St → Int32 → Int32 → Option (St × Unit)) (S : St) (x1 : Int32) (x2 : Int32) : Option (St × Unit) :=
  bn (x1 + 1) (fun z1 : Int32 =>
  fX4_removeBeaten_j75 n k4 S z1 x2)
set_option maxRecDepth 100000 in
set_option maxHeartbeats 4000000 in
theorem wX4_removeBeaten_j72 (C : Cx G sdX cX4_removeBeaten 3 RX4 none) {n : Nat} {k4 : St → Int32 → Int32 → Option (St × Unit)} {S S' : St} {r : Unit} {x1 : Int32} {x2 : Int32} (hk4 : ∀ (S : St) (x1 : Int32) (x2 : Int32), k4 S x1 x2 = some (S', r) → Wp G sdX (rmOf 1 26) 3 (Qm G sdX none S') S 4 [(0, .ref (gA G 243)), (1, .int x1), (2, .int x2)] []) (h : fX4_removeBeaten_j72 n k4 S x1 x2 = some (S', r)) : Wp G sdX (rmOf 1 26) 3 (Qm G sdX none S') S 72 [(0, .ref (gA G 243)), (1, .int x1), (2, .int x2)] [] := by
  unfold fX4_removeBeaten_j72 at h
  obtain ⟨z1, ez1, h⟩ := bn_some h
  refine wp_iinc (q := 1) (pc := 72) C (by decide) ez1 [(1, .int z1), (0, .ref (gA G 243)), (2, .int x2)] dX4_removeBeaten_72 rfl (Nat.le_of_ble_eq_true rfl) rfl ?_
  exact wp_sub C [1, 0, 2] rfl (wX4_removeBeaten_j75 C hk4 h)
def fX4_removeBeaten_l4 (n : Nat) : Nat → St → Int32 → Int32 → Option (St × Unit)
  | 0, _, _, _ => none
  | j + 1, S, x1, x2 =>
    if (S.1 243 17) ≤ x2 then
      fX4_removeBeaten_j81 n S x1
    else
      bd (fX4_isNoFarther n S 259 0 258 (x2 * 6)) (fun S1 r2 =>
      if r2 = 0 then
        if x2 ≤ x1 then
          fX4_removeBeaten_j72 n (fX4_removeBeaten_l4 n j) S1 x1 x2
        else
          gd (ib x2 5000) (
          gd (ib x1 5000) (
          bn (sL S1 257 (Int32.toNatClampNeg x1) (S1.2.1 257 (Int32.toNatClampNeg x2))) (fun S5 : St =>
          gd (¬ (x2 * 6) < 0 ∧ ¬ (x1 * 6) < 0 ∧ ¬ (S5.1 243 12) < 0 ∧ (Int32.toNatClampNeg (x2 * 6)) + (Int32.toNatClampNeg (S5.1 243 12)) ≤ 30000 ∧ (Int32.toNatClampNeg (x1 * 6)) + (Int32.toNatClampNeg (S5.1 243 12)) ≤ 30000) (
          bn (cL S5 258 258 (Int32.toNatClampNeg (x2 * 6)) (Int32.toNatClampNeg (x1 * 6)) (Int32.toNatClampNeg (S5.1 243 12))) (fun S7 : St =>
          fX4_removeBeaten_j72 n (fX4_removeBeaten_l4 n j) S7 x1 x2)))))
      else
        fX4_removeBeaten_j75 n (fX4_removeBeaten_l4 n j) S1 x1 x2)
set_option maxRecDepth 100000 in
set_option maxHeartbeats 4000000 in
theorem wX4_removeBeaten_l4 (C : Cx G sdX cX4_removeBeaten 3 RX4 none) {n : Nat} {S' : St} {r : Unit} : ∀ (j : Nat) (S : St) (x1 : Int32) (x2 : Int32), fX4_removeBeaten_l4 n j S x1 x2 = some (S', r) → Wp G sdX (rmOf 1 26) 3 (Qm G sdX none S') S 4 [(0, .ref (gA G 243)), (1, .int x1), (2, .int x2)] [] := by
  intro j
  induction j with
  | zero =>
    intro S x1 x2 h
    exact nomatch (show (none : Option (St × Unit)) = some _ from h)
  | succ j ih =>
    intro S x1 x2 h
    rw [fX4_removeBeaten_l4] at h
    refine wp_iload_n (pc := 4) C 2 dX4_removeBeaten_4 rfl rfl ?_
    refine wp_aload_n (pc := 5) C 0 dX4_removeBeaten_5 rfl rfl ?_
    refine wp_getI (pc := 6) C flX4_53 rfl (Nat.le_of_ble_eq_true rfl) rfl dX4_removeBeaten_6 ?_
    refine wp_icmp_ge (pc := 9) C 81 dX4_removeBeaten_9 (by decide) (fun q => ?_) (fun q => ?_)
    · have h := it_pos q h
      exact wp_sub C [0, 1] rfl (wX4_removeBeaten_j81 C h)
    · have h := it_neg q h
      refine wp_aload_n (pc := 12) C 0 dX4_removeBeaten_12 rfl rfl ?_
      refine wp_aload_n (pc := 13) C 0 dX4_removeBeaten_13 rfl rfl ?_
      refine wp_getS (v := 259) (pc := 14) C flX4_35 rfl rfl (Nat.le_of_ble_eq_true rfl) (Nat.le_of_ble_eq_true rfl) rfl dX4_removeBeaten_14 ?_
      refine wp_iconst (v := 0) (pc := 17) C dX4_removeBeaten_17 (by decide) ?_
      refine wp_aload_n (pc := 18) C 0 dX4_removeBeaten_18 rfl rfl ?_
      refine wp_getS (v := 258) (pc := 19) C flX4_32 rfl rfl (Nat.le_of_ble_eq_true rfl) (Nat.le_of_ble_eq_true rfl) rfl dX4_removeBeaten_19 ?_
      refine wp_iload_n (pc := 22) C 2 dX4_removeBeaten_22 rfl rfl ?_
      refine wp_bipush (v := 6) (pc := 23) C dX4_removeBeaten_23 (by decide) ?_
      refine wp_imul (pc := 25) C dX4_removeBeaten_25 ?_
      obtain ⟨S1, r2, cS1, h⟩ := bd_some h
      refine wp_callVi (As := [.ref (gA G 259), .int 0, .ref (gA G 258), .int (x2 * 6)]) (st := []) (pc := 26) C (CtX4_isNoFarther cS1) mX4_isNoFarther iX4_isNoFarther kX4_201 (Nat.le_of_ble_eq_true rfl) rfl (by decide) rfl rfl rfl rfl (Nat.le_of_ble_eq_true rfl) ⟨Nat.le_of_ble_eq_true rfl, Nat.le_of_ble_eq_true rfl⟩ dX4_removeBeaten_26 ?_
      refine wp_if_ne (pc := 29) C 75 dX4_removeBeaten_29 (by decide) (fun q => ?_) (fun q => ?_)
      · have h := it_neg q h
        exact (wX4_removeBeaten_j75 C ih h)
      · have h := it_pos q h
        refine wp_iload_n (pc := 32) C 1 dX4_removeBeaten_32 rfl rfl ?_
        refine wp_iload_n (pc := 33) C 2 dX4_removeBeaten_33 rfl rfl ?_
        refine wp_icmp_ge (pc := 34) C 72 dX4_removeBeaten_34 (by decide) (fun q => ?_) (fun q => ?_)
        · have h := it_pos q h
          exact (wX4_removeBeaten_j72 C ih h)
        · have h := it_neg q h
          refine wp_aload_n (pc := 37) C 0 dX4_removeBeaten_37 rfl rfl ?_
          refine wp_getS (v := 257) (pc := 38) C flX4_28 rfl rfl (Nat.le_of_ble_eq_true rfl) (Nat.le_of_ble_eq_true rfl) rfl dX4_removeBeaten_38 ?_
          refine wp_iload_n (pc := 41) C 1 dX4_removeBeaten_41 rfl rfl ?_
          refine wp_aload_n (pc := 42) C 0 dX4_removeBeaten_42 rfl rfl ?_
          refine wp_getS (v := 257) (pc := 43) C flX4_28 rfl rfl (Nat.le_of_ble_eq_true rfl) (Nat.le_of_ble_eq_true rfl) rfl dX4_removeBeaten_43 ?_
          refine wp_iload_n (pc := 46) C 2 dX4_removeBeaten_46 rfl rfl ?_
          obtain ⟨g3, h⟩ := gd_some h
          refine wp_lald (pc := 47) C (Nat.le_of_ble_eq_true rfl) rfl g3 dX4_removeBeaten_47 ?_
          obtain ⟨g4, h⟩ := gd_some h
          obtain ⟨S5, eS5, h⟩ := bn_some h
          refine wp_last (pc := 48) C eS5 (Nat.le_of_ble_eq_true rfl) rfl g4 dX4_removeBeaten_48 ?_
          refine wp_aload_n (pc := 49) C 0 dX4_removeBeaten_49 rfl rfl ?_
          refine wp_getS (v := 258) (pc := 50) C flX4_32 rfl rfl (Nat.le_of_ble_eq_true rfl) (Nat.le_of_ble_eq_true rfl) rfl dX4_removeBeaten_50 ?_
          refine wp_iload_n (pc := 53) C 2 dX4_removeBeaten_53 rfl rfl ?_
          refine wp_bipush (v := 6) (pc := 54) C dX4_removeBeaten_54 (by decide) ?_
          refine wp_imul (pc := 56) C dX4_removeBeaten_56 ?_
          refine wp_aload_n (pc := 57) C 0 dX4_removeBeaten_57 rfl rfl ?_
          refine wp_getS (v := 258) (pc := 58) C flX4_32 rfl rfl (Nat.le_of_ble_eq_true rfl) (Nat.le_of_ble_eq_true rfl) rfl dX4_removeBeaten_58 ?_
          refine wp_iload_n (pc := 61) C 1 dX4_removeBeaten_61 rfl rfl ?_
          refine wp_bipush (v := 6) (pc := 62) C dX4_removeBeaten_62 (by decide) ?_
          refine wp_imul (pc := 64) C dX4_removeBeaten_64 ?_
          refine wp_aload_n (pc := 65) C 0 dX4_removeBeaten_65 rfl rfl ?_
          refine wp_getI (pc := 66) C flX4_178 rfl (Nat.le_of_ble_eq_true rfl) rfl dX4_removeBeaten_66 ?_
          obtain ⟨g6, h⟩ := gd_some h
          obtain ⟨S7, eS7, h⟩ := bn_some h
          refine wp_copyL (pc := 69) C eS7 kX4_109 acN acS acI (Nat.le_of_ble_eq_true rfl) rfl (Nat.le_of_ble_eq_true rfl) rfl g6.1 g6.2.1 g6.2.2.1 g6.2.2.2.1 g6.2.2.2.2 (Nat.le_of_ble_eq_true rfl) (Nat.le_of_ble_eq_true rfl) dX4_removeBeaten_69 ?_
          exact (wX4_removeBeaten_j72 C ih h)
def fX4_removeBeaten (n : Nat) (S : St) : Option (St × Unit) :=
  fX4_removeBeaten_l4 n n S 0 0
set_option maxRecDepth 100000 in
set_option maxHeartbeats 4000000 in
theorem wX4_removeBeaten (C : Cx G sdX cX4_removeBeaten 3 RX4 none) {n : Nat} {S S' : St} {r : Unit} (h : fX4_removeBeaten n S = some (S', r)) : Wp G sdX (rmOf 1 26) 3 (Qm G sdX none S') S 0 [(0, .ref (gA G 243))] [] := by
  unfold fX4_removeBeaten at h
  refine wp_iconst (v := 0) (pc := 0) C dX4_removeBeaten_0 (by decide) ?_
  refine wp_istore_n (pc := 1) C rfl [(1, .int 0), (0, .ref (gA G 243))] dX4_removeBeaten_1 rfl (Nat.le_of_ble_eq_true rfl) rfl ?_
  refine wp_iconst (v := 0) (pc := 2) C dX4_removeBeaten_2 (by decide) ?_
  refine wp_istore_n (pc := 3) C rfl [(2, .int 0), (1, .int 0), (0, .ref (gA G 243))] dX4_removeBeaten_3 rfl (Nat.le_of_ble_eq_true rfl) rfl ?_
  exact wp_sub C [2, 1, 0] rfl (wX4_removeBeaten_l4 C _ _ _ _ h)
theorem CtX4_removeBeaten {n : Nat} {S S' : St} {r : Unit} (h : fX4_removeBeaten n S = some (S', r)) : Ct l sdX cy ad D yX4_removeBeaten cX4_removeBeaten 3 none 1 26 [.ref (ad 243)] S none S' :=
  Ct_of (own := RX4) mX4_removeBeaten rfl (Nat.le_of_ble_eq_true rfl) (fun G e1 e2 e3 e4 C => by subst e1 e2 e3 e4; exact wX4_removeBeaten C h)
def fX4_holdAgainstBest (n : Nat) (S : St) : Option (St × Unit) :=
  bd (fX4_findRival n S) (fun S1 r2 =>
  if r2 = (-1) then
    bd (fX4_removeBeaten n S1) (fun S7 r8 =>
    bd (fX4_addBest n S7) (fun S9 r10 =>
    some (S9, ())))
  else
    bd (fX4_isNoFarther n S1 259 0 258 (r2 * 6)) (fun S3 r4 =>
    if r4 = 0 then
      some (S3, ())
    else
      bd (fX4_addBest n S3) (fun S5 r6 =>
      some (S5, ()))))
set_option maxRecDepth 100000 in
set_option maxHeartbeats 4000000 in
theorem wX4_holdAgainstBest (C : Cx G sdX cX4_holdAgainstBest 2 RX4 none) {n : Nat} {S S' : St} {r : Unit} (h : fX4_holdAgainstBest n S = some (S', r)) : Wp G sdX (rmOf 2 49) 2 (Qm G sdX none S') S 0 [(0, .ref (gA G 243))] [] := by
  unfold fX4_holdAgainstBest at h
  refine wp_aload_n (pc := 0) C 0 dX4_holdAgainstBest_0 rfl rfl ?_
  obtain ⟨S1, r2, cS1, h⟩ := bd_some h
  refine wp_callVi (As := []) (st := []) (pc := 1) C (CtX4_findRival cS1) mX4_findRival iX4_findRival kX4_192 (Nat.le_of_ble_eq_true rfl) rfl (by decide) rfl rfl rfl rfl (Nat.le_of_ble_eq_true rfl) ⟨Nat.le_of_ble_eq_true rfl, Nat.le_of_ble_eq_true rfl⟩ dX4_holdAgainstBest_1 ?_
  refine wp_istore_n (pc := 4) C rfl [(1, .int r2), (0, .ref (gA G 243))] dX4_holdAgainstBest_4 rfl (Nat.le_of_ble_eq_true rfl) rfl ?_
  refine wp_iload_n (pc := 5) C 0 dX4_holdAgainstBest_5 rfl rfl ?_
  refine wp_iconst (v := (-1)) (pc := 6) C dX4_holdAgainstBest_6 (by decide) ?_
  refine wp_icmp_ne (pc := 7) C 21 dX4_holdAgainstBest_7 (by decide) (fun q => ?_) (fun q => ?_)
  · have h := it_neg q h
    refine wp_aload_n (pc := 21) C 1 dX4_holdAgainstBest_21 rfl rfl ?_
    refine wp_aload_n (pc := 22) C 1 dX4_holdAgainstBest_22 rfl rfl ?_
    refine wp_getS (v := 259) (pc := 23) C flX4_35 rfl rfl (Nat.le_of_ble_eq_true rfl) (Nat.le_of_ble_eq_true rfl) rfl dX4_holdAgainstBest_23 ?_
    refine wp_iconst (v := 0) (pc := 26) C dX4_holdAgainstBest_26 (by decide) ?_
    refine wp_aload_n (pc := 27) C 1 dX4_holdAgainstBest_27 rfl rfl ?_
    refine wp_getS (v := 258) (pc := 28) C flX4_32 rfl rfl (Nat.le_of_ble_eq_true rfl) (Nat.le_of_ble_eq_true rfl) rfl dX4_holdAgainstBest_28 ?_
    refine wp_iload_n (pc := 31) C 0 dX4_holdAgainstBest_31 rfl rfl ?_
    refine wp_bipush (v := 6) (pc := 32) C dX4_holdAgainstBest_32 (by decide) ?_
    refine wp_imul (pc := 34) C dX4_holdAgainstBest_34 ?_
    obtain ⟨S3, r4, cS3, h⟩ := bd_some h
    refine wp_callVi (As := [.ref (gA G 259), .int 0, .ref (gA G 258), .int (r2 * 6)]) (st := []) (pc := 35) C (CtX4_isNoFarther cS3) mX4_isNoFarther iX4_isNoFarther kX4_201 (Nat.le_of_ble_eq_true rfl) rfl (by decide) rfl rfl rfl rfl (Nat.le_of_ble_eq_true rfl) ⟨Nat.le_of_ble_eq_true rfl, Nat.le_of_ble_eq_true rfl⟩ dX4_holdAgainstBest_35 ?_
    refine wp_if_eq (pc := 38) C 45 dX4_holdAgainstBest_38 (by decide) (fun q => ?_) (fun q => ?_)
    · have h := it_pos q h
      exact rt_v C rfl h dX4_holdAgainstBest_45
    · have h := it_neg q h
      refine wp_aload_n (pc := 41) C 1 dX4_holdAgainstBest_41 rfl rfl ?_
      obtain ⟨S5, r6, cS5, h⟩ := bd_some h
      refine wp_callVv (As := []) (st := []) (pc := 42) C (CtX4_addBest cS5) mX4_addBest iX4_addBest kX4_198 (Nat.le_of_ble_eq_true rfl) rfl (by decide) rfl rfl rfl rfl (Nat.le_of_ble_eq_true rfl) ⟨Nat.le_of_ble_eq_true rfl, Nat.le_of_ble_eq_true rfl⟩ dX4_holdAgainstBest_42 ?_
      exact rt_v C rfl h dX4_holdAgainstBest_45
  · have h := it_pos q h
    refine wp_aload_n (pc := 10) C 1 dX4_holdAgainstBest_10 rfl rfl ?_
    obtain ⟨S7, r8, cS7, h⟩ := bd_some h
    refine wp_callVv (As := []) (st := []) (pc := 11) C (CtX4_removeBeaten cS7) mX4_removeBeaten iX4_removeBeaten kX4_195 (Nat.le_of_ble_eq_true rfl) rfl (by decide) rfl rfl rfl rfl (Nat.le_of_ble_eq_true rfl) ⟨Nat.le_of_ble_eq_true rfl, Nat.le_of_ble_eq_true rfl⟩ dX4_holdAgainstBest_11 ?_
    refine wp_aload_n (pc := 14) C 1 dX4_holdAgainstBest_14 rfl rfl ?_
    obtain ⟨S9, r10, cS9, h⟩ := bd_some h
    refine wp_callVv (As := []) (st := []) (pc := 15) C (CtX4_addBest cS9) mX4_addBest iX4_addBest kX4_198 (Nat.le_of_ble_eq_true rfl) rfl (by decide) rfl rfl rfl rfl (Nat.le_of_ble_eq_true rfl) ⟨Nat.le_of_ble_eq_true rfl, Nat.le_of_ble_eq_true rfl⟩ dX4_holdAgainstBest_15 ?_
    refine wp_goto (pc := 18) C 45 dX4_holdAgainstBest_18 (by decide) ?_
    exact rt_v C rfl h dX4_holdAgainstBest_45
theorem CtX4_holdAgainstBest {n : Nat} {S S' : St} {r : Unit} (h : fX4_holdAgainstBest n S = some (S', r)) : Ct l sdX cy ad D yX4_holdAgainstBest cX4_holdAgainstBest 2 none 2 49 [.ref (ad 243)] S none S' :=
  Ct_of (own := RX4) mX4_holdAgainstBest rfl (Nat.le_of_ble_eq_true rfl) (fun G e1 e2 e3 e4 C => by subst e1 e2 e3 e4; exact wX4_holdAgainstBest C h)
def fX4_layBest_j54 (n : Nat) (S : St) : Option (St × Unit) :=
  bn (sI S 243 15 1) (fun S1 : St =>
  some (S1, ()))
set_option maxRecDepth 100000 in
set_option maxHeartbeats 4000000 in
theorem wX4_layBest_j54 (C : Cx G sdX cX4_layBest 5 RX4 none) {n : Nat} {S S' : St} {r : Unit} (h : fX4_layBest_j54 n S = some (S', r)) : Wp G sdX (rmOf 0 0) 5 (Qm G sdX none S') S 54 [(0, .ref (gA G 243))] [] := by
  unfold fX4_layBest_j54 at h
  refine wp_aload_n (pc := 54) C 0 dX4_layBest_54 rfl rfl ?_
  refine wp_iconst (v := 1) (pc := 55) C dX4_layBest_55 (by decide) ?_
  obtain ⟨S1, eS1, h⟩ := bn_some h
  refine wp_putZ (pc := 56) C (Or.inr rfl) eS1 flX4_50 fpX4_15 rfl (Nat.le_of_ble_eq_true rfl) rfl dX4_layBest_56 ?_
  exact rt_v C rfl h dX4_layBest_59
def fX4_layBest_l23 (n : Nat) : Nat → St → Int64 → Int32 → Option (St × Unit)
  | 0, _, _, _ => none
  | j + 1, S, x2, x4 =>
    if 8 ≤ x4 then
      fX4_layBest_j54 n S
    else
      gd (ib x4 8) (
      bn (sI S 260 (Int32.toNatClampNeg x4) ((((x2 >>> (((5 * x4) : Int32).toInt64 &&& 63)) &&& 31) : Int64).toInt32)) (fun S2 : St =>
      bn (x4 + 1) (fun z3 : Int32 =>
      fX4_layBest_l23 n j S2 x2 z3)))
set_option maxRecDepth 100000 in
set_option maxHeartbeats 4000000 in
theorem wX4_layBest_l23 (C : Cx G sdX cX4_layBest 5 RX4 none) {n : Nat} {S' : St} {r : Unit} : ∀ (j : Nat) (S : St) (x2 : Int64) (x4 : Int32), fX4_layBest_l23 n j S x2 x4 = some (S', r) → Wp G sdX (rmOf 0 0) 5 (Qm G sdX none S') S 23 [(0, .ref (gA G 243)), (2, .long x2), (4, .int x4)] [] := by
  intro j
  induction j with
  | zero =>
    intro S x2 x4 h
    exact nomatch (show (none : Option (St × Unit)) = some _ from h)
  | succ j ih =>
    intro S x2 x4 h
    rw [fX4_layBest_l23] at h
    refine wp_iload (pc := 23) C 2 dX4_layBest_23 rfl ?_
    refine wp_bipush (v := 8) (pc := 25) C dX4_layBest_25 (by decide) ?_
    refine wp_icmp_ge (pc := 27) C 54 dX4_layBest_27 (by decide) (fun q => ?_) (fun q => ?_)
    · have h := it_pos q h
      exact wp_sub C [0] rfl (wX4_layBest_j54 C h)
    · have h := it_neg q h
      refine wp_aload_n (pc := 30) C 0 dX4_layBest_30 rfl rfl ?_
      refine wp_getS (v := 260) (pc := 31) C flX4_38 rfl rfl (Nat.le_of_ble_eq_true rfl) (Nat.le_of_ble_eq_true rfl) rfl dX4_layBest_31 ?_
      refine wp_iload (pc := 34) C 2 dX4_layBest_34 rfl ?_
      refine wp_lload_n (pc := 36) C 1 dX4_layBest_36 rfl rfl ?_
      refine wp_iconst (v := 5) (pc := 37) C dX4_layBest_37 (by decide) ?_
      refine wp_iload (pc := 38) C 2 dX4_layBest_38 rfl ?_
      refine wp_imul (pc := 40) C dX4_layBest_40 ?_
      refine wp_lshr (pc := 41) C dX4_layBest_41 ?_
      refine wp_ldc2 (pc := 42) C qX4_205 dX4_layBest_42 ?_
      refine wp_land (pc := 45) C dX4_layBest_45 ?_
      refine wp_l2i (pc := 46) C dX4_layBest_46 ?_
      obtain ⟨g1, h⟩ := gd_some h
      obtain ⟨S2, eS2, h⟩ := bn_some h
      refine wp_iast (pc := 47) C eS2 (Nat.le_of_ble_eq_true rfl) rfl g1 dX4_layBest_47 ?_
      obtain ⟨z3, ez3, h⟩ := bn_some h
      refine wp_iinc (q := 2) (pc := 48) C (by decide) ez3 [(4, .int z3), (0, .ref (gA G 243)), (2, .long x2)] dX4_layBest_48 rfl (Nat.le_of_ble_eq_true rfl) rfl ?_
      refine wp_goto (pc := 51) C 23 dX4_layBest_51 (by decide) ?_
      exact wp_sub C [1, 2, 0] rfl (ih _ _ _ h)
def fX4_layBest (n : Nat) (S : St) (x1 : Int32) : Option (St × Unit) :=
  if x1 < 0 then
    some (S, ())
  else
    if x1 < (S.1 243 17) then
      gd (ib x1 5000) (
      bn (S.2.1 257 (Int32.toNatClampNeg x1)) (fun z2 : Int64 =>
      fX4_layBest_l23 n n S z2 0))
    else
      some (S, ())
set_option maxRecDepth 100000 in
set_option maxHeartbeats 4000000 in
theorem wX4_layBest (C : Cx G sdX cX4_layBest 5 RX4 none) {n : Nat} {S S' : St} {r : Unit} {x1 : Int32} (h : fX4_layBest n S x1 = some (S', r)) : Wp G sdX (rmOf 0 0) 5 (Qm G sdX none S') S 0 [(0, .ref (gA G 243)), (1, .int x1)] [] := by
  unfold fX4_layBest at h
  refine wp_iload_n (pc := 0) C 1 dX4_layBest_0 rfl rfl ?_
  refine wp_if_lt (pc := 1) C 12 dX4_layBest_1 (by decide) (fun q => ?_) (fun q => ?_)
  · have h := it_pos q h
    exact rt_v C rfl h dX4_layBest_12
  · have h := it_neg q h
    refine wp_iload_n (pc := 4) C 1 dX4_layBest_4 rfl rfl ?_
    refine wp_aload_n (pc := 5) C 0 dX4_layBest_5 rfl rfl ?_
    refine wp_getI (pc := 6) C flX4_53 rfl (Nat.le_of_ble_eq_true rfl) rfl dX4_layBest_6 ?_
    refine wp_icmp_lt (pc := 9) C 13 dX4_layBest_9 (by decide) (fun q => ?_) (fun q => ?_)
    · have h := it_pos q h
      refine wp_aload_n (pc := 13) C 0 dX4_layBest_13 rfl rfl ?_
      refine wp_getS (v := 257) (pc := 14) C flX4_28 rfl rfl (Nat.le_of_ble_eq_true rfl) (Nat.le_of_ble_eq_true rfl) rfl dX4_layBest_14 ?_
      refine wp_iload_n (pc := 17) C 1 dX4_layBest_17 rfl rfl ?_
      obtain ⟨g1, h⟩ := gd_some h
      refine wp_lald (pc := 18) C (Nat.le_of_ble_eq_true rfl) rfl g1 dX4_layBest_18 ?_
      obtain ⟨z2, ez2, h⟩ := bn_some h
      refine wp_lstore_n (pc := 19) C ez2 [(2, .long z2), (0, .ref (gA G 243)), (1, .int x1)] dX4_layBest_19 rfl (Nat.le_of_ble_eq_true rfl) rfl ?_
      refine wp_iconst (v := 0) (pc := 20) C dX4_layBest_20 (by decide) ?_
      refine wp_istore (pc := 21) C rfl [(4, .int 0), (2, .long z2), (0, .ref (gA G 243)), (1, .int x1)] dX4_layBest_21 (Nat.le_of_ble_eq_true rfl) rfl ?_
      exact wp_sub C [2, 1, 0] rfl (wX4_layBest_l23 C _ _ _ _ h)
    · have h := it_neg q h
      exact rt_v C rfl h dX4_layBest_12
theorem CtX4_layBest {n : Nat} {S S' : St} {r : Unit} {x1 : Int32} (h : fX4_layBest n S x1 = some (S', r)) : Ct l sdX cy ad D yX4_layBest cX4_layBest 5 none 0 0 [.ref (ad 243), .int x1] S none S' :=
  Ct_of (own := RX4) mX4_layBest rfl (Nat.le_of_ble_eq_true rfl) (fun G e1 e2 e3 e4 C => by subst e1 e2 e3 e4; exact wX4_layBest C h)
def fX4_measure_j71 (n : Nat) (k14 : St → Int32 → Int32 → Nat → Int32 → Int32 → Option (St × Unit)) (S : St) (x1 : Int32) (x2 : Int32) (a3 : Nat) (x4 : Int32) (x5 : Int32) : Option (St × Unit) :=
  bn (x5 + 1) (fun z1 : Int32 =>
  k14 S x1 x2 a3 x4 z1)
set_option maxRecDepth 100000 in
set_option maxHeartbeats 4000000 in
theorem wX4_measure_j71 (C : Cx G sdX cX4_measure 6 RX4 none) {n : Nat} {k14 : St → Int32 → Int32 → Nat → Int32 → Int32 → Option (St × Unit)} {S S' : St} {r : Unit} {x1 : Int32} {x2 : Int32} {a3 : Nat} {x4 : Int32} {x5 : Int32} (hk14 : ∀ (S : St) (x1 : Int32) (x2 : Int32) (a3 : Nat) (x4 : Int32) (x5 : Int32), k14 S x1 x2 a3 x4 x5 = some (S', r) → Wp G sdX (rmOf 2 55) 6 (Qm G sdX none S') S 14 [(0, .ref (gA G 243)), (1, .int x1), (2, .int x2), (3, .ref (gA G a3)), (4, .int x4), (5, .int x5)] []) (h : fX4_measure_j71 n k14 S x1 x2 a3 x4 x5 = some (S', r)) : Wp G sdX (rmOf 2 55) 6 (Qm G sdX none S') S 71 [(0, .ref (gA G 243)), (1, .int x1), (2, .int x2), (3, .ref (gA G a3)), (4, .int x4), (5, .int x5)] [] := by
  unfold fX4_measure_j71 at h
  obtain ⟨z1, ez1, h⟩ := bn_some h
  refine wp_iinc (q := 5) (pc := 71) C (by decide) ez1 [(5, .int z1), (0, .ref (gA G 243)), (1, .int x1), (2, .int x2), (3, .ref (gA G a3)), (4, .int x4)] dX4_measure_71 rfl (Nat.le_of_ble_eq_true rfl) rfl ?_
  refine wp_goto (pc := 74) C 14 dX4_measure_74 (by decide) ?_
  exact wp_sub C [1, 2, 3, 4, 5, 0] rfl (hk14 _ _ _ _ _ _ h)
def fX4_measure_l14 (n : Nat) : Nat → St → Int32 → Int32 → Nat → Int32 → Int32 → Option (St × Unit)
  | 0, _, _, _, _, _, _ => none
  | j + 1, S, x1, x2, a3, x4, x5 =>
    gd (isK sdX (S.2.2 243 0) 0) (
    gd (isK sdX (srX (S.2.2 243 0) 2) 5) (
    if (S.1 (srX (S.2.2 243 0) 2) 3) ≤ x5 then
      some (S, ())
    else
      if ((x1 >>> (x5 &&& 31)) &&& 1) = 0 then
        fX4_measure_j71 n (fX4_measure_l14 n j) S x1 x2 a3 x4 x5
      else
        gd (ib (S.1 243 3) 72) (
        gd (isK sdX (srX 160 (Int32.toNatClampNeg (S.1 243 3))) 13) (
        bd (fX0_apartOf sdX n S (S.2.2 243 0) a3 (srX 160 (Int32.toNatClampNeg (S.1 243 3))) x5 x2) (fun S5 r6 =>
        gd (ib x4 6) (
        bn (sL S5 259 (Int32.toNatClampNeg x4) r6) (fun S8 : St =>
        bn (x4 + 1) (fun z9 : Int32 =>
        fX4_measure_j71 n (fX4_measure_l14 n j) S8 x1 x2 a3 z9 x5))))))))
set_option maxRecDepth 100000 in
set_option maxHeartbeats 4000000 in
theorem wX4_measure_l14 (C : Cx G sdX cX4_measure 6 RX4 none) {n : Nat} {S' : St} {r : Unit} : ∀ (j : Nat) (S : St) (x1 : Int32) (x2 : Int32) (a3 : Nat) (x4 : Int32) (x5 : Int32), fX4_measure_l14 n j S x1 x2 a3 x4 x5 = some (S', r) → Wp G sdX (rmOf 2 55) 6 (Qm G sdX none S') S 14 [(0, .ref (gA G 243)), (1, .int x1), (2, .int x2), (3, .ref (gA G a3)), (4, .int x4), (5, .int x5)] [] := by
  intro j
  induction j with
  | zero =>
    intro S x1 x2 a3 x4 x5 h
    exact nomatch (show (none : Option (St × Unit)) = some _ from h)
  | succ j ih =>
    intro S x1 x2 a3 x4 x5 h
    rw [fX4_measure_l14] at h
    refine wp_iload (pc := 14) C 5 dX4_measure_14 rfl ?_
    refine wp_aload_n (pc := 16) C 0 dX4_measure_16 rfl rfl ?_
    obtain ⟨g1, h⟩ := gd_some h
    refine wp_getD (pc := 17) C flX4_9 rfl g1.1 (Nat.le_of_ble_eq_true rfl) rfl dX4_measure_17 ?_
    obtain ⟨g2, h⟩ := gd_some h
    refine wp_getS (v := srX (S.2.2 243 0) 2) (pc := 20) C flX4_87 rfl rfl g2.1 g1.1 g1.2 dX4_measure_20 ?_
    refine wp_getI (pc := 23) C flX4_78 rfl g2.1 g2.2 dX4_measure_23 ?_
    refine wp_icmp_ge (pc := 26) C 77 dX4_measure_26 (by decide) (fun q => ?_) (fun q => ?_)
    · have h := it_pos q h
      exact rt_v C rfl h dX4_measure_77
    · have h := it_neg q h
      refine wp_iload_n (pc := 29) C 1 dX4_measure_29 rfl rfl ?_
      refine wp_iload (pc := 30) C 5 dX4_measure_30 rfl ?_
      refine wp_ishr (pc := 32) C dX4_measure_32 ?_
      refine wp_iconst (v := 1) (pc := 33) C dX4_measure_33 (by decide) ?_
      refine wp_iand (pc := 34) C dX4_measure_34 ?_
      refine wp_if_eq (pc := 35) C 71 dX4_measure_35 (by decide) (fun q => ?_) (fun q => ?_)
      · have h := it_pos q h
        exact (wX4_measure_j71 C ih h)
      · have h := it_neg q h
        refine wp_aload_n (pc := 38) C 0 dX4_measure_38 rfl rfl ?_
        refine wp_getS (v := 259) (pc := 39) C flX4_35 rfl rfl (Nat.le_of_ble_eq_true rfl) (Nat.le_of_ble_eq_true rfl) rfl dX4_measure_39 ?_
        refine wp_iload (pc := 42) C 4 dX4_measure_42 rfl ?_
        refine wp_aload_n (pc := 44) C 0 dX4_measure_44 rfl rfl ?_
        refine wp_getD (pc := 45) C flX4_9 rfl g1.1 (Nat.le_of_ble_eq_true rfl) rfl dX4_measure_45 ?_
        refine wp_aload_n (pc := 48) C 3 dX4_measure_48 rfl rfl ?_
        refine wp_aload_n (pc := 49) C 0 dX4_measure_49 rfl rfl ?_
        refine wp_getS (v := 157) (pc := 50) C flX4_15 rfl rfl (Nat.le_of_ble_eq_true rfl) (Nat.le_of_ble_eq_true rfl) rfl dX4_measure_50 ?_
        refine wp_getS (v := 160) (pc := 53) C flX4_141 rfl rfl (Nat.le_of_ble_eq_true rfl) (Nat.le_of_ble_eq_true rfl) rfl dX4_measure_53 ?_
        refine wp_aload_n (pc := 56) C 0 dX4_measure_56 rfl rfl ?_
        refine wp_getI (pc := 57) C flX4_56 rfl (Nat.le_of_ble_eq_true rfl) rfl dX4_measure_57 ?_
        obtain ⟨g3, h⟩ := gd_some h
        obtain ⟨g4, h⟩ := gd_some h
        refine wp_aald (t0 := 5) (pc := 60) C (Nat.le_of_ble_eq_true rfl) rfl (by decide) rfl rfl g3 g4.1 dX4_measure_60 ?_
        refine wp_iload (pc := 61) C 5 dX4_measure_61 rfl ?_
        refine wp_iload_n (pc := 63) C 2 dX4_measure_63 rfl rfl ?_
        obtain ⟨S5, r6, cS5, h⟩ := bd_some h
        refine wp_callVl (As := [.ref (gA G a3), .ref (gA G (srX 160 (Int32.toNatClampNeg (S.1 243 3)))), .int x5, .int x2]) (st := [.int x4, .ref (gA G 259)]) (pc := 64) C (CtX0_apartOf cS5) mX0_apartOf iX0_apartOf kX4_159 g1.1 g1.2 (by decide) rfl rfl rfl rfl (Nat.le_of_ble_eq_true rfl) ⟨Nat.le_of_ble_eq_true rfl, Nat.le_of_ble_eq_true rfl⟩ dX4_measure_64 ?_
        obtain ⟨g7, h⟩ := gd_some h
        obtain ⟨S8, eS8, h⟩ := bn_some h
        refine wp_last (pc := 67) C eS8 (Nat.le_of_ble_eq_true rfl) rfl g7 dX4_measure_67 ?_
        obtain ⟨z9, ez9, h⟩ := bn_some h
        refine wp_iinc (q := 4) (pc := 68) C (by decide) ez9 [(4, .int z9), (0, .ref (gA G 243)), (1, .int x1), (2, .int x2), (3, .ref (gA G a3)), (5, .int x5)] dX4_measure_68 rfl (Nat.le_of_ble_eq_true rfl) rfl ?_
        exact wp_sub C [1, 2, 3, 4, 0, 5] rfl (wX4_measure_j71 C ih h)
def fX4_measure (n : Nat) (S : St) (x1 : Int32) (x2 : Int32) : Option (St × Unit) :=
  bd (fX9_thrownBack n S) (fun S1 r2 =>
  fX4_measure_l14 n n S1 x1 x2 r2 0 0)
set_option maxRecDepth 100000 in
set_option maxHeartbeats 4000000 in
theorem wX4_measure (C : Cx G sdX cX4_measure 6 RX4 none) {n : Nat} {S S' : St} {r : Unit} {x1 : Int32} {x2 : Int32} (h : fX4_measure n S x1 x2 = some (S', r)) : Wp G sdX (rmOf 2 55) 6 (Qm G sdX none S') S 0 [(0, .ref (gA G 243)), (1, .int x1), (2, .int x2)] [] := by
  unfold fX4_measure at h
  refine wp_aload_n (pc := 0) C 0 dX4_measure_0 rfl rfl ?_
  refine wp_getS (v := 244) (pc := 1) C flX4_24 rfl rfl (Nat.le_of_ble_eq_true rfl) (Nat.le_of_ble_eq_true rfl) rfl dX4_measure_1 ?_
  obtain ⟨S1, r2, cS1, h⟩ := bd_some h
  refine wp_callVrR (As := []) (st := []) (pc := 4) C (CtX9_thrownBack cS1) mX9_thrownBack iX9_thrownBack kX4_137 (Nat.le_of_ble_eq_true rfl) rfl (by decide) rfl rfl rfl rfl (Nat.le_of_ble_eq_true rfl) ⟨Nat.le_of_ble_eq_true rfl, Nat.le_of_ble_eq_true rfl⟩ dX4_measure_4 ?_
  refine wp_astore_n (pc := 7) C rfl [(3, .ref (gA G r2)), (0, .ref (gA G 243)), (1, .int x1), (2, .int x2)] dX4_measure_7 rfl (Nat.le_of_ble_eq_true rfl) rfl ?_
  refine wp_iconst (v := 0) (pc := 8) C dX4_measure_8 (by decide) ?_
  refine wp_istore (pc := 9) C rfl [(4, .int 0), (3, .ref (gA G r2)), (0, .ref (gA G 243)), (1, .int x1), (2, .int x2)] dX4_measure_9 (Nat.le_of_ble_eq_true rfl) rfl ?_
  refine wp_iconst (v := 0) (pc := 11) C dX4_measure_11 (by decide) ?_
  refine wp_istore (pc := 12) C rfl [(5, .int 0), (4, .int 0), (3, .ref (gA G r2)), (0, .ref (gA G 243)), (1, .int x1), (2, .int x2)] dX4_measure_12 (Nat.le_of_ble_eq_true rfl) rfl ?_
  exact wp_sub C [3, 4, 5, 2, 1, 0] rfl (wX4_measure_l14 C _ _ _ _ _ _ _ h)
theorem CtX4_measure {n : Nat} {S S' : St} {r : Unit} {x1 : Int32} {x2 : Int32} (h : fX4_measure n S x1 x2 = some (S', r)) : Ct l sdX cy ad D yX4_measure cX4_measure 6 none 2 55 [.ref (ad 243), .int x1, .int x2] S none S' :=
  Ct_of (own := RX4) mX4_measure rfl (Nat.le_of_ble_eq_true rfl) (fun G e1 e2 e3 e4 C => by subst e1 e2 e3 e4; exact wX4_measure C h)
def fX4_findBest_j67 (n : Nat) (S : St) : Option (St × Int32) :=
  bd (fX4_layBest n S 0) (fun S1 r2 =>
  some (S1, S1.1 243 17))
set_option maxRecDepth 100000 in
set_option maxHeartbeats 4000000 in
theorem wX4_findBest_j67 (C : Cx G sdX cX4_findBest 5 RX4 (some .int)) {n : Nat} {S S' : St} {r : Int32} (h : fX4_findBest_j67 n S = some (S', r)) : Wp G sdX (rmOf 3 80) 5 (Qm G sdX (some (.int r)) S') S 67 [(0, .ref (gA G 243))] [] := by
  unfold fX4_findBest_j67 at h
  refine wp_aload_n (pc := 67) C 0 dX4_findBest_67 rfl rfl ?_
  refine wp_iconst (v := 0) (pc := 68) C dX4_findBest_68 (by decide) ?_
  obtain ⟨S1, r2, cS1, h⟩ := bd_some h
  refine wp_callVv (As := [.int 0]) (st := []) (pc := 69) C (CtX4_layBest cS1) mX4_layBest iX4_layBest kX4_188 (Nat.le_of_ble_eq_true rfl) rfl (by decide) rfl rfl rfl rfl (Nat.le_of_ble_eq_true rfl) ⟨Nat.le_of_ble_eq_true rfl, Nat.le_of_ble_eq_true rfl⟩ dX4_findBest_69 ?_
  refine wp_aload_n (pc := 72) C 0 dX4_findBest_72 rfl rfl ?_
  refine wp_getI (pc := 73) C flX4_53 rfl (Nat.le_of_ble_eq_true rfl) rfl dX4_findBest_73 ?_
  exact rt_i C rfl h dX4_findBest_76
def fX4_findBest_l35 (n : Nat) : Nat → St → Int32 → Int32 → Int32 → Option (St × Int32)
  | 0, _, _, _, _ => none
  | j + 1, S, x1, x2, x4 =>
    if (S.1 243 14) ≤ x4 then
      fX4_findBest_j67 n S
    else
      bd (fX4_measure n S x1 x2) (fun S1 r2 =>
      bd (fX4_holdAgainstBest n S1) (fun S3 r4 =>
      bd (fX9_advance n S3) (fun S5 r6 =>
      bn (x4 + 1) (fun z7 : Int32 =>
      fX4_findBest_l35 n j S5 x1 x2 z7))))
set_option maxRecDepth 100000 in
set_option maxHeartbeats 4000000 in
theorem wX4_findBest_l35 (C : Cx G sdX cX4_findBest 5 RX4 (some .int)) {n : Nat} {S' : St} {r : Int32} : ∀ (j : Nat) (S : St) (x1 : Int32) (x2 : Int32) (x4 : Int32), fX4_findBest_l35 n j S x1 x2 x4 = some (S', r) → Wp G sdX (rmOf 3 80) 5 (Qm G sdX (some (.int r)) S') S 35 [(0, .ref (gA G 243)), (1, .int x1), (2, .int x2), (4, .int x4)] [] := by
  intro j
  induction j with
  | zero =>
    intro S x1 x2 x4 h
    exact nomatch (show (none : Option (St × Int32)) = some _ from h)
  | succ j ih =>
    intro S x1 x2 x4 h
    rw [fX4_findBest_l35] at h
    refine wp_iload (pc := 35) C 3 dX4_findBest_35 rfl ?_
    refine wp_aload_n (pc := 37) C 0 dX4_findBest_37 rfl rfl ?_
    refine wp_getI (pc := 38) C flX4_46 rfl (Nat.le_of_ble_eq_true rfl) rfl dX4_findBest_38 ?_
    refine wp_icmp_ge (pc := 41) C 67 dX4_findBest_41 (by decide) (fun q => ?_) (fun q => ?_)
    · have h := it_pos q h
      exact wp_sub C [0] rfl (wX4_findBest_j67 C h)
    · have h := it_neg q h
      refine wp_aload_n (pc := 44) C 0 dX4_findBest_44 rfl rfl ?_
      refine wp_iload_n (pc := 45) C 1 dX4_findBest_45 rfl rfl ?_
      refine wp_iload_n (pc := 46) C 2 dX4_findBest_46 rfl rfl ?_
      obtain ⟨S1, r2, cS1, h⟩ := bd_some h
      refine wp_callVv (As := [.int x1, .int x2]) (st := []) (pc := 47) C (CtX4_measure cS1) mX4_measure iX4_measure kX4_181 (Nat.le_of_ble_eq_true rfl) rfl (by decide) rfl rfl rfl rfl (Nat.le_of_ble_eq_true rfl) ⟨Nat.le_of_ble_eq_true rfl, Nat.le_of_ble_eq_true rfl⟩ dX4_findBest_47 ?_
      refine wp_aload_n (pc := 50) C 0 dX4_findBest_50 rfl rfl ?_
      obtain ⟨S3, r4, cS3, h⟩ := bd_some h
      refine wp_callVv (As := []) (st := []) (pc := 51) C (CtX4_holdAgainstBest cS3) mX4_holdAgainstBest iX4_holdAgainstBest kX4_185 (Nat.le_of_ble_eq_true rfl) rfl (by decide) rfl rfl rfl rfl (Nat.le_of_ble_eq_true rfl) ⟨Nat.le_of_ble_eq_true rfl, Nat.le_of_ble_eq_true rfl⟩ dX4_findBest_51 ?_
      refine wp_aload_n (pc := 54) C 0 dX4_findBest_54 rfl rfl ?_
      refine wp_getS (v := 244) (pc := 55) C flX4_24 rfl rfl (Nat.le_of_ble_eq_true rfl) (Nat.le_of_ble_eq_true rfl) rfl dX4_findBest_55 ?_
      obtain ⟨S5, r6, cS5, h⟩ := bd_some h
      refine wp_callVv (As := []) (st := []) (pc := 58) C (CtX9_advance cS5) mX9_advance iX9_advance kX4_134 (Nat.le_of_ble_eq_true rfl) rfl (by decide) rfl rfl rfl rfl (Nat.le_of_ble_eq_true rfl) ⟨Nat.le_of_ble_eq_true rfl, Nat.le_of_ble_eq_true rfl⟩ dX4_findBest_58 ?_
      obtain ⟨z7, ez7, h⟩ := bn_some h
      refine wp_iinc (q := 3) (pc := 61) C (by decide) ez7 [(4, .int z7), (0, .ref (gA G 243)), (1, .int x1), (2, .int x2)] dX4_findBest_61 rfl (Nat.le_of_ble_eq_true rfl) rfl ?_
      refine wp_goto (pc := 64) C 35 dX4_findBest_64 (by decide) ?_
      exact wp_sub C [1, 2, 3, 0] rfl (ih _ _ _ _ h)
def fX4_findBest (n : Nat) (S : St) (x1 : Int32) (x2 : Int32) : Option (St × Int32) :=
  bn (sI S 243 17 0) (fun S1 : St =>
  bd (fX4_hasLamps n S1 x1) (fun S2 r3 =>
  bd (fX4_start n S2 r3 5000) (fun S4 r5 =>
  if r5 = 0 then
    bd (fJ6_bitCount_0f7a4 sdX n S4 x1) (fun S6 r7 =>
    bn (sI S6 243 12 r7) (fun S8 : St =>
    fX4_findBest_l35 n n S8 x1 x2 0))
  else
    some (S4, r5))))
set_option maxRecDepth 100000 in
set_option maxHeartbeats 4000000 in
theorem wX4_findBest (C : Cx G sdX cX4_findBest 5 RX4 (some .int)) {n : Nat} {S S' : St} {r : Int32} {x1 : Int32} {x2 : Int32} (h : fX4_findBest n S x1 x2 = some (S', r)) : Wp G sdX (rmOf 3 80) 5 (Qm G sdX (some (.int r)) S') S 0 [(0, .ref (gA G 243)), (1, .int x1), (2, .int x2)] [] := by
  unfold fX4_findBest at h
  refine wp_aload_n (pc := 0) C 0 dX4_findBest_0 rfl rfl ?_
  refine wp_iconst (v := 0) (pc := 1) C dX4_findBest_1 (by decide) ?_
  obtain ⟨S1, eS1, h⟩ := bn_some h
  refine wp_putI (pc := 2) C eS1 flX4_53 fpX4_17 rfl (Nat.le_of_ble_eq_true rfl) rfl dX4_findBest_2 ?_
  refine wp_aload_n (pc := 5) C 0 dX4_findBest_5 rfl rfl ?_
  refine wp_aload_n (pc := 6) C 0 dX4_findBest_6 rfl rfl ?_
  refine wp_iload_n (pc := 7) C 1 dX4_findBest_7 rfl rfl ?_
  obtain ⟨S2, r3, cS2, h⟩ := bd_some h
  refine wp_callVi (As := [.int x1]) (st := [.ref (gA G 243)]) (pc := 8) C (CtX4_hasLamps cS2) mX4_hasLamps iX4_hasLamps kX4_115 (Nat.le_of_ble_eq_true rfl) rfl (by decide) rfl rfl rfl rfl (Nat.le_of_ble_eq_true rfl) ⟨Nat.le_of_ble_eq_true rfl, Nat.le_of_ble_eq_true rfl⟩ dX4_findBest_8 ?_
  refine wp_sipush (v := 5000) (pc := 11) C dX4_findBest_11 (by decide) ?_
  obtain ⟨S4, r5, cS4, h⟩ := bd_some h
  refine wp_callVi (As := [.int r3, .int 5000]) (st := []) (pc := 14) C (CtX4_start cS4) mX4_start iX4_start kX4_120 (Nat.le_of_ble_eq_true rfl) rfl (by decide) rfl rfl rfl rfl (Nat.le_of_ble_eq_true rfl) ⟨Nat.le_of_ble_eq_true rfl, Nat.le_of_ble_eq_true rfl⟩ dX4_findBest_14 ?_
  refine wp_istore_n (pc := 17) C rfl [(3, .int r5), (0, .ref (gA G 243)), (1, .int x1), (2, .int x2)] dX4_findBest_17 rfl (Nat.le_of_ble_eq_true rfl) rfl ?_
  refine wp_iload_n (pc := 18) C 0 dX4_findBest_18 rfl rfl ?_
  refine wp_if_eq (pc := 19) C 24 dX4_findBest_19 (by decide) (fun q => ?_) (fun q => ?_)
  · have h := it_pos q h
    refine wp_aload_n (pc := 24) C 1 dX4_findBest_24 rfl rfl ?_
    refine wp_iload_n (pc := 25) C 2 dX4_findBest_25 rfl rfl ?_
    obtain ⟨S6, r7, cS6, h⟩ := bd_some h
    refine wp_callSi (As := [.int x1]) (st := [.ref (gA G 243)]) (pc := 26) C (CtJ6_bitCount_0f7a4 cS6) mJ6_bitCount_0f7a4 sJ6_bitCount_0f7a4 kX4_172 rfl rfl (Nat.le_of_ble_eq_true rfl) ⟨Nat.le_of_ble_eq_true rfl, Nat.le_of_ble_eq_true rfl⟩ dX4_findBest_26 ?_
    obtain ⟨S8, eS8, h⟩ := bn_some h
    refine wp_putI (pc := 29) C eS8 flX4_178 fpX4_12 rfl (Nat.le_of_ble_eq_true rfl) rfl dX4_findBest_29 ?_
    refine wp_iconst (v := 0) (pc := 32) C dX4_findBest_32 (by decide) ?_
    refine wp_istore (pc := 33) C rfl [(4, .int 0), (3, .int r5), (0, .ref (gA G 243)), (1, .int x1), (2, .int x2)] dX4_findBest_33 (Nat.le_of_ble_eq_true rfl) rfl ?_
    exact wp_sub C [2, 3, 4, 0] rfl (wX4_findBest_l35 C _ _ _ _ _ h)
  · have h := it_neg q h
    refine wp_iload_n (pc := 22) C 0 dX4_findBest_22 rfl rfl ?_
    exact rt_i C rfl h dX4_findBest_23
theorem CtX4_findBest {n : Nat} {S S' : St} {r : Int32} {x1 : Int32} {x2 : Int32} (h : fX4_findBest n S x1 x2 = some (S', r)) : Ct l sdX cy ad D yX4_findBest cX4_findBest 5 (some .int) 3 80 [.ref (ad 243), .int x1, .int x2] S (some (.int r)) S' :=
  Ct_of (own := RX4) mX4_findBest rfl (Nat.le_of_ble_eq_true rfl) (fun G e1 e2 e3 e4 C => by subst e1 e2 e3 e4; exact wX4_findBest C h)
def fX6_hasRoom (n : Nat) (S : St) (x1 : Int32) : Option (St × Int32) :=
  if 1700 < ((S.1 1 1) + x1) then
    some (S, 0)
  else
    some (S, 1)
set_option maxRecDepth 100000 in
set_option maxHeartbeats 4000000 in
theorem wX6_hasRoom (C : Cx G sdX cX6_hasRoom 2 RX6 (some .boolean)) {n : Nat} {S S' : St} {r : Int32} {x1 : Int32} (h : fX6_hasRoom n S x1 = some (S', r)) : Wp G sdX (rmOf 0 0) 2 (Qm G sdX (some (.int r)) S') S 0 [(0, .ref (gA G 1)), (1, .int x1)] [] := by
  unfold fX6_hasRoom at h
  refine wp_aload_n (pc := 0) C 0 dX6_hasRoom_0 rfl rfl ?_
  refine wp_getI (pc := 1) C flX6_15 rfl (Nat.le_of_ble_eq_true rfl) rfl dX6_hasRoom_1 ?_
  refine wp_iload_n (pc := 4) C 1 dX6_hasRoom_4 rfl rfl ?_
  refine wp_iadd (pc := 5) C dX6_hasRoom_5 ?_
  refine wp_sipush (v := 1700) (pc := 6) C dX6_hasRoom_6 (by decide) ?_
  refine wp_icmp_gt (pc := 9) C 16 dX6_hasRoom_9 (by decide) (fun q => ?_) (fun q => ?_)
  · have h := it_pos q h
    refine wp_iconst (v := 0) (pc := 16) C dX6_hasRoom_16 (by decide) ?_
    exact rt_z C (Or.inl rfl) rfl h dX6_hasRoom_17
  · have h := it_neg q h
    refine wp_iconst (v := 1) (pc := 12) C dX6_hasRoom_12 (by decide) ?_
    refine wp_goto (pc := 13) C 17 dX6_hasRoom_13 (by decide) ?_
    exact rt_z C (Or.inr rfl) rfl h dX6_hasRoom_17
theorem CtX6_hasRoom {n : Nat} {S S' : St} {r : Int32} {x1 : Int32} (h : fX6_hasRoom n S x1 = some (S', r)) : Ct l sdX cy ad D yX6_hasRoom cX6_hasRoom 2 (some .boolean) 0 0 [.ref (ad 1), .int x1] S (some (.int r)) S' :=
  Ct_of (own := RX6) mX6_hasRoom rfl (Nat.le_of_ble_eq_true rfl) (fun G e1 e2 e3 e4 C => by subst e1 e2 e3 e4; exact wX6_hasRoom C h)
def fX6_put_j40 (n : Nat) (k3 : St → Int32 → Int32 → Option (St × Unit)) (S : St) (x1 : Int32) (x2 : Int32) : Option (St × Unit) :=
  bn (x2 + (-8)) (fun z1 : Int32 =>
  k3 S x1 z1)
set_option maxRecDepth 100000 in
set_option maxHeartbeats 4000000 in
theorem wX6_put_j40 (C : Cx G sdX cX6_put 3 RX6 none) {n : Nat} {k3 : St → Int32 → Int32 → Option (St × Unit)} {S S' : St} {r : Unit} {x1 : Int32} {x2 : Int32} (hk3 : ∀ (S : St) (x1 : Int32) (x2 : Int32), k3 S x1 x2 = some (S', r) → Wp G sdX (rmOf 0 0) 3 (Qm G sdX none S') S 3 [(0, .ref (gA G 1)), (1, .int x1), (2, .int x2)] []) (h : fX6_put_j40 n k3 S x1 x2 = some (S', r)) : Wp G sdX (rmOf 0 0) 3 (Qm G sdX none S') S 40 [(0, .ref (gA G 1)), (1, .int x1), (2, .int x2)] [] := by
  unfold fX6_put_j40 at h
  obtain ⟨z1, ez1, h⟩ := bn_some h
  refine wp_iinc (q := 2) (pc := 40) C (by decide) ez1 [(2, .int z1), (0, .ref (gA G 1)), (1, .int x1)] dX6_put_40 rfl (Nat.le_of_ble_eq_true rfl) rfl ?_
  refine wp_goto (pc := 43) C 3 dX6_put_43 (by decide) ?_
  exact wp_sub C [1, 2, 0] rfl (hk3 _ _ _ h)
def fX6_put_l3 (n : Nat) : Nat → St → Int32 → Int32 → Option (St × Unit)
  | 0, _, _, _ => none
  | j + 1, S, x1, x2 =>
    if x2 < 0 then
      some (S, ())
    else
      if 1700 ≤ (S.1 1 1) then
        fX6_put_j40 n (fX6_put_l3 n j) S x1 x2
      else
        gd (ib (S.1 1 1) 1700) (
        bn (sI S 2 (Int32.toNatClampNeg (S.1 1 1)) (vp_nar .byte (((((x1).toUInt32 >>> ((x2 : Int32).toUInt32 &&& Int32.toUInt32 31)).toInt32) : Int32).toInt8.toInt32))) (fun S2 : St =>
        bn (sI S2 1 1 ((S2.1 1 1) + 1)) (fun S3 : St =>
        fX6_put_j40 n (fX6_put_l3 n j) S3 x1 x2)))
set_option maxRecDepth 100000 in
set_option maxHeartbeats 4000000 in
theorem wX6_put_l3 (C : Cx G sdX cX6_put 3 RX6 none) {n : Nat} {S' : St} {r : Unit} : ∀ (j : Nat) (S : St) (x1 : Int32) (x2 : Int32), fX6_put_l3 n j S x1 x2 = some (S', r) → Wp G sdX (rmOf 0 0) 3 (Qm G sdX none S') S 3 [(0, .ref (gA G 1)), (1, .int x1), (2, .int x2)] [] := by
  intro j
  induction j with
  | zero =>
    intro S x1 x2 h
    exact nomatch (show (none : Option (St × Unit)) = some _ from h)
  | succ j ih =>
    intro S x1 x2 h
    rw [fX6_put_l3] at h
    refine wp_iload_n (pc := 3) C 2 dX6_put_3 rfl rfl ?_
    refine wp_if_lt (pc := 4) C 46 dX6_put_4 (by decide) (fun q => ?_) (fun q => ?_)
    · have h := it_pos q h
      exact rt_v C rfl h dX6_put_46
    · have h := it_neg q h
      refine wp_aload_n (pc := 7) C 0 dX6_put_7 rfl rfl ?_
      refine wp_getI (pc := 8) C flX6_15 rfl (Nat.le_of_ble_eq_true rfl) rfl dX6_put_8 ?_
      refine wp_sipush (v := 1700) (pc := 11) C dX6_put_11 (by decide) ?_
      refine wp_icmp_ge (pc := 14) C 40 dX6_put_14 (by decide) (fun q => ?_) (fun q => ?_)
      · have h := it_pos q h
        exact (wX6_put_j40 C ih h)
      · have h := it_neg q h
        refine wp_aload_n (pc := 17) C 0 dX6_put_17 rfl rfl ?_
        refine wp_getS (v := 2) (pc := 18) C flX6_9 rfl rfl (Nat.le_of_ble_eq_true rfl) (Nat.le_of_ble_eq_true rfl) rfl dX6_put_18 ?_
        refine wp_aload_n (pc := 21) C 0 dX6_put_21 rfl rfl ?_
        refine wp_getI (pc := 22) C flX6_15 rfl (Nat.le_of_ble_eq_true rfl) rfl dX6_put_22 ?_
        refine wp_iload_n (pc := 25) C 1 dX6_put_25 rfl rfl ?_
        refine wp_iload_n (pc := 26) C 2 dX6_put_26 rfl rfl ?_
        refine wp_iushr (pc := 27) C dX6_put_27 ?_
        refine wp_i2b (pc := 28) C dX6_put_28 ?_
        obtain ⟨g1, h⟩ := gd_some h
        obtain ⟨S2, eS2, h⟩ := bn_some h
        refine wp_bast (pc := 29) C eS2 (Nat.le_of_ble_eq_true rfl) rfl g1 dX6_put_29 ?_
        refine wp_aload_n (pc := 30) C 0 dX6_put_30 rfl rfl ?_
        refine wp_dup (pc := 31) C dX6_put_31 rfl ?_
        refine wp_getI (pc := 32) C flX6_15 rfl (Nat.le_of_ble_eq_true rfl) rfl dX6_put_32 ?_
        refine wp_iconst (v := 1) (pc := 35) C dX6_put_35 (by decide) ?_
        refine wp_iadd (pc := 36) C dX6_put_36 ?_
        obtain ⟨S3, eS3, h⟩ := bn_some h
        refine wp_putI (pc := 37) C eS3 flX6_15 fpX6_1 rfl (Nat.le_of_ble_eq_true rfl) rfl dX6_put_37 ?_
        exact (wX6_put_j40 C ih h)
def fX6_put (n : Nat) (S : St) (x1 : Int32) : Option (St × Unit) :=
  fX6_put_l3 n n S x1 24
set_option maxRecDepth 100000 in
set_option maxHeartbeats 4000000 in
theorem wX6_put (C : Cx G sdX cX6_put 3 RX6 none) {n : Nat} {S S' : St} {r : Unit} {x1 : Int32} (h : fX6_put n S x1 = some (S', r)) : Wp G sdX (rmOf 0 0) 3 (Qm G sdX none S') S 0 [(0, .ref (gA G 1)), (1, .int x1)] [] := by
  unfold fX6_put at h
  refine wp_bipush (v := 24) (pc := 0) C dX6_put_0 (by decide) ?_
  refine wp_istore_n (pc := 2) C rfl [(2, .int 24), (0, .ref (gA G 1)), (1, .int x1)] dX6_put_2 rfl (Nat.le_of_ble_eq_true rfl) rfl ?_
  exact wp_sub C [1, 2, 0] rfl (wX6_put_l3 C _ _ _ _ h)
theorem CtX6_put {n : Nat} {S S' : St} {r : Unit} {x1 : Int32} (h : fX6_put n S x1 = some (S', r)) : Ct l sdX cy ad D yX6_put cX6_put 3 none 0 0 [.ref (ad 1), .int x1] S none S' :=
  Ct_of (own := RX6) mX6_put rfl (Nat.le_of_ble_eq_true rfl) (fun G e1 e2 e3 e4 C => by subst e1 e2 e3 e4; exact wX6_put C h)
def fX8_putOn (sd : Sd) (n : Nat) (S : St) (a0 : Nat) (x1 : Int32) : Option (St × Unit) :=
  gd (isK sd a0 8) (
  bn (sI S a0 1 x1) (fun S2 : St =>
  bn (sI S2 a0 2 0) (fun S3 : St =>
  gd (isK sd (sd.2.2.2 a0 0) 13) (
  bd (fJ7_fill_53178 sd n S3 (sd.2.2.2 a0 0) 0) (fun S5 r6 =>
  some (S5, ()))))))
set_option maxRecDepth 100000 in
set_option maxHeartbeats 4000000 in
theorem wX8_putOn {sd : Sd} (C : Cx G sd cX8_putOn 2 RX8 none) {n : Nat} {S S' : St} {r : Unit} {a0 : Nat} {x1 : Int32} (h : fX8_putOn sd n S a0 x1 = some (S', r)) : Wp G sd (rmOf 1 23) 2 (Qm G sd none S') S 0 [(0, .ref (gA G a0)), (1, .int x1)] [] := by
  unfold fX8_putOn at h
  refine wp_aload_n (pc := 0) C 0 dX8_putOn_0 rfl rfl ?_
  refine wp_iload_n (pc := 1) C 1 dX8_putOn_1 rfl rfl ?_
  obtain ⟨g1, h⟩ := gd_some h
  obtain ⟨S2, eS2, h⟩ := bn_some h
  refine wp_putI (pc := 2) C eS2 flX8_23 fpX8_1 rfl g1.1 g1.2 dX8_putOn_2 ?_
  refine wp_aload_n (pc := 5) C 0 dX8_putOn_5 rfl rfl ?_
  refine wp_iconst (v := 0) (pc := 6) C dX8_putOn_6 (by decide) ?_
  obtain ⟨S3, eS3, h⟩ := bn_some h
  refine wp_putI (pc := 7) C eS3 flX8_26 fpX8_2 rfl g1.1 g1.2 dX8_putOn_7 ?_
  refine wp_aload_n (pc := 10) C 0 dX8_putOn_10 rfl rfl ?_
  obtain ⟨g4, h⟩ := gd_some h
  refine wp_getS (v := sd.2.2.2 a0 0) (pc := 11) C flX8_9 rfl rfl g4.1 g1.1 g1.2 dX8_putOn_11 ?_
  refine wp_iconst (v := 0) (pc := 14) C dX8_putOn_14 (by decide) ?_
  obtain ⟨S5, r6, cS5, h⟩ := bd_some h
  refine wp_callSv (As := [.ref (gA G (sd.2.2.2 a0 0)), .int 0]) (st := []) (pc := 15) C (CtJ7_fill_53178 cS5) mJ7_fill_53178 sJ7_fill_53178 kX8_29 rfl rfl (Nat.le_of_ble_eq_true rfl) ⟨Nat.le_of_ble_eq_true rfl, Nat.le_of_ble_eq_true rfl⟩ dX8_putOn_15 ?_
  exact rt_v C rfl h dX8_putOn_18
theorem CtX8_putOn {sd : Sd} {n : Nat} {S S' : St} {r : Unit} {a0 : Nat} {x1 : Int32} (h : fX8_putOn sd n S a0 x1 = some (S', r)) : Ct l sd cy ad D yX8_putOn cX8_putOn 2 none 1 23 [.ref (ad a0), .int x1] S none S' :=
  Ct_of (own := RX8) mX8_putOn rfl (Nat.le_of_ble_eq_true rfl) (fun G e1 e2 e3 e4 C => by subst e1 e2 e3 e4; exact wX8_putOn C h)
def fX8_copyOf (sd : Sd) (n : Nat) (S : St) (a0 : Nat) (a1 : Nat) : Option (St × Unit) :=
  gd (isK sd a1 8) (
  gd (isK sd a0 8) (
  bn (sI S a0 1 (S.1 a1 1)) (fun S3 : St =>
  bn (sI S3 a0 2 (S3.1 a1 2)) (fun S4 : St =>
  bn (sI S4 a0 3 (S4.1 a1 3)) (fun S5 : St =>
  gd (isK sd (sd.2.2.2 a1 0) 13) (
  gd (isK sd (sd.2.2.2 a0 0) 13) (
  gd (¬ (0 : Int32) < 0 ∧ ¬ (0 : Int32) < 0 ∧ ¬ (8 : Int32) < 0 ∧ (Int32.toNatClampNeg 0) + (Int32.toNatClampNeg 8) ≤ (sd.2.2.1 (sd.2.2.2 a1 0)) ∧ (Int32.toNatClampNeg 0) + (Int32.toNatClampNeg 8) ≤ (sd.2.2.1 (sd.2.2.2 a0 0))) (
  bn (cI S5 (sd.2.2.2 a1 0) (sd.2.2.2 a0 0) (Int32.toNatClampNeg 0) (Int32.toNatClampNeg 0) (Int32.toNatClampNeg 8)) (fun S9 : St =>
  some (S9, ()))))))))))
set_option maxRecDepth 100000 in
set_option maxHeartbeats 4000000 in
theorem wX8_copyOf {sd : Sd} (C : Cx G sd cX8_copyOf 2 RX8 none) {n : Nat} {S S' : St} {r : Unit} {a0 : Nat} {a1 : Nat} (h : fX8_copyOf sd n S a0 a1 = some (S', r)) : Wp G sd (rmOf 1 26) 2 (Qm G sd none S') S 0 [(0, .ref (gA G a0)), (1, .ref (gA G a1))] [] := by
  unfold fX8_copyOf at h
  refine wp_aload_n (pc := 0) C 0 dX8_copyOf_0 rfl rfl ?_
  refine wp_aload_n (pc := 1) C 1 dX8_copyOf_1 rfl rfl ?_
  obtain ⟨g1, h⟩ := gd_some h
  refine wp_getI (pc := 2) C flX8_23 rfl g1.1 g1.2 dX8_copyOf_2 ?_
  obtain ⟨g2, h⟩ := gd_some h
  obtain ⟨S3, eS3, h⟩ := bn_some h
  refine wp_putI (pc := 5) C eS3 flX8_23 fpX8_1 rfl g2.1 g2.2 dX8_copyOf_5 ?_
  refine wp_aload_n (pc := 8) C 0 dX8_copyOf_8 rfl rfl ?_
  refine wp_aload_n (pc := 9) C 1 dX8_copyOf_9 rfl rfl ?_
  refine wp_getI (pc := 10) C flX8_26 rfl g1.1 g1.2 dX8_copyOf_10 ?_
  obtain ⟨S4, eS4, h⟩ := bn_some h
  refine wp_putI (pc := 13) C eS4 flX8_26 fpX8_2 rfl g2.1 g2.2 dX8_copyOf_13 ?_
  refine wp_aload_n (pc := 16) C 0 dX8_copyOf_16 rfl rfl ?_
  refine wp_aload_n (pc := 17) C 1 dX8_copyOf_17 rfl rfl ?_
  refine wp_getI (pc := 18) C flX8_15 rfl g1.1 g1.2 dX8_copyOf_18 ?_
  obtain ⟨S5, eS5, h⟩ := bn_some h
  refine wp_putI (pc := 21) C eS5 flX8_15 fpX8_3 rfl g2.1 g2.2 dX8_copyOf_21 ?_
  refine wp_aload_n (pc := 24) C 1 dX8_copyOf_24 rfl rfl ?_
  obtain ⟨g6, h⟩ := gd_some h
  refine wp_getS (v := sd.2.2.2 a1 0) (pc := 25) C flX8_9 rfl rfl g6.1 g1.1 g1.2 dX8_copyOf_25 ?_
  refine wp_iconst (v := 0) (pc := 28) C dX8_copyOf_28 (by decide) ?_
  refine wp_aload_n (pc := 29) C 0 dX8_copyOf_29 rfl rfl ?_
  obtain ⟨g7, h⟩ := gd_some h
  refine wp_getS (v := sd.2.2.2 a0 0) (pc := 30) C flX8_9 rfl rfl g7.1 g2.1 g2.2 dX8_copyOf_30 ?_
  refine wp_iconst (v := 0) (pc := 33) C dX8_copyOf_33 (by decide) ?_
  refine wp_bipush (v := 8) (pc := 34) C dX8_copyOf_34 (by decide) ?_
  obtain ⟨g8, h⟩ := gd_some h
  obtain ⟨S9, eS9, h⟩ := bn_some h
  refine wp_copyI (pc := 36) C eS9 kX8_35 acN acS acI g6.1 g6.2 g7.1 g7.2 g8.1 g8.2.1 g8.2.2.1 g8.2.2.2.1 g8.2.2.2.2 (Nat.le_of_ble_eq_true rfl) (Nat.le_of_ble_eq_true rfl) dX8_copyOf_36 ?_
  exact rt_v C rfl h dX8_copyOf_39
theorem CtX8_copyOf {sd : Sd} {n : Nat} {S S' : St} {r : Unit} {a0 : Nat} {a1 : Nat} (h : fX8_copyOf sd n S a0 a1 = some (S', r)) : Ct l sd cy ad D yX8_copyOf cX8_copyOf 2 none 1 26 [.ref (ad a0), .ref (ad a1)] S none S' :=
  Ct_of (own := RX8) mX8_copyOf rfl (Nat.le_of_ble_eq_true rfl) (fun G e1 e2 e3 e4 C => by subst e1 e2 e3 e4; exact wX8_copyOf C h)
def fX8_total_l4 (sd : Sd) (n : Nat) : Nat → St → Nat → Int32 → Int32 → Option (St × Int32)
  | 0, _, _, _, _ => none
  | j + 1, S, a0, x1, x2 =>
    if 8 ≤ x2 then
      some (S, x1)
    else
      gd (isK sd a0 8) (
      gd (isK sd (sd.2.2.2 a0 0) 13) (
      gd (ib x2 (sd.2.2.1 (sd.2.2.2 a0 0))) (
      bn (x1 + (S.1 (sd.2.2.2 a0 0) (Int32.toNatClampNeg x2))) (fun z4 : Int32 =>
      bn (x2 + 1) (fun z5 : Int32 =>
      fX8_total_l4 sd n j S a0 z4 z5)))))
set_option maxRecDepth 100000 in
set_option maxHeartbeats 4000000 in
theorem wX8_total_l4 {sd : Sd} (C : Cx G sd cX8_total 3 RX8 (some .int)) {n : Nat} {S' : St} {r : Int32} : ∀ (j : Nat) (S : St) (a0 : Nat) (x1 : Int32) (x2 : Int32), fX8_total_l4 sd n j S a0 x1 x2 = some (S', r) → Wp G sd (rmOf 0 0) 3 (Qm G sd (some (.int r)) S') S 4 [(0, .ref (gA G a0)), (1, .int x1), (2, .int x2)] [] := by
  intro j
  induction j with
  | zero =>
    intro S a0 x1 x2 h
    exact nomatch (show (none : Option (St × Int32)) = some _ from h)
  | succ j ih =>
    intro S a0 x1 x2 h
    rw [fX8_total_l4] at h
    refine wp_iload_n (pc := 4) C 2 dX8_total_4 rfl rfl ?_
    refine wp_bipush (v := 8) (pc := 5) C dX8_total_5 (by decide) ?_
    refine wp_icmp_ge (pc := 7) C 25 dX8_total_7 (by decide) (fun q => ?_) (fun q => ?_)
    · have h := it_pos q h
      refine wp_iload_n (pc := 25) C 1 dX8_total_25 rfl rfl ?_
      exact rt_i C rfl h dX8_total_26
    · have h := it_neg q h
      refine wp_iload_n (pc := 10) C 1 dX8_total_10 rfl rfl ?_
      refine wp_aload_n (pc := 11) C 0 dX8_total_11 rfl rfl ?_
      obtain ⟨g1, h⟩ := gd_some h
      obtain ⟨g2, h⟩ := gd_some h
      refine wp_getS (v := sd.2.2.2 a0 0) (pc := 12) C flX8_9 rfl rfl g2.1 g1.1 g1.2 dX8_total_12 ?_
      refine wp_iload_n (pc := 15) C 2 dX8_total_15 rfl rfl ?_
      obtain ⟨g3, h⟩ := gd_some h
      refine wp_iald (pc := 16) C g2.1 g2.2 g3 dX8_total_16 ?_
      refine wp_iadd (pc := 17) C dX8_total_17 ?_
      obtain ⟨z4, ez4, h⟩ := bn_some h
      refine wp_istore_n (pc := 18) C ez4 [(1, .int z4), (0, .ref (gA G a0)), (2, .int x2)] dX8_total_18 rfl (Nat.le_of_ble_eq_true rfl) rfl ?_
      obtain ⟨z5, ez5, h⟩ := bn_some h
      refine wp_iinc (q := 2) (pc := 19) C (by decide) ez5 [(2, .int z5), (1, .int z4), (0, .ref (gA G a0))] dX8_total_19 rfl (Nat.le_of_ble_eq_true rfl) rfl ?_
      refine wp_goto (pc := 22) C 4 dX8_total_22 (by decide) ?_
      exact wp_sub C [2, 1, 0] rfl (ih _ _ _ _ h)
def fX8_total (sd : Sd) (n : Nat) (S : St) (a0 : Nat) : Option (St × Int32) :=
  fX8_total_l4 sd n n S a0 0 0
set_option maxRecDepth 100000 in
set_option maxHeartbeats 4000000 in
theorem wX8_total {sd : Sd} (C : Cx G sd cX8_total 3 RX8 (some .int)) {n : Nat} {S S' : St} {r : Int32} {a0 : Nat} (h : fX8_total sd n S a0 = some (S', r)) : Wp G sd (rmOf 0 0) 3 (Qm G sd (some (.int r)) S') S 0 [(0, .ref (gA G a0))] [] := by
  unfold fX8_total at h
  refine wp_iconst (v := 0) (pc := 0) C dX8_total_0 (by decide) ?_
  refine wp_istore_n (pc := 1) C rfl [(1, .int 0), (0, .ref (gA G a0))] dX8_total_1 rfl (Nat.le_of_ble_eq_true rfl) rfl ?_
  refine wp_iconst (v := 0) (pc := 2) C dX8_total_2 (by decide) ?_
  refine wp_istore_n (pc := 3) C rfl [(2, .int 0), (1, .int 0), (0, .ref (gA G a0))] dX8_total_3 rfl (Nat.le_of_ble_eq_true rfl) rfl ?_
  exact wp_sub C [2, 1, 0] rfl (wX8_total_l4 C _ _ _ _ _ h)
theorem CtX8_total {sd : Sd} {n : Nat} {S S' : St} {r : Int32} {a0 : Nat} (h : fX8_total sd n S a0 = some (S', r)) : Ct l sd cy ad D yX8_total cX8_total 3 (some .int) 0 0 [.ref (ad a0)] S (some (.int r)) S' :=
  Ct_of (own := RX8) mX8_total rfl (Nat.le_of_ble_eq_true rfl) (fun G e1 e2 e3 e4 C => by subst e1 e2 e3 e4; exact wX8_total C h)
def fX8_drawOfTen (sd : Sd) (n : Nat) (S : St) (a0 : Nat) : Option (St × Int32) :=
  gd (isK sd a0 8) (
  bn (sI S a0 3 (((S.1 a0 3) * 1103515245) + 12345)) (fun S2 : St =>
  some (S2, ((((S2.1 a0 3)).toUInt32 >>> ((16 : Int32).toUInt32 &&& Int32.toUInt32 31)).toInt32) - ((((S2.1 a0 3)).toUInt32 >>> ((16 : Int32).toUInt32 &&& Int32.toUInt32 31)).toInt32) / 10 * 10)))
set_option maxRecDepth 100000 in
set_option maxHeartbeats 4000000 in
theorem wX8_drawOfTen {sd : Sd} (C : Cx G sd cX8_drawOfTen 1 RX8 (some .int)) {n : Nat} {S S' : St} {r : Int32} {a0 : Nat} (h : fX8_drawOfTen sd n S a0 = some (S', r)) : Wp G sd (rmOf 0 0) 1 (Qm G sd (some (.int r)) S') S 0 [(0, .ref (gA G a0))] [] := by
  unfold fX8_drawOfTen at h
  refine wp_aload_n (pc := 0) C 0 dX8_drawOfTen_0 rfl rfl ?_
  refine wp_aload_n (pc := 1) C 0 dX8_drawOfTen_1 rfl rfl ?_
  obtain ⟨g1, h⟩ := gd_some h
  refine wp_getI (pc := 2) C flX8_15 rfl g1.1 g1.2 dX8_drawOfTen_2 ?_
  refine wp_ldc (pc := 5) C qX8_41 dX8_drawOfTen_5 ?_
  refine wp_imul (pc := 7) C dX8_drawOfTen_7 ?_
  refine wp_sipush (v := 12345) (pc := 8) C dX8_drawOfTen_8 (by decide) ?_
  refine wp_iadd (pc := 11) C dX8_drawOfTen_11 ?_
  obtain ⟨S2, eS2, h⟩ := bn_some h
  refine wp_putI (pc := 12) C eS2 flX8_15 fpX8_3 rfl g1.1 g1.2 dX8_drawOfTen_12 ?_
  refine wp_aload_n (pc := 15) C 0 dX8_drawOfTen_15 rfl rfl ?_
  refine wp_getI (pc := 16) C flX8_15 rfl g1.1 g1.2 dX8_drawOfTen_16 ?_
  refine wp_bipush (v := 16) (pc := 19) C dX8_drawOfTen_19 (by decide) ?_
  refine wp_iushr (pc := 21) C dX8_drawOfTen_21 ?_
  refine wp_bipush (v := 10) (pc := 22) C dX8_drawOfTen_22 (by decide) ?_
  refine wp_irem (pc := 24) C dX8_drawOfTen_24 (by decide) ?_
  exact rt_i C rfl h dX8_drawOfTen_25
theorem CtX8_drawOfTen {sd : Sd} {n : Nat} {S S' : St} {r : Int32} {a0 : Nat} (h : fX8_drawOfTen sd n S a0 = some (S', r)) : Ct l sd cy ad D yX8_drawOfTen cX8_drawOfTen 1 (some .int) 0 0 [.ref (ad a0)] S (some (.int r)) S' :=
  Ct_of (own := RX8) mX8_drawOfTen rfl (Nat.le_of_ble_eq_true rfl) (fun G e1 e2 e3 e4 C => by subst e1 e2 e3 e4; exact wX8_drawOfTen C h)
def fX8_fadeOneDay_j70 (sd : Sd) (n : Nat) (k14 : St → Nat → Nat → Int32 → Int32 → Option (St × Int32)) (S : St) (a0 : Nat) (a1 : Nat) (x2 : Int32) (x3 : Int32) : Option (St × Int32) :=
  bn (x3 + 1) (fun z1 : Int32 =>
  k14 S a0 a1 x2 z1)
set_option maxRecDepth 100000 in
set_option maxHeartbeats 4000000 in
theorem wX8_fadeOneDay_j70 {sd : Sd} (C : Cx G sd cX8_fadeOneDay 5 RX8 (some .int)) {n : Nat} {k14 : St → Nat → Nat → Int32 → Int32 → Option (St × Int32)} {S S' : St} {r : Int32} {a0 : Nat} {a1 : Nat} {x2 : Int32} {x3 : Int32} (hk14 : ∀ (S : St) (a0 : Nat) (a1 : Nat) (x2 : Int32) (x3 : Int32), k14 S a0 a1 x2 x3 = some (S', r) → Wp G sd (rmOf 0 0) 5 (Qm G sd (some (.int r)) S') S 14 [(0, .ref (gA G a0)), (1, .ref (gA G a1)), (2, .int x2), (3, .int x3)] []) (h : fX8_fadeOneDay_j70 sd n k14 S a0 a1 x2 x3 = some (S', r)) : Wp G sd (rmOf 0 0) 5 (Qm G sd (some (.int r)) S') S 70 [(0, .ref (gA G a0)), (1, .ref (gA G a1)), (2, .int x2), (3, .int x3)] [] := by
  unfold fX8_fadeOneDay_j70 at h
  obtain ⟨z1, ez1, h⟩ := bn_some h
  refine wp_iinc (q := 3) (pc := 70) C (by decide) ez1 [(3, .int z1), (0, .ref (gA G a0)), (1, .ref (gA G a1)), (2, .int x2)] dX8_fadeOneDay_70 rfl (Nat.le_of_ble_eq_true rfl) rfl ?_
  refine wp_goto (pc := 73) C 14 dX8_fadeOneDay_73 (by decide) ?_
  exact wp_sub C [1, 2, 3, 0] rfl (hk14 _ _ _ _ _ h)
def fX8_fadeOneDay_l14 (sd : Sd) (n : Nat) : Nat → St → Nat → Nat → Int32 → Int32 → Option (St × Int32)
  | 0, _, _, _, _, _ => none
  | j + 1, S, a0, a1, x2, x3 =>
    gd (isK sd a1 0) (
    gd (isK sd (sd.2.2.2 a1 0) 5) (
    if (S.1 (sd.2.2.2 a1 0) 3) ≤ x3 then
      some (S, x2)
    else
      gd (isK sd (sd.2.2.2 a1 6) 13) (
      gd (ib x3 (sd.2.2.1 (sd.2.2.2 a1 6))) (
      bn (S.1 (sd.2.2.2 a1 6) (Int32.toNatClampNeg x3)) (fun z5 : Int32 =>
      if z5 = 0 then
        fX8_fadeOneDay_j70 sd n (fX8_fadeOneDay_l14 sd n j) S a0 a1 x2 x3
      else
        gd (isK sd a0 8) (
        gd (¬ z5 = 0) (
        if ((S.1 a0 2) - (S.1 a0 2) / z5 * z5) = 0 then
          gd (isK sd (sd.2.2.2 a0 0) 13) (
          gd (ib x3 (sd.2.2.1 (sd.2.2.2 a0 0))) (
          if (S.1 (sd.2.2.2 a0 0) (Int32.toNatClampNeg x3)) ≤ 0 then
            fX8_fadeOneDay_j70 sd n (fX8_fadeOneDay_l14 sd n j) S a0 a1 x2 x3
          else
            gd (ib x3 (sd.2.2.1 (sd.2.2.2 a0 0))) (
            gd (ib x3 (sd.2.2.1 (sd.2.2.2 a0 0))) (
            bn (sI S (sd.2.2.2 a0 0) (Int32.toNatClampNeg x3) ((S.1 (sd.2.2.2 a0 0) (Int32.toNatClampNeg x3)) - 1)) (fun S12 : St =>
            bn (x2 + 1) (fun z13 : Int32 =>
            fX8_fadeOneDay_j70 sd n (fX8_fadeOneDay_l14 sd n j) S12 a0 a1 z13 x3))))))
        else
          fX8_fadeOneDay_j70 sd n (fX8_fadeOneDay_l14 sd n j) S a0 a1 x2 x3)))))))
set_option maxRecDepth 100000 in
set_option maxHeartbeats 4000000 in
theorem wX8_fadeOneDay_l14 {sd : Sd} (C : Cx G sd cX8_fadeOneDay 5 RX8 (some .int)) {n : Nat} {S' : St} {r : Int32} : ∀ (j : Nat) (S : St) (a0 : Nat) (a1 : Nat) (x2 : Int32) (x3 : Int32), fX8_fadeOneDay_l14 sd n j S a0 a1 x2 x3 = some (S', r) → Wp G sd (rmOf 0 0) 5 (Qm G sd (some (.int r)) S') S 14 [(0, .ref (gA G a0)), (1, .ref (gA G a1)), (2, .int x2), (3, .int x3)] [] := by
  intro j
  induction j with
  | zero =>
    intro S a0 a1 x2 x3 h
    exact nomatch (show (none : Option (St × Int32)) = some _ from h)
  | succ j ih =>
    intro S a0 a1 x2 x3 h
    rw [fX8_fadeOneDay_l14] at h
    refine wp_iload_n (pc := 14) C 3 dX8_fadeOneDay_14 rfl rfl ?_
    refine wp_aload_n (pc := 15) C 1 dX8_fadeOneDay_15 rfl rfl ?_
    obtain ⟨g1, h⟩ := gd_some h
    obtain ⟨g2, h⟩ := gd_some h
    refine wp_getS (v := sd.2.2.2 a1 0) (pc := 16) C flX8_42 rfl rfl g2.1 g1.1 g1.2 dX8_fadeOneDay_16 ?_
    refine wp_getI (pc := 19) C flX8_48 rfl g2.1 g2.2 dX8_fadeOneDay_19 ?_
    refine wp_icmp_ge (pc := 22) C 76 dX8_fadeOneDay_22 (by decide) (fun q => ?_) (fun q => ?_)
    · have h := it_pos q h
      refine wp_iload_n (pc := 76) C 2 dX8_fadeOneDay_76 rfl rfl ?_
      exact rt_i C rfl h dX8_fadeOneDay_77
    · have h := it_neg q h
      refine wp_aload_n (pc := 25) C 1 dX8_fadeOneDay_25 rfl rfl ?_
      obtain ⟨g3, h⟩ := gd_some h
      refine wp_getS (v := sd.2.2.2 a1 6) (pc := 26) C flX8_53 rfl rfl g3.1 g1.1 g1.2 dX8_fadeOneDay_26 ?_
      refine wp_iload_n (pc := 29) C 3 dX8_fadeOneDay_29 rfl rfl ?_
      obtain ⟨g4, h⟩ := gd_some h
      refine wp_iald (pc := 30) C g3.1 g3.2 g4 dX8_fadeOneDay_30 ?_
      obtain ⟨z5, ez5, h⟩ := bn_some h
      refine wp_istore (pc := 31) C ez5 [(4, .int z5), (0, .ref (gA G a0)), (1, .ref (gA G a1)), (2, .int x2), (3, .int x3)] dX8_fadeOneDay_31 (Nat.le_of_ble_eq_true rfl) rfl ?_
      refine wp_iload (pc := 33) C 0 dX8_fadeOneDay_33 rfl ?_
      refine wp_if_eq (pc := 35) C 70 dX8_fadeOneDay_35 (by decide) (fun q => ?_) (fun q => ?_)
      · have h := it_pos q h
        exact wp_sub C [1, 2, 3, 4] rfl (wX8_fadeOneDay_j70 C ih h)
      · have h := it_neg q h
        refine wp_aload_n (pc := 38) C 1 dX8_fadeOneDay_38 rfl rfl ?_
        obtain ⟨g6, h⟩ := gd_some h
        refine wp_getI (pc := 39) C flX8_26 rfl g6.1 g6.2 dX8_fadeOneDay_39 ?_
        refine wp_iload (pc := 42) C 0 dX8_fadeOneDay_42 rfl ?_
        obtain ⟨g7, h⟩ := gd_some h
        refine wp_irem (pc := 44) C dX8_fadeOneDay_44 g7 ?_
        refine wp_if_ne (pc := 45) C 70 dX8_fadeOneDay_45 (by decide) (fun q => ?_) (fun q => ?_)
        · have h := it_neg q h
          exact wp_sub C [1, 2, 3, 4] rfl (wX8_fadeOneDay_j70 C ih h)
        · have h := it_pos q h
          refine wp_aload_n (pc := 48) C 1 dX8_fadeOneDay_48 rfl rfl ?_
          obtain ⟨g8, h⟩ := gd_some h
          refine wp_getS (v := sd.2.2.2 a0 0) (pc := 49) C flX8_9 rfl rfl g8.1 g6.1 g6.2 dX8_fadeOneDay_49 ?_
          refine wp_iload_n (pc := 52) C 4 dX8_fadeOneDay_52 rfl rfl ?_
          obtain ⟨g9, h⟩ := gd_some h
          refine wp_iald (pc := 53) C g8.1 g8.2 g9 dX8_fadeOneDay_53 ?_
          refine wp_if_le (pc := 54) C 70 dX8_fadeOneDay_54 (by decide) (fun q => ?_) (fun q => ?_)
          · have h := it_pos q h
            exact wp_sub C [1, 2, 3, 4] rfl (wX8_fadeOneDay_j70 C ih h)
          · have h := it_neg q h
            refine wp_aload_n (pc := 57) C 1 dX8_fadeOneDay_57 rfl rfl ?_
            refine wp_getS (v := sd.2.2.2 a0 0) (pc := 58) C flX8_9 rfl rfl g8.1 g6.1 g6.2 dX8_fadeOneDay_58 ?_
            refine wp_iload_n (pc := 61) C 4 dX8_fadeOneDay_61 rfl rfl ?_
            refine wp_dup2_11 (pc := 62) C dX8_fadeOneDay_62 rfl rfl ?_
            obtain ⟨g10, h⟩ := gd_some h
            refine wp_iald (pc := 63) C g8.1 g8.2 g10 dX8_fadeOneDay_63 ?_
            refine wp_iconst (v := 1) (pc := 64) C dX8_fadeOneDay_64 (by decide) ?_
            refine wp_isub (pc := 65) C dX8_fadeOneDay_65 ?_
            obtain ⟨g11, h⟩ := gd_some h
            obtain ⟨S12, eS12, h⟩ := bn_some h
            refine wp_iast (pc := 66) C eS12 g8.1 g8.2 g11 dX8_fadeOneDay_66 ?_
            obtain ⟨z13, ez13, h⟩ := bn_some h
            refine wp_iinc (q := 3) (pc := 67) C (by decide) ez13 [(2, .int z13), (4, .int z5), (0, .ref (gA G a0)), (1, .ref (gA G a1)), (3, .int x3)] dX8_fadeOneDay_67 rfl (Nat.le_of_ble_eq_true rfl) rfl ?_
            exact wp_sub C [2, 3, 0, 4] rfl (wX8_fadeOneDay_j70 C ih h)
def fX8_fadeOneDay (sd : Sd) (n : Nat) (S : St) (a0 : Nat) (a1 : Nat) : Option (St × Int32) :=
  gd (isK sd a0 8) (
  bn (sI S a0 2 ((S.1 a0 2) + 1)) (fun S2 : St =>
  fX8_fadeOneDay_l14 sd n n S2 a0 a1 0 0))
set_option maxRecDepth 100000 in
set_option maxHeartbeats 4000000 in
theorem wX8_fadeOneDay {sd : Sd} (C : Cx G sd cX8_fadeOneDay 5 RX8 (some .int)) {n : Nat} {S S' : St} {r : Int32} {a0 : Nat} {a1 : Nat} (h : fX8_fadeOneDay sd n S a0 a1 = some (S', r)) : Wp G sd (rmOf 0 0) 5 (Qm G sd (some (.int r)) S') S 0 [(0, .ref (gA G a0)), (1, .ref (gA G a1))] [] := by
  unfold fX8_fadeOneDay at h
  refine wp_aload_n (pc := 0) C 0 dX8_fadeOneDay_0 rfl rfl ?_
  refine wp_dup (pc := 1) C dX8_fadeOneDay_1 rfl ?_
  obtain ⟨g1, h⟩ := gd_some h
  refine wp_getI (pc := 2) C flX8_26 rfl g1.1 g1.2 dX8_fadeOneDay_2 ?_
  refine wp_iconst (v := 1) (pc := 5) C dX8_fadeOneDay_5 (by decide) ?_
  refine wp_iadd (pc := 6) C dX8_fadeOneDay_6 ?_
  obtain ⟨S2, eS2, h⟩ := bn_some h
  refine wp_putI (pc := 7) C eS2 flX8_26 fpX8_2 rfl g1.1 g1.2 dX8_fadeOneDay_7 ?_
  refine wp_iconst (v := 0) (pc := 10) C dX8_fadeOneDay_10 (by decide) ?_
  refine wp_istore_n (pc := 11) C rfl [(2, .int 0), (0, .ref (gA G a0)), (1, .ref (gA G a1))] dX8_fadeOneDay_11 rfl (Nat.le_of_ble_eq_true rfl) rfl ?_
  refine wp_iconst (v := 0) (pc := 12) C dX8_fadeOneDay_12 (by decide) ?_
  refine wp_istore_n (pc := 13) C rfl [(3, .int 0), (2, .int 0), (0, .ref (gA G a0)), (1, .ref (gA G a1))] dX8_fadeOneDay_13 rfl (Nat.le_of_ble_eq_true rfl) rfl ?_
  exact wp_sub C [2, 3, 1, 0] rfl (wX8_fadeOneDay_l14 C _ _ _ _ _ _ h)
theorem CtX8_fadeOneDay {sd : Sd} {n : Nat} {S S' : St} {r : Int32} {a0 : Nat} {a1 : Nat} (h : fX8_fadeOneDay sd n S a0 a1 = some (S', r)) : Ct l sd cy ad D yX8_fadeOneDay cX8_fadeOneDay 5 (some .int) 0 0 [.ref (ad a0), .ref (ad a1)] S (some (.int r)) S' :=
  Ct_of (own := RX8) mX8_fadeOneDay rfl (Nat.le_of_ble_eq_true rfl) (fun G e1 e2 e3 e4 C => by subst e1 e2 e3 e4; exact wX8_fadeOneDay C h)
def fX10_feed (n : Nat) (S : St) (x1 : Int32) (x2 : Int32) (x3 : Int32) (x4 : Int32) (x5 : Int32) : Option (St × Int32) :=
  bd (fX6_hasRoom n S 20) (fun S1 r2 =>
  if r2 = 0 then
    some (S1, (-1))
  else
    bd (fX6_put n S1 x1) (fun S3 r4 =>
    bd (fX6_put n S3 x2) (fun S5 r6 =>
    bd (fX6_put n S5 x3) (fun S7 r8 =>
    bd (fX6_put n S7 x4) (fun S9 r10 =>
    bd (fX6_put n S9 x5) (fun S11 r12 =>
    some (S11, S11.1 1 1)))))))
set_option maxRecDepth 100000 in
set_option maxHeartbeats 4000000 in
theorem wX10_feed (C : Cx G sdX cX10_feed 6 RX10 (some .int)) {n : Nat} {S S' : St} {r : Int32} {x1 : Int32} {x2 : Int32} {x3 : Int32} {x4 : Int32} {x5 : Int32} (h : fX10_feed n S x1 x2 x3 x4 x5 = some (S', r)) : Wp G sdX (rmOf 1 22) 6 (Qm G sdX (some (.int r)) S') S 0 [(0, .ref (gA G 0)), (1, .int x1), (2, .int x2), (3, .int x3), (4, .int x4), (5, .int x5)] [] := by
  unfold fX10_feed at h
  refine wp_aload_n (pc := 0) C 0 dX10_feed_0 rfl rfl ?_
  refine wp_getS (v := 1) (pc := 1) C flX10_12 rfl rfl (Nat.le_of_ble_eq_true rfl) (Nat.le_of_ble_eq_true rfl) rfl dX10_feed_1 ?_
  refine wp_bipush (v := 20) (pc := 4) C dX10_feed_4 (by decide) ?_
  obtain ⟨S1, r2, cS1, h⟩ := bd_some h
  refine wp_callVi (As := [.int 20]) (st := []) (pc := 6) C (CtX6_hasRoom cS1) mX6_hasRoom iX6_hasRoom kX10_84 (Nat.le_of_ble_eq_true rfl) rfl (by decide) rfl rfl rfl rfl (Nat.le_of_ble_eq_true rfl) ⟨Nat.le_of_ble_eq_true rfl, Nat.le_of_ble_eq_true rfl⟩ dX10_feed_6 ?_
  refine wp_if_ne (pc := 9) C 14 dX10_feed_9 (by decide) (fun q => ?_) (fun q => ?_)
  · have h := it_neg q h
    refine wp_aload_n (pc := 14) C 0 dX10_feed_14 rfl rfl ?_
    refine wp_getS (v := 1) (pc := 15) C flX10_12 rfl rfl (Nat.le_of_ble_eq_true rfl) (Nat.le_of_ble_eq_true rfl) rfl dX10_feed_15 ?_
    refine wp_iload_n (pc := 18) C 1 dX10_feed_18 rfl rfl ?_
    obtain ⟨S3, r4, cS3, h⟩ := bd_some h
    refine wp_callVv (As := [.int x1]) (st := []) (pc := 19) C (CtX6_put cS3) mX6_put iX6_put kX10_88 (Nat.le_of_ble_eq_true rfl) rfl (by decide) rfl rfl rfl rfl (Nat.le_of_ble_eq_true rfl) ⟨Nat.le_of_ble_eq_true rfl, Nat.le_of_ble_eq_true rfl⟩ dX10_feed_19 ?_
    refine wp_aload_n (pc := 22) C 0 dX10_feed_22 rfl rfl ?_
    refine wp_getS (v := 1) (pc := 23) C flX10_12 rfl rfl (Nat.le_of_ble_eq_true rfl) (Nat.le_of_ble_eq_true rfl) rfl dX10_feed_23 ?_
    refine wp_iload_n (pc := 26) C 2 dX10_feed_26 rfl rfl ?_
    obtain ⟨S5, r6, cS5, h⟩ := bd_some h
    refine wp_callVv (As := [.int x2]) (st := []) (pc := 27) C (CtX6_put cS5) mX6_put iX6_put kX10_88 (Nat.le_of_ble_eq_true rfl) rfl (by decide) rfl rfl rfl rfl (Nat.le_of_ble_eq_true rfl) ⟨Nat.le_of_ble_eq_true rfl, Nat.le_of_ble_eq_true rfl⟩ dX10_feed_27 ?_
    refine wp_aload_n (pc := 30) C 0 dX10_feed_30 rfl rfl ?_
    refine wp_getS (v := 1) (pc := 31) C flX10_12 rfl rfl (Nat.le_of_ble_eq_true rfl) (Nat.le_of_ble_eq_true rfl) rfl dX10_feed_31 ?_
    refine wp_iload_n (pc := 34) C 3 dX10_feed_34 rfl rfl ?_
    obtain ⟨S7, r8, cS7, h⟩ := bd_some h
    refine wp_callVv (As := [.int x3]) (st := []) (pc := 35) C (CtX6_put cS7) mX6_put iX6_put kX10_88 (Nat.le_of_ble_eq_true rfl) rfl (by decide) rfl rfl rfl rfl (Nat.le_of_ble_eq_true rfl) ⟨Nat.le_of_ble_eq_true rfl, Nat.le_of_ble_eq_true rfl⟩ dX10_feed_35 ?_
    refine wp_aload_n (pc := 38) C 0 dX10_feed_38 rfl rfl ?_
    refine wp_getS (v := 1) (pc := 39) C flX10_12 rfl rfl (Nat.le_of_ble_eq_true rfl) (Nat.le_of_ble_eq_true rfl) rfl dX10_feed_39 ?_
    refine wp_iload (pc := 42) C 4 dX10_feed_42 rfl ?_
    obtain ⟨S9, r10, cS9, h⟩ := bd_some h
    refine wp_callVv (As := [.int x4]) (st := []) (pc := 44) C (CtX6_put cS9) mX6_put iX6_put kX10_88 (Nat.le_of_ble_eq_true rfl) rfl (by decide) rfl rfl rfl rfl (Nat.le_of_ble_eq_true rfl) ⟨Nat.le_of_ble_eq_true rfl, Nat.le_of_ble_eq_true rfl⟩ dX10_feed_44 ?_
    refine wp_aload_n (pc := 47) C 0 dX10_feed_47 rfl rfl ?_
    refine wp_getS (v := 1) (pc := 48) C flX10_12 rfl rfl (Nat.le_of_ble_eq_true rfl) (Nat.le_of_ble_eq_true rfl) rfl dX10_feed_48 ?_
    refine wp_iload (pc := 51) C 5 dX10_feed_51 rfl ?_
    obtain ⟨S11, r12, cS11, h⟩ := bd_some h
    refine wp_callVv (As := [.int x5]) (st := []) (pc := 53) C (CtX6_put cS11) mX6_put iX6_put kX10_88 (Nat.le_of_ble_eq_true rfl) rfl (by decide) rfl rfl rfl rfl (Nat.le_of_ble_eq_true rfl) ⟨Nat.le_of_ble_eq_true rfl, Nat.le_of_ble_eq_true rfl⟩ dX10_feed_53 ?_
    refine wp_aload_n (pc := 56) C 0 dX10_feed_56 rfl rfl ?_
    refine wp_getS (v := 1) (pc := 57) C flX10_12 rfl rfl (Nat.le_of_ble_eq_true rfl) (Nat.le_of_ble_eq_true rfl) rfl dX10_feed_57 ?_
    refine wp_getI (pc := 60) C flX10_92 rfl (Nat.le_of_ble_eq_true rfl) rfl dX10_feed_60 ?_
    exact rt_i C rfl h dX10_feed_63
  · have h := it_pos q h
    refine wp_iconst (v := (-1)) (pc := 12) C dX10_feed_12 (by decide) ?_
    exact rt_i C rfl h dX10_feed_13
theorem CtX10_feed {n : Nat} {S S' : St} {r : Int32} {x1 : Int32} {x2 : Int32} {x3 : Int32} {x4 : Int32} {x5 : Int32} (h : fX10_feed n S x1 x2 x3 x4 x5 = some (S', r)) : Ct l sdX cy ad D yX10_feed cX10_feed 6 (some .int) 1 22 [.ref (ad 0), .int x1, .int x2, .int x3, .int x4, .int x5] S (some (.int r)) S' :=
  Ct_of (own := RX10) mX10_feed rfl (Nat.le_of_ble_eq_true rfl) (fun G e1 e2 e3 e4 C => by subst e1 e2 e3 e4; exact wX10_feed C h)
end
