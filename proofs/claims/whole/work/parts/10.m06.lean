section
variable {G : Gx} {l : Launch} {cy : Nat → ClassId} {ad : Nat → Nat} {D : va_G}
def fX11_nextWeights_j26 (n : Nat) (S : St) (x1 : Int32) (x2 : Int32) (x3 : Int32) : Option (St × Int32) :=
  gd (ib x3 6) (
  gd (ib x3 6) (
  bn (sI S 30 (Int32.toNatClampNeg x3) ((S.1 30 (Int32.toNatClampNeg x3)) + 1)) (fun S3 : St =>
  gd (ib x1 6) (
  bn (sI S3 30 (Int32.toNatClampNeg x1) (x2 - 1)) (fun S5 : St =>
  some (S5, 1))))))
set_option maxRecDepth 100000 in
set_option maxHeartbeats 4000000 in
theorem wX11_nextWeights_j26 (C : Cx G sdM cX11_nextWeights 4 RX11 (some .boolean)) {n : Nat} {S S' : St} {r : Int32} {x1 : Int32} {x2 : Int32} {x3 : Int32} (h : fX11_nextWeights_j26 n S x1 x2 x3 = some (S', r)) : Wp G sdM (rmOf 1 20) 4 (Qm G sdM (some (.int r)) S') S 26 [(0, .ref (gA G 0)), (1, .int x1), (2, .int x2), (3, .int x3)] [] := by
  unfold fX11_nextWeights_j26 at h
  refine wp_aload_n (pc := 26) C 0 dX11_nextWeights_26 rfl rfl ?_
  refine wp_getS (v := 30) (pc := 27) C flX11_103 rfl rfl (Nat.le_of_ble_eq_true rfl) (Nat.le_of_ble_eq_true rfl) rfl dX11_nextWeights_27 ?_
  refine wp_iload_n (pc := 30) C 3 dX11_nextWeights_30 rfl rfl ?_
  refine wp_dup2_11 (pc := 31) C dX11_nextWeights_31 rfl rfl ?_
  obtain ⟨g1, h⟩ := gd_some h
  refine wp_iald (pc := 32) C (Nat.le_of_ble_eq_true rfl) rfl g1 dX11_nextWeights_32 ?_
  refine wp_iconst (v := 1) (pc := 33) C dX11_nextWeights_33 (by decide) ?_
  refine wp_iadd (pc := 34) C dX11_nextWeights_34 ?_
  obtain ⟨g2, h⟩ := gd_some h
  obtain ⟨S3, eS3, h⟩ := bn_some h
  refine wp_iast (pc := 35) C eS3 (Nat.le_of_ble_eq_true rfl) rfl g2 dX11_nextWeights_35 ?_
  refine wp_aload_n (pc := 36) C 0 dX11_nextWeights_36 rfl rfl ?_
  refine wp_getS (v := 30) (pc := 37) C flX11_103 rfl rfl (Nat.le_of_ble_eq_true rfl) (Nat.le_of_ble_eq_true rfl) rfl dX11_nextWeights_37 ?_
  refine wp_iload_n (pc := 40) C 1 dX11_nextWeights_40 rfl rfl ?_
  refine wp_iload_n (pc := 41) C 2 dX11_nextWeights_41 rfl rfl ?_
  refine wp_iconst (v := 1) (pc := 42) C dX11_nextWeights_42 (by decide) ?_
  refine wp_isub (pc := 43) C dX11_nextWeights_43 ?_
  obtain ⟨g4, h⟩ := gd_some h
  obtain ⟨S5, eS5, h⟩ := bn_some h
  refine wp_iast (pc := 44) C eS5 (Nat.le_of_ble_eq_true rfl) rfl g4 dX11_nextWeights_44 ?_
  refine wp_iconst (v := 1) (pc := 45) C dX11_nextWeights_45 (by decide) ?_
  exact rt_z C (Or.inr rfl) rfl h dX11_nextWeights_46
def fX11_nextWeights_l18 (n : Nat) : Nat → St → Int32 → Int32 → Int32 → Option (St × Int32)
  | 0, _, _, _, _ => none
  | j + 1, S, x1, x2, x3 =>
    if x3 < 0 then
      some (S, 0)
    else
      if x2 ≤ 0 then
        gd (ib x3 6) (
        bn (S.1 30 (Int32.toNatClampNeg x3)) (fun z2 : Int32 =>
        gd (ib x3 6) (
        bn (sI S 30 (Int32.toNatClampNeg x3) 0) (fun S4 : St =>
        gd (ib x1 6) (
        bn (sI S4 30 (Int32.toNatClampNeg x1) z2) (fun S6 : St =>
        bn (x3 + (-1)) (fun z7 : Int32 =>
        fX11_nextWeights_l18 n j S6 x1 z2 z7)))))))
      else
        fX11_nextWeights_j26 n S x1 x2 x3
set_option maxRecDepth 100000 in
set_option maxHeartbeats 4000000 in
theorem wX11_nextWeights_l18 (C : Cx G sdM cX11_nextWeights 4 RX11 (some .boolean)) {n : Nat} {S' : St} {r : Int32} : ∀ (j : Nat) (S : St) (x1 : Int32) (x2 : Int32) (x3 : Int32), fX11_nextWeights_l18 n j S x1 x2 x3 = some (S', r) → Wp G sdM (rmOf 1 20) 4 (Qm G sdM (some (.int r)) S') S 18 [(0, .ref (gA G 0)), (1, .int x1), (2, .int x2), (3, .int x3)] [] := by
  intro j
  induction j with
  | zero =>
    intro S x1 x2 x3 h
    exact nomatch (show (none : Option (St × Int32)) = some _ from h)
  | succ j ih =>
    intro S x1 x2 x3 h
    rw [fX11_nextWeights_l18] at h
    refine wp_iload_n (pc := 18) C 3 dX11_nextWeights_18 rfl rfl ?_
    refine wp_if_lt (pc := 19) C 74 dX11_nextWeights_19 (by decide) (fun q => ?_) (fun q => ?_)
    · have h := it_pos q h
      refine wp_iconst (v := 0) (pc := 74) C dX11_nextWeights_74 (by decide) ?_
      exact rt_z C (Or.inl rfl) rfl h dX11_nextWeights_75
    · have h := it_neg q h
      refine wp_iload_n (pc := 22) C 2 dX11_nextWeights_22 rfl rfl ?_
      refine wp_if_le (pc := 23) C 47 dX11_nextWeights_23 (by decide) (fun q => ?_) (fun q => ?_)
      · have h := it_pos q h
        refine wp_aload_n (pc := 47) C 0 dX11_nextWeights_47 rfl rfl ?_
        refine wp_getS (v := 30) (pc := 48) C flX11_103 rfl rfl (Nat.le_of_ble_eq_true rfl) (Nat.le_of_ble_eq_true rfl) rfl dX11_nextWeights_48 ?_
        refine wp_iload_n (pc := 51) C 3 dX11_nextWeights_51 rfl rfl ?_
        obtain ⟨g1, h⟩ := gd_some h
        refine wp_iald (pc := 52) C (Nat.le_of_ble_eq_true rfl) rfl g1 dX11_nextWeights_52 ?_
        obtain ⟨z2, ez2, h⟩ := bn_some h
        refine wp_istore_n (pc := 53) C ez2 [(2, .int z2), (0, .ref (gA G 0)), (1, .int x1), (3, .int x3)] dX11_nextWeights_53 rfl (Nat.le_of_ble_eq_true rfl) rfl ?_
        refine wp_aload_n (pc := 54) C 1 dX11_nextWeights_54 rfl rfl ?_
        refine wp_getS (v := 30) (pc := 55) C flX11_103 rfl rfl (Nat.le_of_ble_eq_true rfl) (Nat.le_of_ble_eq_true rfl) rfl dX11_nextWeights_55 ?_
        refine wp_iload_n (pc := 58) C 3 dX11_nextWeights_58 rfl rfl ?_
        refine wp_iconst (v := 0) (pc := 59) C dX11_nextWeights_59 (by decide) ?_
        obtain ⟨g3, h⟩ := gd_some h
        obtain ⟨S4, eS4, h⟩ := bn_some h
        refine wp_iast (pc := 60) C eS4 (Nat.le_of_ble_eq_true rfl) rfl g3 dX11_nextWeights_60 ?_
        refine wp_aload_n (pc := 61) C 1 dX11_nextWeights_61 rfl rfl ?_
        refine wp_getS (v := 30) (pc := 62) C flX11_103 rfl rfl (Nat.le_of_ble_eq_true rfl) (Nat.le_of_ble_eq_true rfl) rfl dX11_nextWeights_62 ?_
        refine wp_iload_n (pc := 65) C 2 dX11_nextWeights_65 rfl rfl ?_
        refine wp_iload_n (pc := 66) C 0 dX11_nextWeights_66 rfl rfl ?_
        obtain ⟨g5, h⟩ := gd_some h
        obtain ⟨S6, eS6, h⟩ := bn_some h
        refine wp_iast (pc := 67) C eS6 (Nat.le_of_ble_eq_true rfl) rfl g5 dX11_nextWeights_67 ?_
        obtain ⟨z7, ez7, h⟩ := bn_some h
        refine wp_iinc (q := 3) (pc := 68) C (by decide) ez7 [(3, .int z7), (2, .int z2), (0, .ref (gA G 0)), (1, .int x1)] dX11_nextWeights_68 rfl (Nat.le_of_ble_eq_true rfl) rfl ?_
        refine wp_goto (pc := 71) C 18 dX11_nextWeights_71 (by decide) ?_
        exact wp_sub C [2, 3, 1, 0] rfl (ih _ _ _ _ h)
      · have h := it_neg q h
        exact (wX11_nextWeights_j26 C h)
def fX11_nextWeights (n : Nat) (S : St) : Option (St × Int32) :=
  bd (fX11_lamps n S) (fun S1 r2 =>
  bn (r2 - 1) (fun z3 : Int32 =>
  gd (ib z3 6) (
  bn (S1.1 30 (Int32.toNatClampNeg z3)) (fun z5 : Int32 =>
  bn (z3 - 1) (fun z6 : Int32 =>
  fX11_nextWeights_l18 n n S1 z3 z5 z6)))))
set_option maxRecDepth 100000 in
set_option maxHeartbeats 4000000 in
theorem wX11_nextWeights (C : Cx G sdM cX11_nextWeights 4 RX11 (some .boolean)) {n : Nat} {S S' : St} {r : Int32} (h : fX11_nextWeights n S = some (S', r)) : Wp G sdM (rmOf 1 20) 4 (Qm G sdM (some (.int r)) S') S 0 [(0, .ref (gA G 0))] [] := by
  unfold fX11_nextWeights at h
  refine wp_aload_n (pc := 0) C 0 dX11_nextWeights_0 rfl rfl ?_
  obtain ⟨S1, r2, cS1, h⟩ := bd_some h
  refine wp_callVi (As := []) (st := []) (pc := 1) C (CtX11_lamps cS1) mX11_lamps iX11_lamps kX11_365 (Nat.le_of_ble_eq_true rfl) rfl (by decide) rfl rfl rfl rfl (Nat.le_of_ble_eq_true rfl) ⟨Nat.le_of_ble_eq_true rfl, Nat.le_of_ble_eq_true rfl⟩ dX11_nextWeights_1 ?_
  refine wp_iconst (v := 1) (pc := 4) C dX11_nextWeights_4 (by decide) ?_
  refine wp_isub (pc := 5) C dX11_nextWeights_5 ?_
  obtain ⟨z3, ez3, h⟩ := bn_some h
  refine wp_istore_n (pc := 6) C ez3 [(1, .int z3), (0, .ref (gA G 0))] dX11_nextWeights_6 rfl (Nat.le_of_ble_eq_true rfl) rfl ?_
  refine wp_aload_n (pc := 7) C 1 dX11_nextWeights_7 rfl rfl ?_
  refine wp_getS (v := 30) (pc := 8) C flX11_103 rfl rfl (Nat.le_of_ble_eq_true rfl) (Nat.le_of_ble_eq_true rfl) rfl dX11_nextWeights_8 ?_
  refine wp_iload_n (pc := 11) C 0 dX11_nextWeights_11 rfl rfl ?_
  obtain ⟨g4, h⟩ := gd_some h
  refine wp_iald (pc := 12) C (Nat.le_of_ble_eq_true rfl) rfl g4 dX11_nextWeights_12 ?_
  obtain ⟨z5, ez5, h⟩ := bn_some h
  refine wp_istore_n (pc := 13) C ez5 [(2, .int z5), (1, .int z3), (0, .ref (gA G 0))] dX11_nextWeights_13 rfl (Nat.le_of_ble_eq_true rfl) rfl ?_
  refine wp_iload_n (pc := 14) C 1 dX11_nextWeights_14 rfl rfl ?_
  refine wp_iconst (v := 1) (pc := 15) C dX11_nextWeights_15 (by decide) ?_
  refine wp_isub (pc := 16) C dX11_nextWeights_16 ?_
  obtain ⟨z6, ez6, h⟩ := bn_some h
  refine wp_istore_n (pc := 17) C ez6 [(3, .int z6), (2, .int z5), (1, .int z3), (0, .ref (gA G 0))] dX11_nextWeights_17 rfl (Nat.le_of_ble_eq_true rfl) rfl ?_
  exact wp_sub C [3, 2, 1, 0] rfl (wX11_nextWeights_l18 C _ _ _ _ _ h)
theorem CtX11_nextWeights {n : Nat} {S S' : St} {r : Int32} (h : fX11_nextWeights n S = some (S', r)) : Ct l sdM cy ad D yX11_nextWeights cX11_nextWeights 4 (some .boolean) 1 20 [.ref (ad 0)] S (some (.int r)) S' :=
  Ct_of (own := RX11) mX11_nextWeights rfl (Nat.le_of_ble_eq_true rfl) (fun G e1 e2 e3 e4 C => by subst e1 e2 e3 e4; exact wX11_nextWeights C h)
def fX11_betray_j198 (n : Nat) (S : St) (x4 : Int64) : Option (St × Int64) :=
  bn (sI S 0 63 1) (fun S1 : St =>
  some (S1, x4))
set_option maxRecDepth 100000 in
set_option maxHeartbeats 4000000 in
theorem wX11_betray_j198 (C : Cx G sdM cX11_betray 10 RX11 (some .long)) {n : Nat} {S S' : St} {r : Int64} {x4 : Int64} (h : fX11_betray_j198 n S x4 = some (S', r)) : Wp G sdM (rmOf 5 114) 10 (Qm G sdM (some (.long r)) S') S 198 [(0, .ref (gA G 0)), (4, .long x4)] [] := by
  unfold fX11_betray_j198 at h
  refine wp_aload_n (pc := 198) C 0 dX11_betray_198 rfl rfl ?_
  refine wp_iconst (v := 1) (pc := 199) C dX11_betray_199 (by decide) ?_
  obtain ⟨S1, eS1, h⟩ := bn_some h
  refine wp_putZ (pc := 200) C (Or.inr rfl) eS1 flX11_351 fpX11_63 rfl (Nat.le_of_ble_eq_true rfl) rfl dX11_betray_200 ?_
  refine wp_lload (pc := 203) C 1 dX11_betray_203 rfl ?_
  exact rt_l C rfl h dX11_betray_205
def fX11_betray_j189 (n : Nat) (k135 : St → Int32 → Int64 → Int32 → Option (St × Int64)) (S : St) (x3 : Int32) (x4 : Int64) : Option (St × Int64) :=
  bd (fX11_nextWeights n S) (fun S1 r2 =>
  k135 S1 x3 x4 r2)
set_option maxRecDepth 100000 in
set_option maxHeartbeats 4000000 in
theorem wX11_betray_j189 (C : Cx G sdM cX11_betray 10 RX11 (some .long)) {n : Nat} {k135 : St → Int32 → Int64 → Int32 → Option (St × Int64)} {S S' : St} {r : Int64} {x3 : Int32} {x4 : Int64} (hk135 : ∀ (S : St) (x3 : Int32) (x4 : Int64) (x6 : Int32), k135 S x3 x4 x6 = some (S', r) → Wp G sdM (rmOf 5 114) 10 (Qm G sdM (some (.long r)) S') S 135 [(0, .ref (gA G 0)), (3, .int x3), (4, .long x4), (6, .int x6)] []) (h : fX11_betray_j189 n k135 S x3 x4 = some (S', r)) : Wp G sdM (rmOf 5 114) 10 (Qm G sdM (some (.long r)) S') S 189 [(0, .ref (gA G 0)), (3, .int x3), (4, .long x4)] [] := by
  unfold fX11_betray_j189 at h
  refine wp_aload_n (pc := 189) C 0 dX11_betray_189 rfl rfl ?_
  obtain ⟨S1, r2, cS1, h⟩ := bd_some h
  refine wp_callVi (As := []) (st := []) (pc := 190) C (CtX11_nextWeights cS1) mX11_nextWeights iX11_nextWeights kX11_503 (Nat.le_of_ble_eq_true rfl) rfl (by decide) rfl rfl rfl rfl (Nat.le_of_ble_eq_true rfl) ⟨Nat.le_of_ble_eq_true rfl, Nat.le_of_ble_eq_true rfl⟩ dX11_betray_190 ?_
  refine wp_istore (pc := 193) C rfl [(6, .int r2), (0, .ref (gA G 0)), (3, .int x3), (4, .long x4)] dX11_betray_193 (Nat.le_of_ble_eq_true rfl) rfl ?_
  refine wp_goto (pc := 195) C 135 dX11_betray_195 (by decide) ?_
  exact wp_sub C [1, 2, 3, 0] rfl (hk135 _ _ _ _ h)
def fX11_betray_l162 (n : Nat) (k135 : St → Int32 → Int64 → Int32 → Option (St × Int64)) : Nat → St → Int32 → Int64 → Int32 → Option (St × Int64)
  | 0, _, _, _, _ => none
  | j + 1, S, x3, x4, x9 =>
    if 6 ≤ x9 then
      fX11_betray_j189 n k135 S x3 x4
    else
      gd (ib x9 6) (
      gd (ib x9 6) (
      bn (sI S 29 (Int32.toNatClampNeg x9) (S.1 30 (Int32.toNatClampNeg x9))) (fun S3 : St =>
      bn (x9 + 1) (fun z4 : Int32 =>
      fX11_betray_l162 n k135 j S3 x3 x4 z4))))
set_option maxRecDepth 100000 in
set_option maxHeartbeats 4000000 in
theorem wX11_betray_l162 (C : Cx G sdM cX11_betray 10 RX11 (some .long)) {n : Nat} {k135 : St → Int32 → Int64 → Int32 → Option (St × Int64)} {S' : St} {r : Int64} (hk135 : ∀ (S : St) (x3 : Int32) (x4 : Int64) (x6 : Int32), k135 S x3 x4 x6 = some (S', r) → Wp G sdM (rmOf 5 114) 10 (Qm G sdM (some (.long r)) S') S 135 [(0, .ref (gA G 0)), (3, .int x3), (4, .long x4), (6, .int x6)] []) : ∀ (j : Nat) (S : St) (x3 : Int32) (x4 : Int64) (x9 : Int32), fX11_betray_l162 n k135 j S x3 x4 x9 = some (S', r) → Wp G sdM (rmOf 5 114) 10 (Qm G sdM (some (.long r)) S') S 162 [(0, .ref (gA G 0)), (3, .int x3), (4, .long x4), (9, .int x9)] [] := by
  intro j
  induction j with
  | zero =>
    intro S x3 x4 x9 h
    exact nomatch (show (none : Option (St × Int64)) = some _ from h)
  | succ j ih =>
    intro S x3 x4 x9 h
    rw [fX11_betray_l162] at h
    refine wp_iload (pc := 162) C 3 dX11_betray_162 rfl ?_
    refine wp_bipush (v := 6) (pc := 164) C dX11_betray_164 (by decide) ?_
    refine wp_icmp_ge (pc := 166) C 189 dX11_betray_166 (by decide) (fun q => ?_) (fun q => ?_)
    · have h := it_pos q h
      exact wp_sub C [0, 1, 2] rfl (wX11_betray_j189 C hk135 h)
    · have h := it_neg q h
      refine wp_aload_n (pc := 169) C 0 dX11_betray_169 rfl rfl ?_
      refine wp_getS (v := 29) (pc := 170) C flX11_100 rfl rfl (Nat.le_of_ble_eq_true rfl) (Nat.le_of_ble_eq_true rfl) rfl dX11_betray_170 ?_
      refine wp_iload (pc := 173) C 3 dX11_betray_173 rfl ?_
      refine wp_aload_n (pc := 175) C 0 dX11_betray_175 rfl rfl ?_
      refine wp_getS (v := 30) (pc := 176) C flX11_103 rfl rfl (Nat.le_of_ble_eq_true rfl) (Nat.le_of_ble_eq_true rfl) rfl dX11_betray_176 ?_
      refine wp_iload (pc := 179) C 3 dX11_betray_179 rfl ?_
      obtain ⟨g1, h⟩ := gd_some h
      refine wp_iald (pc := 181) C (Nat.le_of_ble_eq_true rfl) rfl g1 dX11_betray_181 ?_
      obtain ⟨g2, h⟩ := gd_some h
      obtain ⟨S3, eS3, h⟩ := bn_some h
      refine wp_iast (pc := 182) C eS3 (Nat.le_of_ble_eq_true rfl) rfl g2 dX11_betray_182 ?_
      obtain ⟨z4, ez4, h⟩ := bn_some h
      refine wp_iinc (q := 3) (pc := 183) C (by decide) ez4 [(9, .int z4), (0, .ref (gA G 0)), (3, .int x3), (4, .long x4)] dX11_betray_183 rfl (Nat.le_of_ble_eq_true rfl) rfl ?_
      refine wp_goto (pc := 186) C 162 dX11_betray_186 (by decide) ?_
      exact wp_sub C [1, 2, 3, 0] rfl (ih _ _ _ _ h)
def fX11_betray_l135 (n : Nat) : Nat → St → Int32 → Int64 → Int32 → Option (St × Int64)
  | 0, _, _, _, _ => none
  | j + 1, S, x3, x4, x6 =>
    if x6 = 0 then
      fX11_betray_j198 n S x4
    else
      bd (fX11_apartMixed n S x3) (fun S1 r2 =>
      if (lg_cmp r2 x4) ≤ 0 then
        fX11_betray_j189 n (fX11_betray_l135 n j) S1 x3 x4
      else
        fX11_betray_l162 n (fX11_betray_l135 n j) n S1 x3 r2 0)
set_option maxRecDepth 100000 in
set_option maxHeartbeats 4000000 in
theorem wX11_betray_l135 (C : Cx G sdM cX11_betray 10 RX11 (some .long)) {n : Nat} {S' : St} {r : Int64} : ∀ (j : Nat) (S : St) (x3 : Int32) (x4 : Int64) (x6 : Int32), fX11_betray_l135 n j S x3 x4 x6 = some (S', r) → Wp G sdM (rmOf 5 114) 10 (Qm G sdM (some (.long r)) S') S 135 [(0, .ref (gA G 0)), (3, .int x3), (4, .long x4), (6, .int x6)] [] := by
  intro j
  induction j with
  | zero =>
    intro S x3 x4 x6 h
    exact nomatch (show (none : Option (St × Int64)) = some _ from h)
  | succ j ih =>
    intro S x3 x4 x6 h
    rw [fX11_betray_l135] at h
    refine wp_iload (pc := 135) C 3 dX11_betray_135 rfl ?_
    refine wp_if_eq (pc := 137) C 198 dX11_betray_137 (by decide) (fun q => ?_) (fun q => ?_)
    · have h := it_pos q h
      exact wp_sub C [0, 2] rfl (wX11_betray_j198 C h)
    · have h := it_neg q h
      refine wp_aload_n (pc := 140) C 0 dX11_betray_140 rfl rfl ?_
      refine wp_iload_n (pc := 141) C 1 dX11_betray_141 rfl rfl ?_
      obtain ⟨S1, r2, cS1, h⟩ := bd_some h
      refine wp_callVl (As := [.int x3]) (st := []) (pc := 142) C (CtX11_apartMixed cS1) mX11_apartMixed iX11_apartMixed kX11_499 (Nat.le_of_ble_eq_true rfl) rfl (by decide) rfl rfl rfl rfl (Nat.le_of_ble_eq_true rfl) ⟨Nat.le_of_ble_eq_true rfl, Nat.le_of_ble_eq_true rfl⟩ dX11_betray_142 ?_
      refine wp_lstore (pc := 145) C rfl [(7, .long r2), (0, .ref (gA G 0)), (3, .int x3), (4, .long x4), (6, .int x6)] dX11_betray_145 (Nat.le_of_ble_eq_true rfl) rfl ?_
      refine wp_lload (pc := 147) C 0 dX11_betray_147 rfl ?_
      refine wp_lload (pc := 149) C 3 dX11_betray_149 rfl ?_
      refine wp_lcmp (pc := 151) C dX11_betray_151 ?_
      refine wp_if_le (pc := 152) C 189 dX11_betray_152 (by decide) (fun q => ?_) (fun q => ?_)
      · have h := it_pos q h
        exact wp_sub C [1, 2, 3] rfl (wX11_betray_j189 C ih h)
      · have h := it_neg q h
        refine wp_lload (pc := 155) C 0 dX11_betray_155 rfl ?_
        refine wp_lstore (pc := 157) C rfl [(4, .long r2), (7, .long r2), (0, .ref (gA G 0)), (3, .int x3), (6, .int x6)] dX11_betray_157 (Nat.le_of_ble_eq_true rfl) rfl ?_
        refine wp_iconst (v := 0) (pc := 159) C dX11_betray_159 (by decide) ?_
        refine wp_istore (pc := 160) C rfl [(9, .int 0), (4, .long r2), (7, .long r2), (0, .ref (gA G 0)), (3, .int x3), (6, .int x6)] dX11_betray_160 (Nat.le_of_ble_eq_true rfl) rfl ?_
        exact wp_sub C [3, 4, 1, 0] rfl (wX11_betray_l162 C ih _ _ _ _ _ h)
def fX11_betray_j127 (n : Nat) (S : St) (x3 : Int32) : Option (St × Int64) :=
  fX11_betray_l135 n n S x3 (-1) 1
set_option maxRecDepth 100000 in
set_option maxHeartbeats 4000000 in
theorem wX11_betray_j127 (C : Cx G sdM cX11_betray 10 RX11 (some .long)) {n : Nat} {S S' : St} {r : Int64} {x3 : Int32} (h : fX11_betray_j127 n S x3 = some (S', r)) : Wp G sdM (rmOf 5 114) 10 (Qm G sdM (some (.long r)) S') S 127 [(0, .ref (gA G 0)), (3, .int x3)] [] := by
  unfold fX11_betray_j127 at h
  refine wp_ldc2 (pc := 127) C qX11_411 dX11_betray_127 ?_
  refine wp_lstore (pc := 130) C rfl [(4, .long (-1)), (0, .ref (gA G 0)), (3, .int x3)] dX11_betray_130 (Nat.le_of_ble_eq_true rfl) rfl ?_
  refine wp_iconst (v := 1) (pc := 132) C dX11_betray_132 (by decide) ?_
  refine wp_istore (pc := 133) C rfl [(6, .int 1), (4, .long (-1)), (0, .ref (gA G 0)), (3, .int x3)] dX11_betray_133 (Nat.le_of_ble_eq_true rfl) rfl ?_
  exact wp_sub C [2, 3, 1, 0] rfl (wX11_betray_l135 C _ _ _ _ _ h)
def fX11_betray_j120 (n : Nat) (k90 : St → Int32 → Int32 → Option (St × Int64)) (S : St) (x3 : Int32) (x4 : Int32) (y1 : Int32) (y2 : Int32) : Option (St × Int64) :=
  gd (ib y1 6) (
  bn (sI S 30 (Int32.toNatClampNeg y1) y2) (fun S2 : St =>
  bn (x4 + 1) (fun z3 : Int32 =>
  k90 S2 x3 z3)))
set_option maxRecDepth 100000 in
set_option maxHeartbeats 4000000 in
theorem wX11_betray_j120 (C : Cx G sdM cX11_betray 10 RX11 (some .long)) {n : Nat} {k90 : St → Int32 → Int32 → Option (St × Int64)} {S S' : St} {r : Int64} {x3 : Int32} {x4 : Int32} {y1 : Int32} {y2 : Int32} (hk90 : ∀ (S : St) (x3 : Int32) (x4 : Int32), k90 S x3 x4 = some (S', r) → Wp G sdM (rmOf 5 114) 10 (Qm G sdM (some (.long r)) S') S 90 [(0, .ref (gA G 0)), (3, .int x3), (4, .int x4)] []) (h : fX11_betray_j120 n k90 S x3 x4 y1 y2 = some (S', r)) : Wp G sdM (rmOf 5 114) 10 (Qm G sdM (some (.long r)) S') S 120 [(0, .ref (gA G 0)), (3, .int x3), (4, .int x4)] [.int y2, .int y1, .ref (gA G 30)] := by
  unfold fX11_betray_j120 at h
  obtain ⟨g1, h⟩ := gd_some h
  obtain ⟨S2, eS2, h⟩ := bn_some h
  refine wp_iast (pc := 120) C eS2 (Nat.le_of_ble_eq_true rfl) rfl g1 dX11_betray_120 ?_
  obtain ⟨z3, ez3, h⟩ := bn_some h
  refine wp_iinc (q := 2) (pc := 121) C (by decide) ez3 [(4, .int z3), (0, .ref (gA G 0)), (3, .int x3)] dX11_betray_121 rfl (Nat.le_of_ble_eq_true rfl) rfl ?_
  refine wp_goto (pc := 124) C 90 dX11_betray_124 (by decide) ?_
  exact wp_sub C [1, 2, 0] rfl (hk90 _ _ _ h)
def fX11_betray_l90 (n : Nat) : Nat → St → Int32 → Int32 → Option (St × Int64)
  | 0, _, _, _ => none
  | j + 1, S, x3, x4 =>
    if 6 ≤ x4 then
      fX11_betray_j127 n S x3
    else
      bd (fX11_lamps n S) (fun S1 r2 =>
      if x4 = (r2 - 1) then
        fX11_betray_j120 n (fX11_betray_l90 n j) S1 x3 x4 x4 10
      else
        fX11_betray_j120 n (fX11_betray_l90 n j) S1 x3 x4 x4 0)
set_option maxRecDepth 100000 in
set_option maxHeartbeats 4000000 in
theorem wX11_betray_l90 (C : Cx G sdM cX11_betray 10 RX11 (some .long)) {n : Nat} {S' : St} {r : Int64} : ∀ (j : Nat) (S : St) (x3 : Int32) (x4 : Int32), fX11_betray_l90 n j S x3 x4 = some (S', r) → Wp G sdM (rmOf 5 114) 10 (Qm G sdM (some (.long r)) S') S 90 [(0, .ref (gA G 0)), (3, .int x3), (4, .int x4)] [] := by
  intro j
  induction j with
  | zero =>
    intro S x3 x4 h
    exact nomatch (show (none : Option (St × Int64)) = some _ from h)
  | succ j ih =>
    intro S x3 x4 h
    rw [fX11_betray_l90] at h
    refine wp_iload (pc := 90) C 2 dX11_betray_90 rfl ?_
    refine wp_bipush (v := 6) (pc := 92) C dX11_betray_92 (by decide) ?_
    refine wp_icmp_ge (pc := 94) C 127 dX11_betray_94 (by decide) (fun q => ?_) (fun q => ?_)
    · have h := it_pos q h
      exact wp_sub C [0, 1] rfl (wX11_betray_j127 C h)
    · have h := it_neg q h
      refine wp_aload_n (pc := 97) C 0 dX11_betray_97 rfl rfl ?_
      refine wp_getS (v := 30) (pc := 98) C flX11_103 rfl rfl (Nat.le_of_ble_eq_true rfl) (Nat.le_of_ble_eq_true rfl) rfl dX11_betray_98 ?_
      refine wp_iload (pc := 101) C 2 dX11_betray_101 rfl ?_
      refine wp_iload (pc := 103) C 2 dX11_betray_103 rfl ?_
      refine wp_aload_n (pc := 105) C 0 dX11_betray_105 rfl rfl ?_
      obtain ⟨S1, r2, cS1, h⟩ := bd_some h
      refine wp_callVi (As := []) (st := [.int x4, .int x4, .ref (gA G 30)]) (pc := 106) C (CtX11_lamps cS1) mX11_lamps iX11_lamps kX11_365 (Nat.le_of_ble_eq_true rfl) rfl (by decide) rfl rfl rfl rfl (Nat.le_of_ble_eq_true rfl) ⟨Nat.le_of_ble_eq_true rfl, Nat.le_of_ble_eq_true rfl⟩ dX11_betray_106 ?_
      refine wp_iconst (v := 1) (pc := 109) C dX11_betray_109 (by decide) ?_
      refine wp_isub (pc := 110) C dX11_betray_110 ?_
      refine wp_icmp_ne (pc := 111) C 119 dX11_betray_111 (by decide) (fun q => ?_) (fun q => ?_)
      · have h := it_neg q h
        refine wp_iconst (v := 0) (pc := 119) C dX11_betray_119 (by decide) ?_
        exact (wX11_betray_j120 C ih h)
      · have h := it_pos q h
        refine wp_bipush (v := 10) (pc := 114) C dX11_betray_114 (by decide) ?_
        refine wp_goto (pc := 116) C 120 dX11_betray_116 (by decide) ?_
        exact (wX11_betray_j120 C ih h)
def fX11_betray_j87 (n : Nat) (S : St) (x3 : Int32) : Option (St × Int64) :=
  fX11_betray_l90 n n S x3 0
set_option maxRecDepth 100000 in
set_option maxHeartbeats 4000000 in
theorem wX11_betray_j87 (C : Cx G sdM cX11_betray 10 RX11 (some .long)) {n : Nat} {S S' : St} {r : Int64} {x3 : Int32} (h : fX11_betray_j87 n S x3 = some (S', r)) : Wp G sdM (rmOf 5 114) 10 (Qm G sdM (some (.long r)) S') S 87 [(0, .ref (gA G 0)), (3, .int x3)] [] := by
  unfold fX11_betray_j87 at h
  refine wp_iconst (v := 0) (pc := 87) C dX11_betray_87 (by decide) ?_
  refine wp_istore (pc := 88) C rfl [(4, .int 0), (0, .ref (gA G 0)), (3, .int x3)] dX11_betray_88 (Nat.le_of_ble_eq_true rfl) rfl ?_
  exact wp_sub C [1, 2, 0] rfl (wX11_betray_l90 C _ _ _ _ h)
def fX11_betray_j81 (n : Nat) (k23 : St → Int32 → Int32 → Option (St × Int64)) (S : St) (x3 : Int32) (x4 : Int32) : Option (St × Int64) :=
  bn (x4 + 1) (fun z1 : Int32 =>
  k23 S x3 z1)
set_option maxRecDepth 100000 in
set_option maxHeartbeats 4000000 in
theorem wX11_betray_j81 (C : Cx G sdM cX11_betray 10 RX11 (some .long)) {n : Nat} {k23 : St → Int32 → Int32 → Option (St × Int64)} {S S' : St} {r : Int64} {x3 : Int32} {x4 : Int32} (hk23 : ∀ (S : St) (x3 : Int32) (x4 : Int32), k23 S x3 x4 = some (S', r) → Wp G sdM (rmOf 5 114) 10 (Qm G sdM (some (.long r)) S') S 23 [(0, .ref (gA G 0)), (3, .int x3), (4, .int x4)] []) (h : fX11_betray_j81 n k23 S x3 x4 = some (S', r)) : Wp G sdM (rmOf 5 114) 10 (Qm G sdM (some (.long r)) S') S 81 [(0, .ref (gA G 0)), (3, .int x3), (4, .int x4)] [] := by
  unfold fX11_betray_j81 at h
  obtain ⟨z1, ez1, h⟩ := bn_some h
  refine wp_iinc (q := 2) (pc := 81) C (by decide) ez1 [(4, .int z1), (0, .ref (gA G 0)), (3, .int x3)] dX11_betray_81 rfl (Nat.le_of_ble_eq_true rfl) rfl ?_
  refine wp_goto (pc := 84) C 23 dX11_betray_84 (by decide) ?_
  exact wp_sub C [1, 2, 0] rfl (hk23 _ _ _ h)
def fX11_betray_l35 (n : Nat) (k23 : St → Int32 → Int32 → Option (St × Int64)) : Nat → St → Int32 → Int32 → Int32 → Option (St × Int64)
  | 0, _, _, _, _ => none
  | j + 1, S, x3, x4, x5 =>
    bd (fX11_eyes n S) (fun S1 r2 =>
    if r2 ≤ x5 then
      fX11_betray_j81 n k23 S1 x3 x4
    else
      bd (fX11_seenBy n S1 0 x4 x5) (fun S3 r4 =>
      bd (fX11_seenBy n S3 1 x4 x5) (fun S5 r6 =>
      gd (ib ((4 * x4) + x5) 24) (
      bn (sL S5 28 (Int32.toNatClampNeg ((4 * x4) + x5)) (r4 - r6)) (fun S8 : St =>
      bn (x5 + 1) (fun z9 : Int32 =>
      fX11_betray_l35 n k23 j S8 x3 x4 z9))))))
set_option maxRecDepth 100000 in
set_option maxHeartbeats 4000000 in
theorem wX11_betray_l35 (C : Cx G sdM cX11_betray 10 RX11 (some .long)) {n : Nat} {k23 : St → Int32 → Int32 → Option (St × Int64)} {S' : St} {r : Int64} (hk23 : ∀ (S : St) (x3 : Int32) (x4 : Int32), k23 S x3 x4 = some (S', r) → Wp G sdM (rmOf 5 114) 10 (Qm G sdM (some (.long r)) S') S 23 [(0, .ref (gA G 0)), (3, .int x3), (4, .int x4)] []) : ∀ (j : Nat) (S : St) (x3 : Int32) (x4 : Int32) (x5 : Int32), fX11_betray_l35 n k23 j S x3 x4 x5 = some (S', r) → Wp G sdM (rmOf 5 114) 10 (Qm G sdM (some (.long r)) S') S 35 [(0, .ref (gA G 0)), (3, .int x3), (4, .int x4), (5, .int x5)] [] := by
  intro j
  induction j with
  | zero =>
    intro S x3 x4 x5 h
    exact nomatch (show (none : Option (St × Int64)) = some _ from h)
  | succ j ih =>
    intro S x3 x4 x5 h
    rw [fX11_betray_l35] at h
    refine wp_iload (pc := 35) C 3 dX11_betray_35 rfl ?_
    refine wp_aload_n (pc := 37) C 0 dX11_betray_37 rfl rfl ?_
    obtain ⟨S1, r2, cS1, h⟩ := bd_some h
    refine wp_callVi (As := []) (st := [.int x5]) (pc := 38) C (CtX11_eyes cS1) mX11_eyes iX11_eyes kX11_368 (Nat.le_of_ble_eq_true rfl) rfl (by decide) rfl rfl rfl rfl (Nat.le_of_ble_eq_true rfl) ⟨Nat.le_of_ble_eq_true rfl, Nat.le_of_ble_eq_true rfl⟩ dX11_betray_38 ?_
    refine wp_icmp_ge (pc := 41) C 81 dX11_betray_41 (by decide) (fun q => ?_) (fun q => ?_)
    · have h := it_pos q h
      exact wp_sub C [0, 1, 2] rfl (wX11_betray_j81 C hk23 h)
    · have h := it_neg q h
      refine wp_aload_n (pc := 44) C 0 dX11_betray_44 rfl rfl ?_
      refine wp_getS (v := 28) (pc := 45) C flX11_97 rfl rfl (Nat.le_of_ble_eq_true rfl) (Nat.le_of_ble_eq_true rfl) rfl dX11_betray_45 ?_
      refine wp_iconst (v := 4) (pc := 48) C dX11_betray_48 (by decide) ?_
      refine wp_iload (pc := 49) C 2 dX11_betray_49 rfl ?_
      refine wp_imul (pc := 51) C dX11_betray_51 ?_
      refine wp_iload (pc := 52) C 3 dX11_betray_52 rfl ?_
      refine wp_iadd (pc := 54) C dX11_betray_54 ?_
      refine wp_aload_n (pc := 55) C 0 dX11_betray_55 rfl rfl ?_
      refine wp_iconst (v := 0) (pc := 56) C dX11_betray_56 (by decide) ?_
      refine wp_iload (pc := 57) C 2 dX11_betray_57 rfl ?_
      refine wp_iload (pc := 59) C 3 dX11_betray_59 rfl ?_
      obtain ⟨S3, r4, cS3, h⟩ := bd_some h
      refine wp_callVl (As := [.int 0, .int x4, .int x5]) (st := [.int ((4 * x4) + x5), .ref (gA G 28)]) (pc := 61) C (CtX11_seenBy cS3) mX11_seenBy iX11_seenBy kX11_389 (Nat.le_of_ble_eq_true rfl) rfl (by decide) rfl rfl rfl rfl (Nat.le_of_ble_eq_true rfl) ⟨Nat.le_of_ble_eq_true rfl, Nat.le_of_ble_eq_true rfl⟩ dX11_betray_61 ?_
      refine wp_aload_n (pc := 64) C 0 dX11_betray_64 rfl rfl ?_
      refine wp_iconst (v := 1) (pc := 65) C dX11_betray_65 (by decide) ?_
      refine wp_iload (pc := 66) C 2 dX11_betray_66 rfl ?_
      refine wp_iload (pc := 68) C 3 dX11_betray_68 rfl ?_
      obtain ⟨S5, r6, cS5, h⟩ := bd_some h
      refine wp_callVl (As := [.int 1, .int x4, .int x5]) (st := [.long r4, .int ((4 * x4) + x5), .ref (gA G 28)]) (pc := 70) C (CtX11_seenBy cS5) mX11_seenBy iX11_seenBy kX11_389 (Nat.le_of_ble_eq_true rfl) rfl (by decide) rfl rfl rfl rfl (Nat.le_of_ble_eq_true rfl) ⟨Nat.le_of_ble_eq_true rfl, Nat.le_of_ble_eq_true rfl⟩ dX11_betray_70 ?_
      refine wp_lsub (pc := 73) C dX11_betray_73 ?_
      obtain ⟨g7, h⟩ := gd_some h
      obtain ⟨S8, eS8, h⟩ := bn_some h
      refine wp_last (pc := 74) C eS8 (Nat.le_of_ble_eq_true rfl) rfl g7 dX11_betray_74 ?_
      obtain ⟨z9, ez9, h⟩ := bn_some h
      refine wp_iinc (q := 3) (pc := 75) C (by decide) ez9 [(5, .int z9), (0, .ref (gA G 0)), (3, .int x3), (4, .int x4)] dX11_betray_75 rfl (Nat.le_of_ble_eq_true rfl) rfl ?_
      refine wp_goto (pc := 78) C 35 dX11_betray_78 (by decide) ?_
      exact wp_sub C [1, 2, 3, 0] rfl (ih _ _ _ _ h)
def fX11_betray_l23 (n : Nat) : Nat → St → Int32 → Int32 → Option (St × Int64)
  | 0, _, _, _ => none
  | j + 1, S, x3, x4 =>
    bd (fX11_lamps n S) (fun S1 r2 =>
    if r2 ≤ x4 then
      fX11_betray_j87 n S1 x3
    else
      fX11_betray_l35 n (fX11_betray_l23 n j) n S1 x3 x4 0)
set_option maxRecDepth 100000 in
set_option maxHeartbeats 4000000 in
theorem wX11_betray_l23 (C : Cx G sdM cX11_betray 10 RX11 (some .long)) {n : Nat} {S' : St} {r : Int64} : ∀ (j : Nat) (S : St) (x3 : Int32) (x4 : Int32), fX11_betray_l23 n j S x3 x4 = some (S', r) → Wp G sdM (rmOf 5 114) 10 (Qm G sdM (some (.long r)) S') S 23 [(0, .ref (gA G 0)), (3, .int x3), (4, .int x4)] [] := by
  intro j
  induction j with
  | zero =>
    intro S x3 x4 h
    exact nomatch (show (none : Option (St × Int64)) = some _ from h)
  | succ j ih =>
    intro S x3 x4 h
    rw [fX11_betray_l23] at h
    refine wp_iload (pc := 23) C 2 dX11_betray_23 rfl ?_
    refine wp_aload_n (pc := 25) C 0 dX11_betray_25 rfl rfl ?_
    obtain ⟨S1, r2, cS1, h⟩ := bd_some h
    refine wp_callVi (As := []) (st := [.int x4]) (pc := 26) C (CtX11_lamps cS1) mX11_lamps iX11_lamps kX11_365 (Nat.le_of_ble_eq_true rfl) rfl (by decide) rfl rfl rfl rfl (Nat.le_of_ble_eq_true rfl) ⟨Nat.le_of_ble_eq_true rfl, Nat.le_of_ble_eq_true rfl⟩ dX11_betray_26 ?_
    refine wp_icmp_ge (pc := 29) C 87 dX11_betray_29 (by decide) (fun q => ?_) (fun q => ?_)
    · have h := it_pos q h
      exact wp_sub C [0, 1] rfl (wX11_betray_j87 C h)
    · have h := it_neg q h
      refine wp_iconst (v := 0) (pc := 32) C dX11_betray_32 (by decide) ?_
      refine wp_istore (pc := 33) C rfl [(5, .int 0), (0, .ref (gA G 0)), (3, .int x3), (4, .int x4)] dX11_betray_33 (Nat.le_of_ble_eq_true rfl) rfl ?_
      exact wp_sub C [1, 2, 3, 0] rfl (wX11_betray_l35 C ih _ _ _ _ _ h)
def fX11_betray (n : Nat) (S : St) (x1 : Int32) (x2 : Int32) (x3 : Int32) : Option (St × Int64) :=
  bd (fX11_lamps n S) (fun S1 r2 =>
  if r2 = 0 then
    some (S1, (-1))
  else
    bd (fX11_layTwo n S1 x1 x2) (fun S3 r4 =>
    if r4 = 0 then
      some (S3, (-1))
    else
      fX11_betray_l23 n n S3 x3 0))
set_option maxRecDepth 100000 in
set_option maxHeartbeats 4000000 in
theorem wX11_betray (C : Cx G sdM cX11_betray 10 RX11 (some .long)) {n : Nat} {S S' : St} {r : Int64} {x1 : Int32} {x2 : Int32} {x3 : Int32} (h : fX11_betray n S x1 x2 x3 = some (S', r)) : Wp G sdM (rmOf 5 114) 10 (Qm G sdM (some (.long r)) S') S 0 [(0, .ref (gA G 0)), (1, .int x1), (2, .int x2), (3, .int x3)] [] := by
  unfold fX11_betray at h
  refine wp_aload_n (pc := 0) C 0 dX11_betray_0 rfl rfl ?_
  obtain ⟨S1, r2, cS1, h⟩ := bd_some h
  refine wp_callVi (As := []) (st := []) (pc := 1) C (CtX11_lamps cS1) mX11_lamps iX11_lamps kX11_365 (Nat.le_of_ble_eq_true rfl) rfl (by decide) rfl rfl rfl rfl (Nat.le_of_ble_eq_true rfl) ⟨Nat.le_of_ble_eq_true rfl, Nat.le_of_ble_eq_true rfl⟩ dX11_betray_1 ?_
  refine wp_if_eq (pc := 4) C 16 dX11_betray_4 (by decide) (fun q => ?_) (fun q => ?_)
  · have h := it_pos q h
    refine wp_ldc2 (pc := 16) C qX11_411 dX11_betray_16 ?_
    exact rt_l C rfl h dX11_betray_19
  · have h := it_neg q h
    refine wp_aload_n (pc := 7) C 0 dX11_betray_7 rfl rfl ?_
    refine wp_iload_n (pc := 8) C 1 dX11_betray_8 rfl rfl ?_
    refine wp_iload_n (pc := 9) C 2 dX11_betray_9 rfl rfl ?_
    obtain ⟨S3, r4, cS3, h⟩ := bd_some h
    refine wp_callVi (As := [.int x1, .int x2]) (st := []) (pc := 10) C (CtX11_layTwo cS3) mX11_layTwo iX11_layTwo kX11_413 (Nat.le_of_ble_eq_true rfl) rfl (by decide) rfl rfl rfl rfl (Nat.le_of_ble_eq_true rfl) ⟨Nat.le_of_ble_eq_true rfl, Nat.le_of_ble_eq_true rfl⟩ dX11_betray_10 ?_
    refine wp_if_ne (pc := 13) C 20 dX11_betray_13 (by decide) (fun q => ?_) (fun q => ?_)
    · have h := it_neg q h
      refine wp_iconst (v := 0) (pc := 20) C dX11_betray_20 (by decide) ?_
      refine wp_istore (pc := 21) C rfl [(4, .int 0), (0, .ref (gA G 0)), (1, .int x1), (2, .int x2), (3, .int x3)] dX11_betray_21 (Nat.le_of_ble_eq_true rfl) rfl ?_
      exact wp_sub C [1, 4, 0] rfl (wX11_betray_l23 C _ _ _ _ h)
    · have h := it_pos q h
      refine wp_ldc2 (pc := 16) C qX11_411 dX11_betray_16 ?_
      exact rt_l C rfl h dX11_betray_19
theorem CtX11_betray {n : Nat} {S S' : St} {r : Int64} {x1 : Int32} {x2 : Int32} {x3 : Int32} (h : fX11_betray n S x1 x2 x3 = some (S', r)) : Ct l sdM cy ad D yX11_betray cX11_betray 10 (some .long) 5 114 [.ref (ad 0), .int x1, .int x2, .int x3] S (some (.long r)) S' :=
  Ct_of (own := RX11) mX11_betray rfl (Nat.le_of_ble_eq_true rfl) (fun G e1 e2 e3 e4 C => by subst e1 e2 e3 e4; exact wX11_betray C h)
def fX11_weight (n : Nat) (S : St) (x1 : Int32) : Option (St × Int32) :=
  if (S.1 0 63) = 0 then
    some (S, (-1))
  else
    bd (fX11_isLamp n S x1) (fun S1 r2 =>
    if r2 = 0 then
      some (S1, (-1))
    else
      gd (ib x1 6) (
      some (S1, S1.1 29 (Int32.toNatClampNeg x1))))
set_option maxRecDepth 100000 in
set_option maxHeartbeats 4000000 in
theorem wX11_weight (C : Cx G sdM cX11_weight 2 RX11 (some .int)) {n : Nat} {S S' : St} {r : Int32} {x1 : Int32} (h : fX11_weight n S x1 = some (S', r)) : Wp G sdM (rmOf 2 43) 2 (Qm G sdM (some (.int r)) S') S 0 [(0, .ref (gA G 0)), (1, .int x1)] [] := by
  unfold fX11_weight at h
  refine wp_aload_n (pc := 0) C 0 dX11_weight_0 rfl rfl ?_
  refine wp_getI (pc := 1) C flX11_351 rfl (Nat.le_of_ble_eq_true rfl) rfl dX11_weight_1 ?_
  refine wp_if_eq (pc := 4) C 24 dX11_weight_4 (by decide) (fun q => ?_) (fun q => ?_)
  · have h := it_pos q h
    refine wp_iconst (v := (-1)) (pc := 24) C dX11_weight_24 (by decide) ?_
    exact rt_i C rfl h dX11_weight_25
  · have h := it_neg q h
    refine wp_aload_n (pc := 7) C 0 dX11_weight_7 rfl rfl ?_
    refine wp_iload_n (pc := 8) C 1 dX11_weight_8 rfl rfl ?_
    obtain ⟨S1, r2, cS1, h⟩ := bd_some h
    refine wp_callVi (As := [.int x1]) (st := []) (pc := 9) C (CtX11_isLamp cS1) mX11_isLamp iX11_isLamp kX11_405 (Nat.le_of_ble_eq_true rfl) rfl (by decide) rfl rfl rfl rfl (Nat.le_of_ble_eq_true rfl) ⟨Nat.le_of_ble_eq_true rfl, Nat.le_of_ble_eq_true rfl⟩ dX11_weight_9 ?_
    refine wp_if_eq (pc := 12) C 24 dX11_weight_12 (by decide) (fun q => ?_) (fun q => ?_)
    · have h := it_pos q h
      refine wp_iconst (v := (-1)) (pc := 24) C dX11_weight_24 (by decide) ?_
      exact rt_i C rfl h dX11_weight_25
    · have h := it_neg q h
      refine wp_aload_n (pc := 15) C 0 dX11_weight_15 rfl rfl ?_
      refine wp_getS (v := 29) (pc := 16) C flX11_100 rfl rfl (Nat.le_of_ble_eq_true rfl) (Nat.le_of_ble_eq_true rfl) rfl dX11_weight_16 ?_
      refine wp_iload_n (pc := 19) C 1 dX11_weight_19 rfl rfl ?_
      obtain ⟨g3, h⟩ := gd_some h
      refine wp_iald (pc := 20) C (Nat.le_of_ble_eq_true rfl) rfl g3 dX11_weight_20 ?_
      refine wp_goto (pc := 21) C 25 dX11_weight_21 (by decide) ?_
      exact rt_i C rfl h dX11_weight_25
theorem CtX11_weight {n : Nat} {S S' : St} {r : Int32} {x1 : Int32} (h : fX11_weight n S x1 = some (S', r)) : Ct l sdM cy ad D yX11_weight cX11_weight 2 (some .int) 2 43 [.ref (ad 0), .int x1] S (some (.int r)) S' :=
  Ct_of (own := RX11) mX11_weight rfl (Nat.le_of_ble_eq_true rfl) (fun G e1 e2 e3 e4 C => by subst e1 e2 e3 e4; exact wX11_weight C h)
def fX11_lamp_j55 (n : Nat) (k24 : St → Int32 → Int32 → Int32 → Option (St × Int32)) (S : St) (x3 : Int32) (x4 : Int32) (x5 : Int32) : Option (St × Int32) :=
  bn (x5 + 1) (fun z1 : Int32 =>
  k24 S x3 x4 z1)
set_option maxRecDepth 100000 in
set_option maxHeartbeats 4000000 in
theorem wX11_lamp_j55 (C : Cx G sdM cX11_lamp 6 RX11 (some .int)) {n : Nat} {k24 : St → Int32 → Int32 → Int32 → Option (St × Int32)} {S S' : St} {r : Int32} {x3 : Int32} {x4 : Int32} {x5 : Int32} (hk24 : ∀ (S : St) (x3 : Int32) (x4 : Int32) (x5 : Int32), k24 S x3 x4 x5 = some (S', r) → Wp G sdM (rmOf 5 114) 6 (Qm G sdM (some (.int r)) S') S 24 [(0, .ref (gA G 0)), (3, .int x3), (4, .int x4), (5, .int x5)] []) (h : fX11_lamp_j55 n k24 S x3 x4 x5 = some (S', r)) : Wp G sdM (rmOf 5 114) 6 (Qm G sdM (some (.int r)) S') S 55 [(0, .ref (gA G 0)), (3, .int x3), (4, .int x4), (5, .int x5)] [] := by
  unfold fX11_lamp_j55 at h
  obtain ⟨z1, ez1, h⟩ := bn_some h
  refine wp_iinc (q := 3) (pc := 55) C (by decide) ez1 [(5, .int z1), (0, .ref (gA G 0)), (3, .int x3), (4, .int x4)] dX11_lamp_55 rfl (Nat.le_of_ble_eq_true rfl) rfl ?_
  refine wp_goto (pc := 58) C 24 dX11_lamp_58 (by decide) ?_
  exact wp_sub C [1, 2, 3, 0] rfl (hk24 _ _ _ _ h)
def fX11_lamp_l24 (n : Nat) : Nat → St → Int32 → Int32 → Int32 → Option (St × Int32)
  | 0, _, _, _, _ => none
  | j + 1, S, x3, x4, x5 =>
    bd (fX11_lamps n S) (fun S1 r2 =>
    if r2 ≤ x5 then
      some (S1, x4)
    else
      bd (fX11_apartBy n S1 x5 x3) (fun S3 r4 =>
      bd (fX11_apartBy n S3 x4 x3) (fun S5 r6 =>
      if (lg_cmp r4 r6) ≤ 0 then
        fX11_lamp_j55 n (fX11_lamp_l24 n j) S5 x3 x4 x5
      else
        fX11_lamp_j55 n (fX11_lamp_l24 n j) S5 x3 x5 x5)))
set_option maxRecDepth 100000 in
set_option maxHeartbeats 4000000 in
theorem wX11_lamp_l24 (C : Cx G sdM cX11_lamp 6 RX11 (some .int)) {n : Nat} {S' : St} {r : Int32} : ∀ (j : Nat) (S : St) (x3 : Int32) (x4 : Int32) (x5 : Int32), fX11_lamp_l24 n j S x3 x4 x5 = some (S', r) → Wp G sdM (rmOf 5 114) 6 (Qm G sdM (some (.int r)) S') S 24 [(0, .ref (gA G 0)), (3, .int x3), (4, .int x4), (5, .int x5)] [] := by
  intro j
  induction j with
  | zero =>
    intro S x3 x4 x5 h
    exact nomatch (show (none : Option (St × Int32)) = some _ from h)
  | succ j ih =>
    intro S x3 x4 x5 h
    rw [fX11_lamp_l24] at h
    refine wp_iload (pc := 24) C 3 dX11_lamp_24 rfl ?_
    refine wp_aload_n (pc := 26) C 0 dX11_lamp_26 rfl rfl ?_
    obtain ⟨S1, r2, cS1, h⟩ := bd_some h
    refine wp_callVi (As := []) (st := [.int x5]) (pc := 27) C (CtX11_lamps cS1) mX11_lamps iX11_lamps kX11_365 (Nat.le_of_ble_eq_true rfl) rfl (by decide) rfl rfl rfl rfl (Nat.le_of_ble_eq_true rfl) ⟨Nat.le_of_ble_eq_true rfl, Nat.le_of_ble_eq_true rfl⟩ dX11_lamp_27 ?_
    refine wp_icmp_ge (pc := 30) C 61 dX11_lamp_30 (by decide) (fun q => ?_) (fun q => ?_)
    · have h := it_pos q h
      refine wp_iload (pc := 61) C 2 dX11_lamp_61 rfl ?_
      exact rt_i C rfl h dX11_lamp_63
    · have h := it_neg q h
      refine wp_aload_n (pc := 33) C 0 dX11_lamp_33 rfl rfl ?_
      refine wp_iload (pc := 34) C 3 dX11_lamp_34 rfl ?_
      refine wp_iload_n (pc := 36) C 1 dX11_lamp_36 rfl rfl ?_
      obtain ⟨S3, r4, cS3, h⟩ := bd_some h
      refine wp_callVl (As := [.int x5, .int x3]) (st := []) (pc := 37) C (CtX11_apartBy cS3) mX11_apartBy iX11_apartBy kX11_392 (Nat.le_of_ble_eq_true rfl) rfl (by decide) rfl rfl rfl rfl (Nat.le_of_ble_eq_true rfl) ⟨Nat.le_of_ble_eq_true rfl, Nat.le_of_ble_eq_true rfl⟩ dX11_lamp_37 ?_
      refine wp_aload_n (pc := 40) C 0 dX11_lamp_40 rfl rfl ?_
      refine wp_iload (pc := 41) C 2 dX11_lamp_41 rfl ?_
      refine wp_iload_n (pc := 43) C 1 dX11_lamp_43 rfl rfl ?_
      obtain ⟨S5, r6, cS5, h⟩ := bd_some h
      refine wp_callVl (As := [.int x4, .int x3]) (st := [.long r4]) (pc := 44) C (CtX11_apartBy cS5) mX11_apartBy iX11_apartBy kX11_392 (Nat.le_of_ble_eq_true rfl) rfl (by decide) rfl rfl rfl rfl (Nat.le_of_ble_eq_true rfl) ⟨Nat.le_of_ble_eq_true rfl, Nat.le_of_ble_eq_true rfl⟩ dX11_lamp_44 ?_
      refine wp_lcmp (pc := 47) C dX11_lamp_47 ?_
      refine wp_if_le (pc := 48) C 55 dX11_lamp_48 (by decide) (fun q => ?_) (fun q => ?_)
      · have h := it_pos q h
        exact (wX11_lamp_j55 C ih h)
      · have h := it_neg q h
        refine wp_iload (pc := 51) C 3 dX11_lamp_51 rfl ?_
        refine wp_istore (pc := 53) C rfl [(4, .int x5), (0, .ref (gA G 0)), (3, .int x3), (5, .int x5)] dX11_lamp_53 (Nat.le_of_ble_eq_true rfl) rfl ?_
        exact wp_sub C [1, 2, 0, 3] rfl (wX11_lamp_j55 C ih h)
def fX11_lamp (n : Nat) (S : St) (x1 : Int32) (x2 : Int32) (x3 : Int32) : Option (St × Int32) :=
  bd (fX11_lamps n S) (fun S1 r2 =>
  if r2 = 0 then
    some (S1, (-1))
  else
    bd (fX11_layTwo n S1 x1 x2) (fun S3 r4 =>
    if r4 = 0 then
      some (S3, (-1))
    else
      fX11_lamp_l24 n n S3 x3 0 1))
set_option maxRecDepth 100000 in
set_option maxHeartbeats 4000000 in
theorem wX11_lamp (C : Cx G sdM cX11_lamp 6 RX11 (some .int)) {n : Nat} {S S' : St} {r : Int32} {x1 : Int32} {x2 : Int32} {x3 : Int32} (h : fX11_lamp n S x1 x2 x3 = some (S', r)) : Wp G sdM (rmOf 5 114) 6 (Qm G sdM (some (.int r)) S') S 0 [(0, .ref (gA G 0)), (1, .int x1), (2, .int x2), (3, .int x3)] [] := by
  unfold fX11_lamp at h
  refine wp_aload_n (pc := 0) C 0 dX11_lamp_0 rfl rfl ?_
  obtain ⟨S1, r2, cS1, h⟩ := bd_some h
  refine wp_callVi (As := []) (st := []) (pc := 1) C (CtX11_lamps cS1) mX11_lamps iX11_lamps kX11_365 (Nat.le_of_ble_eq_true rfl) rfl (by decide) rfl rfl rfl rfl (Nat.le_of_ble_eq_true rfl) ⟨Nat.le_of_ble_eq_true rfl, Nat.le_of_ble_eq_true rfl⟩ dX11_lamp_1 ?_
  refine wp_if_eq (pc := 4) C 16 dX11_lamp_4 (by decide) (fun q => ?_) (fun q => ?_)
  · have h := it_pos q h
    refine wp_iconst (v := (-1)) (pc := 16) C dX11_lamp_16 (by decide) ?_
    exact rt_i C rfl h dX11_lamp_17
  · have h := it_neg q h
    refine wp_aload_n (pc := 7) C 0 dX11_lamp_7 rfl rfl ?_
    refine wp_iload_n (pc := 8) C 1 dX11_lamp_8 rfl rfl ?_
    refine wp_iload_n (pc := 9) C 2 dX11_lamp_9 rfl rfl ?_
    obtain ⟨S3, r4, cS3, h⟩ := bd_some h
    refine wp_callVi (As := [.int x1, .int x2]) (st := []) (pc := 10) C (CtX11_layTwo cS3) mX11_layTwo iX11_layTwo kX11_413 (Nat.le_of_ble_eq_true rfl) rfl (by decide) rfl rfl rfl rfl (Nat.le_of_ble_eq_true rfl) ⟨Nat.le_of_ble_eq_true rfl, Nat.le_of_ble_eq_true rfl⟩ dX11_lamp_10 ?_
    refine wp_if_ne (pc := 13) C 18 dX11_lamp_13 (by decide) (fun q => ?_) (fun q => ?_)
    · have h := it_neg q h
      refine wp_iconst (v := 0) (pc := 18) C dX11_lamp_18 (by decide) ?_
      refine wp_istore (pc := 19) C rfl [(4, .int 0), (0, .ref (gA G 0)), (1, .int x1), (2, .int x2), (3, .int x3)] dX11_lamp_19 (Nat.le_of_ble_eq_true rfl) rfl ?_
      refine wp_iconst (v := 1) (pc := 21) C dX11_lamp_21 (by decide) ?_
      refine wp_istore (pc := 22) C rfl [(5, .int 1), (4, .int 0), (0, .ref (gA G 0)), (1, .int x1), (2, .int x2), (3, .int x3)] dX11_lamp_22 (Nat.le_of_ble_eq_true rfl) rfl ?_
      exact wp_sub C [2, 5, 1, 0] rfl (wX11_lamp_l24 C _ _ _ _ _ h)
    · have h := it_pos q h
      refine wp_iconst (v := (-1)) (pc := 16) C dX11_lamp_16 (by decide) ?_
      exact rt_i C rfl h dX11_lamp_17
theorem CtX11_lamp {n : Nat} {S S' : St} {r : Int32} {x1 : Int32} {x2 : Int32} {x3 : Int32} (h : fX11_lamp n S x1 x2 x3 = some (S', r)) : Ct l sdM cy ad D yX11_lamp cX11_lamp 6 (some .int) 5 114 [.ref (ad 0), .int x1, .int x2, .int x3] S (some (.int r)) S' :=
  Ct_of (own := RX11) mX11_lamp rfl (Nat.le_of_ble_eq_true rfl) (fun G e1 e2 e3 e4 C => by subst e1 e2 e3 e4; exact wX11_lamp C h)
def fX11_set (n : Nat) (S : St) (x1 : Int32) : Option (St × Int32) :=
  bd (fX11_isGround n S x1) (fun S1 r2 =>
  if r2 = 0 then
    some (S1, 0)
  else
    bd (fX11_setVat n S1 x1) (fun S3 r4 =>
    some (S3, 1)))
set_option maxRecDepth 100000 in
set_option maxHeartbeats 4000000 in
theorem wX11_set (C : Cx G sdM cX11_set 2 RX11 (some .boolean)) {n : Nat} {S S' : St} {r : Int32} {x1 : Int32} (h : fX11_set n S x1 = some (S', r)) : Wp G sdM (rmOf 2 43) 2 (Qm G sdM (some (.int r)) S') S 0 [(0, .ref (gA G 0)), (1, .int x1)] [] := by
  unfold fX11_set at h
  refine wp_aload_n (pc := 0) C 0 dX11_set_0 rfl rfl ?_
  refine wp_iload_n (pc := 1) C 1 dX11_set_1 rfl rfl ?_
  obtain ⟨S1, r2, cS1, h⟩ := bd_some h
  refine wp_callVi (As := [.int x1]) (st := []) (pc := 2) C (CtX11_isGround cS1) mX11_isGround iX11_isGround kX11_423 (Nat.le_of_ble_eq_true rfl) rfl (by decide) rfl rfl rfl rfl (Nat.le_of_ble_eq_true rfl) ⟨Nat.le_of_ble_eq_true rfl, Nat.le_of_ble_eq_true rfl⟩ dX11_set_2 ?_
  refine wp_if_ne (pc := 5) C 10 dX11_set_5 (by decide) (fun q => ?_) (fun q => ?_)
  · have h := it_neg q h
    refine wp_aload_n (pc := 10) C 0 dX11_set_10 rfl rfl ?_
    refine wp_iload_n (pc := 11) C 1 dX11_set_11 rfl rfl ?_
    obtain ⟨S3, r4, cS3, h⟩ := bd_some h
    refine wp_callVv (As := [.int x1]) (st := []) (pc := 12) C (CtX11_setVat cS3) mX11_setVat iX11_setVat kX11_336 (Nat.le_of_ble_eq_true rfl) rfl (by decide) rfl rfl rfl rfl (Nat.le_of_ble_eq_true rfl) ⟨Nat.le_of_ble_eq_true rfl, Nat.le_of_ble_eq_true rfl⟩ dX11_set_12 ?_
    refine wp_iconst (v := 1) (pc := 15) C dX11_set_15 (by decide) ?_
    exact rt_z C (Or.inr rfl) rfl h dX11_set_16
  · have h := it_pos q h
    refine wp_iconst (v := 0) (pc := 8) C dX11_set_8 (by decide) ?_
    exact rt_z C (Or.inl rfl) rfl h dX11_set_9
theorem CtX11_set {n : Nat} {S S' : St} {r : Int32} {x1 : Int32} (h : fX11_set n S x1 = some (S', r)) : Ct l sdM cy ad D yX11_set cX11_set 2 (some .boolean) 2 43 [.ref (ad 0), .int x1] S (some (.int r)) S' :=
  Ct_of (own := RX11) mX11_set rfl (Nat.le_of_ble_eq_true rfl) (fun G e1 e2 e3 e4 C => by subst e1 e2 e3 e4; exact wX11_set C h)
def fX11_inVat_l4 (n : Nat) : Nat → St → Int32 → Int32 → Option (St × Int32)
  | 0, _, _, _ => none
  | j + 1, S, x1, x2 =>
    if 8 ≤ x2 then
      some (S, x1)
    else
      gd (ib x2 8) (
      bn (x1 + (S.1 31 (Int32.toNatClampNeg x2))) (fun z2 : Int32 =>
      bn (x2 + 1) (fun z3 : Int32 =>
      fX11_inVat_l4 n j S z2 z3)))
set_option maxRecDepth 100000 in
set_option maxHeartbeats 4000000 in
theorem wX11_inVat_l4 (C : Cx G sdM cX11_inVat 3 RX11 (some .int)) {n : Nat} {S' : St} {r : Int32} : ∀ (j : Nat) (S : St) (x1 : Int32) (x2 : Int32), fX11_inVat_l4 n j S x1 x2 = some (S', r) → Wp G sdM (rmOf 0 0) 3 (Qm G sdM (some (.int r)) S') S 4 [(0, .ref (gA G 0)), (1, .int x1), (2, .int x2)] [] := by
  intro j
  induction j with
  | zero =>
    intro S x1 x2 h
    exact nomatch (show (none : Option (St × Int32)) = some _ from h)
  | succ j ih =>
    intro S x1 x2 h
    rw [fX11_inVat_l4] at h
    refine wp_iload_n (pc := 4) C 2 dX11_inVat_4 rfl rfl ?_
    refine wp_bipush (v := 8) (pc := 5) C dX11_inVat_5 (by decide) ?_
    refine wp_icmp_ge (pc := 7) C 25 dX11_inVat_7 (by decide) (fun q => ?_) (fun q => ?_)
    · have h := it_pos q h
      refine wp_iload_n (pc := 25) C 1 dX11_inVat_25 rfl rfl ?_
      exact rt_i C rfl h dX11_inVat_26
    · have h := it_neg q h
      refine wp_iload_n (pc := 10) C 1 dX11_inVat_10 rfl rfl ?_
      refine wp_aload_n (pc := 11) C 0 dX11_inVat_11 rfl rfl ?_
      refine wp_getS (v := 31) (pc := 12) C flX11_106 rfl rfl (Nat.le_of_ble_eq_true rfl) (Nat.le_of_ble_eq_true rfl) rfl dX11_inVat_12 ?_
      refine wp_iload_n (pc := 15) C 2 dX11_inVat_15 rfl rfl ?_
      obtain ⟨g1, h⟩ := gd_some h
      refine wp_iald (pc := 16) C (Nat.le_of_ble_eq_true rfl) rfl g1 dX11_inVat_16 ?_
      refine wp_iadd (pc := 17) C dX11_inVat_17 ?_
      obtain ⟨z2, ez2, h⟩ := bn_some h
      refine wp_istore_n (pc := 18) C ez2 [(1, .int z2), (0, .ref (gA G 0)), (2, .int x2)] dX11_inVat_18 rfl (Nat.le_of_ble_eq_true rfl) rfl ?_
      obtain ⟨z3, ez3, h⟩ := bn_some h
      refine wp_iinc (q := 2) (pc := 19) C (by decide) ez3 [(2, .int z3), (1, .int z2), (0, .ref (gA G 0))] dX11_inVat_19 rfl (Nat.le_of_ble_eq_true rfl) rfl ?_
      refine wp_goto (pc := 22) C 4 dX11_inVat_22 (by decide) ?_
      exact wp_sub C [2, 1, 0] rfl (ih _ _ _ h)
def fX11_inVat (n : Nat) (S : St) : Option (St × Int32) :=
  fX11_inVat_l4 n n S 0 0
set_option maxRecDepth 100000 in
set_option maxHeartbeats 4000000 in
theorem wX11_inVat (C : Cx G sdM cX11_inVat 3 RX11 (some .int)) {n : Nat} {S S' : St} {r : Int32} (h : fX11_inVat n S = some (S', r)) : Wp G sdM (rmOf 0 0) 3 (Qm G sdM (some (.int r)) S') S 0 [(0, .ref (gA G 0))] [] := by
  unfold fX11_inVat at h
  refine wp_iconst (v := 0) (pc := 0) C dX11_inVat_0 (by decide) ?_
  refine wp_istore_n (pc := 1) C rfl [(1, .int 0), (0, .ref (gA G 0))] dX11_inVat_1 rfl (Nat.le_of_ble_eq_true rfl) rfl ?_
  refine wp_iconst (v := 0) (pc := 2) C dX11_inVat_2 (by decide) ?_
  refine wp_istore_n (pc := 3) C rfl [(2, .int 0), (1, .int 0), (0, .ref (gA G 0))] dX11_inVat_3 rfl (Nat.le_of_ble_eq_true rfl) rfl ?_
  exact wp_sub C [2, 1, 0] rfl (wX11_inVat_l4 C _ _ _ _ h)
theorem CtX11_inVat {n : Nat} {S S' : St} {r : Int32} (h : fX11_inVat n S = some (S', r)) : Ct l sdM cy ad D yX11_inVat cX11_inVat 3 (some .int) 0 0 [.ref (ad 0)] S (some (.int r)) S' :=
  Ct_of (own := RX11) mX11_inVat rfl (Nat.le_of_ble_eq_true rfl) (fun G e1 e2 e3 e4 C => by subst e1 e2 e3 e4; exact wX11_inVat C h)
def fX11_draw (n : Nat) (S : St) (x1 : Int32) : Option (St × Int32) :=
  bn (sI S 0 67 (((S.1 0 67) * 1103515245) + 12345)) (fun S1 : St =>
  gd (¬ x1 = 0) (
  some (S1, ((((S1.1 0 67)).toUInt32 >>> ((16 : Int32).toUInt32 &&& Int32.toUInt32 31)).toInt32) - ((((S1.1 0 67)).toUInt32 >>> ((16 : Int32).toUInt32 &&& Int32.toUInt32 31)).toInt32) / x1 * x1)))
set_option maxRecDepth 100000 in
set_option maxHeartbeats 4000000 in
theorem wX11_draw (C : Cx G sdM cX11_draw 2 RX11 (some .int)) {n : Nat} {S S' : St} {r : Int32} {x1 : Int32} (h : fX11_draw n S x1 = some (S', r)) : Wp G sdM (rmOf 0 0) 2 (Qm G sdM (some (.int r)) S') S 0 [(0, .ref (gA G 0)), (1, .int x1)] [] := by
  unfold fX11_draw at h
  refine wp_aload_n (pc := 0) C 0 dX11_draw_0 rfl rfl ?_
  refine wp_aload_n (pc := 1) C 0 dX11_draw_1 rfl rfl ?_
  refine wp_getI (pc := 2) C flX11_109 rfl (Nat.le_of_ble_eq_true rfl) rfl dX11_draw_2 ?_
  refine wp_ldcw (pc := 5) C qX11_509 dX11_draw_5 ?_
  refine wp_imul (pc := 8) C dX11_draw_8 ?_
  refine wp_sipush (v := 12345) (pc := 9) C dX11_draw_9 (by decide) ?_
  refine wp_iadd (pc := 12) C dX11_draw_12 ?_
  obtain ⟨S1, eS1, h⟩ := bn_some h
  refine wp_putI (pc := 13) C eS1 flX11_109 fpX11_67 rfl (Nat.le_of_ble_eq_true rfl) rfl dX11_draw_13 ?_
  refine wp_aload_n (pc := 16) C 0 dX11_draw_16 rfl rfl ?_
  refine wp_getI (pc := 17) C flX11_109 rfl (Nat.le_of_ble_eq_true rfl) rfl dX11_draw_17 ?_
  refine wp_bipush (v := 16) (pc := 20) C dX11_draw_20 (by decide) ?_
  refine wp_iushr (pc := 22) C dX11_draw_22 ?_
  refine wp_iload_n (pc := 23) C 1 dX11_draw_23 rfl rfl ?_
  obtain ⟨g2, h⟩ := gd_some h
  refine wp_irem (pc := 24) C dX11_draw_24 g2 ?_
  exact rt_i C rfl h dX11_draw_25
theorem CtX11_draw {n : Nat} {S S' : St} {r : Int32} {x1 : Int32} (h : fX11_draw n S x1 = some (S', r)) : Ct l sdM cy ad D yX11_draw cX11_draw 2 (some .int) 0 0 [.ref (ad 0), .int x1] S (some (.int r)) S' :=
  Ct_of (own := RX11) mX11_draw rfl (Nat.le_of_ble_eq_true rfl) (fun G e1 e2 e3 e4 C => by subst e1 e2 e3 e4; exact wX11_draw C h)
def fX11_drop (n : Nat) (S : St) (x1 : Int32) (x2 : Int32) : Option (St × Int32) :=
  bd (fX11_isDye n S x1) (fun S1 r2 =>
  if r2 = 0 then
    some (S1, (-1))
  else
    bd (fX11_isIn n S1 x2 1 24) (fun S3 r4 =>
    if r4 = 0 then
      some (S3, (-1))
    else
      bd (fX11_inVat n S3) (fun S5 r6 =>
      if (S5.1 0 34) < (r6 + x2) then
        some (S5, (-1))
      else
        gd (ib 1 5) (
        if (S5.1 4 (Int32.toNatClampNeg 1)) = 0 then
          some (S5, (-1))
        else
          gd (ib x1 8) (
          gd (ib x1 8) (
          bn (sI S5 31 (Int32.toNatClampNeg x1) ((S5.1 31 (Int32.toNatClampNeg x1)) + x2)) (fun S10 : St =>
          if (S10.1 0 36) = 0 then
            some (S10, x2)
          else
            bd (fX11_draw n S10 10) (fun S11 r12 =>
            if (S11.1 0 36) ≤ r12 then
              some (S11, x2)
            else
              bd (fX11_inVat n S11) (fun S13 r14 =>
              if r14 = (S13.1 0 34) then
                some (S13, x2)
              else
                gd (ib x1 8) (
                gd (ib x1 8) (
                bn (sI S13 31 (Int32.toNatClampNeg x1) ((S13.1 31 (Int32.toNatClampNeg x1)) + 1)) (fun S17 : St =>
                some (S17, x2 + 1)))))))))))))
set_option maxRecDepth 100000 in
set_option maxHeartbeats 4000000 in
theorem wX11_drop (C : Cx G sdM cX11_drop 3 RX11 (some .int)) {n : Nat} {S S' : St} {r : Int32} {x1 : Int32} {x2 : Int32} (h : fX11_drop n S x1 x2 = some (S', r)) : Wp G sdM (rmOf 2 43) 3 (Qm G sdM (some (.int r)) S') S 0 [(0, .ref (gA G 0)), (1, .int x1), (2, .int x2)] [] := by
  unfold fX11_drop at h
  refine wp_aload_n (pc := 0) C 0 dX11_drop_0 rfl rfl ?_
  refine wp_iload_n (pc := 1) C 1 dX11_drop_1 rfl rfl ?_
  obtain ⟨S1, r2, cS1, h⟩ := bd_some h
  refine wp_callVi (As := [.int x1]) (st := []) (pc := 2) C (CtX11_isDye cS1) mX11_isDye iX11_isDye kX11_496 (Nat.le_of_ble_eq_true rfl) rfl (by decide) rfl rfl rfl rfl (Nat.le_of_ble_eq_true rfl) ⟨Nat.le_of_ble_eq_true rfl, Nat.le_of_ble_eq_true rfl⟩ dX11_drop_2 ?_
  refine wp_if_eq (pc := 5) C 40 dX11_drop_5 (by decide) (fun q => ?_) (fun q => ?_)
  · have h := it_pos q h
    refine wp_iconst (v := (-1)) (pc := 40) C dX11_drop_40 (by decide) ?_
    exact rt_i C rfl h dX11_drop_41
  · have h := it_neg q h
    refine wp_iload_n (pc := 8) C 2 dX11_drop_8 rfl rfl ?_
    refine wp_iconst (v := 1) (pc := 9) C dX11_drop_9 (by decide) ?_
    refine wp_bipush (v := 24) (pc := 10) C dX11_drop_10 (by decide) ?_
    obtain ⟨S3, r4, cS3, h⟩ := bd_some h
    refine wp_callSi (As := [.int x2, .int 1, .int 24]) (st := []) (pc := 12) C (CtX11_isIn cS3) mX11_isIn sX11_isIn kX11_361 rfl rfl (Nat.le_of_ble_eq_true rfl) ⟨Nat.le_of_ble_eq_true rfl, Nat.le_of_ble_eq_true rfl⟩ dX11_drop_12 ?_
    refine wp_if_eq (pc := 15) C 40 dX11_drop_15 (by decide) (fun q => ?_) (fun q => ?_)
    · have h := it_pos q h
      refine wp_iconst (v := (-1)) (pc := 40) C dX11_drop_40 (by decide) ?_
      exact rt_i C rfl h dX11_drop_41
    · have h := it_neg q h
      refine wp_aload_n (pc := 18) C 0 dX11_drop_18 rfl rfl ?_
      obtain ⟨S5, r6, cS5, h⟩ := bd_some h
      refine wp_callVi (As := []) (st := []) (pc := 19) C (CtX11_inVat cS5) mX11_inVat iX11_inVat kX11_510 (Nat.le_of_ble_eq_true rfl) rfl (by decide) rfl rfl rfl rfl (Nat.le_of_ble_eq_true rfl) ⟨Nat.le_of_ble_eq_true rfl, Nat.le_of_ble_eq_true rfl⟩ dX11_drop_19 ?_
      refine wp_iload_n (pc := 22) C 2 dX11_drop_22 rfl rfl ?_
      refine wp_iadd (pc := 23) C dX11_drop_23 ?_
      refine wp_aload_n (pc := 24) C 0 dX11_drop_24 rfl rfl ?_
      refine wp_getI (pc := 25) C flX11_161 rfl (Nat.le_of_ble_eq_true rfl) rfl dX11_drop_25 ?_
      refine wp_icmp_gt (pc := 28) C 40 dX11_drop_28 (by decide) (fun q => ?_) (fun q => ?_)
      · have h := it_pos q h
        refine wp_iconst (v := (-1)) (pc := 40) C dX11_drop_40 (by decide) ?_
        exact rt_i C rfl h dX11_drop_41
      · have h := it_neg q h
        refine wp_aload_n (pc := 31) C 0 dX11_drop_31 rfl rfl ?_
        refine wp_getS (v := 4) (pc := 32) C flX11_24 rfl rfl (Nat.le_of_ble_eq_true rfl) (Nat.le_of_ble_eq_true rfl) rfl dX11_drop_32 ?_
        refine wp_iconst (v := 1) (pc := 35) C dX11_drop_35 (by decide) ?_
        obtain ⟨g7, h⟩ := gd_some h
        refine wp_iald (pc := 36) C (Nat.le_of_ble_eq_true rfl) rfl g7 dX11_drop_36 ?_
        refine wp_if_ne (pc := 37) C 42 dX11_drop_37 (by decide) (fun q => ?_) (fun q => ?_)
        · have h := it_neg q h
          refine wp_aload_n (pc := 42) C 0 dX11_drop_42 rfl rfl ?_
          refine wp_getS (v := 31) (pc := 43) C flX11_106 rfl rfl (Nat.le_of_ble_eq_true rfl) (Nat.le_of_ble_eq_true rfl) rfl dX11_drop_43 ?_
          refine wp_iload_n (pc := 46) C 1 dX11_drop_46 rfl rfl ?_
          refine wp_dup2_11 (pc := 47) C dX11_drop_47 rfl rfl ?_
          obtain ⟨g8, h⟩ := gd_some h
          refine wp_iald (pc := 48) C (Nat.le_of_ble_eq_true rfl) rfl g8 dX11_drop_48 ?_
          refine wp_iload_n (pc := 49) C 2 dX11_drop_49 rfl rfl ?_
          refine wp_iadd (pc := 50) C dX11_drop_50 ?_
          obtain ⟨g9, h⟩ := gd_some h
          obtain ⟨S10, eS10, h⟩ := bn_some h
          refine wp_iast (pc := 51) C eS10 (Nat.le_of_ble_eq_true rfl) rfl g9 dX11_drop_51 ?_
          refine wp_aload_n (pc := 52) C 0 dX11_drop_52 rfl rfl ?_
          refine wp_getI (pc := 53) C flX11_330 rfl (Nat.le_of_ble_eq_true rfl) rfl dX11_drop_53 ?_
          refine wp_if_eq (pc := 56) C 83 dX11_drop_56 (by decide) (fun q => ?_) (fun q => ?_)
          · have h := it_pos q h
            refine wp_iload_n (pc := 83) C 2 dX11_drop_83 rfl rfl ?_
            exact rt_i C rfl h dX11_drop_84
          · have h := it_neg q h
            refine wp_aload_n (pc := 59) C 0 dX11_drop_59 rfl rfl ?_
            refine wp_bipush (v := 10) (pc := 60) C dX11_drop_60 (by decide) ?_
            obtain ⟨S11, r12, cS11, h⟩ := bd_some h
            refine wp_callVi (As := [.int 10]) (st := []) (pc := 62) C (CtX11_draw cS11) mX11_draw iX11_draw kX11_513 (Nat.le_of_ble_eq_true rfl) rfl (by decide) rfl rfl rfl rfl (Nat.le_of_ble_eq_true rfl) ⟨Nat.le_of_ble_eq_true rfl, Nat.le_of_ble_eq_true rfl⟩ dX11_drop_62 ?_
            refine wp_aload_n (pc := 65) C 0 dX11_drop_65 rfl rfl ?_
            refine wp_getI (pc := 66) C flX11_330 rfl (Nat.le_of_ble_eq_true rfl) rfl dX11_drop_66 ?_
            refine wp_icmp_ge (pc := 69) C 83 dX11_drop_69 (by decide) (fun q => ?_) (fun q => ?_)
            · have h := it_pos q h
              refine wp_iload_n (pc := 83) C 2 dX11_drop_83 rfl rfl ?_
              exact rt_i C rfl h dX11_drop_84
            · have h := it_neg q h
              refine wp_aload_n (pc := 72) C 0 dX11_drop_72 rfl rfl ?_
              obtain ⟨S13, r14, cS13, h⟩ := bd_some h
              refine wp_callVi (As := []) (st := []) (pc := 73) C (CtX11_inVat cS13) mX11_inVat iX11_inVat kX11_510 (Nat.le_of_ble_eq_true rfl) rfl (by decide) rfl rfl rfl rfl (Nat.le_of_ble_eq_true rfl) ⟨Nat.le_of_ble_eq_true rfl, Nat.le_of_ble_eq_true rfl⟩ dX11_drop_73 ?_
              refine wp_aload_n (pc := 76) C 0 dX11_drop_76 rfl rfl ?_
              refine wp_getI (pc := 77) C flX11_161 rfl (Nat.le_of_ble_eq_true rfl) rfl dX11_drop_77 ?_
              refine wp_icmp_ne (pc := 80) C 85 dX11_drop_80 (by decide) (fun q => ?_) (fun q => ?_)
              · have h := it_neg q h
                refine wp_aload_n (pc := 85) C 0 dX11_drop_85 rfl rfl ?_
                refine wp_getS (v := 31) (pc := 86) C flX11_106 rfl rfl (Nat.le_of_ble_eq_true rfl) (Nat.le_of_ble_eq_true rfl) rfl dX11_drop_86 ?_
                refine wp_iload_n (pc := 89) C 1 dX11_drop_89 rfl rfl ?_
                refine wp_dup2_11 (pc := 90) C dX11_drop_90 rfl rfl ?_
                obtain ⟨g15, h⟩ := gd_some h
                refine wp_iald (pc := 91) C (Nat.le_of_ble_eq_true rfl) rfl g15 dX11_drop_91 ?_
                refine wp_iconst (v := 1) (pc := 92) C dX11_drop_92 (by decide) ?_
                refine wp_iadd (pc := 93) C dX11_drop_93 ?_
                obtain ⟨g16, h⟩ := gd_some h
                obtain ⟨S17, eS17, h⟩ := bn_some h
                refine wp_iast (pc := 94) C eS17 (Nat.le_of_ble_eq_true rfl) rfl g16 dX11_drop_94 ?_
                refine wp_iload_n (pc := 95) C 2 dX11_drop_95 rfl rfl ?_
                refine wp_iconst (v := 1) (pc := 96) C dX11_drop_96 (by decide) ?_
                refine wp_iadd (pc := 97) C dX11_drop_97 ?_
                exact rt_i C rfl h dX11_drop_98
              · have h := it_pos q h
                refine wp_iload_n (pc := 83) C 2 dX11_drop_83 rfl rfl ?_
                exact rt_i C rfl h dX11_drop_84
        · have h := it_pos q h
          refine wp_iconst (v := (-1)) (pc := 40) C dX11_drop_40 (by decide) ?_
          exact rt_i C rfl h dX11_drop_41
theorem CtX11_drop {n : Nat} {S S' : St} {r : Int32} {x1 : Int32} {x2 : Int32} (h : fX11_drop n S x1 x2 = some (S', r)) : Ct l sdM cy ad D yX11_drop cX11_drop 3 (some .int) 2 43 [.ref (ad 0), .int x1, .int x2] S (some (.int r)) S' :=
  Ct_of (own := RX11) mX11_drop rfl (Nat.le_of_ble_eq_true rfl) (fun G e1 e2 e3 e4 C => by subst e1 e2 e3 e4; exact wX11_drop C h)
def fX11_days_j102 (n : Nat) (k17 : St → Int32 → Int32 → Int32 → Option (St × Int32)) (S : St) (x1 : Int32) (x2 : Int32) (x3 : Int32) : Option (St × Int32) :=
  bn (x3 + 1) (fun z1 : Int32 =>
  k17 S x1 x2 z1)
set_option maxRecDepth 100000 in
set_option maxHeartbeats 4000000 in
theorem wX11_days_j102 (C : Cx G sdM cX11_days 5 RX11 (some .int)) {n : Nat} {k17 : St → Int32 → Int32 → Int32 → Option (St × Int32)} {S S' : St} {r : Int32} {x1 : Int32} {x2 : Int32} {x3 : Int32} (hk17 : ∀ (S : St) (x1 : Int32) (x2 : Int32) (x3 : Int32), k17 S x1 x2 x3 = some (S', r) → Wp G sdM (rmOf 1 22) 5 (Qm G sdM (some (.int r)) S') S 17 [(0, .ref (gA G 0)), (1, .int x1), (2, .int x2), (3, .int x3)] []) (h : fX11_days_j102 n k17 S x1 x2 x3 = some (S', r)) : Wp G sdM (rmOf 1 22) 5 (Qm G sdM (some (.int r)) S') S 102 [(0, .ref (gA G 0)), (1, .int x1), (2, .int x2), (3, .int x3)] [] := by
  unfold fX11_days_j102 at h
  obtain ⟨z1, ez1, h⟩ := bn_some h
  refine wp_iinc (q := 3) (pc := 102) C (by decide) ez1 [(3, .int z1), (0, .ref (gA G 0)), (1, .int x1), (2, .int x2)] dX11_days_102 rfl (Nat.le_of_ble_eq_true rfl) rfl ?_
  refine wp_goto (pc := 105) C 17 dX11_days_105 (by decide) ?_
  exact wp_sub C [1, 2, 3, 0] rfl (hk17 _ _ _ _ h)
def fX11_days_j96 (n : Nat) (k17 : St → Int32 → Int32 → Int32 → Option (St × Int32)) (k35 : St → Int32 → Int32 → Int32 → Int32 → Option (St × Int32)) (S : St) (x1 : Int32) (x2 : Int32) (x3 : Int32) (x4 : Int32) : Option (St × Int32) :=
  bn (x4 + 1) (fun z1 : Int32 =>
  k35 S x1 x2 x3 z1)
set_option maxRecDepth 100000 in
set_option maxHeartbeats 4000000 in
theorem wX11_days_j96 (C : Cx G sdM cX11_days 5 RX11 (some .int)) {n : Nat} {k17 : St → Int32 → Int32 → Int32 → Option (St × Int32)} {k35 : St → Int32 → Int32 → Int32 → Int32 → Option (St × Int32)} {S S' : St} {r : Int32} {x1 : Int32} {x2 : Int32} {x3 : Int32} {x4 : Int32} (hk17 : ∀ (S : St) (x1 : Int32) (x2 : Int32) (x3 : Int32), k17 S x1 x2 x3 = some (S', r) → Wp G sdM (rmOf 1 22) 5 (Qm G sdM (some (.int r)) S') S 17 [(0, .ref (gA G 0)), (1, .int x1), (2, .int x2), (3, .int x3)] []) (hk35 : ∀ (S : St) (x1 : Int32) (x2 : Int32) (x3 : Int32) (x4 : Int32), k35 S x1 x2 x3 x4 = some (S', r) → Wp G sdM (rmOf 1 22) 5 (Qm G sdM (some (.int r)) S') S 35 [(0, .ref (gA G 0)), (1, .int x1), (2, .int x2), (3, .int x3), (4, .int x4)] []) (h : fX11_days_j96 n k17 k35 S x1 x2 x3 x4 = some (S', r)) : Wp G sdM (rmOf 1 22) 5 (Qm G sdM (some (.int r)) S') S 96 [(0, .ref (gA G 0)), (1, .int x1), (2, .int x2), (3, .int x3), (4, .int x4)] [] := by
  unfold fX11_days_j96 at h
  obtain ⟨z1, ez1, h⟩ := bn_some h
  refine wp_iinc (q := 4) (pc := 96) C (by decide) ez1 [(4, .int z1), (0, .ref (gA G 0)), (1, .int x1), (2, .int x2), (3, .int x3)] dX11_days_96 rfl (Nat.le_of_ble_eq_true rfl) rfl ?_
  refine wp_goto (pc := 99) C 35 dX11_days_99 (by decide) ?_
  exact wp_sub C [1, 2, 3, 4, 0] rfl (hk35 _ _ _ _ _ h)
def fX11_days_l35 (n : Nat) (k17 : St → Int32 → Int32 → Int32 → Option (St × Int32)) : Nat → St → Int32 → Int32 → Int32 → Int32 → Option (St × Int32)
  | 0, _, _, _, _, _ => none
  | j + 1, S, x1, x2, x3, x4 =>
    bd (fX11_dyes n S) (fun S1 r2 =>
    if r2 ≤ x4 then
      fX11_days_j102 n k17 S1 x1 x2 x3
    else
      gd (ib x4 8) (
      if (S1.1 18 (Int32.toNatClampNeg x4)) = 0 then
        fX11_days_j96 n k17 (fX11_days_l35 n k17 j) S1 x1 x2 x3 x4
      else
        gd (ib x4 8) (
        gd (¬ (S1.1 18 (Int32.toNatClampNeg x4)) = 0) (
        if ((S1.1 0 66) - (S1.1 0 66) / (S1.1 18 (Int32.toNatClampNeg x4)) * (S1.1 18 (Int32.toNatClampNeg x4))) = 0 then
          gd (ib x4 8) (
          if (S1.1 31 (Int32.toNatClampNeg x4)) = 0 then
            fX11_days_j96 n k17 (fX11_days_l35 n k17 j) S1 x1 x2 x3 x4
          else
            gd (ib x4 8) (
            gd (ib x4 8) (
            bn (sI S1 31 (Int32.toNatClampNeg x4) ((S1.1 31 (Int32.toNatClampNeg x4)) - 1)) (fun S9 : St =>
            bn (x2 + 1) (fun z10 : Int32 =>
            fX11_days_j96 n k17 (fX11_days_l35 n k17 j) S9 x1 z10 x3 x4)))))
        else
          fX11_days_j96 n k17 (fX11_days_l35 n k17 j) S1 x1 x2 x3 x4))))
set_option maxRecDepth 100000 in
set_option maxHeartbeats 4000000 in
theorem wX11_days_l35 (C : Cx G sdM cX11_days 5 RX11 (some .int)) {n : Nat} {k17 : St → Int32 → Int32 → Int32 → Option (St × Int32)} {S' : St} {r : Int32} (hk17 : ∀ (S : St) (x1 : Int32) (x2 : Int32) (x3 : Int32), k17 S x1 x2 x3 = some (S', r) → Wp G sdM (rmOf 1 22) 5 (Qm G sdM (some (.int r)) S') S 17 [(0, .ref (gA G 0)), (1, .int x1), (2, .int x2), (3, .int x3)] []) : ∀ (j : Nat) (S : St) (x1 : Int32) (x2 : Int32) (x3 : Int32) (x4 : Int32), fX11_days_l35 n k17 j S x1 x2 x3 x4 = some (S', r) → Wp G sdM (rmOf 1 22) 5 (Qm G sdM (some (.int r)) S') S 35 [(0, .ref (gA G 0)), (1, .int x1), (2, .int x2), (3, .int x3), (4, .int x4)] [] := by
  intro j
  induction j with
  | zero =>
    intro S x1 x2 x3 x4 h
    exact nomatch (show (none : Option (St × Int32)) = some _ from h)
  | succ j ih =>
    intro S x1 x2 x3 x4 h
    rw [fX11_days_l35] at h
    refine wp_iload (pc := 35) C 4 dX11_days_35 rfl ?_
    refine wp_aload_n (pc := 37) C 0 dX11_days_37 rfl rfl ?_
    obtain ⟨S1, r2, cS1, h⟩ := bd_some h
    refine wp_callVi (As := []) (st := [.int x4]) (pc := 38) C (CtX11_dyes cS1) mX11_dyes iX11_dyes kX11_357 (Nat.le_of_ble_eq_true rfl) rfl (by decide) rfl rfl rfl rfl (Nat.le_of_ble_eq_true rfl) ⟨Nat.le_of_ble_eq_true rfl, Nat.le_of_ble_eq_true rfl⟩ dX11_days_38 ?_
    refine wp_icmp_ge (pc := 41) C 102 dX11_days_41 (by decide) (fun q => ?_) (fun q => ?_)
    · have h := it_pos q h
      exact wp_sub C [0, 1, 2, 3] rfl (wX11_days_j102 C hk17 h)
    · have h := it_neg q h
      refine wp_aload_n (pc := 44) C 0 dX11_days_44 rfl rfl ?_
      refine wp_getS (v := 18) (pc := 45) C flX11_66 rfl rfl (Nat.le_of_ble_eq_true rfl) (Nat.le_of_ble_eq_true rfl) rfl dX11_days_45 ?_
      refine wp_iload (pc := 48) C 4 dX11_days_48 rfl ?_
      obtain ⟨g3, h⟩ := gd_some h
      refine wp_iald (pc := 50) C (Nat.le_of_ble_eq_true rfl) rfl g3 dX11_days_50 ?_
      refine wp_if_eq (pc := 51) C 96 dX11_days_51 (by decide) (fun q => ?_) (fun q => ?_)
      · have h := it_pos q h
        exact (wX11_days_j96 C hk17 ih h)
      · have h := it_neg q h
        refine wp_aload_n (pc := 54) C 0 dX11_days_54 rfl rfl ?_
        refine wp_getI (pc := 55) C flX11_506 rfl (Nat.le_of_ble_eq_true rfl) rfl dX11_days_55 ?_
        refine wp_aload_n (pc := 58) C 0 dX11_days_58 rfl rfl ?_
        refine wp_getS (v := 18) (pc := 59) C flX11_66 rfl rfl (Nat.le_of_ble_eq_true rfl) (Nat.le_of_ble_eq_true rfl) rfl dX11_days_59 ?_
        refine wp_iload (pc := 62) C 4 dX11_days_62 rfl ?_
        obtain ⟨g4, h⟩ := gd_some h
        refine wp_iald (pc := 64) C (Nat.le_of_ble_eq_true rfl) rfl g4 dX11_days_64 ?_
        obtain ⟨g5, h⟩ := gd_some h
        refine wp_irem (pc := 65) C dX11_days_65 g5 ?_
        refine wp_if_ne (pc := 66) C 96 dX11_days_66 (by decide) (fun q => ?_) (fun q => ?_)
        · have h := it_neg q h
          exact (wX11_days_j96 C hk17 ih h)
        · have h := it_pos q h
          refine wp_aload_n (pc := 69) C 0 dX11_days_69 rfl rfl ?_
          refine wp_getS (v := 31) (pc := 70) C flX11_106 rfl rfl (Nat.le_of_ble_eq_true rfl) (Nat.le_of_ble_eq_true rfl) rfl dX11_days_70 ?_
          refine wp_iload (pc := 73) C 4 dX11_days_73 rfl ?_
          obtain ⟨g6, h⟩ := gd_some h
          refine wp_iald (pc := 75) C (Nat.le_of_ble_eq_true rfl) rfl g6 dX11_days_75 ?_
          refine wp_if_ne (pc := 76) C 82 dX11_days_76 (by decide) (fun q => ?_) (fun q => ?_)
          · have h := it_neg q h
            refine wp_aload_n (pc := 82) C 0 dX11_days_82 rfl rfl ?_
            refine wp_getS (v := 31) (pc := 83) C flX11_106 rfl rfl (Nat.le_of_ble_eq_true rfl) (Nat.le_of_ble_eq_true rfl) rfl dX11_days_83 ?_
            refine wp_iload (pc := 86) C 4 dX11_days_86 rfl ?_
            refine wp_dup2_11 (pc := 88) C dX11_days_88 rfl rfl ?_
            obtain ⟨g7, h⟩ := gd_some h
            refine wp_iald (pc := 89) C (Nat.le_of_ble_eq_true rfl) rfl g7 dX11_days_89 ?_
            refine wp_iconst (v := 1) (pc := 90) C dX11_days_90 (by decide) ?_
            refine wp_isub (pc := 91) C dX11_days_91 ?_
            obtain ⟨g8, h⟩ := gd_some h
            obtain ⟨S9, eS9, h⟩ := bn_some h
            refine wp_iast (pc := 92) C eS9 (Nat.le_of_ble_eq_true rfl) rfl g8 dX11_days_92 ?_
            obtain ⟨z10, ez10, h⟩ := bn_some h
            refine wp_iinc (q := 2) (pc := 93) C (by decide) ez10 [(2, .int z10), (0, .ref (gA G 0)), (1, .int x1), (3, .int x3), (4, .int x4)] dX11_days_93 rfl (Nat.le_of_ble_eq_true rfl) rfl ?_
            exact wp_sub C [1, 2, 0, 3, 4] rfl (wX11_days_j96 C hk17 ih h)
          · have h := it_pos q h
            refine wp_goto (pc := 79) C 96 dX11_days_79 (by decide) ?_
            exact (wX11_days_j96 C hk17 ih h)
def fX11_days_l17 (n : Nat) : Nat → St → Int32 → Int32 → Int32 → Option (St × Int32)
  | 0, _, _, _, _ => none
  | j + 1, S, x1, x2, x3 =>
    if x1 ≤ x3 then
      some (S, x2)
    else
      bn (sI S 0 66 ((S.1 0 66) + 1)) (fun S1 : St =>
      fX11_days_l35 n (fX11_days_l17 n j) n S1 x1 x2 x3 0)
set_option maxRecDepth 100000 in
set_option maxHeartbeats 4000000 in
theorem wX11_days_l17 (C : Cx G sdM cX11_days 5 RX11 (some .int)) {n : Nat} {S' : St} {r : Int32} : ∀ (j : Nat) (S : St) (x1 : Int32) (x2 : Int32) (x3 : Int32), fX11_days_l17 n j S x1 x2 x3 = some (S', r) → Wp G sdM (rmOf 1 22) 5 (Qm G sdM (some (.int r)) S') S 17 [(0, .ref (gA G 0)), (1, .int x1), (2, .int x2), (3, .int x3)] [] := by
  intro j
  induction j with
  | zero =>
    intro S x1 x2 x3 h
    exact nomatch (show (none : Option (St × Int32)) = some _ from h)
  | succ j ih =>
    intro S x1 x2 x3 h
    rw [fX11_days_l17] at h
    refine wp_iload_n (pc := 17) C 3 dX11_days_17 rfl rfl ?_
    refine wp_iload_n (pc := 18) C 1 dX11_days_18 rfl rfl ?_
    refine wp_icmp_ge (pc := 19) C 108 dX11_days_19 (by decide) (fun q => ?_) (fun q => ?_)
    · have h := it_pos q h
      refine wp_iload_n (pc := 108) C 2 dX11_days_108 rfl rfl ?_
      exact rt_i C rfl h dX11_days_109
    · have h := it_neg q h
      refine wp_aload_n (pc := 22) C 0 dX11_days_22 rfl rfl ?_
      refine wp_dup (pc := 23) C dX11_days_23 rfl ?_
      refine wp_getI (pc := 24) C flX11_506 rfl (Nat.le_of_ble_eq_true rfl) rfl dX11_days_24 ?_
      refine wp_iconst (v := 1) (pc := 27) C dX11_days_27 (by decide) ?_
      refine wp_iadd (pc := 28) C dX11_days_28 ?_
      obtain ⟨S1, eS1, h⟩ := bn_some h
      refine wp_putI (pc := 29) C eS1 flX11_506 fpX11_66 rfl (Nat.le_of_ble_eq_true rfl) rfl dX11_days_29 ?_
      refine wp_iconst (v := 0) (pc := 32) C dX11_days_32 (by decide) ?_
      refine wp_istore (pc := 33) C rfl [(4, .int 0), (0, .ref (gA G 0)), (1, .int x1), (2, .int x2), (3, .int x3)] dX11_days_33 (Nat.le_of_ble_eq_true rfl) rfl ?_
      exact wp_sub C [1, 2, 3, 4, 0] rfl (wX11_days_l35 C ih _ _ _ _ _ _ h)
def fX11_days (n : Nat) (S : St) (x1 : Int32) : Option (St × Int32) :=
  bd (fX11_isIn n S x1 0 1000) (fun S1 r2 =>
  if r2 = 0 then
    some (S1, (-1))
  else
    fX11_days_l17 n n S1 x1 0 0)
set_option maxRecDepth 100000 in
set_option maxHeartbeats 4000000 in
theorem wX11_days (C : Cx G sdM cX11_days 5 RX11 (some .int)) {n : Nat} {S S' : St} {r : Int32} {x1 : Int32} (h : fX11_days n S x1 = some (S', r)) : Wp G sdM (rmOf 1 22) 5 (Qm G sdM (some (.int r)) S') S 0 [(0, .ref (gA G 0)), (1, .int x1)] [] := by
  unfold fX11_days at h
  refine wp_iload_n (pc := 0) C 1 dX11_days_0 rfl rfl ?_
  refine wp_iconst (v := 0) (pc := 1) C dX11_days_1 (by decide) ?_
  refine wp_sipush (v := 1000) (pc := 2) C dX11_days_2 (by decide) ?_
  obtain ⟨S1, r2, cS1, h⟩ := bd_some h
  refine wp_callSi (As := [.int x1, .int 0, .int 1000]) (st := []) (pc := 5) C (CtX11_isIn cS1) mX11_isIn sX11_isIn kX11_361 rfl rfl (Nat.le_of_ble_eq_true rfl) ⟨Nat.le_of_ble_eq_true rfl, Nat.le_of_ble_eq_true rfl⟩ dX11_days_5 ?_
  refine wp_if_ne (pc := 8) C 13 dX11_days_8 (by decide) (fun q => ?_) (fun q => ?_)
  · have h := it_neg q h
    refine wp_iconst (v := 0) (pc := 13) C dX11_days_13 (by decide) ?_
    refine wp_istore_n (pc := 14) C rfl [(2, .int 0), (0, .ref (gA G 0)), (1, .int x1)] dX11_days_14 rfl (Nat.le_of_ble_eq_true rfl) rfl ?_
    refine wp_iconst (v := 0) (pc := 15) C dX11_days_15 (by decide) ?_
    refine wp_istore_n (pc := 16) C rfl [(3, .int 0), (2, .int 0), (0, .ref (gA G 0)), (1, .int x1)] dX11_days_16 rfl (Nat.le_of_ble_eq_true rfl) rfl ?_
    exact wp_sub C [2, 3, 1, 0] rfl (wX11_days_l17 C _ _ _ _ _ h)
  · have h := it_pos q h
    refine wp_iconst (v := (-1)) (pc := 11) C dX11_days_11 (by decide) ?_
    exact rt_i C rfl h dX11_days_12
theorem CtX11_days {n : Nat} {S S' : St} {r : Int32} {x1 : Int32} (h : fX11_days n S x1 = some (S', r)) : Ct l sdM cy ad D yX11_days cX11_days 5 (some .int) 1 22 [.ref (ad 0), .int x1] S (some (.int r)) S' :=
  Ct_of (own := RX11) mX11_days rfl (Nat.le_of_ble_eq_true rfl) (fun G e1 e2 e3 e4 C => by subst e1 e2 e3 e4; exact wX11_days C h)
def fX11_vat (n : Nat) (S : St) (x1 : Int32) : Option (St × Int32) :=
  bd (fX11_isDye n S x1) (fun S1 r2 =>
  if r2 = 0 then
    some (S1, (-1))
  else
    gd (ib x1 8) (
    some (S1, S1.1 31 (Int32.toNatClampNeg x1))))
set_option maxRecDepth 100000 in
set_option maxHeartbeats 4000000 in
theorem wX11_vat (C : Cx G sdM cX11_vat 2 RX11 (some .int)) {n : Nat} {S S' : St} {r : Int32} {x1 : Int32} (h : fX11_vat n S x1 = some (S', r)) : Wp G sdM (rmOf 2 43) 2 (Qm G sdM (some (.int r)) S') S 0 [(0, .ref (gA G 0)), (1, .int x1)] [] := by
  unfold fX11_vat at h
  refine wp_aload_n (pc := 0) C 0 dX11_vat_0 rfl rfl ?_
  refine wp_iload_n (pc := 1) C 1 dX11_vat_1 rfl rfl ?_
  obtain ⟨S1, r2, cS1, h⟩ := bd_some h
  refine wp_callVi (As := [.int x1]) (st := []) (pc := 2) C (CtX11_isDye cS1) mX11_isDye iX11_isDye kX11_496 (Nat.le_of_ble_eq_true rfl) rfl (by decide) rfl rfl rfl rfl (Nat.le_of_ble_eq_true rfl) ⟨Nat.le_of_ble_eq_true rfl, Nat.le_of_ble_eq_true rfl⟩ dX11_vat_2 ?_
  refine wp_if_eq (pc := 5) C 17 dX11_vat_5 (by decide) (fun q => ?_) (fun q => ?_)
  · have h := it_pos q h
    refine wp_iconst (v := (-1)) (pc := 17) C dX11_vat_17 (by decide) ?_
    exact rt_i C rfl h dX11_vat_18
  · have h := it_neg q h
    refine wp_aload_n (pc := 8) C 0 dX11_vat_8 rfl rfl ?_
    refine wp_getS (v := 31) (pc := 9) C flX11_106 rfl rfl (Nat.le_of_ble_eq_true rfl) (Nat.le_of_ble_eq_true rfl) rfl dX11_vat_9 ?_
    refine wp_iload_n (pc := 12) C 1 dX11_vat_12 rfl rfl ?_
    obtain ⟨g3, h⟩ := gd_some h
    refine wp_iald (pc := 13) C (Nat.le_of_ble_eq_true rfl) rfl g3 dX11_vat_13 ?_
    refine wp_goto (pc := 14) C 18 dX11_vat_14 (by decide) ?_
    exact rt_i C rfl h dX11_vat_18
theorem CtX11_vat {n : Nat} {S S' : St} {r : Int32} {x1 : Int32} (h : fX11_vat n S x1 = some (S', r)) : Ct l sdM cy ad D yX11_vat cX11_vat 2 (some .int) 2 43 [.ref (ad 0), .int x1] S (some (.int r)) S' :=
  Ct_of (own := RX11) mX11_vat rfl (Nat.le_of_ble_eq_true rfl) (fun G e1 e2 e3 e4 C => by subst e1 e2 e3 e4; exact wX11_vat C h)
def fX11_old (n : Nat) (S : St) : Option (St × Int32) :=
  some (S, S.1 0 70)
set_option maxRecDepth 100000 in
set_option maxHeartbeats 4000000 in
theorem wX11_old (C : Cx G sdM cX11_old 1 RX11 (some .int)) {n : Nat} {S S' : St} {r : Int32} (h : fX11_old n S = some (S', r)) : Wp G sdM (rmOf 0 0) 1 (Qm G sdM (some (.int r)) S') S 0 [(0, .ref (gA G 0))] [] := by
  unfold fX11_old at h
  refine wp_aload_n (pc := 0) C 0 dX11_old_0 rfl rfl ?_
  refine wp_getI (pc := 1) C flX11_516 rfl (Nat.le_of_ble_eq_true rfl) rfl dX11_old_1 ?_
  exact rt_i C rfl h dX11_old_4
theorem CtX11_old {n : Nat} {S S' : St} {r : Int32} (h : fX11_old n S = some (S', r)) : Ct l sdM cy ad D yX11_old cX11_old 1 (some .int) 0 0 [.ref (ad 0)] S (some (.int r)) S' :=
  Ct_of (own := RX11) mX11_old rfl (Nat.le_of_ble_eq_true rfl) (fun G e1 e2 e3 e4 C => by subst e1 e2 e3 e4; exact wX11_old C h)
def fX11_oldOne (n : Nat) (S : St) (x1 : Int32) (x2 : Int32) : Option (St × Int32) :=
  bd (fX11_isIn n S x1 0 ((S.1 0 70) - 1)) (fun S1 r2 =>
  if r2 = 0 then
    some (S1, (-2))
  else
    if x2 = 0 then
      gd (ib x1 72) (
      some (S1, S1.1 32 (Int32.toNatClampNeg x1)))
    else
      if x2 = 1 then
        gd (ib x1 72) (
        some (S1, S1.1 33 (Int32.toNatClampNeg x1)))
      else
        some (S1, (-2)))
set_option maxRecDepth 100000 in
set_option maxHeartbeats 4000000 in
theorem wX11_oldOne (C : Cx G sdM cX11_oldOne 3 RX11 (some .int)) {n : Nat} {S S' : St} {r : Int32} {x1 : Int32} {x2 : Int32} (h : fX11_oldOne n S x1 x2 = some (S', r)) : Wp G sdM (rmOf 1 22) 3 (Qm G sdM (some (.int r)) S') S 0 [(0, .ref (gA G 0)), (1, .int x1), (2, .int x2)] [] := by
  unfold fX11_oldOne at h
  refine wp_iload_n (pc := 0) C 1 dX11_oldOne_0 rfl rfl ?_
  refine wp_iconst (v := 0) (pc := 1) C dX11_oldOne_1 (by decide) ?_
  refine wp_aload_n (pc := 2) C 0 dX11_oldOne_2 rfl rfl ?_
  refine wp_getI (pc := 3) C flX11_516 rfl (Nat.le_of_ble_eq_true rfl) rfl dX11_oldOne_3 ?_
  refine wp_iconst (v := 1) (pc := 6) C dX11_oldOne_6 (by decide) ?_
  refine wp_isub (pc := 7) C dX11_oldOne_7 ?_
  obtain ⟨S1, r2, cS1, h⟩ := bd_some h
  refine wp_callSi (As := [.int x1, .int 0, .int ((S.1 0 70) - 1)]) (st := []) (pc := 8) C (CtX11_isIn cS1) mX11_isIn sX11_isIn kX11_361 rfl rfl (Nat.le_of_ble_eq_true rfl) ⟨Nat.le_of_ble_eq_true rfl, Nat.le_of_ble_eq_true rfl⟩ dX11_oldOne_8 ?_
  refine wp_if_ne (pc := 11) C 19 dX11_oldOne_11 (by decide) (fun q => ?_) (fun q => ?_)
  · have h := it_neg q h
    refine wp_iload_n (pc := 19) C 2 dX11_oldOne_19 rfl rfl ?_
    refine wp_if_ne (pc := 20) C 32 dX11_oldOne_20 (by decide) (fun q => ?_) (fun q => ?_)
    · have h := it_neg q h
      refine wp_iload_n (pc := 32) C 2 dX11_oldOne_32 rfl rfl ?_
      refine wp_iconst (v := 1) (pc := 33) C dX11_oldOne_33 (by decide) ?_
      refine wp_icmp_ne (pc := 34) C 46 dX11_oldOne_34 (by decide) (fun q => ?_) (fun q => ?_)
      · have h := it_neg q h
        refine wp_bipush (v := (-2)) (pc := 46) C dX11_oldOne_46 (by decide) ?_
        exact rt_i C rfl h dX11_oldOne_48
      · have h := it_pos q h
        refine wp_aload_n (pc := 37) C 0 dX11_oldOne_37 rfl rfl ?_
        refine wp_getS (v := 33) (pc := 38) C flX11_115 rfl rfl (Nat.le_of_ble_eq_true rfl) (Nat.le_of_ble_eq_true rfl) rfl dX11_oldOne_38 ?_
        refine wp_iload_n (pc := 41) C 1 dX11_oldOne_41 rfl rfl ?_
        obtain ⟨g3, h⟩ := gd_some h
        refine wp_iald (pc := 42) C (Nat.le_of_ble_eq_true rfl) rfl g3 dX11_oldOne_42 ?_
        refine wp_goto (pc := 43) C 48 dX11_oldOne_43 (by decide) ?_
        exact rt_i C rfl h dX11_oldOne_48
    · have h := it_pos q h
      refine wp_aload_n (pc := 23) C 0 dX11_oldOne_23 rfl rfl ?_
      refine wp_getS (v := 32) (pc := 24) C flX11_112 rfl rfl (Nat.le_of_ble_eq_true rfl) (Nat.le_of_ble_eq_true rfl) rfl dX11_oldOne_24 ?_
      refine wp_iload_n (pc := 27) C 1 dX11_oldOne_27 rfl rfl ?_
      obtain ⟨g4, h⟩ := gd_some h
      refine wp_iald (pc := 28) C (Nat.le_of_ble_eq_true rfl) rfl g4 dX11_oldOne_28 ?_
      refine wp_goto (pc := 29) C 48 dX11_oldOne_29 (by decide) ?_
      exact rt_i C rfl h dX11_oldOne_48
  · have h := it_pos q h
    refine wp_bipush (v := (-2)) (pc := 14) C dX11_oldOne_14 (by decide) ?_
    refine wp_goto (pc := 16) C 48 dX11_oldOne_16 (by decide) ?_
    exact rt_i C rfl h dX11_oldOne_48
theorem CtX11_oldOne {n : Nat} {S S' : St} {r : Int32} {x1 : Int32} {x2 : Int32} (h : fX11_oldOne n S x1 x2 = some (S', r)) : Ct l sdM cy ad D yX11_oldOne cX11_oldOne 3 (some .int) 1 22 [.ref (ad 0), .int x1, .int x2] S (some (.int r)) S' :=
  Ct_of (own := RX11) mX11_oldOne rfl (Nat.le_of_ble_eq_true rfl) (fun G e1 e2 e3 e4 C => by subst e1 e2 e3 e4; exact wX11_oldOne C h)
def fX11_look (n : Nat) (S : St) (x1 : Int32) (x2 : Int32) (x3 : Int32) (x4 : Int32) : Option (St × Int32) :=
  bd (fX11_isLamp n S x1) (fun S1 r2 =>
  if r2 = 0 then
    some (S1, (-1))
  else
    bd (fX11_isEye n S1 x2) (fun S3 r4 =>
    if r4 = 0 then
      some (S3, (-1))
    else
      bd (fX11_isIn n S3 x3 0 9999999) (fun S5 r6 =>
      if r6 = 0 then
        some (S5, (-1))
      else
        bd (fX11_isIn n S5 x4 0 9999) (fun S7 r8 =>
        if r8 = 0 then
          some (S7, (-1))
        else
          if (S7.1 0 77) = 40 then
            some (S7, (-1))
          else
            gd (ib (S7.1 0 77) 40) (
            bn (sI S7 34 (Int32.toNatClampNeg (S7.1 0 77)) x1) (fun S10 : St =>
            gd (ib (S10.1 0 77) 40) (
            bn (sI S10 35 (Int32.toNatClampNeg (S10.1 0 77)) x2) (fun S12 : St =>
            gd (ib (S12.1 0 77) 40) (
            bn (sI S12 36 (Int32.toNatClampNeg (S12.1 0 77)) x3) (fun S14 : St =>
            gd (ib (S14.1 0 77) 40) (
            bn (sI S14 37 (Int32.toNatClampNeg (S14.1 0 77)) x4) (fun S16 : St =>
            gd (ib (S16.1 0 77) 40) (
            bn (sI S16 38 (Int32.toNatClampNeg (S16.1 0 77)) (S16.1 0 78)) (fun S18 : St =>
            gd (ib (S18.1 0 77) 40) (
            bn (sI S18 39 (Int32.toNatClampNeg (S18.1 0 77)) (-1)) (fun S20 : St =>
            bn (sI S20 0 77 ((S20.1 0 77) + 1)) (fun S21 : St =>
            some (S21, (S21.1 0 77) - 1))))))))))))))))))
set_option maxRecDepth 100000 in
set_option maxHeartbeats 4000000 in
theorem wX11_look (C : Cx G sdM cX11_look 5 RX11 (some .int)) {n : Nat} {S S' : St} {r : Int32} {x1 : Int32} {x2 : Int32} {x3 : Int32} {x4 : Int32} (h : fX11_look n S x1 x2 x3 x4 = some (S', r)) : Wp G sdM (rmOf 2 43) 5 (Qm G sdM (some (.int r)) S') S 0 [(0, .ref (gA G 0)), (1, .int x1), (2, .int x2), (3, .int x3), (4, .int x4)] [] := by
  unfold fX11_look at h
  refine wp_aload_n (pc := 0) C 0 dX11_look_0 rfl rfl ?_
  refine wp_iload_n (pc := 1) C 1 dX11_look_1 rfl rfl ?_
  obtain ⟨S1, r2, cS1, h⟩ := bd_some h
  refine wp_callVi (As := [.int x1]) (st := []) (pc := 2) C (CtX11_isLamp cS1) mX11_isLamp iX11_isLamp kX11_405 (Nat.le_of_ble_eq_true rfl) rfl (by decide) rfl rfl rfl rfl (Nat.le_of_ble_eq_true rfl) ⟨Nat.le_of_ble_eq_true rfl, Nat.le_of_ble_eq_true rfl⟩ dX11_look_2 ?_
  refine wp_if_eq (pc := 5) C 48 dX11_look_5 (by decide) (fun q => ?_) (fun q => ?_)
  · have h := it_pos q h
    refine wp_iconst (v := (-1)) (pc := 48) C dX11_look_48 (by decide) ?_
    exact rt_i C rfl h dX11_look_49
  · have h := it_neg q h
    refine wp_aload_n (pc := 8) C 0 dX11_look_8 rfl rfl ?_
    refine wp_iload_n (pc := 9) C 2 dX11_look_9 rfl rfl ?_
    obtain ⟨S3, r4, cS3, h⟩ := bd_some h
    refine wp_callVi (As := [.int x2]) (st := []) (pc := 10) C (CtX11_isEye cS3) mX11_isEye iX11_isEye kX11_408 (Nat.le_of_ble_eq_true rfl) rfl (by decide) rfl rfl rfl rfl (Nat.le_of_ble_eq_true rfl) ⟨Nat.le_of_ble_eq_true rfl, Nat.le_of_ble_eq_true rfl⟩ dX11_look_10 ?_
    refine wp_if_eq (pc := 13) C 48 dX11_look_13 (by decide) (fun q => ?_) (fun q => ?_)
    · have h := it_pos q h
      refine wp_iconst (v := (-1)) (pc := 48) C dX11_look_48 (by decide) ?_
      exact rt_i C rfl h dX11_look_49
    · have h := it_neg q h
      refine wp_iload_n (pc := 16) C 3 dX11_look_16 rfl rfl ?_
      refine wp_iconst (v := 0) (pc := 17) C dX11_look_17 (by decide) ?_
      refine wp_ldcw (pc := 18) C qX11_523 dX11_look_18 ?_
      obtain ⟨S5, r6, cS5, h⟩ := bd_some h
      refine wp_callSi (As := [.int x3, .int 0, .int 9999999]) (st := []) (pc := 21) C (CtX11_isIn cS5) mX11_isIn sX11_isIn kX11_361 rfl rfl (Nat.le_of_ble_eq_true rfl) ⟨Nat.le_of_ble_eq_true rfl, Nat.le_of_ble_eq_true rfl⟩ dX11_look_21 ?_
      refine wp_if_eq (pc := 24) C 48 dX11_look_24 (by decide) (fun q => ?_) (fun q => ?_)
      · have h := it_pos q h
        refine wp_iconst (v := (-1)) (pc := 48) C dX11_look_48 (by decide) ?_
        exact rt_i C rfl h dX11_look_49
      · have h := it_neg q h
        refine wp_iload (pc := 27) C 4 dX11_look_27 rfl ?_
        refine wp_iconst (v := 0) (pc := 29) C dX11_look_29 (by decide) ?_
        refine wp_sipush (v := 9999) (pc := 30) C dX11_look_30 (by decide) ?_
        obtain ⟨S7, r8, cS7, h⟩ := bd_some h
        refine wp_callSi (As := [.int x4, .int 0, .int 9999]) (st := []) (pc := 33) C (CtX11_isIn cS7) mX11_isIn sX11_isIn kX11_361 rfl rfl (Nat.le_of_ble_eq_true rfl) ⟨Nat.le_of_ble_eq_true rfl, Nat.le_of_ble_eq_true rfl⟩ dX11_look_33 ?_
        refine wp_if_eq (pc := 36) C 48 dX11_look_36 (by decide) (fun q => ?_) (fun q => ?_)
        · have h := it_pos q h
          refine wp_iconst (v := (-1)) (pc := 48) C dX11_look_48 (by decide) ?_
          exact rt_i C rfl h dX11_look_49
        · have h := it_neg q h
          refine wp_aload_n (pc := 39) C 0 dX11_look_39 rfl rfl ?_
          refine wp_getI (pc := 40) C flX11_339 rfl (Nat.le_of_ble_eq_true rfl) rfl dX11_look_40 ?_
          refine wp_bipush (v := 40) (pc := 43) C dX11_look_43 (by decide) ?_
          refine wp_icmp_ne (pc := 45) C 50 dX11_look_45 (by decide) (fun q => ?_) (fun q => ?_)
          · have h := it_neg q h
            refine wp_aload_n (pc := 50) C 0 dX11_look_50 rfl rfl ?_
            refine wp_getS (v := 34) (pc := 51) C flX11_118 rfl rfl (Nat.le_of_ble_eq_true rfl) (Nat.le_of_ble_eq_true rfl) rfl dX11_look_51 ?_
            refine wp_aload_n (pc := 54) C 0 dX11_look_54 rfl rfl ?_
            refine wp_getI (pc := 55) C flX11_339 rfl (Nat.le_of_ble_eq_true rfl) rfl dX11_look_55 ?_
            refine wp_iload_n (pc := 58) C 1 dX11_look_58 rfl rfl ?_
            obtain ⟨g9, h⟩ := gd_some h
            obtain ⟨S10, eS10, h⟩ := bn_some h
            refine wp_iast (pc := 59) C eS10 (Nat.le_of_ble_eq_true rfl) rfl g9 dX11_look_59 ?_
            refine wp_aload_n (pc := 60) C 0 dX11_look_60 rfl rfl ?_
            refine wp_getS (v := 35) (pc := 61) C flX11_121 rfl rfl (Nat.le_of_ble_eq_true rfl) (Nat.le_of_ble_eq_true rfl) rfl dX11_look_61 ?_
            refine wp_aload_n (pc := 64) C 0 dX11_look_64 rfl rfl ?_
            refine wp_getI (pc := 65) C flX11_339 rfl (Nat.le_of_ble_eq_true rfl) rfl dX11_look_65 ?_
            refine wp_iload_n (pc := 68) C 2 dX11_look_68 rfl rfl ?_
            obtain ⟨g11, h⟩ := gd_some h
            obtain ⟨S12, eS12, h⟩ := bn_some h
            refine wp_iast (pc := 69) C eS12 (Nat.le_of_ble_eq_true rfl) rfl g11 dX11_look_69 ?_
            refine wp_aload_n (pc := 70) C 0 dX11_look_70 rfl rfl ?_
            refine wp_getS (v := 36) (pc := 71) C flX11_124 rfl rfl (Nat.le_of_ble_eq_true rfl) (Nat.le_of_ble_eq_true rfl) rfl dX11_look_71 ?_
            refine wp_aload_n (pc := 74) C 0 dX11_look_74 rfl rfl ?_
            refine wp_getI (pc := 75) C flX11_339 rfl (Nat.le_of_ble_eq_true rfl) rfl dX11_look_75 ?_
            refine wp_iload_n (pc := 78) C 3 dX11_look_78 rfl rfl ?_
            obtain ⟨g13, h⟩ := gd_some h
            obtain ⟨S14, eS14, h⟩ := bn_some h
            refine wp_iast (pc := 79) C eS14 (Nat.le_of_ble_eq_true rfl) rfl g13 dX11_look_79 ?_
            refine wp_aload_n (pc := 80) C 0 dX11_look_80 rfl rfl ?_
            refine wp_getS (v := 37) (pc := 81) C flX11_127 rfl rfl (Nat.le_of_ble_eq_true rfl) (Nat.le_of_ble_eq_true rfl) rfl dX11_look_81 ?_
            refine wp_aload_n (pc := 84) C 0 dX11_look_84 rfl rfl ?_
            refine wp_getI (pc := 85) C flX11_339 rfl (Nat.le_of_ble_eq_true rfl) rfl dX11_look_85 ?_
            refine wp_iload (pc := 88) C 4 dX11_look_88 rfl ?_
            obtain ⟨g15, h⟩ := gd_some h
            obtain ⟨S16, eS16, h⟩ := bn_some h
            refine wp_iast (pc := 90) C eS16 (Nat.le_of_ble_eq_true rfl) rfl g15 dX11_look_90 ?_
            refine wp_aload_n (pc := 91) C 0 dX11_look_91 rfl rfl ?_
            refine wp_getS (v := 38) (pc := 92) C flX11_130 rfl rfl (Nat.le_of_ble_eq_true rfl) (Nat.le_of_ble_eq_true rfl) rfl dX11_look_92 ?_
            refine wp_aload_n (pc := 95) C 0 dX11_look_95 rfl rfl ?_
            refine wp_getI (pc := 96) C flX11_339 rfl (Nat.le_of_ble_eq_true rfl) rfl dX11_look_96 ?_
            refine wp_aload_n (pc := 99) C 0 dX11_look_99 rfl rfl ?_
            refine wp_getI (pc := 100) C flX11_524 rfl (Nat.le_of_ble_eq_true rfl) rfl dX11_look_100 ?_
            obtain ⟨g17, h⟩ := gd_some h
            obtain ⟨S18, eS18, h⟩ := bn_some h
            refine wp_iast (pc := 103) C eS18 (Nat.le_of_ble_eq_true rfl) rfl g17 dX11_look_103 ?_
            refine wp_aload_n (pc := 104) C 0 dX11_look_104 rfl rfl ?_
            refine wp_getS (v := 39) (pc := 105) C flX11_133 rfl rfl (Nat.le_of_ble_eq_true rfl) (Nat.le_of_ble_eq_true rfl) rfl dX11_look_105 ?_
            refine wp_aload_n (pc := 108) C 0 dX11_look_108 rfl rfl ?_
            refine wp_getI (pc := 109) C flX11_339 rfl (Nat.le_of_ble_eq_true rfl) rfl dX11_look_109 ?_
            refine wp_iconst (v := (-1)) (pc := 112) C dX11_look_112 (by decide) ?_
            obtain ⟨g19, h⟩ := gd_some h
            obtain ⟨S20, eS20, h⟩ := bn_some h
            refine wp_iast (pc := 113) C eS20 (Nat.le_of_ble_eq_true rfl) rfl g19 dX11_look_113 ?_
            refine wp_aload_n (pc := 114) C 0 dX11_look_114 rfl rfl ?_
            refine wp_dup (pc := 115) C dX11_look_115 rfl ?_
            refine wp_getI (pc := 116) C flX11_339 rfl (Nat.le_of_ble_eq_true rfl) rfl dX11_look_116 ?_
            refine wp_iconst (v := 1) (pc := 119) C dX11_look_119 (by decide) ?_
            refine wp_iadd (pc := 120) C dX11_look_120 ?_
            obtain ⟨S21, eS21, h⟩ := bn_some h
            refine wp_putI (pc := 121) C eS21 flX11_339 fpX11_77 rfl (Nat.le_of_ble_eq_true rfl) rfl dX11_look_121 ?_
            refine wp_aload_n (pc := 124) C 0 dX11_look_124 rfl rfl ?_
            refine wp_getI (pc := 125) C flX11_339 rfl (Nat.le_of_ble_eq_true rfl) rfl dX11_look_125 ?_
            refine wp_iconst (v := 1) (pc := 128) C dX11_look_128 (by decide) ?_
            refine wp_isub (pc := 129) C dX11_look_129 ?_
            exact rt_i C rfl h dX11_look_130
          · have h := it_pos q h
            refine wp_iconst (v := (-1)) (pc := 48) C dX11_look_48 (by decide) ?_
            exact rt_i C rfl h dX11_look_49
theorem CtX11_look {n : Nat} {S S' : St} {r : Int32} {x1 : Int32} {x2 : Int32} {x3 : Int32} {x4 : Int32} (h : fX11_look n S x1 x2 x3 x4 = some (S', r)) : Ct l sdM cy ad D yX11_look cX11_look 5 (some .int) 2 43 [.ref (ad 0), .int x1, .int x2, .int x3, .int x4] S (some (.int r)) S' :=
  Ct_of (own := RX11) mX11_look rfl (Nat.le_of_ble_eq_true rfl) (fun G e1 e2 e3 e4 C => by subst e1 e2 e3 e4; exact wX11_look C h)
def fX11_untell (n : Nat) (S : St) (x1 : Int32) : Option (St × Int32) :=
  bd (fX11_isIn n S x1 0 ((S.1 0 77) - 1)) (fun S1 r2 =>
  if r2 = 0 then
    some (S1, 0)
  else
    gd (ib x1 40) (
    if (S1.1 39 (Int32.toNatClampNeg x1)) < 0 then
      gd (ib x1 40) (
      bn (sI S1 39 (Int32.toNatClampNeg x1) (S1.1 0 78)) (fun S5 : St =>
      some (S5, 1)))
    else
      some (S1, 0)))
set_option maxRecDepth 100000 in
set_option maxHeartbeats 4000000 in
theorem wX11_untell (C : Cx G sdM cX11_untell 2 RX11 (some .boolean)) {n : Nat} {S S' : St} {r : Int32} {x1 : Int32} (h : fX11_untell n S x1 = some (S', r)) : Wp G sdM (rmOf 1 22) 2 (Qm G sdM (some (.int r)) S') S 0 [(0, .ref (gA G 0)), (1, .int x1)] [] := by
  unfold fX11_untell at h
  refine wp_iload_n (pc := 0) C 1 dX11_untell_0 rfl rfl ?_
  refine wp_iconst (v := 0) (pc := 1) C dX11_untell_1 (by decide) ?_
  refine wp_aload_n (pc := 2) C 0 dX11_untell_2 rfl rfl ?_
  refine wp_getI (pc := 3) C flX11_339 rfl (Nat.le_of_ble_eq_true rfl) rfl dX11_untell_3 ?_
  refine wp_iconst (v := 1) (pc := 6) C dX11_untell_6 (by decide) ?_
  refine wp_isub (pc := 7) C dX11_untell_7 ?_
  obtain ⟨S1, r2, cS1, h⟩ := bd_some h
  refine wp_callSi (As := [.int x1, .int 0, .int ((S.1 0 77) - 1)]) (st := []) (pc := 8) C (CtX11_isIn cS1) mX11_isIn sX11_isIn kX11_361 rfl rfl (Nat.le_of_ble_eq_true rfl) ⟨Nat.le_of_ble_eq_true rfl, Nat.le_of_ble_eq_true rfl⟩ dX11_untell_8 ?_
  refine wp_if_eq (pc := 11) C 23 dX11_untell_11 (by decide) (fun q => ?_) (fun q => ?_)
  · have h := it_pos q h
    refine wp_iconst (v := 0) (pc := 23) C dX11_untell_23 (by decide) ?_
    exact rt_z C (Or.inl rfl) rfl h dX11_untell_24
  · have h := it_neg q h
    refine wp_aload_n (pc := 14) C 0 dX11_untell_14 rfl rfl ?_
    refine wp_getS (v := 39) (pc := 15) C flX11_133 rfl rfl (Nat.le_of_ble_eq_true rfl) (Nat.le_of_ble_eq_true rfl) rfl dX11_untell_15 ?_
    refine wp_iload_n (pc := 18) C 1 dX11_untell_18 rfl rfl ?_
    obtain ⟨g3, h⟩ := gd_some h
    refine wp_iald (pc := 19) C (Nat.le_of_ble_eq_true rfl) rfl g3 dX11_untell_19 ?_
    refine wp_if_lt (pc := 20) C 25 dX11_untell_20 (by decide) (fun q => ?_) (fun q => ?_)
    · have h := it_pos q h
      refine wp_aload_n (pc := 25) C 0 dX11_untell_25 rfl rfl ?_
      refine wp_getS (v := 39) (pc := 26) C flX11_133 rfl rfl (Nat.le_of_ble_eq_true rfl) (Nat.le_of_ble_eq_true rfl) rfl dX11_untell_26 ?_
      refine wp_iload_n (pc := 29) C 1 dX11_untell_29 rfl rfl ?_
      refine wp_aload_n (pc := 30) C 0 dX11_untell_30 rfl rfl ?_
      refine wp_getI (pc := 31) C flX11_524 rfl (Nat.le_of_ble_eq_true rfl) rfl dX11_untell_31 ?_
      obtain ⟨g4, h⟩ := gd_some h
      obtain ⟨S5, eS5, h⟩ := bn_some h
      refine wp_iast (pc := 34) C eS5 (Nat.le_of_ble_eq_true rfl) rfl g4 dX11_untell_34 ?_
      refine wp_iconst (v := 1) (pc := 35) C dX11_untell_35 (by decide) ?_
      exact rt_z C (Or.inr rfl) rfl h dX11_untell_36
    · have h := it_neg q h
      refine wp_iconst (v := 0) (pc := 23) C dX11_untell_23 (by decide) ?_
      exact rt_z C (Or.inl rfl) rfl h dX11_untell_24
theorem CtX11_untell {n : Nat} {S S' : St} {r : Int32} {x1 : Int32} (h : fX11_untell n S x1 = some (S', r)) : Ct l sdM cy ad D yX11_untell cX11_untell 2 (some .boolean) 1 22 [.ref (ad 0), .int x1] S (some (.int r)) S' :=
  Ct_of (own := RX11) mX11_untell rfl (Nat.le_of_ble_eq_true rfl) (fun G e1 e2 e3 e4 C => by subst e1 e2 e3 e4; exact wX11_untell C h)
def fX11_later (n : Nat) (S : St) (x1 : Int32) : Option (St × Int32) :=
  if x1 < 0 then
    some (S, (-1))
  else
    if 1000 < x1 then
      some (S, (-1))
    else
      if ((S.1 0 78) + x1) ≤ 100000 then
        bn (sI S 0 78 ((S.1 0 78) + x1)) (fun S1 : St =>
        some (S1, S1.1 0 78))
      else
        some (S, (-1))
set_option maxRecDepth 100000 in
set_option maxHeartbeats 4000000 in
theorem wX11_later (C : Cx G sdM cX11_later 2 RX11 (some .int)) {n : Nat} {S S' : St} {r : Int32} {x1 : Int32} (h : fX11_later n S x1 = some (S', r)) : Wp G sdM (rmOf 0 0) 2 (Qm G sdM (some (.int r)) S') S 0 [(0, .ref (gA G 0)), (1, .int x1)] [] := by
  unfold fX11_later at h
  refine wp_iload_n (pc := 0) C 1 dX11_later_0 rfl rfl ?_
  refine wp_if_lt (pc := 1) C 23 dX11_later_1 (by decide) (fun q => ?_) (fun q => ?_)
  · have h := it_pos q h
    refine wp_iconst (v := (-1)) (pc := 23) C dX11_later_23 (by decide) ?_
    exact rt_i C rfl h dX11_later_24
  · have h := it_neg q h
    refine wp_iload_n (pc := 4) C 1 dX11_later_4 rfl rfl ?_
    refine wp_sipush (v := 1000) (pc := 5) C dX11_later_5 (by decide) ?_
    refine wp_icmp_gt (pc := 8) C 23 dX11_later_8 (by decide) (fun q => ?_) (fun q => ?_)
    · have h := it_pos q h
      refine wp_iconst (v := (-1)) (pc := 23) C dX11_later_23 (by decide) ?_
      exact rt_i C rfl h dX11_later_24
    · have h := it_neg q h
      refine wp_aload_n (pc := 11) C 0 dX11_later_11 rfl rfl ?_
      refine wp_getI (pc := 12) C flX11_524 rfl (Nat.le_of_ble_eq_true rfl) rfl dX11_later_12 ?_
      refine wp_iload_n (pc := 15) C 1 dX11_later_15 rfl rfl ?_
      refine wp_iadd (pc := 16) C dX11_later_16 ?_
      refine wp_ldcw (pc := 17) C qX11_459 dX11_later_17 ?_
      refine wp_icmp_le (pc := 20) C 25 dX11_later_20 (by decide) (fun q => ?_) (fun q => ?_)
      · have h := it_pos q h
        refine wp_aload_n (pc := 25) C 0 dX11_later_25 rfl rfl ?_
        refine wp_dup (pc := 26) C dX11_later_26 rfl ?_
        refine wp_getI (pc := 27) C flX11_524 rfl (Nat.le_of_ble_eq_true rfl) rfl dX11_later_27 ?_
        refine wp_iload_n (pc := 30) C 1 dX11_later_30 rfl rfl ?_
        refine wp_iadd (pc := 31) C dX11_later_31 ?_
        obtain ⟨S1, eS1, h⟩ := bn_some h
        refine wp_putI (pc := 32) C eS1 flX11_524 fpX11_78 rfl (Nat.le_of_ble_eq_true rfl) rfl dX11_later_32 ?_
        refine wp_aload_n (pc := 35) C 0 dX11_later_35 rfl rfl ?_
        refine wp_getI (pc := 36) C flX11_524 rfl (Nat.le_of_ble_eq_true rfl) rfl dX11_later_36 ?_
        exact rt_i C rfl h dX11_later_39
      · have h := it_neg q h
        refine wp_iconst (v := (-1)) (pc := 23) C dX11_later_23 (by decide) ?_
        exact rt_i C rfl h dX11_later_24
theorem CtX11_later {n : Nat} {S S' : St} {r : Int32} {x1 : Int32} (h : fX11_later n S x1 = some (S', r)) : Ct l sdM cy ad D yX11_later cX11_later 2 (some .int) 0 0 [.ref (ad 0), .int x1] S (some (.int r)) S' :=
  Ct_of (own := RX11) mX11_later rfl (Nat.le_of_ble_eq_true rfl) (fun G e1 e2 e3 e4 C => by subst e1 e2 e3 e4; exact wX11_later C h)
def fX11_counts_j29 (n : Nat) (S : St) : Option (St × Int32) :=
  some (S, 1)
set_option maxRecDepth 100000 in
set_option maxHeartbeats 4000000 in
theorem wX11_counts_j29 (C : Cx G sdM cX11_counts 3 RX11 (some .boolean)) {n : Nat} {S S' : St} {r : Int32} (h : fX11_counts_j29 n S = some (S', r)) : Wp G sdM (rmOf 0 0) 3 (Qm G sdM (some (.int r)) S') S 29 [] [] := by
  unfold fX11_counts_j29 at h
  refine wp_iconst (v := 1) (pc := 29) C dX11_counts_29 (by decide) ?_
  refine wp_goto (pc := 30) C 34 dX11_counts_30 (by decide) ?_
  exact rt_z C (Or.inr rfl) rfl h dX11_counts_34
def fX11_counts (n : Nat) (S : St) (x1 : Int32) (x2 : Int32) : Option (St × Int32) :=
  gd (ib x1 40) (
  if x2 < (S.1 38 (Int32.toNatClampNeg x1)) then
    some (S, 0)
  else
    gd (ib x1 40) (
    if (S.1 39 (Int32.toNatClampNeg x1)) < 0 then
      fX11_counts_j29 n S
    else
      gd (ib x1 40) (
      if (S.1 39 (Int32.toNatClampNeg x1)) ≤ x2 then
        some (S, 0)
      else
        fX11_counts_j29 n S)))
set_option maxRecDepth 100000 in
set_option maxHeartbeats 4000000 in
theorem wX11_counts (C : Cx G sdM cX11_counts 3 RX11 (some .boolean)) {n : Nat} {S S' : St} {r : Int32} {x1 : Int32} {x2 : Int32} (h : fX11_counts n S x1 x2 = some (S', r)) : Wp G sdM (rmOf 0 0) 3 (Qm G sdM (some (.int r)) S') S 0 [(0, .ref (gA G 0)), (1, .int x1), (2, .int x2)] [] := by
  unfold fX11_counts at h
  refine wp_aload_n (pc := 0) C 0 dX11_counts_0 rfl rfl ?_
  refine wp_getS (v := 38) (pc := 1) C flX11_130 rfl rfl (Nat.le_of_ble_eq_true rfl) (Nat.le_of_ble_eq_true rfl) rfl dX11_counts_1 ?_
  refine wp_iload_n (pc := 4) C 1 dX11_counts_4 rfl rfl ?_
  obtain ⟨g1, h⟩ := gd_some h
  refine wp_iald (pc := 5) C (Nat.le_of_ble_eq_true rfl) rfl g1 dX11_counts_5 ?_
  refine wp_iload_n (pc := 6) C 2 dX11_counts_6 rfl rfl ?_
  refine wp_icmp_gt (pc := 7) C 33 dX11_counts_7 (by decide) (fun q => ?_) (fun q => ?_)
  · have h := it_pos q h
    refine wp_iconst (v := 0) (pc := 33) C dX11_counts_33 (by decide) ?_
    exact rt_z C (Or.inl rfl) rfl h dX11_counts_34
  · have h := it_neg q h
    refine wp_aload_n (pc := 10) C 0 dX11_counts_10 rfl rfl ?_
    refine wp_getS (v := 39) (pc := 11) C flX11_133 rfl rfl (Nat.le_of_ble_eq_true rfl) (Nat.le_of_ble_eq_true rfl) rfl dX11_counts_11 ?_
    refine wp_iload_n (pc := 14) C 1 dX11_counts_14 rfl rfl ?_
    obtain ⟨g2, h⟩ := gd_some h
    refine wp_iald (pc := 15) C (Nat.le_of_ble_eq_true rfl) rfl g2 dX11_counts_15 ?_
    refine wp_if_lt (pc := 16) C 29 dX11_counts_16 (by decide) (fun q => ?_) (fun q => ?_)
    · have h := it_pos q h
      exact wp_sub C [] rfl (wX11_counts_j29 C h)
    · have h := it_neg q h
      refine wp_aload_n (pc := 19) C 0 dX11_counts_19 rfl rfl ?_
      refine wp_getS (v := 39) (pc := 20) C flX11_133 rfl rfl (Nat.le_of_ble_eq_true rfl) (Nat.le_of_ble_eq_true rfl) rfl dX11_counts_20 ?_
      refine wp_iload_n (pc := 23) C 1 dX11_counts_23 rfl rfl ?_
      obtain ⟨g3, h⟩ := gd_some h
      refine wp_iald (pc := 24) C (Nat.le_of_ble_eq_true rfl) rfl g3 dX11_counts_24 ?_
      refine wp_iload_n (pc := 25) C 2 dX11_counts_25 rfl rfl ?_
      refine wp_icmp_le (pc := 26) C 33 dX11_counts_26 (by decide) (fun q => ?_) (fun q => ?_)
      · have h := it_pos q h
        refine wp_iconst (v := 0) (pc := 33) C dX11_counts_33 (by decide) ?_
        exact rt_z C (Or.inl rfl) rfl h dX11_counts_34
      · have h := it_neg q h
        exact wp_sub C [] rfl (wX11_counts_j29 C h)
theorem CtX11_counts {n : Nat} {S S' : St} {r : Int32} {x1 : Int32} {x2 : Int32} (h : fX11_counts n S x1 x2 = some (S', r)) : Ct l sdM cy ad D yX11_counts cX11_counts 3 (some .boolean) 0 0 [.ref (ad 0), .int x1, .int x2] S (some (.int r)) S' :=
  Ct_of (own := RX11) mX11_counts rfl (Nat.le_of_ble_eq_true rfl) (fun G e1 e2 e3 e4 C => by subst e1 e2 e3 e4; exact wX11_counts C h)
def fX11_isSo_j42 (n : Nat) (S : St) (x1 : Int32) (y0 : Int64) : Option (St × Int32) :=
  gd (ib x1 40) (
  if 0 < (lg_cmp y0 (1000 * (((S.1 37 (Int32.toNatClampNeg x1)) : Int32).toInt64))) then
    some (S, 0)
  else
    some (S, 1))
set_option maxRecDepth 100000 in
set_option maxHeartbeats 4000000 in
theorem wX11_isSo_j42 (C : Cx G sdM cX11_isSo 4 RX11 (some .boolean)) {n : Nat} {S S' : St} {r : Int32} {x1 : Int32} {y0 : Int64} (h : fX11_isSo_j42 n S x1 y0 = some (S', r)) : Wp G sdM (rmOf 1 26) 4 (Qm G sdM (some (.int r)) S') S 42 [(0, .ref (gA G 0)), (1, .int x1)] [.long y0] := by
  unfold fX11_isSo_j42 at h
  refine wp_ldc2 (pc := 42) C qX11_396 dX11_isSo_42 ?_
  refine wp_aload_n (pc := 45) C 0 dX11_isSo_45 rfl rfl ?_
  refine wp_getS (v := 37) (pc := 46) C flX11_127 rfl rfl (Nat.le_of_ble_eq_true rfl) (Nat.le_of_ble_eq_true rfl) rfl dX11_isSo_46 ?_
  refine wp_iload_n (pc := 49) C 1 dX11_isSo_49 rfl rfl ?_
  obtain ⟨g1, h⟩ := gd_some h
  refine wp_iald (pc := 50) C (Nat.le_of_ble_eq_true rfl) rfl g1 dX11_isSo_50 ?_
  refine wp_i2l (pc := 51) C dX11_isSo_51 ?_
  refine wp_lmul (pc := 52) C dX11_isSo_52 ?_
  refine wp_lcmp (pc := 53) C dX11_isSo_53 ?_
  refine wp_if_gt (pc := 54) C 61 dX11_isSo_54 (by decide) (fun q => ?_) (fun q => ?_)
  · have h := it_pos q h
    refine wp_iconst (v := 0) (pc := 61) C dX11_isSo_61 (by decide) ?_
    exact rt_z C (Or.inl rfl) rfl h dX11_isSo_62
  · have h := it_neg q h
    refine wp_iconst (v := 1) (pc := 57) C dX11_isSo_57 (by decide) ?_
    refine wp_goto (pc := 58) C 62 dX11_isSo_58 (by decide) ?_
    exact rt_z C (Or.inr rfl) rfl h dX11_isSo_62
def fX11_isSo (n : Nat) (S : St) (x1 : Int32) : Option (St × Int32) :=
  gd (ib x1 40) (
  gd (ib x1 40) (
  bd (fX11_seenBy n S 0 (S.1 34 (Int32.toNatClampNeg x1)) (S.1 35 (Int32.toNatClampNeg x1))) (fun S3 r4 =>
  gd (ib x1 40) (
  bn (r4 - (1000 * (((S3.1 36 (Int32.toNatClampNeg x1)) : Int32).toInt64))) (fun z6 : Int64 =>
  if 0 ≤ (lg_cmp z6 0) then
    fX11_isSo_j42 n S3 x1 z6
  else
    fX11_isSo_j42 n S3 x1 (-z6))))))
set_option maxRecDepth 100000 in
set_option maxHeartbeats 4000000 in
theorem wX11_isSo (C : Cx G sdM cX11_isSo 4 RX11 (some .boolean)) {n : Nat} {S S' : St} {r : Int32} {x1 : Int32} (h : fX11_isSo n S x1 = some (S', r)) : Wp G sdM (rmOf 1 26) 4 (Qm G sdM (some (.int r)) S') S 0 [(0, .ref (gA G 0)), (1, .int x1)] [] := by
  unfold fX11_isSo at h
  refine wp_aload_n (pc := 0) C 0 dX11_isSo_0 rfl rfl ?_
  refine wp_iconst (v := 0) (pc := 1) C dX11_isSo_1 (by decide) ?_
  refine wp_aload_n (pc := 2) C 0 dX11_isSo_2 rfl rfl ?_
  refine wp_getS (v := 34) (pc := 3) C flX11_118 rfl rfl (Nat.le_of_ble_eq_true rfl) (Nat.le_of_ble_eq_true rfl) rfl dX11_isSo_3 ?_
  refine wp_iload_n (pc := 6) C 1 dX11_isSo_6 rfl rfl ?_
  obtain ⟨g1, h⟩ := gd_some h
  refine wp_iald (pc := 7) C (Nat.le_of_ble_eq_true rfl) rfl g1 dX11_isSo_7 ?_
  refine wp_aload_n (pc := 8) C 0 dX11_isSo_8 rfl rfl ?_
  refine wp_getS (v := 35) (pc := 9) C flX11_121 rfl rfl (Nat.le_of_ble_eq_true rfl) (Nat.le_of_ble_eq_true rfl) rfl dX11_isSo_9 ?_
  refine wp_iload_n (pc := 12) C 1 dX11_isSo_12 rfl rfl ?_
  obtain ⟨g2, h⟩ := gd_some h
  refine wp_iald (pc := 13) C (Nat.le_of_ble_eq_true rfl) rfl g2 dX11_isSo_13 ?_
  obtain ⟨S3, r4, cS3, h⟩ := bd_some h
  refine wp_callVl (As := [.int 0, .int (S.1 34 (Int32.toNatClampNeg x1)), .int (S.1 35 (Int32.toNatClampNeg x1))]) (st := []) (pc := 14) C (CtX11_seenBy cS3) mX11_seenBy iX11_seenBy kX11_389 (Nat.le_of_ble_eq_true rfl) rfl (by decide) rfl rfl rfl rfl (Nat.le_of_ble_eq_true rfl) ⟨Nat.le_of_ble_eq_true rfl, Nat.le_of_ble_eq_true rfl⟩ dX11_isSo_14 ?_
  refine wp_ldc2 (pc := 17) C qX11_396 dX11_isSo_17 ?_
  refine wp_aload_n (pc := 20) C 0 dX11_isSo_20 rfl rfl ?_
  refine wp_getS (v := 36) (pc := 21) C flX11_124 rfl rfl (Nat.le_of_ble_eq_true rfl) (Nat.le_of_ble_eq_true rfl) rfl dX11_isSo_21 ?_
  refine wp_iload_n (pc := 24) C 1 dX11_isSo_24 rfl rfl ?_
  obtain ⟨g5, h⟩ := gd_some h
  refine wp_iald (pc := 25) C (Nat.le_of_ble_eq_true rfl) rfl g5 dX11_isSo_25 ?_
  refine wp_i2l (pc := 26) C dX11_isSo_26 ?_
  refine wp_lmul (pc := 27) C dX11_isSo_27 ?_
  refine wp_lsub (pc := 28) C dX11_isSo_28 ?_
  obtain ⟨z6, ez6, h⟩ := bn_some h
  refine wp_lstore_n (pc := 29) C ez6 [(2, .long z6), (0, .ref (gA G 0)), (1, .int x1)] dX11_isSo_29 rfl (Nat.le_of_ble_eq_true rfl) rfl ?_
  refine wp_lload_n (pc := 30) C 0 dX11_isSo_30 rfl rfl ?_
  refine wp_lconst (v := 0) (pc := 31) C dX11_isSo_31 (by decide) ?_
  refine wp_lcmp (pc := 32) C dX11_isSo_32 ?_
  refine wp_if_ge (pc := 33) C 41 dX11_isSo_33 (by decide) (fun q => ?_) (fun q => ?_)
  · have h := it_pos q h
    refine wp_lload_n (pc := 41) C 0 dX11_isSo_41 rfl rfl ?_
    exact wp_sub C [1, 2] rfl (wX11_isSo_j42 C h)
  · have h := it_neg q h
    refine wp_lload_n (pc := 36) C 0 dX11_isSo_36 rfl rfl ?_
    refine wp_lneg (pc := 37) C dX11_isSo_37 ?_
    refine wp_goto (pc := 38) C 42 dX11_isSo_38 (by decide) ?_
    exact wp_sub C [1, 2] rfl (wX11_isSo_j42 C h)
theorem CtX11_isSo {n : Nat} {S S' : St} {r : Int32} {x1 : Int32} (h : fX11_isSo n S x1 = some (S', r)) : Ct l sdM cy ad D yX11_isSo cX11_isSo 4 (some .boolean) 1 26 [.ref (ad 0), .int x1] S (some (.int r)) S' :=
  Ct_of (own := RX11) mX11_isSo rfl (Nat.le_of_ble_eq_true rfl) (fun G e1 e2 e3 e4 C => by subst e1 e2 e3 e4; exact wX11_isSo C h)
end
