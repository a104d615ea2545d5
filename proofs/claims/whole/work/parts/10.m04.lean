section
variable {G : Gx} {l : Launch} {cy : Nat → ClassId} {ad : Nat → Nat} {D : va_G}
def fX11_costOf_l4 (n : Nat) : Nat → St → Int32 → Int32 → Int32 → Option (St × Int32)
  | 0, _, _, _, _ => none
  | j + 1, S, x1, x2, x3 =>
    bd (fX11_dyes n S) (fun S1 r2 =>
    if r2 ≤ x3 then
      some (S1, x2)
    else
      gd (ib ((8 * x1) + x3) 16) (
      gd (ib x3 8) (
      bn (x2 + ((S1.1 21 (Int32.toNatClampNeg ((8 * x1) + x3))) * (S1.1 17 (Int32.toNatClampNeg x3)))) (fun z5 : Int32 =>
      bn (x3 + 1) (fun z6 : Int32 =>
      fX11_costOf_l4 n j S1 x1 z5 z6)))))
set_option maxRecDepth 100000 in
set_option maxHeartbeats 4000000 in
theorem wX11_costOf_l4 (C : Cx G sdM cX11_costOf 4 RX11 (some .int)) {n : Nat} {S' : St} {r : Int32} : ∀ (j : Nat) (S : St) (x1 : Int32) (x2 : Int32) (x3 : Int32), fX11_costOf_l4 n j S x1 x2 x3 = some (S', r) → Wp G sdM (rmOf 1 20) 4 (Qm G sdM (some (.int r)) S') S 4 [(0, .ref (gA G 0)), (1, .int x1), (2, .int x2), (3, .int x3)] [] := by
  intro j
  induction j with
  | zero =>
    intro S x1 x2 x3 h
    exact nomatch (show (none : Option (St × Int32)) = some _ from h)
  | succ j ih =>
    intro S x1 x2 x3 h
    rw [fX11_costOf_l4] at h
    refine wp_iload_n (pc := 4) C 3 dX11_costOf_4 rfl rfl ?_
    refine wp_aload_n (pc := 5) C 0 dX11_costOf_5 rfl rfl ?_
    obtain ⟨S1, r2, cS1, h⟩ := bd_some h
    refine wp_callVi (As := []) (st := [.int x3]) (pc := 6) C (CtX11_dyes cS1) mX11_dyes iX11_dyes kX11_357 (Nat.le_of_ble_eq_true rfl) rfl (by decide) rfl rfl rfl rfl (Nat.le_of_ble_eq_true rfl) ⟨Nat.le_of_ble_eq_true rfl, Nat.le_of_ble_eq_true rfl⟩ dX11_costOf_6 ?_
    refine wp_icmp_ge (pc := 9) C 39 dX11_costOf_9 (by decide) (fun q => ?_) (fun q => ?_)
    · have h := it_pos q h
      refine wp_iload_n (pc := 39) C 2 dX11_costOf_39 rfl rfl ?_
      exact rt_i C rfl h dX11_costOf_40
    · have h := it_neg q h
      refine wp_iload_n (pc := 12) C 2 dX11_costOf_12 rfl rfl ?_
      refine wp_aload_n (pc := 13) C 0 dX11_costOf_13 rfl rfl ?_
      refine wp_getS (v := 21) (pc := 14) C flX11_75 rfl rfl (Nat.le_of_ble_eq_true rfl) (Nat.le_of_ble_eq_true rfl) rfl dX11_costOf_14 ?_
      refine wp_bipush (v := 8) (pc := 17) C dX11_costOf_17 (by decide) ?_
      refine wp_iload_n (pc := 19) C 1 dX11_costOf_19 rfl rfl ?_
      refine wp_imul (pc := 20) C dX11_costOf_20 ?_
      refine wp_iload_n (pc := 21) C 3 dX11_costOf_21 rfl rfl ?_
      refine wp_iadd (pc := 22) C dX11_costOf_22 ?_
      obtain ⟨g3, h⟩ := gd_some h
      refine wp_iald (pc := 23) C (Nat.le_of_ble_eq_true rfl) rfl g3 dX11_costOf_23 ?_
      refine wp_aload_n (pc := 24) C 0 dX11_costOf_24 rfl rfl ?_
      refine wp_getS (v := 17) (pc := 25) C flX11_63 rfl rfl (Nat.le_of_ble_eq_true rfl) (Nat.le_of_ble_eq_true rfl) rfl dX11_costOf_25 ?_
      refine wp_iload_n (pc := 28) C 3 dX11_costOf_28 rfl rfl ?_
      obtain ⟨g4, h⟩ := gd_some h
      refine wp_iald (pc := 29) C (Nat.le_of_ble_eq_true rfl) rfl g4 dX11_costOf_29 ?_
      refine wp_imul (pc := 30) C dX11_costOf_30 ?_
      refine wp_iadd (pc := 31) C dX11_costOf_31 ?_
      obtain ⟨z5, ez5, h⟩ := bn_some h
      refine wp_istore_n (pc := 32) C ez5 [(2, .int z5), (0, .ref (gA G 0)), (1, .int x1), (3, .int x3)] dX11_costOf_32 rfl (Nat.le_of_ble_eq_true rfl) rfl ?_
      obtain ⟨z6, ez6, h⟩ := bn_some h
      refine wp_iinc (q := 3) (pc := 33) C (by decide) ez6 [(3, .int z6), (2, .int z5), (0, .ref (gA G 0)), (1, .int x1)] dX11_costOf_33 rfl (Nat.le_of_ble_eq_true rfl) rfl ?_
      refine wp_goto (pc := 36) C 4 dX11_costOf_36 (by decide) ?_
      exact wp_sub C [2, 3, 1, 0] rfl (ih _ _ _ _ h)
def fX11_costOf (n : Nat) (S : St) (x1 : Int32) : Option (St × Int32) :=
  fX11_costOf_l4 n n S x1 0 0
set_option maxRecDepth 100000 in
set_option maxHeartbeats 4000000 in
theorem wX11_costOf (C : Cx G sdM cX11_costOf 4 RX11 (some .int)) {n : Nat} {S S' : St} {r : Int32} {x1 : Int32} (h : fX11_costOf n S x1 = some (S', r)) : Wp G sdM (rmOf 1 20) 4 (Qm G sdM (some (.int r)) S') S 0 [(0, .ref (gA G 0)), (1, .int x1)] [] := by
  unfold fX11_costOf at h
  refine wp_iconst (v := 0) (pc := 0) C dX11_costOf_0 (by decide) ?_
  refine wp_istore_n (pc := 1) C rfl [(2, .int 0), (0, .ref (gA G 0)), (1, .int x1)] dX11_costOf_1 rfl (Nat.le_of_ble_eq_true rfl) rfl ?_
  refine wp_iconst (v := 0) (pc := 2) C dX11_costOf_2 (by decide) ?_
  refine wp_istore_n (pc := 3) C rfl [(3, .int 0), (2, .int 0), (0, .ref (gA G 0)), (1, .int x1)] dX11_costOf_3 rfl (Nat.le_of_ble_eq_true rfl) rfl ?_
  exact wp_sub C [2, 3, 1, 0] rfl (wX11_costOf_l4 C _ _ _ _ _ h)
theorem CtX11_costOf {n : Nat} {S S' : St} {r : Int32} {x1 : Int32} (h : fX11_costOf n S x1 = some (S', r)) : Ct l sdM cy ad D yX11_costOf cX11_costOf 4 (some .int) 1 20 [.ref (ad 0), .int x1] S (some (.int r)) S' :=
  Ct_of (own := RX11) mX11_costOf rfl (Nat.le_of_ble_eq_true rfl) (fun G e1 e2 e3 e4 C => by subst e1 e2 e3 e4; exact wX11_costOf C h)
def fX11_sumOf_l4 (n : Nat) : Nat → St → Int32 → Int32 → Int32 → Option (St × Int32)
  | 0, _, _, _, _ => none
  | j + 1, S, x1, x2, x3 =>
    bd (fX11_dyes n S) (fun S1 r2 =>
    if r2 ≤ x3 then
      some (S1, x2)
    else
      gd (ib ((8 * x1) + x3) 16) (
      bn (x2 + (S1.1 21 (Int32.toNatClampNeg ((8 * x1) + x3)))) (fun z4 : Int32 =>
      bn (x3 + 1) (fun z5 : Int32 =>
      fX11_sumOf_l4 n j S1 x1 z4 z5))))
set_option maxRecDepth 100000 in
set_option maxHeartbeats 4000000 in
theorem wX11_sumOf_l4 (C : Cx G sdM cX11_sumOf 4 RX11 (some .int)) {n : Nat} {S' : St} {r : Int32} : ∀ (j : Nat) (S : St) (x1 : Int32) (x2 : Int32) (x3 : Int32), fX11_sumOf_l4 n j S x1 x2 x3 = some (S', r) → Wp G sdM (rmOf 1 20) 4 (Qm G sdM (some (.int r)) S') S 4 [(0, .ref (gA G 0)), (1, .int x1), (2, .int x2), (3, .int x3)] [] := by
  intro j
  induction j with
  | zero =>
    intro S x1 x2 x3 h
    exact nomatch (show (none : Option (St × Int32)) = some _ from h)
  | succ j ih =>
    intro S x1 x2 x3 h
    rw [fX11_sumOf_l4] at h
    refine wp_iload_n (pc := 4) C 3 dX11_sumOf_4 rfl rfl ?_
    refine wp_aload_n (pc := 5) C 0 dX11_sumOf_5 rfl rfl ?_
    obtain ⟨S1, r2, cS1, h⟩ := bd_some h
    refine wp_callVi (As := []) (st := [.int x3]) (pc := 6) C (CtX11_dyes cS1) mX11_dyes iX11_dyes kX11_357 (Nat.le_of_ble_eq_true rfl) rfl (by decide) rfl rfl rfl rfl (Nat.le_of_ble_eq_true rfl) ⟨Nat.le_of_ble_eq_true rfl, Nat.le_of_ble_eq_true rfl⟩ dX11_sumOf_6 ?_
    refine wp_icmp_ge (pc := 9) C 32 dX11_sumOf_9 (by decide) (fun q => ?_) (fun q => ?_)
    · have h := it_pos q h
      refine wp_iload_n (pc := 32) C 2 dX11_sumOf_32 rfl rfl ?_
      exact rt_i C rfl h dX11_sumOf_33
    · have h := it_neg q h
      refine wp_iload_n (pc := 12) C 2 dX11_sumOf_12 rfl rfl ?_
      refine wp_aload_n (pc := 13) C 0 dX11_sumOf_13 rfl rfl ?_
      refine wp_getS (v := 21) (pc := 14) C flX11_75 rfl rfl (Nat.le_of_ble_eq_true rfl) (Nat.le_of_ble_eq_true rfl) rfl dX11_sumOf_14 ?_
      refine wp_bipush (v := 8) (pc := 17) C dX11_sumOf_17 (by decide) ?_
      refine wp_iload_n (pc := 19) C 1 dX11_sumOf_19 rfl rfl ?_
      refine wp_imul (pc := 20) C dX11_sumOf_20 ?_
      refine wp_iload_n (pc := 21) C 3 dX11_sumOf_21 rfl rfl ?_
      refine wp_iadd (pc := 22) C dX11_sumOf_22 ?_
      obtain ⟨g3, h⟩ := gd_some h
      refine wp_iald (pc := 23) C (Nat.le_of_ble_eq_true rfl) rfl g3 dX11_sumOf_23 ?_
      refine wp_iadd (pc := 24) C dX11_sumOf_24 ?_
      obtain ⟨z4, ez4, h⟩ := bn_some h
      refine wp_istore_n (pc := 25) C ez4 [(2, .int z4), (0, .ref (gA G 0)), (1, .int x1), (3, .int x3)] dX11_sumOf_25 rfl (Nat.le_of_ble_eq_true rfl) rfl ?_
      obtain ⟨z5, ez5, h⟩ := bn_some h
      refine wp_iinc (q := 3) (pc := 26) C (by decide) ez5 [(3, .int z5), (2, .int z4), (0, .ref (gA G 0)), (1, .int x1)] dX11_sumOf_26 rfl (Nat.le_of_ble_eq_true rfl) rfl ?_
      refine wp_goto (pc := 29) C 4 dX11_sumOf_29 (by decide) ?_
      exact wp_sub C [2, 3, 1, 0] rfl (ih _ _ _ _ h)
def fX11_sumOf (n : Nat) (S : St) (x1 : Int32) : Option (St × Int32) :=
  fX11_sumOf_l4 n n S x1 0 0
set_option maxRecDepth 100000 in
set_option maxHeartbeats 4000000 in
theorem wX11_sumOf (C : Cx G sdM cX11_sumOf 4 RX11 (some .int)) {n : Nat} {S S' : St} {r : Int32} {x1 : Int32} (h : fX11_sumOf n S x1 = some (S', r)) : Wp G sdM (rmOf 1 20) 4 (Qm G sdM (some (.int r)) S') S 0 [(0, .ref (gA G 0)), (1, .int x1)] [] := by
  unfold fX11_sumOf at h
  refine wp_iconst (v := 0) (pc := 0) C dX11_sumOf_0 (by decide) ?_
  refine wp_istore_n (pc := 1) C rfl [(2, .int 0), (0, .ref (gA G 0)), (1, .int x1)] dX11_sumOf_1 rfl (Nat.le_of_ble_eq_true rfl) rfl ?_
  refine wp_iconst (v := 0) (pc := 2) C dX11_sumOf_2 (by decide) ?_
  refine wp_istore_n (pc := 3) C rfl [(3, .int 0), (2, .int 0), (0, .ref (gA G 0)), (1, .int x1)] dX11_sumOf_3 rfl (Nat.le_of_ble_eq_true rfl) rfl ?_
  exact wp_sub C [2, 3, 1, 0] rfl (wX11_sumOf_l4 C _ _ _ _ _ h)
theorem CtX11_sumOf {n : Nat} {S S' : St} {r : Int32} {x1 : Int32} (h : fX11_sumOf n S x1 = some (S', r)) : Ct l sdM cy ad D yX11_sumOf cX11_sumOf 4 (some .int) 1 20 [.ref (ad 0), .int x1] S (some (.int r)) S' :=
  Ct_of (own := RX11) mX11_sumOf rfl (Nat.le_of_ble_eq_true rfl) (fun G e1 e2 e3 e4 C => by subst e1 e2 e3 e4; exact wX11_sumOf C h)
def fX11_throwsBack (n : Nat) (S : St) (x1 : Int32) (x2 : Int32) : Option (St × Int32) :=
  bd (fX11_isGood n S x1) (fun S1 r2 =>
  if r2 = 0 then
    some (S1, (-1))
  else
    bd (fX11_isIn n S1 x2 0 ((S1.1 0 33) - 1)) (fun S3 r4 =>
    if r4 = 0 then
      some (S3, (-1))
    else
      bd (fX11_become n S3 0 x1 (-1)) (fun S5 r6 =>
      gd (ib x2 32) (
      some (S5, ((S5.2.1 23 (Int32.toNatClampNeg x2)) : Int64).toInt32)))))
set_option maxRecDepth 100000 in
set_option maxHeartbeats 4000000 in
theorem wX11_throwsBack (C : Cx G sdM cX11_throwsBack 3 RX11 (some .int)) {n : Nat} {S S' : St} {r : Int32} {x1 : Int32} {x2 : Int32} (h : fX11_throwsBack n S x1 x2 = some (S', r)) : Wp G sdM (rmOf 4 92) 3 (Qm G sdM (some (.int r)) S') S 0 [(0, .ref (gA G 0)), (1, .int x1), (2, .int x2)] [] := by
  unfold fX11_throwsBack at h
  refine wp_aload_n (pc := 0) C 0 dX11_throwsBack_0 rfl rfl ?_
  refine wp_iload_n (pc := 1) C 1 dX11_throwsBack_1 rfl rfl ?_
  obtain ⟨S1, r2, cS1, h⟩ := bd_some h
  refine wp_callVi (As := [.int x1]) (st := []) (pc := 2) C (CtX11_isGood cS1) mX11_isGood iX11_isGood kX11_398 (Nat.le_of_ble_eq_true rfl) rfl (by decide) rfl rfl rfl rfl (Nat.le_of_ble_eq_true rfl) ⟨Nat.le_of_ble_eq_true rfl, Nat.le_of_ble_eq_true rfl⟩ dX11_throwsBack_2 ?_
  refine wp_if_eq (pc := 5) C 22 dX11_throwsBack_5 (by decide) (fun q => ?_) (fun q => ?_)
  · have h := it_pos q h
    refine wp_iconst (v := (-1)) (pc := 22) C dX11_throwsBack_22 (by decide) ?_
    exact rt_i C rfl h dX11_throwsBack_23
  · have h := it_neg q h
    refine wp_iload_n (pc := 8) C 2 dX11_throwsBack_8 rfl rfl ?_
    refine wp_iconst (v := 0) (pc := 9) C dX11_throwsBack_9 (by decide) ?_
    refine wp_aload_n (pc := 10) C 0 dX11_throwsBack_10 rfl rfl ?_
    refine wp_getI (pc := 11) C flX11_158 rfl (Nat.le_of_ble_eq_true rfl) rfl dX11_throwsBack_11 ?_
    refine wp_iconst (v := 1) (pc := 14) C dX11_throwsBack_14 (by decide) ?_
    refine wp_isub (pc := 15) C dX11_throwsBack_15 ?_
    obtain ⟨S3, r4, cS3, h⟩ := bd_some h
    refine wp_callSi (As := [.int x2, .int 0, .int ((S1.1 0 33) - 1)]) (st := []) (pc := 16) C (CtX11_isIn cS3) mX11_isIn sX11_isIn kX11_361 rfl rfl (Nat.le_of_ble_eq_true rfl) ⟨Nat.le_of_ble_eq_true rfl, Nat.le_of_ble_eq_true rfl⟩ dX11_throwsBack_16 ?_
    refine wp_if_ne (pc := 19) C 24 dX11_throwsBack_19 (by decide) (fun q => ?_) (fun q => ?_)
    · have h := it_neg q h
      refine wp_aload_n (pc := 24) C 0 dX11_throwsBack_24 rfl rfl ?_
      refine wp_iconst (v := 0) (pc := 25) C dX11_throwsBack_25 (by decide) ?_
      refine wp_iload_n (pc := 26) C 1 dX11_throwsBack_26 rfl rfl ?_
      refine wp_iconst (v := (-1)) (pc := 27) C dX11_throwsBack_27 (by decide) ?_
      obtain ⟨S5, r6, cS5, h⟩ := bd_some h
      refine wp_callVv (As := [.int 0, .int x1, .int (-1)]) (st := []) (pc := 28) C (CtX11_become cS5) mX11_become iX11_become kX11_401 (Nat.le_of_ble_eq_true rfl) rfl (by decide) rfl rfl rfl rfl (Nat.le_of_ble_eq_true rfl) ⟨Nat.le_of_ble_eq_true rfl, Nat.le_of_ble_eq_true rfl⟩ dX11_throwsBack_28 ?_
      refine wp_aload_n (pc := 31) C 0 dX11_throwsBack_31 rfl rfl ?_
      refine wp_getS (v := 23) (pc := 32) C flX11_81 rfl rfl (Nat.le_of_ble_eq_true rfl) (Nat.le_of_ble_eq_true rfl) rfl dX11_throwsBack_32 ?_
      refine wp_iload_n (pc := 35) C 2 dX11_throwsBack_35 rfl rfl ?_
      obtain ⟨g7, h⟩ := gd_some h
      refine wp_lald (pc := 36) C (Nat.le_of_ble_eq_true rfl) rfl g7 dX11_throwsBack_36 ?_
      refine wp_l2i (pc := 37) C dX11_throwsBack_37 ?_
      exact rt_i C rfl h dX11_throwsBack_38
    · have h := it_pos q h
      refine wp_iconst (v := (-1)) (pc := 22) C dX11_throwsBack_22 (by decide) ?_
      exact rt_i C rfl h dX11_throwsBack_23
theorem CtX11_throwsBack {n : Nat} {S S' : St} {r : Int32} {x1 : Int32} {x2 : Int32} (h : fX11_throwsBack n S x1 x2 = some (S', r)) : Ct l sdM cy ad D yX11_throwsBack cX11_throwsBack 3 (some .int) 4 92 [.ref (ad 0), .int x1, .int x2] S (some (.int r)) S' :=
  Ct_of (own := RX11) mX11_throwsBack rfl (Nat.le_of_ble_eq_true rfl) (fun G e1 e2 e3 e4 C => by subst e1 e2 e3 e4; exact wX11_throwsBack C h)
def fX11_seen (n : Nat) (S : St) (x1 : Int32) (x2 : Int32) (x3 : Int32) : Option (St × Int64) :=
  bd (fX11_isGood n S x1) (fun S1 r2 =>
  if r2 = 0 then
    some (S1, (-1))
  else
    bd (fX11_isLamp n S1 x2) (fun S3 r4 =>
    if r4 = 0 then
      some (S3, (-1))
    else
      bd (fX11_isEye n S3 x3) (fun S5 r6 =>
      if r6 = 0 then
        some (S5, (-1))
      else
        bd (fX11_become n S5 0 x1 (-1)) (fun S7 r8 =>
        bd (fX11_seenBy n S7 0 x2 x3) (fun S9 r10 =>
        some (S9, r10))))))
set_option maxRecDepth 100000 in
set_option maxHeartbeats 4000000 in
theorem wX11_seen (C : Cx G sdM cX11_seen 4 RX11 (some .long)) {n : Nat} {S S' : St} {r : Int64} {x1 : Int32} {x2 : Int32} {x3 : Int32} (h : fX11_seen n S x1 x2 x3 = some (S', r)) : Wp G sdM (rmOf 4 92) 4 (Qm G sdM (some (.long r)) S') S 0 [(0, .ref (gA G 0)), (1, .int x1), (2, .int x2), (3, .int x3)] [] := by
  unfold fX11_seen at h
  refine wp_aload_n (pc := 0) C 0 dX11_seen_0 rfl rfl ?_
  refine wp_iload_n (pc := 1) C 1 dX11_seen_1 rfl rfl ?_
  obtain ⟨S1, r2, cS1, h⟩ := bd_some h
  refine wp_callVi (As := [.int x1]) (st := []) (pc := 2) C (CtX11_isGood cS1) mX11_isGood iX11_isGood kX11_398 (Nat.le_of_ble_eq_true rfl) rfl (by decide) rfl rfl rfl rfl (Nat.le_of_ble_eq_true rfl) ⟨Nat.le_of_ble_eq_true rfl, Nat.le_of_ble_eq_true rfl⟩ dX11_seen_2 ?_
  refine wp_if_eq (pc := 5) C 24 dX11_seen_5 (by decide) (fun q => ?_) (fun q => ?_)
  · have h := it_pos q h
    refine wp_ldc2 (pc := 24) C qX11_411 dX11_seen_24 ?_
    exact rt_l C rfl h dX11_seen_27
  · have h := it_neg q h
    refine wp_aload_n (pc := 8) C 0 dX11_seen_8 rfl rfl ?_
    refine wp_iload_n (pc := 9) C 2 dX11_seen_9 rfl rfl ?_
    obtain ⟨S3, r4, cS3, h⟩ := bd_some h
    refine wp_callVi (As := [.int x2]) (st := []) (pc := 10) C (CtX11_isLamp cS3) mX11_isLamp iX11_isLamp kX11_405 (Nat.le_of_ble_eq_true rfl) rfl (by decide) rfl rfl rfl rfl (Nat.le_of_ble_eq_true rfl) ⟨Nat.le_of_ble_eq_true rfl, Nat.le_of_ble_eq_true rfl⟩ dX11_seen_10 ?_
    refine wp_if_eq (pc := 13) C 24 dX11_seen_13 (by decide) (fun q => ?_) (fun q => ?_)
    · have h := it_pos q h
      refine wp_ldc2 (pc := 24) C qX11_411 dX11_seen_24 ?_
      exact rt_l C rfl h dX11_seen_27
    · have h := it_neg q h
      refine wp_aload_n (pc := 16) C 0 dX11_seen_16 rfl rfl ?_
      refine wp_iload_n (pc := 17) C 3 dX11_seen_17 rfl rfl ?_
      obtain ⟨S5, r6, cS5, h⟩ := bd_some h
      refine wp_callVi (As := [.int x3]) (st := []) (pc := 18) C (CtX11_isEye cS5) mX11_isEye iX11_isEye kX11_408 (Nat.le_of_ble_eq_true rfl) rfl (by decide) rfl rfl rfl rfl (Nat.le_of_ble_eq_true rfl) ⟨Nat.le_of_ble_eq_true rfl, Nat.le_of_ble_eq_true rfl⟩ dX11_seen_18 ?_
      refine wp_if_ne (pc := 21) C 28 dX11_seen_21 (by decide) (fun q => ?_) (fun q => ?_)
      · have h := it_neg q h
        refine wp_aload_n (pc := 28) C 0 dX11_seen_28 rfl rfl ?_
        refine wp_iconst (v := 0) (pc := 29) C dX11_seen_29 (by decide) ?_
        refine wp_iload_n (pc := 30) C 1 dX11_seen_30 rfl rfl ?_
        refine wp_iconst (v := (-1)) (pc := 31) C dX11_seen_31 (by decide) ?_
        obtain ⟨S7, r8, cS7, h⟩ := bd_some h
        refine wp_callVv (As := [.int 0, .int x1, .int (-1)]) (st := []) (pc := 32) C (CtX11_become cS7) mX11_become iX11_become kX11_401 (Nat.le_of_ble_eq_true rfl) rfl (by decide) rfl rfl rfl rfl (Nat.le_of_ble_eq_true rfl) ⟨Nat.le_of_ble_eq_true rfl, Nat.le_of_ble_eq_true rfl⟩ dX11_seen_32 ?_
        refine wp_aload_n (pc := 35) C 0 dX11_seen_35 rfl rfl ?_
        refine wp_iconst (v := 0) (pc := 36) C dX11_seen_36 (by decide) ?_
        refine wp_iload_n (pc := 37) C 2 dX11_seen_37 rfl rfl ?_
        refine wp_iload_n (pc := 38) C 3 dX11_seen_38 rfl rfl ?_
        obtain ⟨S9, r10, cS9, h⟩ := bd_some h
        refine wp_callVl (As := [.int 0, .int x2, .int x3]) (st := []) (pc := 39) C (CtX11_seenBy cS9) mX11_seenBy iX11_seenBy kX11_389 (Nat.le_of_ble_eq_true rfl) rfl (by decide) rfl rfl rfl rfl (Nat.le_of_ble_eq_true rfl) ⟨Nat.le_of_ble_eq_true rfl, Nat.le_of_ble_eq_true rfl⟩ dX11_seen_39 ?_
        exact rt_l C rfl h dX11_seen_42
      · have h := it_pos q h
        refine wp_ldc2 (pc := 24) C qX11_411 dX11_seen_24 ?_
        exact rt_l C rfl h dX11_seen_27
theorem CtX11_seen {n : Nat} {S S' : St} {r : Int64} {x1 : Int32} {x2 : Int32} {x3 : Int32} (h : fX11_seen n S x1 x2 x3 = some (S', r)) : Ct l sdM cy ad D yX11_seen cX11_seen 4 (some .long) 4 92 [.ref (ad 0), .int x1, .int x2, .int x3] S (some (.long r)) S' :=
  Ct_of (own := RX11) mX11_seen rfl (Nat.le_of_ble_eq_true rfl) (fun G e1 e2 e3 e4 C => by subst e1 e2 e3 e4; exact wX11_seen C h)
def fX11_layTwo (n : Nat) (S : St) (x1 : Int32) (x2 : Int32) : Option (St × Int32) :=
  bd (fX11_isGood n S x1) (fun S1 r2 =>
  if r2 = 0 then
    some (S1, 0)
  else
    bd (fX11_isGood n S1 x2) (fun S3 r4 =>
    if r4 = 0 then
      some (S3, 0)
    else
      bd (fX11_become n S3 0 x1 (-1)) (fun S5 r6 =>
      bd (fX11_become n S5 1 x2 (-1)) (fun S7 r8 =>
      some (S7, 1)))))
set_option maxRecDepth 100000 in
set_option maxHeartbeats 4000000 in
theorem wX11_layTwo (C : Cx G sdM cX11_layTwo 3 RX11 (some .boolean)) {n : Nat} {S S' : St} {r : Int32} {x1 : Int32} {x2 : Int32} (h : fX11_layTwo n S x1 x2 = some (S', r)) : Wp G sdM (rmOf 4 92) 3 (Qm G sdM (some (.int r)) S') S 0 [(0, .ref (gA G 0)), (1, .int x1), (2, .int x2)] [] := by
  unfold fX11_layTwo at h
  refine wp_aload_n (pc := 0) C 0 dX11_layTwo_0 rfl rfl ?_
  refine wp_iload_n (pc := 1) C 1 dX11_layTwo_1 rfl rfl ?_
  obtain ⟨S1, r2, cS1, h⟩ := bd_some h
  refine wp_callVi (As := [.int x1]) (st := []) (pc := 2) C (CtX11_isGood cS1) mX11_isGood iX11_isGood kX11_398 (Nat.le_of_ble_eq_true rfl) rfl (by decide) rfl rfl rfl rfl (Nat.le_of_ble_eq_true rfl) ⟨Nat.le_of_ble_eq_true rfl, Nat.le_of_ble_eq_true rfl⟩ dX11_layTwo_2 ?_
  refine wp_if_eq (pc := 5) C 16 dX11_layTwo_5 (by decide) (fun q => ?_) (fun q => ?_)
  · have h := it_pos q h
    refine wp_iconst (v := 0) (pc := 16) C dX11_layTwo_16 (by decide) ?_
    exact rt_z C (Or.inl rfl) rfl h dX11_layTwo_17
  · have h := it_neg q h
    refine wp_aload_n (pc := 8) C 0 dX11_layTwo_8 rfl rfl ?_
    refine wp_iload_n (pc := 9) C 2 dX11_layTwo_9 rfl rfl ?_
    obtain ⟨S3, r4, cS3, h⟩ := bd_some h
    refine wp_callVi (As := [.int x2]) (st := []) (pc := 10) C (CtX11_isGood cS3) mX11_isGood iX11_isGood kX11_398 (Nat.le_of_ble_eq_true rfl) rfl (by decide) rfl rfl rfl rfl (Nat.le_of_ble_eq_true rfl) ⟨Nat.le_of_ble_eq_true rfl, Nat.le_of_ble_eq_true rfl⟩ dX11_layTwo_10 ?_
    refine wp_if_ne (pc := 13) C 18 dX11_layTwo_13 (by decide) (fun q => ?_) (fun q => ?_)
    · have h := it_neg q h
      refine wp_aload_n (pc := 18) C 0 dX11_layTwo_18 rfl rfl ?_
      refine wp_iconst (v := 0) (pc := 19) C dX11_layTwo_19 (by decide) ?_
      refine wp_iload_n (pc := 20) C 1 dX11_layTwo_20 rfl rfl ?_
      refine wp_iconst (v := (-1)) (pc := 21) C dX11_layTwo_21 (by decide) ?_
      obtain ⟨S5, r6, cS5, h⟩ := bd_some h
      refine wp_callVv (As := [.int 0, .int x1, .int (-1)]) (st := []) (pc := 22) C (CtX11_become cS5) mX11_become iX11_become kX11_401 (Nat.le_of_ble_eq_true rfl) rfl (by decide) rfl rfl rfl rfl (Nat.le_of_ble_eq_true rfl) ⟨Nat.le_of_ble_eq_true rfl, Nat.le_of_ble_eq_true rfl⟩ dX11_layTwo_22 ?_
      refine wp_aload_n (pc := 25) C 0 dX11_layTwo_25 rfl rfl ?_
      refine wp_iconst (v := 1) (pc := 26) C dX11_layTwo_26 (by decide) ?_
      refine wp_iload_n (pc := 27) C 2 dX11_layTwo_27 rfl rfl ?_
      refine wp_iconst (v := (-1)) (pc := 28) C dX11_layTwo_28 (by decide) ?_
      obtain ⟨S7, r8, cS7, h⟩ := bd_some h
      refine wp_callVv (As := [.int 1, .int x2, .int (-1)]) (st := []) (pc := 29) C (CtX11_become cS7) mX11_become iX11_become kX11_401 (Nat.le_of_ble_eq_true rfl) rfl (by decide) rfl rfl rfl rfl (Nat.le_of_ble_eq_true rfl) ⟨Nat.le_of_ble_eq_true rfl, Nat.le_of_ble_eq_true rfl⟩ dX11_layTwo_29 ?_
      refine wp_iconst (v := 1) (pc := 32) C dX11_layTwo_32 (by decide) ?_
      exact rt_z C (Or.inr rfl) rfl h dX11_layTwo_33
    · have h := it_pos q h
      refine wp_iconst (v := 0) (pc := 16) C dX11_layTwo_16 (by decide) ?_
      exact rt_z C (Or.inl rfl) rfl h dX11_layTwo_17
theorem CtX11_layTwo {n : Nat} {S S' : St} {r : Int32} {x1 : Int32} {x2 : Int32} (h : fX11_layTwo n S x1 x2 = some (S', r)) : Ct l sdM cy ad D yX11_layTwo cX11_layTwo 3 (some .boolean) 4 92 [.ref (ad 0), .int x1, .int x2] S (some (.int r)) S' :=
  Ct_of (own := RX11) mX11_layTwo rfl (Nat.le_of_ble_eq_true rfl) (fun G e1 e2 e3 e4 C => by subst e1 e2 e3 e4; exact wX11_layTwo C h)
def fX11_apart (n : Nat) (S : St) (x1 : Int32) (x2 : Int32) (x3 : Int32) (x4 : Int32) : Option (St × Int64) :=
  bd (fX11_isLamp n S x3) (fun S1 r2 =>
  if r2 = 0 then
    some (S1, (-1))
  else
    bd (fX11_layTwo n S1 x1 x2) (fun S3 r4 =>
    if r4 = 0 then
      some (S3, (-1))
    else
      bd (fX11_apartBy n S3 x3 x4) (fun S5 r6 =>
      some (S5, r6))))
set_option maxRecDepth 100000 in
set_option maxHeartbeats 4000000 in
theorem wX11_apart (C : Cx G sdM cX11_apart 5 RX11 (some .long)) {n : Nat} {S S' : St} {r : Int64} {x1 : Int32} {x2 : Int32} {x3 : Int32} {x4 : Int32} (h : fX11_apart n S x1 x2 x3 x4 = some (S', r)) : Wp G sdM (rmOf 5 114) 5 (Qm G sdM (some (.long r)) S') S 0 [(0, .ref (gA G 0)), (1, .int x1), (2, .int x2), (3, .int x3), (4, .int x4)] [] := by
  unfold fX11_apart at h
  refine wp_aload_n (pc := 0) C 0 dX11_apart_0 rfl rfl ?_
  refine wp_iload_n (pc := 1) C 3 dX11_apart_1 rfl rfl ?_
  obtain ⟨S1, r2, cS1, h⟩ := bd_some h
  refine wp_callVi (As := [.int x3]) (st := []) (pc := 2) C (CtX11_isLamp cS1) mX11_isLamp iX11_isLamp kX11_405 (Nat.le_of_ble_eq_true rfl) rfl (by decide) rfl rfl rfl rfl (Nat.le_of_ble_eq_true rfl) ⟨Nat.le_of_ble_eq_true rfl, Nat.le_of_ble_eq_true rfl⟩ dX11_apart_2 ?_
  refine wp_if_eq (pc := 5) C 27 dX11_apart_5 (by decide) (fun q => ?_) (fun q => ?_)
  · have h := it_pos q h
    refine wp_ldc2 (pc := 27) C qX11_411 dX11_apart_27 ?_
    exact rt_l C rfl h dX11_apart_30
  · have h := it_neg q h
    refine wp_aload_n (pc := 8) C 0 dX11_apart_8 rfl rfl ?_
    refine wp_iload_n (pc := 9) C 1 dX11_apart_9 rfl rfl ?_
    refine wp_iload_n (pc := 10) C 2 dX11_apart_10 rfl rfl ?_
    obtain ⟨S3, r4, cS3, h⟩ := bd_some h
    refine wp_callVi (As := [.int x1, .int x2]) (st := []) (pc := 11) C (CtX11_layTwo cS3) mX11_layTwo iX11_layTwo kX11_413 (Nat.le_of_ble_eq_true rfl) rfl (by decide) rfl rfl rfl rfl (Nat.le_of_ble_eq_true rfl) ⟨Nat.le_of_ble_eq_true rfl, Nat.le_of_ble_eq_true rfl⟩ dX11_apart_11 ?_
    refine wp_if_eq (pc := 14) C 27 dX11_apart_14 (by decide) (fun q => ?_) (fun q => ?_)
    · have h := it_pos q h
      refine wp_ldc2 (pc := 27) C qX11_411 dX11_apart_27 ?_
      exact rt_l C rfl h dX11_apart_30
    · have h := it_neg q h
      refine wp_aload_n (pc := 17) C 0 dX11_apart_17 rfl rfl ?_
      refine wp_iload_n (pc := 18) C 3 dX11_apart_18 rfl rfl ?_
      refine wp_iload (pc := 19) C 4 dX11_apart_19 rfl ?_
      obtain ⟨S5, r6, cS5, h⟩ := bd_some h
      refine wp_callVl (As := [.int x3, .int x4]) (st := []) (pc := 21) C (CtX11_apartBy cS5) mX11_apartBy iX11_apartBy kX11_392 (Nat.le_of_ble_eq_true rfl) rfl (by decide) rfl rfl rfl rfl (Nat.le_of_ble_eq_true rfl) ⟨Nat.le_of_ble_eq_true rfl, Nat.le_of_ble_eq_true rfl⟩ dX11_apart_21 ?_
      refine wp_goto (pc := 24) C 30 dX11_apart_24 (by decide) ?_
      exact rt_l C rfl h dX11_apart_30
theorem CtX11_apart {n : Nat} {S S' : St} {r : Int64} {x1 : Int32} {x2 : Int32} {x3 : Int32} {x4 : Int32} (h : fX11_apart n S x1 x2 x3 x4 = some (S', r)) : Ct l sdM cy ad D yX11_apart cX11_apart 5 (some .long) 5 114 [.ref (ad 0), .int x1, .int x2, .int x3, .int x4] S (some (.long r)) S' :=
  Ct_of (own := RX11) mX11_apart rfl (Nat.le_of_ble_eq_true rfl) (fun G e1 e2 e3 e4 C => by subst e1 e2 e3 e4; exact wX11_apart C h)
def fX11_alike_j46 (n : Nat) (k17 : St → Int32 → Int32 → Int32 → Option (St × Int32)) (S : St) (x3 : Int32) (x5 : Int32) (y0 : Int32) (y1 : Int32) : Option (St × Int32) :=
  bn (y0 ||| y1) (fun z1 : Int32 =>
  bn (x5 + 1) (fun z2 : Int32 =>
  k17 S x3 z1 z2))
set_option maxRecDepth 100000 in
set_option maxHeartbeats 4000000 in
theorem wX11_alike_j46 (C : Cx G sdM cX11_alike 6 RX11 (some .int)) {n : Nat} {k17 : St → Int32 → Int32 → Int32 → Option (St × Int32)} {S S' : St} {r : Int32} {x3 : Int32} {x5 : Int32} {y0 : Int32} {y1 : Int32} (hk17 : ∀ (S : St) (x3 : Int32) (x4 : Int32) (x5 : Int32), k17 S x3 x4 x5 = some (S', r) → Wp G sdM (rmOf 5 114) 6 (Qm G sdM (some (.int r)) S') S 17 [(0, .ref (gA G 0)), (3, .int x3), (4, .int x4), (5, .int x5)] []) (h : fX11_alike_j46 n k17 S x3 x5 y0 y1 = some (S', r)) : Wp G sdM (rmOf 5 114) 6 (Qm G sdM (some (.int r)) S') S 46 [(0, .ref (gA G 0)), (3, .int x3), (5, .int x5)] [.int y1, .int y0] := by
  unfold fX11_alike_j46 at h
  refine wp_ior (pc := 46) C dX11_alike_46 ?_
  obtain ⟨z1, ez1, h⟩ := bn_some h
  refine wp_istore (pc := 47) C ez1 [(4, .int z1), (0, .ref (gA G 0)), (3, .int x3), (5, .int x5)] dX11_alike_47 (Nat.le_of_ble_eq_true rfl) rfl ?_
  obtain ⟨z2, ez2, h⟩ := bn_some h
  refine wp_iinc (q := 3) (pc := 49) C (by decide) ez2 [(5, .int z2), (4, .int z1), (0, .ref (gA G 0)), (3, .int x3)] dX11_alike_49 rfl (Nat.le_of_ble_eq_true rfl) rfl ?_
  refine wp_goto (pc := 52) C 17 dX11_alike_52 (by decide) ?_
  exact wp_sub C [2, 3, 1, 0] rfl (hk17 _ _ _ _ h)
def fX11_alike_l17 (n : Nat) : Nat → St → Int32 → Int32 → Int32 → Option (St × Int32)
  | 0, _, _, _, _ => none
  | j + 1, S, x3, x4, x5 =>
    bd (fX11_lamps n S) (fun S1 r2 =>
    if r2 ≤ x5 then
      some (S1, x4)
    else
      bd (fX11_isAlike n S1 x5 x3) (fun S3 r4 =>
      if r4 = 0 then
        fX11_alike_j46 n (fX11_alike_l17 n j) S3 x3 x5 x4 0
      else
        fX11_alike_j46 n (fX11_alike_l17 n j) S3 x3 x5 x4 (1 <<< (x5 &&& 31))))
set_option maxRecDepth 100000 in
set_option maxHeartbeats 4000000 in
theorem wX11_alike_l17 (C : Cx G sdM cX11_alike 6 RX11 (some .int)) {n : Nat} {S' : St} {r : Int32} : ∀ (j : Nat) (S : St) (x3 : Int32) (x4 : Int32) (x5 : Int32), fX11_alike_l17 n j S x3 x4 x5 = some (S', r) → Wp G sdM (rmOf 5 114) 6 (Qm G sdM (some (.int r)) S') S 17 [(0, .ref (gA G 0)), (3, .int x3), (4, .int x4), (5, .int x5)] [] := by
  intro j
  induction j with
  | zero =>
    intro S x3 x4 x5 h
    exact nomatch (show (none : Option (St × Int32)) = some _ from h)
  | succ j ih =>
    intro S x3 x4 x5 h
    rw [fX11_alike_l17] at h
    refine wp_iload (pc := 17) C 3 dX11_alike_17 rfl ?_
    refine wp_aload_n (pc := 19) C 0 dX11_alike_19 rfl rfl ?_
    obtain ⟨S1, r2, cS1, h⟩ := bd_some h
    refine wp_callVi (As := []) (st := [.int x5]) (pc := 20) C (CtX11_lamps cS1) mX11_lamps iX11_lamps kX11_365 (Nat.le_of_ble_eq_true rfl) rfl (by decide) rfl rfl rfl rfl (Nat.le_of_ble_eq_true rfl) ⟨Nat.le_of_ble_eq_true rfl, Nat.le_of_ble_eq_true rfl⟩ dX11_alike_20 ?_
    refine wp_icmp_ge (pc := 23) C 55 dX11_alike_23 (by decide) (fun q => ?_) (fun q => ?_)
    · have h := it_pos q h
      refine wp_iload (pc := 55) C 2 dX11_alike_55 rfl ?_
      exact rt_i C rfl h dX11_alike_57
    · have h := it_neg q h
      refine wp_iload (pc := 26) C 2 dX11_alike_26 rfl ?_
      refine wp_aload_n (pc := 28) C 0 dX11_alike_28 rfl rfl ?_
      refine wp_iload (pc := 29) C 3 dX11_alike_29 rfl ?_
      refine wp_iload_n (pc := 31) C 1 dX11_alike_31 rfl rfl ?_
      obtain ⟨S3, r4, cS3, h⟩ := bd_some h
      refine wp_callVi (As := [.int x5, .int x3]) (st := [.int x4]) (pc := 32) C (CtX11_isAlike cS3) mX11_isAlike iX11_isAlike kX11_417 (Nat.le_of_ble_eq_true rfl) rfl (by decide) rfl rfl rfl rfl (Nat.le_of_ble_eq_true rfl) ⟨Nat.le_of_ble_eq_true rfl, Nat.le_of_ble_eq_true rfl⟩ dX11_alike_32 ?_
      refine wp_if_eq (pc := 35) C 45 dX11_alike_35 (by decide) (fun q => ?_) (fun q => ?_)
      · have h := it_pos q h
        refine wp_iconst (v := 0) (pc := 45) C dX11_alike_45 (by decide) ?_
        exact wp_sub C [0, 1, 3] rfl (wX11_alike_j46 C ih h)
      · have h := it_neg q h
        refine wp_iconst (v := 1) (pc := 38) C dX11_alike_38 (by decide) ?_
        refine wp_iload (pc := 39) C 3 dX11_alike_39 rfl ?_
        refine wp_ishl (pc := 41) C dX11_alike_41 ?_
        refine wp_goto (pc := 42) C 46 dX11_alike_42 (by decide) ?_
        exact wp_sub C [0, 1, 3] rfl (wX11_alike_j46 C ih h)
def fX11_alike (n : Nat) (S : St) (x1 : Int32) (x2 : Int32) (x3 : Int32) : Option (St × Int32) :=
  bd (fX11_layTwo n S x1 x2) (fun S1 r2 =>
  if r2 = 0 then
    some (S1, (-1))
  else
    fX11_alike_l17 n n S1 x3 0 0)
set_option maxRecDepth 100000 in
set_option maxHeartbeats 4000000 in
theorem wX11_alike (C : Cx G sdM cX11_alike 6 RX11 (some .int)) {n : Nat} {S S' : St} {r : Int32} {x1 : Int32} {x2 : Int32} {x3 : Int32} (h : fX11_alike n S x1 x2 x3 = some (S', r)) : Wp G sdM (rmOf 5 114) 6 (Qm G sdM (some (.int r)) S') S 0 [(0, .ref (gA G 0)), (1, .int x1), (2, .int x2), (3, .int x3)] [] := by
  unfold fX11_alike at h
  refine wp_aload_n (pc := 0) C 0 dX11_alike_0 rfl rfl ?_
  refine wp_iload_n (pc := 1) C 1 dX11_alike_1 rfl rfl ?_
  refine wp_iload_n (pc := 2) C 2 dX11_alike_2 rfl rfl ?_
  obtain ⟨S1, r2, cS1, h⟩ := bd_some h
  refine wp_callVi (As := [.int x1, .int x2]) (st := []) (pc := 3) C (CtX11_layTwo cS1) mX11_layTwo iX11_layTwo kX11_413 (Nat.le_of_ble_eq_true rfl) rfl (by decide) rfl rfl rfl rfl (Nat.le_of_ble_eq_true rfl) ⟨Nat.le_of_ble_eq_true rfl, Nat.le_of_ble_eq_true rfl⟩ dX11_alike_3 ?_
  refine wp_if_ne (pc := 6) C 11 dX11_alike_6 (by decide) (fun q => ?_) (fun q => ?_)
  · have h := it_neg q h
    refine wp_iconst (v := 0) (pc := 11) C dX11_alike_11 (by decide) ?_
    refine wp_istore (pc := 12) C rfl [(4, .int 0), (0, .ref (gA G 0)), (1, .int x1), (2, .int x2), (3, .int x3)] dX11_alike_12 (Nat.le_of_ble_eq_true rfl) rfl ?_
    refine wp_iconst (v := 0) (pc := 14) C dX11_alike_14 (by decide) ?_
    refine wp_istore (pc := 15) C rfl [(5, .int 0), (4, .int 0), (0, .ref (gA G 0)), (1, .int x1), (2, .int x2), (3, .int x3)] dX11_alike_15 (Nat.le_of_ble_eq_true rfl) rfl ?_
    exact wp_sub C [2, 5, 1, 0] rfl (wX11_alike_l17 C _ _ _ _ _ h)
  · have h := it_pos q h
    refine wp_iconst (v := (-1)) (pc := 9) C dX11_alike_9 (by decide) ?_
    exact rt_i C rfl h dX11_alike_10
theorem CtX11_alike {n : Nat} {S S' : St} {r : Int32} {x1 : Int32} {x2 : Int32} {x3 : Int32} (h : fX11_alike n S x1 x2 x3 = some (S', r)) : Ct l sdM cy ad D yX11_alike cX11_alike 6 (some .int) 5 114 [.ref (ad 0), .int x1, .int x2, .int x3] S (some (.int r)) S' :=
  Ct_of (own := RX11) mX11_alike rfl (Nat.le_of_ble_eq_true rfl) (fun G e1 e2 e3 e4 C => by subst e1 e2 e3 e4; exact wX11_alike C h)
def fX11_cost_j16 (n : Nat) (S : St) (x1 : Int32) : Option (St × Int32) :=
  bd (fX11_become n S 0 x1 (-1)) (fun S1 r2 =>
  bd (fX11_costOf n S1 0) (fun S3 r4 =>
  some (S3, r4)))
set_option maxRecDepth 100000 in
set_option maxHeartbeats 4000000 in
theorem wX11_cost_j16 (C : Cx G sdM cX11_cost 2 RX11 (some .int)) {n : Nat} {S S' : St} {r : Int32} {x1 : Int32} (h : fX11_cost_j16 n S x1 = some (S', r)) : Wp G sdM (rmOf 4 92) 2 (Qm G sdM (some (.int r)) S') S 16 [(0, .ref (gA G 0)), (1, .int x1)] [] := by
  unfold fX11_cost_j16 at h
  refine wp_aload_n (pc := 16) C 0 dX11_cost_16 rfl rfl ?_
  refine wp_iconst (v := 0) (pc := 17) C dX11_cost_17 (by decide) ?_
  refine wp_iload_n (pc := 18) C 1 dX11_cost_18 rfl rfl ?_
  refine wp_iconst (v := (-1)) (pc := 19) C dX11_cost_19 (by decide) ?_
  obtain ⟨S1, r2, cS1, h⟩ := bd_some h
  refine wp_callVv (As := [.int 0, .int x1, .int (-1)]) (st := []) (pc := 20) C (CtX11_become cS1) mX11_become iX11_become kX11_401 (Nat.le_of_ble_eq_true rfl) rfl (by decide) rfl rfl rfl rfl (Nat.le_of_ble_eq_true rfl) ⟨Nat.le_of_ble_eq_true rfl, Nat.le_of_ble_eq_true rfl⟩ dX11_cost_20 ?_
  refine wp_aload_n (pc := 23) C 0 dX11_cost_23 rfl rfl ?_
  refine wp_iconst (v := 0) (pc := 24) C dX11_cost_24 (by decide) ?_
  obtain ⟨S3, r4, cS3, h⟩ := bd_some h
  refine wp_callVi (As := [.int 0]) (st := []) (pc := 25) C (CtX11_costOf cS3) mX11_costOf iX11_costOf kX11_420 (Nat.le_of_ble_eq_true rfl) rfl (by decide) rfl rfl rfl rfl (Nat.le_of_ble_eq_true rfl) ⟨Nat.le_of_ble_eq_true rfl, Nat.le_of_ble_eq_true rfl⟩ dX11_cost_25 ?_
  exact rt_i C rfl h dX11_cost_28
def fX11_cost (n : Nat) (S : St) (x1 : Int32) : Option (St × Int32) :=
  if x1 = (-1) then
    fX11_cost_j16 n S x1
  else
    bd (fX11_isGood n S x1) (fun S1 r2 =>
    if r2 = 0 then
      some (S1, (-2))
    else
      fX11_cost_j16 n S1 x1)
set_option maxRecDepth 100000 in
set_option maxHeartbeats 4000000 in
theorem wX11_cost (C : Cx G sdM cX11_cost 2 RX11 (some .int)) {n : Nat} {S S' : St} {r : Int32} {x1 : Int32} (h : fX11_cost n S x1 = some (S', r)) : Wp G sdM (rmOf 4 92) 2 (Qm G sdM (some (.int r)) S') S 0 [(0, .ref (gA G 0)), (1, .int x1)] [] := by
  unfold fX11_cost at h
  refine wp_iload_n (pc := 0) C 1 dX11_cost_0 rfl rfl ?_
  refine wp_iconst (v := (-1)) (pc := 1) C dX11_cost_1 (by decide) ?_
  refine wp_icmp_eq (pc := 2) C 16 dX11_cost_2 (by decide) (fun q => ?_) (fun q => ?_)
  · have h := it_pos q h
    exact (wX11_cost_j16 C h)
  · have h := it_neg q h
    refine wp_aload_n (pc := 5) C 0 dX11_cost_5 rfl rfl ?_
    refine wp_iload_n (pc := 6) C 1 dX11_cost_6 rfl rfl ?_
    obtain ⟨S1, r2, cS1, h⟩ := bd_some h
    refine wp_callVi (As := [.int x1]) (st := []) (pc := 7) C (CtX11_isGood cS1) mX11_isGood iX11_isGood kX11_398 (Nat.le_of_ble_eq_true rfl) rfl (by decide) rfl rfl rfl rfl (Nat.le_of_ble_eq_true rfl) ⟨Nat.le_of_ble_eq_true rfl, Nat.le_of_ble_eq_true rfl⟩ dX11_cost_7 ?_
    refine wp_if_ne (pc := 10) C 16 dX11_cost_10 (by decide) (fun q => ?_) (fun q => ?_)
    · have h := it_neg q h
      exact (wX11_cost_j16 C h)
    · have h := it_pos q h
      refine wp_bipush (v := (-2)) (pc := 13) C dX11_cost_13 (by decide) ?_
      exact rt_i C rfl h dX11_cost_15
theorem CtX11_cost {n : Nat} {S S' : St} {r : Int32} {x1 : Int32} (h : fX11_cost n S x1 = some (S', r)) : Ct l sdM cy ad D yX11_cost cX11_cost 2 (some .int) 4 92 [.ref (ad 0), .int x1] S (some (.int r)) S' :=
  Ct_of (own := RX11) mX11_cost rfl (Nat.le_of_ble_eq_true rfl) (fun G e1 e2 e3 e4 C => by subst e1 e2 e3 e4; exact wX11_cost C h)
def fX11_ask (n : Nat) (S : St) (x1 : Int32) (x2 : Int32) (x3 : Int32) (x4 : Int32) : Option (St × Int32) :=
  gd (ib 4 5) (
  bd (fX11_isIn n S x1 0 ((S.1 4 (Int32.toNatClampNeg 4)) - 1)) (fun S2 r3 =>
  if r3 = 0 then
    some (S2, 0)
  else
    bd (fX11_isGround n S2 x2) (fun S4 r5 =>
    if r5 = 0 then
      some (S4, 0)
    else
      bd (fX11_isIn n S4 x3 0 (S4.1 0 34)) (fun S6 r7 =>
      if r7 = 0 then
        some (S6, 0)
      else
        bd (fX11_isIn n S6 x4 0 8) (fun S8 r9 =>
        if r9 = 0 then
          some (S8, 0)
        else
          bn (sI S8 0 46 x1) (fun S10 : St =>
          bn (sI S10 0 47 x2) (fun S11 : St =>
          bn (sI S11 0 48 x3) (fun S12 : St =>
          bn (sI S12 0 49 x4) (fun S13 : St =>
          bn (sI S13 0 50 1) (fun S14 : St =>
          some (S14, 1)))))))))))
set_option maxRecDepth 100000 in
set_option maxHeartbeats 4000000 in
theorem wX11_ask (C : Cx G sdM cX11_ask 5 RX11 (some .boolean)) {n : Nat} {S S' : St} {r : Int32} {x1 : Int32} {x2 : Int32} {x3 : Int32} {x4 : Int32} (h : fX11_ask n S x1 x2 x3 x4 = some (S', r)) : Wp G sdM (rmOf 2 43) 5 (Qm G sdM (some (.int r)) S') S 0 [(0, .ref (gA G 0)), (1, .int x1), (2, .int x2), (3, .int x3), (4, .int x4)] [] := by
  unfold fX11_ask at h
  refine wp_iload_n (pc := 0) C 1 dX11_ask_0 rfl rfl ?_
  refine wp_iconst (v := 0) (pc := 1) C dX11_ask_1 (by decide) ?_
  refine wp_aload_n (pc := 2) C 0 dX11_ask_2 rfl rfl ?_
  refine wp_getS (v := 4) (pc := 3) C flX11_24 rfl rfl (Nat.le_of_ble_eq_true rfl) (Nat.le_of_ble_eq_true rfl) rfl dX11_ask_3 ?_
  refine wp_iconst (v := 4) (pc := 6) C dX11_ask_6 (by decide) ?_
  obtain ⟨g1, h⟩ := gd_some h
  refine wp_iald (pc := 7) C (Nat.le_of_ble_eq_true rfl) rfl g1 dX11_ask_7 ?_
  refine wp_iconst (v := 1) (pc := 8) C dX11_ask_8 (by decide) ?_
  refine wp_isub (pc := 9) C dX11_ask_9 ?_
  obtain ⟨S2, r3, cS2, h⟩ := bd_some h
  refine wp_callSi (As := [.int x1, .int 0, .int ((S.1 4 (Int32.toNatClampNeg 4)) - 1)]) (st := []) (pc := 10) C (CtX11_isIn cS2) mX11_isIn sX11_isIn kX11_361 rfl rfl (Nat.le_of_ble_eq_true rfl) ⟨Nat.le_of_ble_eq_true rfl, Nat.le_of_ble_eq_true rfl⟩ dX11_ask_10 ?_
  refine wp_if_eq (pc := 13) C 47 dX11_ask_13 (by decide) (fun q => ?_) (fun q => ?_)
  · have h := it_pos q h
    refine wp_iconst (v := 0) (pc := 47) C dX11_ask_47 (by decide) ?_
    exact rt_z C (Or.inl rfl) rfl h dX11_ask_48
  · have h := it_neg q h
    refine wp_aload_n (pc := 16) C 0 dX11_ask_16 rfl rfl ?_
    refine wp_iload_n (pc := 17) C 2 dX11_ask_17 rfl rfl ?_
    obtain ⟨S4, r5, cS4, h⟩ := bd_some h
    refine wp_callVi (As := [.int x2]) (st := []) (pc := 18) C (CtX11_isGround cS4) mX11_isGround iX11_isGround kX11_423 (Nat.le_of_ble_eq_true rfl) rfl (by decide) rfl rfl rfl rfl (Nat.le_of_ble_eq_true rfl) ⟨Nat.le_of_ble_eq_true rfl, Nat.le_of_ble_eq_true rfl⟩ dX11_ask_18 ?_
    refine wp_if_eq (pc := 21) C 47 dX11_ask_21 (by decide) (fun q => ?_) (fun q => ?_)
    · have h := it_pos q h
      refine wp_iconst (v := 0) (pc := 47) C dX11_ask_47 (by decide) ?_
      exact rt_z C (Or.inl rfl) rfl h dX11_ask_48
    · have h := it_neg q h
      refine wp_iload_n (pc := 24) C 3 dX11_ask_24 rfl rfl ?_
      refine wp_iconst (v := 0) (pc := 25) C dX11_ask_25 (by decide) ?_
      refine wp_aload_n (pc := 26) C 0 dX11_ask_26 rfl rfl ?_
      refine wp_getI (pc := 27) C flX11_161 rfl (Nat.le_of_ble_eq_true rfl) rfl dX11_ask_27 ?_
      obtain ⟨S6, r7, cS6, h⟩ := bd_some h
      refine wp_callSi (As := [.int x3, .int 0, .int (S4.1 0 34)]) (st := []) (pc := 30) C (CtX11_isIn cS6) mX11_isIn sX11_isIn kX11_361 rfl rfl (Nat.le_of_ble_eq_true rfl) ⟨Nat.le_of_ble_eq_true rfl, Nat.le_of_ble_eq_true rfl⟩ dX11_ask_30 ?_
      refine wp_if_eq (pc := 33) C 47 dX11_ask_33 (by decide) (fun q => ?_) (fun q => ?_)
      · have h := it_pos q h
        refine wp_iconst (v := 0) (pc := 47) C dX11_ask_47 (by decide) ?_
        exact rt_z C (Or.inl rfl) rfl h dX11_ask_48
      · have h := it_neg q h
        refine wp_iload (pc := 36) C 4 dX11_ask_36 rfl ?_
        refine wp_iconst (v := 0) (pc := 38) C dX11_ask_38 (by decide) ?_
        refine wp_bipush (v := 8) (pc := 39) C dX11_ask_39 (by decide) ?_
        obtain ⟨S8, r9, cS8, h⟩ := bd_some h
        refine wp_callSi (As := [.int x4, .int 0, .int 8]) (st := []) (pc := 41) C (CtX11_isIn cS8) mX11_isIn sX11_isIn kX11_361 rfl rfl (Nat.le_of_ble_eq_true rfl) ⟨Nat.le_of_ble_eq_true rfl, Nat.le_of_ble_eq_true rfl⟩ dX11_ask_41 ?_
        refine wp_if_ne (pc := 44) C 49 dX11_ask_44 (by decide) (fun q => ?_) (fun q => ?_)
        · have h := it_neg q h
          refine wp_aload_n (pc := 49) C 0 dX11_ask_49 rfl rfl ?_
          refine wp_iload_n (pc := 50) C 1 dX11_ask_50 rfl rfl ?_
          obtain ⟨S10, eS10, h⟩ := bn_some h
          refine wp_putI (pc := 51) C eS10 flX11_426 fpX11_46 rfl (Nat.le_of_ble_eq_true rfl) rfl dX11_ask_51 ?_
          refine wp_aload_n (pc := 54) C 0 dX11_ask_54 rfl rfl ?_
          refine wp_iload_n (pc := 55) C 2 dX11_ask_55 rfl rfl ?_
          obtain ⟨S11, eS11, h⟩ := bn_some h
          refine wp_putI (pc := 56) C eS11 flX11_429 fpX11_47 rfl (Nat.le_of_ble_eq_true rfl) rfl dX11_ask_56 ?_
          refine wp_aload_n (pc := 59) C 0 dX11_ask_59 rfl rfl ?_
          refine wp_iload_n (pc := 60) C 3 dX11_ask_60 rfl rfl ?_
          obtain ⟨S12, eS12, h⟩ := bn_some h
          refine wp_putI (pc := 61) C eS12 flX11_432 fpX11_48 rfl (Nat.le_of_ble_eq_true rfl) rfl dX11_ask_61 ?_
          refine wp_aload_n (pc := 64) C 0 dX11_ask_64 rfl rfl ?_
          refine wp_iload (pc := 65) C 4 dX11_ask_65 rfl ?_
          obtain ⟨S13, eS13, h⟩ := bn_some h
          refine wp_putI (pc := 67) C eS13 flX11_435 fpX11_49 rfl (Nat.le_of_ble_eq_true rfl) rfl dX11_ask_67 ?_
          refine wp_aload_n (pc := 70) C 0 dX11_ask_70 rfl rfl ?_
          refine wp_iconst (v := 1) (pc := 71) C dX11_ask_71 (by decide) ?_
          obtain ⟨S14, eS14, h⟩ := bn_some h
          refine wp_putZ (pc := 72) C (Or.inr rfl) eS14 flX11_342 fpX11_50 rfl (Nat.le_of_ble_eq_true rfl) rfl dX11_ask_72 ?_
          refine wp_iconst (v := 1) (pc := 75) C dX11_ask_75 (by decide) ?_
          exact rt_z C (Or.inr rfl) rfl h dX11_ask_76
        · have h := it_pos q h
          refine wp_iconst (v := 0) (pc := 47) C dX11_ask_47 (by decide) ?_
          exact rt_z C (Or.inl rfl) rfl h dX11_ask_48
theorem CtX11_ask {n : Nat} {S S' : St} {r : Int32} {x1 : Int32} {x2 : Int32} {x3 : Int32} {x4 : Int32} (h : fX11_ask n S x1 x2 x3 x4 = some (S', r)) : Ct l sdM cy ad D yX11_ask cX11_ask 5 (some .boolean) 2 43 [.ref (ad 0), .int x1, .int x2, .int x3, .int x4] S (some (.int r)) S' :=
  Ct_of (own := RX11) mX11_ask rfl (Nat.le_of_ble_eq_true rfl) (fun G e1 e2 e3 e4 C => by subst e1 e2 e3 e4; exact wX11_ask C h)
def fX11_choose_j31 (n : Nat) (S : St) (x2 : Int64) : Option (St × Int32) :=
  some (S, (x2 : Int64).toInt32)
set_option maxRecDepth 100000 in
set_option maxHeartbeats 4000000 in
theorem wX11_choose_j31 (C : Cx G sdM cX11_choose 5 RX11 (some .int)) {n : Nat} {S S' : St} {r : Int32} {x2 : Int64} (h : fX11_choose_j31 n S x2 = some (S', r)) : Wp G sdM (rmOf 0 0) 5 (Qm G sdM (some (.int r)) S') S 31 [(2, .long x2)] [] := by
  unfold fX11_choose_j31 at h
  refine wp_lload_n (pc := 31) C 0 dX11_choose_31 rfl rfl ?_
  refine wp_l2i (pc := 32) C dX11_choose_32 ?_
  exact rt_i C rfl h dX11_choose_33
def fX11_choose_l5 (n : Nat) : Nat → St → Int32 → Int32 → Int64 → Int32 → Option (St × Int32)
  | 0, _, _, _, _, _ => none
  | j + 1, S, x0, x1, x2, x4 =>
    if x1 < x4 then
      fX11_choose_j31 n S x2
    else
      gd (¬ ((x4 : Int32).toInt64) = 0) (
      bn ((x2 * ((((x0 - x1) + x4) : Int32).toInt64)) / ((x4 : Int32).toInt64)) (fun z2 : Int64 =>
      bn (x4 + 1) (fun z3 : Int32 =>
      fX11_choose_l5 n j S x0 x1 z2 z3)))
set_option maxRecDepth 100000 in
set_option maxHeartbeats 4000000 in
theorem wX11_choose_l5 (C : Cx G sdM cX11_choose 5 RX11 (some .int)) {n : Nat} {S' : St} {r : Int32} : ∀ (j : Nat) (S : St) (x0 : Int32) (x1 : Int32) (x2 : Int64) (x4 : Int32), fX11_choose_l5 n j S x0 x1 x2 x4 = some (S', r) → Wp G sdM (rmOf 0 0) 5 (Qm G sdM (some (.int r)) S') S 5 [(0, .int x0), (1, .int x1), (2, .long x2), (4, .int x4)] [] := by
  intro j
  induction j with
  | zero =>
    intro S x0 x1 x2 x4 h
    exact nomatch (show (none : Option (St × Int32)) = some _ from h)
  | succ j ih =>
    intro S x0 x1 x2 x4 h
    rw [fX11_choose_l5] at h
    refine wp_iload (pc := 5) C 3 dX11_choose_5 rfl ?_
    refine wp_iload_n (pc := 7) C 1 dX11_choose_7 rfl rfl ?_
    refine wp_icmp_gt (pc := 8) C 31 dX11_choose_8 (by decide) (fun q => ?_) (fun q => ?_)
    · have h := it_pos q h
      exact wp_sub C [2] rfl (wX11_choose_j31 C h)
    · have h := it_neg q h
      refine wp_lload_n (pc := 11) C 2 dX11_choose_11 rfl rfl ?_
      refine wp_iload_n (pc := 12) C 0 dX11_choose_12 rfl rfl ?_
      refine wp_iload_n (pc := 13) C 1 dX11_choose_13 rfl rfl ?_
      refine wp_isub (pc := 14) C dX11_choose_14 ?_
      refine wp_iload (pc := 15) C 3 dX11_choose_15 rfl ?_
      refine wp_iadd (pc := 17) C dX11_choose_17 ?_
      refine wp_i2l (pc := 18) C dX11_choose_18 ?_
      refine wp_lmul (pc := 19) C dX11_choose_19 ?_
      refine wp_iload (pc := 20) C 3 dX11_choose_20 rfl ?_
      refine wp_i2l (pc := 22) C dX11_choose_22 ?_
      obtain ⟨g1, h⟩ := gd_some h
      refine wp_ldiv (pc := 23) C dX11_choose_23 g1 ?_
      obtain ⟨z2, ez2, h⟩ := bn_some h
      refine wp_lstore_n (pc := 24) C ez2 [(2, .long z2), (0, .int x0), (1, .int x1), (4, .int x4)] dX11_choose_24 rfl (Nat.le_of_ble_eq_true rfl) rfl ?_
      obtain ⟨z3, ez3, h⟩ := bn_some h
      refine wp_iinc (q := 3) (pc := 25) C (by decide) ez3 [(4, .int z3), (2, .long z2), (0, .int x0), (1, .int x1)] dX11_choose_25 rfl (Nat.le_of_ble_eq_true rfl) rfl ?_
      refine wp_goto (pc := 28) C 5 dX11_choose_28 (by decide) ?_
      exact wp_sub C [2, 3, 1, 0] rfl (ih _ _ _ _ _ h)
def fX11_choose (n : Nat) (S : St) (x0 : Int32) (x1 : Int32) : Option (St × Int32) :=
  fX11_choose_l5 n n S x0 x1 1 1
set_option maxRecDepth 100000 in
set_option maxHeartbeats 4000000 in
theorem wX11_choose (C : Cx G sdM cX11_choose 5 RX11 (some .int)) {n : Nat} {S S' : St} {r : Int32} {x0 : Int32} {x1 : Int32} (h : fX11_choose n S x0 x1 = some (S', r)) : Wp G sdM (rmOf 0 0) 5 (Qm G sdM (some (.int r)) S') S 0 [(0, .int x0), (1, .int x1)] [] := by
  unfold fX11_choose at h
  refine wp_lconst (v := 1) (pc := 0) C dX11_choose_0 (by decide) ?_
  refine wp_lstore_n (pc := 1) C rfl [(2, .long 1), (0, .int x0), (1, .int x1)] dX11_choose_1 rfl (Nat.le_of_ble_eq_true rfl) rfl ?_
  refine wp_iconst (v := 1) (pc := 2) C dX11_choose_2 (by decide) ?_
  refine wp_istore (pc := 3) C rfl [(4, .int 1), (2, .long 1), (0, .int x0), (1, .int x1)] dX11_choose_3 (Nat.le_of_ble_eq_true rfl) rfl ?_
  exact wp_sub C [2, 3, 1, 0] rfl (wX11_choose_l5 C _ _ _ _ _ _ h)
theorem CtX11_choose {n : Nat} {S S' : St} {r : Int32} {x0 : Int32} {x1 : Int32} (h : fX11_choose n S x0 x1 = some (S', r)) : Ct l sdM cy ad D yX11_choose cX11_choose 5 (some .int) 0 0 [.int x0, .int x1] S (some (.int r)) S' :=
  Ct_of (own := RX11) mX11_choose rfl (Nat.le_of_ble_eq_true rfl) (fun G e1 e2 e3 e4 C => by subst e1 e2 e3 e4; exact wX11_choose C h)
def fX11_mixes_l13 (n : Nat) : Nat → St → Int32 → Int32 → Option (St × Int32)
  | 0, _, _, _ => none
  | j + 1, S, x1, x2 =>
    if (S.1 0 49) < x2 then
      some (S, x1)
    else
      bd (fX11_dyes n S) (fun S1 r2 =>
      if r2 < x2 then
        some (S1, x1)
      else
        if (S1.1 0 48) < x2 then
          some (S1, x1)
        else
          bd (fX11_dyes n S1) (fun S3 r4 =>
          bd (fX11_choose n S3 r4 x2) (fun S5 r6 =>
          bd (fX11_choose n S5 (S5.1 0 48) x2) (fun S7 r8 =>
          bn (x1 + (r6 * r8)) (fun z9 : Int32 =>
          bn (x2 + 1) (fun z10 : Int32 =>
          fX11_mixes_l13 n j S7 z9 z10))))))
set_option maxRecDepth 100000 in
set_option maxHeartbeats 4000000 in
theorem wX11_mixes_l13 (C : Cx G sdM cX11_mixes 3 RX11 (some .int)) {n : Nat} {S' : St} {r : Int32} : ∀ (j : Nat) (S : St) (x1 : Int32) (x2 : Int32), fX11_mixes_l13 n j S x1 x2 = some (S', r) → Wp G sdM (rmOf 1 24) 3 (Qm G sdM (some (.int r)) S') S 13 [(0, .ref (gA G 0)), (1, .int x1), (2, .int x2)] [] := by
  intro j
  induction j with
  | zero =>
    intro S x1 x2 h
    exact nomatch (show (none : Option (St × Int32)) = some _ from h)
  | succ j ih =>
    intro S x1 x2 h
    rw [fX11_mixes_l13] at h
    refine wp_iload_n (pc := 13) C 2 dX11_mixes_13 rfl rfl ?_
    refine wp_aload_n (pc := 14) C 0 dX11_mixes_14 rfl rfl ?_
    refine wp_getI (pc := 15) C flX11_435 rfl (Nat.le_of_ble_eq_true rfl) rfl dX11_mixes_15 ?_
    refine wp_icmp_gt (pc := 18) C 63 dX11_mixes_18 (by decide) (fun q => ?_) (fun q => ?_)
    · have h := it_pos q h
      refine wp_iload_n (pc := 63) C 1 dX11_mixes_63 rfl rfl ?_
      exact rt_i C rfl h dX11_mixes_64
    · have h := it_neg q h
      refine wp_iload_n (pc := 21) C 2 dX11_mixes_21 rfl rfl ?_
      refine wp_aload_n (pc := 22) C 0 dX11_mixes_22 rfl rfl ?_
      obtain ⟨S1, r2, cS1, h⟩ := bd_some h
      refine wp_callVi (As := []) (st := [.int x2]) (pc := 23) C (CtX11_dyes cS1) mX11_dyes iX11_dyes kX11_357 (Nat.le_of_ble_eq_true rfl) rfl (by decide) rfl rfl rfl rfl (Nat.le_of_ble_eq_true rfl) ⟨Nat.le_of_ble_eq_true rfl, Nat.le_of_ble_eq_true rfl⟩ dX11_mixes_23 ?_
      refine wp_icmp_gt (pc := 26) C 63 dX11_mixes_26 (by decide) (fun q => ?_) (fun q => ?_)
      · have h := it_pos q h
        refine wp_iload_n (pc := 63) C 1 dX11_mixes_63 rfl rfl ?_
        exact rt_i C rfl h dX11_mixes_64
      · have h := it_neg q h
        refine wp_iload_n (pc := 29) C 2 dX11_mixes_29 rfl rfl ?_
        refine wp_aload_n (pc := 30) C 0 dX11_mixes_30 rfl rfl ?_
        refine wp_getI (pc := 31) C flX11_432 rfl (Nat.le_of_ble_eq_true rfl) rfl dX11_mixes_31 ?_
        refine wp_icmp_gt (pc := 34) C 63 dX11_mixes_34 (by decide) (fun q => ?_) (fun q => ?_)
        · have h := it_pos q h
          refine wp_iload_n (pc := 63) C 1 dX11_mixes_63 rfl rfl ?_
          exact rt_i C rfl h dX11_mixes_64
        · have h := it_neg q h
          refine wp_iload_n (pc := 37) C 1 dX11_mixes_37 rfl rfl ?_
          refine wp_aload_n (pc := 38) C 0 dX11_mixes_38 rfl rfl ?_
          obtain ⟨S3, r4, cS3, h⟩ := bd_some h
          refine wp_callVi (As := []) (st := [.int x1]) (pc := 39) C (CtX11_dyes cS3) mX11_dyes iX11_dyes kX11_357 (Nat.le_of_ble_eq_true rfl) rfl (by decide) rfl rfl rfl rfl (Nat.le_of_ble_eq_true rfl) ⟨Nat.le_of_ble_eq_true rfl, Nat.le_of_ble_eq_true rfl⟩ dX11_mixes_39 ?_
          refine wp_iload_n (pc := 42) C 2 dX11_mixes_42 rfl rfl ?_
          obtain ⟨S5, r6, cS5, h⟩ := bd_some h
          refine wp_callSi (As := [.int r4, .int x2]) (st := [.int x1]) (pc := 43) C (CtX11_choose cS5) mX11_choose sX11_choose kX11_438 rfl rfl (Nat.le_of_ble_eq_true rfl) ⟨Nat.le_of_ble_eq_true rfl, Nat.le_of_ble_eq_true rfl⟩ dX11_mixes_43 ?_
          refine wp_aload_n (pc := 46) C 0 dX11_mixes_46 rfl rfl ?_
          refine wp_getI (pc := 47) C flX11_432 rfl (Nat.le_of_ble_eq_true rfl) rfl dX11_mixes_47 ?_
          refine wp_iload_n (pc := 50) C 2 dX11_mixes_50 rfl rfl ?_
          obtain ⟨S7, r8, cS7, h⟩ := bd_some h
          refine wp_callSi (As := [.int (S5.1 0 48), .int x2]) (st := [.int r6, .int x1]) (pc := 51) C (CtX11_choose cS7) mX11_choose sX11_choose kX11_438 rfl rfl (Nat.le_of_ble_eq_true rfl) ⟨Nat.le_of_ble_eq_true rfl, Nat.le_of_ble_eq_true rfl⟩ dX11_mixes_51 ?_
          refine wp_imul (pc := 54) C dX11_mixes_54 ?_
          refine wp_iadd (pc := 55) C dX11_mixes_55 ?_
          obtain ⟨z9, ez9, h⟩ := bn_some h
          refine wp_istore_n (pc := 56) C ez9 [(1, .int z9), (0, .ref (gA G 0)), (2, .int x2)] dX11_mixes_56 rfl (Nat.le_of_ble_eq_true rfl) rfl ?_
          obtain ⟨z10, ez10, h⟩ := bn_some h
          refine wp_iinc (q := 2) (pc := 57) C (by decide) ez10 [(2, .int z10), (1, .int z9), (0, .ref (gA G 0))] dX11_mixes_57 rfl (Nat.le_of_ble_eq_true rfl) rfl ?_
          refine wp_goto (pc := 60) C 13 dX11_mixes_60 (by decide) ?_
          exact wp_sub C [2, 1, 0] rfl (ih _ _ _ h)
def fX11_mixes (n : Nat) (S : St) : Option (St × Int32) :=
  if (S.1 0 50) = 0 then
    some (S, (-1))
  else
    fX11_mixes_l13 n n S 0 0
set_option maxRecDepth 100000 in
set_option maxHeartbeats 4000000 in
theorem wX11_mixes (C : Cx G sdM cX11_mixes 3 RX11 (some .int)) {n : Nat} {S S' : St} {r : Int32} (h : fX11_mixes n S = some (S', r)) : Wp G sdM (rmOf 1 24) 3 (Qm G sdM (some (.int r)) S') S 0 [(0, .ref (gA G 0))] [] := by
  unfold fX11_mixes at h
  refine wp_aload_n (pc := 0) C 0 dX11_mixes_0 rfl rfl ?_
  refine wp_getI (pc := 1) C flX11_342 rfl (Nat.le_of_ble_eq_true rfl) rfl dX11_mixes_1 ?_
  refine wp_if_ne (pc := 4) C 9 dX11_mixes_4 (by decide) (fun q => ?_) (fun q => ?_)
  · have h := it_neg q h
    refine wp_iconst (v := 0) (pc := 9) C dX11_mixes_9 (by decide) ?_
    refine wp_istore_n (pc := 10) C rfl [(1, .int 0), (0, .ref (gA G 0))] dX11_mixes_10 rfl (Nat.le_of_ble_eq_true rfl) rfl ?_
    refine wp_iconst (v := 0) (pc := 11) C dX11_mixes_11 (by decide) ?_
    refine wp_istore_n (pc := 12) C rfl [(2, .int 0), (1, .int 0), (0, .ref (gA G 0))] dX11_mixes_12 rfl (Nat.le_of_ble_eq_true rfl) rfl ?_
    exact wp_sub C [2, 1, 0] rfl (wX11_mixes_l13 C _ _ _ _ h)
  · have h := it_pos q h
    refine wp_iconst (v := (-1)) (pc := 7) C dX11_mixes_7 (by decide) ?_
    exact rt_i C rfl h dX11_mixes_8
theorem CtX11_mixes {n : Nat} {S S' : St} {r : Int32} (h : fX11_mixes n S = some (S', r)) : Ct l sdM cy ad D yX11_mixes cX11_mixes 3 (some .int) 1 24 [.ref (ad 0)] S (some (.int r)) S' :=
  Ct_of (own := RX11) mX11_mixes rfl (Nat.le_of_ble_eq_true rfl) (fun G e1 e2 e3 e4 C => by subst e1 e2 e3 e4; exact wX11_mixes C h)
def fX11_beginMixes_j44 (n : Nat) (S : St) : Option (St × Unit) :=
  bd (fX11_lay n S 1) (fun S1 r2 =>
  some (S1, ()))
set_option maxRecDepth 100000 in
set_option maxHeartbeats 4000000 in
theorem wX11_beginMixes_j44 (C : Cx G sdM cX11_beginMixes 2 RX11 none) {n : Nat} {S S' : St} {r : Unit} (h : fX11_beginMixes_j44 n S = some (S', r)) : Wp G sdM (rmOf 4 92) 2 (Qm G sdM none S') S 44 [(0, .ref (gA G 0))] [] := by
  unfold fX11_beginMixes_j44 at h
  refine wp_aload_n (pc := 44) C 0 dX11_beginMixes_44 rfl rfl ?_
  refine wp_iconst (v := 1) (pc := 45) C dX11_beginMixes_45 (by decide) ?_
  obtain ⟨S1, r2, cS1, h⟩ := bd_some h
  refine wp_callVv (As := [.int 1]) (st := []) (pc := 46) C (CtX11_lay cS1) mX11_lay iX11_lay kX11_382 (Nat.le_of_ble_eq_true rfl) rfl (by decide) rfl rfl rfl rfl (Nat.le_of_ble_eq_true rfl) ⟨Nat.le_of_ble_eq_true rfl, Nat.le_of_ble_eq_true rfl⟩ dX11_beginMixes_46 ?_
  exact rt_v C rfl h dX11_beginMixes_49
def fX11_beginMixes_l22 (n : Nat) : Nat → St → Int32 → Option (St × Unit)
  | 0, _, _ => none
  | j + 1, S, x1 =>
    if 8 ≤ x1 then
      fX11_beginMixes_j44 n S
    else
      gd (ib (8 + x1) 16) (
      bn (sI S 21 (Int32.toNatClampNeg (8 + x1)) 0) (fun S2 : St =>
      bn (x1 + 1) (fun z3 : Int32 =>
      fX11_beginMixes_l22 n j S2 z3)))
set_option maxRecDepth 100000 in
set_option maxHeartbeats 4000000 in
theorem wX11_beginMixes_l22 (C : Cx G sdM cX11_beginMixes 2 RX11 none) {n : Nat} {S' : St} {r : Unit} : ∀ (j : Nat) (S : St) (x1 : Int32), fX11_beginMixes_l22 n j S x1 = some (S', r) → Wp G sdM (rmOf 4 92) 2 (Qm G sdM none S') S 22 [(0, .ref (gA G 0)), (1, .int x1)] [] := by
  intro j
  induction j with
  | zero =>
    intro S x1 h
    exact nomatch (show (none : Option (St × Unit)) = some _ from h)
  | succ j ih =>
    intro S x1 h
    rw [fX11_beginMixes_l22] at h
    refine wp_iload_n (pc := 22) C 1 dX11_beginMixes_22 rfl rfl ?_
    refine wp_bipush (v := 8) (pc := 23) C dX11_beginMixes_23 (by decide) ?_
    refine wp_icmp_ge (pc := 25) C 44 dX11_beginMixes_25 (by decide) (fun q => ?_) (fun q => ?_)
    · have h := it_pos q h
      exact wp_sub C [0] rfl (wX11_beginMixes_j44 C h)
    · have h := it_neg q h
      refine wp_aload_n (pc := 28) C 0 dX11_beginMixes_28 rfl rfl ?_
      refine wp_getS (v := 21) (pc := 29) C flX11_75 rfl rfl (Nat.le_of_ble_eq_true rfl) (Nat.le_of_ble_eq_true rfl) rfl dX11_beginMixes_29 ?_
      refine wp_bipush (v := 8) (pc := 32) C dX11_beginMixes_32 (by decide) ?_
      refine wp_iload_n (pc := 34) C 1 dX11_beginMixes_34 rfl rfl ?_
      refine wp_iadd (pc := 35) C dX11_beginMixes_35 ?_
      refine wp_iconst (v := 0) (pc := 36) C dX11_beginMixes_36 (by decide) ?_
      obtain ⟨g1, h⟩ := gd_some h
      obtain ⟨S2, eS2, h⟩ := bn_some h
      refine wp_iast (pc := 37) C eS2 (Nat.le_of_ble_eq_true rfl) rfl g1 dX11_beginMixes_37 ?_
      obtain ⟨z3, ez3, h⟩ := bn_some h
      refine wp_iinc (q := 1) (pc := 38) C (by decide) ez3 [(1, .int z3), (0, .ref (gA G 0))] dX11_beginMixes_38 rfl (Nat.le_of_ble_eq_true rfl) rfl ?_
      refine wp_goto (pc := 41) C 22 dX11_beginMixes_41 (by decide) ?_
      exact wp_sub C [1, 0] rfl (ih _ _ h)
def fX11_beginMixes (n : Nat) (S : St) : Option (St × Unit) :=
  bd (fX11_become n S 0 (S.1 0 46) (-1)) (fun S1 r2 =>
  gd (ib 1 2) (
  bn (sI S1 22 (Int32.toNatClampNeg 1) (S1.1 0 47)) (fun S4 : St =>
  fX11_beginMixes_l22 n n S4 0)))
set_option maxRecDepth 100000 in
set_option maxHeartbeats 4000000 in
theorem wX11_beginMixes (C : Cx G sdM cX11_beginMixes 2 RX11 none) {n : Nat} {S S' : St} {r : Unit} (h : fX11_beginMixes n S = some (S', r)) : Wp G sdM (rmOf 4 92) 2 (Qm G sdM none S') S 0 [(0, .ref (gA G 0))] [] := by
  unfold fX11_beginMixes at h
  refine wp_aload_n (pc := 0) C 0 dX11_beginMixes_0 rfl rfl ?_
  refine wp_iconst (v := 0) (pc := 1) C dX11_beginMixes_1 (by decide) ?_
  refine wp_aload_n (pc := 2) C 0 dX11_beginMixes_2 rfl rfl ?_
  refine wp_getI (pc := 3) C flX11_426 rfl (Nat.le_of_ble_eq_true rfl) rfl dX11_beginMixes_3 ?_
  refine wp_iconst (v := (-1)) (pc := 6) C dX11_beginMixes_6 (by decide) ?_
  obtain ⟨S1, r2, cS1, h⟩ := bd_some h
  refine wp_callVv (As := [.int 0, .int (S.1 0 46), .int (-1)]) (st := []) (pc := 7) C (CtX11_become cS1) mX11_become iX11_become kX11_401 (Nat.le_of_ble_eq_true rfl) rfl (by decide) rfl rfl rfl rfl (Nat.le_of_ble_eq_true rfl) ⟨Nat.le_of_ble_eq_true rfl, Nat.le_of_ble_eq_true rfl⟩ dX11_beginMixes_7 ?_
  refine wp_aload_n (pc := 10) C 0 dX11_beginMixes_10 rfl rfl ?_
  refine wp_getS (v := 22) (pc := 11) C flX11_78 rfl rfl (Nat.le_of_ble_eq_true rfl) (Nat.le_of_ble_eq_true rfl) rfl dX11_beginMixes_11 ?_
  refine wp_iconst (v := 1) (pc := 14) C dX11_beginMixes_14 (by decide) ?_
  refine wp_aload_n (pc := 15) C 0 dX11_beginMixes_15 rfl rfl ?_
  refine wp_getI (pc := 16) C flX11_429 rfl (Nat.le_of_ble_eq_true rfl) rfl dX11_beginMixes_16 ?_
  obtain ⟨g3, h⟩ := gd_some h
  obtain ⟨S4, eS4, h⟩ := bn_some h
  refine wp_iast (pc := 19) C eS4 (Nat.le_of_ble_eq_true rfl) rfl g3 dX11_beginMixes_19 ?_
  refine wp_iconst (v := 0) (pc := 20) C dX11_beginMixes_20 (by decide) ?_
  refine wp_istore_n (pc := 21) C rfl [(1, .int 0), (0, .ref (gA G 0))] dX11_beginMixes_21 rfl (Nat.le_of_ble_eq_true rfl) rfl ?_
  exact wp_sub C [1, 0] rfl (wX11_beginMixes_l22 C _ _ _ h)
theorem CtX11_beginMixes {n : Nat} {S S' : St} {r : Unit} (h : fX11_beginMixes n S = some (S', r)) : Ct l sdM cy ad D yX11_beginMixes cX11_beginMixes 2 none 4 92 [.ref (ad 0)] S none S' :=
  Ct_of (own := RX11) mX11_beginMixes rfl (Nat.le_of_ble_eq_true rfl) (fun G e1 e2 e3 e4 C => by subst e1 e2 e3 e4; exact wX11_beginMixes C h)
def fX11_unlike_j30 (n : Nat) (k4 : St → Int32 → Int32 → Option (St × Int32)) (S : St) (x2 : Int32) (y0 : Int32) (y1 : Int32) : Option (St × Int32) :=
  bn (y0 + y1) (fun z1 : Int32 =>
  bn (x2 + 1) (fun z2 : Int32 =>
  k4 S z1 z2))
set_option maxRecDepth 100000 in
set_option maxHeartbeats 4000000 in
theorem wX11_unlike_j30 (C : Cx G sdM cX11_unlike 3 RX11 (some .int)) {n : Nat} {k4 : St → Int32 → Int32 → Option (St × Int32)} {S S' : St} {r : Int32} {x2 : Int32} {y0 : Int32} {y1 : Int32} (hk4 : ∀ (S : St) (x1 : Int32) (x2 : Int32), k4 S x1 x2 = some (S', r) → Wp G sdM (rmOf 1 20) 3 (Qm G sdM (some (.int r)) S') S 4 [(0, .ref (gA G 0)), (1, .int x1), (2, .int x2)] []) (h : fX11_unlike_j30 n k4 S x2 y0 y1 = some (S', r)) : Wp G sdM (rmOf 1 20) 3 (Qm G sdM (some (.int r)) S') S 30 [(0, .ref (gA G 0)), (2, .int x2)] [.int y1, .int y0] := by
  unfold fX11_unlike_j30 at h
  refine wp_iadd (pc := 30) C dX11_unlike_30 ?_
  obtain ⟨z1, ez1, h⟩ := bn_some h
  refine wp_istore_n (pc := 31) C ez1 [(1, .int z1), (0, .ref (gA G 0)), (2, .int x2)] dX11_unlike_31 rfl (Nat.le_of_ble_eq_true rfl) rfl ?_
  obtain ⟨z2, ez2, h⟩ := bn_some h
  refine wp_iinc (q := 2) (pc := 32) C (by decide) ez2 [(2, .int z2), (1, .int z1), (0, .ref (gA G 0))] dX11_unlike_32 rfl (Nat.le_of_ble_eq_true rfl) rfl ?_
  refine wp_goto (pc := 35) C 4 dX11_unlike_35 (by decide) ?_
  exact wp_sub C [2, 1, 0] rfl (hk4 _ _ _ h)
def fX11_unlike_l4 (n : Nat) : Nat → St → Int32 → Int32 → Option (St × Int32)
  | 0, _, _, _ => none
  | j + 1, S, x1, x2 =>
    bd (fX11_dyes n S) (fun S1 r2 =>
    if r2 ≤ x2 then
      some (S1, x1)
    else
      gd (ib (8 + x2) 16) (
      if (S1.1 21 (Int32.toNatClampNeg (8 + x2))) ≤ 0 then
        fX11_unlike_j30 n (fX11_unlike_l4 n j) S1 x2 x1 0
      else
        fX11_unlike_j30 n (fX11_unlike_l4 n j) S1 x2 x1 1))
set_option maxRecDepth 100000 in
set_option maxHeartbeats 4000000 in
theorem wX11_unlike_l4 (C : Cx G sdM cX11_unlike 3 RX11 (some .int)) {n : Nat} {S' : St} {r : Int32} : ∀ (j : Nat) (S : St) (x1 : Int32) (x2 : Int32), fX11_unlike_l4 n j S x1 x2 = some (S', r) → Wp G sdM (rmOf 1 20) 3 (Qm G sdM (some (.int r)) S') S 4 [(0, .ref (gA G 0)), (1, .int x1), (2, .int x2)] [] := by
  intro j
  induction j with
  | zero =>
    intro S x1 x2 h
    exact nomatch (show (none : Option (St × Int32)) = some _ from h)
  | succ j ih =>
    intro S x1 x2 h
    rw [fX11_unlike_l4] at h
    refine wp_iload_n (pc := 4) C 2 dX11_unlike_4 rfl rfl ?_
    refine wp_aload_n (pc := 5) C 0 dX11_unlike_5 rfl rfl ?_
    obtain ⟨S1, r2, cS1, h⟩ := bd_some h
    refine wp_callVi (As := []) (st := [.int x2]) (pc := 6) C (CtX11_dyes cS1) mX11_dyes iX11_dyes kX11_357 (Nat.le_of_ble_eq_true rfl) rfl (by decide) rfl rfl rfl rfl (Nat.le_of_ble_eq_true rfl) ⟨Nat.le_of_ble_eq_true rfl, Nat.le_of_ble_eq_true rfl⟩ dX11_unlike_6 ?_
    refine wp_icmp_ge (pc := 9) C 38 dX11_unlike_9 (by decide) (fun q => ?_) (fun q => ?_)
    · have h := it_pos q h
      refine wp_iload_n (pc := 38) C 1 dX11_unlike_38 rfl rfl ?_
      exact rt_i C rfl h dX11_unlike_39
    · have h := it_neg q h
      refine wp_iload_n (pc := 12) C 1 dX11_unlike_12 rfl rfl ?_
      refine wp_aload_n (pc := 13) C 0 dX11_unlike_13 rfl rfl ?_
      refine wp_getS (v := 21) (pc := 14) C flX11_75 rfl rfl (Nat.le_of_ble_eq_true rfl) (Nat.le_of_ble_eq_true rfl) rfl dX11_unlike_14 ?_
      refine wp_bipush (v := 8) (pc := 17) C dX11_unlike_17 (by decide) ?_
      refine wp_iload_n (pc := 19) C 2 dX11_unlike_19 rfl rfl ?_
      refine wp_iadd (pc := 20) C dX11_unlike_20 ?_
      obtain ⟨g3, h⟩ := gd_some h
      refine wp_iald (pc := 21) C (Nat.le_of_ble_eq_true rfl) rfl g3 dX11_unlike_21 ?_
      refine wp_if_le (pc := 22) C 29 dX11_unlike_22 (by decide) (fun q => ?_) (fun q => ?_)
      · have h := it_pos q h
        refine wp_iconst (v := 0) (pc := 29) C dX11_unlike_29 (by decide) ?_
        exact wp_sub C [0, 2] rfl (wX11_unlike_j30 C ih h)
      · have h := it_neg q h
        refine wp_iconst (v := 1) (pc := 25) C dX11_unlike_25 (by decide) ?_
        refine wp_goto (pc := 26) C 30 dX11_unlike_26 (by decide) ?_
        exact wp_sub C [0, 2] rfl (wX11_unlike_j30 C ih h)
def fX11_unlike (n : Nat) (S : St) : Option (St × Int32) :=
  fX11_unlike_l4 n n S 0 0
set_option maxRecDepth 100000 in
set_option maxHeartbeats 4000000 in
theorem wX11_unlike (C : Cx G sdM cX11_unlike 3 RX11 (some .int)) {n : Nat} {S S' : St} {r : Int32} (h : fX11_unlike n S = some (S', r)) : Wp G sdM (rmOf 1 20) 3 (Qm G sdM (some (.int r)) S') S 0 [(0, .ref (gA G 0))] [] := by
  unfold fX11_unlike at h
  refine wp_iconst (v := 0) (pc := 0) C dX11_unlike_0 (by decide) ?_
  refine wp_istore_n (pc := 1) C rfl [(1, .int 0), (0, .ref (gA G 0))] dX11_unlike_1 rfl (Nat.le_of_ble_eq_true rfl) rfl ?_
  refine wp_iconst (v := 0) (pc := 2) C dX11_unlike_2 (by decide) ?_
  refine wp_istore_n (pc := 3) C rfl [(2, .int 0), (1, .int 0), (0, .ref (gA G 0))] dX11_unlike_3 rfl (Nat.le_of_ble_eq_true rfl) rfl ?_
  exact wp_sub C [2, 1, 0] rfl (wX11_unlike_l4 C _ _ _ _ h)
theorem CtX11_unlike {n : Nat} {S S' : St} {r : Int32} (h : fX11_unlike n S = some (S', r)) : Ct l sdM cy ad D yX11_unlike cX11_unlike 3 (some .int) 1 20 [.ref (ad 0)] S (some (.int r)) S' :=
  Ct_of (own := RX11) mX11_unlike rfl (Nat.le_of_ble_eq_true rfl) (fun G e1 e2 e3 e4 C => by subst e1 e2 e3 e4; exact wX11_unlike C h)
def fX11_nextMix_j54 (n : Nat) (k7 : St → Int32 → Option (St × Int32)) (S : St) (x1 : Int32) : Option (St × Int32) :=
  gd (ib (8 + x1) 16) (
  bn (sI S 21 (Int32.toNatClampNeg (8 + x1)) 0) (fun S2 : St =>
  bn (x1 + (-1)) (fun z3 : Int32 =>
  k7 S2 z3)))
set_option maxRecDepth 100000 in
set_option maxHeartbeats 4000000 in
theorem wX11_nextMix_j54 (C : Cx G sdM cX11_nextMix 2 RX11 (some .boolean)) {n : Nat} {k7 : St → Int32 → Option (St × Int32)} {S S' : St} {r : Int32} {x1 : Int32} (hk7 : ∀ (S : St) (x1 : Int32), k7 S x1 = some (S', r) → Wp G sdM (rmOf 3 68) 2 (Qm G sdM (some (.int r)) S') S 7 [(0, .ref (gA G 0)), (1, .int x1)] []) (h : fX11_nextMix_j54 n k7 S x1 = some (S', r)) : Wp G sdM (rmOf 3 68) 2 (Qm G sdM (some (.int r)) S') S 54 [(0, .ref (gA G 0)), (1, .int x1)] [] := by
  unfold fX11_nextMix_j54 at h
  refine wp_aload_n (pc := 54) C 0 dX11_nextMix_54 rfl rfl ?_
  refine wp_getS (v := 21) (pc := 55) C flX11_75 rfl rfl (Nat.le_of_ble_eq_true rfl) (Nat.le_of_ble_eq_true rfl) rfl dX11_nextMix_55 ?_
  refine wp_bipush (v := 8) (pc := 58) C dX11_nextMix_58 (by decide) ?_
  refine wp_iload_n (pc := 60) C 1 dX11_nextMix_60 rfl rfl ?_
  refine wp_iadd (pc := 61) C dX11_nextMix_61 ?_
  refine wp_iconst (v := 0) (pc := 62) C dX11_nextMix_62 (by decide) ?_
  obtain ⟨g1, h⟩ := gd_some h
  obtain ⟨S2, eS2, h⟩ := bn_some h
  refine wp_iast (pc := 63) C eS2 (Nat.le_of_ble_eq_true rfl) rfl g1 dX11_nextMix_63 ?_
  obtain ⟨z3, ez3, h⟩ := bn_some h
  refine wp_iinc (q := 1) (pc := 64) C (by decide) ez3 [(1, .int z3), (0, .ref (gA G 0))] dX11_nextMix_64 rfl (Nat.le_of_ble_eq_true rfl) rfl ?_
  refine wp_goto (pc := 67) C 7 dX11_nextMix_67 (by decide) ?_
  exact wp_sub C [1, 0] rfl (hk7 _ _ h)
def fX11_nextMix_j47 (n : Nat) (S : St) : Option (St × Int32) :=
  bd (fX11_lay n S 1) (fun S1 r2 =>
  some (S1, 1))
set_option maxRecDepth 100000 in
set_option maxHeartbeats 4000000 in
theorem wX11_nextMix_j47 (C : Cx G sdM cX11_nextMix 2 RX11 (some .boolean)) {n : Nat} {S S' : St} {r : Int32} (h : fX11_nextMix_j47 n S = some (S', r)) : Wp G sdM (rmOf 3 68) 2 (Qm G sdM (some (.int r)) S') S 47 [(0, .ref (gA G 0))] [] := by
  unfold fX11_nextMix_j47 at h
  refine wp_aload_n (pc := 47) C 0 dX11_nextMix_47 rfl rfl ?_
  refine wp_iconst (v := 1) (pc := 48) C dX11_nextMix_48 (by decide) ?_
  obtain ⟨S1, r2, cS1, h⟩ := bd_some h
  refine wp_callVv (As := [.int 1]) (st := []) (pc := 49) C (CtX11_lay cS1) mX11_lay iX11_lay kX11_382 (Nat.le_of_ble_eq_true rfl) rfl (by decide) rfl rfl rfl rfl (Nat.le_of_ble_eq_true rfl) ⟨Nat.le_of_ble_eq_true rfl, Nat.le_of_ble_eq_true rfl⟩ dX11_nextMix_49 ?_
  refine wp_iconst (v := 1) (pc := 52) C dX11_nextMix_52 (by decide) ?_
  exact rt_z C (Or.inr rfl) rfl h dX11_nextMix_53
def fX11_nextMix_l7 (n : Nat) : Nat → St → Int32 → Option (St × Int32)
  | 0, _, _ => none
  | j + 1, S, x1 =>
    if x1 < 0 then
      some (S, 0)
    else
      gd (ib (8 + x1) 16) (
      gd (ib (8 + x1) 16) (
      bn (sI S 21 (Int32.toNatClampNeg (8 + x1)) ((S.1 21 (Int32.toNatClampNeg (8 + x1))) + 1)) (fun S3 : St =>
      bd (fX11_sumOf n S3 1) (fun S4 r5 =>
      if (S4.1 0 48) < r5 then
        fX11_nextMix_j54 n (fX11_nextMix_l7 n j) S4 x1
      else
        bd (fX11_unlike n S4) (fun S6 r7 =>
        if (S6.1 0 49) < r7 then
          fX11_nextMix_j54 n (fX11_nextMix_l7 n j) S6 x1
        else
          fX11_nextMix_j47 n S6)))))
set_option maxRecDepth 100000 in
set_option maxHeartbeats 4000000 in
theorem wX11_nextMix_l7 (C : Cx G sdM cX11_nextMix 2 RX11 (some .boolean)) {n : Nat} {S' : St} {r : Int32} : ∀ (j : Nat) (S : St) (x1 : Int32), fX11_nextMix_l7 n j S x1 = some (S', r) → Wp G sdM (rmOf 3 68) 2 (Qm G sdM (some (.int r)) S') S 7 [(0, .ref (gA G 0)), (1, .int x1)] [] := by
  intro j
  induction j with
  | zero =>
    intro S x1 h
    exact nomatch (show (none : Option (St × Int32)) = some _ from h)
  | succ j ih =>
    intro S x1 h
    rw [fX11_nextMix_l7] at h
    refine wp_iload_n (pc := 7) C 1 dX11_nextMix_7 rfl rfl ?_
    refine wp_if_lt (pc := 8) C 70 dX11_nextMix_8 (by decide) (fun q => ?_) (fun q => ?_)
    · have h := it_pos q h
      refine wp_iconst (v := 0) (pc := 70) C dX11_nextMix_70 (by decide) ?_
      exact rt_z C (Or.inl rfl) rfl h dX11_nextMix_71
    · have h := it_neg q h
      refine wp_aload_n (pc := 11) C 0 dX11_nextMix_11 rfl rfl ?_
      refine wp_getS (v := 21) (pc := 12) C flX11_75 rfl rfl (Nat.le_of_ble_eq_true rfl) (Nat.le_of_ble_eq_true rfl) rfl dX11_nextMix_12 ?_
      refine wp_bipush (v := 8) (pc := 15) C dX11_nextMix_15 (by decide) ?_
      refine wp_iload_n (pc := 17) C 1 dX11_nextMix_17 rfl rfl ?_
      refine wp_iadd (pc := 18) C dX11_nextMix_18 ?_
      refine wp_dup2_11 (pc := 19) C dX11_nextMix_19 rfl rfl ?_
      obtain ⟨g1, h⟩ := gd_some h
      refine wp_iald (pc := 20) C (Nat.le_of_ble_eq_true rfl) rfl g1 dX11_nextMix_20 ?_
      refine wp_iconst (v := 1) (pc := 21) C dX11_nextMix_21 (by decide) ?_
      refine wp_iadd (pc := 22) C dX11_nextMix_22 ?_
      obtain ⟨g2, h⟩ := gd_some h
      obtain ⟨S3, eS3, h⟩ := bn_some h
      refine wp_iast (pc := 23) C eS3 (Nat.le_of_ble_eq_true rfl) rfl g2 dX11_nextMix_23 ?_
      refine wp_aload_n (pc := 24) C 0 dX11_nextMix_24 rfl rfl ?_
      refine wp_iconst (v := 1) (pc := 25) C dX11_nextMix_25 (by decide) ?_
      obtain ⟨S4, r5, cS4, h⟩ := bd_some h
      refine wp_callVi (As := [.int 1]) (st := []) (pc := 26) C (CtX11_sumOf cS4) mX11_sumOf iX11_sumOf kX11_441 (Nat.le_of_ble_eq_true rfl) rfl (by decide) rfl rfl rfl rfl (Nat.le_of_ble_eq_true rfl) ⟨Nat.le_of_ble_eq_true rfl, Nat.le_of_ble_eq_true rfl⟩ dX11_nextMix_26 ?_
      refine wp_aload_n (pc := 29) C 0 dX11_nextMix_29 rfl rfl ?_
      refine wp_getI (pc := 30) C flX11_432 rfl (Nat.le_of_ble_eq_true rfl) rfl dX11_nextMix_30 ?_
      refine wp_icmp_gt (pc := 33) C 54 dX11_nextMix_33 (by decide) (fun q => ?_) (fun q => ?_)
      · have h := it_pos q h
        exact (wX11_nextMix_j54 C ih h)
      · have h := it_neg q h
        refine wp_aload_n (pc := 36) C 0 dX11_nextMix_36 rfl rfl ?_
        obtain ⟨S6, r7, cS6, h⟩ := bd_some h
        refine wp_callVi (As := []) (st := []) (pc := 37) C (CtX11_unlike cS6) mX11_unlike iX11_unlike kX11_444 (Nat.le_of_ble_eq_true rfl) rfl (by decide) rfl rfl rfl rfl (Nat.le_of_ble_eq_true rfl) ⟨Nat.le_of_ble_eq_true rfl, Nat.le_of_ble_eq_true rfl⟩ dX11_nextMix_37 ?_
        refine wp_aload_n (pc := 40) C 0 dX11_nextMix_40 rfl rfl ?_
        refine wp_getI (pc := 41) C flX11_435 rfl (Nat.le_of_ble_eq_true rfl) rfl dX11_nextMix_41 ?_
        refine wp_icmp_gt (pc := 44) C 54 dX11_nextMix_44 (by decide) (fun q => ?_) (fun q => ?_)
        · have h := it_pos q h
          exact (wX11_nextMix_j54 C ih h)
        · have h := it_neg q h
          exact wp_sub C [0] rfl (wX11_nextMix_j47 C h)
def fX11_nextMix (n : Nat) (S : St) : Option (St × Int32) :=
  bd (fX11_dyes n S) (fun S1 r2 =>
  bn (r2 - 1) (fun z3 : Int32 =>
  fX11_nextMix_l7 n n S1 z3))
set_option maxRecDepth 100000 in
set_option maxHeartbeats 4000000 in
theorem wX11_nextMix (C : Cx G sdM cX11_nextMix 2 RX11 (some .boolean)) {n : Nat} {S S' : St} {r : Int32} (h : fX11_nextMix n S = some (S', r)) : Wp G sdM (rmOf 3 68) 2 (Qm G sdM (some (.int r)) S') S 0 [(0, .ref (gA G 0))] [] := by
  unfold fX11_nextMix at h
  refine wp_aload_n (pc := 0) C 0 dX11_nextMix_0 rfl rfl ?_
  obtain ⟨S1, r2, cS1, h⟩ := bd_some h
  refine wp_callVi (As := []) (st := []) (pc := 1) C (CtX11_dyes cS1) mX11_dyes iX11_dyes kX11_357 (Nat.le_of_ble_eq_true rfl) rfl (by decide) rfl rfl rfl rfl (Nat.le_of_ble_eq_true rfl) ⟨Nat.le_of_ble_eq_true rfl, Nat.le_of_ble_eq_true rfl⟩ dX11_nextMix_1 ?_
  refine wp_iconst (v := 1) (pc := 4) C dX11_nextMix_4 (by decide) ?_
  refine wp_isub (pc := 5) C dX11_nextMix_5 ?_
  obtain ⟨z3, ez3, h⟩ := bn_some h
  refine wp_istore_n (pc := 6) C ez3 [(1, .int z3), (0, .ref (gA G 0))] dX11_nextMix_6 rfl (Nat.le_of_ble_eq_true rfl) rfl ?_
  exact wp_sub C [1, 0] rfl (wX11_nextMix_l7 C _ _ _ h)
theorem CtX11_nextMix {n : Nat} {S S' : St} {r : Int32} (h : fX11_nextMix n S = some (S', r)) : Ct l sdM cy ad D yX11_nextMix cX11_nextMix 2 (some .boolean) 3 68 [.ref (ad 0)] S (some (.int r)) S' :=
  Ct_of (own := RX11) mX11_nextMix rfl (Nat.le_of_ble_eq_true rfl) (fun G e1 e2 e3 e4 C => by subst e1 e2 e3 e4; exact wX11_nextMix C h)
def fX11_putDown_j29 (n : Nat) (S : St) : Option (St × Unit) :=
  bd (fX11_costOf n S 1) (fun S1 r2 =>
  bn (sI S1 0 53 r2) (fun S3 : St =>
  bd (fX11_sumOf n S3 1) (fun S4 r5 =>
  bn (sI S4 0 54 r5) (fun S6 : St =>
  bn (sI S6 0 52 1) (fun S7 : St =>
  some (S7, ()))))))
set_option maxRecDepth 100000 in
set_option maxHeartbeats 4000000 in
theorem wX11_putDown_j29 (C : Cx G sdM cX11_putDown 2 RX11 none) {n : Nat} {S S' : St} {r : Unit} (h : fX11_putDown_j29 n S = some (S', r)) : Wp G sdM (rmOf 2 43) 2 (Qm G sdM none S') S 29 [(0, .ref (gA G 0))] [] := by
  unfold fX11_putDown_j29 at h
  refine wp_aload_n (pc := 29) C 0 dX11_putDown_29 rfl rfl ?_
  refine wp_aload_n (pc := 30) C 0 dX11_putDown_30 rfl rfl ?_
  refine wp_iconst (v := 1) (pc := 31) C dX11_putDown_31 (by decide) ?_
  obtain ⟨S1, r2, cS1, h⟩ := bd_some h
  refine wp_callVi (As := [.int 1]) (st := [.ref (gA G 0)]) (pc := 32) C (CtX11_costOf cS1) mX11_costOf iX11_costOf kX11_420 (Nat.le_of_ble_eq_true rfl) rfl (by decide) rfl rfl rfl rfl (Nat.le_of_ble_eq_true rfl) ⟨Nat.le_of_ble_eq_true rfl, Nat.le_of_ble_eq_true rfl⟩ dX11_putDown_32 ?_
  obtain ⟨S3, eS3, h⟩ := bn_some h
  refine wp_putI (pc := 35) C eS3 flX11_447 fpX11_53 rfl (Nat.le_of_ble_eq_true rfl) rfl dX11_putDown_35 ?_
  refine wp_aload_n (pc := 38) C 0 dX11_putDown_38 rfl rfl ?_
  refine wp_aload_n (pc := 39) C 0 dX11_putDown_39 rfl rfl ?_
  refine wp_iconst (v := 1) (pc := 40) C dX11_putDown_40 (by decide) ?_
  obtain ⟨S4, r5, cS4, h⟩ := bd_some h
  refine wp_callVi (As := [.int 1]) (st := [.ref (gA G 0)]) (pc := 41) C (CtX11_sumOf cS4) mX11_sumOf iX11_sumOf kX11_441 (Nat.le_of_ble_eq_true rfl) rfl (by decide) rfl rfl rfl rfl (Nat.le_of_ble_eq_true rfl) ⟨Nat.le_of_ble_eq_true rfl, Nat.le_of_ble_eq_true rfl⟩ dX11_putDown_41 ?_
  obtain ⟨S6, eS6, h⟩ := bn_some h
  refine wp_putI (pc := 44) C eS6 flX11_450 fpX11_54 rfl (Nat.le_of_ble_eq_true rfl) rfl dX11_putDown_44 ?_
  refine wp_aload_n (pc := 47) C 0 dX11_putDown_47 rfl rfl ?_
  refine wp_iconst (v := 1) (pc := 48) C dX11_putDown_48 (by decide) ?_
  obtain ⟨S7, eS7, h⟩ := bn_some h
  refine wp_putZ (pc := 49) C (Or.inr rfl) eS7 flX11_348 fpX11_52 rfl (Nat.le_of_ble_eq_true rfl) rfl dX11_putDown_49 ?_
  exact rt_v C rfl h dX11_putDown_52
def fX11_putDown_l2 (n : Nat) : Nat → St → Int32 → Option (St × Unit)
  | 0, _, _ => none
  | j + 1, S, x1 =>
    if 8 ≤ x1 then
      fX11_putDown_j29 n S
    else
      gd (ib (8 + x1) 16) (
      gd (ib x1 8) (
      bn (sI S 24 (Int32.toNatClampNeg x1) (S.1 21 (Int32.toNatClampNeg (8 + x1)))) (fun S3 : St =>
      bn (x1 + 1) (fun z4 : Int32 =>
      fX11_putDown_l2 n j S3 z4))))
set_option maxRecDepth 100000 in
set_option maxHeartbeats 4000000 in
theorem wX11_putDown_l2 (C : Cx G sdM cX11_putDown 2 RX11 none) {n : Nat} {S' : St} {r : Unit} : ∀ (j : Nat) (S : St) (x1 : Int32), fX11_putDown_l2 n j S x1 = some (S', r) → Wp G sdM (rmOf 2 43) 2 (Qm G sdM none S') S 2 [(0, .ref (gA G 0)), (1, .int x1)] [] := by
  intro j
  induction j with
  | zero =>
    intro S x1 h
    exact nomatch (show (none : Option (St × Unit)) = some _ from h)
  | succ j ih =>
    intro S x1 h
    rw [fX11_putDown_l2] at h
    refine wp_iload_n (pc := 2) C 1 dX11_putDown_2 rfl rfl ?_
    refine wp_bipush (v := 8) (pc := 3) C dX11_putDown_3 (by decide) ?_
    refine wp_icmp_ge (pc := 5) C 29 dX11_putDown_5 (by decide) (fun q => ?_) (fun q => ?_)
    · have h := it_pos q h
      exact wp_sub C [0] rfl (wX11_putDown_j29 C h)
    · have h := it_neg q h
      refine wp_aload_n (pc := 8) C 0 dX11_putDown_8 rfl rfl ?_
      refine wp_getS (v := 24) (pc := 9) C flX11_84 rfl rfl (Nat.le_of_ble_eq_true rfl) (Nat.le_of_ble_eq_true rfl) rfl dX11_putDown_9 ?_
      refine wp_iload_n (pc := 12) C 1 dX11_putDown_12 rfl rfl ?_
      refine wp_aload_n (pc := 13) C 0 dX11_putDown_13 rfl rfl ?_
      refine wp_getS (v := 21) (pc := 14) C flX11_75 rfl rfl (Nat.le_of_ble_eq_true rfl) (Nat.le_of_ble_eq_true rfl) rfl dX11_putDown_14 ?_
      refine wp_bipush (v := 8) (pc := 17) C dX11_putDown_17 (by decide) ?_
      refine wp_iload_n (pc := 19) C 1 dX11_putDown_19 rfl rfl ?_
      refine wp_iadd (pc := 20) C dX11_putDown_20 ?_
      obtain ⟨g1, h⟩ := gd_some h
      refine wp_iald (pc := 21) C (Nat.le_of_ble_eq_true rfl) rfl g1 dX11_putDown_21 ?_
      obtain ⟨g2, h⟩ := gd_some h
      obtain ⟨S3, eS3, h⟩ := bn_some h
      refine wp_iast (pc := 22) C eS3 (Nat.le_of_ble_eq_true rfl) rfl g2 dX11_putDown_22 ?_
      obtain ⟨z4, ez4, h⟩ := bn_some h
      refine wp_iinc (q := 1) (pc := 23) C (by decide) ez4 [(1, .int z4), (0, .ref (gA G 0))] dX11_putDown_23 rfl (Nat.le_of_ble_eq_true rfl) rfl ?_
      refine wp_goto (pc := 26) C 2 dX11_putDown_26 (by decide) ?_
      exact wp_sub C [1, 0] rfl (ih _ _ h)
def fX11_putDown (n : Nat) (S : St) : Option (St × Unit) :=
  fX11_putDown_l2 n n S 0
set_option maxRecDepth 100000 in
set_option maxHeartbeats 4000000 in
theorem wX11_putDown (C : Cx G sdM cX11_putDown 2 RX11 none) {n : Nat} {S S' : St} {r : Unit} (h : fX11_putDown n S = some (S', r)) : Wp G sdM (rmOf 2 43) 2 (Qm G sdM none S') S 0 [(0, .ref (gA G 0))] [] := by
  unfold fX11_putDown at h
  refine wp_iconst (v := 0) (pc := 0) C dX11_putDown_0 (by decide) ?_
  refine wp_istore_n (pc := 1) C rfl [(1, .int 0), (0, .ref (gA G 0))] dX11_putDown_1 rfl (Nat.le_of_ble_eq_true rfl) rfl ?_
  exact wp_sub C [1, 0] rfl (wX11_putDown_l2 C _ _ _ h)
theorem CtX11_putDown {n : Nat} {S S' : St} {r : Unit} (h : fX11_putDown n S = some (S', r)) : Ct l sdM cy ad D yX11_putDown cX11_putDown 2 none 2 43 [.ref (ad 0)] S none S' :=
  Ct_of (own := RX11) mX11_putDown rfl (Nat.le_of_ble_eq_true rfl) (fun G e1 e2 e3 e4 C => by subst e1 e2 e3 e4; exact wX11_putDown C h)
def fX11_isCheaper_j34 (n : Nat) (S : St) : Option (St × Int32) :=
  some (S, 1)
set_option maxRecDepth 100000 in
set_option maxHeartbeats 4000000 in
theorem wX11_isCheaper_j34 (C : Cx G sdM cX11_isCheaper 2 RX11 (some .boolean)) {n : Nat} {S S' : St} {r : Int32} (h : fX11_isCheaper_j34 n S = some (S', r)) : Wp G sdM (rmOf 2 43) 2 (Qm G sdM (some (.int r)) S') S 34 [] [] := by
  unfold fX11_isCheaper_j34 at h
  refine wp_iconst (v := 1) (pc := 34) C dX11_isCheaper_34 (by decide) ?_
  refine wp_goto (pc := 35) C 39 dX11_isCheaper_35 (by decide) ?_
  exact rt_z C (Or.inr rfl) rfl h dX11_isCheaper_39
def fX11_isCheaper (n : Nat) (S : St) : Option (St × Int32) :=
  bd (fX11_costOf n S 1) (fun S1 r2 =>
  if r2 < (S1.1 0 53) then
    fX11_isCheaper_j34 n S1
  else
    if r2 = (S1.1 0 53) then
      bd (fX11_sumOf n S1 1) (fun S3 r4 =>
      if (S3.1 0 54) ≤ r4 then
        some (S3, 0)
      else
        fX11_isCheaper_j34 n S3)
    else
      some (S1, 0))
set_option maxRecDepth 100000 in
set_option maxHeartbeats 4000000 in
theorem wX11_isCheaper (C : Cx G sdM cX11_isCheaper 2 RX11 (some .boolean)) {n : Nat} {S S' : St} {r : Int32} (h : fX11_isCheaper n S = some (S', r)) : Wp G sdM (rmOf 2 43) 2 (Qm G sdM (some (.int r)) S') S 0 [(0, .ref (gA G 0))] [] := by
  unfold fX11_isCheaper at h
  refine wp_aload_n (pc := 0) C 0 dX11_isCheaper_0 rfl rfl ?_
  refine wp_iconst (v := 1) (pc := 1) C dX11_isCheaper_1 (by decide) ?_
  obtain ⟨S1, r2, cS1, h⟩ := bd_some h
  refine wp_callVi (As := [.int 1]) (st := []) (pc := 2) C (CtX11_costOf cS1) mX11_costOf iX11_costOf kX11_420 (Nat.le_of_ble_eq_true rfl) rfl (by decide) rfl rfl rfl rfl (Nat.le_of_ble_eq_true rfl) ⟨Nat.le_of_ble_eq_true rfl, Nat.le_of_ble_eq_true rfl⟩ dX11_isCheaper_2 ?_
  refine wp_istore_n (pc := 5) C rfl [(1, .int r2), (0, .ref (gA G 0))] dX11_isCheaper_5 rfl (Nat.le_of_ble_eq_true rfl) rfl ?_
  refine wp_iload_n (pc := 6) C 0 dX11_isCheaper_6 rfl rfl ?_
  refine wp_aload_n (pc := 7) C 1 dX11_isCheaper_7 rfl rfl ?_
  refine wp_getI (pc := 8) C flX11_447 rfl (Nat.le_of_ble_eq_true rfl) rfl dX11_isCheaper_8 ?_
  refine wp_icmp_lt (pc := 11) C 34 dX11_isCheaper_11 (by decide) (fun q => ?_) (fun q => ?_)
  · have h := it_pos q h
    exact wp_sub C [] rfl (wX11_isCheaper_j34 C h)
  · have h := it_neg q h
    refine wp_iload_n (pc := 14) C 0 dX11_isCheaper_14 rfl rfl ?_
    refine wp_aload_n (pc := 15) C 1 dX11_isCheaper_15 rfl rfl ?_
    refine wp_getI (pc := 16) C flX11_447 rfl (Nat.le_of_ble_eq_true rfl) rfl dX11_isCheaper_16 ?_
    refine wp_icmp_ne (pc := 19) C 38 dX11_isCheaper_19 (by decide) (fun q => ?_) (fun q => ?_)
    · have h := it_neg q h
      refine wp_iconst (v := 0) (pc := 38) C dX11_isCheaper_38 (by decide) ?_
      exact rt_z C (Or.inl rfl) rfl h dX11_isCheaper_39
    · have h := it_pos q h
      refine wp_aload_n (pc := 22) C 1 dX11_isCheaper_22 rfl rfl ?_
      refine wp_iconst (v := 1) (pc := 23) C dX11_isCheaper_23 (by decide) ?_
      obtain ⟨S3, r4, cS3, h⟩ := bd_some h
      refine wp_callVi (As := [.int 1]) (st := []) (pc := 24) C (CtX11_sumOf cS3) mX11_sumOf iX11_sumOf kX11_441 (Nat.le_of_ble_eq_true rfl) rfl (by decide) rfl rfl rfl rfl (Nat.le_of_ble_eq_true rfl) ⟨Nat.le_of_ble_eq_true rfl, Nat.le_of_ble_eq_true rfl⟩ dX11_isCheaper_24 ?_
      refine wp_aload_n (pc := 27) C 1 dX11_isCheaper_27 rfl rfl ?_
      refine wp_getI (pc := 28) C flX11_450 rfl (Nat.le_of_ble_eq_true rfl) rfl dX11_isCheaper_28 ?_
      refine wp_icmp_ge (pc := 31) C 38 dX11_isCheaper_31 (by decide) (fun q => ?_) (fun q => ?_)
      · have h := it_pos q h
        refine wp_iconst (v := 0) (pc := 38) C dX11_isCheaper_38 (by decide) ?_
        exact rt_z C (Or.inl rfl) rfl h dX11_isCheaper_39
      · have h := it_neg q h
        exact wp_sub C [] rfl (wX11_isCheaper_j34 C h)
theorem CtX11_isCheaper {n : Nat} {S S' : St} {r : Int32} (h : fX11_isCheaper n S = some (S', r)) : Ct l sdM cy ad D yX11_isCheaper cX11_isCheaper 2 (some .boolean) 2 43 [.ref (ad 0)] S (some (.int r)) S' :=
  Ct_of (own := RX11) mX11_isCheaper rfl (Nat.le_of_ble_eq_true rfl) (fun G e1 e2 e3 e4 C => by subst e1 e2 e3 e4; exact wX11_isCheaper C h)
def fX11_isSet (n : Nat) (S : St) (x1 : Int32) : Option (St × Int32) :=
  if x1 ≤ 0 then
    some (S, 0)
  else
    bd (fX11_lamps n S) (fun S1 r2 =>
    if (1 <<< (r2 &&& 31)) ≤ x1 then
      some (S1, 0)
    else
      some (S1, 1))
set_option maxRecDepth 100000 in
set_option maxHeartbeats 4000000 in
theorem wX11_isSet (C : Cx G sdM cX11_isSet 2 RX11 (some .boolean)) {n : Nat} {S S' : St} {r : Int32} {x1 : Int32} (h : fX11_isSet n S x1 = some (S', r)) : Wp G sdM (rmOf 1 20) 2 (Qm G sdM (some (.int r)) S') S 0 [(0, .ref (gA G 0)), (1, .int x1)] [] := by
  unfold fX11_isSet at h
  refine wp_iload_n (pc := 0) C 1 dX11_isSet_0 rfl rfl ?_
  refine wp_if_le (pc := 1) C 18 dX11_isSet_1 (by decide) (fun q => ?_) (fun q => ?_)
  · have h := it_pos q h
    refine wp_iconst (v := 0) (pc := 18) C dX11_isSet_18 (by decide) ?_
    exact rt_z C (Or.inl rfl) rfl h dX11_isSet_19
  · have h := it_neg q h
    refine wp_iload_n (pc := 4) C 1 dX11_isSet_4 rfl rfl ?_
    refine wp_iconst (v := 1) (pc := 5) C dX11_isSet_5 (by decide) ?_
    refine wp_aload_n (pc := 6) C 0 dX11_isSet_6 rfl rfl ?_
    obtain ⟨S1, r2, cS1, h⟩ := bd_some h
    refine wp_callVi (As := []) (st := [.int 1, .int x1]) (pc := 7) C (CtX11_lamps cS1) mX11_lamps iX11_lamps kX11_365 (Nat.le_of_ble_eq_true rfl) rfl (by decide) rfl rfl rfl rfl (Nat.le_of_ble_eq_true rfl) ⟨Nat.le_of_ble_eq_true rfl, Nat.le_of_ble_eq_true rfl⟩ dX11_isSet_7 ?_
    refine wp_ishl (pc := 10) C dX11_isSet_10 ?_
    refine wp_icmp_ge (pc := 11) C 18 dX11_isSet_11 (by decide) (fun q => ?_) (fun q => ?_)
    · have h := it_pos q h
      refine wp_iconst (v := 0) (pc := 18) C dX11_isSet_18 (by decide) ?_
      exact rt_z C (Or.inl rfl) rfl h dX11_isSet_19
    · have h := it_neg q h
      refine wp_iconst (v := 1) (pc := 14) C dX11_isSet_14 (by decide) ?_
      refine wp_goto (pc := 15) C 19 dX11_isSet_15 (by decide) ?_
      exact rt_z C (Or.inr rfl) rfl h dX11_isSet_19
theorem CtX11_isSet {n : Nat} {S S' : St} {r : Int32} {x1 : Int32} (h : fX11_isSet n S x1 = some (S', r)) : Ct l sdM cy ad D yX11_isSet cX11_isSet 2 (some .boolean) 1 20 [.ref (ad 0), .int x1] S (some (.int r)) S' :=
  Ct_of (own := RX11) mX11_isSet rfl (Nat.le_of_ble_eq_true rfl) (fun G e1 e2 e3 e4 C => by subst e1 e2 e3 e4; exact wX11_isSet C h)
def fX11_isAlikeBy_j42 (n : Nat) (k5 : St → Int32 → Int32 → Int32 → Int32 → Option (St × Int32)) (S : St) (x1 : Int32) (x2 : Int32) (x4 : Int32) (y0 : Int32) : Option (St × Int32) :=
  bn (x4 + 1) (fun z1 : Int32 =>
  k5 S x1 x2 y0 z1)
set_option maxRecDepth 100000 in
set_option maxHeartbeats 4000000 in
theorem wX11_isAlikeBy_j42 (C : Cx G sdM cX11_isAlikeBy 5 RX11 (some .boolean)) {n : Nat} {k5 : St → Int32 → Int32 → Int32 → Int32 → Option (St × Int32)} {S S' : St} {r : Int32} {x1 : Int32} {x2 : Int32} {x4 : Int32} {y0 : Int32} (hk5 : ∀ (S : St) (x1 : Int32) (x2 : Int32) (x3 : Int32) (x4 : Int32), k5 S x1 x2 x3 x4 = some (S', r) → Wp G sdM (rmOf 4 91) 5 (Qm G sdM (some (.int r)) S') S 5 [(0, .ref (gA G 0)), (1, .int x1), (2, .int x2), (3, .int x3), (4, .int x4)] []) (h : fX11_isAlikeBy_j42 n k5 S x1 x2 x4 y0 = some (S', r)) : Wp G sdM (rmOf 4 91) 5 (Qm G sdM (some (.int r)) S') S 42 [(0, .ref (gA G 0)), (1, .int x1), (2, .int x2), (4, .int x4)] [.int y0] := by
  unfold fX11_isAlikeBy_j42 at h
  refine wp_istore_n (pc := 42) C rfl [(3, .int y0), (0, .ref (gA G 0)), (1, .int x1), (2, .int x2), (4, .int x4)] dX11_isAlikeBy_42 rfl (Nat.le_of_ble_eq_true rfl) rfl ?_
  obtain ⟨z1, ez1, h⟩ := bn_some h
  refine wp_iinc (q := 4) (pc := 43) C (by decide) ez1 [(4, .int z1), (3, .int y0), (0, .ref (gA G 0)), (1, .int x1), (2, .int x2)] dX11_isAlikeBy_43 rfl (Nat.le_of_ble_eq_true rfl) rfl ?_
  refine wp_goto (pc := 46) C 5 dX11_isAlikeBy_46 (by decide) ?_
  exact wp_sub C [2, 3, 4, 1, 0] rfl (hk5 _ _ _ _ _ h)
def fX11_isAlikeBy_j37 (n : Nat) (k5 : St → Int32 → Int32 → Int32 → Int32 → Option (St × Int32)) (S : St) (x1 : Int32) (x2 : Int32) (x4 : Int32) : Option (St × Int32) :=
  fX11_isAlikeBy_j42 n k5 S x1 x2 x4 1
set_option maxRecDepth 100000 in
set_option maxHeartbeats 4000000 in
theorem wX11_isAlikeBy_j37 (C : Cx G sdM cX11_isAlikeBy 5 RX11 (some .boolean)) {n : Nat} {k5 : St → Int32 → Int32 → Int32 → Int32 → Option (St × Int32)} {S S' : St} {r : Int32} {x1 : Int32} {x2 : Int32} {x4 : Int32} (hk5 : ∀ (S : St) (x1 : Int32) (x2 : Int32) (x3 : Int32) (x4 : Int32), k5 S x1 x2 x3 x4 = some (S', r) → Wp G sdM (rmOf 4 91) 5 (Qm G sdM (some (.int r)) S') S 5 [(0, .ref (gA G 0)), (1, .int x1), (2, .int x2), (3, .int x3), (4, .int x4)] []) (h : fX11_isAlikeBy_j37 n k5 S x1 x2 x4 = some (S', r)) : Wp G sdM (rmOf 4 91) 5 (Qm G sdM (some (.int r)) S') S 37 [(0, .ref (gA G 0)), (1, .int x1), (2, .int x2), (4, .int x4)] [] := by
  unfold fX11_isAlikeBy_j37 at h
  refine wp_iconst (v := 1) (pc := 37) C dX11_isAlikeBy_37 (by decide) ?_
  refine wp_goto (pc := 38) C 42 dX11_isAlikeBy_38 (by decide) ?_
  exact (wX11_isAlikeBy_j42 C hk5 h)
def fX11_isAlikeBy_l5 (n : Nat) : Nat → St → Int32 → Int32 → Int32 → Int32 → Option (St × Int32)
  | 0, _, _, _, _, _ => none
  | j + 1, S, x1, x2, x3, x4 =>
    bd (fX11_lamps n S) (fun S1 r2 =>
    if r2 ≤ x4 then
      gd (x3 = 0 ∨ x3 = 1) (
      some (S1, x3))
    else
      if x3 = 0 then
        gd (x3 = 0 ∨ x3 = 1) (
        some (S1, x3))
      else
        if ((x1 >>> (x4 &&& 31)) &&& 1) = 0 then
          fX11_isAlikeBy_j37 n (fX11_isAlikeBy_l5 n j) S1 x1 x2 x4
        else
          bd (fX11_isAlike n S1 x4 x2) (fun S5 r6 =>
          if r6 = 0 then
            fX11_isAlikeBy_j42 n (fX11_isAlikeBy_l5 n j) S5 x1 x2 x4 0
          else
            fX11_isAlikeBy_j37 n (fX11_isAlikeBy_l5 n j) S5 x1 x2 x4))
set_option maxRecDepth 100000 in
set_option maxHeartbeats 4000000 in
theorem wX11_isAlikeBy_l5 (C : Cx G sdM cX11_isAlikeBy 5 RX11 (some .boolean)) {n : Nat} {S' : St} {r : Int32} : ∀ (j : Nat) (S : St) (x1 : Int32) (x2 : Int32) (x3 : Int32) (x4 : Int32), fX11_isAlikeBy_l5 n j S x1 x2 x3 x4 = some (S', r) → Wp G sdM (rmOf 4 91) 5 (Qm G sdM (some (.int r)) S') S 5 [(0, .ref (gA G 0)), (1, .int x1), (2, .int x2), (3, .int x3), (4, .int x4)] [] := by
  intro j
  induction j with
  | zero =>
    intro S x1 x2 x3 x4 h
    exact nomatch (show (none : Option (St × Int32)) = some _ from h)
  | succ j ih =>
    intro S x1 x2 x3 x4 h
    rw [fX11_isAlikeBy_l5] at h
    refine wp_iload (pc := 5) C 4 dX11_isAlikeBy_5 rfl ?_
    refine wp_aload_n (pc := 7) C 0 dX11_isAlikeBy_7 rfl rfl ?_
    obtain ⟨S1, r2, cS1, h⟩ := bd_some h
    refine wp_callVi (As := []) (st := [.int x4]) (pc := 8) C (CtX11_lamps cS1) mX11_lamps iX11_lamps kX11_365 (Nat.le_of_ble_eq_true rfl) rfl (by decide) rfl rfl rfl rfl (Nat.le_of_ble_eq_true rfl) ⟨Nat.le_of_ble_eq_true rfl, Nat.le_of_ble_eq_true rfl⟩ dX11_isAlikeBy_8 ?_
    refine wp_icmp_ge (pc := 11) C 49 dX11_isAlikeBy_11 (by decide) (fun q => ?_) (fun q => ?_)
    · have h := it_pos q h
      refine wp_iload_n (pc := 49) C 3 dX11_isAlikeBy_49 rfl rfl ?_
      obtain ⟨g3, h⟩ := gd_some h
      exact rt_z C g3 rfl h dX11_isAlikeBy_50
    · have h := it_neg q h
      refine wp_iload_n (pc := 14) C 3 dX11_isAlikeBy_14 rfl rfl ?_
      refine wp_if_eq (pc := 15) C 49 dX11_isAlikeBy_15 (by decide) (fun q => ?_) (fun q => ?_)
      · have h := it_pos q h
        refine wp_iload_n (pc := 49) C 3 dX11_isAlikeBy_49 rfl rfl ?_
        obtain ⟨g4, h⟩ := gd_some h
        exact rt_z C g4 rfl h dX11_isAlikeBy_50
      · have h := it_neg q h
        refine wp_iload_n (pc := 18) C 1 dX11_isAlikeBy_18 rfl rfl ?_
        refine wp_iload (pc := 19) C 4 dX11_isAlikeBy_19 rfl ?_
        refine wp_ishr (pc := 21) C dX11_isAlikeBy_21 ?_
        refine wp_iconst (v := 1) (pc := 22) C dX11_isAlikeBy_22 (by decide) ?_
        refine wp_iand (pc := 23) C dX11_isAlikeBy_23 ?_
        refine wp_if_eq (pc := 24) C 37 dX11_isAlikeBy_24 (by decide) (fun q => ?_) (fun q => ?_)
        · have h := it_pos q h
          exact wp_sub C [0, 1, 2, 4] rfl (wX11_isAlikeBy_j37 C ih h)
        · have h := it_neg q h
          refine wp_aload_n (pc := 27) C 0 dX11_isAlikeBy_27 rfl rfl ?_
          refine wp_iload (pc := 28) C 4 dX11_isAlikeBy_28 rfl ?_
          refine wp_iload_n (pc := 30) C 2 dX11_isAlikeBy_30 rfl rfl ?_
          obtain ⟨S5, r6, cS5, h⟩ := bd_some h
          refine wp_callVi (As := [.int x4, .int x2]) (st := []) (pc := 31) C (CtX11_isAlike cS5) mX11_isAlike iX11_isAlike kX11_417 (Nat.le_of_ble_eq_true rfl) rfl (by decide) rfl rfl rfl rfl (Nat.le_of_ble_eq_true rfl) ⟨Nat.le_of_ble_eq_true rfl, Nat.le_of_ble_eq_true rfl⟩ dX11_isAlikeBy_31 ?_
          refine wp_if_eq (pc := 34) C 41 dX11_isAlikeBy_34 (by decide) (fun q => ?_) (fun q => ?_)
          · have h := it_pos q h
            refine wp_iconst (v := 0) (pc := 41) C dX11_isAlikeBy_41 (by decide) ?_
            exact wp_sub C [0, 1, 2, 4] rfl (wX11_isAlikeBy_j42 C ih h)
          · have h := it_neg q h
            exact wp_sub C [0, 1, 2, 4] rfl (wX11_isAlikeBy_j37 C ih h)
def fX11_isAlikeBy (n : Nat) (S : St) (x1 : Int32) (x2 : Int32) : Option (St × Int32) :=
  fX11_isAlikeBy_l5 n n S x1 x2 1 0
set_option maxRecDepth 100000 in
set_option maxHeartbeats 4000000 in
theorem wX11_isAlikeBy (C : Cx G sdM cX11_isAlikeBy 5 RX11 (some .boolean)) {n : Nat} {S S' : St} {r : Int32} {x1 : Int32} {x2 : Int32} (h : fX11_isAlikeBy n S x1 x2 = some (S', r)) : Wp G sdM (rmOf 4 91) 5 (Qm G sdM (some (.int r)) S') S 0 [(0, .ref (gA G 0)), (1, .int x1), (2, .int x2)] [] := by
  unfold fX11_isAlikeBy at h
  refine wp_iconst (v := 1) (pc := 0) C dX11_isAlikeBy_0 (by decide) ?_
  refine wp_istore_n (pc := 1) C rfl [(3, .int 1), (0, .ref (gA G 0)), (1, .int x1), (2, .int x2)] dX11_isAlikeBy_1 rfl (Nat.le_of_ble_eq_true rfl) rfl ?_
  refine wp_iconst (v := 0) (pc := 2) C dX11_isAlikeBy_2 (by decide) ?_
  refine wp_istore (pc := 3) C rfl [(4, .int 0), (3, .int 1), (0, .ref (gA G 0)), (1, .int x1), (2, .int x2)] dX11_isAlikeBy_3 (Nat.le_of_ble_eq_true rfl) rfl ?_
  exact wp_sub C [2, 3, 4, 1, 0] rfl (wX11_isAlikeBy_l5 C _ _ _ _ _ _ h)
theorem CtX11_isAlikeBy {n : Nat} {S S' : St} {r : Int32} {x1 : Int32} {x2 : Int32} (h : fX11_isAlikeBy n S x1 x2 = some (S', r)) : Ct l sdM cy ad D yX11_isAlikeBy cX11_isAlikeBy 5 (some .boolean) 4 91 [.ref (ad 0), .int x1, .int x2] S (some (.int r)) S' :=
  Ct_of (own := RX11) mX11_isAlikeBy rfl (Nat.le_of_ble_eq_true rfl) (fun G e1 e2 e3 e4 C => by subst e1 e2 e3 e4; exact wX11_isAlikeBy C h)
def fX11_farthest_j50 (n : Nat) (k5 : St → Int32 → Int32 → Int64 → Int32 → Option (St × Int64)) (S : St) (x1 : Int32) (x2 : Int32) (x5 : Int32) (y0 : Int64) : Option (St × Int64) :=
  bn (x5 + 1) (fun z1 : Int32 =>
  k5 S x1 x2 y0 z1)
set_option maxRecDepth 100000 in
set_option maxHeartbeats 4000000 in
theorem wX11_farthest_j50 (C : Cx G sdM cX11_farthest 8 RX11 (some .long)) {n : Nat} {k5 : St → Int32 → Int32 → Int64 → Int32 → Option (St × Int64)} {S S' : St} {r : Int64} {x1 : Int32} {x2 : Int32} {x5 : Int32} {y0 : Int64} (hk5 : ∀ (S : St) (x1 : Int32) (x2 : Int32) (x3 : Int64) (x5 : Int32), k5 S x1 x2 x3 x5 = some (S', r) → Wp G sdM (rmOf 3 69) 8 (Qm G sdM (some (.long r)) S') S 5 [(0, .ref (gA G 0)), (1, .int x1), (2, .int x2), (3, .long x3), (5, .int x5)] []) (h : fX11_farthest_j50 n k5 S x1 x2 x5 y0 = some (S', r)) : Wp G sdM (rmOf 3 69) 8 (Qm G sdM (some (.long r)) S') S 50 [(0, .ref (gA G 0)), (1, .int x1), (2, .int x2), (5, .int x5)] [.long y0] := by
  unfold fX11_farthest_j50 at h
  refine wp_lstore_n (pc := 50) C rfl [(3, .long y0), (0, .ref (gA G 0)), (1, .int x1), (2, .int x2), (5, .int x5)] dX11_farthest_50 rfl (Nat.le_of_ble_eq_true rfl) rfl ?_
  obtain ⟨z1, ez1, h⟩ := bn_some h
  refine wp_iinc (q := 4) (pc := 51) C (by decide) ez1 [(5, .int z1), (3, .long y0), (0, .ref (gA G 0)), (1, .int x1), (2, .int x2)] dX11_farthest_51 rfl (Nat.le_of_ble_eq_true rfl) rfl ?_
  refine wp_goto (pc := 54) C 5 dX11_farthest_54 (by decide) ?_
  exact wp_sub C [2, 3, 4, 1, 0] rfl (hk5 _ _ _ _ _ h)
def fX11_farthest_j35 (n : Nat) (k5 : St → Int32 → Int32 → Int64 → Int32 → Option (St × Int64)) (S : St) (x1 : Int32) (x2 : Int32) (x3 : Int64) (x5 : Int32) (y0 : Int64) : Option (St × Int64) :=
  if (lg_cmp y0 x3) ≤ 0 then
    fX11_farthest_j50 n k5 S x1 x2 x5 x3
  else
    fX11_farthest_j50 n k5 S x1 x2 x5 y0
set_option maxRecDepth 100000 in
set_option maxHeartbeats 4000000 in
theorem wX11_farthest_j35 (C : Cx G sdM cX11_farthest 8 RX11 (some .long)) {n : Nat} {k5 : St → Int32 → Int32 → Int64 → Int32 → Option (St × Int64)} {S S' : St} {r : Int64} {x1 : Int32} {x2 : Int32} {x3 : Int64} {x5 : Int32} {y0 : Int64} (hk5 : ∀ (S : St) (x1 : Int32) (x2 : Int32) (x3 : Int64) (x5 : Int32), k5 S x1 x2 x3 x5 = some (S', r) → Wp G sdM (rmOf 3 69) 8 (Qm G sdM (some (.long r)) S') S 5 [(0, .ref (gA G 0)), (1, .int x1), (2, .int x2), (3, .long x3), (5, .int x5)] []) (h : fX11_farthest_j35 n k5 S x1 x2 x3 x5 y0 = some (S', r)) : Wp G sdM (rmOf 3 69) 8 (Qm G sdM (some (.long r)) S') S 35 [(0, .ref (gA G 0)), (1, .int x1), (2, .int x2), (3, .long x3), (5, .int x5)] [.long y0] := by
  unfold fX11_farthest_j35 at h
  refine wp_lstore (pc := 35) C rfl [(6, .long y0), (0, .ref (gA G 0)), (1, .int x1), (2, .int x2), (3, .long x3), (5, .int x5)] dX11_farthest_35 (Nat.le_of_ble_eq_true rfl) rfl ?_
  refine wp_lload (pc := 37) C 0 dX11_farthest_37 rfl ?_
  refine wp_lload_n (pc := 39) C 4 dX11_farthest_39 rfl rfl ?_
  refine wp_lcmp (pc := 40) C dX11_farthest_40 ?_
  refine wp_if_le (pc := 41) C 49 dX11_farthest_41 (by decide) (fun q => ?_) (fun q => ?_)
  · have h := it_pos q h
    refine wp_lload_n (pc := 49) C 4 dX11_farthest_49 rfl rfl ?_
    exact wp_sub C [1, 2, 3, 5] rfl (wX11_farthest_j50 C hk5 h)
  · have h := it_neg q h
    refine wp_lload (pc := 44) C 0 dX11_farthest_44 rfl ?_
    refine wp_goto (pc := 46) C 50 dX11_farthest_46 (by decide) ?_
    exact wp_sub C [1, 2, 3, 5] rfl (wX11_farthest_j50 C hk5 h)
def fX11_farthest_l5 (n : Nat) : Nat → St → Int32 → Int32 → Int64 → Int32 → Option (St × Int64)
  | 0, _, _, _, _, _ => none
  | j + 1, S, x1, x2, x3, x5 =>
    bd (fX11_lamps n S) (fun S1 r2 =>
    if r2 ≤ x5 then
      some (S1, x3)
    else
      if ((x1 >>> (x5 &&& 31)) &&& 1) = 1 then
        bd (fX11_apartBy n S1 x5 x2) (fun S3 r4 =>
        fX11_farthest_j35 n (fX11_farthest_l5 n j) S3 x1 x2 x3 x5 r4)
      else
        fX11_farthest_j35 n (fX11_farthest_l5 n j) S1 x1 x2 x3 x5 0)
set_option maxRecDepth 100000 in
set_option maxHeartbeats 4000000 in
theorem wX11_farthest_l5 (C : Cx G sdM cX11_farthest 8 RX11 (some .long)) {n : Nat} {S' : St} {r : Int64} : ∀ (j : Nat) (S : St) (x1 : Int32) (x2 : Int32) (x3 : Int64) (x5 : Int32), fX11_farthest_l5 n j S x1 x2 x3 x5 = some (S', r) → Wp G sdM (rmOf 3 69) 8 (Qm G sdM (some (.long r)) S') S 5 [(0, .ref (gA G 0)), (1, .int x1), (2, .int x2), (3, .long x3), (5, .int x5)] [] := by
  intro j
  induction j with
  | zero =>
    intro S x1 x2 x3 x5 h
    exact nomatch (show (none : Option (St × Int64)) = some _ from h)
  | succ j ih =>
    intro S x1 x2 x3 x5 h
    rw [fX11_farthest_l5] at h
    refine wp_iload (pc := 5) C 4 dX11_farthest_5 rfl ?_
    refine wp_aload_n (pc := 7) C 0 dX11_farthest_7 rfl rfl ?_
    obtain ⟨S1, r2, cS1, h⟩ := bd_some h
    refine wp_callVi (As := []) (st := [.int x5]) (pc := 8) C (CtX11_lamps cS1) mX11_lamps iX11_lamps kX11_365 (Nat.le_of_ble_eq_true rfl) rfl (by decide) rfl rfl rfl rfl (Nat.le_of_ble_eq_true rfl) ⟨Nat.le_of_ble_eq_true rfl, Nat.le_of_ble_eq_true rfl⟩ dX11_farthest_8 ?_
    refine wp_icmp_ge (pc := 11) C 57 dX11_farthest_11 (by decide) (fun q => ?_) (fun q => ?_)
    · have h := it_pos q h
      refine wp_lload_n (pc := 57) C 3 dX11_farthest_57 rfl rfl ?_
      exact rt_l C rfl h dX11_farthest_58
    · have h := it_neg q h
      refine wp_iload_n (pc := 14) C 1 dX11_farthest_14 rfl rfl ?_
      refine wp_iload (pc := 15) C 4 dX11_farthest_15 rfl ?_
      refine wp_ishr (pc := 17) C dX11_farthest_17 ?_
      refine wp_iconst (v := 1) (pc := 18) C dX11_farthest_18 (by decide) ?_
      refine wp_iand (pc := 19) C dX11_farthest_19 ?_
      refine wp_iconst (v := 1) (pc := 20) C dX11_farthest_20 (by decide) ?_
      refine wp_icmp_ne (pc := 21) C 34 dX11_farthest_21 (by decide) (fun q => ?_) (fun q => ?_)
      · have h := it_neg q h
        refine wp_lconst (v := 0) (pc := 34) C dX11_farthest_34 (by decide) ?_
        exact (wX11_farthest_j35 C ih h)
      · have h := it_pos q h
        refine wp_aload_n (pc := 24) C 0 dX11_farthest_24 rfl rfl ?_
        refine wp_iload (pc := 25) C 4 dX11_farthest_25 rfl ?_
        refine wp_iload_n (pc := 27) C 2 dX11_farthest_27 rfl rfl ?_
        obtain ⟨S3, r4, cS3, h⟩ := bd_some h
        refine wp_callVl (As := [.int x5, .int x2]) (st := []) (pc := 28) C (CtX11_apartBy cS3) mX11_apartBy iX11_apartBy kX11_392 (Nat.le_of_ble_eq_true rfl) rfl (by decide) rfl rfl rfl rfl (Nat.le_of_ble_eq_true rfl) ⟨Nat.le_of_ble_eq_true rfl, Nat.le_of_ble_eq_true rfl⟩ dX11_farthest_28 ?_
        refine wp_goto (pc := 31) C 35 dX11_farthest_31 (by decide) ?_
        exact (wX11_farthest_j35 C ih h)
def fX11_farthest (n : Nat) (S : St) (x1 : Int32) (x2 : Int32) : Option (St × Int64) :=
  fX11_farthest_l5 n n S x1 x2 0 0
set_option maxRecDepth 100000 in
set_option maxHeartbeats 4000000 in
theorem wX11_farthest (C : Cx G sdM cX11_farthest 8 RX11 (some .long)) {n : Nat} {S S' : St} {r : Int64} {x1 : Int32} {x2 : Int32} (h : fX11_farthest n S x1 x2 = some (S', r)) : Wp G sdM (rmOf 3 69) 8 (Qm G sdM (some (.long r)) S') S 0 [(0, .ref (gA G 0)), (1, .int x1), (2, .int x2)] [] := by
  unfold fX11_farthest at h
  refine wp_lconst (v := 0) (pc := 0) C dX11_farthest_0 (by decide) ?_
  refine wp_lstore_n (pc := 1) C rfl [(3, .long 0), (0, .ref (gA G 0)), (1, .int x1), (2, .int x2)] dX11_farthest_1 rfl (Nat.le_of_ble_eq_true rfl) rfl ?_
  refine wp_iconst (v := 0) (pc := 2) C dX11_farthest_2 (by decide) ?_
  refine wp_istore (pc := 3) C rfl [(5, .int 0), (3, .long 0), (0, .ref (gA G 0)), (1, .int x1), (2, .int x2)] dX11_farthest_3 (Nat.le_of_ble_eq_true rfl) rfl ?_
  exact wp_sub C [2, 3, 4, 1, 0] rfl (wX11_farthest_l5 C _ _ _ _ _ _ h)
theorem CtX11_farthest {n : Nat} {S S' : St} {r : Int64} {x1 : Int32} {x2 : Int32} (h : fX11_farthest n S x1 x2 = some (S', r)) : Ct l sdM cy ad D yX11_farthest cX11_farthest 8 (some .long) 3 69 [.ref (ad 0), .int x1, .int x2] S (some (.long r)) S' :=
  Ct_of (own := RX11) mX11_farthest rfl (Nat.le_of_ble_eq_true rfl) (fun G e1 e2 e3 e4 C => by subst e1 e2 e3 e4; exact wX11_farthest C h)
end
