section
variable {G : Gx} {l : Launch} {cy : Nat → ClassId} {ad : Nat → Nat} {D : va_G}
def fX11_four_l3 (n : Nat) : Nat → St → Int32 → Int32 → Option (St × Unit)
  | 0, _, _, _ => none
  | j + 1, S, x1, x2 =>
    if x2 < 0 then
      some (S, ())
    else
      gd (ib (S.1 0 1) 1700) (
      bn (sI S 1 (Int32.toNatClampNeg (S.1 0 1)) ((x1 >>> (x2 &&& 31)) &&& 255)) (fun S2 : St =>
      bn (sI S2 0 1 ((S2.1 0 1) + 1)) (fun S3 : St =>
      bn (x2 + (-8)) (fun z4 : Int32 =>
      fX11_four_l3 n j S3 x1 z4))))
set_option maxRecDepth 100000 in
set_option maxHeartbeats 4000000 in
theorem wX11_four_l3 (C : Cx G sdM cX11_four 3 RX11 none) {n : Nat} {S' : St} {r : Unit} : ∀ (j : Nat) (S : St) (x1 : Int32) (x2 : Int32), fX11_four_l3 n j S x1 x2 = some (S', r) → Wp G sdM (rmOf 0 0) 3 (Qm G sdM none S') S 3 [(0, .ref (gA G 0)), (1, .int x1), (2, .int x2)] [] := by
  intro j
  induction j with
  | zero =>
    intro S x1 x2 h
    exact nomatch (show (none : Option (St × Unit)) = some _ from h)
  | succ j ih =>
    intro S x1 x2 h
    rw [fX11_four_l3] at h
    refine wp_iload_n (pc := 3) C 2 dX11_four_3 rfl rfl ?_
    refine wp_if_lt (pc := 4) C 39 dX11_four_4 (by decide) (fun q => ?_) (fun q => ?_)
    · have h := it_pos q h
      exact rt_v C rfl h dX11_four_39
    · have h := it_neg q h
      refine wp_aload_n (pc := 7) C 0 dX11_four_7 rfl rfl ?_
      refine wp_getS (v := 1) (pc := 8) C flX11_7 rfl rfl (Nat.le_of_ble_eq_true rfl) (Nat.le_of_ble_eq_true rfl) rfl dX11_four_8 ?_
      refine wp_aload_n (pc := 11) C 0 dX11_four_11 rfl rfl ?_
      refine wp_getI (pc := 12) C flX11_167 rfl (Nat.le_of_ble_eq_true rfl) rfl dX11_four_12 ?_
      refine wp_iload_n (pc := 15) C 1 dX11_four_15 rfl rfl ?_
      refine wp_iload_n (pc := 16) C 2 dX11_four_16 rfl rfl ?_
      refine wp_ishr (pc := 17) C dX11_four_17 ?_
      refine wp_sipush (v := 255) (pc := 18) C dX11_four_18 (by decide) ?_
      refine wp_iand (pc := 21) C dX11_four_21 ?_
      obtain ⟨g1, h⟩ := gd_some h
      obtain ⟨S2, eS2, h⟩ := bn_some h
      refine wp_iast (pc := 22) C eS2 (Nat.le_of_ble_eq_true rfl) rfl g1 dX11_four_22 ?_
      refine wp_aload_n (pc := 23) C 0 dX11_four_23 rfl rfl ?_
      refine wp_dup (pc := 24) C dX11_four_24 rfl ?_
      refine wp_getI (pc := 25) C flX11_167 rfl (Nat.le_of_ble_eq_true rfl) rfl dX11_four_25 ?_
      refine wp_iconst (v := 1) (pc := 28) C dX11_four_28 (by decide) ?_
      refine wp_iadd (pc := 29) C dX11_four_29 ?_
      obtain ⟨S3, eS3, h⟩ := bn_some h
      refine wp_putI (pc := 30) C eS3 flX11_167 fpX11_1 rfl (Nat.le_of_ble_eq_true rfl) rfl dX11_four_30 ?_
      obtain ⟨z4, ez4, h⟩ := bn_some h
      refine wp_iinc (q := 2) (pc := 33) C (by decide) ez4 [(2, .int z4), (0, .ref (gA G 0)), (1, .int x1)] dX11_four_33 rfl (Nat.le_of_ble_eq_true rfl) rfl ?_
      refine wp_goto (pc := 36) C 3 dX11_four_36 (by decide) ?_
      exact wp_sub C [1, 2, 0] rfl (ih _ _ _ h)
def fX11_four (n : Nat) (S : St) (x1 : Int32) : Option (St × Unit) :=
  fX11_four_l3 n n S x1 24
set_option maxRecDepth 100000 in
set_option maxHeartbeats 4000000 in
theorem wX11_four (C : Cx G sdM cX11_four 3 RX11 none) {n : Nat} {S S' : St} {r : Unit} {x1 : Int32} (h : fX11_four n S x1 = some (S', r)) : Wp G sdM (rmOf 0 0) 3 (Qm G sdM none S') S 0 [(0, .ref (gA G 0)), (1, .int x1)] [] := by
  unfold fX11_four at h
  refine wp_bipush (v := 24) (pc := 0) C dX11_four_0 (by decide) ?_
  refine wp_istore_n (pc := 2) C rfl [(2, .int 24), (0, .ref (gA G 0)), (1, .int x1)] dX11_four_2 rfl (Nat.le_of_ble_eq_true rfl) rfl ?_
  exact wp_sub C [1, 2, 0] rfl (wX11_four_l3 C _ _ _ _ h)
theorem CtX11_four {n : Nat} {S S' : St} {r : Unit} {x1 : Int32} (h : fX11_four n S x1 = some (S', r)) : Ct l sdM cy ad D yX11_four cX11_four 3 none 0 0 [.ref (ad 0), .int x1] S none S' :=
  Ct_of (own := RX11) mX11_four rfl (Nat.le_of_ble_eq_true rfl) (fun G e1 e2 e3 e4 C => by subst e1 e2 e3 e4; exact wX11_four C h)
def fX11_feed (n : Nat) (S : St) (x1 : Int32) (x2 : Int32) (x3 : Int32) (x4 : Int32) (x5 : Int32) : Option (St × Int32) :=
  if ((S.1 0 1) + 20) ≤ 1700 then
    bd (fX11_four n S x1) (fun S1 r2 =>
    bd (fX11_four n S1 x2) (fun S3 r4 =>
    bd (fX11_four n S3 x3) (fun S5 r6 =>
    bd (fX11_four n S5 x4) (fun S7 r8 =>
    bd (fX11_four n S7 x5) (fun S9 r10 =>
    some (S9, S9.1 0 1))))))
  else
    some (S, (-1))
set_option maxRecDepth 100000 in
set_option maxHeartbeats 4000000 in
theorem wX11_feed (C : Cx G sdM cX11_feed 6 RX11 (some .int)) {n : Nat} {S S' : St} {r : Int32} {x1 : Int32} {x2 : Int32} {x3 : Int32} {x4 : Int32} {x5 : Int32} (h : fX11_feed n S x1 x2 x3 x4 x5 = some (S', r)) : Wp G sdM (rmOf 1 22) 6 (Qm G sdM (some (.int r)) S') S 0 [(0, .ref (gA G 0)), (1, .int x1), (2, .int x2), (3, .int x3), (4, .int x4), (5, .int x5)] [] := by
  unfold fX11_feed at h
  refine wp_aload_n (pc := 0) C 0 dX11_feed_0 rfl rfl ?_
  refine wp_getI (pc := 1) C flX11_167 rfl (Nat.le_of_ble_eq_true rfl) rfl dX11_feed_1 ?_
  refine wp_bipush (v := 20) (pc := 4) C dX11_feed_4 (by decide) ?_
  refine wp_iadd (pc := 6) C dX11_feed_6 ?_
  refine wp_sipush (v := 1700) (pc := 7) C dX11_feed_7 (by decide) ?_
  refine wp_icmp_le (pc := 10) C 15 dX11_feed_10 (by decide) (fun q => ?_) (fun q => ?_)
  · have h := it_pos q h
    refine wp_aload_n (pc := 15) C 0 dX11_feed_15 rfl rfl ?_
    refine wp_iload_n (pc := 16) C 1 dX11_feed_16 rfl rfl ?_
    obtain ⟨S1, r2, cS1, h⟩ := bd_some h
    refine wp_callVv (As := [.int x1]) (st := []) (pc := 17) C (CtX11_four cS1) mX11_four iX11_four kX11_170 (Nat.le_of_ble_eq_true rfl) rfl (by decide) rfl rfl rfl rfl (Nat.le_of_ble_eq_true rfl) ⟨Nat.le_of_ble_eq_true rfl, Nat.le_of_ble_eq_true rfl⟩ dX11_feed_17 ?_
    refine wp_aload_n (pc := 20) C 0 dX11_feed_20 rfl rfl ?_
    refine wp_iload_n (pc := 21) C 2 dX11_feed_21 rfl rfl ?_
    obtain ⟨S3, r4, cS3, h⟩ := bd_some h
    refine wp_callVv (As := [.int x2]) (st := []) (pc := 22) C (CtX11_four cS3) mX11_four iX11_four kX11_170 (Nat.le_of_ble_eq_true rfl) rfl (by decide) rfl rfl rfl rfl (Nat.le_of_ble_eq_true rfl) ⟨Nat.le_of_ble_eq_true rfl, Nat.le_of_ble_eq_true rfl⟩ dX11_feed_22 ?_
    refine wp_aload_n (pc := 25) C 0 dX11_feed_25 rfl rfl ?_
    refine wp_iload_n (pc := 26) C 3 dX11_feed_26 rfl rfl ?_
    obtain ⟨S5, r6, cS5, h⟩ := bd_some h
    refine wp_callVv (As := [.int x3]) (st := []) (pc := 27) C (CtX11_four cS5) mX11_four iX11_four kX11_170 (Nat.le_of_ble_eq_true rfl) rfl (by decide) rfl rfl rfl rfl (Nat.le_of_ble_eq_true rfl) ⟨Nat.le_of_ble_eq_true rfl, Nat.le_of_ble_eq_true rfl⟩ dX11_feed_27 ?_
    refine wp_aload_n (pc := 30) C 0 dX11_feed_30 rfl rfl ?_
    refine wp_iload (pc := 31) C 4 dX11_feed_31 rfl ?_
    obtain ⟨S7, r8, cS7, h⟩ := bd_some h
    refine wp_callVv (As := [.int x4]) (st := []) (pc := 33) C (CtX11_four cS7) mX11_four iX11_four kX11_170 (Nat.le_of_ble_eq_true rfl) rfl (by decide) rfl rfl rfl rfl (Nat.le_of_ble_eq_true rfl) ⟨Nat.le_of_ble_eq_true rfl, Nat.le_of_ble_eq_true rfl⟩ dX11_feed_33 ?_
    refine wp_aload_n (pc := 36) C 0 dX11_feed_36 rfl rfl ?_
    refine wp_iload (pc := 37) C 5 dX11_feed_37 rfl ?_
    obtain ⟨S9, r10, cS9, h⟩ := bd_some h
    refine wp_callVv (As := [.int x5]) (st := []) (pc := 39) C (CtX11_four cS9) mX11_four iX11_four kX11_170 (Nat.le_of_ble_eq_true rfl) rfl (by decide) rfl rfl rfl rfl (Nat.le_of_ble_eq_true rfl) ⟨Nat.le_of_ble_eq_true rfl, Nat.le_of_ble_eq_true rfl⟩ dX11_feed_39 ?_
    refine wp_aload_n (pc := 42) C 0 dX11_feed_42 rfl rfl ?_
    refine wp_getI (pc := 43) C flX11_167 rfl (Nat.le_of_ble_eq_true rfl) rfl dX11_feed_43 ?_
    exact rt_i C rfl h dX11_feed_46
  · have h := it_neg q h
    refine wp_iconst (v := (-1)) (pc := 13) C dX11_feed_13 (by decide) ?_
    exact rt_i C rfl h dX11_feed_14
theorem CtX11_feed {n : Nat} {S S' : St} {r : Int32} {x1 : Int32} {x2 : Int32} {x3 : Int32} {x4 : Int32} {x5 : Int32} (h : fX11_feed n S x1 x2 x3 x4 x5 = some (S', r)) : Ct l sdM cy ad D yX11_feed cX11_feed 6 (some .int) 1 22 [.ref (ad 0), .int x1, .int x2, .int x3, .int x4, .int x5] S (some (.int r)) S' :=
  Ct_of (own := RX11) mX11_feed rfl (Nat.le_of_ble_eq_true rfl) (fun G e1 e2 e3 e4 C => by subst e1 e2 e3 e4; exact wX11_feed C h)
def fX11_end (n : Nat) (S : St) (x1 : Int32) : Option (St × Int32) :=
  if x1 < 0 then
    some (S, (-1))
  else
    if x1 ≤ (S.1 0 1) then
      bn (sI S 0 1 x1) (fun S1 : St =>
      some (S1, x1))
    else
      some (S, (-1))
set_option maxRecDepth 100000 in
set_option maxHeartbeats 4000000 in
theorem wX11_end (C : Cx G sdM cX11_end 2 RX11 (some .int)) {n : Nat} {S S' : St} {r : Int32} {x1 : Int32} (h : fX11_end n S x1 = some (S', r)) : Wp G sdM (rmOf 0 0) 2 (Qm G sdM (some (.int r)) S') S 0 [(0, .ref (gA G 0)), (1, .int x1)] [] := by
  unfold fX11_end at h
  refine wp_iload_n (pc := 0) C 1 dX11_end_0 rfl rfl ?_
  refine wp_if_lt (pc := 1) C 12 dX11_end_1 (by decide) (fun q => ?_) (fun q => ?_)
  · have h := it_pos q h
    refine wp_iconst (v := (-1)) (pc := 12) C dX11_end_12 (by decide) ?_
    exact rt_i C rfl h dX11_end_13
  · have h := it_neg q h
    refine wp_iload_n (pc := 4) C 1 dX11_end_4 rfl rfl ?_
    refine wp_aload_n (pc := 5) C 0 dX11_end_5 rfl rfl ?_
    refine wp_getI (pc := 6) C flX11_167 rfl (Nat.le_of_ble_eq_true rfl) rfl dX11_end_6 ?_
    refine wp_icmp_le (pc := 9) C 14 dX11_end_9 (by decide) (fun q => ?_) (fun q => ?_)
    · have h := it_pos q h
      refine wp_aload_n (pc := 14) C 0 dX11_end_14 rfl rfl ?_
      refine wp_iload_n (pc := 15) C 1 dX11_end_15 rfl rfl ?_
      obtain ⟨S1, eS1, h⟩ := bn_some h
      refine wp_putI (pc := 16) C eS1 flX11_167 fpX11_1 rfl (Nat.le_of_ble_eq_true rfl) rfl dX11_end_16 ?_
      refine wp_iload_n (pc := 19) C 1 dX11_end_19 rfl rfl ?_
      exact rt_i C rfl h dX11_end_20
    · have h := it_neg q h
      refine wp_iconst (v := (-1)) (pc := 12) C dX11_end_12 (by decide) ?_
      exact rt_i C rfl h dX11_end_13
theorem CtX11_end {n : Nat} {S S' : St} {r : Int32} {x1 : Int32} (h : fX11_end n S x1 = some (S', r)) : Ct l sdM cy ad D yX11_end cX11_end 2 (some .int) 0 0 [.ref (ad 0), .int x1] S (some (.int r)) S' :=
  Ct_of (own := RX11) mX11_end rfl (Nat.le_of_ble_eq_true rfl) (fun G e1 e2 e3 e4 C => by subst e1 e2 e3 e4; exact wX11_end C h)
def fX11_here (n : Nat) (S : St) (x1 : Int32) : Option (St × Int32) :=
  if (S.1 0 5) ≤ ((S.1 0 4) + x1) then
    some (S, (-1))
  else
    gd (ib ((S.1 0 4) + x1) 1700) (
    some (S, S.1 1 (Int32.toNatClampNeg ((S.1 0 4) + x1))))
set_option maxRecDepth 100000 in
set_option maxHeartbeats 4000000 in
theorem wX11_here (C : Cx G sdM cX11_here 2 RX11 (some .int)) {n : Nat} {S S' : St} {r : Int32} {x1 : Int32} (h : fX11_here n S x1 = some (S', r)) : Wp G sdM (rmOf 0 0) 2 (Qm G sdM (some (.int r)) S') S 0 [(0, .ref (gA G 0)), (1, .int x1)] [] := by
  unfold fX11_here at h
  refine wp_aload_n (pc := 0) C 0 dX11_here_0 rfl rfl ?_
  refine wp_getI (pc := 1) C flX11_174 rfl (Nat.le_of_ble_eq_true rfl) rfl dX11_here_1 ?_
  refine wp_iload_n (pc := 4) C 1 dX11_here_4 rfl rfl ?_
  refine wp_iadd (pc := 5) C dX11_here_5 ?_
  refine wp_aload_n (pc := 6) C 0 dX11_here_6 rfl rfl ?_
  refine wp_getI (pc := 7) C flX11_177 rfl (Nat.le_of_ble_eq_true rfl) rfl dX11_here_7 ?_
  refine wp_icmp_ge (pc := 10) C 27 dX11_here_10 (by decide) (fun q => ?_) (fun q => ?_)
  · have h := it_pos q h
    refine wp_iconst (v := (-1)) (pc := 27) C dX11_here_27 (by decide) ?_
    exact rt_i C rfl h dX11_here_28
  · have h := it_neg q h
    refine wp_aload_n (pc := 13) C 0 dX11_here_13 rfl rfl ?_
    refine wp_getS (v := 1) (pc := 14) C flX11_7 rfl rfl (Nat.le_of_ble_eq_true rfl) (Nat.le_of_ble_eq_true rfl) rfl dX11_here_14 ?_
    refine wp_aload_n (pc := 17) C 0 dX11_here_17 rfl rfl ?_
    refine wp_getI (pc := 18) C flX11_174 rfl (Nat.le_of_ble_eq_true rfl) rfl dX11_here_18 ?_
    refine wp_iload_n (pc := 21) C 1 dX11_here_21 rfl rfl ?_
    refine wp_iadd (pc := 22) C dX11_here_22 ?_
    obtain ⟨g1, h⟩ := gd_some h
    refine wp_iald (pc := 23) C (Nat.le_of_ble_eq_true rfl) rfl g1 dX11_here_23 ?_
    refine wp_goto (pc := 24) C 28 dX11_here_24 (by decide) ?_
    exact rt_i C rfl h dX11_here_28
theorem CtX11_here {n : Nat} {S S' : St} {r : Int32} {x1 : Int32} (h : fX11_here n S x1 = some (S', r)) : Ct l sdM cy ad D yX11_here cX11_here 2 (some .int) 0 0 [.ref (ad 0), .int x1] S (some (.int r)) S' :=
  Ct_of (own := RX11) mX11_here rfl (Nat.le_of_ble_eq_true rfl) (fun G e1 e2 e3 e4 C => by subst e1 e2 e3 e4; exact wX11_here C h)
def fX11_isLetter (n : Nat) (S : St) (x0 : Int32) : Option (St × Int32) :=
  if x0 < 97 then
    some (S, 0)
  else
    if 122 < x0 then
      some (S, 0)
    else
      some (S, 1)
set_option maxRecDepth 100000 in
set_option maxHeartbeats 4000000 in
theorem wX11_isLetter (C : Cx G sdM cX11_isLetter 1 RX11 (some .boolean)) {n : Nat} {S S' : St} {r : Int32} {x0 : Int32} (h : fX11_isLetter n S x0 = some (S', r)) : Wp G sdM (rmOf 0 0) 1 (Qm G sdM (some (.int r)) S') S 0 [(0, .int x0)] [] := by
  unfold fX11_isLetter at h
  refine wp_iload_n (pc := 0) C 0 dX11_isLetter_0 rfl rfl ?_
  refine wp_bipush (v := 97) (pc := 1) C dX11_isLetter_1 (by decide) ?_
  refine wp_icmp_lt (pc := 3) C 16 dX11_isLetter_3 (by decide) (fun q => ?_) (fun q => ?_)
  · have h := it_pos q h
    refine wp_iconst (v := 0) (pc := 16) C dX11_isLetter_16 (by decide) ?_
    exact rt_z C (Or.inl rfl) rfl h dX11_isLetter_17
  · have h := it_neg q h
    refine wp_iload_n (pc := 6) C 0 dX11_isLetter_6 rfl rfl ?_
    refine wp_bipush (v := 122) (pc := 7) C dX11_isLetter_7 (by decide) ?_
    refine wp_icmp_gt (pc := 9) C 16 dX11_isLetter_9 (by decide) (fun q => ?_) (fun q => ?_)
    · have h := it_pos q h
      refine wp_iconst (v := 0) (pc := 16) C dX11_isLetter_16 (by decide) ?_
      exact rt_z C (Or.inl rfl) rfl h dX11_isLetter_17
    · have h := it_neg q h
      refine wp_iconst (v := 1) (pc := 12) C dX11_isLetter_12 (by decide) ?_
      refine wp_goto (pc := 13) C 17 dX11_isLetter_13 (by decide) ?_
      exact rt_z C (Or.inr rfl) rfl h dX11_isLetter_17
theorem CtX11_isLetter {n : Nat} {S S' : St} {r : Int32} {x0 : Int32} (h : fX11_isLetter n S x0 = some (S', r)) : Ct l sdM cy ad D yX11_isLetter cX11_isLetter 1 (some .boolean) 0 0 [.int x0] S (some (.int r)) S' :=
  Ct_of (own := RX11) mX11_isLetter rfl (Nat.le_of_ble_eq_true rfl) (fun G e1 e2 e3 e4 C => by subst e1 e2 e3 e4; exact wX11_isLetter C h)
def fX11_isDigit (n : Nat) (S : St) (x0 : Int32) : Option (St × Int32) :=
  if x0 < 48 then
    some (S, 0)
  else
    if 57 < x0 then
      some (S, 0)
    else
      some (S, 1)
set_option maxRecDepth 100000 in
set_option maxHeartbeats 4000000 in
theorem wX11_isDigit (C : Cx G sdM cX11_isDigit 1 RX11 (some .boolean)) {n : Nat} {S S' : St} {r : Int32} {x0 : Int32} (h : fX11_isDigit n S x0 = some (S', r)) : Wp G sdM (rmOf 0 0) 1 (Qm G sdM (some (.int r)) S') S 0 [(0, .int x0)] [] := by
  unfold fX11_isDigit at h
  refine wp_iload_n (pc := 0) C 0 dX11_isDigit_0 rfl rfl ?_
  refine wp_bipush (v := 48) (pc := 1) C dX11_isDigit_1 (by decide) ?_
  refine wp_icmp_lt (pc := 3) C 16 dX11_isDigit_3 (by decide) (fun q => ?_) (fun q => ?_)
  · have h := it_pos q h
    refine wp_iconst (v := 0) (pc := 16) C dX11_isDigit_16 (by decide) ?_
    exact rt_z C (Or.inl rfl) rfl h dX11_isDigit_17
  · have h := it_neg q h
    refine wp_iload_n (pc := 6) C 0 dX11_isDigit_6 rfl rfl ?_
    refine wp_bipush (v := 57) (pc := 7) C dX11_isDigit_7 (by decide) ?_
    refine wp_icmp_gt (pc := 9) C 16 dX11_isDigit_9 (by decide) (fun q => ?_) (fun q => ?_)
    · have h := it_pos q h
      refine wp_iconst (v := 0) (pc := 16) C dX11_isDigit_16 (by decide) ?_
      exact rt_z C (Or.inl rfl) rfl h dX11_isDigit_17
    · have h := it_neg q h
      refine wp_iconst (v := 1) (pc := 12) C dX11_isDigit_12 (by decide) ?_
      refine wp_goto (pc := 13) C 17 dX11_isDigit_13 (by decide) ?_
      exact rt_z C (Or.inr rfl) rfl h dX11_isDigit_17
theorem CtX11_isDigit {n : Nat} {S S' : St} {r : Int32} {x0 : Int32} (h : fX11_isDigit n S x0 = some (S', r)) : Ct l sdM cy ad D yX11_isDigit cX11_isDigit 1 (some .boolean) 0 0 [.int x0] S (some (.int r)) S' :=
  Ct_of (own := RX11) mX11_isDigit rfl (Nat.le_of_ble_eq_true rfl) (fun G e1 e2 e3 e4 C => by subst e1 e2 e3 e4; exact wX11_isDigit C h)
def fX11_token_j231 (n : Nat) (S : St) (x2 : Int32) : Option (St × Unit) :=
  if (S.1 0 6) = 3 then
    some (S, ())
  else
    bn (sI S 0 4 ((S.1 0 4) + x2)) (fun S1 : St =>
    some (S1, ()))
set_option maxRecDepth 100000 in
set_option maxHeartbeats 4000000 in
theorem wX11_token_j231 (C : Cx G sdM cX11_token 3 RX11 none) {n : Nat} {S S' : St} {r : Unit} {x2 : Int32} (h : fX11_token_j231 n S x2 = some (S', r)) : Wp G sdM (rmOf 1 21) 3 (Qm G sdM none S') S 231 [(0, .ref (gA G 0)), (2, .int x2)] [] := by
  unfold fX11_token_j231 at h
  refine wp_aload_n (pc := 231) C 0 dX11_token_231 rfl rfl ?_
  refine wp_getI (pc := 232) C flX11_194 rfl (Nat.le_of_ble_eq_true rfl) rfl dX11_token_232 ?_
  refine wp_iconst (v := 3) (pc := 235) C dX11_token_235 (by decide) ?_
  refine wp_icmp_eq (pc := 236) C 249 dX11_token_236 (by decide) (fun q => ?_) (fun q => ?_)
  · have h := it_pos q h
    exact rt_v C rfl h dX11_token_249
  · have h := it_neg q h
    refine wp_aload_n (pc := 239) C 0 dX11_token_239 rfl rfl ?_
    refine wp_dup (pc := 240) C dX11_token_240 rfl ?_
    refine wp_getI (pc := 241) C flX11_174 rfl (Nat.le_of_ble_eq_true rfl) rfl dX11_token_241 ?_
    refine wp_iload_n (pc := 244) C 1 dX11_token_244 rfl rfl ?_
    refine wp_iadd (pc := 245) C dX11_token_245 ?_
    obtain ⟨S1, eS1, h⟩ := bn_some h
    refine wp_putI (pc := 246) C eS1 flX11_174 fpX11_4 rfl (Nat.le_of_ble_eq_true rfl) rfl dX11_token_246 ?_
    exact rt_v C rfl h dX11_token_249
def fX11_token_j228 (n : Nat) (S : St) (x2 : Int32) (y1 : Int32) : Option (St × Unit) :=
  bn (sI S 0 6 y1) (fun S1 : St =>
  fX11_token_j231 n S1 x2)
set_option maxRecDepth 100000 in
set_option maxHeartbeats 4000000 in
theorem wX11_token_j228 (C : Cx G sdM cX11_token 3 RX11 none) {n : Nat} {S S' : St} {r : Unit} {x2 : Int32} {y1 : Int32} (h : fX11_token_j228 n S x2 y1 = some (S', r)) : Wp G sdM (rmOf 1 21) 3 (Qm G sdM none S') S 228 [(0, .ref (gA G 0)), (2, .int x2)] [.int y1, .ref (gA G 0)] := by
  unfold fX11_token_j228 at h
  obtain ⟨S1, eS1, h⟩ := bn_some h
  refine wp_putI (pc := 228) C eS1 flX11_194 fpX11_6 rfl (Nat.le_of_ble_eq_true rfl) rfl dX11_token_228 ?_
  exact (wX11_token_j231 C h)
def fX11_token_j208 (n : Nat) (S : St) (x2 : Int32) (y1 : Int32) : Option (St × Unit) :=
  bn (sI S 0 6 y1) (fun S1 : St =>
  fX11_token_j231 n S1 x2)
set_option maxRecDepth 100000 in
set_option maxHeartbeats 4000000 in
theorem wX11_token_j208 (C : Cx G sdM cX11_token 3 RX11 none) {n : Nat} {S S' : St} {r : Unit} {x2 : Int32} {y1 : Int32} (h : fX11_token_j208 n S x2 y1 = some (S', r)) : Wp G sdM (rmOf 1 21) 3 (Qm G sdM none S') S 208 [(0, .ref (gA G 0)), (2, .int x2)] [.int y1, .ref (gA G 0)] := by
  unfold fX11_token_j208 at h
  obtain ⟨S1, eS1, h⟩ := bn_some h
  refine wp_putI (pc := 208) C eS1 flX11_194 fpX11_6 rfl (Nat.le_of_ble_eq_true rfl) rfl dX11_token_208 ?_
  refine wp_goto (pc := 211) C 231 dX11_token_211 (by decide) ?_
  exact (wX11_token_j231 C h)
def fX11_token_j203 (n : Nat) (S : St) (x2 : Int32) : Option (St × Unit) :=
  fX11_token_j208 n S x2 3
set_option maxRecDepth 100000 in
set_option maxHeartbeats 4000000 in
theorem wX11_token_j203 (C : Cx G sdM cX11_token 3 RX11 none) {n : Nat} {S S' : St} {r : Unit} {x2 : Int32} (h : fX11_token_j203 n S x2 = some (S', r)) : Wp G sdM (rmOf 1 21) 3 (Qm G sdM none S') S 203 [(0, .ref (gA G 0)), (2, .int x2)] [.ref (gA G 0)] := by
  unfold fX11_token_j203 at h
  refine wp_iconst (v := 3) (pc := 203) C dX11_token_203 (by decide) ?_
  refine wp_goto (pc := 204) C 208 dX11_token_204 (by decide) ?_
  exact (wX11_token_j208 C h)
def fX11_token_j186 (n : Nat) (S : St) (x2 : Int32) : Option (St × Unit) :=
  if 4 < x2 then
    fX11_token_j203 n S x2
  else
    bd (fX11_here n S x2) (fun S1 r2 =>
    bd (fX11_isLetter n S1 r2) (fun S3 r4 =>
    if r4 = 0 then
      fX11_token_j208 n S3 x2 2
    else
      fX11_token_j203 n S3 x2))
set_option maxRecDepth 100000 in
set_option maxHeartbeats 4000000 in
theorem wX11_token_j186 (C : Cx G sdM cX11_token 3 RX11 none) {n : Nat} {S S' : St} {r : Unit} {x2 : Int32} (h : fX11_token_j186 n S x2 = some (S', r)) : Wp G sdM (rmOf 1 21) 3 (Qm G sdM none S') S 186 [(0, .ref (gA G 0)), (2, .int x2)] [] := by
  unfold fX11_token_j186 at h
  refine wp_aload_n (pc := 186) C 0 dX11_token_186 rfl rfl ?_
  refine wp_iload_n (pc := 187) C 1 dX11_token_187 rfl rfl ?_
  refine wp_iconst (v := 4) (pc := 188) C dX11_token_188 (by decide) ?_
  refine wp_icmp_gt (pc := 189) C 203 dX11_token_189 (by decide) (fun q => ?_) (fun q => ?_)
  · have h := it_pos q h
    exact (wX11_token_j203 C h)
  · have h := it_neg q h
    refine wp_aload_n (pc := 192) C 0 dX11_token_192 rfl rfl ?_
    refine wp_iload_n (pc := 193) C 1 dX11_token_193 rfl rfl ?_
    obtain ⟨S1, r2, cS1, h⟩ := bd_some h
    refine wp_callVi (As := [.int x2]) (st := [.ref (gA G 0)]) (pc := 194) C (CtX11_here cS1) mX11_here iX11_here kX11_180 (Nat.le_of_ble_eq_true rfl) rfl (by decide) rfl rfl rfl rfl (Nat.le_of_ble_eq_true rfl) ⟨Nat.le_of_ble_eq_true rfl, Nat.le_of_ble_eq_true rfl⟩ dX11_token_194 ?_
    obtain ⟨S3, r4, cS3, h⟩ := bd_some h
    refine wp_callSi (As := [.int r2]) (st := [.ref (gA G 0)]) (pc := 197) C (CtX11_isLetter cS3) mX11_isLetter sX11_isLetter kX11_197 rfl rfl (Nat.le_of_ble_eq_true rfl) ⟨Nat.le_of_ble_eq_true rfl, Nat.le_of_ble_eq_true rfl⟩ dX11_token_197 ?_
    refine wp_if_eq (pc := 200) C 207 dX11_token_200 (by decide) (fun q => ?_) (fun q => ?_)
    · have h := it_pos q h
      refine wp_iconst (v := 2) (pc := 207) C dX11_token_207 (by decide) ?_
      exact (wX11_token_j208 C h)
    · have h := it_neg q h
      exact (wX11_token_j203 C h)
def fX11_token_j180 (n : Nat) (k144 : St → Int32 → Option (St × Unit)) (S : St) (x2 : Int32) : Option (St × Unit) :=
  bn (x2 + 1) (fun z1 : Int32 =>
  k144 S z1)
set_option maxRecDepth 100000 in
set_option maxHeartbeats 4000000 in
theorem wX11_token_j180 (C : Cx G sdM cX11_token 3 RX11 none) {n : Nat} {k144 : St → Int32 → Option (St × Unit)} {S S' : St} {r : Unit} {x2 : Int32} (hk144 : ∀ (S : St) (x2 : Int32), k144 S x2 = some (S', r) → Wp G sdM (rmOf 1 21) 3 (Qm G sdM none S') S 144 [(0, .ref (gA G 0)), (2, .int x2)] []) (h : fX11_token_j180 n k144 S x2 = some (S', r)) : Wp G sdM (rmOf 1 21) 3 (Qm G sdM none S') S 180 [(0, .ref (gA G 0)), (2, .int x2)] [] := by
  unfold fX11_token_j180 at h
  obtain ⟨z1, ez1, h⟩ := bn_some h
  refine wp_iinc (q := 1) (pc := 180) C (by decide) ez1 [(2, .int z1), (0, .ref (gA G 0))] dX11_token_180 rfl (Nat.le_of_ble_eq_true rfl) rfl ?_
  refine wp_goto (pc := 183) C 144 dX11_token_183 (by decide) ?_
  exact wp_sub C [1, 0] rfl (hk144 _ _ h)
def fX11_token_l144 (n : Nat) : Nat → St → Int32 → Option (St × Unit)
  | 0, _, _ => none
  | j + 1, S, x2 =>
    bd (fX11_here n S x2) (fun S1 r2 =>
    bd (fX11_isDigit n S1 r2) (fun S3 r4 =>
    if r4 = 0 then
      fX11_token_j186 n S3 x2
    else
      if 4 ≤ x2 then
        fX11_token_j180 n (fX11_token_l144 n j) S3 x2
      else
        bd (fX11_here n S3 x2) (fun S5 r6 =>
        bn (sI S5 0 8 (((10 * (S3.1 0 8)) + r6) - 48)) (fun S7 : St =>
        fX11_token_j180 n (fX11_token_l144 n j) S7 x2))))
set_option maxRecDepth 100000 in
set_option maxHeartbeats 4000000 in
theorem wX11_token_l144 (C : Cx G sdM cX11_token 3 RX11 none) {n : Nat} {S' : St} {r : Unit} : ∀ (j : Nat) (S : St) (x2 : Int32), fX11_token_l144 n j S x2 = some (S', r) → Wp G sdM (rmOf 1 21) 3 (Qm G sdM none S') S 144 [(0, .ref (gA G 0)), (2, .int x2)] [] := by
  intro j
  induction j with
  | zero =>
    intro S x2 h
    exact nomatch (show (none : Option (St × Unit)) = some _ from h)
  | succ j ih =>
    intro S x2 h
    rw [fX11_token_l144] at h
    refine wp_aload_n (pc := 144) C 0 dX11_token_144 rfl rfl ?_
    refine wp_iload_n (pc := 145) C 1 dX11_token_145 rfl rfl ?_
    obtain ⟨S1, r2, cS1, h⟩ := bd_some h
    refine wp_callVi (As := [.int x2]) (st := []) (pc := 146) C (CtX11_here cS1) mX11_here iX11_here kX11_180 (Nat.le_of_ble_eq_true rfl) rfl (by decide) rfl rfl rfl rfl (Nat.le_of_ble_eq_true rfl) ⟨Nat.le_of_ble_eq_true rfl, Nat.le_of_ble_eq_true rfl⟩ dX11_token_146 ?_
    obtain ⟨S3, r4, cS3, h⟩ := bd_some h
    refine wp_callSi (As := [.int r2]) (st := []) (pc := 149) C (CtX11_isDigit cS3) mX11_isDigit sX11_isDigit kX11_201 rfl rfl (Nat.le_of_ble_eq_true rfl) ⟨Nat.le_of_ble_eq_true rfl, Nat.le_of_ble_eq_true rfl⟩ dX11_token_149 ?_
    refine wp_if_eq (pc := 152) C 186 dX11_token_152 (by decide) (fun q => ?_) (fun q => ?_)
    · have h := it_pos q h
      exact (wX11_token_j186 C h)
    · have h := it_neg q h
      refine wp_iload_n (pc := 155) C 1 dX11_token_155 rfl rfl ?_
      refine wp_iconst (v := 4) (pc := 156) C dX11_token_156 (by decide) ?_
      refine wp_icmp_ge (pc := 157) C 180 dX11_token_157 (by decide) (fun q => ?_) (fun q => ?_)
      · have h := it_pos q h
        exact (wX11_token_j180 C ih h)
      · have h := it_neg q h
        refine wp_aload_n (pc := 160) C 0 dX11_token_160 rfl rfl ?_
        refine wp_bipush (v := 10) (pc := 161) C dX11_token_161 (by decide) ?_
        refine wp_aload_n (pc := 163) C 0 dX11_token_163 rfl rfl ?_
        refine wp_getI (pc := 164) C flX11_191 rfl (Nat.le_of_ble_eq_true rfl) rfl dX11_token_164 ?_
        refine wp_imul (pc := 167) C dX11_token_167 ?_
        refine wp_aload_n (pc := 168) C 0 dX11_token_168 rfl rfl ?_
        refine wp_iload_n (pc := 169) C 1 dX11_token_169 rfl rfl ?_
        obtain ⟨S5, r6, cS5, h⟩ := bd_some h
        refine wp_callVi (As := [.int x2]) (st := [.int (10 * (S3.1 0 8)), .ref (gA G 0)]) (pc := 170) C (CtX11_here cS5) mX11_here iX11_here kX11_180 (Nat.le_of_ble_eq_true rfl) rfl (by decide) rfl rfl rfl rfl (Nat.le_of_ble_eq_true rfl) ⟨Nat.le_of_ble_eq_true rfl, Nat.le_of_ble_eq_true rfl⟩ dX11_token_170 ?_
        refine wp_iadd (pc := 173) C dX11_token_173 ?_
        refine wp_bipush (v := 48) (pc := 174) C dX11_token_174 (by decide) ?_
        refine wp_isub (pc := 176) C dX11_token_176 ?_
        obtain ⟨S7, eS7, h⟩ := bn_some h
        refine wp_putI (pc := 177) C eS7 flX11_191 fpX11_8 rfl (Nat.le_of_ble_eq_true rfl) rfl dX11_token_177 ?_
        exact (wX11_token_j180 C ih h)
def fX11_token_j131 (n : Nat) (S : St) (x2 : Int32) (y1 : Int32) : Option (St × Unit) :=
  bn (sI S 0 6 y1) (fun S1 : St =>
  fX11_token_j231 n S1 x2)
set_option maxRecDepth 100000 in
set_option maxHeartbeats 4000000 in
theorem wX11_token_j131 (C : Cx G sdM cX11_token 3 RX11 none) {n : Nat} {S S' : St} {r : Unit} {x2 : Int32} {y1 : Int32} (h : fX11_token_j131 n S x2 y1 = some (S', r)) : Wp G sdM (rmOf 1 21) 3 (Qm G sdM none S') S 131 [(0, .ref (gA G 0)), (2, .int x2)] [.int y1, .ref (gA G 0)] := by
  unfold fX11_token_j131 at h
  obtain ⟨S1, eS1, h⟩ := bn_some h
  refine wp_putI (pc := 131) C eS1 flX11_194 fpX11_6 rfl (Nat.le_of_ble_eq_true rfl) rfl dX11_token_131 ?_
  refine wp_goto (pc := 134) C 231 dX11_token_134 (by decide) ?_
  exact (wX11_token_j231 C h)
def fX11_token_j119 (n : Nat) (S : St) (x2 : Int32) : Option (St × Unit) :=
  if x2 ≤ 8 then
    fX11_token_j131 n S x2 1
  else
    fX11_token_j131 n S x2 3
set_option maxRecDepth 100000 in
set_option maxHeartbeats 4000000 in
theorem wX11_token_j119 (C : Cx G sdM cX11_token 3 RX11 none) {n : Nat} {S S' : St} {r : Unit} {x2 : Int32} (h : fX11_token_j119 n S x2 = some (S', r)) : Wp G sdM (rmOf 1 21) 3 (Qm G sdM none S') S 119 [(0, .ref (gA G 0)), (2, .int x2)] [] := by
  unfold fX11_token_j119 at h
  refine wp_aload_n (pc := 119) C 0 dX11_token_119 rfl rfl ?_
  refine wp_iload_n (pc := 120) C 1 dX11_token_120 rfl rfl ?_
  refine wp_bipush (v := 8) (pc := 121) C dX11_token_121 (by decide) ?_
  refine wp_icmp_le (pc := 123) C 130 dX11_token_123 (by decide) (fun q => ?_) (fun q => ?_)
  · have h := it_pos q h
    refine wp_iconst (v := 1) (pc := 130) C dX11_token_130 (by decide) ?_
    exact (wX11_token_j131 C h)
  · have h := it_neg q h
    refine wp_iconst (v := 3) (pc := 126) C dX11_token_126 (by decide) ?_
    refine wp_goto (pc := 127) C 131 dX11_token_127 (by decide) ?_
    exact (wX11_token_j131 C h)
def fX11_token_j113 (n : Nat) (k78 : St → Int32 → Option (St × Unit)) (S : St) (x2 : Int32) : Option (St × Unit) :=
  bn (x2 + 1) (fun z1 : Int32 =>
  k78 S z1)
set_option maxRecDepth 100000 in
set_option maxHeartbeats 4000000 in
theorem wX11_token_j113 (C : Cx G sdM cX11_token 3 RX11 none) {n : Nat} {k78 : St → Int32 → Option (St × Unit)} {S S' : St} {r : Unit} {x2 : Int32} (hk78 : ∀ (S : St) (x2 : Int32), k78 S x2 = some (S', r) → Wp G sdM (rmOf 1 21) 3 (Qm G sdM none S') S 78 [(0, .ref (gA G 0)), (2, .int x2)] []) (h : fX11_token_j113 n k78 S x2 = some (S', r)) : Wp G sdM (rmOf 1 21) 3 (Qm G sdM none S') S 113 [(0, .ref (gA G 0)), (2, .int x2)] [] := by
  unfold fX11_token_j113 at h
  obtain ⟨z1, ez1, h⟩ := bn_some h
  refine wp_iinc (q := 1) (pc := 113) C (by decide) ez1 [(2, .int z1), (0, .ref (gA G 0))] dX11_token_113 rfl (Nat.le_of_ble_eq_true rfl) rfl ?_
  refine wp_goto (pc := 116) C 78 dX11_token_116 (by decide) ?_
  exact wp_sub C [1, 0] rfl (hk78 _ _ h)
def fX11_token_l78 (n : Nat) : Nat → St → Int32 → Option (St × Unit)
  | 0, _, _ => none
  | j + 1, S, x2 =>
    bd (fX11_here n S x2) (fun S1 r2 =>
    bd (fX11_isLetter n S1 r2) (fun S3 r4 =>
    if r4 = 0 then
      fX11_token_j119 n S3 x2
    else
      if 8 ≤ x2 then
        fX11_token_j113 n (fX11_token_l78 n j) S3 x2
      else
        bd (fX11_here n S3 x2) (fun S5 r6 =>
        bn (sL S5 0 9 (((S3.2.1 0 9) <<< ((8 : Int32).toInt64 &&& 63)) ||| ((r6 : Int32).toInt64))) (fun S7 : St =>
        fX11_token_j113 n (fX11_token_l78 n j) S7 x2))))
set_option maxRecDepth 100000 in
set_option maxHeartbeats 4000000 in
theorem wX11_token_l78 (C : Cx G sdM cX11_token 3 RX11 none) {n : Nat} {S' : St} {r : Unit} : ∀ (j : Nat) (S : St) (x2 : Int32), fX11_token_l78 n j S x2 = some (S', r) → Wp G sdM (rmOf 1 21) 3 (Qm G sdM none S') S 78 [(0, .ref (gA G 0)), (2, .int x2)] [] := by
  intro j
  induction j with
  | zero =>
    intro S x2 h
    exact nomatch (show (none : Option (St × Unit)) = some _ from h)
  | succ j ih =>
    intro S x2 h
    rw [fX11_token_l78] at h
    refine wp_aload_n (pc := 78) C 0 dX11_token_78 rfl rfl ?_
    refine wp_iload_n (pc := 79) C 1 dX11_token_79 rfl rfl ?_
    obtain ⟨S1, r2, cS1, h⟩ := bd_some h
    refine wp_callVi (As := [.int x2]) (st := []) (pc := 80) C (CtX11_here cS1) mX11_here iX11_here kX11_180 (Nat.le_of_ble_eq_true rfl) rfl (by decide) rfl rfl rfl rfl (Nat.le_of_ble_eq_true rfl) ⟨Nat.le_of_ble_eq_true rfl, Nat.le_of_ble_eq_true rfl⟩ dX11_token_80 ?_
    obtain ⟨S3, r4, cS3, h⟩ := bd_some h
    refine wp_callSi (As := [.int r2]) (st := []) (pc := 83) C (CtX11_isLetter cS3) mX11_isLetter sX11_isLetter kX11_197 rfl rfl (Nat.le_of_ble_eq_true rfl) ⟨Nat.le_of_ble_eq_true rfl, Nat.le_of_ble_eq_true rfl⟩ dX11_token_83 ?_
    refine wp_if_eq (pc := 86) C 119 dX11_token_86 (by decide) (fun q => ?_) (fun q => ?_)
    · have h := it_pos q h
      exact (wX11_token_j119 C h)
    · have h := it_neg q h
      refine wp_iload_n (pc := 89) C 1 dX11_token_89 rfl rfl ?_
      refine wp_bipush (v := 8) (pc := 90) C dX11_token_90 (by decide) ?_
      refine wp_icmp_ge (pc := 92) C 113 dX11_token_92 (by decide) (fun q => ?_) (fun q => ?_)
      · have h := it_pos q h
        exact (wX11_token_j113 C ih h)
      · have h := it_neg q h
        refine wp_aload_n (pc := 95) C 0 dX11_token_95 rfl rfl ?_
        refine wp_aload_n (pc := 96) C 0 dX11_token_96 rfl rfl ?_
        refine wp_getL (pc := 97) C flX11_187 rfl (Nat.le_of_ble_eq_true rfl) rfl dX11_token_97 ?_
        refine wp_bipush (v := 8) (pc := 100) C dX11_token_100 (by decide) ?_
        refine wp_lshl (pc := 102) C dX11_token_102 ?_
        refine wp_aload_n (pc := 103) C 0 dX11_token_103 rfl rfl ?_
        refine wp_iload_n (pc := 104) C 1 dX11_token_104 rfl rfl ?_
        obtain ⟨S5, r6, cS5, h⟩ := bd_some h
        refine wp_callVi (As := [.int x2]) (st := [.long ((S3.2.1 0 9) <<< ((8 : Int32).toInt64 &&& 63)), .ref (gA G 0)]) (pc := 105) C (CtX11_here cS5) mX11_here iX11_here kX11_180 (Nat.le_of_ble_eq_true rfl) rfl (by decide) rfl rfl rfl rfl (Nat.le_of_ble_eq_true rfl) ⟨Nat.le_of_ble_eq_true rfl, Nat.le_of_ble_eq_true rfl⟩ dX11_token_105 ?_
        refine wp_i2l (pc := 108) C dX11_token_108 ?_
        refine wp_lor (pc := 109) C dX11_token_109 ?_
        obtain ⟨S7, eS7, h⟩ := bn_some h
        refine wp_putL (pc := 110) C eS7 flX11_187 fpX11_9 rfl (Nat.le_of_ble_eq_true rfl) rfl dX11_token_110 ?_
        exact (wX11_token_j113 C ih h)
def fX11_token_j33 (n : Nat) (S : St) : Option (St × Unit) :=
  bn (sI S 0 7 (S.1 0 4)) (fun S1 : St =>
  bd (fX11_here n S1 0) (fun S2 r3 =>
  bn (sL S2 0 9 0) (fun S4 : St =>
  bn (sI S4 0 8 0) (fun S5 : St =>
  if 0 ≤ r3 then
    bd (fX11_isLetter n S5 r3) (fun S6 r7 =>
    if r7 = 0 then
      bd (fX11_isDigit n S6 r3) (fun S8 r9 =>
      if r9 = 0 then
        if r3 = 59 then
          fX11_token_j228 n S8 1 r3
        else
          fX11_token_j228 n S8 1 3
      else
        fX11_token_l144 n n S8 0)
    else
      fX11_token_l78 n n S6 0)
  else
    bn (sI S5 0 6 0) (fun S10 : St =>
    fX11_token_j231 n S10 0)))))
set_option maxRecDepth 100000 in
set_option maxHeartbeats 4000000 in
theorem wX11_token_j33 (C : Cx G sdM cX11_token 3 RX11 none) {n : Nat} {S S' : St} {r : Unit} (h : fX11_token_j33 n S = some (S', r)) : Wp G sdM (rmOf 1 21) 3 (Qm G sdM none S') S 33 [(0, .ref (gA G 0))] [] := by
  unfold fX11_token_j33 at h
  refine wp_aload_n (pc := 33) C 0 dX11_token_33 rfl rfl ?_
  refine wp_aload_n (pc := 34) C 0 dX11_token_34 rfl rfl ?_
  refine wp_getI (pc := 35) C flX11_174 rfl (Nat.le_of_ble_eq_true rfl) rfl dX11_token_35 ?_
  obtain ⟨S1, eS1, h⟩ := bn_some h
  refine wp_putI (pc := 38) C eS1 flX11_184 fpX11_7 rfl (Nat.le_of_ble_eq_true rfl) rfl dX11_token_38 ?_
  refine wp_aload_n (pc := 41) C 0 dX11_token_41 rfl rfl ?_
  refine wp_iconst (v := 0) (pc := 42) C dX11_token_42 (by decide) ?_
  obtain ⟨S2, r3, cS2, h⟩ := bd_some h
  refine wp_callVi (As := [.int 0]) (st := []) (pc := 43) C (CtX11_here cS2) mX11_here iX11_here kX11_180 (Nat.le_of_ble_eq_true rfl) rfl (by decide) rfl rfl rfl rfl (Nat.le_of_ble_eq_true rfl) ⟨Nat.le_of_ble_eq_true rfl, Nat.le_of_ble_eq_true rfl⟩ dX11_token_43 ?_
  refine wp_istore_n (pc := 46) C rfl [(1, .int r3), (0, .ref (gA G 0))] dX11_token_46 rfl (Nat.le_of_ble_eq_true rfl) rfl ?_
  refine wp_iconst (v := 0) (pc := 47) C dX11_token_47 (by decide) ?_
  refine wp_istore_n (pc := 48) C rfl [(2, .int 0), (1, .int r3), (0, .ref (gA G 0))] dX11_token_48 rfl (Nat.le_of_ble_eq_true rfl) rfl ?_
  refine wp_aload_n (pc := 49) C 2 dX11_token_49 rfl rfl ?_
  refine wp_lconst (v := 0) (pc := 50) C dX11_token_50 (by decide) ?_
  obtain ⟨S4, eS4, h⟩ := bn_some h
  refine wp_putL (pc := 51) C eS4 flX11_187 fpX11_9 rfl (Nat.le_of_ble_eq_true rfl) rfl dX11_token_51 ?_
  refine wp_aload_n (pc := 54) C 2 dX11_token_54 rfl rfl ?_
  refine wp_iconst (v := 0) (pc := 55) C dX11_token_55 (by decide) ?_
  obtain ⟨S5, eS5, h⟩ := bn_some h
  refine wp_putI (pc := 56) C eS5 flX11_191 fpX11_8 rfl (Nat.le_of_ble_eq_true rfl) rfl dX11_token_56 ?_
  refine wp_iload_n (pc := 59) C 1 dX11_token_59 rfl rfl ?_
  refine wp_if_ge (pc := 60) C 71 dX11_token_60 (by decide) (fun q => ?_) (fun q => ?_)
  · have h := it_pos q h
    refine wp_iload_n (pc := 71) C 1 dX11_token_71 rfl rfl ?_
    obtain ⟨S6, r7, cS6, h⟩ := bd_some h
    refine wp_callSi (As := [.int r3]) (st := []) (pc := 72) C (CtX11_isLetter cS6) mX11_isLetter sX11_isLetter kX11_197 rfl rfl (Nat.le_of_ble_eq_true rfl) ⟨Nat.le_of_ble_eq_true rfl, Nat.le_of_ble_eq_true rfl⟩ dX11_token_72 ?_
    refine wp_if_eq (pc := 75) C 137 dX11_token_75 (by decide) (fun q => ?_) (fun q => ?_)
    · have h := it_pos q h
      refine wp_iload_n (pc := 137) C 1 dX11_token_137 rfl rfl ?_
      obtain ⟨S8, r9, cS8, h⟩ := bd_some h
      refine wp_callSi (As := [.int r3]) (st := []) (pc := 138) C (CtX11_isDigit cS8) mX11_isDigit sX11_isDigit kX11_201 rfl rfl (Nat.le_of_ble_eq_true rfl) ⟨Nat.le_of_ble_eq_true rfl, Nat.le_of_ble_eq_true rfl⟩ dX11_token_138 ?_
      refine wp_if_eq (pc := 141) C 214 dX11_token_141 (by decide) (fun q => ?_) (fun q => ?_)
      · have h := it_pos q h
        refine wp_iconst (v := 1) (pc := 214) C dX11_token_214 (by decide) ?_
        refine wp_istore_n (pc := 215) C rfl [(2, .int 1), (1, .int r3), (0, .ref (gA G 0))] dX11_token_215 rfl (Nat.le_of_ble_eq_true rfl) rfl ?_
        refine wp_aload_n (pc := 216) C 2 dX11_token_216 rfl rfl ?_
        refine wp_iload_n (pc := 217) C 1 dX11_token_217 rfl rfl ?_
        refine wp_bipush (v := 59) (pc := 218) C dX11_token_218 (by decide) ?_
        refine wp_icmp_ne (pc := 220) C 227 dX11_token_220 (by decide) (fun q => ?_) (fun q => ?_)
        · have h := it_neg q h
          refine wp_iconst (v := 3) (pc := 227) C dX11_token_227 (by decide) ?_
          exact wp_sub C [2, 0] rfl (wX11_token_j228 C h)
        · have h := it_pos q h
          refine wp_iload_n (pc := 223) C 1 dX11_token_223 rfl rfl ?_
          refine wp_goto (pc := 224) C 228 dX11_token_224 (by decide) ?_
          exact wp_sub C [2, 0] rfl (wX11_token_j228 C h)
      · have h := it_neg q h
        exact wp_sub C [2, 0] rfl (wX11_token_l144 C _ _ _ h)
    · have h := it_neg q h
      exact wp_sub C [2, 0] rfl (wX11_token_l78 C _ _ _ h)
  · have h := it_neg q h
    refine wp_aload_n (pc := 63) C 2 dX11_token_63 rfl rfl ?_
    refine wp_iconst (v := 0) (pc := 64) C dX11_token_64 (by decide) ?_
    obtain ⟨S10, eS10, h⟩ := bn_some h
    refine wp_putI (pc := 65) C eS10 flX11_194 fpX11_6 rfl (Nat.le_of_ble_eq_true rfl) rfl dX11_token_65 ?_
    refine wp_goto (pc := 68) C 231 dX11_token_68 (by decide) ?_
    exact wp_sub C [2, 0] rfl (wX11_token_j231 C h)
def fX11_token_j20 (n : Nat) (k0 : St → Option (St × Unit)) (S : St) : Option (St × Unit) :=
  bn (sI S 0 4 ((S.1 0 4) + 1)) (fun S1 : St =>
  k0 S1)
set_option maxRecDepth 100000 in
set_option maxHeartbeats 4000000 in
theorem wX11_token_j20 (C : Cx G sdM cX11_token 3 RX11 none) {n : Nat} {k0 : St → Option (St × Unit)} {S S' : St} {r : Unit} (hk0 : ∀ (S : St), k0 S = some (S', r) → Wp G sdM (rmOf 1 21) 3 (Qm G sdM none S') S 0 [(0, .ref (gA G 0))] []) (h : fX11_token_j20 n k0 S = some (S', r)) : Wp G sdM (rmOf 1 21) 3 (Qm G sdM none S') S 20 [(0, .ref (gA G 0))] [] := by
  unfold fX11_token_j20 at h
  refine wp_aload_n (pc := 20) C 0 dX11_token_20 rfl rfl ?_
  refine wp_dup (pc := 21) C dX11_token_21 rfl ?_
  refine wp_getI (pc := 22) C flX11_174 rfl (Nat.le_of_ble_eq_true rfl) rfl dX11_token_22 ?_
  refine wp_iconst (v := 1) (pc := 25) C dX11_token_25 (by decide) ?_
  refine wp_iadd (pc := 26) C dX11_token_26 ?_
  obtain ⟨S1, eS1, h⟩ := bn_some h
  refine wp_putI (pc := 27) C eS1 flX11_174 fpX11_4 rfl (Nat.le_of_ble_eq_true rfl) rfl dX11_token_27 ?_
  refine wp_goto (pc := 30) C 0 dX11_token_30 (by decide) ?_
  exact (hk0 _ h)
def fX11_token_l0 (n : Nat) : Nat → St → Option (St × Unit)
  | 0, _ => none
  | j + 1, S =>
    bd (fX11_here n S 0) (fun S1 r2 =>
    if r2 = 32 then
      fX11_token_j20 n (fX11_token_l0 n j) S1
    else
      bd (fX11_here n S1 0) (fun S3 r4 =>
      if r4 = 10 then
        fX11_token_j20 n (fX11_token_l0 n j) S3
      else
        fX11_token_j33 n S3))
set_option maxRecDepth 100000 in
set_option maxHeartbeats 4000000 in
theorem wX11_token_l0 (C : Cx G sdM cX11_token 3 RX11 none) {n : Nat} {S' : St} {r : Unit} : ∀ (j : Nat) (S : St), fX11_token_l0 n j S = some (S', r) → Wp G sdM (rmOf 1 21) 3 (Qm G sdM none S') S 0 [(0, .ref (gA G 0))] [] := by
  intro j
  induction j with
  | zero =>
    intro S h
    exact nomatch (show (none : Option (St × Unit)) = some _ from h)
  | succ j ih =>
    intro S h
    rw [fX11_token_l0] at h
    refine wp_aload_n (pc := 0) C 0 dX11_token_0 rfl rfl ?_
    refine wp_iconst (v := 0) (pc := 1) C dX11_token_1 (by decide) ?_
    obtain ⟨S1, r2, cS1, h⟩ := bd_some h
    refine wp_callVi (As := [.int 0]) (st := []) (pc := 2) C (CtX11_here cS1) mX11_here iX11_here kX11_180 (Nat.le_of_ble_eq_true rfl) rfl (by decide) rfl rfl rfl rfl (Nat.le_of_ble_eq_true rfl) ⟨Nat.le_of_ble_eq_true rfl, Nat.le_of_ble_eq_true rfl⟩ dX11_token_2 ?_
    refine wp_bipush (v := 32) (pc := 5) C dX11_token_5 (by decide) ?_
    refine wp_icmp_eq (pc := 7) C 20 dX11_token_7 (by decide) (fun q => ?_) (fun q => ?_)
    · have h := it_pos q h
      exact (wX11_token_j20 C ih h)
    · have h := it_neg q h
      refine wp_aload_n (pc := 10) C 0 dX11_token_10 rfl rfl ?_
      refine wp_iconst (v := 0) (pc := 11) C dX11_token_11 (by decide) ?_
      obtain ⟨S3, r4, cS3, h⟩ := bd_some h
      refine wp_callVi (As := [.int 0]) (st := []) (pc := 12) C (CtX11_here cS3) mX11_here iX11_here kX11_180 (Nat.le_of_ble_eq_true rfl) rfl (by decide) rfl rfl rfl rfl (Nat.le_of_ble_eq_true rfl) ⟨Nat.le_of_ble_eq_true rfl, Nat.le_of_ble_eq_true rfl⟩ dX11_token_12 ?_
      refine wp_bipush (v := 10) (pc := 15) C dX11_token_15 (by decide) ?_
      refine wp_icmp_ne (pc := 17) C 33 dX11_token_17 (by decide) (fun q => ?_) (fun q => ?_)
      · have h := it_neg q h
        exact (wX11_token_j33 C h)
      · have h := it_pos q h
        exact (wX11_token_j20 C ih h)
def fX11_token (n : Nat) (S : St) : Option (St × Unit) :=
  fX11_token_l0 n n S
set_option maxRecDepth 100000 in
set_option maxHeartbeats 4000000 in
theorem wX11_token (C : Cx G sdM cX11_token 3 RX11 none) {n : Nat} {S S' : St} {r : Unit} (h : fX11_token n S = some (S', r)) : Wp G sdM (rmOf 1 21) 3 (Qm G sdM none S') S 0 [(0, .ref (gA G 0))] [] := by
  unfold fX11_token at h
  exact (wX11_token_l0 C _ _ h)
theorem CtX11_token {n : Nat} {S S' : St} {r : Unit} (h : fX11_token n S = some (S', r)) : Ct l sdM cy ad D yX11_token cX11_token 3 none 1 21 [.ref (ad 0)] S none S' :=
  Ct_of (own := RX11) mX11_token rfl (Nat.le_of_ble_eq_true rfl) (fun G e1 e2 e3 e4 C => by subst e1 e2 e3 e4; exact wX11_token C h)
def fX11_wrong_j22 (n : Nat) (S : St) (y1 : Int32) : Option (St × Unit) :=
  bn (sI S 0 2 y1) (fun S1 : St =>
  bn (sI S1 0 3 (S1.1 0 7)) (fun S2 : St =>
  some (S2, ())))
set_option maxRecDepth 100000 in
set_option maxHeartbeats 4000000 in
theorem wX11_wrong_j22 (C : Cx G sdM cX11_wrong 2 RX11 none) {n : Nat} {S S' : St} {r : Unit} {y1 : Int32} (h : fX11_wrong_j22 n S y1 = some (S', r)) : Wp G sdM (rmOf 0 0) 2 (Qm G sdM none S') S 22 [(0, .ref (gA G 0))] [.int y1, .ref (gA G 0)] := by
  unfold fX11_wrong_j22 at h
  obtain ⟨S1, eS1, h⟩ := bn_some h
  refine wp_putI (pc := 22) C eS1 flX11_204 fpX11_2 rfl (Nat.le_of_ble_eq_true rfl) rfl dX11_wrong_22 ?_
  refine wp_aload_n (pc := 25) C 0 dX11_wrong_25 rfl rfl ?_
  refine wp_aload_n (pc := 26) C 0 dX11_wrong_26 rfl rfl ?_
  refine wp_getI (pc := 27) C flX11_184 rfl (Nat.le_of_ble_eq_true rfl) rfl dX11_wrong_27 ?_
  obtain ⟨S2, eS2, h⟩ := bn_some h
  refine wp_putI (pc := 30) C eS2 flX11_13 fpX11_3 rfl (Nat.le_of_ble_eq_true rfl) rfl dX11_wrong_30 ?_
  exact rt_v C rfl h dX11_wrong_33
def fX11_wrong (n : Nat) (S : St) (x1 : Int32) : Option (St × Unit) :=
  if (S.1 0 2) ≤ 0 then
    if (S.1 0 6) = 3 then
      fX11_wrong_j22 n S 1
    else
      fX11_wrong_j22 n S x1
  else
    some (S, ())
set_option maxRecDepth 100000 in
set_option maxHeartbeats 4000000 in
theorem wX11_wrong (C : Cx G sdM cX11_wrong 2 RX11 none) {n : Nat} {S S' : St} {r : Unit} {x1 : Int32} (h : fX11_wrong n S x1 = some (S', r)) : Wp G sdM (rmOf 0 0) 2 (Qm G sdM none S') S 0 [(0, .ref (gA G 0)), (1, .int x1)] [] := by
  unfold fX11_wrong at h
  refine wp_aload_n (pc := 0) C 0 dX11_wrong_0 rfl rfl ?_
  refine wp_getI (pc := 1) C flX11_204 rfl (Nat.le_of_ble_eq_true rfl) rfl dX11_wrong_1 ?_
  refine wp_if_le (pc := 4) C 8 dX11_wrong_4 (by decide) (fun q => ?_) (fun q => ?_)
  · have h := it_pos q h
    refine wp_aload_n (pc := 8) C 0 dX11_wrong_8 rfl rfl ?_
    refine wp_aload_n (pc := 9) C 0 dX11_wrong_9 rfl rfl ?_
    refine wp_getI (pc := 10) C flX11_194 rfl (Nat.le_of_ble_eq_true rfl) rfl dX11_wrong_10 ?_
    refine wp_iconst (v := 3) (pc := 13) C dX11_wrong_13 (by decide) ?_
    refine wp_icmp_ne (pc := 14) C 21 dX11_wrong_14 (by decide) (fun q => ?_) (fun q => ?_)
    · have h := it_neg q h
      refine wp_iload_n (pc := 21) C 1 dX11_wrong_21 rfl rfl ?_
      exact wp_sub C [0] rfl (wX11_wrong_j22 C h)
    · have h := it_pos q h
      refine wp_iconst (v := 1) (pc := 17) C dX11_wrong_17 (by decide) ?_
      refine wp_goto (pc := 18) C 22 dX11_wrong_18 (by decide) ?_
      exact wp_sub C [0] rfl (wX11_wrong_j22 C h)
  · have h := it_neg q h
    exact rt_v C rfl h dX11_wrong_7
theorem CtX11_wrong {n : Nat} {S S' : St} {r : Unit} {x1 : Int32} (h : fX11_wrong n S x1 = some (S', r)) : Ct l sdM cy ad D yX11_wrong cX11_wrong 2 none 0 0 [.ref (ad 0), .int x1] S none S' :=
  Ct_of (own := RX11) mX11_wrong rfl (Nat.le_of_ble_eq_true rfl) (fun G e1 e2 e3 e4 C => by subst e1 e2 e3 e4; exact wX11_wrong C h)
def fX11_isWord (n : Nat) (S : St) (x1 : Int64) : Option (St × Int32) :=
  if (S.1 0 6) = 1 then
    if (lg_cmp (S.2.1 0 9) x1) = 0 then
      some (S, 1)
    else
      some (S, 0)
  else
    some (S, 0)
set_option maxRecDepth 100000 in
set_option maxHeartbeats 4000000 in
theorem wX11_isWord (C : Cx G sdM cX11_isWord 3 RX11 (some .boolean)) {n : Nat} {S S' : St} {r : Int32} {x1 : Int64} (h : fX11_isWord n S x1 = some (S', r)) : Wp G sdM (rmOf 0 0) 3 (Qm G sdM (some (.int r)) S') S 0 [(0, .ref (gA G 0)), (1, .long x1)] [] := by
  unfold fX11_isWord at h
  refine wp_aload_n (pc := 0) C 0 dX11_isWord_0 rfl rfl ?_
  refine wp_getI (pc := 1) C flX11_194 rfl (Nat.le_of_ble_eq_true rfl) rfl dX11_isWord_1 ?_
  refine wp_iconst (v := 1) (pc := 4) C dX11_isWord_4 (by decide) ?_
  refine wp_icmp_ne (pc := 5) C 21 dX11_isWord_5 (by decide) (fun q => ?_) (fun q => ?_)
  · have h := it_neg q h
    refine wp_iconst (v := 0) (pc := 21) C dX11_isWord_21 (by decide) ?_
    exact rt_z C (Or.inl rfl) rfl h dX11_isWord_22
  · have h := it_pos q h
    refine wp_aload_n (pc := 8) C 0 dX11_isWord_8 rfl rfl ?_
    refine wp_getL (pc := 9) C flX11_187 rfl (Nat.le_of_ble_eq_true rfl) rfl dX11_isWord_9 ?_
    refine wp_lload_n (pc := 12) C 1 dX11_isWord_12 rfl rfl ?_
    refine wp_lcmp (pc := 13) C dX11_isWord_13 ?_
    refine wp_if_ne (pc := 14) C 21 dX11_isWord_14 (by decide) (fun q => ?_) (fun q => ?_)
    · have h := it_neg q h
      refine wp_iconst (v := 0) (pc := 21) C dX11_isWord_21 (by decide) ?_
      exact rt_z C (Or.inl rfl) rfl h dX11_isWord_22
    · have h := it_pos q h
      refine wp_iconst (v := 1) (pc := 17) C dX11_isWord_17 (by decide) ?_
      refine wp_goto (pc := 18) C 22 dX11_isWord_18 (by decide) ?_
      exact rt_z C (Or.inr rfl) rfl h dX11_isWord_22
theorem CtX11_isWord {n : Nat} {S S' : St} {r : Int32} {x1 : Int64} (h : fX11_isWord n S x1 = some (S', r)) : Ct l sdM cy ad D yX11_isWord cX11_isWord 3 (some .boolean) 0 0 [.ref (ad 0), .long x1] S (some (.int r)) S' :=
  Ct_of (own := RX11) mX11_isWord rfl (Nat.le_of_ble_eq_true rfl) (fun G e1 e2 e3 e4 C => by subst e1 e2 e3 e4; exact wX11_isWord C h)
def fX11_isName_j175 (n : Nat) (S : St) (x1 : Int32) (y0 : Int32) : Option (St × Int32) :=
  if x1 = 0 then
    if y0 = 0 then
      some (S, 1)
    else
      some (S, 0)
  else
    some (S, 0)
set_option maxRecDepth 100000 in
set_option maxHeartbeats 4000000 in
theorem wX11_isName_j175 (C : Cx G sdM cX11_isName 3 RX11 (some .boolean)) {n : Nat} {S S' : St} {r : Int32} {x1 : Int32} {y0 : Int32} (h : fX11_isName_j175 n S x1 y0 = some (S', r)) : Wp G sdM (rmOf 0 0) 3 (Qm G sdM (some (.int r)) S') S 175 [(1, .int x1)] [.int y0] := by
  unfold fX11_isName_j175 at h
  refine wp_istore_n (pc := 175) C rfl [(2, .int y0), (1, .int x1)] dX11_isName_175 rfl (Nat.le_of_ble_eq_true rfl) rfl ?_
  refine wp_iload_n (pc := 176) C 1 dX11_isName_176 rfl rfl ?_
  refine wp_if_ne (pc := 177) C 188 dX11_isName_177 (by decide) (fun q => ?_) (fun q => ?_)
  · have h := it_neg q h
    refine wp_iconst (v := 0) (pc := 188) C dX11_isName_188 (by decide) ?_
    exact rt_z C (Or.inl rfl) rfl h dX11_isName_189
  · have h := it_pos q h
    refine wp_iload_n (pc := 180) C 0 dX11_isName_180 rfl rfl ?_
    refine wp_if_ne (pc := 181) C 188 dX11_isName_181 (by decide) (fun q => ?_) (fun q => ?_)
    · have h := it_neg q h
      refine wp_iconst (v := 0) (pc := 188) C dX11_isName_188 (by decide) ?_
      exact rt_z C (Or.inl rfl) rfl h dX11_isName_189
    · have h := it_pos q h
      refine wp_iconst (v := 1) (pc := 184) C dX11_isName_184 (by decide) ?_
      refine wp_goto (pc := 185) C 189 dX11_isName_185 (by decide) ?_
      exact rt_z C (Or.inr rfl) rfl h dX11_isName_189
def fX11_isName_j170 (n : Nat) (S : St) (x1 : Int32) : Option (St × Int32) :=
  fX11_isName_j175 n S x1 1
set_option maxRecDepth 100000 in
set_option maxHeartbeats 4000000 in
theorem wX11_isName_j170 (C : Cx G sdM cX11_isName 3 RX11 (some .boolean)) {n : Nat} {S S' : St} {r : Int32} {x1 : Int32} (h : fX11_isName_j170 n S x1 = some (S', r)) : Wp G sdM (rmOf 0 0) 3 (Qm G sdM (some (.int r)) S') S 170 [(1, .int x1)] [] := by
  unfold fX11_isName_j170 at h
  refine wp_iconst (v := 1) (pc := 170) C dX11_isName_170 (by decide) ?_
  refine wp_goto (pc := 171) C 175 dX11_isName_171 (by decide) ?_
  exact (wX11_isName_j175 C h)
def fX11_isName_j92 (n : Nat) (S : St) (y0 : Int32) : Option (St × Int32) :=
  if (lg_cmp (S.2.1 0 9) 6650213) = 0 then
    fX11_isName_j170 n S y0
  else
    if (lg_cmp (S.2.1 0 9) 1735356260) = 0 then
      fX11_isName_j170 n S y0
    else
      if (lg_cmp (S.2.1 0 9) 28526) = 0 then
        fX11_isName_j170 n S y0
      else
        if (lg_cmp (S.2.1 0 9) 1836020596) = 0 then
          fX11_isName_j170 n S y0
        else
          if (lg_cmp (S.2.1 0 9) 418430675813) = 0 then
            fX11_isName_j170 n S y0
          else
            if (lg_cmp (S.2.1 0 9) 1870030194) = 0 then
              fX11_isName_j170 n S y0
            else
              if (lg_cmp (S.2.1 0 9) 1936484720) = 0 then
                fX11_isName_j170 n S y0
              else
                fX11_isName_j175 n S y0 0
set_option maxRecDepth 100000 in
set_option maxHeartbeats 4000000 in
theorem wX11_isName_j92 (C : Cx G sdM cX11_isName 3 RX11 (some .boolean)) {n : Nat} {S S' : St} {r : Int32} {y0 : Int32} (h : fX11_isName_j92 n S y0 = some (S', r)) : Wp G sdM (rmOf 0 0) 3 (Qm G sdM (some (.int r)) S') S 92 [(0, .ref (gA G 0))] [.int y0] := by
  unfold fX11_isName_j92 at h
  refine wp_istore_n (pc := 92) C rfl [(1, .int y0), (0, .ref (gA G 0))] dX11_isName_92 rfl (Nat.le_of_ble_eq_true rfl) rfl ?_
  refine wp_aload_n (pc := 93) C 1 dX11_isName_93 rfl rfl ?_
  refine wp_getL (pc := 94) C flX11_187 rfl (Nat.le_of_ble_eq_true rfl) rfl dX11_isName_94 ?_
  refine wp_ldc2 (pc := 97) C qX11_221 dX11_isName_97 ?_
  refine wp_lcmp (pc := 100) C dX11_isName_100 ?_
  refine wp_if_eq (pc := 101) C 170 dX11_isName_101 (by decide) (fun q => ?_) (fun q => ?_)
  · have h := it_pos q h
    exact wp_sub C [0] rfl (wX11_isName_j170 C h)
  · have h := it_neg q h
    refine wp_aload_n (pc := 104) C 1 dX11_isName_104 rfl rfl ?_
    refine wp_getL (pc := 105) C flX11_187 rfl (Nat.le_of_ble_eq_true rfl) rfl dX11_isName_105 ?_
    refine wp_ldc2 (pc := 108) C qX11_223 dX11_isName_108 ?_
    refine wp_lcmp (pc := 111) C dX11_isName_111 ?_
    refine wp_if_eq (pc := 112) C 170 dX11_isName_112 (by decide) (fun q => ?_) (fun q => ?_)
    · have h := it_pos q h
      exact wp_sub C [0] rfl (wX11_isName_j170 C h)
    · have h := it_neg q h
      refine wp_aload_n (pc := 115) C 1 dX11_isName_115 rfl rfl ?_
      refine wp_getL (pc := 116) C flX11_187 rfl (Nat.le_of_ble_eq_true rfl) rfl dX11_isName_116 ?_
      refine wp_ldc2 (pc := 119) C qX11_225 dX11_isName_119 ?_
      refine wp_lcmp (pc := 122) C dX11_isName_122 ?_
      refine wp_if_eq (pc := 123) C 170 dX11_isName_123 (by decide) (fun q => ?_) (fun q => ?_)
      · have h := it_pos q h
        exact wp_sub C [0] rfl (wX11_isName_j170 C h)
      · have h := it_neg q h
        refine wp_aload_n (pc := 126) C 1 dX11_isName_126 rfl rfl ?_
        refine wp_getL (pc := 127) C flX11_187 rfl (Nat.le_of_ble_eq_true rfl) rfl dX11_isName_127 ?_
        refine wp_ldc2 (pc := 130) C qX11_227 dX11_isName_130 ?_
        refine wp_lcmp (pc := 133) C dX11_isName_133 ?_
        refine wp_if_eq (pc := 134) C 170 dX11_isName_134 (by decide) (fun q => ?_) (fun q => ?_)
        · have h := it_pos q h
          exact wp_sub C [0] rfl (wX11_isName_j170 C h)
        · have h := it_neg q h
          refine wp_aload_n (pc := 137) C 1 dX11_isName_137 rfl rfl ?_
          refine wp_getL (pc := 138) C flX11_187 rfl (Nat.le_of_ble_eq_true rfl) rfl dX11_isName_138 ?_
          refine wp_ldc2 (pc := 141) C qX11_229 dX11_isName_141 ?_
          refine wp_lcmp (pc := 144) C dX11_isName_144 ?_
          refine wp_if_eq (pc := 145) C 170 dX11_isName_145 (by decide) (fun q => ?_) (fun q => ?_)
          · have h := it_pos q h
            exact wp_sub C [0] rfl (wX11_isName_j170 C h)
          · have h := it_neg q h
            refine wp_aload_n (pc := 148) C 1 dX11_isName_148 rfl rfl ?_
            refine wp_getL (pc := 149) C flX11_187 rfl (Nat.le_of_ble_eq_true rfl) rfl dX11_isName_149 ?_
            refine wp_ldc2 (pc := 152) C qX11_231 dX11_isName_152 ?_
            refine wp_lcmp (pc := 155) C dX11_isName_155 ?_
            refine wp_if_eq (pc := 156) C 170 dX11_isName_156 (by decide) (fun q => ?_) (fun q => ?_)
            · have h := it_pos q h
              exact wp_sub C [0] rfl (wX11_isName_j170 C h)
            · have h := it_neg q h
              refine wp_aload_n (pc := 159) C 1 dX11_isName_159 rfl rfl ?_
              refine wp_getL (pc := 160) C flX11_187 rfl (Nat.le_of_ble_eq_true rfl) rfl dX11_isName_160 ?_
              refine wp_ldc2 (pc := 163) C qX11_233 dX11_isName_163 ?_
              refine wp_lcmp (pc := 166) C dX11_isName_166 ?_
              refine wp_if_ne (pc := 167) C 174 dX11_isName_167 (by decide) (fun q => ?_) (fun q => ?_)
              · have h := it_neg q h
                refine wp_iconst (v := 0) (pc := 174) C dX11_isName_174 (by decide) ?_
                exact wp_sub C [0] rfl (wX11_isName_j175 C h)
              · have h := it_pos q h
                exact wp_sub C [0] rfl (wX11_isName_j170 C h)
def fX11_isName_j87 (n : Nat) (S : St) : Option (St × Int32) :=
  fX11_isName_j92 n S 1
set_option maxRecDepth 100000 in
set_option maxHeartbeats 4000000 in
theorem wX11_isName_j87 (C : Cx G sdM cX11_isName 3 RX11 (some .boolean)) {n : Nat} {S S' : St} {r : Int32} (h : fX11_isName_j87 n S = some (S', r)) : Wp G sdM (rmOf 0 0) 3 (Qm G sdM (some (.int r)) S') S 87 [(0, .ref (gA G 0))] [] := by
  unfold fX11_isName_j87 at h
  refine wp_iconst (v := 1) (pc := 87) C dX11_isName_87 (by decide) ?_
  refine wp_goto (pc := 88) C 92 dX11_isName_88 (by decide) ?_
  exact (wX11_isName_j92 C h)
def fX11_isName (n : Nat) (S : St) : Option (St × Int32) :=
  if (S.1 0 6) = 1 then
    if (lg_cmp (S.2.1 0 9) 422541419635) = 0 then
      fX11_isName_j87 n S
    else
      if (lg_cmp (S.2.1 0 9) 6584677) = 0 then
        fX11_isName_j87 n S
      else
        if (lg_cmp (S.2.1 0 9) 482955846501) = 0 then
          fX11_isName_j87 n S
        else
          if (lg_cmp (S.2.1 0 9) 1717662580) = 0 then
            fX11_isName_j87 n S
          else
            if (lg_cmp (S.2.1 0 9) 28518) = 0 then
              fX11_isName_j87 n S
            else
              if (lg_cmp (S.2.1 0 9) 113741193899620) = 0 then
                fX11_isName_j87 n S
              else
                if (lg_cmp (S.2.1 0 9) 1818324336) = 0 then
                  fX11_isName_j87 n S
                else
                  fX11_isName_j92 n S 0
  else
    some (S, 0)
set_option maxRecDepth 100000 in
set_option maxHeartbeats 4000000 in
theorem wX11_isName (C : Cx G sdM cX11_isName 3 RX11 (some .boolean)) {n : Nat} {S S' : St} {r : Int32} (h : fX11_isName n S = some (S', r)) : Wp G sdM (rmOf 0 0) 3 (Qm G sdM (some (.int r)) S') S 0 [(0, .ref (gA G 0))] [] := by
  unfold fX11_isName at h
  refine wp_aload_n (pc := 0) C 0 dX11_isName_0 rfl rfl ?_
  refine wp_getI (pc := 1) C flX11_194 rfl (Nat.le_of_ble_eq_true rfl) rfl dX11_isName_1 ?_
  refine wp_iconst (v := 1) (pc := 4) C dX11_isName_4 (by decide) ?_
  refine wp_icmp_eq (pc := 5) C 10 dX11_isName_5 (by decide) (fun q => ?_) (fun q => ?_)
  · have h := it_pos q h
    refine wp_aload_n (pc := 10) C 0 dX11_isName_10 rfl rfl ?_
    refine wp_getL (pc := 11) C flX11_187 rfl (Nat.le_of_ble_eq_true rfl) rfl dX11_isName_11 ?_
    refine wp_ldc2 (pc := 14) C qX11_207 dX11_isName_14 ?_
    refine wp_lcmp (pc := 17) C dX11_isName_17 ?_
    refine wp_if_eq (pc := 18) C 87 dX11_isName_18 (by decide) (fun q => ?_) (fun q => ?_)
    · have h := it_pos q h
      exact (wX11_isName_j87 C h)
    · have h := it_neg q h
      refine wp_aload_n (pc := 21) C 0 dX11_isName_21 rfl rfl ?_
      refine wp_getL (pc := 22) C flX11_187 rfl (Nat.le_of_ble_eq_true rfl) rfl dX11_isName_22 ?_
      refine wp_ldc2 (pc := 25) C qX11_209 dX11_isName_25 ?_
      refine wp_lcmp (pc := 28) C dX11_isName_28 ?_
      refine wp_if_eq (pc := 29) C 87 dX11_isName_29 (by decide) (fun q => ?_) (fun q => ?_)
      · have h := it_pos q h
        exact (wX11_isName_j87 C h)
      · have h := it_neg q h
        refine wp_aload_n (pc := 32) C 0 dX11_isName_32 rfl rfl ?_
        refine wp_getL (pc := 33) C flX11_187 rfl (Nat.le_of_ble_eq_true rfl) rfl dX11_isName_33 ?_
        refine wp_ldc2 (pc := 36) C qX11_211 dX11_isName_36 ?_
        refine wp_lcmp (pc := 39) C dX11_isName_39 ?_
        refine wp_if_eq (pc := 40) C 87 dX11_isName_40 (by decide) (fun q => ?_) (fun q => ?_)
        · have h := it_pos q h
          exact (wX11_isName_j87 C h)
        · have h := it_neg q h
          refine wp_aload_n (pc := 43) C 0 dX11_isName_43 rfl rfl ?_
          refine wp_getL (pc := 44) C flX11_187 rfl (Nat.le_of_ble_eq_true rfl) rfl dX11_isName_44 ?_
          refine wp_ldc2 (pc := 47) C qX11_213 dX11_isName_47 ?_
          refine wp_lcmp (pc := 50) C dX11_isName_50 ?_
          refine wp_if_eq (pc := 51) C 87 dX11_isName_51 (by decide) (fun q => ?_) (fun q => ?_)
          · have h := it_pos q h
            exact (wX11_isName_j87 C h)
          · have h := it_neg q h
            refine wp_aload_n (pc := 54) C 0 dX11_isName_54 rfl rfl ?_
            refine wp_getL (pc := 55) C flX11_187 rfl (Nat.le_of_ble_eq_true rfl) rfl dX11_isName_55 ?_
            refine wp_ldc2 (pc := 58) C qX11_215 dX11_isName_58 ?_
            refine wp_lcmp (pc := 61) C dX11_isName_61 ?_
            refine wp_if_eq (pc := 62) C 87 dX11_isName_62 (by decide) (fun q => ?_) (fun q => ?_)
            · have h := it_pos q h
              exact (wX11_isName_j87 C h)
            · have h := it_neg q h
              refine wp_aload_n (pc := 65) C 0 dX11_isName_65 rfl rfl ?_
              refine wp_getL (pc := 66) C flX11_187 rfl (Nat.le_of_ble_eq_true rfl) rfl dX11_isName_66 ?_
              refine wp_ldc2 (pc := 69) C qX11_217 dX11_isName_69 ?_
              refine wp_lcmp (pc := 72) C dX11_isName_72 ?_
              refine wp_if_eq (pc := 73) C 87 dX11_isName_73 (by decide) (fun q => ?_) (fun q => ?_)
              · have h := it_pos q h
                exact (wX11_isName_j87 C h)
              · have h := it_neg q h
                refine wp_aload_n (pc := 76) C 0 dX11_isName_76 rfl rfl ?_
                refine wp_getL (pc := 77) C flX11_187 rfl (Nat.le_of_ble_eq_true rfl) rfl dX11_isName_77 ?_
                refine wp_ldc2 (pc := 80) C qX11_219 dX11_isName_80 ?_
                refine wp_lcmp (pc := 83) C dX11_isName_83 ?_
                refine wp_if_ne (pc := 84) C 91 dX11_isName_84 (by decide) (fun q => ?_) (fun q => ?_)
                · have h := it_neg q h
                  refine wp_iconst (v := 0) (pc := 91) C dX11_isName_91 (by decide) ?_
                  exact (wX11_isName_j92 C h)
                · have h := it_pos q h
                  exact (wX11_isName_j87 C h)
  · have h := it_neg q h
    refine wp_iconst (v := 0) (pc := 8) C dX11_isName_8 (by decide) ?_
    exact rt_z C (Or.inl rfl) rfl h dX11_isName_9
theorem CtX11_isName {n : Nat} {S S' : St} {r : Int32} (h : fX11_isName n S = some (S', r)) : Ct l sdM cy ad D yX11_isName cX11_isName 3 (some .boolean) 0 0 [.ref (ad 0)] S (some (.int r)) S' :=
  Ct_of (own := RX11) mX11_isName rfl (Nat.le_of_ble_eq_true rfl) (fun G e1 e2 e3 e4 C => by subst e1 e2 e3 e4; exact wX11_isName C h)
def fX11_want (n : Nat) (S : St) (x1 : Int64) : Option (St × Unit) :=
  if (S.1 0 2) ≤ 0 then
    bd (fX11_isWord n S x1) (fun S1 r2 =>
    if r2 = 0 then
      bd (fX11_wrong n S1 2) (fun S5 r6 =>
      some (S5, ()))
    else
      bd (fX11_token n S1) (fun S3 r4 =>
      some (S3, ())))
  else
    some (S, ())
set_option maxRecDepth 100000 in
set_option maxHeartbeats 4000000 in
theorem wX11_want (C : Cx G sdM cX11_want 3 RX11 none) {n : Nat} {S S' : St} {r : Unit} {x1 : Int64} (h : fX11_want n S x1 = some (S', r)) : Wp G sdM (rmOf 2 43) 3 (Qm G sdM none S') S 0 [(0, .ref (gA G 0)), (1, .long x1)] [] := by
  unfold fX11_want at h
  refine wp_aload_n (pc := 0) C 0 dX11_want_0 rfl rfl ?_
  refine wp_getI (pc := 1) C flX11_204 rfl (Nat.le_of_ble_eq_true rfl) rfl dX11_want_1 ?_
  refine wp_if_le (pc := 4) C 8 dX11_want_4 (by decide) (fun q => ?_) (fun q => ?_)
  · have h := it_pos q h
    refine wp_aload_n (pc := 8) C 0 dX11_want_8 rfl rfl ?_
    refine wp_lload_n (pc := 9) C 1 dX11_want_9 rfl rfl ?_
    obtain ⟨S1, r2, cS1, h⟩ := bd_some h
    refine wp_callVi (As := [.long x1]) (st := []) (pc := 10) C (CtX11_isWord cS1) mX11_isWord iX11_isWord kX11_235 (Nat.le_of_ble_eq_true rfl) rfl (by decide) rfl rfl rfl rfl (Nat.le_of_ble_eq_true rfl) ⟨Nat.le_of_ble_eq_true rfl, Nat.le_of_ble_eq_true rfl⟩ dX11_want_10 ?_
    refine wp_if_ne (pc := 13) C 24 dX11_want_13 (by decide) (fun q => ?_) (fun q => ?_)
    · have h := it_neg q h
      refine wp_aload_n (pc := 24) C 0 dX11_want_24 rfl rfl ?_
      obtain ⟨S3, r4, cS3, h⟩ := bd_some h
      refine wp_callVv (As := []) (st := []) (pc := 25) C (CtX11_token cS3) mX11_token iX11_token kX11_242 (Nat.le_of_ble_eq_true rfl) rfl (by decide) rfl rfl rfl rfl (Nat.le_of_ble_eq_true rfl) ⟨Nat.le_of_ble_eq_true rfl, Nat.le_of_ble_eq_true rfl⟩ dX11_want_25 ?_
      exact rt_v C rfl h dX11_want_28
    · have h := it_pos q h
      refine wp_aload_n (pc := 16) C 0 dX11_want_16 rfl rfl ?_
      refine wp_iconst (v := 2) (pc := 17) C dX11_want_17 (by decide) ?_
      obtain ⟨S5, r6, cS5, h⟩ := bd_some h
      refine wp_callVv (As := [.int 2]) (st := []) (pc := 18) C (CtX11_wrong cS5) mX11_wrong iX11_wrong kX11_239 (Nat.le_of_ble_eq_true rfl) rfl (by decide) rfl rfl rfl rfl (Nat.le_of_ble_eq_true rfl) ⟨Nat.le_of_ble_eq_true rfl, Nat.le_of_ble_eq_true rfl⟩ dX11_want_18 ?_
      refine wp_goto (pc := 21) C 28 dX11_want_21 (by decide) ?_
      exact rt_v C rfl h dX11_want_28
  · have h := it_neg q h
    exact rt_v C rfl h dX11_want_7
theorem CtX11_want {n : Nat} {S S' : St} {r : Unit} {x1 : Int64} (h : fX11_want n S x1 = some (S', r)) : Ct l sdM cy ad D yX11_want cX11_want 3 none 2 43 [.ref (ad 0), .long x1] S none S' :=
  Ct_of (own := RX11) mX11_want rfl (Nat.le_of_ble_eq_true rfl) (fun G e1 e2 e3 e4 C => by subst e1 e2 e3 e4; exact wX11_want C h)
def fX11_toldNumber_j46 (n : Nat) (S : St) : Option (St × Int32) :=
  bn (S.1 0 8) (fun z1 : Int32 =>
  if (S.1 0 2) = 0 then
    bd (fX11_token n S) (fun S2 r3 =>
    some (S2, z1))
  else
    some (S, z1))
set_option maxRecDepth 100000 in
set_option maxHeartbeats 4000000 in
theorem wX11_toldNumber_j46 (C : Cx G sdM cX11_toldNumber 4 RX11 (some .int)) {n : Nat} {S S' : St} {r : Int32} (h : fX11_toldNumber_j46 n S = some (S', r)) : Wp G sdM (rmOf 2 43) 4 (Qm G sdM (some (.int r)) S') S 46 [(0, .ref (gA G 0))] [] := by
  unfold fX11_toldNumber_j46 at h
  refine wp_aload_n (pc := 46) C 0 dX11_toldNumber_46 rfl rfl ?_
  refine wp_getI (pc := 47) C flX11_191 rfl (Nat.le_of_ble_eq_true rfl) rfl dX11_toldNumber_47 ?_
  obtain ⟨z1, ez1, h⟩ := bn_some h
  refine wp_istore_n (pc := 50) C ez1 [(3, .int z1), (0, .ref (gA G 0))] dX11_toldNumber_50 rfl (Nat.le_of_ble_eq_true rfl) rfl ?_
  refine wp_aload_n (pc := 51) C 1 dX11_toldNumber_51 rfl rfl ?_
  refine wp_getI (pc := 52) C flX11_204 rfl (Nat.le_of_ble_eq_true rfl) rfl dX11_toldNumber_52 ?_
  refine wp_if_ne (pc := 55) C 62 dX11_toldNumber_55 (by decide) (fun q => ?_) (fun q => ?_)
  · have h := it_neg q h
    refine wp_iload_n (pc := 62) C 0 dX11_toldNumber_62 rfl rfl ?_
    exact rt_i C rfl h dX11_toldNumber_63
  · have h := it_pos q h
    refine wp_aload_n (pc := 58) C 1 dX11_toldNumber_58 rfl rfl ?_
    obtain ⟨S2, r3, cS2, h⟩ := bd_some h
    refine wp_callVv (As := []) (st := []) (pc := 59) C (CtX11_token cS2) mX11_token iX11_token kX11_242 (Nat.le_of_ble_eq_true rfl) rfl (by decide) rfl rfl rfl rfl (Nat.le_of_ble_eq_true rfl) ⟨Nat.le_of_ble_eq_true rfl, Nat.le_of_ble_eq_true rfl⟩ dX11_toldNumber_59 ?_
    refine wp_iload_n (pc := 62) C 0 dX11_toldNumber_62 rfl rfl ?_
    exact rt_i C rfl h dX11_toldNumber_63
def fX11_toldNumber_j41 (n : Nat) (S : St) : Option (St × Int32) :=
  bd (fX11_wrong n S 4) (fun S1 r2 =>
  fX11_toldNumber_j46 n S1)
set_option maxRecDepth 100000 in
set_option maxHeartbeats 4000000 in
theorem wX11_toldNumber_j41 (C : Cx G sdM cX11_toldNumber 4 RX11 (some .int)) {n : Nat} {S S' : St} {r : Int32} (h : fX11_toldNumber_j41 n S = some (S', r)) : Wp G sdM (rmOf 2 43) 4 (Qm G sdM (some (.int r)) S') S 41 [(0, .ref (gA G 0))] [] := by
  unfold fX11_toldNumber_j41 at h
  refine wp_aload_n (pc := 41) C 0 dX11_toldNumber_41 rfl rfl ?_
  refine wp_iconst (v := 4) (pc := 42) C dX11_toldNumber_42 (by decide) ?_
  obtain ⟨S1, r2, cS1, h⟩ := bd_some h
  refine wp_callVv (As := [.int 4]) (st := []) (pc := 43) C (CtX11_wrong cS1) mX11_wrong iX11_wrong kX11_239 (Nat.le_of_ble_eq_true rfl) rfl (by decide) rfl rfl rfl rfl (Nat.le_of_ble_eq_true rfl) ⟨Nat.le_of_ble_eq_true rfl, Nat.le_of_ble_eq_true rfl⟩ dX11_toldNumber_43 ?_
  exact (wX11_toldNumber_j46 C h)
def fX11_toldNumber (n : Nat) (S : St) (x1 : Int32) (x2 : Int32) : Option (St × Int32) :=
  if (S.1 0 2) ≤ 0 then
    if (S.1 0 6) = 2 then
      if (S.1 0 8) < x1 then
        fX11_toldNumber_j41 n S
      else
        if (S.1 0 8) ≤ x2 then
          fX11_toldNumber_j46 n S
        else
          fX11_toldNumber_j41 n S
    else
      bd (fX11_wrong n S 2) (fun S1 r2 =>
      fX11_toldNumber_j46 n S1)
  else
    some (S, 0)
set_option maxRecDepth 100000 in
set_option maxHeartbeats 4000000 in
theorem wX11_toldNumber (C : Cx G sdM cX11_toldNumber 4 RX11 (some .int)) {n : Nat} {S S' : St} {r : Int32} {x1 : Int32} {x2 : Int32} (h : fX11_toldNumber n S x1 x2 = some (S', r)) : Wp G sdM (rmOf 2 43) 4 (Qm G sdM (some (.int r)) S') S 0 [(0, .ref (gA G 0)), (1, .int x1), (2, .int x2)] [] := by
  unfold fX11_toldNumber at h
  refine wp_aload_n (pc := 0) C 0 dX11_toldNumber_0 rfl rfl ?_
  refine wp_getI (pc := 1) C flX11_204 rfl (Nat.le_of_ble_eq_true rfl) rfl dX11_toldNumber_1 ?_
  refine wp_if_le (pc := 4) C 9 dX11_toldNumber_4 (by decide) (fun q => ?_) (fun q => ?_)
  · have h := it_pos q h
    refine wp_aload_n (pc := 9) C 0 dX11_toldNumber_9 rfl rfl ?_
    refine wp_getI (pc := 10) C flX11_194 rfl (Nat.le_of_ble_eq_true rfl) rfl dX11_toldNumber_10 ?_
    refine wp_iconst (v := 2) (pc := 13) C dX11_toldNumber_13 (by decide) ?_
    refine wp_icmp_eq (pc := 14) C 25 dX11_toldNumber_14 (by decide) (fun q => ?_) (fun q => ?_)
    · have h := it_pos q h
      refine wp_aload_n (pc := 25) C 0 dX11_toldNumber_25 rfl rfl ?_
      refine wp_getI (pc := 26) C flX11_191 rfl (Nat.le_of_ble_eq_true rfl) rfl dX11_toldNumber_26 ?_
      refine wp_iload_n (pc := 29) C 1 dX11_toldNumber_29 rfl rfl ?_
      refine wp_icmp_lt (pc := 30) C 41 dX11_toldNumber_30 (by decide) (fun q => ?_) (fun q => ?_)
      · have h := it_pos q h
        exact wp_sub C [0] rfl (wX11_toldNumber_j41 C h)
      · have h := it_neg q h
        refine wp_aload_n (pc := 33) C 0 dX11_toldNumber_33 rfl rfl ?_
        refine wp_getI (pc := 34) C flX11_191 rfl (Nat.le_of_ble_eq_true rfl) rfl dX11_toldNumber_34 ?_
        refine wp_iload_n (pc := 37) C 2 dX11_toldNumber_37 rfl rfl ?_
        refine wp_icmp_le (pc := 38) C 46 dX11_toldNumber_38 (by decide) (fun q => ?_) (fun q => ?_)
        · have h := it_pos q h
          exact wp_sub C [0] rfl (wX11_toldNumber_j46 C h)
        · have h := it_neg q h
          exact wp_sub C [0] rfl (wX11_toldNumber_j41 C h)
    · have h := it_neg q h
      refine wp_aload_n (pc := 17) C 0 dX11_toldNumber_17 rfl rfl ?_
      refine wp_iconst (v := 2) (pc := 18) C dX11_toldNumber_18 (by decide) ?_
      obtain ⟨S1, r2, cS1, h⟩ := bd_some h
      refine wp_callVv (As := [.int 2]) (st := []) (pc := 19) C (CtX11_wrong cS1) mX11_wrong iX11_wrong kX11_239 (Nat.le_of_ble_eq_true rfl) rfl (by decide) rfl rfl rfl rfl (Nat.le_of_ble_eq_true rfl) ⟨Nat.le_of_ble_eq_true rfl, Nat.le_of_ble_eq_true rfl⟩ dX11_toldNumber_19 ?_
      refine wp_goto (pc := 22) C 46 dX11_toldNumber_22 (by decide) ?_
      exact wp_sub C [0] rfl (wX11_toldNumber_j46 C h)
  · have h := it_neg q h
    refine wp_iconst (v := 0) (pc := 7) C dX11_toldNumber_7 (by decide) ?_
    exact rt_i C rfl h dX11_toldNumber_8
theorem CtX11_toldNumber {n : Nat} {S S' : St} {r : Int32} {x1 : Int32} {x2 : Int32} (h : fX11_toldNumber n S x1 x2 = some (S', r)) : Ct l sdM cy ad D yX11_toldNumber cX11_toldNumber 4 (some .int) 2 43 [.ref (ad 0), .int x1, .int x2] S (some (.int r)) S' :=
  Ct_of (own := RX11) mX11_toldNumber rfl (Nat.le_of_ble_eq_true rfl) (fun G e1 e2 e3 e4 C => by subst e1 e2 e3 e4; exact wX11_toldNumber C h)
def fX11_told (n : Nat) (S : St) (x1 : Int64) (x3 : Int32) (x4 : Int32) : Option (St × Int32) :=
  bd (fX11_want n S x1) (fun S1 r2 =>
  bd (fX11_toldNumber n S1 x3 x4) (fun S3 r4 =>
  some (S3, r4)))
set_option maxRecDepth 100000 in
set_option maxHeartbeats 4000000 in
theorem wX11_told (C : Cx G sdM cX11_told 5 RX11 (some .int)) {n : Nat} {S S' : St} {r : Int32} {x1 : Int64} {x3 : Int32} {x4 : Int32} (h : fX11_told n S x1 x3 x4 = some (S', r)) : Wp G sdM (rmOf 3 66) 5 (Qm G sdM (some (.int r)) S') S 0 [(0, .ref (gA G 0)), (1, .long x1), (3, .int x3), (4, .int x4)] [] := by
  unfold fX11_told at h
  refine wp_aload_n (pc := 0) C 0 dX11_told_0 rfl rfl ?_
  refine wp_lload_n (pc := 1) C 1 dX11_told_1 rfl rfl ?_
  obtain ⟨S1, r2, cS1, h⟩ := bd_some h
  refine wp_callVv (As := [.long x1]) (st := []) (pc := 2) C (CtX11_want cS1) mX11_want iX11_want kX11_245 (Nat.le_of_ble_eq_true rfl) rfl (by decide) rfl rfl rfl rfl (Nat.le_of_ble_eq_true rfl) ⟨Nat.le_of_ble_eq_true rfl, Nat.le_of_ble_eq_true rfl⟩ dX11_told_2 ?_
  refine wp_aload_n (pc := 5) C 0 dX11_told_5 rfl rfl ?_
  refine wp_iload_n (pc := 6) C 2 dX11_told_6 rfl rfl ?_
  refine wp_iload (pc := 7) C 3 dX11_told_7 rfl ?_
  obtain ⟨S3, r4, cS3, h⟩ := bd_some h
  refine wp_callVi (As := [.int x3, .int x4]) (st := []) (pc := 9) C (CtX11_toldNumber cS3) mX11_toldNumber iX11_toldNumber kX11_249 (Nat.le_of_ble_eq_true rfl) rfl (by decide) rfl rfl rfl rfl (Nat.le_of_ble_eq_true rfl) ⟨Nat.le_of_ble_eq_true rfl, Nat.le_of_ble_eq_true rfl⟩ dX11_told_9 ?_
  exact rt_i C rfl h dX11_told_12
theorem CtX11_told {n : Nat} {S S' : St} {r : Int32} {x1 : Int64} {x3 : Int32} {x4 : Int32} (h : fX11_told n S x1 x3 x4 = some (S', r)) : Ct l sdM cy ad D yX11_told cX11_told 5 (some .int) 3 66 [.ref (ad 0), .long x1, .int x3, .int x4] S (some (.int r)) S' :=
  Ct_of (own := RX11) mX11_told rfl (Nat.le_of_ble_eq_true rfl) (fun G e1 e2 e3 e4 C => by subst e1 e2 e3 e4; exact wX11_told C h)
def fX11_find_j38 (n : Nat) (k4 : St → Int32 → Int32 → Int32 → Option (St × Int32)) (S : St) (x1 : Int32) (x3 : Int32) (y0 : Int32) : Option (St × Int32) :=
  bn (x3 + 1) (fun z1 : Int32 =>
  k4 S x1 y0 z1)
set_option maxRecDepth 100000 in
set_option maxHeartbeats 4000000 in
theorem wX11_find_j38 (C : Cx G sdM cX11_find 4 RX11 (some .int)) {n : Nat} {k4 : St → Int32 → Int32 → Int32 → Option (St × Int32)} {S S' : St} {r : Int32} {x1 : Int32} {x3 : Int32} {y0 : Int32} (hk4 : ∀ (S : St) (x1 : Int32) (x2 : Int32) (x3 : Int32), k4 S x1 x2 x3 = some (S', r) → Wp G sdM (rmOf 0 0) 4 (Qm G sdM (some (.int r)) S') S 4 [(0, .ref (gA G 0)), (1, .int x1), (2, .int x2), (3, .int x3)] []) (h : fX11_find_j38 n k4 S x1 x3 y0 = some (S', r)) : Wp G sdM (rmOf 0 0) 4 (Qm G sdM (some (.int r)) S') S 38 [(0, .ref (gA G 0)), (1, .int x1), (3, .int x3)] [.int y0] := by
  unfold fX11_find_j38 at h
  refine wp_istore_n (pc := 38) C rfl [(2, .int y0), (0, .ref (gA G 0)), (1, .int x1), (3, .int x3)] dX11_find_38 rfl (Nat.le_of_ble_eq_true rfl) rfl ?_
  obtain ⟨z1, ez1, h⟩ := bn_some h
  refine wp_iinc (q := 3) (pc := 39) C (by decide) ez1 [(3, .int z1), (2, .int y0), (0, .ref (gA G 0)), (1, .int x1)] dX11_find_39 rfl (Nat.le_of_ble_eq_true rfl) rfl ?_
  refine wp_goto (pc := 42) C 4 dX11_find_42 (by decide) ?_
  exact wp_sub C [2, 3, 1, 0] rfl (hk4 _ _ _ _ h)
def fX11_find_l4 (n : Nat) : Nat → St → Int32 → Int32 → Int32 → Option (St × Int32)
  | 0, _, _, _, _ => none
  | j + 1, S, x1, x2, x3 =>
    gd (ib x1 5) (
    if (S.1 3 (Int32.toNatClampNeg x1)) ≤ x3 then
      some (S, x2)
    else
      gd (ib ((10 * x1) + x3) 50) (
      if (lg_cmp (S.2.1 2 (Int32.toNatClampNeg ((10 * x1) + x3))) (S.2.1 0 9)) = 0 then
        fX11_find_j38 n (fX11_find_l4 n j) S x1 x3 x3
      else
        fX11_find_j38 n (fX11_find_l4 n j) S x1 x3 x2))
set_option maxRecDepth 100000 in
set_option maxHeartbeats 4000000 in
theorem wX11_find_l4 (C : Cx G sdM cX11_find 4 RX11 (some .int)) {n : Nat} {S' : St} {r : Int32} : ∀ (j : Nat) (S : St) (x1 : Int32) (x2 : Int32) (x3 : Int32), fX11_find_l4 n j S x1 x2 x3 = some (S', r) → Wp G sdM (rmOf 0 0) 4 (Qm G sdM (some (.int r)) S') S 4 [(0, .ref (gA G 0)), (1, .int x1), (2, .int x2), (3, .int x3)] [] := by
  intro j
  induction j with
  | zero =>
    intro S x1 x2 x3 h
    exact nomatch (show (none : Option (St × Int32)) = some _ from h)
  | succ j ih =>
    intro S x1 x2 x3 h
    rw [fX11_find_l4] at h
    refine wp_iload_n (pc := 4) C 3 dX11_find_4 rfl rfl ?_
    refine wp_aload_n (pc := 5) C 0 dX11_find_5 rfl rfl ?_
    refine wp_getS (v := 3) (pc := 6) C flX11_21 rfl rfl (Nat.le_of_ble_eq_true rfl) (Nat.le_of_ble_eq_true rfl) rfl dX11_find_6 ?_
    refine wp_iload_n (pc := 9) C 1 dX11_find_9 rfl rfl ?_
    obtain ⟨g1, h⟩ := gd_some h
    refine wp_iald (pc := 10) C (Nat.le_of_ble_eq_true rfl) rfl g1 dX11_find_10 ?_
    refine wp_icmp_ge (pc := 11) C 45 dX11_find_11 (by decide) (fun q => ?_) (fun q => ?_)
    · have h := it_pos q h
      refine wp_iload_n (pc := 45) C 2 dX11_find_45 rfl rfl ?_
      exact rt_i C rfl h dX11_find_46
    · have h := it_neg q h
      refine wp_aload_n (pc := 14) C 0 dX11_find_14 rfl rfl ?_
      refine wp_getS (v := 2) (pc := 15) C flX11_17 rfl rfl (Nat.le_of_ble_eq_true rfl) (Nat.le_of_ble_eq_true rfl) rfl dX11_find_15 ?_
      refine wp_bipush (v := 10) (pc := 18) C dX11_find_18 (by decide) ?_
      refine wp_iload_n (pc := 20) C 1 dX11_find_20 rfl rfl ?_
      refine wp_imul (pc := 21) C dX11_find_21 ?_
      refine wp_iload_n (pc := 22) C 3 dX11_find_22 rfl rfl ?_
      refine wp_iadd (pc := 23) C dX11_find_23 ?_
      obtain ⟨g2, h⟩ := gd_some h
      refine wp_lald (pc := 24) C (Nat.le_of_ble_eq_true rfl) rfl g2 dX11_find_24 ?_
      refine wp_aload_n (pc := 25) C 0 dX11_find_25 rfl rfl ?_
      refine wp_getL (pc := 26) C flX11_187 rfl (Nat.le_of_ble_eq_true rfl) rfl dX11_find_26 ?_
      refine wp_lcmp (pc := 29) C dX11_find_29 ?_
      refine wp_if_ne (pc := 30) C 37 dX11_find_30 (by decide) (fun q => ?_) (fun q => ?_)
      · have h := it_neg q h
        refine wp_iload_n (pc := 37) C 2 dX11_find_37 rfl rfl ?_
        exact wp_sub C [0, 1, 3] rfl (wX11_find_j38 C ih h)
      · have h := it_pos q h
        refine wp_iload_n (pc := 33) C 3 dX11_find_33 rfl rfl ?_
        refine wp_goto (pc := 34) C 38 dX11_find_34 (by decide) ?_
        exact wp_sub C [0, 1, 3] rfl (wX11_find_j38 C ih h)
def fX11_find (n : Nat) (S : St) (x1 : Int32) : Option (St × Int32) :=
  fX11_find_l4 n n S x1 (-1) 0
set_option maxRecDepth 100000 in
set_option maxHeartbeats 4000000 in
theorem wX11_find (C : Cx G sdM cX11_find 4 RX11 (some .int)) {n : Nat} {S S' : St} {r : Int32} {x1 : Int32} (h : fX11_find n S x1 = some (S', r)) : Wp G sdM (rmOf 0 0) 4 (Qm G sdM (some (.int r)) S') S 0 [(0, .ref (gA G 0)), (1, .int x1)] [] := by
  unfold fX11_find at h
  refine wp_iconst (v := (-1)) (pc := 0) C dX11_find_0 (by decide) ?_
  refine wp_istore_n (pc := 1) C rfl [(2, .int (-1)), (0, .ref (gA G 0)), (1, .int x1)] dX11_find_1 rfl (Nat.le_of_ble_eq_true rfl) rfl ?_
  refine wp_iconst (v := 0) (pc := 2) C dX11_find_2 (by decide) ?_
  refine wp_istore_n (pc := 3) C rfl [(3, .int 0), (2, .int (-1)), (0, .ref (gA G 0)), (1, .int x1)] dX11_find_3 rfl (Nat.le_of_ble_eq_true rfl) rfl ?_
  exact wp_sub C [2, 3, 1, 0] rfl (wX11_find_l4 C _ _ _ _ _ h)
theorem CtX11_find {n : Nat} {S S' : St} {r : Int32} {x1 : Int32} (h : fX11_find n S x1 = some (S', r)) : Ct l sdM cy ad D yX11_find cX11_find 4 (some .int) 0 0 [.ref (ad 0), .int x1] S (some (.int r)) S' :=
  Ct_of (own := RX11) mX11_find rfl (Nat.le_of_ble_eq_true rfl) (fun G e1 e2 e3 e4 C => by subst e1 e2 e3 e4; exact wX11_find C h)
def fX11_readName_j32 (n : Nat) (S : St) (x1 : Int32) : Option (St × Unit) :=
  if (S.1 0 2) ≤ 0 then
    gd (ib x1 5) (
    gd (ib ((10 * x1) + (S.1 3 (Int32.toNatClampNeg x1))) 50) (
    bn (sL S 2 (Int32.toNatClampNeg ((10 * x1) + (S.1 3 (Int32.toNatClampNeg x1)))) (S.2.1 0 9)) (fun S3 : St =>
    bd (fX11_token n S3) (fun S4 r5 =>
    some (S4, ())))))
  else
    some (S, ())
set_option maxRecDepth 100000 in
set_option maxHeartbeats 4000000 in
theorem wX11_readName_j32 (C : Cx G sdM cX11_readName 2 RX11 none) {n : Nat} {S S' : St} {r : Unit} {x1 : Int32} (h : fX11_readName_j32 n S x1 = some (S', r)) : Wp G sdM (rmOf 2 43) 2 (Qm G sdM none S') S 32 [(0, .ref (gA G 0)), (1, .int x1)] [] := by
  unfold fX11_readName_j32 at h
  refine wp_aload_n (pc := 32) C 0 dX11_readName_32 rfl rfl ?_
  refine wp_getI (pc := 33) C flX11_204 rfl (Nat.le_of_ble_eq_true rfl) rfl dX11_readName_33 ?_
  refine wp_if_le (pc := 36) C 40 dX11_readName_36 (by decide) (fun q => ?_) (fun q => ?_)
  · have h := it_pos q h
    refine wp_aload_n (pc := 40) C 0 dX11_readName_40 rfl rfl ?_
    refine wp_getS (v := 2) (pc := 41) C flX11_17 rfl rfl (Nat.le_of_ble_eq_true rfl) (Nat.le_of_ble_eq_true rfl) rfl dX11_readName_41 ?_
    refine wp_bipush (v := 10) (pc := 44) C dX11_readName_44 (by decide) ?_
    refine wp_iload_n (pc := 46) C 1 dX11_readName_46 rfl rfl ?_
    refine wp_imul (pc := 47) C dX11_readName_47 ?_
    refine wp_aload_n (pc := 48) C 0 dX11_readName_48 rfl rfl ?_
    refine wp_getS (v := 3) (pc := 49) C flX11_21 rfl rfl (Nat.le_of_ble_eq_true rfl) (Nat.le_of_ble_eq_true rfl) rfl dX11_readName_49 ?_
    refine wp_iload_n (pc := 52) C 1 dX11_readName_52 rfl rfl ?_
    obtain ⟨g1, h⟩ := gd_some h
    refine wp_iald (pc := 53) C (Nat.le_of_ble_eq_true rfl) rfl g1 dX11_readName_53 ?_
    refine wp_iadd (pc := 54) C dX11_readName_54 ?_
    refine wp_aload_n (pc := 55) C 0 dX11_readName_55 rfl rfl ?_
    refine wp_getL (pc := 56) C flX11_187 rfl (Nat.le_of_ble_eq_true rfl) rfl dX11_readName_56 ?_
    obtain ⟨g2, h⟩ := gd_some h
    obtain ⟨S3, eS3, h⟩ := bn_some h
    refine wp_last (pc := 59) C eS3 (Nat.le_of_ble_eq_true rfl) rfl g2 dX11_readName_59 ?_
    refine wp_aload_n (pc := 60) C 0 dX11_readName_60 rfl rfl ?_
    obtain ⟨S4, r5, cS4, h⟩ := bd_some h
    refine wp_callVv (As := []) (st := []) (pc := 61) C (CtX11_token cS4) mX11_token iX11_token kX11_242 (Nat.le_of_ble_eq_true rfl) rfl (by decide) rfl rfl rfl rfl (Nat.le_of_ble_eq_true rfl) ⟨Nat.le_of_ble_eq_true rfl, Nat.le_of_ble_eq_true rfl⟩ dX11_readName_61 ?_
    exact rt_v C rfl h dX11_readName_64
  · have h := it_neg q h
    exact rt_v C rfl h dX11_readName_39
def fX11_readName (n : Nat) (S : St) (x1 : Int32) : Option (St × Unit) :=
  bd (fX11_token n S) (fun S1 r2 =>
  bd (fX11_isName n S1) (fun S3 r4 =>
  if r4 = 0 then
    bd (fX11_wrong n S3 2) (fun S9 r10 =>
    fX11_readName_j32 n S9 x1)
  else
    bd (fX11_find n S3 x1) (fun S5 r6 =>
    if r6 < 0 then
      fX11_readName_j32 n S5 x1
    else
      bd (fX11_wrong n S5 3) (fun S7 r8 =>
      fX11_readName_j32 n S7 x1))))
set_option maxRecDepth 100000 in
set_option maxHeartbeats 4000000 in
theorem wX11_readName (C : Cx G sdM cX11_readName 2 RX11 none) {n : Nat} {S S' : St} {r : Unit} {x1 : Int32} (h : fX11_readName n S x1 = some (S', r)) : Wp G sdM (rmOf 2 43) 2 (Qm G sdM none S') S 0 [(0, .ref (gA G 0)), (1, .int x1)] [] := by
  unfold fX11_readName at h
  refine wp_aload_n (pc := 0) C 0 dX11_readName_0 rfl rfl ?_
  obtain ⟨S1, r2, cS1, h⟩ := bd_some h
  refine wp_callVv (As := []) (st := []) (pc := 1) C (CtX11_token cS1) mX11_token iX11_token kX11_242 (Nat.le_of_ble_eq_true rfl) rfl (by decide) rfl rfl rfl rfl (Nat.le_of_ble_eq_true rfl) ⟨Nat.le_of_ble_eq_true rfl, Nat.le_of_ble_eq_true rfl⟩ dX11_readName_1 ?_
  refine wp_aload_n (pc := 4) C 0 dX11_readName_4 rfl rfl ?_
  obtain ⟨S3, r4, cS3, h⟩ := bd_some h
  refine wp_callVi (As := []) (st := []) (pc := 5) C (CtX11_isName cS3) mX11_isName iX11_isName kX11_253 (Nat.le_of_ble_eq_true rfl) rfl (by decide) rfl rfl rfl rfl (Nat.le_of_ble_eq_true rfl) ⟨Nat.le_of_ble_eq_true rfl, Nat.le_of_ble_eq_true rfl⟩ dX11_readName_5 ?_
  refine wp_if_ne (pc := 8) C 19 dX11_readName_8 (by decide) (fun q => ?_) (fun q => ?_)
  · have h := it_neg q h
    refine wp_aload_n (pc := 19) C 0 dX11_readName_19 rfl rfl ?_
    refine wp_iload_n (pc := 20) C 1 dX11_readName_20 rfl rfl ?_
    obtain ⟨S5, r6, cS5, h⟩ := bd_some h
    refine wp_callVi (As := [.int x1]) (st := []) (pc := 21) C (CtX11_find cS5) mX11_find iX11_find kX11_257 (Nat.le_of_ble_eq_true rfl) rfl (by decide) rfl rfl rfl rfl (Nat.le_of_ble_eq_true rfl) ⟨Nat.le_of_ble_eq_true rfl, Nat.le_of_ble_eq_true rfl⟩ dX11_readName_21 ?_
    refine wp_if_lt (pc := 24) C 32 dX11_readName_24 (by decide) (fun q => ?_) (fun q => ?_)
    · have h := it_pos q h
      exact (wX11_readName_j32 C h)
    · have h := it_neg q h
      refine wp_aload_n (pc := 27) C 0 dX11_readName_27 rfl rfl ?_
      refine wp_iconst (v := 3) (pc := 28) C dX11_readName_28 (by decide) ?_
      obtain ⟨S7, r8, cS7, h⟩ := bd_some h
      refine wp_callVv (As := [.int 3]) (st := []) (pc := 29) C (CtX11_wrong cS7) mX11_wrong iX11_wrong kX11_239 (Nat.le_of_ble_eq_true rfl) rfl (by decide) rfl rfl rfl rfl (Nat.le_of_ble_eq_true rfl) ⟨Nat.le_of_ble_eq_true rfl, Nat.le_of_ble_eq_true rfl⟩ dX11_readName_29 ?_
      exact (wX11_readName_j32 C h)
  · have h := it_pos q h
    refine wp_aload_n (pc := 11) C 0 dX11_readName_11 rfl rfl ?_
    refine wp_iconst (v := 2) (pc := 12) C dX11_readName_12 (by decide) ?_
    obtain ⟨S9, r10, cS9, h⟩ := bd_some h
    refine wp_callVv (As := [.int 2]) (st := []) (pc := 13) C (CtX11_wrong cS9) mX11_wrong iX11_wrong kX11_239 (Nat.le_of_ble_eq_true rfl) rfl (by decide) rfl rfl rfl rfl (Nat.le_of_ble_eq_true rfl) ⟨Nat.le_of_ble_eq_true rfl, Nat.le_of_ble_eq_true rfl⟩ dX11_readName_13 ?_
    refine wp_goto (pc := 16) C 32 dX11_readName_16 (by decide) ?_
    exact (wX11_readName_j32 C h)
theorem CtX11_readName {n : Nat} {S S' : St} {r : Unit} {x1 : Int32} (h : fX11_readName n S x1 = some (S', r)) : Ct l sdM cy ad D yX11_readName cX11_readName 2 none 2 43 [.ref (ad 0), .int x1] S none S' :=
  Ct_of (own := RX11) mX11_readName rfl (Nat.le_of_ble_eq_true rfl) (fun G e1 e2 e3 e4 C => by subst e1 e2 e3 e4; exact wX11_readName C h)
def fX11_readBands_l10 (n : Nat) : Nat → St → Nat → Int32 → Int32 → Int32 → Option (St × Unit)
  | 0, _, _, _, _, _ => none
  | j + 1, S, a1, x2, x3, x4 =>
    if (S.1 0 29) ≤ x4 then
      some (S, ())
    else
      if (S.1 0 2) = 0 then
        bd (fX11_toldNumber n S 0 x3) (fun S1 r2 =>
        gd (isK sdM a1 13) (
        gd (ib (x2 + x4) (sdM.2.2.1 a1)) (
        bn (sI S1 a1 (Int32.toNatClampNeg (x2 + x4)) r2) (fun S5 : St =>
        bn (x4 + 1) (fun z6 : Int32 =>
        fX11_readBands_l10 n j S5 a1 x2 x3 z6)))))
      else
        some (S, ())
set_option maxRecDepth 100000 in
set_option maxHeartbeats 4000000 in
theorem wX11_readBands_l10 (C : Cx G sdM cX11_readBands 5 RX11 none) {n : Nat} {S' : St} {r : Unit} : ∀ (j : Nat) (S : St) (a1 : Nat) (x2 : Int32) (x3 : Int32) (x4 : Int32), fX11_readBands_l10 n j S a1 x2 x3 x4 = some (S', r) → Wp G sdM (rmOf 3 66) 5 (Qm G sdM none S') S 10 [(0, .ref (gA G 0)), (1, .ref (gA G a1)), (2, .int x2), (3, .int x3), (4, .int x4)] [] := by
  intro j
  induction j with
  | zero =>
    intro S a1 x2 x3 x4 h
    exact nomatch (show (none : Option (St × Unit)) = some _ from h)
  | succ j ih =>
    intro S a1 x2 x3 x4 h
    rw [fX11_readBands_l10] at h
    refine wp_iload (pc := 10) C 4 dX11_readBands_10 rfl ?_
    refine wp_aload_n (pc := 12) C 0 dX11_readBands_12 rfl rfl ?_
    refine wp_getI (pc := 13) C flX11_260 rfl (Nat.le_of_ble_eq_true rfl) rfl dX11_readBands_13 ?_
    refine wp_icmp_ge (pc := 16) C 44 dX11_readBands_16 (by decide) (fun q => ?_) (fun q => ?_)
    · have h := it_pos q h
      exact rt_v C rfl h dX11_readBands_44
    · have h := it_neg q h
      refine wp_aload_n (pc := 19) C 0 dX11_readBands_19 rfl rfl ?_
      refine wp_getI (pc := 20) C flX11_204 rfl (Nat.le_of_ble_eq_true rfl) rfl dX11_readBands_20 ?_
      refine wp_if_ne (pc := 23) C 44 dX11_readBands_23 (by decide) (fun q => ?_) (fun q => ?_)
      · have h := it_neg q h
        exact rt_v C rfl h dX11_readBands_44
      · have h := it_pos q h
        refine wp_aload_n (pc := 26) C 1 dX11_readBands_26 rfl rfl ?_
        refine wp_iload_n (pc := 27) C 2 dX11_readBands_27 rfl rfl ?_
        refine wp_iload (pc := 28) C 4 dX11_readBands_28 rfl ?_
        refine wp_iadd (pc := 30) C dX11_readBands_30 ?_
        refine wp_aload_n (pc := 31) C 0 dX11_readBands_31 rfl rfl ?_
        refine wp_iconst (v := 0) (pc := 32) C dX11_readBands_32 (by decide) ?_
        refine wp_iload_n (pc := 33) C 3 dX11_readBands_33 rfl rfl ?_
        obtain ⟨S1, r2, cS1, h⟩ := bd_some h
        refine wp_callVi (As := [.int 0, .int x3]) (st := [.int (x2 + x4), .ref (gA G a1)]) (pc := 34) C (CtX11_toldNumber cS1) mX11_toldNumber iX11_toldNumber kX11_249 (Nat.le_of_ble_eq_true rfl) rfl (by decide) rfl rfl rfl rfl (Nat.le_of_ble_eq_true rfl) ⟨Nat.le_of_ble_eq_true rfl, Nat.le_of_ble_eq_true rfl⟩ dX11_readBands_34 ?_
        obtain ⟨g3, h⟩ := gd_some h
        obtain ⟨g4, h⟩ := gd_some h
        obtain ⟨S5, eS5, h⟩ := bn_some h
        refine wp_iast (pc := 37) C eS5 g3.1 g3.2 g4 dX11_readBands_37 ?_
        obtain ⟨z6, ez6, h⟩ := bn_some h
        refine wp_iinc (q := 4) (pc := 38) C (by decide) ez6 [(4, .int z6), (0, .ref (gA G 0)), (1, .ref (gA G a1)), (2, .int x2), (3, .int x3)] dX11_readBands_38 rfl (Nat.le_of_ble_eq_true rfl) rfl ?_
        refine wp_goto (pc := 41) C 10 dX11_readBands_41 (by decide) ?_
        exact wp_sub C [1, 2, 3, 4, 0] rfl (ih _ _ _ _ _ h)
def fX11_readBands (n : Nat) (S : St) (a1 : Nat) (x2 : Int32) (x3 : Int32) : Option (St × Unit) :=
  bd (fX11_want n S 28518) (fun S1 r2 =>
  fX11_readBands_l10 n n S1 a1 x2 x3 0)
set_option maxRecDepth 100000 in
set_option maxHeartbeats 4000000 in
theorem wX11_readBands (C : Cx G sdM cX11_readBands 5 RX11 none) {n : Nat} {S S' : St} {r : Unit} {a1 : Nat} {x2 : Int32} {x3 : Int32} (h : fX11_readBands n S a1 x2 x3 = some (S', r)) : Wp G sdM (rmOf 3 66) 5 (Qm G sdM none S') S 0 [(0, .ref (gA G 0)), (1, .ref (gA G a1)), (2, .int x2), (3, .int x3)] [] := by
  unfold fX11_readBands at h
  refine wp_aload_n (pc := 0) C 0 dX11_readBands_0 rfl rfl ?_
  refine wp_ldc2 (pc := 1) C qX11_215 dX11_readBands_1 ?_
  obtain ⟨S1, r2, cS1, h⟩ := bd_some h
  refine wp_callVv (As := [.long 28518]) (st := []) (pc := 4) C (CtX11_want cS1) mX11_want iX11_want kX11_245 (Nat.le_of_ble_eq_true rfl) rfl (by decide) rfl rfl rfl rfl (Nat.le_of_ble_eq_true rfl) ⟨Nat.le_of_ble_eq_true rfl, Nat.le_of_ble_eq_true rfl⟩ dX11_readBands_4 ?_
  refine wp_iconst (v := 0) (pc := 7) C dX11_readBands_7 (by decide) ?_
  refine wp_istore (pc := 8) C rfl [(4, .int 0), (0, .ref (gA G 0)), (1, .ref (gA G a1)), (2, .int x2), (3, .int x3)] dX11_readBands_8 (Nat.le_of_ble_eq_true rfl) rfl ?_
  exact wp_sub C [1, 2, 3, 4, 0] rfl (wX11_readBands_l10 C _ _ _ _ _ _ h)
theorem CtX11_readBands {n : Nat} {S S' : St} {r : Unit} {a1 : Nat} {x2 : Int32} {x3 : Int32} (h : fX11_readBands n S a1 x2 x3 = some (S', r)) : Ct l sdM cy ad D yX11_readBands cX11_readBands 5 none 3 66 [.ref (ad 0), .ref (ad a1), .int x2, .int x3] S none S' :=
  Ct_of (own := RX11) mX11_readBands rfl (Nat.le_of_ble_eq_true rfl) (fun G e1 e2 e3 e4 C => by subst e1 e2 e3 e4; exact wX11_readBands C h)
def fX11_readDye (n : Nat) (S : St) : Option (St × Unit) :=
  gd (ib 0 5) (
  bn (S.1 3 (Int32.toNatClampNeg 0)) (fun z2 : Int32 =>
  bd (fX11_readName n S 0) (fun S3 r4 =>
  bd (fX11_told n S3 482955846501 0 99) (fun S5 r6 =>
  gd (ib z2 8) (
  bn (sI S5 9 (Int32.toNatClampNeg z2) r6) (fun S8 : St =>
  bd (fX11_told n S8 1717662580 0 99) (fun S9 r10 =>
  gd (ib z2 8) (
  bn (sI S9 10 (Int32.toNatClampNeg z2) r10) (fun S12 : St =>
  bd (fX11_readBands n S12 5 (16 * z2) 99) (fun S13 r14 =>
  if (S13.1 0 2) = 0 then
    gd (ib 0 5) (
    gd (ib 0 5) (
    bn (sI S13 3 (Int32.toNatClampNeg 0) ((S13.1 3 (Int32.toNatClampNeg 0)) + 1)) (fun S17 : St =>
    some (S17, ()))))
  else
    some (S13, ())))))))))))
set_option maxRecDepth 100000 in
set_option maxHeartbeats 4000000 in
theorem wX11_readDye (C : Cx G sdM cX11_readDye 2 RX11 none) {n : Nat} {S S' : St} {r : Unit} (h : fX11_readDye n S = some (S', r)) : Wp G sdM (rmOf 4 90) 2 (Qm G sdM none S') S 0 [(0, .ref (gA G 0))] [] := by
  unfold fX11_readDye at h
  refine wp_aload_n (pc := 0) C 0 dX11_readDye_0 rfl rfl ?_
  refine wp_getS (v := 3) (pc := 1) C flX11_21 rfl rfl (Nat.le_of_ble_eq_true rfl) (Nat.le_of_ble_eq_true rfl) rfl dX11_readDye_1 ?_
  refine wp_iconst (v := 0) (pc := 4) C dX11_readDye_4 (by decide) ?_
  obtain ⟨g1, h⟩ := gd_some h
  refine wp_iald (pc := 5) C (Nat.le_of_ble_eq_true rfl) rfl g1 dX11_readDye_5 ?_
  obtain ⟨z2, ez2, h⟩ := bn_some h
  refine wp_istore_n (pc := 6) C ez2 [(1, .int z2), (0, .ref (gA G 0))] dX11_readDye_6 rfl (Nat.le_of_ble_eq_true rfl) rfl ?_
  refine wp_aload_n (pc := 7) C 1 dX11_readDye_7 rfl rfl ?_
  refine wp_iconst (v := 0) (pc := 8) C dX11_readDye_8 (by decide) ?_
  obtain ⟨S3, r4, cS3, h⟩ := bd_some h
  refine wp_callVv (As := [.int 0]) (st := []) (pc := 9) C (CtX11_readName cS3) mX11_readName iX11_readName kX11_263 (Nat.le_of_ble_eq_true rfl) rfl (by decide) rfl rfl rfl rfl (Nat.le_of_ble_eq_true rfl) ⟨Nat.le_of_ble_eq_true rfl, Nat.le_of_ble_eq_true rfl⟩ dX11_readDye_9 ?_
  refine wp_aload_n (pc := 12) C 1 dX11_readDye_12 rfl rfl ?_
  refine wp_getS (v := 9) (pc := 13) C flX11_39 rfl rfl (Nat.le_of_ble_eq_true rfl) (Nat.le_of_ble_eq_true rfl) rfl dX11_readDye_13 ?_
  refine wp_iload_n (pc := 16) C 0 dX11_readDye_16 rfl rfl ?_
  refine wp_aload_n (pc := 17) C 1 dX11_readDye_17 rfl rfl ?_
  refine wp_ldc2 (pc := 18) C qX11_211 dX11_readDye_18 ?_
  refine wp_iconst (v := 0) (pc := 21) C dX11_readDye_21 (by decide) ?_
  refine wp_bipush (v := 99) (pc := 22) C dX11_readDye_22 (by decide) ?_
  obtain ⟨S5, r6, cS5, h⟩ := bd_some h
  refine wp_callVi (As := [.long 482955846501, .int 0, .int 99]) (st := [.int z2, .ref (gA G 9)]) (pc := 24) C (CtX11_told cS5) mX11_told iX11_told kX11_266 (Nat.le_of_ble_eq_true rfl) rfl (by decide) rfl rfl rfl rfl (Nat.le_of_ble_eq_true rfl) ⟨Nat.le_of_ble_eq_true rfl, Nat.le_of_ble_eq_true rfl⟩ dX11_readDye_24 ?_
  obtain ⟨g7, h⟩ := gd_some h
  obtain ⟨S8, eS8, h⟩ := bn_some h
  refine wp_iast (pc := 27) C eS8 (Nat.le_of_ble_eq_true rfl) rfl g7 dX11_readDye_27 ?_
  refine wp_aload_n (pc := 28) C 1 dX11_readDye_28 rfl rfl ?_
  refine wp_getS (v := 10) (pc := 29) C flX11_42 rfl rfl (Nat.le_of_ble_eq_true rfl) (Nat.le_of_ble_eq_true rfl) rfl dX11_readDye_29 ?_
  refine wp_iload_n (pc := 32) C 0 dX11_readDye_32 rfl rfl ?_
  refine wp_aload_n (pc := 33) C 1 dX11_readDye_33 rfl rfl ?_
  refine wp_ldc2 (pc := 34) C qX11_213 dX11_readDye_34 ?_
  refine wp_iconst (v := 0) (pc := 37) C dX11_readDye_37 (by decide) ?_
  refine wp_bipush (v := 99) (pc := 38) C dX11_readDye_38 (by decide) ?_
  obtain ⟨S9, r10, cS9, h⟩ := bd_some h
  refine wp_callVi (As := [.long 1717662580, .int 0, .int 99]) (st := [.int z2, .ref (gA G 10)]) (pc := 40) C (CtX11_told cS9) mX11_told iX11_told kX11_266 (Nat.le_of_ble_eq_true rfl) rfl (by decide) rfl rfl rfl rfl (Nat.le_of_ble_eq_true rfl) ⟨Nat.le_of_ble_eq_true rfl, Nat.le_of_ble_eq_true rfl⟩ dX11_readDye_40 ?_
  obtain ⟨g11, h⟩ := gd_some h
  obtain ⟨S12, eS12, h⟩ := bn_some h
  refine wp_iast (pc := 43) C eS12 (Nat.le_of_ble_eq_true rfl) rfl g11 dX11_readDye_43 ?_
  refine wp_aload_n (pc := 44) C 1 dX11_readDye_44 rfl rfl ?_
  refine wp_aload_n (pc := 45) C 1 dX11_readDye_45 rfl rfl ?_
  refine wp_getS (v := 5) (pc := 46) C flX11_27 rfl rfl (Nat.le_of_ble_eq_true rfl) (Nat.le_of_ble_eq_true rfl) rfl dX11_readDye_46 ?_
  refine wp_bipush (v := 16) (pc := 49) C dX11_readDye_49 (by decide) ?_
  refine wp_iload_n (pc := 51) C 0 dX11_readDye_51 rfl rfl ?_
  refine wp_imul (pc := 52) C dX11_readDye_52 ?_
  refine wp_bipush (v := 99) (pc := 53) C dX11_readDye_53 (by decide) ?_
  obtain ⟨S13, r14, cS13, h⟩ := bd_some h
  refine wp_callVv (As := [.ref (gA G 5), .int (16 * z2), .int 99]) (st := []) (pc := 55) C (CtX11_readBands cS13) mX11_readBands iX11_readBands kX11_270 (Nat.le_of_ble_eq_true rfl) rfl (by decide) rfl rfl rfl rfl (Nat.le_of_ble_eq_true rfl) ⟨Nat.le_of_ble_eq_true rfl, Nat.le_of_ble_eq_true rfl⟩ dX11_readDye_55 ?_
  refine wp_aload_n (pc := 58) C 1 dX11_readDye_58 rfl rfl ?_
  refine wp_getI (pc := 59) C flX11_204 rfl (Nat.le_of_ble_eq_true rfl) rfl dX11_readDye_59 ?_
  refine wp_if_ne (pc := 62) C 75 dX11_readDye_62 (by decide) (fun q => ?_) (fun q => ?_)
  · have h := it_neg q h
    exact rt_v C rfl h dX11_readDye_75
  · have h := it_pos q h
    refine wp_aload_n (pc := 65) C 1 dX11_readDye_65 rfl rfl ?_
    refine wp_getS (v := 3) (pc := 66) C flX11_21 rfl rfl (Nat.le_of_ble_eq_true rfl) (Nat.le_of_ble_eq_true rfl) rfl dX11_readDye_66 ?_
    refine wp_iconst (v := 0) (pc := 69) C dX11_readDye_69 (by decide) ?_
    refine wp_dup2_11 (pc := 70) C dX11_readDye_70 rfl rfl ?_
    obtain ⟨g15, h⟩ := gd_some h
    refine wp_iald (pc := 71) C (Nat.le_of_ble_eq_true rfl) rfl g15 dX11_readDye_71 ?_
    refine wp_iconst (v := 1) (pc := 72) C dX11_readDye_72 (by decide) ?_
    refine wp_iadd (pc := 73) C dX11_readDye_73 ?_
    obtain ⟨g16, h⟩ := gd_some h
    obtain ⟨S17, eS17, h⟩ := bn_some h
    refine wp_iast (pc := 74) C eS17 (Nat.le_of_ble_eq_true rfl) rfl g16 dX11_readDye_74 ?_
    exact rt_v C rfl h dX11_readDye_75
theorem CtX11_readDye {n : Nat} {S S' : St} {r : Unit} (h : fX11_readDye n S = some (S', r)) : Ct l sdM cy ad D yX11_readDye cX11_readDye 2 none 4 90 [.ref (ad 0)] S none S' :=
  Ct_of (own := RX11) mX11_readDye rfl (Nat.le_of_ble_eq_true rfl) (fun G e1 e2 e3 e4 C => by subst e1 e2 e3 e4; exact wX11_readDye C h)
def fX11_readRow (n : Nat) (S : St) (x1 : Int32) (a2 : Nat) (x3 : Int32) : Option (St × Unit) :=
  bd (fX11_readName n S x1) (fun S1 r2 =>
  gd (ib x1 5) (
  bd (fX11_readBands n S1 a2 (16 * (S1.1 3 (Int32.toNatClampNeg x1))) x3) (fun S4 r5 =>
  if (S4.1 0 2) = 0 then
    gd (ib x1 5) (
    gd (ib x1 5) (
    bn (sI S4 3 (Int32.toNatClampNeg x1) ((S4.1 3 (Int32.toNatClampNeg x1)) + 1)) (fun S8 : St =>
    some (S8, ()))))
  else
    some (S4, ()))))
set_option maxRecDepth 100000 in
set_option maxHeartbeats 4000000 in
theorem wX11_readRow (C : Cx G sdM cX11_readRow 4 RX11 none) {n : Nat} {S S' : St} {r : Unit} {x1 : Int32} {a2 : Nat} {x3 : Int32} (h : fX11_readRow n S x1 a2 x3 = some (S', r)) : Wp G sdM (rmOf 4 90) 4 (Qm G sdM none S') S 0 [(0, .ref (gA G 0)), (1, .int x1), (2, .ref (gA G a2)), (3, .int x3)] [] := by
  unfold fX11_readRow at h
  refine wp_aload_n (pc := 0) C 0 dX11_readRow_0 rfl rfl ?_
  refine wp_iload_n (pc := 1) C 1 dX11_readRow_1 rfl rfl ?_
  obtain ⟨S1, r2, cS1, h⟩ := bd_some h
  refine wp_callVv (As := [.int x1]) (st := []) (pc := 2) C (CtX11_readName cS1) mX11_readName iX11_readName kX11_263 (Nat.le_of_ble_eq_true rfl) rfl (by decide) rfl rfl rfl rfl (Nat.le_of_ble_eq_true rfl) ⟨Nat.le_of_ble_eq_true rfl, Nat.le_of_ble_eq_true rfl⟩ dX11_readRow_2 ?_
  refine wp_aload_n (pc := 5) C 0 dX11_readRow_5 rfl rfl ?_
  refine wp_aload_n (pc := 6) C 2 dX11_readRow_6 rfl rfl ?_
  refine wp_bipush (v := 16) (pc := 7) C dX11_readRow_7 (by decide) ?_
  refine wp_aload_n (pc := 9) C 0 dX11_readRow_9 rfl rfl ?_
  refine wp_getS (v := 3) (pc := 10) C flX11_21 rfl rfl (Nat.le_of_ble_eq_true rfl) (Nat.le_of_ble_eq_true rfl) rfl dX11_readRow_10 ?_
  refine wp_iload_n (pc := 13) C 1 dX11_readRow_13 rfl rfl ?_
  obtain ⟨g3, h⟩ := gd_some h
  refine wp_iald (pc := 14) C (Nat.le_of_ble_eq_true rfl) rfl g3 dX11_readRow_14 ?_
  refine wp_imul (pc := 15) C dX11_readRow_15 ?_
  refine wp_iload_n (pc := 16) C 3 dX11_readRow_16 rfl rfl ?_
  obtain ⟨S4, r5, cS4, h⟩ := bd_some h
  refine wp_callVv (As := [.ref (gA G a2), .int (16 * (S1.1 3 (Int32.toNatClampNeg x1))), .int x3]) (st := []) (pc := 17) C (CtX11_readBands cS4) mX11_readBands iX11_readBands kX11_270 (Nat.le_of_ble_eq_true rfl) rfl (by decide) rfl rfl rfl rfl (Nat.le_of_ble_eq_true rfl) ⟨Nat.le_of_ble_eq_true rfl, Nat.le_of_ble_eq_true rfl⟩ dX11_readRow_17 ?_
  refine wp_aload_n (pc := 20) C 0 dX11_readRow_20 rfl rfl ?_
  refine wp_getI (pc := 21) C flX11_204 rfl (Nat.le_of_ble_eq_true rfl) rfl dX11_readRow_21 ?_
  refine wp_if_ne (pc := 24) C 37 dX11_readRow_24 (by decide) (fun q => ?_) (fun q => ?_)
  · have h := it_neg q h
    exact rt_v C rfl h dX11_readRow_37
  · have h := it_pos q h
    refine wp_aload_n (pc := 27) C 0 dX11_readRow_27 rfl rfl ?_
    refine wp_getS (v := 3) (pc := 28) C flX11_21 rfl rfl (Nat.le_of_ble_eq_true rfl) (Nat.le_of_ble_eq_true rfl) rfl dX11_readRow_28 ?_
    refine wp_iload_n (pc := 31) C 1 dX11_readRow_31 rfl rfl ?_
    refine wp_dup2_11 (pc := 32) C dX11_readRow_32 rfl rfl ?_
    obtain ⟨g6, h⟩ := gd_some h
    refine wp_iald (pc := 33) C (Nat.le_of_ble_eq_true rfl) rfl g6 dX11_readRow_33 ?_
    refine wp_iconst (v := 1) (pc := 34) C dX11_readRow_34 (by decide) ?_
    refine wp_iadd (pc := 35) C dX11_readRow_35 ?_
    obtain ⟨g7, h⟩ := gd_some h
    obtain ⟨S8, eS8, h⟩ := bn_some h
    refine wp_iast (pc := 36) C eS8 (Nat.le_of_ble_eq_true rfl) rfl g7 dX11_readRow_36 ?_
    exact rt_v C rfl h dX11_readRow_37
theorem CtX11_readRow {n : Nat} {S S' : St} {r : Unit} {x1 : Int32} {a2 : Nat} {x3 : Int32} (h : fX11_readRow n S x1 a2 x3 = some (S', r)) : Ct l sdM cy ad D yX11_readRow cX11_readRow 4 none 4 90 [.ref (ad 0), .int x1, .ref (ad a2), .int x3] S none S' :=
  Ct_of (own := RX11) mX11_readRow rfl (Nat.le_of_ble_eq_true rfl) (fun G e1 e2 e3 e4 C => by subst e1 e2 e3 e4; exact wX11_readRow C h)
end
