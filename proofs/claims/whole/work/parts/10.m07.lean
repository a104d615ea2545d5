section
variable {G : Gx} {l : Launch} {cy : Nat → ClassId} {ad : Nat → Nat} {D : va_G}
def fX11_doesAgree_j59 (n : Nat) (k22 : St → Int32 → Int32 → Int32 → Option (St × Int32)) (S : St) (x2 : Int32) (x4 : Int32) (y0 : Int32) : Option (St × Int32) :=
  bn (x4 + 1) (fun z1 : Int32 =>
  k22 S x2 y0 z1)
set_option maxRecDepth 100000 in
set_option maxHeartbeats 4000000 in
theorem wX11_doesAgree_j59 (C : Cx G sdM cX11_doesAgree 5 RX11 (some .boolean)) {n : Nat} {k22 : St → Int32 → Int32 → Int32 → Option (St × Int32)} {S S' : St} {r : Int32} {x2 : Int32} {x4 : Int32} {y0 : Int32} (hk22 : ∀ (S : St) (x2 : Int32) (x3 : Int32) (x4 : Int32), k22 S x2 x3 x4 = some (S', r) → Wp G sdM (rmOf 4 92) 5 (Qm G sdM (some (.int r)) S') S 22 [(0, .ref (gA G 0)), (2, .int x2), (3, .int x3), (4, .int x4)] []) (h : fX11_doesAgree_j59 n k22 S x2 x4 y0 = some (S', r)) : Wp G sdM (rmOf 4 92) 5 (Qm G sdM (some (.int r)) S') S 59 [(0, .ref (gA G 0)), (2, .int x2), (4, .int x4)] [.int y0] := by
  unfold fX11_doesAgree_j59 at h
  refine wp_istore_n (pc := 59) C rfl [(3, .int y0), (0, .ref (gA G 0)), (2, .int x2), (4, .int x4)] dX11_doesAgree_59 rfl (Nat.le_of_ble_eq_true rfl) rfl ?_
  obtain ⟨z1, ez1, h⟩ := bn_some h
  refine wp_iinc (q := 3) (pc := 60) C (by decide) ez1 [(4, .int z1), (3, .int y0), (0, .ref (gA G 0)), (2, .int x2)] dX11_doesAgree_60 rfl (Nat.le_of_ble_eq_true rfl) rfl ?_
  refine wp_goto (pc := 63) C 22 dX11_doesAgree_63 (by decide) ?_
  exact wp_sub C [2, 3, 1, 0] rfl (hk22 _ _ _ _ h)
def fX11_doesAgree_j54 (n : Nat) (k22 : St → Int32 → Int32 → Int32 → Option (St × Int32)) (S : St) (x2 : Int32) (x4 : Int32) : Option (St × Int32) :=
  fX11_doesAgree_j59 n k22 S x2 x4 1
set_option maxRecDepth 100000 in
set_option maxHeartbeats 4000000 in
theorem wX11_doesAgree_j54 (C : Cx G sdM cX11_doesAgree 5 RX11 (some .boolean)) {n : Nat} {k22 : St → Int32 → Int32 → Int32 → Option (St × Int32)} {S S' : St} {r : Int32} {x2 : Int32} {x4 : Int32} (hk22 : ∀ (S : St) (x2 : Int32) (x3 : Int32) (x4 : Int32), k22 S x2 x3 x4 = some (S', r) → Wp G sdM (rmOf 4 92) 5 (Qm G sdM (some (.int r)) S') S 22 [(0, .ref (gA G 0)), (2, .int x2), (3, .int x3), (4, .int x4)] []) (h : fX11_doesAgree_j54 n k22 S x2 x4 = some (S', r)) : Wp G sdM (rmOf 4 92) 5 (Qm G sdM (some (.int r)) S') S 54 [(0, .ref (gA G 0)), (2, .int x2), (4, .int x4)] [] := by
  unfold fX11_doesAgree_j54 at h
  refine wp_iconst (v := 1) (pc := 54) C dX11_doesAgree_54 (by decide) ?_
  refine wp_goto (pc := 55) C 59 dX11_doesAgree_55 (by decide) ?_
  exact (wX11_doesAgree_j59 C hk22 h)
def fX11_doesAgree_l22 (n : Nat) : Nat → St → Int32 → Int32 → Int32 → Option (St × Int32)
  | 0, _, _, _, _ => none
  | j + 1, S, x2, x3, x4 =>
    if (S.1 0 77) ≤ x4 then
      gd (x3 = 0 ∨ x3 = 1) (
      some (S, x3))
    else
      if x3 = 0 then
        gd (x3 = 0 ∨ x3 = 1) (
        some (S, x3))
      else
        bd (fX11_counts n S x4 x2) (fun S3 r4 =>
        if r4 = 0 then
          fX11_doesAgree_j54 n (fX11_doesAgree_l22 n j) S3 x2 x4
        else
          bd (fX11_isSo n S3 x4) (fun S5 r6 =>
          if r6 = 0 then
            fX11_doesAgree_j59 n (fX11_doesAgree_l22 n j) S5 x2 x4 0
          else
            fX11_doesAgree_j54 n (fX11_doesAgree_l22 n j) S5 x2 x4))
set_option maxRecDepth 100000 in
set_option maxHeartbeats 4000000 in
theorem wX11_doesAgree_l22 (C : Cx G sdM cX11_doesAgree 5 RX11 (some .boolean)) {n : Nat} {S' : St} {r : Int32} : ∀ (j : Nat) (S : St) (x2 : Int32) (x3 : Int32) (x4 : Int32), fX11_doesAgree_l22 n j S x2 x3 x4 = some (S', r) → Wp G sdM (rmOf 4 92) 5 (Qm G sdM (some (.int r)) S') S 22 [(0, .ref (gA G 0)), (2, .int x2), (3, .int x3), (4, .int x4)] [] := by
  intro j
  induction j with
  | zero =>
    intro S x2 x3 x4 h
    exact nomatch (show (none : Option (St × Int32)) = some _ from h)
  | succ j ih =>
    intro S x2 x3 x4 h
    rw [fX11_doesAgree_l22] at h
    refine wp_iload (pc := 22) C 3 dX11_doesAgree_22 rfl ?_
    refine wp_aload_n (pc := 24) C 0 dX11_doesAgree_24 rfl rfl ?_
    refine wp_getI (pc := 25) C flX11_339 rfl (Nat.le_of_ble_eq_true rfl) rfl dX11_doesAgree_25 ?_
    refine wp_icmp_ge (pc := 28) C 66 dX11_doesAgree_28 (by decide) (fun q => ?_) (fun q => ?_)
    · have h := it_pos q h
      refine wp_iload_n (pc := 66) C 2 dX11_doesAgree_66 rfl rfl ?_
      obtain ⟨g1, h⟩ := gd_some h
      exact rt_z C g1 rfl h dX11_doesAgree_67
    · have h := it_neg q h
      refine wp_iload_n (pc := 31) C 2 dX11_doesAgree_31 rfl rfl ?_
      refine wp_if_eq (pc := 32) C 66 dX11_doesAgree_32 (by decide) (fun q => ?_) (fun q => ?_)
      · have h := it_pos q h
        refine wp_iload_n (pc := 66) C 2 dX11_doesAgree_66 rfl rfl ?_
        obtain ⟨g2, h⟩ := gd_some h
        exact rt_z C g2 rfl h dX11_doesAgree_67
      · have h := it_neg q h
        refine wp_aload_n (pc := 35) C 0 dX11_doesAgree_35 rfl rfl ?_
        refine wp_iload (pc := 36) C 3 dX11_doesAgree_36 rfl ?_
        refine wp_iload_n (pc := 38) C 1 dX11_doesAgree_38 rfl rfl ?_
        obtain ⟨S3, r4, cS3, h⟩ := bd_some h
        refine wp_callVi (As := [.int x4, .int x2]) (st := []) (pc := 39) C (CtX11_counts cS3) mX11_counts iX11_counts kX11_527 (Nat.le_of_ble_eq_true rfl) rfl (by decide) rfl rfl rfl rfl (Nat.le_of_ble_eq_true rfl) ⟨Nat.le_of_ble_eq_true rfl, Nat.le_of_ble_eq_true rfl⟩ dX11_doesAgree_39 ?_
        refine wp_if_eq (pc := 42) C 54 dX11_doesAgree_42 (by decide) (fun q => ?_) (fun q => ?_)
        · have h := it_pos q h
          exact wp_sub C [0, 1, 3] rfl (wX11_doesAgree_j54 C ih h)
        · have h := it_neg q h
          refine wp_aload_n (pc := 45) C 0 dX11_doesAgree_45 rfl rfl ?_
          refine wp_iload (pc := 46) C 3 dX11_doesAgree_46 rfl ?_
          obtain ⟨S5, r6, cS5, h⟩ := bd_some h
          refine wp_callVi (As := [.int x4]) (st := []) (pc := 48) C (CtX11_isSo cS5) mX11_isSo iX11_isSo kX11_530 (Nat.le_of_ble_eq_true rfl) rfl (by decide) rfl rfl rfl rfl (Nat.le_of_ble_eq_true rfl) ⟨Nat.le_of_ble_eq_true rfl, Nat.le_of_ble_eq_true rfl⟩ dX11_doesAgree_48 ?_
          refine wp_if_eq (pc := 51) C 58 dX11_doesAgree_51 (by decide) (fun q => ?_) (fun q => ?_)
          · have h := it_pos q h
            refine wp_iconst (v := 0) (pc := 58) C dX11_doesAgree_58 (by decide) ?_
            exact wp_sub C [0, 1, 3] rfl (wX11_doesAgree_j59 C ih h)
          · have h := it_neg q h
            exact wp_sub C [0, 1, 3] rfl (wX11_doesAgree_j54 C ih h)
def fX11_doesAgree (n : Nat) (S : St) (x1 : Int32) (x2 : Int32) : Option (St × Int32) :=
  gd (ib x1 72) (
  gd (ib x1 72) (
  bd (fX11_become n S 0 (S.1 32 (Int32.toNatClampNeg x1)) (S.1 33 (Int32.toNatClampNeg x1))) (fun S3 r4 =>
  fX11_doesAgree_l22 n n S3 x2 1 0)))
set_option maxRecDepth 100000 in
set_option maxHeartbeats 4000000 in
theorem wX11_doesAgree (C : Cx G sdM cX11_doesAgree 5 RX11 (some .boolean)) {n : Nat} {S S' : St} {r : Int32} {x1 : Int32} {x2 : Int32} (h : fX11_doesAgree n S x1 x2 = some (S', r)) : Wp G sdM (rmOf 4 92) 5 (Qm G sdM (some (.int r)) S') S 0 [(0, .ref (gA G 0)), (1, .int x1), (2, .int x2)] [] := by
  unfold fX11_doesAgree at h
  refine wp_aload_n (pc := 0) C 0 dX11_doesAgree_0 rfl rfl ?_
  refine wp_iconst (v := 0) (pc := 1) C dX11_doesAgree_1 (by decide) ?_
  refine wp_aload_n (pc := 2) C 0 dX11_doesAgree_2 rfl rfl ?_
  refine wp_getS (v := 32) (pc := 3) C flX11_112 rfl rfl (Nat.le_of_ble_eq_true rfl) (Nat.le_of_ble_eq_true rfl) rfl dX11_doesAgree_3 ?_
  refine wp_iload_n (pc := 6) C 1 dX11_doesAgree_6 rfl rfl ?_
  obtain ⟨g1, h⟩ := gd_some h
  refine wp_iald (pc := 7) C (Nat.le_of_ble_eq_true rfl) rfl g1 dX11_doesAgree_7 ?_
  refine wp_aload_n (pc := 8) C 0 dX11_doesAgree_8 rfl rfl ?_
  refine wp_getS (v := 33) (pc := 9) C flX11_115 rfl rfl (Nat.le_of_ble_eq_true rfl) (Nat.le_of_ble_eq_true rfl) rfl dX11_doesAgree_9 ?_
  refine wp_iload_n (pc := 12) C 1 dX11_doesAgree_12 rfl rfl ?_
  obtain ⟨g2, h⟩ := gd_some h
  refine wp_iald (pc := 13) C (Nat.le_of_ble_eq_true rfl) rfl g2 dX11_doesAgree_13 ?_
  obtain ⟨S3, r4, cS3, h⟩ := bd_some h
  refine wp_callVv (As := [.int 0, .int (S.1 32 (Int32.toNatClampNeg x1)), .int (S.1 33 (Int32.toNatClampNeg x1))]) (st := []) (pc := 14) C (CtX11_become cS3) mX11_become iX11_become kX11_401 (Nat.le_of_ble_eq_true rfl) rfl (by decide) rfl rfl rfl rfl (Nat.le_of_ble_eq_true rfl) ⟨Nat.le_of_ble_eq_true rfl, Nat.le_of_ble_eq_true rfl⟩ dX11_doesAgree_14 ?_
  refine wp_iconst (v := 1) (pc := 17) C dX11_doesAgree_17 (by decide) ?_
  refine wp_istore_n (pc := 18) C rfl [(3, .int 1), (0, .ref (gA G 0)), (1, .int x1), (2, .int x2)] dX11_doesAgree_18 rfl (Nat.le_of_ble_eq_true rfl) rfl ?_
  refine wp_iconst (v := 0) (pc := 19) C dX11_doesAgree_19 (by decide) ?_
  refine wp_istore (pc := 20) C rfl [(4, .int 0), (3, .int 1), (0, .ref (gA G 0)), (1, .int x1), (2, .int x2)] dX11_doesAgree_20 (Nat.le_of_ble_eq_true rfl) rfl ?_
  exact wp_sub C [2, 4, 1, 0] rfl (wX11_doesAgree_l22 C _ _ _ _ _ h)
theorem CtX11_doesAgree {n : Nat} {S S' : St} {r : Int32} {x1 : Int32} {x2 : Int32} (h : fX11_doesAgree n S x1 x2 = some (S', r)) : Ct l sdM cy ad D yX11_doesAgree cX11_doesAgree 5 (some .boolean) 4 92 [.ref (ad 0), .int x1, .int x2] S (some (.int r)) S' :=
  Ct_of (own := RX11) mX11_doesAgree rfl (Nat.le_of_ble_eq_true rfl) (fun G e1 e2 e3 e4 C => by subst e1 e2 e3 e4; exact wX11_doesAgree C h)
def fX11_agree_j27 (n : Nat) (k4 : St → Int32 → Int32 → Int32 → Option (St × Int32)) (S : St) (x1 : Int32) (x3 : Int32) (y0 : Int32) (y1 : Int32) : Option (St × Int32) :=
  bn (y0 + y1) (fun z1 : Int32 =>
  bn (x3 + 1) (fun z2 : Int32 =>
  k4 S x1 z1 z2))
set_option maxRecDepth 100000 in
set_option maxHeartbeats 4000000 in
theorem wX11_agree_j27 (C : Cx G sdM cX11_agree 4 RX11 (some .int)) {n : Nat} {k4 : St → Int32 → Int32 → Int32 → Option (St × Int32)} {S S' : St} {r : Int32} {x1 : Int32} {x3 : Int32} {y0 : Int32} {y1 : Int32} (hk4 : ∀ (S : St) (x1 : Int32) (x2 : Int32) (x3 : Int32), k4 S x1 x2 x3 = some (S', r) → Wp G sdM (rmOf 5 116) 4 (Qm G sdM (some (.int r)) S') S 4 [(0, .ref (gA G 0)), (1, .int x1), (2, .int x2), (3, .int x3)] []) (h : fX11_agree_j27 n k4 S x1 x3 y0 y1 = some (S', r)) : Wp G sdM (rmOf 5 116) 4 (Qm G sdM (some (.int r)) S') S 27 [(0, .ref (gA G 0)), (1, .int x1), (3, .int x3)] [.int y1, .int y0] := by
  unfold fX11_agree_j27 at h
  refine wp_iadd (pc := 27) C dX11_agree_27 ?_
  obtain ⟨z1, ez1, h⟩ := bn_some h
  refine wp_istore_n (pc := 28) C ez1 [(2, .int z1), (0, .ref (gA G 0)), (1, .int x1), (3, .int x3)] dX11_agree_28 rfl (Nat.le_of_ble_eq_true rfl) rfl ?_
  obtain ⟨z2, ez2, h⟩ := bn_some h
  refine wp_iinc (q := 3) (pc := 29) C (by decide) ez2 [(3, .int z2), (2, .int z1), (0, .ref (gA G 0)), (1, .int x1)] dX11_agree_29 rfl (Nat.le_of_ble_eq_true rfl) rfl ?_
  refine wp_goto (pc := 32) C 4 dX11_agree_32 (by decide) ?_
  exact wp_sub C [2, 3, 1, 0] rfl (hk4 _ _ _ _ h)
def fX11_agree_l4 (n : Nat) : Nat → St → Int32 → Int32 → Int32 → Option (St × Int32)
  | 0, _, _, _, _ => none
  | j + 1, S, x1, x2, x3 =>
    if (S.1 0 70) ≤ x3 then
      some (S, x2)
    else
      bd (fX11_doesAgree n S x3 x1) (fun S1 r2 =>
      if r2 = 0 then
        fX11_agree_j27 n (fX11_agree_l4 n j) S1 x1 x3 x2 0
      else
        fX11_agree_j27 n (fX11_agree_l4 n j) S1 x1 x3 x2 1)
set_option maxRecDepth 100000 in
set_option maxHeartbeats 4000000 in
theorem wX11_agree_l4 (C : Cx G sdM cX11_agree 4 RX11 (some .int)) {n : Nat} {S' : St} {r : Int32} : ∀ (j : Nat) (S : St) (x1 : Int32) (x2 : Int32) (x3 : Int32), fX11_agree_l4 n j S x1 x2 x3 = some (S', r) → Wp G sdM (rmOf 5 116) 4 (Qm G sdM (some (.int r)) S') S 4 [(0, .ref (gA G 0)), (1, .int x1), (2, .int x2), (3, .int x3)] [] := by
  intro j
  induction j with
  | zero =>
    intro S x1 x2 x3 h
    exact nomatch (show (none : Option (St × Int32)) = some _ from h)
  | succ j ih =>
    intro S x1 x2 x3 h
    rw [fX11_agree_l4] at h
    refine wp_iload_n (pc := 4) C 3 dX11_agree_4 rfl rfl ?_
    refine wp_aload_n (pc := 5) C 0 dX11_agree_5 rfl rfl ?_
    refine wp_getI (pc := 6) C flX11_516 rfl (Nat.le_of_ble_eq_true rfl) rfl dX11_agree_6 ?_
    refine wp_icmp_ge (pc := 9) C 35 dX11_agree_9 (by decide) (fun q => ?_) (fun q => ?_)
    · have h := it_pos q h
      refine wp_iload_n (pc := 35) C 2 dX11_agree_35 rfl rfl ?_
      exact rt_i C rfl h dX11_agree_36
    · have h := it_neg q h
      refine wp_iload_n (pc := 12) C 2 dX11_agree_12 rfl rfl ?_
      refine wp_aload_n (pc := 13) C 0 dX11_agree_13 rfl rfl ?_
      refine wp_iload_n (pc := 14) C 3 dX11_agree_14 rfl rfl ?_
      refine wp_iload_n (pc := 15) C 1 dX11_agree_15 rfl rfl ?_
      obtain ⟨S1, r2, cS1, h⟩ := bd_some h
      refine wp_callVi (As := [.int x3, .int x1]) (st := [.int x2]) (pc := 16) C (CtX11_doesAgree cS1) mX11_doesAgree iX11_doesAgree kX11_533 (Nat.le_of_ble_eq_true rfl) rfl (by decide) rfl rfl rfl rfl (Nat.le_of_ble_eq_true rfl) ⟨Nat.le_of_ble_eq_true rfl, Nat.le_of_ble_eq_true rfl⟩ dX11_agree_16 ?_
      refine wp_if_eq (pc := 19) C 26 dX11_agree_19 (by decide) (fun q => ?_) (fun q => ?_)
      · have h := it_pos q h
        refine wp_iconst (v := 0) (pc := 26) C dX11_agree_26 (by decide) ?_
        exact wp_sub C [0, 1, 3] rfl (wX11_agree_j27 C ih h)
      · have h := it_neg q h
        refine wp_iconst (v := 1) (pc := 22) C dX11_agree_22 (by decide) ?_
        refine wp_goto (pc := 23) C 27 dX11_agree_23 (by decide) ?_
        exact wp_sub C [0, 1, 3] rfl (wX11_agree_j27 C ih h)
def fX11_agree (n : Nat) (S : St) (x1 : Int32) : Option (St × Int32) :=
  fX11_agree_l4 n n S x1 0 0
set_option maxRecDepth 100000 in
set_option maxHeartbeats 4000000 in
theorem wX11_agree (C : Cx G sdM cX11_agree 4 RX11 (some .int)) {n : Nat} {S S' : St} {r : Int32} {x1 : Int32} (h : fX11_agree n S x1 = some (S', r)) : Wp G sdM (rmOf 5 116) 4 (Qm G sdM (some (.int r)) S') S 0 [(0, .ref (gA G 0)), (1, .int x1)] [] := by
  unfold fX11_agree at h
  refine wp_iconst (v := 0) (pc := 0) C dX11_agree_0 (by decide) ?_
  refine wp_istore_n (pc := 1) C rfl [(2, .int 0), (0, .ref (gA G 0)), (1, .int x1)] dX11_agree_1 rfl (Nat.le_of_ble_eq_true rfl) rfl ?_
  refine wp_iconst (v := 0) (pc := 2) C dX11_agree_2 (by decide) ?_
  refine wp_istore_n (pc := 3) C rfl [(3, .int 0), (2, .int 0), (0, .ref (gA G 0)), (1, .int x1)] dX11_agree_3 rfl (Nat.le_of_ble_eq_true rfl) rfl ?_
  exact wp_sub C [2, 3, 1, 0] rfl (wX11_agree_l4 C _ _ _ _ _ h)
theorem CtX11_agree {n : Nat} {S S' : St} {r : Int32} {x1 : Int32} (h : fX11_agree n S x1 = some (S', r)) : Ct l sdM cy ad D yX11_agree cX11_agree 4 (some .int) 5 116 [.ref (ad 0), .int x1] S (some (.int r)) S' :=
  Ct_of (own := RX11) mX11_agree rfl (Nat.le_of_ble_eq_true rfl) (fun G e1 e2 e3 e4 C => by subst e1 e2 e3 e4; exact wX11_agree C h)
def fX11_agrees_j38 (n : Nat) (k5 : St → Int32 → Int32 → Int32 → Int32 → Option (St × Int32)) (S : St) (x1 : Int32) (x2 : Int32) (x3 : Int32) (x4 : Int32) : Option (St × Int32) :=
  bn (x4 + 1) (fun z1 : Int32 =>
  k5 S x1 x2 x3 z1)
set_option maxRecDepth 100000 in
set_option maxHeartbeats 4000000 in
theorem wX11_agrees_j38 (C : Cx G sdM cX11_agrees 5 RX11 (some .int)) {n : Nat} {k5 : St → Int32 → Int32 → Int32 → Int32 → Option (St × Int32)} {S S' : St} {r : Int32} {x1 : Int32} {x2 : Int32} {x3 : Int32} {x4 : Int32} (hk5 : ∀ (S : St) (x1 : Int32) (x2 : Int32) (x3 : Int32) (x4 : Int32), k5 S x1 x2 x3 x4 = some (S', r) → Wp G sdM (rmOf 5 116) 5 (Qm G sdM (some (.int r)) S') S 5 [(0, .ref (gA G 0)), (1, .int x1), (2, .int x2), (3, .int x3), (4, .int x4)] []) (h : fX11_agrees_j38 n k5 S x1 x2 x3 x4 = some (S', r)) : Wp G sdM (rmOf 5 116) 5 (Qm G sdM (some (.int r)) S') S 38 [(0, .ref (gA G 0)), (1, .int x1), (2, .int x2), (3, .int x3), (4, .int x4)] [] := by
  unfold fX11_agrees_j38 at h
  obtain ⟨z1, ez1, h⟩ := bn_some h
  refine wp_iinc (q := 4) (pc := 38) C (by decide) ez1 [(4, .int z1), (0, .ref (gA G 0)), (1, .int x1), (2, .int x2), (3, .int x3)] dX11_agrees_38 rfl (Nat.le_of_ble_eq_true rfl) rfl ?_
  refine wp_goto (pc := 41) C 5 dX11_agrees_41 (by decide) ?_
  exact wp_sub C [1, 2, 3, 4, 0] rfl (hk5 _ _ _ _ _ h)
def fX11_agrees_l5 (n : Nat) : Nat → St → Int32 → Int32 → Int32 → Int32 → Option (St × Int32)
  | 0, _, _, _, _, _ => none
  | j + 1, S, x1, x2, x3, x4 =>
    if (S.1 0 70) ≤ x4 then
      some (S, (-1))
    else
      bd (fX11_doesAgree n S x4 x2) (fun S1 r2 =>
      if r2 = 0 then
        fX11_agrees_j38 n (fX11_agrees_l5 n j) S1 x1 x2 x3 x4
      else
        if x3 = x1 then
          some (S1, x4)
        else
          bn (x3 + 1) (fun z3 : Int32 =>
          fX11_agrees_j38 n (fX11_agrees_l5 n j) S1 x1 x2 z3 x4))
set_option maxRecDepth 100000 in
set_option maxHeartbeats 4000000 in
theorem wX11_agrees_l5 (C : Cx G sdM cX11_agrees 5 RX11 (some .int)) {n : Nat} {S' : St} {r : Int32} : ∀ (j : Nat) (S : St) (x1 : Int32) (x2 : Int32) (x3 : Int32) (x4 : Int32), fX11_agrees_l5 n j S x1 x2 x3 x4 = some (S', r) → Wp G sdM (rmOf 5 116) 5 (Qm G sdM (some (.int r)) S') S 5 [(0, .ref (gA G 0)), (1, .int x1), (2, .int x2), (3, .int x3), (4, .int x4)] [] := by
  intro j
  induction j with
  | zero =>
    intro S x1 x2 x3 x4 h
    exact nomatch (show (none : Option (St × Int32)) = some _ from h)
  | succ j ih =>
    intro S x1 x2 x3 x4 h
    rw [fX11_agrees_l5] at h
    refine wp_iload (pc := 5) C 4 dX11_agrees_5 rfl ?_
    refine wp_aload_n (pc := 7) C 0 dX11_agrees_7 rfl rfl ?_
    refine wp_getI (pc := 8) C flX11_516 rfl (Nat.le_of_ble_eq_true rfl) rfl dX11_agrees_8 ?_
    refine wp_icmp_ge (pc := 11) C 44 dX11_agrees_11 (by decide) (fun q => ?_) (fun q => ?_)
    · have h := it_pos q h
      refine wp_iconst (v := (-1)) (pc := 44) C dX11_agrees_44 (by decide) ?_
      exact rt_i C rfl h dX11_agrees_45
    · have h := it_neg q h
      refine wp_aload_n (pc := 14) C 0 dX11_agrees_14 rfl rfl ?_
      refine wp_iload (pc := 15) C 4 dX11_agrees_15 rfl ?_
      refine wp_iload_n (pc := 17) C 2 dX11_agrees_17 rfl rfl ?_
      obtain ⟨S1, r2, cS1, h⟩ := bd_some h
      refine wp_callVi (As := [.int x4, .int x2]) (st := []) (pc := 18) C (CtX11_doesAgree cS1) mX11_doesAgree iX11_doesAgree kX11_533 (Nat.le_of_ble_eq_true rfl) rfl (by decide) rfl rfl rfl rfl (Nat.le_of_ble_eq_true rfl) ⟨Nat.le_of_ble_eq_true rfl, Nat.le_of_ble_eq_true rfl⟩ dX11_agrees_18 ?_
      refine wp_if_ne (pc := 21) C 27 dX11_agrees_21 (by decide) (fun q => ?_) (fun q => ?_)
      · have h := it_neg q h
        refine wp_iload_n (pc := 27) C 3 dX11_agrees_27 rfl rfl ?_
        refine wp_iload_n (pc := 28) C 1 dX11_agrees_28 rfl rfl ?_
        refine wp_icmp_ne (pc := 29) C 35 dX11_agrees_29 (by decide) (fun q => ?_) (fun q => ?_)
        · have h := it_neg q h
          obtain ⟨z3, ez3, h⟩ := bn_some h
          refine wp_iinc (q := 3) (pc := 35) C (by decide) ez3 [(3, .int z3), (0, .ref (gA G 0)), (1, .int x1), (2, .int x2), (4, .int x4)] dX11_agrees_35 rfl (Nat.le_of_ble_eq_true rfl) rfl ?_
          exact wp_sub C [1, 2, 3, 0, 4] rfl (wX11_agrees_j38 C ih h)
        · have h := it_pos q h
          refine wp_iload (pc := 32) C 4 dX11_agrees_32 rfl ?_
          exact rt_i C rfl h dX11_agrees_34
      · have h := it_pos q h
        refine wp_goto (pc := 24) C 38 dX11_agrees_24 (by decide) ?_
        exact (wX11_agrees_j38 C ih h)
def fX11_agrees (n : Nat) (S : St) (x1 : Int32) (x2 : Int32) : Option (St × Int32) :=
  fX11_agrees_l5 n n S x1 x2 0 0
set_option maxRecDepth 100000 in
set_option maxHeartbeats 4000000 in
theorem wX11_agrees (C : Cx G sdM cX11_agrees 5 RX11 (some .int)) {n : Nat} {S S' : St} {r : Int32} {x1 : Int32} {x2 : Int32} (h : fX11_agrees n S x1 x2 = some (S', r)) : Wp G sdM (rmOf 5 116) 5 (Qm G sdM (some (.int r)) S') S 0 [(0, .ref (gA G 0)), (1, .int x1), (2, .int x2)] [] := by
  unfold fX11_agrees at h
  refine wp_iconst (v := 0) (pc := 0) C dX11_agrees_0 (by decide) ?_
  refine wp_istore_n (pc := 1) C rfl [(3, .int 0), (0, .ref (gA G 0)), (1, .int x1), (2, .int x2)] dX11_agrees_1 rfl (Nat.le_of_ble_eq_true rfl) rfl ?_
  refine wp_iconst (v := 0) (pc := 2) C dX11_agrees_2 (by decide) ?_
  refine wp_istore (pc := 3) C rfl [(4, .int 0), (3, .int 0), (0, .ref (gA G 0)), (1, .int x1), (2, .int x2)] dX11_agrees_3 (Nat.le_of_ble_eq_true rfl) rfl ?_
  exact wp_sub C [2, 3, 4, 1, 0] rfl (wX11_agrees_l5 C _ _ _ _ _ _ h)
theorem CtX11_agrees {n : Nat} {S S' : St} {r : Int32} {x1 : Int32} {x2 : Int32} (h : fX11_agrees n S x1 x2 = some (S', r)) : Ct l sdM cy ad D yX11_agrees cX11_agrees 5 (some .int) 5 116 [.ref (ad 0), .int x1, .int x2] S (some (.int r)) S' :=
  Ct_of (own := RX11) mX11_agrees rfl (Nat.le_of_ble_eq_true rfl) (fun G e1 e2 e3 e4 C => by subst e1 e2 e3 e4; exact wX11_agrees C h)
def fX11_greatestPart_j135 (n : Nat) (k65 : St → Int32 → Int32 → Option (St × Int32)) (S : St) (x4 : Int32) (y0 : Int32) : Option (St × Int32) :=
  bn (x4 + 1) (fun z1 : Int32 =>
  k65 S y0 z1)
set_option maxRecDepth 100000 in
set_option maxHeartbeats 4000000 in
theorem wX11_greatestPart_j135 (C : Cx G sdM cX11_greatestPart 7 RX11 (some .int)) {n : Nat} {k65 : St → Int32 → Int32 → Option (St × Int32)} {S S' : St} {r : Int32} {x4 : Int32} {y0 : Int32} (hk65 : ∀ (S : St) (x3 : Int32) (x4 : Int32), k65 S x3 x4 = some (S', r) → Wp G sdM (rmOf 4 92) 7 (Qm G sdM (some (.int r)) S') S 65 [(0, .ref (gA G 0)), (3, .int x3), (4, .int x4)] []) (h : fX11_greatestPart_j135 n k65 S x4 y0 = some (S', r)) : Wp G sdM (rmOf 4 92) 7 (Qm G sdM (some (.int r)) S') S 135 [(0, .ref (gA G 0)), (4, .int x4)] [.int y0] := by
  unfold fX11_greatestPart_j135 at h
  refine wp_istore_n (pc := 135) C rfl [(3, .int y0), (0, .ref (gA G 0)), (4, .int x4)] dX11_greatestPart_135 rfl (Nat.le_of_ble_eq_true rfl) rfl ?_
  obtain ⟨z1, ez1, h⟩ := bn_some h
  refine wp_iinc (q := 2) (pc := 136) C (by decide) ez1 [(4, .int z1), (3, .int y0), (0, .ref (gA G 0))] dX11_greatestPart_136 rfl (Nat.le_of_ble_eq_true rfl) rfl ?_
  refine wp_goto (pc := 139) C 65 dX11_greatestPart_139 (by decide) ?_
  exact wp_sub C [2, 1, 0] rfl (hk65 _ _ _ h)
def fX11_greatestPart_j123 (n : Nat) (k65 : St → Int32 → Int32 → Option (St × Int32)) (S : St) (x3 : Int32) (x4 : Int32) (x5 : Int32) : Option (St × Int32) :=
  if x5 ≤ x3 then
    fX11_greatestPart_j135 n k65 S x4 x3
  else
    fX11_greatestPart_j135 n k65 S x4 x5
set_option maxRecDepth 100000 in
set_option maxHeartbeats 4000000 in
theorem wX11_greatestPart_j123 (C : Cx G sdM cX11_greatestPart 7 RX11 (some .int)) {n : Nat} {k65 : St → Int32 → Int32 → Option (St × Int32)} {S S' : St} {r : Int32} {x3 : Int32} {x4 : Int32} {x5 : Int32} (hk65 : ∀ (S : St) (x3 : Int32) (x4 : Int32), k65 S x3 x4 = some (S', r) → Wp G sdM (rmOf 4 92) 7 (Qm G sdM (some (.int r)) S') S 65 [(0, .ref (gA G 0)), (3, .int x3), (4, .int x4)] []) (h : fX11_greatestPart_j123 n k65 S x3 x4 x5 = some (S', r)) : Wp G sdM (rmOf 4 92) 7 (Qm G sdM (some (.int r)) S') S 123 [(0, .ref (gA G 0)), (3, .int x3), (4, .int x4), (5, .int x5)] [] := by
  unfold fX11_greatestPart_j123 at h
  refine wp_iload (pc := 123) C 3 dX11_greatestPart_123 rfl ?_
  refine wp_iload_n (pc := 125) C 1 dX11_greatestPart_125 rfl rfl ?_
  refine wp_icmp_le (pc := 126) C 134 dX11_greatestPart_126 (by decide) (fun q => ?_) (fun q => ?_)
  · have h := it_pos q h
    refine wp_iload_n (pc := 134) C 1 dX11_greatestPart_134 rfl rfl ?_
    exact wp_sub C [0, 2] rfl (wX11_greatestPart_j135 C hk65 h)
  · have h := it_neg q h
    refine wp_iload (pc := 129) C 3 dX11_greatestPart_129 rfl ?_
    refine wp_goto (pc := 131) C 135 dX11_greatestPart_131 (by decide) ?_
    exact wp_sub C [0, 2] rfl (wX11_greatestPart_j135 C hk65 h)
def fX11_greatestPart_j114 (n : Nat) (k65 : St → Int32 → Int32 → Option (St × Int32)) (k80 : St → Int32 → Int32 → Int32 → Int32 → Option (St × Int32)) (S : St) (x3 : Int32) (x4 : Int32) (x6 : Int32) (y0 : Int32) (y1 : Int32) : Option (St × Int32) :=
  bn (y0 + y1) (fun z1 : Int32 =>
  bn (x6 + 1) (fun z2 : Int32 =>
  k80 S x3 x4 z1 z2))
set_option maxRecDepth 100000 in
set_option maxHeartbeats 4000000 in
theorem wX11_greatestPart_j114 (C : Cx G sdM cX11_greatestPart 7 RX11 (some .int)) {n : Nat} {k65 : St → Int32 → Int32 → Option (St × Int32)} {k80 : St → Int32 → Int32 → Int32 → Int32 → Option (St × Int32)} {S S' : St} {r : Int32} {x3 : Int32} {x4 : Int32} {x6 : Int32} {y0 : Int32} {y1 : Int32} (hk65 : ∀ (S : St) (x3 : Int32) (x4 : Int32), k65 S x3 x4 = some (S', r) → Wp G sdM (rmOf 4 92) 7 (Qm G sdM (some (.int r)) S') S 65 [(0, .ref (gA G 0)), (3, .int x3), (4, .int x4)] []) (hk80 : ∀ (S : St) (x3 : Int32) (x4 : Int32) (x5 : Int32) (x6 : Int32), k80 S x3 x4 x5 x6 = some (S', r) → Wp G sdM (rmOf 4 92) 7 (Qm G sdM (some (.int r)) S') S 80 [(0, .ref (gA G 0)), (3, .int x3), (4, .int x4), (5, .int x5), (6, .int x6)] []) (h : fX11_greatestPart_j114 n k65 k80 S x3 x4 x6 y0 y1 = some (S', r)) : Wp G sdM (rmOf 4 92) 7 (Qm G sdM (some (.int r)) S') S 114 [(0, .ref (gA G 0)), (3, .int x3), (4, .int x4), (6, .int x6)] [.int y1, .int y0] := by
  unfold fX11_greatestPart_j114 at h
  refine wp_iadd (pc := 114) C dX11_greatestPart_114 ?_
  obtain ⟨z1, ez1, h⟩ := bn_some h
  refine wp_istore (pc := 115) C ez1 [(5, .int z1), (0, .ref (gA G 0)), (3, .int x3), (4, .int x4), (6, .int x6)] dX11_greatestPart_115 (Nat.le_of_ble_eq_true rfl) rfl ?_
  obtain ⟨z2, ez2, h⟩ := bn_some h
  refine wp_iinc (q := 4) (pc := 117) C (by decide) ez2 [(6, .int z2), (5, .int z1), (0, .ref (gA G 0)), (3, .int x3), (4, .int x4)] dX11_greatestPart_117 rfl (Nat.le_of_ble_eq_true rfl) rfl ?_
  refine wp_goto (pc := 120) C 80 dX11_greatestPart_120 (by decide) ?_
  exact wp_sub C [2, 3, 4, 1, 0] rfl (hk80 _ _ _ _ _ h)
def fX11_greatestPart_l80 (n : Nat) (k65 : St → Int32 → Int32 → Option (St × Int32)) : Nat → St → Int32 → Int32 → Int32 → Int32 → Option (St × Int32)
  | 0, _, _, _, _, _ => none
  | j + 1, S, x3, x4, x5, x6 =>
    if (S.1 0 81) ≤ x6 then
      fX11_greatestPart_j123 n k65 S x3 x4 x5
    else
      gd (ib x6 72) (
      gd (ib x4 72) (
      if (lg_cmp (S.2.1 41 (Int32.toNatClampNeg x6)) (S.2.1 41 (Int32.toNatClampNeg x4))) = 0 then
        fX11_greatestPart_j114 n k65 (fX11_greatestPart_l80 n k65 j) S x3 x4 x6 x5 1
      else
        fX11_greatestPart_j114 n k65 (fX11_greatestPart_l80 n k65 j) S x3 x4 x6 x5 0))
set_option maxRecDepth 100000 in
set_option maxHeartbeats 4000000 in
theorem wX11_greatestPart_l80 (C : Cx G sdM cX11_greatestPart 7 RX11 (some .int)) {n : Nat} {k65 : St → Int32 → Int32 → Option (St × Int32)} {S' : St} {r : Int32} (hk65 : ∀ (S : St) (x3 : Int32) (x4 : Int32), k65 S x3 x4 = some (S', r) → Wp G sdM (rmOf 4 92) 7 (Qm G sdM (some (.int r)) S') S 65 [(0, .ref (gA G 0)), (3, .int x3), (4, .int x4)] []) : ∀ (j : Nat) (S : St) (x3 : Int32) (x4 : Int32) (x5 : Int32) (x6 : Int32), fX11_greatestPart_l80 n k65 j S x3 x4 x5 x6 = some (S', r) → Wp G sdM (rmOf 4 92) 7 (Qm G sdM (some (.int r)) S') S 80 [(0, .ref (gA G 0)), (3, .int x3), (4, .int x4), (5, .int x5), (6, .int x6)] [] := by
  intro j
  induction j with
  | zero =>
    intro S x3 x4 x5 x6 h
    exact nomatch (show (none : Option (St × Int32)) = some _ from h)
  | succ j ih =>
    intro S x3 x4 x5 x6 h
    rw [fX11_greatestPart_l80] at h
    refine wp_iload (pc := 80) C 4 dX11_greatestPart_80 rfl ?_
    refine wp_aload_n (pc := 82) C 0 dX11_greatestPart_82 rfl rfl ?_
    refine wp_getI (pc := 83) C flX11_536 rfl (Nat.le_of_ble_eq_true rfl) rfl dX11_greatestPart_83 ?_
    refine wp_icmp_ge (pc := 86) C 123 dX11_greatestPart_86 (by decide) (fun q => ?_) (fun q => ?_)
    · have h := it_pos q h
      exact wp_sub C [0, 1, 2, 3] rfl (wX11_greatestPart_j123 C hk65 h)
    · have h := it_neg q h
      refine wp_iload (pc := 89) C 3 dX11_greatestPart_89 rfl ?_
      refine wp_aload_n (pc := 91) C 0 dX11_greatestPart_91 rfl rfl ?_
      refine wp_getS (v := 41) (pc := 92) C flX11_139 rfl rfl (Nat.le_of_ble_eq_true rfl) (Nat.le_of_ble_eq_true rfl) rfl dX11_greatestPart_92 ?_
      refine wp_iload (pc := 95) C 4 dX11_greatestPart_95 rfl ?_
      obtain ⟨g1, h⟩ := gd_some h
      refine wp_lald (pc := 97) C (Nat.le_of_ble_eq_true rfl) rfl g1 dX11_greatestPart_97 ?_
      refine wp_aload_n (pc := 98) C 0 dX11_greatestPart_98 rfl rfl ?_
      refine wp_getS (v := 41) (pc := 99) C flX11_139 rfl rfl (Nat.le_of_ble_eq_true rfl) (Nat.le_of_ble_eq_true rfl) rfl dX11_greatestPart_99 ?_
      refine wp_iload (pc := 102) C 2 dX11_greatestPart_102 rfl ?_
      obtain ⟨g2, h⟩ := gd_some h
      refine wp_lald (pc := 104) C (Nat.le_of_ble_eq_true rfl) rfl g2 dX11_greatestPart_104 ?_
      refine wp_lcmp (pc := 105) C dX11_greatestPart_105 ?_
      refine wp_if_ne (pc := 106) C 113 dX11_greatestPart_106 (by decide) (fun q => ?_) (fun q => ?_)
      · have h := it_neg q h
        refine wp_iconst (v := 0) (pc := 113) C dX11_greatestPart_113 (by decide) ?_
        exact wp_sub C [0, 1, 2, 4] rfl (wX11_greatestPart_j114 C hk65 ih h)
      · have h := it_pos q h
        refine wp_iconst (v := 1) (pc := 109) C dX11_greatestPart_109 (by decide) ?_
        refine wp_goto (pc := 110) C 114 dX11_greatestPart_110 (by decide) ?_
        exact wp_sub C [0, 1, 2, 4] rfl (wX11_greatestPart_j114 C hk65 ih h)
def fX11_greatestPart_l65 (n : Nat) : Nat → St → Int32 → Int32 → Option (St × Int32)
  | 0, _, _, _ => none
  | j + 1, S, x3, x4 =>
    if (S.1 0 81) ≤ x4 then
      some (S, x3)
    else
      fX11_greatestPart_l80 n (fX11_greatestPart_l65 n j) n S x3 x4 0 0
set_option maxRecDepth 100000 in
set_option maxHeartbeats 4000000 in
theorem wX11_greatestPart_l65 (C : Cx G sdM cX11_greatestPart 7 RX11 (some .int)) {n : Nat} {S' : St} {r : Int32} : ∀ (j : Nat) (S : St) (x3 : Int32) (x4 : Int32), fX11_greatestPart_l65 n j S x3 x4 = some (S', r) → Wp G sdM (rmOf 4 92) 7 (Qm G sdM (some (.int r)) S') S 65 [(0, .ref (gA G 0)), (3, .int x3), (4, .int x4)] [] := by
  intro j
  induction j with
  | zero =>
    intro S x3 x4 h
    exact nomatch (show (none : Option (St × Int32)) = some _ from h)
  | succ j ih =>
    intro S x3 x4 h
    rw [fX11_greatestPart_l65] at h
    refine wp_iload (pc := 65) C 2 dX11_greatestPart_65 rfl ?_
    refine wp_aload_n (pc := 67) C 0 dX11_greatestPart_67 rfl rfl ?_
    refine wp_getI (pc := 68) C flX11_536 rfl (Nat.le_of_ble_eq_true rfl) rfl dX11_greatestPart_68 ?_
    refine wp_icmp_ge (pc := 71) C 142 dX11_greatestPart_71 (by decide) (fun q => ?_) (fun q => ?_)
    · have h := it_pos q h
      refine wp_iload_n (pc := 142) C 1 dX11_greatestPart_142 rfl rfl ?_
      exact rt_i C rfl h dX11_greatestPart_143
    · have h := it_neg q h
      refine wp_iconst (v := 0) (pc := 74) C dX11_greatestPart_74 (by decide) ?_
      refine wp_istore (pc := 75) C rfl [(5, .int 0), (0, .ref (gA G 0)), (3, .int x3), (4, .int x4)] dX11_greatestPart_75 (Nat.le_of_ble_eq_true rfl) rfl ?_
      refine wp_iconst (v := 0) (pc := 77) C dX11_greatestPart_77 (by decide) ?_
      refine wp_istore (pc := 78) C rfl [(6, .int 0), (5, .int 0), (0, .ref (gA G 0)), (3, .int x3), (4, .int x4)] dX11_greatestPart_78 (Nat.le_of_ble_eq_true rfl) rfl ?_
      exact wp_sub C [2, 3, 4, 1, 0] rfl (wX11_greatestPart_l80 C ih _ _ _ _ _ _ h)
def fX11_greatestPart_j60 (n : Nat) (S : St) : Option (St × Int32) :=
  fX11_greatestPart_l65 n n S 0 0
set_option maxRecDepth 100000 in
set_option maxHeartbeats 4000000 in
theorem wX11_greatestPart_j60 (C : Cx G sdM cX11_greatestPart 7 RX11 (some .int)) {n : Nat} {S S' : St} {r : Int32} (h : fX11_greatestPart_j60 n S = some (S', r)) : Wp G sdM (rmOf 4 92) 7 (Qm G sdM (some (.int r)) S') S 60 [(0, .ref (gA G 0))] [] := by
  unfold fX11_greatestPart_j60 at h
  refine wp_iconst (v := 0) (pc := 60) C dX11_greatestPart_60 (by decide) ?_
  refine wp_istore_n (pc := 61) C rfl [(3, .int 0), (0, .ref (gA G 0))] dX11_greatestPart_61 rfl (Nat.le_of_ble_eq_true rfl) rfl ?_
  refine wp_iconst (v := 0) (pc := 62) C dX11_greatestPart_62 (by decide) ?_
  refine wp_istore (pc := 63) C rfl [(4, .int 0), (3, .int 0), (0, .ref (gA G 0))] dX11_greatestPart_63 (Nat.le_of_ble_eq_true rfl) rfl ?_
  exact wp_sub C [2, 1, 0] rfl (wX11_greatestPart_l65 C _ _ _ _ h)
def fX11_greatestPart_l2 (n : Nat) : Nat → St → Int32 → Int32 → Int32 → Option (St × Int32)
  | 0, _, _, _, _ => none
  | j + 1, S, x1, x2, x3 =>
    if (S.1 0 81) ≤ x3 then
      fX11_greatestPart_j60 n S
    else
      gd (ib x3 72) (
      gd (ib (S.1 40 (Int32.toNatClampNeg x3)) 72) (
      gd (ib x3 72) (
      gd (ib (S.1 40 (Int32.toNatClampNeg x3)) 72) (
      bd (fX11_become n S 0 (S.1 32 (Int32.toNatClampNeg (S.1 40 (Int32.toNatClampNeg x3)))) (S.1 33 (Int32.toNatClampNeg (S.1 40 (Int32.toNatClampNeg x3))))) (fun S5 r6 =>
      bd (fX11_seenBy n S5 0 x1 x2) (fun S7 r8 =>
      gd (ib x3 72) (
      bn (sL S7 41 (Int32.toNatClampNeg x3) (r8 / 1000)) (fun S10 : St =>
      bn (x3 + 1) (fun z11 : Int32 =>
      fX11_greatestPart_l2 n j S10 x1 x2 z11)))))))))
set_option maxRecDepth 100000 in
set_option maxHeartbeats 4000000 in
theorem wX11_greatestPart_l2 (C : Cx G sdM cX11_greatestPart 7 RX11 (some .int)) {n : Nat} {S' : St} {r : Int32} : ∀ (j : Nat) (S : St) (x1 : Int32) (x2 : Int32) (x3 : Int32), fX11_greatestPart_l2 n j S x1 x2 x3 = some (S', r) → Wp G sdM (rmOf 4 92) 7 (Qm G sdM (some (.int r)) S') S 2 [(0, .ref (gA G 0)), (1, .int x1), (2, .int x2), (3, .int x3)] [] := by
  intro j
  induction j with
  | zero =>
    intro S x1 x2 x3 h
    exact nomatch (show (none : Option (St × Int32)) = some _ from h)
  | succ j ih =>
    intro S x1 x2 x3 h
    rw [fX11_greatestPart_l2] at h
    refine wp_iload_n (pc := 2) C 3 dX11_greatestPart_2 rfl rfl ?_
    refine wp_aload_n (pc := 3) C 0 dX11_greatestPart_3 rfl rfl ?_
    refine wp_getI (pc := 4) C flX11_536 rfl (Nat.le_of_ble_eq_true rfl) rfl dX11_greatestPart_4 ?_
    refine wp_icmp_ge (pc := 7) C 60 dX11_greatestPart_7 (by decide) (fun q => ?_) (fun q => ?_)
    · have h := it_pos q h
      exact wp_sub C [0] rfl (wX11_greatestPart_j60 C h)
    · have h := it_neg q h
      refine wp_aload_n (pc := 10) C 0 dX11_greatestPart_10 rfl rfl ?_
      refine wp_iconst (v := 0) (pc := 11) C dX11_greatestPart_11 (by decide) ?_
      refine wp_aload_n (pc := 12) C 0 dX11_greatestPart_12 rfl rfl ?_
      refine wp_getS (v := 32) (pc := 13) C flX11_112 rfl rfl (Nat.le_of_ble_eq_true rfl) (Nat.le_of_ble_eq_true rfl) rfl dX11_greatestPart_13 ?_
      refine wp_aload_n (pc := 16) C 0 dX11_greatestPart_16 rfl rfl ?_
      refine wp_getS (v := 40) (pc := 17) C flX11_136 rfl rfl (Nat.le_of_ble_eq_true rfl) (Nat.le_of_ble_eq_true rfl) rfl dX11_greatestPart_17 ?_
      refine wp_iload_n (pc := 20) C 3 dX11_greatestPart_20 rfl rfl ?_
      obtain ⟨g1, h⟩ := gd_some h
      refine wp_iald (pc := 21) C (Nat.le_of_ble_eq_true rfl) rfl g1 dX11_greatestPart_21 ?_
      obtain ⟨g2, h⟩ := gd_some h
      refine wp_iald (pc := 22) C (Nat.le_of_ble_eq_true rfl) rfl g2 dX11_greatestPart_22 ?_
      refine wp_aload_n (pc := 23) C 0 dX11_greatestPart_23 rfl rfl ?_
      refine wp_getS (v := 33) (pc := 24) C flX11_115 rfl rfl (Nat.le_of_ble_eq_true rfl) (Nat.le_of_ble_eq_true rfl) rfl dX11_greatestPart_24 ?_
      refine wp_aload_n (pc := 27) C 0 dX11_greatestPart_27 rfl rfl ?_
      refine wp_getS (v := 40) (pc := 28) C flX11_136 rfl rfl (Nat.le_of_ble_eq_true rfl) (Nat.le_of_ble_eq_true rfl) rfl dX11_greatestPart_28 ?_
      refine wp_iload_n (pc := 31) C 3 dX11_greatestPart_31 rfl rfl ?_
      obtain ⟨g3, h⟩ := gd_some h
      refine wp_iald (pc := 32) C (Nat.le_of_ble_eq_true rfl) rfl g3 dX11_greatestPart_32 ?_
      obtain ⟨g4, h⟩ := gd_some h
      refine wp_iald (pc := 33) C (Nat.le_of_ble_eq_true rfl) rfl g4 dX11_greatestPart_33 ?_
      obtain ⟨S5, r6, cS5, h⟩ := bd_some h
      refine wp_callVv (As := [.int 0, .int (S.1 32 (Int32.toNatClampNeg (S.1 40 (Int32.toNatClampNeg x3)))), .int (S.1 33 (Int32.toNatClampNeg (S.1 40 (Int32.toNatClampNeg x3))))]) (st := []) (pc := 34) C (CtX11_become cS5) mX11_become iX11_become kX11_401 (Nat.le_of_ble_eq_true rfl) rfl (by decide) rfl rfl rfl rfl (Nat.le_of_ble_eq_true rfl) ⟨Nat.le_of_ble_eq_true rfl, Nat.le_of_ble_eq_true rfl⟩ dX11_greatestPart_34 ?_
      refine wp_aload_n (pc := 37) C 0 dX11_greatestPart_37 rfl rfl ?_
      refine wp_getS (v := 41) (pc := 38) C flX11_139 rfl rfl (Nat.le_of_ble_eq_true rfl) (Nat.le_of_ble_eq_true rfl) rfl dX11_greatestPart_38 ?_
      refine wp_iload_n (pc := 41) C 3 dX11_greatestPart_41 rfl rfl ?_
      refine wp_aload_n (pc := 42) C 0 dX11_greatestPart_42 rfl rfl ?_
      refine wp_iconst (v := 0) (pc := 43) C dX11_greatestPart_43 (by decide) ?_
      refine wp_iload_n (pc := 44) C 1 dX11_greatestPart_44 rfl rfl ?_
      refine wp_iload_n (pc := 45) C 2 dX11_greatestPart_45 rfl rfl ?_
      obtain ⟨S7, r8, cS7, h⟩ := bd_some h
      refine wp_callVl (As := [.int 0, .int x1, .int x2]) (st := [.int x3, .ref (gA G 41)]) (pc := 46) C (CtX11_seenBy cS7) mX11_seenBy iX11_seenBy kX11_389 (Nat.le_of_ble_eq_true rfl) rfl (by decide) rfl rfl rfl rfl (Nat.le_of_ble_eq_true rfl) ⟨Nat.le_of_ble_eq_true rfl, Nat.le_of_ble_eq_true rfl⟩ dX11_greatestPart_46 ?_
      refine wp_ldc2 (pc := 49) C qX11_396 dX11_greatestPart_49 ?_
      refine wp_ldiv (pc := 52) C dX11_greatestPart_52 (by decide) ?_
      obtain ⟨g9, h⟩ := gd_some h
      obtain ⟨S10, eS10, h⟩ := bn_some h
      refine wp_last (pc := 53) C eS10 (Nat.le_of_ble_eq_true rfl) rfl g9 dX11_greatestPart_53 ?_
      obtain ⟨z11, ez11, h⟩ := bn_some h
      refine wp_iinc (q := 3) (pc := 54) C (by decide) ez11 [(3, .int z11), (0, .ref (gA G 0)), (1, .int x1), (2, .int x2)] dX11_greatestPart_54 rfl (Nat.le_of_ble_eq_true rfl) rfl ?_
      refine wp_goto (pc := 57) C 2 dX11_greatestPart_57 (by decide) ?_
      exact wp_sub C [1, 2, 3, 0] rfl (ih _ _ _ _ h)
def fX11_greatestPart (n : Nat) (S : St) (x1 : Int32) (x2 : Int32) : Option (St × Int32) :=
  fX11_greatestPart_l2 n n S x1 x2 0
set_option maxRecDepth 100000 in
set_option maxHeartbeats 4000000 in
theorem wX11_greatestPart (C : Cx G sdM cX11_greatestPart 7 RX11 (some .int)) {n : Nat} {S S' : St} {r : Int32} {x1 : Int32} {x2 : Int32} (h : fX11_greatestPart n S x1 x2 = some (S', r)) : Wp G sdM (rmOf 4 92) 7 (Qm G sdM (some (.int r)) S') S 0 [(0, .ref (gA G 0)), (1, .int x1), (2, .int x2)] [] := by
  unfold fX11_greatestPart at h
  refine wp_iconst (v := 0) (pc := 0) C dX11_greatestPart_0 (by decide) ?_
  refine wp_istore_n (pc := 1) C rfl [(3, .int 0), (0, .ref (gA G 0)), (1, .int x1), (2, .int x2)] dX11_greatestPart_1 rfl (Nat.le_of_ble_eq_true rfl) rfl ?_
  exact wp_sub C [1, 2, 3, 0] rfl (wX11_greatestPart_l2 C _ _ _ _ _ h)
theorem CtX11_greatestPart {n : Nat} {S S' : St} {r : Int32} {x1 : Int32} {x2 : Int32} (h : fX11_greatestPart n S x1 x2 = some (S', r)) : Ct l sdM cy ad D yX11_greatestPart cX11_greatestPart 7 (some .int) 4 92 [.ref (ad 0), .int x1, .int x2] S (some (.int r)) S' :=
  Ct_of (own := RX11) mX11_greatestPart rfl (Nat.le_of_ble_eq_true rfl) (fun G e1 e2 e3 e4 C => by subst e1 e2 e3 e4; exact wX11_greatestPart C h)
def fX11_next_j147 (n : Nat) (S : St) (x1 : Int32) (x3 : Int32) (x4 : Int32) : Option (St × Int32) :=
  if 0 ≤ x3 then
    if x1 = 0 then
      some (S, x3 / 4)
    else
      if x1 = 1 then
        some (S, x3 - x3 / 4 * 4)
      else
        some (S, x4)
  else
    some (S, (-1))
set_option maxRecDepth 100000 in
set_option maxHeartbeats 4000000 in
theorem wX11_next_j147 (C : Cx G sdM cX11_next 7 RX11 (some .int)) {n : Nat} {S S' : St} {r : Int32} {x1 : Int32} {x3 : Int32} {x4 : Int32} (h : fX11_next_j147 n S x1 x3 x4 = some (S', r)) : Wp G sdM (rmOf 5 118) 7 (Qm G sdM (some (.int r)) S') S 147 [(1, .int x1), (3, .int x3), (4, .int x4)] [] := by
  unfold fX11_next_j147 at h
  refine wp_iload_n (pc := 147) C 1 dX11_next_147 rfl rfl ?_
  refine wp_if_ge (pc := 148) C 155 dX11_next_148 (by decide) (fun q => ?_) (fun q => ?_)
  · have h := it_pos q h
    refine wp_iload_n (pc := 155) C 0 dX11_next_155 rfl rfl ?_
    refine wp_if_ne (pc := 156) C 165 dX11_next_156 (by decide) (fun q => ?_) (fun q => ?_)
    · have h := it_neg q h
      refine wp_iload_n (pc := 165) C 0 dX11_next_165 rfl rfl ?_
      refine wp_iconst (v := 1) (pc := 166) C dX11_next_166 (by decide) ?_
      refine wp_icmp_ne (pc := 167) C 176 dX11_next_167 (by decide) (fun q => ?_) (fun q => ?_)
      · have h := it_neg q h
        refine wp_iload (pc := 176) C 2 dX11_next_176 rfl ?_
        exact rt_i C rfl h dX11_next_178
      · have h := it_pos q h
        refine wp_iload_n (pc := 170) C 1 dX11_next_170 rfl rfl ?_
        refine wp_iconst (v := 4) (pc := 171) C dX11_next_171 (by decide) ?_
        refine wp_irem (pc := 172) C dX11_next_172 (by decide) ?_
        refine wp_goto (pc := 173) C 178 dX11_next_173 (by decide) ?_
        exact rt_i C rfl h dX11_next_178
    · have h := it_pos q h
      refine wp_iload_n (pc := 159) C 1 dX11_next_159 rfl rfl ?_
      refine wp_iconst (v := 4) (pc := 160) C dX11_next_160 (by decide) ?_
      refine wp_idiv (pc := 161) C dX11_next_161 (by decide) ?_
      refine wp_goto (pc := 162) C 178 dX11_next_162 (by decide) ?_
      exact rt_i C rfl h dX11_next_178
  · have h := it_neg q h
    refine wp_iconst (v := (-1)) (pc := 151) C dX11_next_151 (by decide) ?_
    refine wp_goto (pc := 152) C 178 dX11_next_152 (by decide) ?_
    exact rt_i C rfl h dX11_next_178
def fX11_next_j141 (n : Nat) (k81 : St → Int32 → Int32 → Int32 → Int32 → Option (St × Int32)) (S : St) (x1 : Int32) (x3 : Int32) (x4 : Int32) (x5 : Int32) : Option (St × Int32) :=
  bn (x5 + 1) (fun z1 : Int32 =>
  k81 S x1 x3 x4 z1)
set_option maxRecDepth 100000 in
set_option maxHeartbeats 4000000 in
theorem wX11_next_j141 (C : Cx G sdM cX11_next 7 RX11 (some .int)) {n : Nat} {k81 : St → Int32 → Int32 → Int32 → Int32 → Option (St × Int32)} {S S' : St} {r : Int32} {x1 : Int32} {x3 : Int32} {x4 : Int32} {x5 : Int32} (hk81 : ∀ (S : St) (x1 : Int32) (x3 : Int32) (x4 : Int32) (x5 : Int32), k81 S x1 x3 x4 x5 = some (S', r) → Wp G sdM (rmOf 5 118) 7 (Qm G sdM (some (.int r)) S') S 81 [(0, .ref (gA G 0)), (1, .int x1), (3, .int x3), (4, .int x4), (5, .int x5)] []) (h : fX11_next_j141 n k81 S x1 x3 x4 x5 = some (S', r)) : Wp G sdM (rmOf 5 118) 7 (Qm G sdM (some (.int r)) S') S 141 [(0, .ref (gA G 0)), (1, .int x1), (3, .int x3), (4, .int x4), (5, .int x5)] [] := by
  unfold fX11_next_j141 at h
  obtain ⟨z1, ez1, h⟩ := bn_some h
  refine wp_iinc (q := 4) (pc := 141) C (by decide) ez1 [(5, .int z1), (0, .ref (gA G 0)), (1, .int x1), (3, .int x3), (4, .int x4)] dX11_next_141 rfl (Nat.le_of_ble_eq_true rfl) rfl ?_
  refine wp_goto (pc := 144) C 81 dX11_next_144 (by decide) ?_
  exact wp_sub C [1, 2, 3, 4, 0] rfl (hk81 _ _ _ _ _ h)
def fX11_next_j134 (n : Nat) (k81 : St → Int32 → Int32 → Int32 → Int32 → Option (St × Int32)) (S : St) (x1 : Int32) (x5 : Int32) (x6 : Int32) : Option (St × Int32) :=
  fX11_next_j141 n k81 S x1 x5 x6 x5
set_option maxRecDepth 100000 in
set_option maxHeartbeats 4000000 in
theorem wX11_next_j134 (C : Cx G sdM cX11_next 7 RX11 (some .int)) {n : Nat} {k81 : St → Int32 → Int32 → Int32 → Int32 → Option (St × Int32)} {S S' : St} {r : Int32} {x1 : Int32} {x5 : Int32} {x6 : Int32} (hk81 : ∀ (S : St) (x1 : Int32) (x3 : Int32) (x4 : Int32) (x5 : Int32), k81 S x1 x3 x4 x5 = some (S', r) → Wp G sdM (rmOf 5 118) 7 (Qm G sdM (some (.int r)) S') S 81 [(0, .ref (gA G 0)), (1, .int x1), (3, .int x3), (4, .int x4), (5, .int x5)] []) (h : fX11_next_j134 n k81 S x1 x5 x6 = some (S', r)) : Wp G sdM (rmOf 5 118) 7 (Qm G sdM (some (.int r)) S') S 134 [(0, .ref (gA G 0)), (1, .int x1), (5, .int x5), (6, .int x6)] [] := by
  unfold fX11_next_j134 at h
  refine wp_iload (pc := 134) C 2 dX11_next_134 rfl ?_
  refine wp_istore_n (pc := 136) C rfl [(3, .int x5), (0, .ref (gA G 0)), (1, .int x1), (5, .int x5), (6, .int x6)] dX11_next_136 rfl (Nat.le_of_ble_eq_true rfl) rfl ?_
  refine wp_iload (pc := 137) C 4 dX11_next_137 rfl ?_
  refine wp_istore (pc := 139) C rfl [(4, .int x6), (3, .int x5), (0, .ref (gA G 0)), (1, .int x1), (5, .int x5), (6, .int x6)] dX11_next_139 (Nat.le_of_ble_eq_true rfl) rfl ?_
  exact wp_sub C [2, 3, 1, 0, 4] rfl (wX11_next_j141 C hk81 h)
def fX11_next_l81 (n : Nat) : Nat → St → Int32 → Int32 → Int32 → Int32 → Option (St × Int32)
  | 0, _, _, _, _, _ => none
  | j + 1, S, x1, x3, x4, x5 =>
    bd (fX11_lamps n S) (fun S1 r2 =>
    if (4 * r2) ≤ x5 then
      fX11_next_j147 n S1 x1 x3 x4
    else
      bd (fX11_eyes n S1) (fun S3 r4 =>
      if (x5 - x5 / 4 * 4) < r4 then
        bd (fX11_greatestPart n S3 (x5 / 4) (x5 - x5 / 4 * 4)) (fun S5 r6 =>
        if x3 < 0 then
          fX11_next_j134 n (fX11_next_l81 n j) S5 x1 x5 r6
        else
          if r6 < x4 then
            fX11_next_j134 n (fX11_next_l81 n j) S5 x1 x5 r6
          else
            fX11_next_j141 n (fX11_next_l81 n j) S5 x1 x3 x4 x5)
      else
        fX11_next_j141 n (fX11_next_l81 n j) S3 x1 x3 x4 x5))
set_option maxRecDepth 100000 in
set_option maxHeartbeats 4000000 in
theorem wX11_next_l81 (C : Cx G sdM cX11_next 7 RX11 (some .int)) {n : Nat} {S' : St} {r : Int32} : ∀ (j : Nat) (S : St) (x1 : Int32) (x3 : Int32) (x4 : Int32) (x5 : Int32), fX11_next_l81 n j S x1 x3 x4 x5 = some (S', r) → Wp G sdM (rmOf 5 118) 7 (Qm G sdM (some (.int r)) S') S 81 [(0, .ref (gA G 0)), (1, .int x1), (3, .int x3), (4, .int x4), (5, .int x5)] [] := by
  intro j
  induction j with
  | zero =>
    intro S x1 x3 x4 x5 h
    exact nomatch (show (none : Option (St × Int32)) = some _ from h)
  | succ j ih =>
    intro S x1 x3 x4 x5 h
    rw [fX11_next_l81] at h
    refine wp_iload (pc := 81) C 4 dX11_next_81 rfl ?_
    refine wp_iconst (v := 4) (pc := 83) C dX11_next_83 (by decide) ?_
    refine wp_aload_n (pc := 84) C 0 dX11_next_84 rfl rfl ?_
    obtain ⟨S1, r2, cS1, h⟩ := bd_some h
    refine wp_callVi (As := []) (st := [.int 4, .int x5]) (pc := 85) C (CtX11_lamps cS1) mX11_lamps iX11_lamps kX11_365 (Nat.le_of_ble_eq_true rfl) rfl (by decide) rfl rfl rfl rfl (Nat.le_of_ble_eq_true rfl) ⟨Nat.le_of_ble_eq_true rfl, Nat.le_of_ble_eq_true rfl⟩ dX11_next_85 ?_
    refine wp_imul (pc := 88) C dX11_next_88 ?_
    refine wp_icmp_ge (pc := 89) C 147 dX11_next_89 (by decide) (fun q => ?_) (fun q => ?_)
    · have h := it_pos q h
      exact wp_sub C [1, 2, 3] rfl (wX11_next_j147 C h)
    · have h := it_neg q h
      refine wp_iload (pc := 92) C 4 dX11_next_92 rfl ?_
      refine wp_iconst (v := 4) (pc := 94) C dX11_next_94 (by decide) ?_
      refine wp_irem (pc := 95) C dX11_next_95 (by decide) ?_
      refine wp_aload_n (pc := 96) C 0 dX11_next_96 rfl rfl ?_
      obtain ⟨S3, r4, cS3, h⟩ := bd_some h
      refine wp_callVi (As := []) (st := [.int (x5 - x5 / 4 * 4)]) (pc := 97) C (CtX11_eyes cS3) mX11_eyes iX11_eyes kX11_368 (Nat.le_of_ble_eq_true rfl) rfl (by decide) rfl rfl rfl rfl (Nat.le_of_ble_eq_true rfl) ⟨Nat.le_of_ble_eq_true rfl, Nat.le_of_ble_eq_true rfl⟩ dX11_next_97 ?_
      refine wp_icmp_lt (pc := 100) C 106 dX11_next_100 (by decide) (fun q => ?_) (fun q => ?_)
      · have h := it_pos q h
        refine wp_aload_n (pc := 106) C 0 dX11_next_106 rfl rfl ?_
        refine wp_iload (pc := 107) C 4 dX11_next_107 rfl ?_
        refine wp_iconst (v := 4) (pc := 109) C dX11_next_109 (by decide) ?_
        refine wp_idiv (pc := 110) C dX11_next_110 (by decide) ?_
        refine wp_iload (pc := 111) C 4 dX11_next_111 rfl ?_
        refine wp_iconst (v := 4) (pc := 113) C dX11_next_113 (by decide) ?_
        refine wp_irem (pc := 114) C dX11_next_114 (by decide) ?_
        obtain ⟨S5, r6, cS5, h⟩ := bd_some h
        refine wp_callVi (As := [.int (x5 / 4), .int (x5 - x5 / 4 * 4)]) (st := []) (pc := 115) C (CtX11_greatestPart cS5) mX11_greatestPart iX11_greatestPart kX11_539 (Nat.le_of_ble_eq_true rfl) rfl (by decide) rfl rfl rfl rfl (Nat.le_of_ble_eq_true rfl) ⟨Nat.le_of_ble_eq_true rfl, Nat.le_of_ble_eq_true rfl⟩ dX11_next_115 ?_
        refine wp_istore (pc := 118) C rfl [(6, .int r6), (0, .ref (gA G 0)), (1, .int x1), (3, .int x3), (4, .int x4), (5, .int x5)] dX11_next_118 (Nat.le_of_ble_eq_true rfl) rfl ?_
        refine wp_iload_n (pc := 120) C 3 dX11_next_120 rfl rfl ?_
        refine wp_if_lt (pc := 121) C 134 dX11_next_121 (by decide) (fun q => ?_) (fun q => ?_)
        · have h := it_pos q h
          exact wp_sub C [1, 2, 5, 0] rfl (wX11_next_j134 C ih h)
        · have h := it_neg q h
          refine wp_iload (pc := 124) C 0 dX11_next_124 rfl ?_
          refine wp_iload (pc := 126) C 4 dX11_next_126 rfl ?_
          refine wp_icmp_lt (pc := 128) C 134 dX11_next_128 (by decide) (fun q => ?_) (fun q => ?_)
          · have h := it_pos q h
            exact wp_sub C [1, 2, 5, 0] rfl (wX11_next_j134 C ih h)
          · have h := it_neg q h
            refine wp_goto (pc := 131) C 141 dX11_next_131 (by decide) ?_
            exact wp_sub C [1, 2, 3, 4, 5] rfl (wX11_next_j141 C ih h)
      · have h := it_neg q h
        refine wp_goto (pc := 103) C 141 dX11_next_103 (by decide) ?_
        exact (wX11_next_j141 C ih h)
def fX11_next_j64 (n : Nat) (S : St) (x1 : Int32) : Option (St × Int32) :=
  if (S.1 0 81) = 0 then
    some (S, (-1))
  else
    fX11_next_l81 n n S x1 (-1) 0 0
set_option maxRecDepth 100000 in
set_option maxHeartbeats 4000000 in
theorem wX11_next_j64 (C : Cx G sdM cX11_next 7 RX11 (some .int)) {n : Nat} {S S' : St} {r : Int32} {x1 : Int32} (h : fX11_next_j64 n S x1 = some (S', r)) : Wp G sdM (rmOf 5 118) 7 (Qm G sdM (some (.int r)) S') S 64 [(0, .ref (gA G 0)), (1, .int x1)] [] := by
  unfold fX11_next_j64 at h
  refine wp_aload_n (pc := 64) C 0 dX11_next_64 rfl rfl ?_
  refine wp_getI (pc := 65) C flX11_536 rfl (Nat.le_of_ble_eq_true rfl) rfl dX11_next_65 ?_
  refine wp_if_ne (pc := 68) C 73 dX11_next_68 (by decide) (fun q => ?_) (fun q => ?_)
  · have h := it_neg q h
    refine wp_iconst (v := (-1)) (pc := 73) C dX11_next_73 (by decide) ?_
    refine wp_istore_n (pc := 74) C rfl [(3, .int (-1)), (0, .ref (gA G 0)), (1, .int x1)] dX11_next_74 rfl (Nat.le_of_ble_eq_true rfl) rfl ?_
    refine wp_iconst (v := 0) (pc := 75) C dX11_next_75 (by decide) ?_
    refine wp_istore (pc := 76) C rfl [(4, .int 0), (3, .int (-1)), (0, .ref (gA G 0)), (1, .int x1)] dX11_next_76 (Nat.le_of_ble_eq_true rfl) rfl ?_
    refine wp_iconst (v := 0) (pc := 78) C dX11_next_78 (by decide) ?_
    refine wp_istore (pc := 79) C rfl [(5, .int 0), (4, .int 0), (3, .int (-1)), (0, .ref (gA G 0)), (1, .int x1)] dX11_next_79 (Nat.le_of_ble_eq_true rfl) rfl ?_
    exact wp_sub C [3, 4, 2, 1, 0] rfl (wX11_next_l81 C _ _ _ _ _ _ h)
  · have h := it_pos q h
    refine wp_iconst (v := (-1)) (pc := 71) C dX11_next_71 (by decide) ?_
    exact rt_i C rfl h dX11_next_72
def fX11_next_j58 (n : Nat) (k18 : St → Int32 → Int32 → Int32 → Option (St × Int32)) (S : St) (x1 : Int32) (x2 : Int32) (x3 : Int32) : Option (St × Int32) :=
  bn (x3 + 1) (fun z1 : Int32 =>
  k18 S x1 x2 z1)
set_option maxRecDepth 100000 in
set_option maxHeartbeats 4000000 in
theorem wX11_next_j58 (C : Cx G sdM cX11_next 7 RX11 (some .int)) {n : Nat} {k18 : St → Int32 → Int32 → Int32 → Option (St × Int32)} {S S' : St} {r : Int32} {x1 : Int32} {x2 : Int32} {x3 : Int32} (hk18 : ∀ (S : St) (x1 : Int32) (x2 : Int32) (x3 : Int32), k18 S x1 x2 x3 = some (S', r) → Wp G sdM (rmOf 5 118) 7 (Qm G sdM (some (.int r)) S') S 18 [(0, .ref (gA G 0)), (1, .int x1), (2, .int x2), (3, .int x3)] []) (h : fX11_next_j58 n k18 S x1 x2 x3 = some (S', r)) : Wp G sdM (rmOf 5 118) 7 (Qm G sdM (some (.int r)) S') S 58 [(0, .ref (gA G 0)), (1, .int x1), (2, .int x2), (3, .int x3)] [] := by
  unfold fX11_next_j58 at h
  obtain ⟨z1, ez1, h⟩ := bn_some h
  refine wp_iinc (q := 3) (pc := 58) C (by decide) ez1 [(3, .int z1), (0, .ref (gA G 0)), (1, .int x1), (2, .int x2)] dX11_next_58 rfl (Nat.le_of_ble_eq_true rfl) rfl ?_
  refine wp_goto (pc := 61) C 18 dX11_next_61 (by decide) ?_
  exact wp_sub C [1, 2, 3, 0] rfl (hk18 _ _ _ _ h)
def fX11_next_l18 (n : Nat) : Nat → St → Int32 → Int32 → Int32 → Option (St × Int32)
  | 0, _, _, _, _ => none
  | j + 1, S, x1, x2, x3 =>
    if (S.1 0 70) ≤ x3 then
      fX11_next_j64 n S x1
    else
      bd (fX11_doesAgree n S x3 x2) (fun S1 r2 =>
      if r2 = 0 then
        fX11_next_j58 n (fX11_next_l18 n j) S1 x1 x2 x3
      else
        gd (ib (S1.1 0 81) 72) (
        bn (sI S1 40 (Int32.toNatClampNeg (S1.1 0 81)) x3) (fun S4 : St =>
        bn (sI S4 0 81 ((S4.1 0 81) + 1)) (fun S5 : St =>
        fX11_next_j58 n (fX11_next_l18 n j) S5 x1 x2 x3))))
set_option maxRecDepth 100000 in
set_option maxHeartbeats 4000000 in
theorem wX11_next_l18 (C : Cx G sdM cX11_next 7 RX11 (some .int)) {n : Nat} {S' : St} {r : Int32} : ∀ (j : Nat) (S : St) (x1 : Int32) (x2 : Int32) (x3 : Int32), fX11_next_l18 n j S x1 x2 x3 = some (S', r) → Wp G sdM (rmOf 5 118) 7 (Qm G sdM (some (.int r)) S') S 18 [(0, .ref (gA G 0)), (1, .int x1), (2, .int x2), (3, .int x3)] [] := by
  intro j
  induction j with
  | zero =>
    intro S x1 x2 x3 h
    exact nomatch (show (none : Option (St × Int32)) = some _ from h)
  | succ j ih =>
    intro S x1 x2 x3 h
    rw [fX11_next_l18] at h
    refine wp_iload_n (pc := 18) C 3 dX11_next_18 rfl rfl ?_
    refine wp_aload_n (pc := 19) C 0 dX11_next_19 rfl rfl ?_
    refine wp_getI (pc := 20) C flX11_516 rfl (Nat.le_of_ble_eq_true rfl) rfl dX11_next_20 ?_
    refine wp_icmp_ge (pc := 23) C 64 dX11_next_23 (by decide) (fun q => ?_) (fun q => ?_)
    · have h := it_pos q h
      exact wp_sub C [0, 1] rfl (wX11_next_j64 C h)
    · have h := it_neg q h
      refine wp_aload_n (pc := 26) C 0 dX11_next_26 rfl rfl ?_
      refine wp_iload_n (pc := 27) C 3 dX11_next_27 rfl rfl ?_
      refine wp_iload_n (pc := 28) C 2 dX11_next_28 rfl rfl ?_
      obtain ⟨S1, r2, cS1, h⟩ := bd_some h
      refine wp_callVi (As := [.int x3, .int x2]) (st := []) (pc := 29) C (CtX11_doesAgree cS1) mX11_doesAgree iX11_doesAgree kX11_533 (Nat.le_of_ble_eq_true rfl) rfl (by decide) rfl rfl rfl rfl (Nat.le_of_ble_eq_true rfl) ⟨Nat.le_of_ble_eq_true rfl, Nat.le_of_ble_eq_true rfl⟩ dX11_next_29 ?_
      refine wp_if_ne (pc := 32) C 38 dX11_next_32 (by decide) (fun q => ?_) (fun q => ?_)
      · have h := it_neg q h
        refine wp_aload_n (pc := 38) C 0 dX11_next_38 rfl rfl ?_
        refine wp_getS (v := 40) (pc := 39) C flX11_136 rfl rfl (Nat.le_of_ble_eq_true rfl) (Nat.le_of_ble_eq_true rfl) rfl dX11_next_39 ?_
        refine wp_aload_n (pc := 42) C 0 dX11_next_42 rfl rfl ?_
        refine wp_getI (pc := 43) C flX11_536 rfl (Nat.le_of_ble_eq_true rfl) rfl dX11_next_43 ?_
        refine wp_iload_n (pc := 46) C 3 dX11_next_46 rfl rfl ?_
        obtain ⟨g3, h⟩ := gd_some h
        obtain ⟨S4, eS4, h⟩ := bn_some h
        refine wp_iast (pc := 47) C eS4 (Nat.le_of_ble_eq_true rfl) rfl g3 dX11_next_47 ?_
        refine wp_aload_n (pc := 48) C 0 dX11_next_48 rfl rfl ?_
        refine wp_dup (pc := 49) C dX11_next_49 rfl ?_
        refine wp_getI (pc := 50) C flX11_536 rfl (Nat.le_of_ble_eq_true rfl) rfl dX11_next_50 ?_
        refine wp_iconst (v := 1) (pc := 53) C dX11_next_53 (by decide) ?_
        refine wp_iadd (pc := 54) C dX11_next_54 ?_
        obtain ⟨S5, eS5, h⟩ := bn_some h
        refine wp_putI (pc := 55) C eS5 flX11_536 fpX11_81 rfl (Nat.le_of_ble_eq_true rfl) rfl dX11_next_55 ?_
        exact (wX11_next_j58 C ih h)
      · have h := it_pos q h
        refine wp_goto (pc := 35) C 58 dX11_next_35 (by decide) ?_
        exact (wX11_next_j58 C ih h)
def fX11_next (n : Nat) (S : St) (x1 : Int32) (x2 : Int32) : Option (St × Int32) :=
  if x1 < 0 then
    some (S, (-1))
  else
    if x1 ≤ 2 then
      bn (sI S 0 81 0) (fun S1 : St =>
      fX11_next_l18 n n S1 x1 x2 0)
    else
      some (S, (-1))
set_option maxRecDepth 100000 in
set_option maxHeartbeats 4000000 in
theorem wX11_next (C : Cx G sdM cX11_next 7 RX11 (some .int)) {n : Nat} {S S' : St} {r : Int32} {x1 : Int32} {x2 : Int32} (h : fX11_next n S x1 x2 = some (S', r)) : Wp G sdM (rmOf 5 118) 7 (Qm G sdM (some (.int r)) S') S 0 [(0, .ref (gA G 0)), (1, .int x1), (2, .int x2)] [] := by
  unfold fX11_next at h
  refine wp_iload_n (pc := 0) C 1 dX11_next_0 rfl rfl ?_
  refine wp_if_lt (pc := 1) C 9 dX11_next_1 (by decide) (fun q => ?_) (fun q => ?_)
  · have h := it_pos q h
    refine wp_iconst (v := (-1)) (pc := 9) C dX11_next_9 (by decide) ?_
    exact rt_i C rfl h dX11_next_10
  · have h := it_neg q h
    refine wp_iload_n (pc := 4) C 1 dX11_next_4 rfl rfl ?_
    refine wp_iconst (v := 2) (pc := 5) C dX11_next_5 (by decide) ?_
    refine wp_icmp_le (pc := 6) C 11 dX11_next_6 (by decide) (fun q => ?_) (fun q => ?_)
    · have h := it_pos q h
      refine wp_aload_n (pc := 11) C 0 dX11_next_11 rfl rfl ?_
      refine wp_iconst (v := 0) (pc := 12) C dX11_next_12 (by decide) ?_
      obtain ⟨S1, eS1, h⟩ := bn_some h
      refine wp_putI (pc := 13) C eS1 flX11_536 fpX11_81 rfl (Nat.le_of_ble_eq_true rfl) rfl dX11_next_13 ?_
      refine wp_iconst (v := 0) (pc := 16) C dX11_next_16 (by decide) ?_
      refine wp_istore_n (pc := 17) C rfl [(3, .int 0), (0, .ref (gA G 0)), (1, .int x1), (2, .int x2)] dX11_next_17 rfl (Nat.le_of_ble_eq_true rfl) rfl ?_
      exact wp_sub C [1, 2, 3, 0] rfl (wX11_next_l18 C _ _ _ _ _ h)
    · have h := it_neg q h
      refine wp_iconst (v := (-1)) (pc := 9) C dX11_next_9 (by decide) ?_
      exact rt_i C rfl h dX11_next_10
theorem CtX11_next {n : Nat} {S S' : St} {r : Int32} {x1 : Int32} {x2 : Int32} (h : fX11_next n S x1 x2 = some (S', r)) : Ct l sdM cy ad D yX11_next cX11_next 7 (some .int) 5 118 [.ref (ad 0), .int x1, .int x2] S (some (.int r)) S' :=
  Ct_of (own := RX11) mX11_next rfl (Nat.le_of_ble_eq_true rfl) (fun G e1 e2 e3 e4 C => by subst e1 e2 e3 e4; exact wX11_next C h)
def fX11_seed (n : Nat) (S : St) (x1 : Int32) : Option (St × Int32) :=
  bn (S.1 0 67) (fun z1 : Int32 =>
  bn (sI S 0 67 x1) (fun S2 : St =>
  some (S2, z1)))
set_option maxRecDepth 100000 in
set_option maxHeartbeats 4000000 in
theorem wX11_seed (C : Cx G sdM cX11_seed 3 RX11 (some .int)) {n : Nat} {S S' : St} {r : Int32} {x1 : Int32} (h : fX11_seed n S x1 = some (S', r)) : Wp G sdM (rmOf 0 0) 3 (Qm G sdM (some (.int r)) S') S 0 [(0, .ref (gA G 0)), (1, .int x1)] [] := by
  unfold fX11_seed at h
  refine wp_aload_n (pc := 0) C 0 dX11_seed_0 rfl rfl ?_
  refine wp_getI (pc := 1) C flX11_109 rfl (Nat.le_of_ble_eq_true rfl) rfl dX11_seed_1 ?_
  obtain ⟨z1, ez1, h⟩ := bn_some h
  refine wp_istore_n (pc := 4) C ez1 [(2, .int z1), (0, .ref (gA G 0)), (1, .int x1)] dX11_seed_4 rfl (Nat.le_of_ble_eq_true rfl) rfl ?_
  refine wp_aload_n (pc := 5) C 1 dX11_seed_5 rfl rfl ?_
  refine wp_iload_n (pc := 6) C 2 dX11_seed_6 rfl rfl ?_
  obtain ⟨S2, eS2, h⟩ := bn_some h
  refine wp_putI (pc := 7) C eS2 flX11_109 fpX11_67 rfl (Nat.le_of_ble_eq_true rfl) rfl dX11_seed_7 ?_
  refine wp_iload_n (pc := 10) C 0 dX11_seed_10 rfl rfl ?_
  exact rt_i C rfl h dX11_seed_11
theorem CtX11_seed {n : Nat} {S S' : St} {r : Int32} {x1 : Int32} (h : fX11_seed n S x1 = some (S', r)) : Ct l sdM cy ad D yX11_seed cX11_seed 3 (some .int) 0 0 [.ref (ad 0), .int x1] S (some (.int r)) S' :=
  Ct_of (own := RX11) mX11_seed rfl (Nat.le_of_ble_eq_true rfl) (fun G e1 e2 e3 e4 C => by subst e1 e2 e3 e4; exact wX11_seed C h)
def fX11_isBox (n : Nat) (S : St) (x0 : Int32) : Option (St × Int32) :=
  if x0 < 0 then
    some (S, 0)
  else
    if 3 ≤ x0 then
      some (S, 0)
    else
      some (S, 1)
set_option maxRecDepth 100000 in
set_option maxHeartbeats 4000000 in
theorem wX11_isBox (C : Cx G sdM cX11_isBox 1 RX11 (some .boolean)) {n : Nat} {S S' : St} {r : Int32} {x0 : Int32} (h : fX11_isBox n S x0 = some (S', r)) : Wp G sdM (rmOf 0 0) 1 (Qm G sdM (some (.int r)) S') S 0 [(0, .int x0)] [] := by
  unfold fX11_isBox at h
  refine wp_iload_n (pc := 0) C 0 dX11_isBox_0 rfl rfl ?_
  refine wp_if_lt (pc := 1) C 13 dX11_isBox_1 (by decide) (fun q => ?_) (fun q => ?_)
  · have h := it_pos q h
    refine wp_iconst (v := 0) (pc := 13) C dX11_isBox_13 (by decide) ?_
    exact rt_z C (Or.inl rfl) rfl h dX11_isBox_14
  · have h := it_neg q h
    refine wp_iload_n (pc := 4) C 0 dX11_isBox_4 rfl rfl ?_
    refine wp_iconst (v := 3) (pc := 5) C dX11_isBox_5 (by decide) ?_
    refine wp_icmp_ge (pc := 6) C 13 dX11_isBox_6 (by decide) (fun q => ?_) (fun q => ?_)
    · have h := it_pos q h
      refine wp_iconst (v := 0) (pc := 13) C dX11_isBox_13 (by decide) ?_
      exact rt_z C (Or.inl rfl) rfl h dX11_isBox_14
    · have h := it_neg q h
      refine wp_iconst (v := 1) (pc := 9) C dX11_isBox_9 (by decide) ?_
      refine wp_goto (pc := 10) C 14 dX11_isBox_10 (by decide) ?_
      exact rt_z C (Or.inr rfl) rfl h dX11_isBox_14
theorem CtX11_isBox {n : Nat} {S S' : St} {r : Int32} {x0 : Int32} (h : fX11_isBox n S x0 = some (S', r)) : Ct l sdM cy ad D yX11_isBox cX11_isBox 1 (some .boolean) 0 0 [.int x0] S (some (.int r)) S' :=
  Ct_of (own := RX11) mX11_isBox rfl (Nat.le_of_ble_eq_true rfl) (fun G e1 e2 e3 e4 C => by subst e1 e2 e3 e4; exact wX11_isBox C h)
def fX11_image_j47 (n : Nat) (S : St) (x1 : Int32) : Option (St × Int32) :=
  gd (ib x1 3) (
  bn (sI S 44 (Int32.toNatClampNeg x1) (S.1 0 65)) (fun S2 : St =>
  gd (ib x1 3) (
  bn (sI S2 45 (Int32.toNatClampNeg x1) (S2.1 0 66)) (fun S4 : St =>
  gd (ib x1 3) (
  bn (sI S4 46 (Int32.toNatClampNeg x1) (S4.1 0 67)) (fun S6 : St =>
  bd (fX11_inVat n S6) (fun S7 r8 =>
  some (S7, r8))))))))
set_option maxRecDepth 100000 in
set_option maxHeartbeats 4000000 in
theorem wX11_image_j47 (C : Cx G sdM cX11_image 3 RX11 (some .int)) {n : Nat} {S S' : St} {r : Int32} {x1 : Int32} (h : fX11_image_j47 n S x1 = some (S', r)) : Wp G sdM (rmOf 1 22) 3 (Qm G sdM (some (.int r)) S') S 47 [(0, .ref (gA G 0)), (1, .int x1)] [] := by
  unfold fX11_image_j47 at h
  refine wp_aload_n (pc := 47) C 0 dX11_image_47 rfl rfl ?_
  refine wp_getS (v := 44) (pc := 48) C flX11_149 rfl rfl (Nat.le_of_ble_eq_true rfl) (Nat.le_of_ble_eq_true rfl) rfl dX11_image_48 ?_
  refine wp_iload_n (pc := 51) C 1 dX11_image_51 rfl rfl ?_
  refine wp_aload_n (pc := 52) C 0 dX11_image_52 rfl rfl ?_
  refine wp_getI (pc := 53) C flX11_379 rfl (Nat.le_of_ble_eq_true rfl) rfl dX11_image_53 ?_
  obtain ⟨g1, h⟩ := gd_some h
  obtain ⟨S2, eS2, h⟩ := bn_some h
  refine wp_iast (pc := 56) C eS2 (Nat.le_of_ble_eq_true rfl) rfl g1 dX11_image_56 ?_
  refine wp_aload_n (pc := 57) C 0 dX11_image_57 rfl rfl ?_
  refine wp_getS (v := 45) (pc := 58) C flX11_152 rfl rfl (Nat.le_of_ble_eq_true rfl) (Nat.le_of_ble_eq_true rfl) rfl dX11_image_58 ?_
  refine wp_iload_n (pc := 61) C 1 dX11_image_61 rfl rfl ?_
  refine wp_aload_n (pc := 62) C 0 dX11_image_62 rfl rfl ?_
  refine wp_getI (pc := 63) C flX11_506 rfl (Nat.le_of_ble_eq_true rfl) rfl dX11_image_63 ?_
  obtain ⟨g3, h⟩ := gd_some h
  obtain ⟨S4, eS4, h⟩ := bn_some h
  refine wp_iast (pc := 66) C eS4 (Nat.le_of_ble_eq_true rfl) rfl g3 dX11_image_66 ?_
  refine wp_aload_n (pc := 67) C 0 dX11_image_67 rfl rfl ?_
  refine wp_getS (v := 46) (pc := 68) C flX11_155 rfl rfl (Nat.le_of_ble_eq_true rfl) (Nat.le_of_ble_eq_true rfl) rfl dX11_image_68 ?_
  refine wp_iload_n (pc := 71) C 1 dX11_image_71 rfl rfl ?_
  refine wp_aload_n (pc := 72) C 0 dX11_image_72 rfl rfl ?_
  refine wp_getI (pc := 73) C flX11_109 rfl (Nat.le_of_ble_eq_true rfl) rfl dX11_image_73 ?_
  obtain ⟨g5, h⟩ := gd_some h
  obtain ⟨S6, eS6, h⟩ := bn_some h
  refine wp_iast (pc := 76) C eS6 (Nat.le_of_ble_eq_true rfl) rfl g5 dX11_image_76 ?_
  refine wp_aload_n (pc := 77) C 0 dX11_image_77 rfl rfl ?_
  obtain ⟨S7, r8, cS7, h⟩ := bd_some h
  refine wp_callVi (As := []) (st := []) (pc := 78) C (CtX11_inVat cS7) mX11_inVat iX11_inVat kX11_510 (Nat.le_of_ble_eq_true rfl) rfl (by decide) rfl rfl rfl rfl (Nat.le_of_ble_eq_true rfl) ⟨Nat.le_of_ble_eq_true rfl, Nat.le_of_ble_eq_true rfl⟩ dX11_image_78 ?_
  exact rt_i C rfl h dX11_image_81
def fX11_image_l18 (n : Nat) : Nat → St → Int32 → Int32 → Option (St × Int32)
  | 0, _, _, _ => none
  | j + 1, S, x1, x2 =>
    if 8 ≤ x2 then
      fX11_image_j47 n S x1
    else
      gd (ib x2 8) (
      gd (ib ((8 * x1) + x2) 24) (
      bn (sI S 43 (Int32.toNatClampNeg ((8 * x1) + x2)) (S.1 31 (Int32.toNatClampNeg x2))) (fun S3 : St =>
      bn (x2 + 1) (fun z4 : Int32 =>
      fX11_image_l18 n j S3 x1 z4))))
set_option maxRecDepth 100000 in
set_option maxHeartbeats 4000000 in
theorem wX11_image_l18 (C : Cx G sdM cX11_image 3 RX11 (some .int)) {n : Nat} {S' : St} {r : Int32} : ∀ (j : Nat) (S : St) (x1 : Int32) (x2 : Int32), fX11_image_l18 n j S x1 x2 = some (S', r) → Wp G sdM (rmOf 1 22) 3 (Qm G sdM (some (.int r)) S') S 18 [(0, .ref (gA G 0)), (1, .int x1), (2, .int x2)] [] := by
  intro j
  induction j with
  | zero =>
    intro S x1 x2 h
    exact nomatch (show (none : Option (St × Int32)) = some _ from h)
  | succ j ih =>
    intro S x1 x2 h
    rw [fX11_image_l18] at h
    refine wp_iload_n (pc := 18) C 2 dX11_image_18 rfl rfl ?_
    refine wp_bipush (v := 8) (pc := 19) C dX11_image_19 (by decide) ?_
    refine wp_icmp_ge (pc := 21) C 47 dX11_image_21 (by decide) (fun q => ?_) (fun q => ?_)
    · have h := it_pos q h
      exact wp_sub C [0, 1] rfl (wX11_image_j47 C h)
    · have h := it_neg q h
      refine wp_aload_n (pc := 24) C 0 dX11_image_24 rfl rfl ?_
      refine wp_getS (v := 43) (pc := 25) C flX11_146 rfl rfl (Nat.le_of_ble_eq_true rfl) (Nat.le_of_ble_eq_true rfl) rfl dX11_image_25 ?_
      refine wp_bipush (v := 8) (pc := 28) C dX11_image_28 (by decide) ?_
      refine wp_iload_n (pc := 30) C 1 dX11_image_30 rfl rfl ?_
      refine wp_imul (pc := 31) C dX11_image_31 ?_
      refine wp_iload_n (pc := 32) C 2 dX11_image_32 rfl rfl ?_
      refine wp_iadd (pc := 33) C dX11_image_33 ?_
      refine wp_aload_n (pc := 34) C 0 dX11_image_34 rfl rfl ?_
      refine wp_getS (v := 31) (pc := 35) C flX11_106 rfl rfl (Nat.le_of_ble_eq_true rfl) (Nat.le_of_ble_eq_true rfl) rfl dX11_image_35 ?_
      refine wp_iload_n (pc := 38) C 2 dX11_image_38 rfl rfl ?_
      obtain ⟨g1, h⟩ := gd_some h
      refine wp_iald (pc := 39) C (Nat.le_of_ble_eq_true rfl) rfl g1 dX11_image_39 ?_
      obtain ⟨g2, h⟩ := gd_some h
      obtain ⟨S3, eS3, h⟩ := bn_some h
      refine wp_iast (pc := 40) C eS3 (Nat.le_of_ble_eq_true rfl) rfl g2 dX11_image_40 ?_
      obtain ⟨z4, ez4, h⟩ := bn_some h
      refine wp_iinc (q := 2) (pc := 41) C (by decide) ez4 [(2, .int z4), (0, .ref (gA G 0)), (1, .int x1)] dX11_image_41 rfl (Nat.le_of_ble_eq_true rfl) rfl ?_
      refine wp_goto (pc := 44) C 18 dX11_image_44 (by decide) ?_
      exact wp_sub C [1, 2, 0] rfl (ih _ _ _ h)
def fX11_image (n : Nat) (S : St) (x1 : Int32) : Option (St × Int32) :=
  bd (fX11_isBox n S x1) (fun S1 r2 =>
  if r2 = 0 then
    some (S1, (-1))
  else
    gd (ib x1 3) (
    bn (sI S1 42 (Int32.toNatClampNeg x1) (vp_nar .boolean 1)) (fun S4 : St =>
    fX11_image_l18 n n S4 x1 0)))
set_option maxRecDepth 100000 in
set_option maxHeartbeats 4000000 in
theorem wX11_image (C : Cx G sdM cX11_image 3 RX11 (some .int)) {n : Nat} {S S' : St} {r : Int32} {x1 : Int32} (h : fX11_image n S x1 = some (S', r)) : Wp G sdM (rmOf 1 22) 3 (Qm G sdM (some (.int r)) S') S 0 [(0, .ref (gA G 0)), (1, .int x1)] [] := by
  unfold fX11_image at h
  refine wp_iload_n (pc := 0) C 1 dX11_image_0 rfl rfl ?_
  obtain ⟨S1, r2, cS1, h⟩ := bd_some h
  refine wp_callSi (As := [.int x1]) (st := []) (pc := 1) C (CtX11_isBox cS1) mX11_isBox sX11_isBox kX11_542 rfl rfl (Nat.le_of_ble_eq_true rfl) ⟨Nat.le_of_ble_eq_true rfl, Nat.le_of_ble_eq_true rfl⟩ dX11_image_1 ?_
  refine wp_if_ne (pc := 4) C 9 dX11_image_4 (by decide) (fun q => ?_) (fun q => ?_)
  · have h := it_neg q h
    refine wp_aload_n (pc := 9) C 0 dX11_image_9 rfl rfl ?_
    refine wp_getS (v := 42) (pc := 10) C flX11_142 rfl rfl (Nat.le_of_ble_eq_true rfl) (Nat.le_of_ble_eq_true rfl) rfl dX11_image_10 ?_
    refine wp_iload_n (pc := 13) C 1 dX11_image_13 rfl rfl ?_
    refine wp_iconst (v := 1) (pc := 14) C dX11_image_14 (by decide) ?_
    obtain ⟨g3, h⟩ := gd_some h
    obtain ⟨S4, eS4, h⟩ := bn_some h
    refine wp_zast (pc := 15) C eS4 (Nat.le_of_ble_eq_true rfl) rfl g3 dX11_image_15 ?_
    refine wp_iconst (v := 0) (pc := 16) C dX11_image_16 (by decide) ?_
    refine wp_istore_n (pc := 17) C rfl [(2, .int 0), (0, .ref (gA G 0)), (1, .int x1)] dX11_image_17 rfl (Nat.le_of_ble_eq_true rfl) rfl ?_
    exact wp_sub C [1, 2, 0] rfl (wX11_image_l18 C _ _ _ _ h)
  · have h := it_pos q h
    refine wp_iconst (v := (-1)) (pc := 7) C dX11_image_7 (by decide) ?_
    exact rt_i C rfl h dX11_image_8
theorem CtX11_image {n : Nat} {S S' : St} {r : Int32} {x1 : Int32} (h : fX11_image n S x1 = some (S', r)) : Ct l sdM cy ad D yX11_image cX11_image 3 (some .int) 1 22 [.ref (ad 0), .int x1] S (some (.int r)) S' :=
  Ct_of (own := RX11) mX11_image rfl (Nat.le_of_ble_eq_true rfl) (fun G e1 e2 e3 e4 C => by subst e1 e2 e3 e4; exact wX11_image C h)
def fX11_back_j49 (n : Nat) (S : St) (x1 : Int32) : Option (St × Int32) :=
  gd (ib x1 3) (
  bn (sI S 0 65 (S.1 44 (Int32.toNatClampNeg x1))) (fun S2 : St =>
  gd (ib x1 3) (
  bn (sI S2 0 66 (S2.1 45 (Int32.toNatClampNeg x1))) (fun S4 : St =>
  gd (ib x1 3) (
  bn (sI S4 0 67 (S4.1 46 (Int32.toNatClampNeg x1))) (fun S6 : St =>
  bd (fX11_inVat n S6) (fun S7 r8 =>
  some (S7, r8))))))))
set_option maxRecDepth 100000 in
set_option maxHeartbeats 4000000 in
theorem wX11_back_j49 (C : Cx G sdM cX11_back 3 RX11 (some .int)) {n : Nat} {S S' : St} {r : Int32} {x1 : Int32} (h : fX11_back_j49 n S x1 = some (S', r)) : Wp G sdM (rmOf 1 22) 3 (Qm G sdM (some (.int r)) S') S 49 [(0, .ref (gA G 0)), (1, .int x1)] [] := by
  unfold fX11_back_j49 at h
  refine wp_aload_n (pc := 49) C 0 dX11_back_49 rfl rfl ?_
  refine wp_aload_n (pc := 50) C 0 dX11_back_50 rfl rfl ?_
  refine wp_getS (v := 44) (pc := 51) C flX11_149 rfl rfl (Nat.le_of_ble_eq_true rfl) (Nat.le_of_ble_eq_true rfl) rfl dX11_back_51 ?_
  refine wp_iload_n (pc := 54) C 1 dX11_back_54 rfl rfl ?_
  obtain ⟨g1, h⟩ := gd_some h
  refine wp_iald (pc := 55) C (Nat.le_of_ble_eq_true rfl) rfl g1 dX11_back_55 ?_
  obtain ⟨S2, eS2, h⟩ := bn_some h
  refine wp_putI (pc := 56) C eS2 flX11_379 fpX11_65 rfl (Nat.le_of_ble_eq_true rfl) rfl dX11_back_56 ?_
  refine wp_aload_n (pc := 59) C 0 dX11_back_59 rfl rfl ?_
  refine wp_aload_n (pc := 60) C 0 dX11_back_60 rfl rfl ?_
  refine wp_getS (v := 45) (pc := 61) C flX11_152 rfl rfl (Nat.le_of_ble_eq_true rfl) (Nat.le_of_ble_eq_true rfl) rfl dX11_back_61 ?_
  refine wp_iload_n (pc := 64) C 1 dX11_back_64 rfl rfl ?_
  obtain ⟨g3, h⟩ := gd_some h
  refine wp_iald (pc := 65) C (Nat.le_of_ble_eq_true rfl) rfl g3 dX11_back_65 ?_
  obtain ⟨S4, eS4, h⟩ := bn_some h
  refine wp_putI (pc := 66) C eS4 flX11_506 fpX11_66 rfl (Nat.le_of_ble_eq_true rfl) rfl dX11_back_66 ?_
  refine wp_aload_n (pc := 69) C 0 dX11_back_69 rfl rfl ?_
  refine wp_aload_n (pc := 70) C 0 dX11_back_70 rfl rfl ?_
  refine wp_getS (v := 46) (pc := 71) C flX11_155 rfl rfl (Nat.le_of_ble_eq_true rfl) (Nat.le_of_ble_eq_true rfl) rfl dX11_back_71 ?_
  refine wp_iload_n (pc := 74) C 1 dX11_back_74 rfl rfl ?_
  obtain ⟨g5, h⟩ := gd_some h
  refine wp_iald (pc := 75) C (Nat.le_of_ble_eq_true rfl) rfl g5 dX11_back_75 ?_
  obtain ⟨S6, eS6, h⟩ := bn_some h
  refine wp_putI (pc := 76) C eS6 flX11_109 fpX11_67 rfl (Nat.le_of_ble_eq_true rfl) rfl dX11_back_76 ?_
  refine wp_aload_n (pc := 79) C 0 dX11_back_79 rfl rfl ?_
  obtain ⟨S7, r8, cS7, h⟩ := bd_some h
  refine wp_callVi (As := []) (st := []) (pc := 80) C (CtX11_inVat cS7) mX11_inVat iX11_inVat kX11_510 (Nat.le_of_ble_eq_true rfl) rfl (by decide) rfl rfl rfl rfl (Nat.le_of_ble_eq_true rfl) ⟨Nat.le_of_ble_eq_true rfl, Nat.le_of_ble_eq_true rfl⟩ dX11_back_80 ?_
  exact rt_i C rfl h dX11_back_83
def fX11_back_l20 (n : Nat) : Nat → St → Int32 → Int32 → Option (St × Int32)
  | 0, _, _, _ => none
  | j + 1, S, x1, x2 =>
    if 8 ≤ x2 then
      fX11_back_j49 n S x1
    else
      gd (ib ((8 * x1) + x2) 24) (
      gd (ib x2 8) (
      bn (sI S 31 (Int32.toNatClampNeg x2) (S.1 43 (Int32.toNatClampNeg ((8 * x1) + x2)))) (fun S3 : St =>
      bn (x2 + 1) (fun z4 : Int32 =>
      fX11_back_l20 n j S3 x1 z4))))
set_option maxRecDepth 100000 in
set_option maxHeartbeats 4000000 in
theorem wX11_back_l20 (C : Cx G sdM cX11_back 3 RX11 (some .int)) {n : Nat} {S' : St} {r : Int32} : ∀ (j : Nat) (S : St) (x1 : Int32) (x2 : Int32), fX11_back_l20 n j S x1 x2 = some (S', r) → Wp G sdM (rmOf 1 22) 3 (Qm G sdM (some (.int r)) S') S 20 [(0, .ref (gA G 0)), (1, .int x1), (2, .int x2)] [] := by
  intro j
  induction j with
  | zero =>
    intro S x1 x2 h
    exact nomatch (show (none : Option (St × Int32)) = some _ from h)
  | succ j ih =>
    intro S x1 x2 h
    rw [fX11_back_l20] at h
    refine wp_iload_n (pc := 20) C 2 dX11_back_20 rfl rfl ?_
    refine wp_bipush (v := 8) (pc := 21) C dX11_back_21 (by decide) ?_
    refine wp_icmp_ge (pc := 23) C 49 dX11_back_23 (by decide) (fun q => ?_) (fun q => ?_)
    · have h := it_pos q h
      exact wp_sub C [0, 1] rfl (wX11_back_j49 C h)
    · have h := it_neg q h
      refine wp_aload_n (pc := 26) C 0 dX11_back_26 rfl rfl ?_
      refine wp_getS (v := 31) (pc := 27) C flX11_106 rfl rfl (Nat.le_of_ble_eq_true rfl) (Nat.le_of_ble_eq_true rfl) rfl dX11_back_27 ?_
      refine wp_iload_n (pc := 30) C 2 dX11_back_30 rfl rfl ?_
      refine wp_aload_n (pc := 31) C 0 dX11_back_31 rfl rfl ?_
      refine wp_getS (v := 43) (pc := 32) C flX11_146 rfl rfl (Nat.le_of_ble_eq_true rfl) (Nat.le_of_ble_eq_true rfl) rfl dX11_back_32 ?_
      refine wp_bipush (v := 8) (pc := 35) C dX11_back_35 (by decide) ?_
      refine wp_iload_n (pc := 37) C 1 dX11_back_37 rfl rfl ?_
      refine wp_imul (pc := 38) C dX11_back_38 ?_
      refine wp_iload_n (pc := 39) C 2 dX11_back_39 rfl rfl ?_
      refine wp_iadd (pc := 40) C dX11_back_40 ?_
      obtain ⟨g1, h⟩ := gd_some h
      refine wp_iald (pc := 41) C (Nat.le_of_ble_eq_true rfl) rfl g1 dX11_back_41 ?_
      obtain ⟨g2, h⟩ := gd_some h
      obtain ⟨S3, eS3, h⟩ := bn_some h
      refine wp_iast (pc := 42) C eS3 (Nat.le_of_ble_eq_true rfl) rfl g2 dX11_back_42 ?_
      obtain ⟨z4, ez4, h⟩ := bn_some h
      refine wp_iinc (q := 2) (pc := 43) C (by decide) ez4 [(2, .int z4), (0, .ref (gA G 0)), (1, .int x1)] dX11_back_43 rfl (Nat.le_of_ble_eq_true rfl) rfl ?_
      refine wp_goto (pc := 46) C 20 dX11_back_46 (by decide) ?_
      exact wp_sub C [1, 2, 0] rfl (ih _ _ _ h)
def fX11_back (n : Nat) (S : St) (x1 : Int32) : Option (St × Int32) :=
  bd (fX11_isBox n S x1) (fun S1 r2 =>
  if r2 = 0 then
    some (S1, (-1))
  else
    gd (ib x1 3) (
    if (S1.1 42 (Int32.toNatClampNeg x1)) = 0 then
      some (S1, (-1))
    else
      fX11_back_l20 n n S1 x1 0))
set_option maxRecDepth 100000 in
set_option maxHeartbeats 4000000 in
theorem wX11_back (C : Cx G sdM cX11_back 3 RX11 (some .int)) {n : Nat} {S S' : St} {r : Int32} {x1 : Int32} (h : fX11_back n S x1 = some (S', r)) : Wp G sdM (rmOf 1 22) 3 (Qm G sdM (some (.int r)) S') S 0 [(0, .ref (gA G 0)), (1, .int x1)] [] := by
  unfold fX11_back at h
  refine wp_iload_n (pc := 0) C 1 dX11_back_0 rfl rfl ?_
  obtain ⟨S1, r2, cS1, h⟩ := bd_some h
  refine wp_callSi (As := [.int x1]) (st := []) (pc := 1) C (CtX11_isBox cS1) mX11_isBox sX11_isBox kX11_542 rfl rfl (Nat.le_of_ble_eq_true rfl) ⟨Nat.le_of_ble_eq_true rfl, Nat.le_of_ble_eq_true rfl⟩ dX11_back_1 ?_
  refine wp_if_eq (pc := 4) C 16 dX11_back_4 (by decide) (fun q => ?_) (fun q => ?_)
  · have h := it_pos q h
    refine wp_iconst (v := (-1)) (pc := 16) C dX11_back_16 (by decide) ?_
    exact rt_i C rfl h dX11_back_17
  · have h := it_neg q h
    refine wp_aload_n (pc := 7) C 0 dX11_back_7 rfl rfl ?_
    refine wp_getS (v := 42) (pc := 8) C flX11_142 rfl rfl (Nat.le_of_ble_eq_true rfl) (Nat.le_of_ble_eq_true rfl) rfl dX11_back_8 ?_
    refine wp_iload_n (pc := 11) C 1 dX11_back_11 rfl rfl ?_
    obtain ⟨g3, h⟩ := gd_some h
    refine wp_zald (pc := 12) C (Nat.le_of_ble_eq_true rfl) rfl g3 dX11_back_12 ?_
    refine wp_if_ne (pc := 13) C 18 dX11_back_13 (by decide) (fun q => ?_) (fun q => ?_)
    · have h := it_neg q h
      refine wp_iconst (v := 0) (pc := 18) C dX11_back_18 (by decide) ?_
      refine wp_istore_n (pc := 19) C rfl [(2, .int 0), (0, .ref (gA G 0)), (1, .int x1)] dX11_back_19 rfl (Nat.le_of_ble_eq_true rfl) rfl ?_
      exact wp_sub C [1, 2, 0] rfl (wX11_back_l20 C _ _ _ _ h)
    · have h := it_pos q h
      refine wp_iconst (v := (-1)) (pc := 16) C dX11_back_16 (by decide) ?_
      exact rt_i C rfl h dX11_back_17
theorem CtX11_back {n : Nat} {S S' : St} {r : Int32} {x1 : Int32} (h : fX11_back n S x1 = some (S', r)) : Ct l sdM cy ad D yX11_back cX11_back 3 (some .int) 1 22 [.ref (ad 0), .int x1] S (some (.int r)) S' :=
  Ct_of (own := RX11) mX11_back rfl (Nat.le_of_ble_eq_true rfl) (fun G e1 e2 e3 e4 C => by subst e1 e2 e3 e4; exact wX11_back C h)
def fX11_about (n : Nat) (S : St) (x1 : Int32) : Option (St × Int32) :=
  if x1 = 0 then
    some (S, S.1 0 33)
  else if x1 = 1 then
    bd (fX11_dyes n S) (fun S2 r3 =>
    some (S2, r3))
  else if x1 = 2 then
    gd (ib 1 5) (
    some (S, S.1 4 (Int32.toNatClampNeg 1)))
  else if x1 = 3 then
    bd (fX11_lamps n S) (fun S7 r8 =>
    some (S7, r8))
  else if x1 = 4 then
    bd (fX11_eyes n S) (fun S10 r11 =>
    some (S10, r11))
  else if x1 = 5 then
    gd (ib 4 5) (
    some (S, S.1 4 (Int32.toNatClampNeg 4)))
  else if x1 = 6 then
    some (S, S.1 0 77)
  else if x1 = 7 then
    some (S, S.1 0 78)
  else if x1 = 8 then
    some (S, S.1 0 1)
  else if x1 = 9 then
    some (S, S.1 0 67)
  else if x1 = 10 then
    some (S, S.1 0 66)
  else if x1 = 11 then
    some (S, S.1 0 65)
  else some (S, (-1))
set_option maxRecDepth 100000 in
set_option maxHeartbeats 4000000 in
theorem wX11_about (C : Cx G sdM cX11_about 2 RX11 (some .int)) {n : Nat} {S S' : St} {r : Int32} {x1 : Int32} (h : fX11_about n S x1 = some (S', r)) : Wp G sdM (rmOf 1 20) 2 (Qm G sdM (some (.int r)) S') S 0 [(0, .ref (gA G 0)), (1, .int x1)] [] := by
  unfold fX11_about at h
  refine wp_iload_n (pc := 0) C 1 dX11_about_0 rfl rfl ?_
  by_cases q : x1 = 0
  · have h := it_pos q h
    refine wp_tableIn (pc := 1) C 64 dX11_about_1 (by rw [q]; decide) (by rw [q]; decide) (by rw [q]; rfl) (by decide) ?_
    refine wp_aload_n (pc := 64) C 0 dX11_about_64 rfl rfl ?_
    refine wp_getI (pc := 65) C flX11_158 rfl (Nat.le_of_ble_eq_true rfl) rfl dX11_about_65 ?_
    exact rt_i C rfl h dX11_about_68
  have h := it_neg q h
  have n1 := q
  by_cases q : x1 = 1
  · have h := it_pos q h
    refine wp_tableIn (pc := 1) C 69 dX11_about_1 (by rw [q]; decide) (by rw [q]; decide) (by rw [q]; rfl) (by decide) ?_
    refine wp_aload_n (pc := 69) C 0 dX11_about_69 rfl rfl ?_
    obtain ⟨S2, r3, cS2, h⟩ := bd_some h
    refine wp_callVi (As := []) (st := []) (pc := 70) C (CtX11_dyes cS2) mX11_dyes iX11_dyes kX11_357 (Nat.le_of_ble_eq_true rfl) rfl (by decide) rfl rfl rfl rfl (Nat.le_of_ble_eq_true rfl) ⟨Nat.le_of_ble_eq_true rfl, Nat.le_of_ble_eq_true rfl⟩ dX11_about_70 ?_
    exact rt_i C rfl h dX11_about_73
  have h := it_neg q h
  have n4 := q
  by_cases q : x1 = 2
  · have h := it_pos q h
    refine wp_tableIn (pc := 1) C 74 dX11_about_1 (by rw [q]; decide) (by rw [q]; decide) (by rw [q]; rfl) (by decide) ?_
    refine wp_aload_n (pc := 74) C 0 dX11_about_74 rfl rfl ?_
    refine wp_getS (v := 4) (pc := 75) C flX11_24 rfl rfl (Nat.le_of_ble_eq_true rfl) (Nat.le_of_ble_eq_true rfl) rfl dX11_about_75 ?_
    refine wp_iconst (v := 1) (pc := 78) C dX11_about_78 (by decide) ?_
    obtain ⟨g5, h⟩ := gd_some h
    refine wp_iald (pc := 79) C (Nat.le_of_ble_eq_true rfl) rfl g5 dX11_about_79 ?_
    exact rt_i C rfl h dX11_about_80
  have h := it_neg q h
  have n6 := q
  by_cases q : x1 = 3
  · have h := it_pos q h
    refine wp_tableIn (pc := 1) C 81 dX11_about_1 (by rw [q]; decide) (by rw [q]; decide) (by rw [q]; rfl) (by decide) ?_
    refine wp_aload_n (pc := 81) C 0 dX11_about_81 rfl rfl ?_
    obtain ⟨S7, r8, cS7, h⟩ := bd_some h
    refine wp_callVi (As := []) (st := []) (pc := 82) C (CtX11_lamps cS7) mX11_lamps iX11_lamps kX11_365 (Nat.le_of_ble_eq_true rfl) rfl (by decide) rfl rfl rfl rfl (Nat.le_of_ble_eq_true rfl) ⟨Nat.le_of_ble_eq_true rfl, Nat.le_of_ble_eq_true rfl⟩ dX11_about_82 ?_
    exact rt_i C rfl h dX11_about_85
  have h := it_neg q h
  have n9 := q
  by_cases q : x1 = 4
  · have h := it_pos q h
    refine wp_tableIn (pc := 1) C 86 dX11_about_1 (by rw [q]; decide) (by rw [q]; decide) (by rw [q]; rfl) (by decide) ?_
    refine wp_aload_n (pc := 86) C 0 dX11_about_86 rfl rfl ?_
    obtain ⟨S10, r11, cS10, h⟩ := bd_some h
    refine wp_callVi (As := []) (st := []) (pc := 87) C (CtX11_eyes cS10) mX11_eyes iX11_eyes kX11_368 (Nat.le_of_ble_eq_true rfl) rfl (by decide) rfl rfl rfl rfl (Nat.le_of_ble_eq_true rfl) ⟨Nat.le_of_ble_eq_true rfl, Nat.le_of_ble_eq_true rfl⟩ dX11_about_87 ?_
    exact rt_i C rfl h dX11_about_90
  have h := it_neg q h
  have n12 := q
  by_cases q : x1 = 5
  · have h := it_pos q h
    refine wp_tableIn (pc := 1) C 91 dX11_about_1 (by rw [q]; decide) (by rw [q]; decide) (by rw [q]; rfl) (by decide) ?_
    refine wp_aload_n (pc := 91) C 0 dX11_about_91 rfl rfl ?_
    refine wp_getS (v := 4) (pc := 92) C flX11_24 rfl rfl (Nat.le_of_ble_eq_true rfl) (Nat.le_of_ble_eq_true rfl) rfl dX11_about_92 ?_
    refine wp_iconst (v := 4) (pc := 95) C dX11_about_95 (by decide) ?_
    obtain ⟨g13, h⟩ := gd_some h
    refine wp_iald (pc := 96) C (Nat.le_of_ble_eq_true rfl) rfl g13 dX11_about_96 ?_
    exact rt_i C rfl h dX11_about_97
  have h := it_neg q h
  have n14 := q
  by_cases q : x1 = 6
  · have h := it_pos q h
    refine wp_tableIn (pc := 1) C 98 dX11_about_1 (by rw [q]; decide) (by rw [q]; decide) (by rw [q]; rfl) (by decide) ?_
    refine wp_aload_n (pc := 98) C 0 dX11_about_98 rfl rfl ?_
    refine wp_getI (pc := 99) C flX11_339 rfl (Nat.le_of_ble_eq_true rfl) rfl dX11_about_99 ?_
    exact rt_i C rfl h dX11_about_102
  have h := it_neg q h
  have n15 := q
  by_cases q : x1 = 7
  · have h := it_pos q h
    refine wp_tableIn (pc := 1) C 103 dX11_about_1 (by rw [q]; decide) (by rw [q]; decide) (by rw [q]; rfl) (by decide) ?_
    refine wp_aload_n (pc := 103) C 0 dX11_about_103 rfl rfl ?_
    refine wp_getI (pc := 104) C flX11_524 rfl (Nat.le_of_ble_eq_true rfl) rfl dX11_about_104 ?_
    exact rt_i C rfl h dX11_about_107
  have h := it_neg q h
  have n16 := q
  by_cases q : x1 = 8
  · have h := it_pos q h
    refine wp_tableIn (pc := 1) C 108 dX11_about_1 (by rw [q]; decide) (by rw [q]; decide) (by rw [q]; rfl) (by decide) ?_
    refine wp_aload_n (pc := 108) C 0 dX11_about_108 rfl rfl ?_
    refine wp_getI (pc := 109) C flX11_167 rfl (Nat.le_of_ble_eq_true rfl) rfl dX11_about_109 ?_
    exact rt_i C rfl h dX11_about_112
  have h := it_neg q h
  have n17 := q
  by_cases q : x1 = 9
  · have h := it_pos q h
    refine wp_tableIn (pc := 1) C 113 dX11_about_1 (by rw [q]; decide) (by rw [q]; decide) (by rw [q]; rfl) (by decide) ?_
    refine wp_aload_n (pc := 113) C 0 dX11_about_113 rfl rfl ?_
    refine wp_getI (pc := 114) C flX11_109 rfl (Nat.le_of_ble_eq_true rfl) rfl dX11_about_114 ?_
    exact rt_i C rfl h dX11_about_117
  have h := it_neg q h
  have n18 := q
  by_cases q : x1 = 10
  · have h := it_pos q h
    refine wp_tableIn (pc := 1) C 118 dX11_about_1 (by rw [q]; decide) (by rw [q]; decide) (by rw [q]; rfl) (by decide) ?_
    refine wp_aload_n (pc := 118) C 0 dX11_about_118 rfl rfl ?_
    refine wp_getI (pc := 119) C flX11_506 rfl (Nat.le_of_ble_eq_true rfl) rfl dX11_about_119 ?_
    exact rt_i C rfl h dX11_about_122
  have h := it_neg q h
  have n19 := q
  by_cases q : x1 = 11
  · have h := it_pos q h
    refine wp_tableIn (pc := 1) C 123 dX11_about_1 (by rw [q]; decide) (by rw [q]; decide) (by rw [q]; rfl) (by decide) ?_
    refine wp_aload_n (pc := 123) C 0 dX11_about_123 rfl rfl ?_
    refine wp_getI (pc := 124) C flX11_379 rfl (Nat.le_of_ble_eq_true rfl) rfl dX11_about_124 ?_
    exact rt_i C rfl h dX11_about_127
  have h := it_neg q h
  have n20 := q
  refine wp_tableOut (pc := 1) C 128 dX11_about_1 (by have m0 := ne_toInt (v := 0) (by decide) n1; have m1 := ne_toInt (v := 1) (by decide) n4; have m2 := ne_toInt (v := 2) (by decide) n6; have m3 := ne_toInt (v := 3) (by decide) n9; have m4 := ne_toInt (v := 4) (by decide) n12; have m5 := ne_toInt (v := 5) (by decide) n14; have m6 := ne_toInt (v := 6) (by decide) n15; have m7 := ne_toInt (v := 7) (by decide) n16; have m8 := ne_toInt (v := 8) (by decide) n17; have m9 := ne_toInt (v := 9) (by decide) n18; have m10 := ne_toInt (v := 10) (by decide) n19; have m11 := ne_toInt (v := 11) (by decide) n20; omega) (by decide) ?_
  refine wp_iconst (v := (-1)) (pc := 128) C dX11_about_128 (by decide) ?_
  exact rt_i C rfl h dX11_about_129
theorem CtX11_about {n : Nat} {S S' : St} {r : Int32} {x1 : Int32} (h : fX11_about n S x1 = some (S', r)) : Ct l sdM cy ad D yX11_about cX11_about 2 (some .int) 1 20 [.ref (ad 0), .int x1] S (some (.int r)) S' :=
  Ct_of (own := RX11) mX11_about rfl (Nat.le_of_ble_eq_true rfl) (fun G e1 e2 e3 e4 C => by subst e1 e2 e3 e4; exact wX11_about C h)
end
