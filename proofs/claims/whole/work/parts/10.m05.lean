section
variable {G : Gx} {l : Launch} {cy : Nat → ClassId} {ad : Nat → Nat} {D : va_G}
def fX11_match_j80 (n : Nat) (S : St) : Option (St × Int32) :=
  if (S.1 0 52) = 0 then
    some (S, (-1))
  else
    some (S, S.1 0 53)
set_option maxRecDepth 100000 in
set_option maxHeartbeats 4000000 in
theorem wX11_match_j80 (C : Cx G sdM cX11_match 4 RX11 (some .int)) {n : Nat} {S S' : St} {r : Int32} (h : fX11_match_j80 n S = some (S', r)) : Wp G sdM (rmOf 5 115) 4 (Qm G sdM (some (.int r)) S') S 80 [(0, .ref (gA G 0))] [] := by
  unfold fX11_match_j80 at h
  refine wp_aload_n (pc := 80) C 0 dX11_match_80 rfl rfl ?_
  refine wp_getI (pc := 81) C flX11_348 rfl (Nat.le_of_ble_eq_true rfl) rfl dX11_match_81 ?_
  refine wp_if_eq (pc := 84) C 94 dX11_match_84 (by decide) (fun q => ?_) (fun q => ?_)
  · have h := it_pos q h
    refine wp_iconst (v := (-1)) (pc := 94) C dX11_match_94 (by decide) ?_
    exact rt_i C rfl h dX11_match_95
  · have h := it_neg q h
    refine wp_aload_n (pc := 87) C 0 dX11_match_87 rfl rfl ?_
    refine wp_getI (pc := 88) C flX11_447 rfl (Nat.le_of_ble_eq_true rfl) rfl dX11_match_88 ?_
    refine wp_goto (pc := 91) C 95 dX11_match_91 (by decide) ?_
    exact rt_i C rfl h dX11_match_95
def fX11_match_j72 (n : Nat) (k41 : St → Int32 → Int32 → Int32 → Option (St × Int32)) (S : St) (x1 : Int32) (x2 : Int32) : Option (St × Int32) :=
  bd (fX11_nextMix n S) (fun S1 r2 =>
  k41 S1 x1 x2 r2)
set_option maxRecDepth 100000 in
set_option maxHeartbeats 4000000 in
theorem wX11_match_j72 (C : Cx G sdM cX11_match 4 RX11 (some .int)) {n : Nat} {k41 : St → Int32 → Int32 → Int32 → Option (St × Int32)} {S S' : St} {r : Int32} {x1 : Int32} {x2 : Int32} (hk41 : ∀ (S : St) (x1 : Int32) (x2 : Int32) (x3 : Int32), k41 S x1 x2 x3 = some (S', r) → Wp G sdM (rmOf 5 115) 4 (Qm G sdM (some (.int r)) S') S 41 [(0, .ref (gA G 0)), (1, .int x1), (2, .int x2), (3, .int x3)] []) (h : fX11_match_j72 n k41 S x1 x2 = some (S', r)) : Wp G sdM (rmOf 5 115) 4 (Qm G sdM (some (.int r)) S') S 72 [(0, .ref (gA G 0)), (1, .int x1), (2, .int x2)] [] := by
  unfold fX11_match_j72 at h
  refine wp_aload_n (pc := 72) C 0 dX11_match_72 rfl rfl ?_
  obtain ⟨S1, r2, cS1, h⟩ := bd_some h
  refine wp_callVi (As := []) (st := []) (pc := 73) C (CtX11_nextMix cS1) mX11_nextMix iX11_nextMix kX11_472 (Nat.le_of_ble_eq_true rfl) rfl (by decide) rfl rfl rfl rfl (Nat.le_of_ble_eq_true rfl) ⟨Nat.le_of_ble_eq_true rfl, Nat.le_of_ble_eq_true rfl⟩ dX11_match_73 ?_
  refine wp_istore_n (pc := 76) C rfl [(3, .int r2), (0, .ref (gA G 0)), (1, .int x1), (2, .int x2)] dX11_match_76 rfl (Nat.le_of_ble_eq_true rfl) rfl ?_
  refine wp_goto (pc := 77) C 41 dX11_match_77 (by decide) ?_
  exact wp_sub C [1, 2, 3, 0] rfl (hk41 _ _ _ _ h)
def fX11_match_j68 (n : Nat) (k41 : St → Int32 → Int32 → Int32 → Option (St × Int32)) (S : St) (x1 : Int32) (x2 : Int32) : Option (St × Int32) :=
  bd (fX11_putDown n S) (fun S1 r2 =>
  fX11_match_j72 n k41 S1 x1 x2)
set_option maxRecDepth 100000 in
set_option maxHeartbeats 4000000 in
theorem wX11_match_j68 (C : Cx G sdM cX11_match 4 RX11 (some .int)) {n : Nat} {k41 : St → Int32 → Int32 → Int32 → Option (St × Int32)} {S S' : St} {r : Int32} {x1 : Int32} {x2 : Int32} (hk41 : ∀ (S : St) (x1 : Int32) (x2 : Int32) (x3 : Int32), k41 S x1 x2 x3 = some (S', r) → Wp G sdM (rmOf 5 115) 4 (Qm G sdM (some (.int r)) S') S 41 [(0, .ref (gA G 0)), (1, .int x1), (2, .int x2), (3, .int x3)] []) (h : fX11_match_j68 n k41 S x1 x2 = some (S', r)) : Wp G sdM (rmOf 5 115) 4 (Qm G sdM (some (.int r)) S') S 68 [(0, .ref (gA G 0)), (1, .int x1), (2, .int x2)] [] := by
  unfold fX11_match_j68 at h
  refine wp_aload_n (pc := 68) C 0 dX11_match_68 rfl rfl ?_
  obtain ⟨S1, r2, cS1, h⟩ := bd_some h
  refine wp_callVv (As := []) (st := []) (pc := 69) C (CtX11_putDown cS1) mX11_putDown iX11_putDown kX11_469 (Nat.le_of_ble_eq_true rfl) rfl (by decide) rfl rfl rfl rfl (Nat.le_of_ble_eq_true rfl) ⟨Nat.le_of_ble_eq_true rfl, Nat.le_of_ble_eq_true rfl⟩ dX11_match_69 ?_
  exact (wX11_match_j72 C hk41 h)
def fX11_match_l41 (n : Nat) : Nat → St → Int32 → Int32 → Int32 → Option (St × Int32)
  | 0, _, _, _, _ => none
  | j + 1, S, x1, x2, x3 =>
    if x3 = 0 then
      fX11_match_j80 n S
    else
      bd (fX11_isAlikeBy n S x1 x2) (fun S1 r2 =>
      if r2 = 0 then
        fX11_match_j72 n (fX11_match_l41 n j) S1 x1 x2
      else
        if (S1.1 0 52) = 0 then
          fX11_match_j68 n (fX11_match_l41 n j) S1 x1 x2
        else
          bd (fX11_isCheaper n S1) (fun S3 r4 =>
          if r4 = 0 then
            fX11_match_j72 n (fX11_match_l41 n j) S3 x1 x2
          else
            fX11_match_j68 n (fX11_match_l41 n j) S3 x1 x2))
set_option maxRecDepth 100000 in
set_option maxHeartbeats 4000000 in
theorem wX11_match_l41 (C : Cx G sdM cX11_match 4 RX11 (some .int)) {n : Nat} {S' : St} {r : Int32} : ∀ (j : Nat) (S : St) (x1 : Int32) (x2 : Int32) (x3 : Int32), fX11_match_l41 n j S x1 x2 x3 = some (S', r) → Wp G sdM (rmOf 5 115) 4 (Qm G sdM (some (.int r)) S') S 41 [(0, .ref (gA G 0)), (1, .int x1), (2, .int x2), (3, .int x3)] [] := by
  intro j
  induction j with
  | zero =>
    intro S x1 x2 x3 h
    exact nomatch (show (none : Option (St × Int32)) = some _ from h)
  | succ j ih =>
    intro S x1 x2 x3 h
    rw [fX11_match_l41] at h
    refine wp_iload_n (pc := 41) C 3 dX11_match_41 rfl rfl ?_
    refine wp_if_eq (pc := 42) C 80 dX11_match_42 (by decide) (fun q => ?_) (fun q => ?_)
    · have h := it_pos q h
      exact wp_sub C [0] rfl (wX11_match_j80 C h)
    · have h := it_neg q h
      refine wp_aload_n (pc := 45) C 0 dX11_match_45 rfl rfl ?_
      refine wp_iload_n (pc := 46) C 1 dX11_match_46 rfl rfl ?_
      refine wp_iload_n (pc := 47) C 2 dX11_match_47 rfl rfl ?_
      obtain ⟨S1, r2, cS1, h⟩ := bd_some h
      refine wp_callVi (As := [.int x1, .int x2]) (st := []) (pc := 48) C (CtX11_isAlikeBy cS1) mX11_isAlikeBy iX11_isAlikeBy kX11_463 (Nat.le_of_ble_eq_true rfl) rfl (by decide) rfl rfl rfl rfl (Nat.le_of_ble_eq_true rfl) ⟨Nat.le_of_ble_eq_true rfl, Nat.le_of_ble_eq_true rfl⟩ dX11_match_48 ?_
      refine wp_if_eq (pc := 51) C 72 dX11_match_51 (by decide) (fun q => ?_) (fun q => ?_)
      · have h := it_pos q h
        exact wp_sub C [0, 1, 2] rfl (wX11_match_j72 C ih h)
      · have h := it_neg q h
        refine wp_aload_n (pc := 54) C 0 dX11_match_54 rfl rfl ?_
        refine wp_getI (pc := 55) C flX11_348 rfl (Nat.le_of_ble_eq_true rfl) rfl dX11_match_55 ?_
        refine wp_if_eq (pc := 58) C 68 dX11_match_58 (by decide) (fun q => ?_) (fun q => ?_)
        · have h := it_pos q h
          exact wp_sub C [0, 1, 2] rfl (wX11_match_j68 C ih h)
        · have h := it_neg q h
          refine wp_aload_n (pc := 61) C 0 dX11_match_61 rfl rfl ?_
          obtain ⟨S3, r4, cS3, h⟩ := bd_some h
          refine wp_callVi (As := []) (st := []) (pc := 62) C (CtX11_isCheaper cS3) mX11_isCheaper iX11_isCheaper kX11_466 (Nat.le_of_ble_eq_true rfl) rfl (by decide) rfl rfl rfl rfl (Nat.le_of_ble_eq_true rfl) ⟨Nat.le_of_ble_eq_true rfl, Nat.le_of_ble_eq_true rfl⟩ dX11_match_62 ?_
          refine wp_if_eq (pc := 65) C 72 dX11_match_65 (by decide) (fun q => ?_) (fun q => ?_)
          · have h := it_pos q h
            exact wp_sub C [0, 1, 2] rfl (wX11_match_j72 C ih h)
          · have h := it_neg q h
            exact wp_sub C [0, 1, 2] rfl (wX11_match_j68 C ih h)
def fX11_match (n : Nat) (S : St) (x1 : Int32) (x2 : Int32) : Option (St × Int32) :=
  bn (sI S 0 52 0) (fun S1 : St =>
  if (S1.1 0 50) = 0 then
    some (S1, (-1))
  else
    bd (fX11_isSet n S1 x1) (fun S2 r3 =>
    if r3 = 0 then
      some (S2, (-1))
    else
      bd (fX11_mixes n S2) (fun S4 r5 =>
      if r5 ≤ 100000 then
        bd (fX11_beginMixes n S4) (fun S6 r7 =>
        fX11_match_l41 n n S6 x1 x2 1)
      else
        some (S4, (-2)))))
set_option maxRecDepth 100000 in
set_option maxHeartbeats 4000000 in
theorem wX11_match (C : Cx G sdM cX11_match 4 RX11 (some .int)) {n : Nat} {S S' : St} {r : Int32} {x1 : Int32} {x2 : Int32} (h : fX11_match n S x1 x2 = some (S', r)) : Wp G sdM (rmOf 5 115) 4 (Qm G sdM (some (.int r)) S') S 0 [(0, .ref (gA G 0)), (1, .int x1), (2, .int x2)] [] := by
  unfold fX11_match at h
  refine wp_aload_n (pc := 0) C 0 dX11_match_0 rfl rfl ?_
  refine wp_iconst (v := 0) (pc := 1) C dX11_match_1 (by decide) ?_
  obtain ⟨S1, eS1, h⟩ := bn_some h
  refine wp_putZ (pc := 2) C (Or.inl rfl) eS1 flX11_348 fpX11_52 rfl (Nat.le_of_ble_eq_true rfl) rfl dX11_match_2 ?_
  refine wp_aload_n (pc := 5) C 0 dX11_match_5 rfl rfl ?_
  refine wp_getI (pc := 6) C flX11_342 rfl (Nat.le_of_ble_eq_true rfl) rfl dX11_match_6 ?_
  refine wp_if_eq (pc := 9) C 20 dX11_match_9 (by decide) (fun q => ?_) (fun q => ?_)
  · have h := it_pos q h
    refine wp_iconst (v := (-1)) (pc := 20) C dX11_match_20 (by decide) ?_
    exact rt_i C rfl h dX11_match_21
  · have h := it_neg q h
    refine wp_aload_n (pc := 12) C 0 dX11_match_12 rfl rfl ?_
    refine wp_iload_n (pc := 13) C 1 dX11_match_13 rfl rfl ?_
    obtain ⟨S2, r3, cS2, h⟩ := bd_some h
    refine wp_callVi (As := [.int x1]) (st := []) (pc := 14) C (CtX11_isSet cS2) mX11_isSet iX11_isSet kX11_453 (Nat.le_of_ble_eq_true rfl) rfl (by decide) rfl rfl rfl rfl (Nat.le_of_ble_eq_true rfl) ⟨Nat.le_of_ble_eq_true rfl, Nat.le_of_ble_eq_true rfl⟩ dX11_match_14 ?_
    refine wp_if_ne (pc := 17) C 22 dX11_match_17 (by decide) (fun q => ?_) (fun q => ?_)
    · have h := it_neg q h
      refine wp_aload_n (pc := 22) C 0 dX11_match_22 rfl rfl ?_
      obtain ⟨S4, r5, cS4, h⟩ := bd_some h
      refine wp_callVi (As := []) (st := []) (pc := 23) C (CtX11_mixes cS4) mX11_mixes iX11_mixes kX11_456 (Nat.le_of_ble_eq_true rfl) rfl (by decide) rfl rfl rfl rfl (Nat.le_of_ble_eq_true rfl) ⟨Nat.le_of_ble_eq_true rfl, Nat.le_of_ble_eq_true rfl⟩ dX11_match_23 ?_
      refine wp_ldcw (pc := 26) C qX11_459 dX11_match_26 ?_
      refine wp_icmp_le (pc := 29) C 35 dX11_match_29 (by decide) (fun q => ?_) (fun q => ?_)
      · have h := it_pos q h
        refine wp_aload_n (pc := 35) C 0 dX11_match_35 rfl rfl ?_
        obtain ⟨S6, r7, cS6, h⟩ := bd_some h
        refine wp_callVv (As := []) (st := []) (pc := 36) C (CtX11_beginMixes cS6) mX11_beginMixes iX11_beginMixes kX11_460 (Nat.le_of_ble_eq_true rfl) rfl (by decide) rfl rfl rfl rfl (Nat.le_of_ble_eq_true rfl) ⟨Nat.le_of_ble_eq_true rfl, Nat.le_of_ble_eq_true rfl⟩ dX11_match_36 ?_
        refine wp_iconst (v := 1) (pc := 39) C dX11_match_39 (by decide) ?_
        refine wp_istore_n (pc := 40) C rfl [(3, .int 1), (0, .ref (gA G 0)), (1, .int x1), (2, .int x2)] dX11_match_40 rfl (Nat.le_of_ble_eq_true rfl) rfl ?_
        exact wp_sub C [1, 2, 3, 0] rfl (wX11_match_l41 C _ _ _ _ _ h)
      · have h := it_neg q h
        refine wp_bipush (v := (-2)) (pc := 32) C dX11_match_32 (by decide) ?_
        exact rt_i C rfl h dX11_match_34
    · have h := it_pos q h
      refine wp_iconst (v := (-1)) (pc := 20) C dX11_match_20 (by decide) ?_
      exact rt_i C rfl h dX11_match_21
theorem CtX11_match {n : Nat} {S S' : St} {r : Int32} {x1 : Int32} {x2 : Int32} (h : fX11_match n S x1 x2 = some (S', r)) : Ct l sdM cy ad D yX11_match cX11_match 4 (some .int) 5 115 [.ref (ad 0), .int x1, .int x2] S (some (.int r)) S' :=
  Ct_of (own := RX11) mX11_match rfl (Nat.le_of_ble_eq_true rfl) (fun G e1 e2 e3 e4 C => by subst e1 e2 e3 e4; exact wX11_match C h)
def fX11_nearest_j95 (n : Nat) (k47 : St → Int32 → Int32 → Int64 → Int32 → Option (St × Int64)) (S : St) (x1 : Int32) (x2 : Int32) (x3 : Int64) : Option (St × Int64) :=
  bd (fX11_nextMix n S) (fun S1 r2 =>
  k47 S1 x1 x2 x3 r2)
set_option maxRecDepth 100000 in
set_option maxHeartbeats 4000000 in
theorem wX11_nearest_j95 (C : Cx G sdM cX11_nearest 8 RX11 (some .long)) {n : Nat} {k47 : St → Int32 → Int32 → Int64 → Int32 → Option (St × Int64)} {S S' : St} {r : Int64} {x1 : Int32} {x2 : Int32} {x3 : Int64} (hk47 : ∀ (S : St) (x1 : Int32) (x2 : Int32) (x3 : Int64) (x5 : Int32), k47 S x1 x2 x3 x5 = some (S', r) → Wp G sdM (rmOf 5 113) 8 (Qm G sdM (some (.long r)) S') S 47 [(0, .ref (gA G 0)), (1, .int x1), (2, .int x2), (3, .long x3), (5, .int x5)] []) (h : fX11_nearest_j95 n k47 S x1 x2 x3 = some (S', r)) : Wp G sdM (rmOf 5 113) 8 (Qm G sdM (some (.long r)) S') S 95 [(0, .ref (gA G 0)), (1, .int x1), (2, .int x2), (3, .long x3)] [] := by
  unfold fX11_nearest_j95 at h
  refine wp_aload_n (pc := 95) C 0 dX11_nearest_95 rfl rfl ?_
  obtain ⟨S1, r2, cS1, h⟩ := bd_some h
  refine wp_callVi (As := []) (st := []) (pc := 96) C (CtX11_nextMix cS1) mX11_nextMix iX11_nextMix kX11_472 (Nat.le_of_ble_eq_true rfl) rfl (by decide) rfl rfl rfl rfl (Nat.le_of_ble_eq_true rfl) ⟨Nat.le_of_ble_eq_true rfl, Nat.le_of_ble_eq_true rfl⟩ dX11_nearest_96 ?_
  refine wp_istore (pc := 99) C rfl [(5, .int r2), (0, .ref (gA G 0)), (1, .int x1), (2, .int x2), (3, .long x3)] dX11_nearest_99 (Nat.le_of_ble_eq_true rfl) rfl ?_
  refine wp_goto (pc := 101) C 47 dX11_nearest_101 (by decide) ?_
  exact wp_sub C [1, 2, 3, 4, 0] rfl (hk47 _ _ _ _ _ h)
def fX11_nearest_j88 (n : Nat) (k47 : St → Int32 → Int32 → Int64 → Int32 → Option (St × Int64)) (S : St) (x1 : Int32) (x2 : Int32) (x6 : Int64) : Option (St × Int64) :=
  bd (fX11_putDown n S) (fun S1 r2 =>
  fX11_nearest_j95 n k47 S1 x1 x2 x6)
set_option maxRecDepth 100000 in
set_option maxHeartbeats 4000000 in
theorem wX11_nearest_j88 (C : Cx G sdM cX11_nearest 8 RX11 (some .long)) {n : Nat} {k47 : St → Int32 → Int32 → Int64 → Int32 → Option (St × Int64)} {S S' : St} {r : Int64} {x1 : Int32} {x2 : Int32} {x6 : Int64} (hk47 : ∀ (S : St) (x1 : Int32) (x2 : Int32) (x3 : Int64) (x5 : Int32), k47 S x1 x2 x3 x5 = some (S', r) → Wp G sdM (rmOf 5 113) 8 (Qm G sdM (some (.long r)) S') S 47 [(0, .ref (gA G 0)), (1, .int x1), (2, .int x2), (3, .long x3), (5, .int x5)] []) (h : fX11_nearest_j88 n k47 S x1 x2 x6 = some (S', r)) : Wp G sdM (rmOf 5 113) 8 (Qm G sdM (some (.long r)) S') S 88 [(0, .ref (gA G 0)), (1, .int x1), (2, .int x2), (6, .long x6)] [] := by
  unfold fX11_nearest_j88 at h
  refine wp_aload_n (pc := 88) C 0 dX11_nearest_88 rfl rfl ?_
  obtain ⟨S1, r2, cS1, h⟩ := bd_some h
  refine wp_callVv (As := []) (st := []) (pc := 89) C (CtX11_putDown cS1) mX11_putDown iX11_putDown kX11_469 (Nat.le_of_ble_eq_true rfl) rfl (by decide) rfl rfl rfl rfl (Nat.le_of_ble_eq_true rfl) ⟨Nat.le_of_ble_eq_true rfl, Nat.le_of_ble_eq_true rfl⟩ dX11_nearest_89 ?_
  refine wp_lload (pc := 92) C 3 dX11_nearest_92 rfl ?_
  refine wp_lstore_n (pc := 94) C rfl [(3, .long x6), (0, .ref (gA G 0)), (1, .int x1), (2, .int x2), (6, .long x6)] dX11_nearest_94 rfl (Nat.le_of_ble_eq_true rfl) rfl ?_
  exact wp_sub C [1, 2, 3, 0] rfl (wX11_nearest_j95 C hk47 h)
def fX11_nearest_l47 (n : Nat) : Nat → St → Int32 → Int32 → Int64 → Int32 → Option (St × Int64)
  | 0, _, _, _, _, _ => none
  | j + 1, S, x1, x2, x3, x5 =>
    if x5 = 0 then
      some (S, x3)
    else
      bd (fX11_farthest n S x1 x2) (fun S1 r2 =>
      if (S1.1 0 52) = 0 then
        fX11_nearest_j88 n (fX11_nearest_l47 n j) S1 x1 x2 r2
      else
        if (lg_cmp r2 x3) < 0 then
          fX11_nearest_j88 n (fX11_nearest_l47 n j) S1 x1 x2 r2
        else
          if (lg_cmp r2 x3) = 0 then
            bd (fX11_isCheaper n S1) (fun S3 r4 =>
            if r4 = 0 then
              fX11_nearest_j95 n (fX11_nearest_l47 n j) S3 x1 x2 x3
            else
              fX11_nearest_j88 n (fX11_nearest_l47 n j) S3 x1 x2 r2)
          else
            fX11_nearest_j95 n (fX11_nearest_l47 n j) S1 x1 x2 x3)
set_option maxRecDepth 100000 in
set_option maxHeartbeats 4000000 in
theorem wX11_nearest_l47 (C : Cx G sdM cX11_nearest 8 RX11 (some .long)) {n : Nat} {S' : St} {r : Int64} : ∀ (j : Nat) (S : St) (x1 : Int32) (x2 : Int32) (x3 : Int64) (x5 : Int32), fX11_nearest_l47 n j S x1 x2 x3 x5 = some (S', r) → Wp G sdM (rmOf 5 113) 8 (Qm G sdM (some (.long r)) S') S 47 [(0, .ref (gA G 0)), (1, .int x1), (2, .int x2), (3, .long x3), (5, .int x5)] [] := by
  intro j
  induction j with
  | zero =>
    intro S x1 x2 x3 x5 h
    exact nomatch (show (none : Option (St × Int64)) = some _ from h)
  | succ j ih =>
    intro S x1 x2 x3 x5 h
    rw [fX11_nearest_l47] at h
    refine wp_iload (pc := 47) C 4 dX11_nearest_47 rfl ?_
    refine wp_if_eq (pc := 49) C 104 dX11_nearest_49 (by decide) (fun q => ?_) (fun q => ?_)
    · have h := it_pos q h
      refine wp_lload_n (pc := 104) C 3 dX11_nearest_104 rfl rfl ?_
      exact rt_l C rfl h dX11_nearest_105
    · have h := it_neg q h
      refine wp_aload_n (pc := 52) C 0 dX11_nearest_52 rfl rfl ?_
      refine wp_iload_n (pc := 53) C 1 dX11_nearest_53 rfl rfl ?_
      refine wp_iload_n (pc := 54) C 2 dX11_nearest_54 rfl rfl ?_
      obtain ⟨S1, r2, cS1, h⟩ := bd_some h
      refine wp_callVl (As := [.int x1, .int x2]) (st := []) (pc := 55) C (CtX11_farthest cS1) mX11_farthest iX11_farthest kX11_477 (Nat.le_of_ble_eq_true rfl) rfl (by decide) rfl rfl rfl rfl (Nat.le_of_ble_eq_true rfl) ⟨Nat.le_of_ble_eq_true rfl, Nat.le_of_ble_eq_true rfl⟩ dX11_nearest_55 ?_
      refine wp_lstore (pc := 58) C rfl [(6, .long r2), (0, .ref (gA G 0)), (1, .int x1), (2, .int x2), (3, .long x3), (5, .int x5)] dX11_nearest_58 (Nat.le_of_ble_eq_true rfl) rfl ?_
      refine wp_aload_n (pc := 60) C 1 dX11_nearest_60 rfl rfl ?_
      refine wp_getI (pc := 61) C flX11_348 rfl (Nat.le_of_ble_eq_true rfl) rfl dX11_nearest_61 ?_
      refine wp_if_eq (pc := 64) C 88 dX11_nearest_64 (by decide) (fun q => ?_) (fun q => ?_)
      · have h := it_pos q h
        exact wp_sub C [1, 2, 3, 0] rfl (wX11_nearest_j88 C ih h)
      · have h := it_neg q h
        refine wp_lload (pc := 67) C 0 dX11_nearest_67 rfl ?_
        refine wp_lload_n (pc := 69) C 4 dX11_nearest_69 rfl rfl ?_
        refine wp_lcmp (pc := 70) C dX11_nearest_70 ?_
        refine wp_if_lt (pc := 71) C 88 dX11_nearest_71 (by decide) (fun q => ?_) (fun q => ?_)
        · have h := it_pos q h
          exact wp_sub C [1, 2, 3, 0] rfl (wX11_nearest_j88 C ih h)
        · have h := it_neg q h
          refine wp_lload (pc := 74) C 0 dX11_nearest_74 rfl ?_
          refine wp_lload_n (pc := 76) C 4 dX11_nearest_76 rfl rfl ?_
          refine wp_lcmp (pc := 77) C dX11_nearest_77 ?_
          refine wp_if_ne (pc := 78) C 95 dX11_nearest_78 (by decide) (fun q => ?_) (fun q => ?_)
          · have h := it_neg q h
            exact wp_sub C [1, 2, 3, 4] rfl (wX11_nearest_j95 C ih h)
          · have h := it_pos q h
            refine wp_aload_n (pc := 81) C 1 dX11_nearest_81 rfl rfl ?_
            obtain ⟨S3, r4, cS3, h⟩ := bd_some h
            refine wp_callVi (As := []) (st := []) (pc := 82) C (CtX11_isCheaper cS3) mX11_isCheaper iX11_isCheaper kX11_466 (Nat.le_of_ble_eq_true rfl) rfl (by decide) rfl rfl rfl rfl (Nat.le_of_ble_eq_true rfl) ⟨Nat.le_of_ble_eq_true rfl, Nat.le_of_ble_eq_true rfl⟩ dX11_nearest_82 ?_
            refine wp_if_eq (pc := 85) C 95 dX11_nearest_85 (by decide) (fun q => ?_) (fun q => ?_)
            · have h := it_pos q h
              exact wp_sub C [1, 2, 3, 4] rfl (wX11_nearest_j95 C ih h)
            · have h := it_neg q h
              exact wp_sub C [1, 2, 3, 0] rfl (wX11_nearest_j88 C ih h)
def fX11_nearest (n : Nat) (S : St) (x1 : Int32) (x2 : Int32) : Option (St × Int64) :=
  bn (sI S 0 52 0) (fun S1 : St =>
  if (S1.1 0 50) = 0 then
    some (S1, (-1))
  else
    bd (fX11_isSet n S1 x1) (fun S2 r3 =>
    if r3 = 0 then
      some (S2, (-1))
    else
      bd (fX11_mixes n S2) (fun S4 r5 =>
      if r5 ≤ 100000 then
        bd (fX11_beginMixes n S4) (fun S6 r7 =>
        fX11_nearest_l47 n n S6 x1 x2 0 1)
      else
        some (S4, (-2)))))
set_option maxRecDepth 100000 in
set_option maxHeartbeats 4000000 in
theorem wX11_nearest (C : Cx G sdM cX11_nearest 8 RX11 (some .long)) {n : Nat} {S S' : St} {r : Int64} {x1 : Int32} {x2 : Int32} (h : fX11_nearest n S x1 x2 = some (S', r)) : Wp G sdM (rmOf 5 113) 8 (Qm G sdM (some (.long r)) S') S 0 [(0, .ref (gA G 0)), (1, .int x1), (2, .int x2)] [] := by
  unfold fX11_nearest at h
  refine wp_aload_n (pc := 0) C 0 dX11_nearest_0 rfl rfl ?_
  refine wp_iconst (v := 0) (pc := 1) C dX11_nearest_1 (by decide) ?_
  obtain ⟨S1, eS1, h⟩ := bn_some h
  refine wp_putZ (pc := 2) C (Or.inl rfl) eS1 flX11_348 fpX11_52 rfl (Nat.le_of_ble_eq_true rfl) rfl dX11_nearest_2 ?_
  refine wp_aload_n (pc := 5) C 0 dX11_nearest_5 rfl rfl ?_
  refine wp_getI (pc := 6) C flX11_342 rfl (Nat.le_of_ble_eq_true rfl) rfl dX11_nearest_6 ?_
  refine wp_if_eq (pc := 9) C 20 dX11_nearest_9 (by decide) (fun q => ?_) (fun q => ?_)
  · have h := it_pos q h
    refine wp_ldc2 (pc := 20) C qX11_411 dX11_nearest_20 ?_
    exact rt_l C rfl h dX11_nearest_23
  · have h := it_neg q h
    refine wp_aload_n (pc := 12) C 0 dX11_nearest_12 rfl rfl ?_
    refine wp_iload_n (pc := 13) C 1 dX11_nearest_13 rfl rfl ?_
    obtain ⟨S2, r3, cS2, h⟩ := bd_some h
    refine wp_callVi (As := [.int x1]) (st := []) (pc := 14) C (CtX11_isSet cS2) mX11_isSet iX11_isSet kX11_453 (Nat.le_of_ble_eq_true rfl) rfl (by decide) rfl rfl rfl rfl (Nat.le_of_ble_eq_true rfl) ⟨Nat.le_of_ble_eq_true rfl, Nat.le_of_ble_eq_true rfl⟩ dX11_nearest_14 ?_
    refine wp_if_ne (pc := 17) C 24 dX11_nearest_17 (by decide) (fun q => ?_) (fun q => ?_)
    · have h := it_neg q h
      refine wp_aload_n (pc := 24) C 0 dX11_nearest_24 rfl rfl ?_
      obtain ⟨S4, r5, cS4, h⟩ := bd_some h
      refine wp_callVi (As := []) (st := []) (pc := 25) C (CtX11_mixes cS4) mX11_mixes iX11_mixes kX11_456 (Nat.le_of_ble_eq_true rfl) rfl (by decide) rfl rfl rfl rfl (Nat.le_of_ble_eq_true rfl) ⟨Nat.le_of_ble_eq_true rfl, Nat.le_of_ble_eq_true rfl⟩ dX11_nearest_25 ?_
      refine wp_ldcw (pc := 28) C qX11_459 dX11_nearest_28 ?_
      refine wp_icmp_le (pc := 31) C 38 dX11_nearest_31 (by decide) (fun q => ?_) (fun q => ?_)
      · have h := it_pos q h
        refine wp_aload_n (pc := 38) C 0 dX11_nearest_38 rfl rfl ?_
        obtain ⟨S6, r7, cS6, h⟩ := bd_some h
        refine wp_callVv (As := []) (st := []) (pc := 39) C (CtX11_beginMixes cS6) mX11_beginMixes iX11_beginMixes kX11_460 (Nat.le_of_ble_eq_true rfl) rfl (by decide) rfl rfl rfl rfl (Nat.le_of_ble_eq_true rfl) ⟨Nat.le_of_ble_eq_true rfl, Nat.le_of_ble_eq_true rfl⟩ dX11_nearest_39 ?_
        refine wp_lconst (v := 0) (pc := 42) C dX11_nearest_42 (by decide) ?_
        refine wp_lstore_n (pc := 43) C rfl [(3, .long 0), (0, .ref (gA G 0)), (1, .int x1), (2, .int x2)] dX11_nearest_43 rfl (Nat.le_of_ble_eq_true rfl) rfl ?_
        refine wp_iconst (v := 1) (pc := 44) C dX11_nearest_44 (by decide) ?_
        refine wp_istore (pc := 45) C rfl [(5, .int 1), (3, .long 0), (0, .ref (gA G 0)), (1, .int x1), (2, .int x2)] dX11_nearest_45 (Nat.le_of_ble_eq_true rfl) rfl ?_
        exact wp_sub C [2, 3, 4, 1, 0] rfl (wX11_nearest_l47 C _ _ _ _ _ _ h)
      · have h := it_neg q h
        refine wp_ldc2 (pc := 34) C qX11_475 dX11_nearest_34 ?_
        exact rt_l C rfl h dX11_nearest_37
    · have h := it_pos q h
      refine wp_ldc2 (pc := 20) C qX11_411 dX11_nearest_20 ?_
      exact rt_l C rfl h dX11_nearest_23
theorem CtX11_nearest {n : Nat} {S S' : St} {r : Int64} {x1 : Int32} {x2 : Int32} (h : fX11_nearest n S x1 x2 = some (S', r)) : Ct l sdM cy ad D yX11_nearest cX11_nearest 8 (some .long) 5 113 [.ref (ad 0), .int x1, .int x2] S (some (.long r)) S' :=
  Ct_of (own := RX11) mX11_nearest rfl (Nat.le_of_ble_eq_true rfl) (fun G e1 e2 e3 e4 C => by subst e1 e2 e3 e4; exact wX11_nearest C h)
def fX11_trick_j138 (n : Nat) (S : St) (x4 : Int64) : Option (St × Int64) :=
  if (S.1 0 52) = 0 then
    some (S, (-1))
  else
    some (S, x4)
set_option maxRecDepth 100000 in
set_option maxHeartbeats 4000000 in
theorem wX11_trick_j138 (C : Cx G sdM cX11_trick 9 RX11 (some .long)) {n : Nat} {S S' : St} {r : Int64} {x4 : Int64} (h : fX11_trick_j138 n S x4 = some (S', r)) : Wp G sdM (rmOf 5 113) 9 (Qm G sdM (some (.long r)) S') S 138 [(0, .ref (gA G 0)), (4, .long x4)] [] := by
  unfold fX11_trick_j138 at h
  refine wp_aload_n (pc := 138) C 0 dX11_trick_138 rfl rfl ?_
  refine wp_getI (pc := 139) C flX11_348 rfl (Nat.le_of_ble_eq_true rfl) rfl dX11_trick_139 ?_
  refine wp_if_eq (pc := 142) C 150 dX11_trick_142 (by decide) (fun q => ?_) (fun q => ?_)
  · have h := it_pos q h
    refine wp_ldc2 (pc := 150) C qX11_411 dX11_trick_150 ?_
    exact rt_l C rfl h dX11_trick_153
  · have h := it_neg q h
    refine wp_lload (pc := 145) C 1 dX11_trick_145 rfl ?_
    refine wp_goto (pc := 147) C 153 dX11_trick_147 (by decide) ?_
    exact rt_l C rfl h dX11_trick_153
def fX11_trick_j129 (n : Nat) (k56 : St → Int32 → Int32 → Int32 → Int64 → Int32 → Option (St × Int64)) (S : St) (x1 : Int32) (x2 : Int32) (x3 : Int32) (x4 : Int64) : Option (St × Int64) :=
  bd (fX11_nextMix n S) (fun S1 r2 =>
  k56 S1 x1 x2 x3 x4 r2)
set_option maxRecDepth 100000 in
set_option maxHeartbeats 4000000 in
theorem wX11_trick_j129 (C : Cx G sdM cX11_trick 9 RX11 (some .long)) {n : Nat} {k56 : St → Int32 → Int32 → Int32 → Int64 → Int32 → Option (St × Int64)} {S S' : St} {r : Int64} {x1 : Int32} {x2 : Int32} {x3 : Int32} {x4 : Int64} (hk56 : ∀ (S : St) (x1 : Int32) (x2 : Int32) (x3 : Int32) (x4 : Int64) (x6 : Int32), k56 S x1 x2 x3 x4 x6 = some (S', r) → Wp G sdM (rmOf 5 113) 9 (Qm G sdM (some (.long r)) S') S 56 [(0, .ref (gA G 0)), (1, .int x1), (2, .int x2), (3, .int x3), (4, .long x4), (6, .int x6)] []) (h : fX11_trick_j129 n k56 S x1 x2 x3 x4 = some (S', r)) : Wp G sdM (rmOf 5 113) 9 (Qm G sdM (some (.long r)) S') S 129 [(0, .ref (gA G 0)), (1, .int x1), (2, .int x2), (3, .int x3), (4, .long x4)] [] := by
  unfold fX11_trick_j129 at h
  refine wp_aload_n (pc := 129) C 0 dX11_trick_129 rfl rfl ?_
  obtain ⟨S1, r2, cS1, h⟩ := bd_some h
  refine wp_callVi (As := []) (st := []) (pc := 130) C (CtX11_nextMix cS1) mX11_nextMix iX11_nextMix kX11_472 (Nat.le_of_ble_eq_true rfl) rfl (by decide) rfl rfl rfl rfl (Nat.le_of_ble_eq_true rfl) ⟨Nat.le_of_ble_eq_true rfl, Nat.le_of_ble_eq_true rfl⟩ dX11_trick_130 ?_
  refine wp_istore (pc := 133) C rfl [(6, .int r2), (0, .ref (gA G 0)), (1, .int x1), (2, .int x2), (3, .int x3), (4, .long x4)] dX11_trick_133 (Nat.le_of_ble_eq_true rfl) rfl ?_
  refine wp_goto (pc := 135) C 56 dX11_trick_135 (by decide) ?_
  exact wp_sub C [1, 2, 3, 4, 5, 0] rfl (hk56 _ _ _ _ _ _ h)
def fX11_trick_j121 (n : Nat) (k56 : St → Int32 → Int32 → Int32 → Int64 → Int32 → Option (St × Int64)) (S : St) (x1 : Int32) (x2 : Int32) (x3 : Int32) (x7 : Int64) : Option (St × Int64) :=
  bd (fX11_putDown n S) (fun S1 r2 =>
  fX11_trick_j129 n k56 S1 x1 x2 x3 x7)
set_option maxRecDepth 100000 in
set_option maxHeartbeats 4000000 in
theorem wX11_trick_j121 (C : Cx G sdM cX11_trick 9 RX11 (some .long)) {n : Nat} {k56 : St → Int32 → Int32 → Int32 → Int64 → Int32 → Option (St × Int64)} {S S' : St} {r : Int64} {x1 : Int32} {x2 : Int32} {x3 : Int32} {x7 : Int64} (hk56 : ∀ (S : St) (x1 : Int32) (x2 : Int32) (x3 : Int32) (x4 : Int64) (x6 : Int32), k56 S x1 x2 x3 x4 x6 = some (S', r) → Wp G sdM (rmOf 5 113) 9 (Qm G sdM (some (.long r)) S') S 56 [(0, .ref (gA G 0)), (1, .int x1), (2, .int x2), (3, .int x3), (4, .long x4), (6, .int x6)] []) (h : fX11_trick_j121 n k56 S x1 x2 x3 x7 = some (S', r)) : Wp G sdM (rmOf 5 113) 9 (Qm G sdM (some (.long r)) S') S 121 [(0, .ref (gA G 0)), (1, .int x1), (2, .int x2), (3, .int x3), (7, .long x7)] [] := by
  unfold fX11_trick_j121 at h
  refine wp_aload_n (pc := 121) C 0 dX11_trick_121 rfl rfl ?_
  obtain ⟨S1, r2, cS1, h⟩ := bd_some h
  refine wp_callVv (As := []) (st := []) (pc := 122) C (CtX11_putDown cS1) mX11_putDown iX11_putDown kX11_469 (Nat.le_of_ble_eq_true rfl) rfl (by decide) rfl rfl rfl rfl (Nat.le_of_ble_eq_true rfl) ⟨Nat.le_of_ble_eq_true rfl, Nat.le_of_ble_eq_true rfl⟩ dX11_trick_122 ?_
  refine wp_lload (pc := 125) C 4 dX11_trick_125 rfl ?_
  refine wp_lstore (pc := 127) C rfl [(4, .long x7), (0, .ref (gA G 0)), (1, .int x1), (2, .int x2), (3, .int x3), (7, .long x7)] dX11_trick_127 (Nat.le_of_ble_eq_true rfl) rfl ?_
  exact wp_sub C [1, 2, 3, 4, 0] rfl (wX11_trick_j129 C hk56 h)
def fX11_trick_j82 (n : Nat) (k56 : St → Int32 → Int32 → Int32 → Int64 → Int32 → Option (St × Int64)) (S : St) (x1 : Int32) (x2 : Int32) (x3 : Int32) (x4 : Int64) (y0 : Int64) : Option (St × Int64) :=
  if (lg_cmp y0 0) < 0 then
    fX11_trick_j129 n k56 S x1 x2 x3 x4
  else
    if (S.1 0 52) = 0 then
      fX11_trick_j121 n k56 S x1 x2 x3 y0
    else
      if 0 < (lg_cmp y0 x4) then
        fX11_trick_j121 n k56 S x1 x2 x3 y0
      else
        if (lg_cmp y0 x4) = 0 then
          bd (fX11_isCheaper n S) (fun S1 r2 =>
          if r2 = 0 then
            fX11_trick_j129 n k56 S1 x1 x2 x3 x4
          else
            fX11_trick_j121 n k56 S1 x1 x2 x3 y0)
        else
          fX11_trick_j129 n k56 S x1 x2 x3 x4
set_option maxRecDepth 100000 in
set_option maxHeartbeats 4000000 in
theorem wX11_trick_j82 (C : Cx G sdM cX11_trick 9 RX11 (some .long)) {n : Nat} {k56 : St → Int32 → Int32 → Int32 → Int64 → Int32 → Option (St × Int64)} {S S' : St} {r : Int64} {x1 : Int32} {x2 : Int32} {x3 : Int32} {x4 : Int64} {y0 : Int64} (hk56 : ∀ (S : St) (x1 : Int32) (x2 : Int32) (x3 : Int32) (x4 : Int64) (x6 : Int32), k56 S x1 x2 x3 x4 x6 = some (S', r) → Wp G sdM (rmOf 5 113) 9 (Qm G sdM (some (.long r)) S') S 56 [(0, .ref (gA G 0)), (1, .int x1), (2, .int x2), (3, .int x3), (4, .long x4), (6, .int x6)] []) (h : fX11_trick_j82 n k56 S x1 x2 x3 x4 y0 = some (S', r)) : Wp G sdM (rmOf 5 113) 9 (Qm G sdM (some (.long r)) S') S 82 [(0, .ref (gA G 0)), (1, .int x1), (2, .int x2), (3, .int x3), (4, .long x4)] [.long y0] := by
  unfold fX11_trick_j82 at h
  refine wp_lstore (pc := 82) C rfl [(7, .long y0), (0, .ref (gA G 0)), (1, .int x1), (2, .int x2), (3, .int x3), (4, .long x4)] dX11_trick_82 (Nat.le_of_ble_eq_true rfl) rfl ?_
  refine wp_lload (pc := 84) C 0 dX11_trick_84 rfl ?_
  refine wp_lconst (v := 0) (pc := 86) C dX11_trick_86 (by decide) ?_
  refine wp_lcmp (pc := 87) C dX11_trick_87 ?_
  refine wp_if_lt (pc := 88) C 129 dX11_trick_88 (by decide) (fun q => ?_) (fun q => ?_)
  · have h := it_pos q h
    exact wp_sub C [1, 2, 3, 4, 5] rfl (wX11_trick_j129 C hk56 h)
  · have h := it_neg q h
    refine wp_aload_n (pc := 91) C 1 dX11_trick_91 rfl rfl ?_
    refine wp_getI (pc := 92) C flX11_348 rfl (Nat.le_of_ble_eq_true rfl) rfl dX11_trick_92 ?_
    refine wp_if_eq (pc := 95) C 121 dX11_trick_95 (by decide) (fun q => ?_) (fun q => ?_)
    · have h := it_pos q h
      exact wp_sub C [1, 2, 3, 4, 0] rfl (wX11_trick_j121 C hk56 h)
    · have h := it_neg q h
      refine wp_lload (pc := 98) C 0 dX11_trick_98 rfl ?_
      refine wp_lload (pc := 100) C 5 dX11_trick_100 rfl ?_
      refine wp_lcmp (pc := 102) C dX11_trick_102 ?_
      refine wp_if_gt (pc := 103) C 121 dX11_trick_103 (by decide) (fun q => ?_) (fun q => ?_)
      · have h := it_pos q h
        exact wp_sub C [1, 2, 3, 4, 0] rfl (wX11_trick_j121 C hk56 h)
      · have h := it_neg q h
        refine wp_lload (pc := 106) C 0 dX11_trick_106 rfl ?_
        refine wp_lload (pc := 108) C 5 dX11_trick_108 rfl ?_
        refine wp_lcmp (pc := 110) C dX11_trick_110 ?_
        refine wp_if_ne (pc := 111) C 129 dX11_trick_111 (by decide) (fun q => ?_) (fun q => ?_)
        · have h := it_neg q h
          exact wp_sub C [1, 2, 3, 4, 5] rfl (wX11_trick_j129 C hk56 h)
        · have h := it_pos q h
          refine wp_aload_n (pc := 114) C 1 dX11_trick_114 rfl rfl ?_
          obtain ⟨S1, r2, cS1, h⟩ := bd_some h
          refine wp_callVi (As := []) (st := []) (pc := 115) C (CtX11_isCheaper cS1) mX11_isCheaper iX11_isCheaper kX11_466 (Nat.le_of_ble_eq_true rfl) rfl (by decide) rfl rfl rfl rfl (Nat.le_of_ble_eq_true rfl) ⟨Nat.le_of_ble_eq_true rfl, Nat.le_of_ble_eq_true rfl⟩ dX11_trick_115 ?_
          refine wp_if_eq (pc := 118) C 129 dX11_trick_118 (by decide) (fun q => ?_) (fun q => ?_)
          · have h := it_pos q h
            exact wp_sub C [1, 2, 3, 4, 5] rfl (wX11_trick_j129 C hk56 h)
          · have h := it_neg q h
            exact wp_sub C [1, 2, 3, 4, 0] rfl (wX11_trick_j121 C hk56 h)
def fX11_trick_l56 (n : Nat) : Nat → St → Int32 → Int32 → Int32 → Int64 → Int32 → Option (St × Int64)
  | 0, _, _, _, _, _, _ => none
  | j + 1, S, x1, x2, x3, x4, x6 =>
    if x6 = 0 then
      fX11_trick_j138 n S x4
    else
      bd (fX11_isAlike n S x1 x3) (fun S1 r2 =>
      if r2 = 0 then
        fX11_trick_j82 n (fX11_trick_l56 n j) S1 x1 x2 x3 x4 (-1)
      else
        bd (fX11_apartBy n S1 x2 x3) (fun S3 r4 =>
        fX11_trick_j82 n (fX11_trick_l56 n j) S3 x1 x2 x3 x4 r4))
set_option maxRecDepth 100000 in
set_option maxHeartbeats 4000000 in
theorem wX11_trick_l56 (C : Cx G sdM cX11_trick 9 RX11 (some .long)) {n : Nat} {S' : St} {r : Int64} : ∀ (j : Nat) (S : St) (x1 : Int32) (x2 : Int32) (x3 : Int32) (x4 : Int64) (x6 : Int32), fX11_trick_l56 n j S x1 x2 x3 x4 x6 = some (S', r) → Wp G sdM (rmOf 5 113) 9 (Qm G sdM (some (.long r)) S') S 56 [(0, .ref (gA G 0)), (1, .int x1), (2, .int x2), (3, .int x3), (4, .long x4), (6, .int x6)] [] := by
  intro j
  induction j with
  | zero =>
    intro S x1 x2 x3 x4 x6 h
    exact nomatch (show (none : Option (St × Int64)) = some _ from h)
  | succ j ih =>
    intro S x1 x2 x3 x4 x6 h
    rw [fX11_trick_l56] at h
    refine wp_iload (pc := 56) C 5 dX11_trick_56 rfl ?_
    refine wp_if_eq (pc := 58) C 138 dX11_trick_58 (by decide) (fun q => ?_) (fun q => ?_)
    · have h := it_pos q h
      exact wp_sub C [0, 4] rfl (wX11_trick_j138 C h)
    · have h := it_neg q h
      refine wp_aload_n (pc := 61) C 0 dX11_trick_61 rfl rfl ?_
      refine wp_iload_n (pc := 62) C 1 dX11_trick_62 rfl rfl ?_
      refine wp_iload_n (pc := 63) C 3 dX11_trick_63 rfl rfl ?_
      obtain ⟨S1, r2, cS1, h⟩ := bd_some h
      refine wp_callVi (As := [.int x1, .int x3]) (st := []) (pc := 64) C (CtX11_isAlike cS1) mX11_isAlike iX11_isAlike kX11_417 (Nat.le_of_ble_eq_true rfl) rfl (by decide) rfl rfl rfl rfl (Nat.le_of_ble_eq_true rfl) ⟨Nat.le_of_ble_eq_true rfl, Nat.le_of_ble_eq_true rfl⟩ dX11_trick_64 ?_
      refine wp_if_eq (pc := 67) C 79 dX11_trick_67 (by decide) (fun q => ?_) (fun q => ?_)
      · have h := it_pos q h
        refine wp_ldc2 (pc := 79) C qX11_411 dX11_trick_79 ?_
        exact wp_sub C [0, 1, 2, 3, 4] rfl (wX11_trick_j82 C ih h)
      · have h := it_neg q h
        refine wp_aload_n (pc := 70) C 0 dX11_trick_70 rfl rfl ?_
        refine wp_iload_n (pc := 71) C 2 dX11_trick_71 rfl rfl ?_
        refine wp_iload_n (pc := 72) C 3 dX11_trick_72 rfl rfl ?_
        obtain ⟨S3, r4, cS3, h⟩ := bd_some h
        refine wp_callVl (As := [.int x2, .int x3]) (st := []) (pc := 73) C (CtX11_apartBy cS3) mX11_apartBy iX11_apartBy kX11_392 (Nat.le_of_ble_eq_true rfl) rfl (by decide) rfl rfl rfl rfl (Nat.le_of_ble_eq_true rfl) ⟨Nat.le_of_ble_eq_true rfl, Nat.le_of_ble_eq_true rfl⟩ dX11_trick_73 ?_
        refine wp_goto (pc := 76) C 82 dX11_trick_76 (by decide) ?_
        exact wp_sub C [0, 1, 2, 3, 4] rfl (wX11_trick_j82 C ih h)
def fX11_trick (n : Nat) (S : St) (x1 : Int32) (x2 : Int32) (x3 : Int32) : Option (St × Int64) :=
  bn (sI S 0 52 0) (fun S1 : St =>
  if (S1.1 0 50) = 0 then
    some (S1, (-1))
  else
    bd (fX11_isLamp n S1 x1) (fun S2 r3 =>
    if r3 = 0 then
      some (S2, (-1))
    else
      bd (fX11_isLamp n S2 x2) (fun S4 r5 =>
      if r5 = 0 then
        some (S4, (-1))
      else
        bd (fX11_mixes n S4) (fun S6 r7 =>
        if r7 ≤ 100000 then
          bd (fX11_beginMixes n S6) (fun S8 r9 =>
          fX11_trick_l56 n n S8 x1 x2 x3 0 1)
        else
          some (S6, (-2))))))
set_option maxRecDepth 100000 in
set_option maxHeartbeats 4000000 in
theorem wX11_trick (C : Cx G sdM cX11_trick 9 RX11 (some .long)) {n : Nat} {S S' : St} {r : Int64} {x1 : Int32} {x2 : Int32} {x3 : Int32} (h : fX11_trick n S x1 x2 x3 = some (S', r)) : Wp G sdM (rmOf 5 113) 9 (Qm G sdM (some (.long r)) S') S 0 [(0, .ref (gA G 0)), (1, .int x1), (2, .int x2), (3, .int x3)] [] := by
  unfold fX11_trick at h
  refine wp_aload_n (pc := 0) C 0 dX11_trick_0 rfl rfl ?_
  refine wp_iconst (v := 0) (pc := 1) C dX11_trick_1 (by decide) ?_
  obtain ⟨S1, eS1, h⟩ := bn_some h
  refine wp_putZ (pc := 2) C (Or.inl rfl) eS1 flX11_348 fpX11_52 rfl (Nat.le_of_ble_eq_true rfl) rfl dX11_trick_2 ?_
  refine wp_aload_n (pc := 5) C 0 dX11_trick_5 rfl rfl ?_
  refine wp_getI (pc := 6) C flX11_342 rfl (Nat.le_of_ble_eq_true rfl) rfl dX11_trick_6 ?_
  refine wp_if_eq (pc := 9) C 28 dX11_trick_9 (by decide) (fun q => ?_) (fun q => ?_)
  · have h := it_pos q h
    refine wp_ldc2 (pc := 28) C qX11_411 dX11_trick_28 ?_
    exact rt_l C rfl h dX11_trick_31
  · have h := it_neg q h
    refine wp_aload_n (pc := 12) C 0 dX11_trick_12 rfl rfl ?_
    refine wp_iload_n (pc := 13) C 1 dX11_trick_13 rfl rfl ?_
    obtain ⟨S2, r3, cS2, h⟩ := bd_some h
    refine wp_callVi (As := [.int x1]) (st := []) (pc := 14) C (CtX11_isLamp cS2) mX11_isLamp iX11_isLamp kX11_405 (Nat.le_of_ble_eq_true rfl) rfl (by decide) rfl rfl rfl rfl (Nat.le_of_ble_eq_true rfl) ⟨Nat.le_of_ble_eq_true rfl, Nat.le_of_ble_eq_true rfl⟩ dX11_trick_14 ?_
    refine wp_if_eq (pc := 17) C 28 dX11_trick_17 (by decide) (fun q => ?_) (fun q => ?_)
    · have h := it_pos q h
      refine wp_ldc2 (pc := 28) C qX11_411 dX11_trick_28 ?_
      exact rt_l C rfl h dX11_trick_31
    · have h := it_neg q h
      refine wp_aload_n (pc := 20) C 0 dX11_trick_20 rfl rfl ?_
      refine wp_iload_n (pc := 21) C 2 dX11_trick_21 rfl rfl ?_
      obtain ⟨S4, r5, cS4, h⟩ := bd_some h
      refine wp_callVi (As := [.int x2]) (st := []) (pc := 22) C (CtX11_isLamp cS4) mX11_isLamp iX11_isLamp kX11_405 (Nat.le_of_ble_eq_true rfl) rfl (by decide) rfl rfl rfl rfl (Nat.le_of_ble_eq_true rfl) ⟨Nat.le_of_ble_eq_true rfl, Nat.le_of_ble_eq_true rfl⟩ dX11_trick_22 ?_
      refine wp_if_ne (pc := 25) C 32 dX11_trick_25 (by decide) (fun q => ?_) (fun q => ?_)
      · have h := it_neg q h
        refine wp_aload_n (pc := 32) C 0 dX11_trick_32 rfl rfl ?_
        obtain ⟨S6, r7, cS6, h⟩ := bd_some h
        refine wp_callVi (As := []) (st := []) (pc := 33) C (CtX11_mixes cS6) mX11_mixes iX11_mixes kX11_456 (Nat.le_of_ble_eq_true rfl) rfl (by decide) rfl rfl rfl rfl (Nat.le_of_ble_eq_true rfl) ⟨Nat.le_of_ble_eq_true rfl, Nat.le_of_ble_eq_true rfl⟩ dX11_trick_33 ?_
        refine wp_ldcw (pc := 36) C qX11_459 dX11_trick_36 ?_
        refine wp_icmp_le (pc := 39) C 46 dX11_trick_39 (by decide) (fun q => ?_) (fun q => ?_)
        · have h := it_pos q h
          refine wp_aload_n (pc := 46) C 0 dX11_trick_46 rfl rfl ?_
          obtain ⟨S8, r9, cS8, h⟩ := bd_some h
          refine wp_callVv (As := []) (st := []) (pc := 47) C (CtX11_beginMixes cS8) mX11_beginMixes iX11_beginMixes kX11_460 (Nat.le_of_ble_eq_true rfl) rfl (by decide) rfl rfl rfl rfl (Nat.le_of_ble_eq_true rfl) ⟨Nat.le_of_ble_eq_true rfl, Nat.le_of_ble_eq_true rfl⟩ dX11_trick_47 ?_
          refine wp_lconst (v := 0) (pc := 50) C dX11_trick_50 (by decide) ?_
          refine wp_lstore (pc := 51) C rfl [(4, .long 0), (0, .ref (gA G 0)), (1, .int x1), (2, .int x2), (3, .int x3)] dX11_trick_51 (Nat.le_of_ble_eq_true rfl) rfl ?_
          refine wp_iconst (v := 1) (pc := 53) C dX11_trick_53 (by decide) ?_
          refine wp_istore (pc := 54) C rfl [(6, .int 1), (4, .long 0), (0, .ref (gA G 0)), (1, .int x1), (2, .int x2), (3, .int x3)] dX11_trick_54 (Nat.le_of_ble_eq_true rfl) rfl ?_
          exact wp_sub C [2, 3, 4, 5, 1, 0] rfl (wX11_trick_l56 C _ _ _ _ _ _ _ h)
        · have h := it_neg q h
          refine wp_ldc2 (pc := 42) C qX11_475 dX11_trick_42 ?_
          exact rt_l C rfl h dX11_trick_45
      · have h := it_pos q h
        refine wp_ldc2 (pc := 28) C qX11_411 dX11_trick_28 ?_
        exact rt_l C rfl h dX11_trick_31
theorem CtX11_trick {n : Nat} {S S' : St} {r : Int64} {x1 : Int32} {x2 : Int32} {x3 : Int32} (h : fX11_trick n S x1 x2 x3 = some (S', r)) : Ct l sdM cy ad D yX11_trick cX11_trick 9 (some .long) 5 113 [.ref (ad 0), .int x1, .int x2, .int x3] S (some (.long r)) S' :=
  Ct_of (own := RX11) mX11_trick rfl (Nat.le_of_ble_eq_true rfl) (fun G e1 e2 e3 e4 C => by subst e1 e2 e3 e4; exact wX11_trick C h)
def fX11_isBetter_j97 (n : Nat) (k6 : St → Int32 → Int32 → Int32 → Int32 → Int32 → Option (St × Int32)) (S : St) (x1 : Int32) (x2 : Int32) (x3 : Int32) (x4 : Int32) (x5 : Int32) : Option (St × Int32) :=
  bn (x5 + 1) (fun z1 : Int32 =>
  k6 S x1 x2 x3 x4 z1)
set_option maxRecDepth 100000 in
set_option maxHeartbeats 4000000 in
theorem wX11_isBetter_j97 (C : Cx G sdM cX11_isBetter 6 RX11 (some .boolean)) {n : Nat} {k6 : St → Int32 → Int32 → Int32 → Int32 → Int32 → Option (St × Int32)} {S S' : St} {r : Int32} {x1 : Int32} {x2 : Int32} {x3 : Int32} {x4 : Int32} {x5 : Int32} (hk6 : ∀ (S : St) (x1 : Int32) (x2 : Int32) (x3 : Int32) (x4 : Int32) (x5 : Int32), k6 S x1 x2 x3 x4 x5 = some (S', r) → Wp G sdM (rmOf 1 20) 6 (Qm G sdM (some (.int r)) S') S 6 [(0, .ref (gA G 0)), (1, .int x1), (2, .int x2), (3, .int x3), (4, .int x4), (5, .int x5)] []) (h : fX11_isBetter_j97 n k6 S x1 x2 x3 x4 x5 = some (S', r)) : Wp G sdM (rmOf 1 20) 6 (Qm G sdM (some (.int r)) S') S 97 [(0, .ref (gA G 0)), (1, .int x1), (2, .int x2), (3, .int x3), (4, .int x4), (5, .int x5)] [] := by
  unfold fX11_isBetter_j97 at h
  obtain ⟨z1, ez1, h⟩ := bn_some h
  refine wp_iinc (q := 5) (pc := 97) C (by decide) ez1 [(5, .int z1), (0, .ref (gA G 0)), (1, .int x1), (2, .int x2), (3, .int x3), (4, .int x4)] dX11_isBetter_97 rfl (Nat.le_of_ble_eq_true rfl) rfl ?_
  refine wp_goto (pc := 100) C 6 dX11_isBetter_100 (by decide) ?_
  exact wp_sub C [1, 2, 3, 4, 5, 0] rfl (hk6 _ _ _ _ _ _ h)
def fX11_isBetter_j95 (n : Nat) (k6 : St → Int32 → Int32 → Int32 → Int32 → Int32 → Option (St × Int32)) (S : St) (x1 : Int32) (x2 : Int32) (x3 : Int32) (x5 : Int32) (y0 : Int32) : Option (St × Int32) :=
  fX11_isBetter_j97 n k6 S x1 x2 x3 y0 x5
set_option maxRecDepth 100000 in
set_option maxHeartbeats 4000000 in
theorem wX11_isBetter_j95 (C : Cx G sdM cX11_isBetter 6 RX11 (some .boolean)) {n : Nat} {k6 : St → Int32 → Int32 → Int32 → Int32 → Int32 → Option (St × Int32)} {S S' : St} {r : Int32} {x1 : Int32} {x2 : Int32} {x3 : Int32} {x5 : Int32} {y0 : Int32} (hk6 : ∀ (S : St) (x1 : Int32) (x2 : Int32) (x3 : Int32) (x4 : Int32) (x5 : Int32), k6 S x1 x2 x3 x4 x5 = some (S', r) → Wp G sdM (rmOf 1 20) 6 (Qm G sdM (some (.int r)) S') S 6 [(0, .ref (gA G 0)), (1, .int x1), (2, .int x2), (3, .int x3), (4, .int x4), (5, .int x5)] []) (h : fX11_isBetter_j95 n k6 S x1 x2 x3 x5 y0 = some (S', r)) : Wp G sdM (rmOf 1 20) 6 (Qm G sdM (some (.int r)) S') S 95 [(0, .ref (gA G 0)), (1, .int x1), (2, .int x2), (3, .int x3), (5, .int x5)] [.int y0] := by
  unfold fX11_isBetter_j95 at h
  refine wp_istore (pc := 95) C rfl [(4, .int y0), (0, .ref (gA G 0)), (1, .int x1), (2, .int x2), (3, .int x3), (5, .int x5)] dX11_isBetter_95 (Nat.le_of_ble_eq_true rfl) rfl ?_
  exact wp_sub C [1, 2, 3, 4, 0, 5] rfl (wX11_isBetter_j97 C hk6 h)
def fX11_isBetter_j90 (n : Nat) (k6 : St → Int32 → Int32 → Int32 → Int32 → Int32 → Option (St × Int32)) (S : St) (x1 : Int32) (x2 : Int32) (x3 : Int32) (x5 : Int32) : Option (St × Int32) :=
  fX11_isBetter_j95 n k6 S x1 x2 x3 x5 1
set_option maxRecDepth 100000 in
set_option maxHeartbeats 4000000 in
theorem wX11_isBetter_j90 (C : Cx G sdM cX11_isBetter 6 RX11 (some .boolean)) {n : Nat} {k6 : St → Int32 → Int32 → Int32 → Int32 → Int32 → Option (St × Int32)} {S S' : St} {r : Int32} {x1 : Int32} {x2 : Int32} {x3 : Int32} {x5 : Int32} (hk6 : ∀ (S : St) (x1 : Int32) (x2 : Int32) (x3 : Int32) (x4 : Int32) (x5 : Int32), k6 S x1 x2 x3 x4 x5 = some (S', r) → Wp G sdM (rmOf 1 20) 6 (Qm G sdM (some (.int r)) S') S 6 [(0, .ref (gA G 0)), (1, .int x1), (2, .int x2), (3, .int x3), (4, .int x4), (5, .int x5)] []) (h : fX11_isBetter_j90 n k6 S x1 x2 x3 x5 = some (S', r)) : Wp G sdM (rmOf 1 20) 6 (Qm G sdM (some (.int r)) S') S 90 [(0, .ref (gA G 0)), (1, .int x1), (2, .int x2), (3, .int x3), (5, .int x5)] [] := by
  unfold fX11_isBetter_j90 at h
  refine wp_iconst (v := 1) (pc := 90) C dX11_isBetter_90 (by decide) ?_
  refine wp_goto (pc := 91) C 95 dX11_isBetter_91 (by decide) ?_
  exact (wX11_isBetter_j95 C hk6 h)
def fX11_isBetter_l6 (n : Nat) : Nat → St → Int32 → Int32 → Int32 → Int32 → Int32 → Option (St × Int32)
  | 0, _, _, _, _, _, _ => none
  | j + 1, S, x1, x2, x3, x4, x5 =>
    bd (fX11_lamps n S) (fun S1 r2 =>
    if r2 ≤ x5 then
      gd (x4 = 0 ∨ x4 = 1) (
      some (S1, x4))
    else
      if ((x3 >>> (x5 &&& 31)) &&& 1) = 0 then
        fX11_isBetter_j97 n (fX11_isBetter_l6 n j) S1 x1 x2 x3 x4 x5
      else
        gd (ib ((6 * x1) + x5) 30000) (
        gd (ib ((6 * x2) + x5) 30000) (
        if (lg_cmp (S1.2.1 25 (Int32.toNatClampNeg ((6 * x1) + x5))) (S1.2.1 25 (Int32.toNatClampNeg ((6 * x2) + x5)))) ≤ 0 then
          if x4 = 0 then
            gd (ib ((6 * x1) + x5) 30000) (
            gd (ib ((6 * x2) + x5) 30000) (
            if 0 ≤ (lg_cmp (S1.2.1 25 (Int32.toNatClampNeg ((6 * x1) + x5))) (S1.2.1 25 (Int32.toNatClampNeg ((6 * x2) + x5)))) then
              fX11_isBetter_j95 n (fX11_isBetter_l6 n j) S1 x1 x2 x3 x5 0
            else
              fX11_isBetter_j90 n (fX11_isBetter_l6 n j) S1 x1 x2 x3 x5))
          else
            fX11_isBetter_j90 n (fX11_isBetter_l6 n j) S1 x1 x2 x3 x5
        else
          some (S1, 0))))
set_option maxRecDepth 100000 in
set_option maxHeartbeats 4000000 in
theorem wX11_isBetter_l6 (C : Cx G sdM cX11_isBetter 6 RX11 (some .boolean)) {n : Nat} {S' : St} {r : Int32} : ∀ (j : Nat) (S : St) (x1 : Int32) (x2 : Int32) (x3 : Int32) (x4 : Int32) (x5 : Int32), fX11_isBetter_l6 n j S x1 x2 x3 x4 x5 = some (S', r) → Wp G sdM (rmOf 1 20) 6 (Qm G sdM (some (.int r)) S') S 6 [(0, .ref (gA G 0)), (1, .int x1), (2, .int x2), (3, .int x3), (4, .int x4), (5, .int x5)] [] := by
  intro j
  induction j with
  | zero =>
    intro S x1 x2 x3 x4 x5 h
    exact nomatch (show (none : Option (St × Int32)) = some _ from h)
  | succ j ih =>
    intro S x1 x2 x3 x4 x5 h
    rw [fX11_isBetter_l6] at h
    refine wp_iload (pc := 6) C 5 dX11_isBetter_6 rfl ?_
    refine wp_aload_n (pc := 8) C 0 dX11_isBetter_8 rfl rfl ?_
    obtain ⟨S1, r2, cS1, h⟩ := bd_some h
    refine wp_callVi (As := []) (st := [.int x5]) (pc := 9) C (CtX11_lamps cS1) mX11_lamps iX11_lamps kX11_365 (Nat.le_of_ble_eq_true rfl) rfl (by decide) rfl rfl rfl rfl (Nat.le_of_ble_eq_true rfl) ⟨Nat.le_of_ble_eq_true rfl, Nat.le_of_ble_eq_true rfl⟩ dX11_isBetter_9 ?_
    refine wp_icmp_ge (pc := 12) C 103 dX11_isBetter_12 (by decide) (fun q => ?_) (fun q => ?_)
    · have h := it_pos q h
      refine wp_iload (pc := 103) C 4 dX11_isBetter_103 rfl ?_
      obtain ⟨g3, h⟩ := gd_some h
      exact rt_z C g3 rfl h dX11_isBetter_105
    · have h := it_neg q h
      refine wp_iload_n (pc := 15) C 3 dX11_isBetter_15 rfl rfl ?_
      refine wp_iload (pc := 16) C 5 dX11_isBetter_16 rfl ?_
      refine wp_ishr (pc := 18) C dX11_isBetter_18 ?_
      refine wp_iconst (v := 1) (pc := 19) C dX11_isBetter_19 (by decide) ?_
      refine wp_iand (pc := 20) C dX11_isBetter_20 ?_
      refine wp_if_ne (pc := 21) C 27 dX11_isBetter_21 (by decide) (fun q => ?_) (fun q => ?_)
      · have h := it_neg q h
        refine wp_aload_n (pc := 27) C 0 dX11_isBetter_27 rfl rfl ?_
        refine wp_getS (v := 25) (pc := 28) C flX11_87 rfl rfl (Nat.le_of_ble_eq_true rfl) (Nat.le_of_ble_eq_true rfl) rfl dX11_isBetter_28 ?_
        refine wp_bipush (v := 6) (pc := 31) C dX11_isBetter_31 (by decide) ?_
        refine wp_iload_n (pc := 33) C 1 dX11_isBetter_33 rfl rfl ?_
        refine wp_imul (pc := 34) C dX11_isBetter_34 ?_
        refine wp_iload (pc := 35) C 5 dX11_isBetter_35 rfl ?_
        refine wp_iadd (pc := 37) C dX11_isBetter_37 ?_
        obtain ⟨g4, h⟩ := gd_some h
        refine wp_lald (pc := 38) C (Nat.le_of_ble_eq_true rfl) rfl g4 dX11_isBetter_38 ?_
        refine wp_aload_n (pc := 39) C 0 dX11_isBetter_39 rfl rfl ?_
        refine wp_getS (v := 25) (pc := 40) C flX11_87 rfl rfl (Nat.le_of_ble_eq_true rfl) (Nat.le_of_ble_eq_true rfl) rfl dX11_isBetter_40 ?_
        refine wp_bipush (v := 6) (pc := 43) C dX11_isBetter_43 (by decide) ?_
        refine wp_iload_n (pc := 45) C 2 dX11_isBetter_45 rfl rfl ?_
        refine wp_imul (pc := 46) C dX11_isBetter_46 ?_
        refine wp_iload (pc := 47) C 5 dX11_isBetter_47 rfl ?_
        refine wp_iadd (pc := 49) C dX11_isBetter_49 ?_
        obtain ⟨g5, h⟩ := gd_some h
        refine wp_lald (pc := 50) C (Nat.le_of_ble_eq_true rfl) rfl g5 dX11_isBetter_50 ?_
        refine wp_lcmp (pc := 51) C dX11_isBetter_51 ?_
        refine wp_if_le (pc := 52) C 57 dX11_isBetter_52 (by decide) (fun q => ?_) (fun q => ?_)
        · have h := it_pos q h
          refine wp_iload (pc := 57) C 4 dX11_isBetter_57 rfl ?_
          refine wp_if_ne (pc := 59) C 90 dX11_isBetter_59 (by decide) (fun q => ?_) (fun q => ?_)
          · have h := it_neg q h
            exact wp_sub C [0, 1, 2, 3, 5] rfl (wX11_isBetter_j90 C ih h)
          · have h := it_pos q h
            refine wp_aload_n (pc := 62) C 0 dX11_isBetter_62 rfl rfl ?_
            refine wp_getS (v := 25) (pc := 63) C flX11_87 rfl rfl (Nat.le_of_ble_eq_true rfl) (Nat.le_of_ble_eq_true rfl) rfl dX11_isBetter_63 ?_
            refine wp_bipush (v := 6) (pc := 66) C dX11_isBetter_66 (by decide) ?_
            refine wp_iload_n (pc := 68) C 1 dX11_isBetter_68 rfl rfl ?_
            refine wp_imul (pc := 69) C dX11_isBetter_69 ?_
            refine wp_iload (pc := 70) C 5 dX11_isBetter_70 rfl ?_
            refine wp_iadd (pc := 72) C dX11_isBetter_72 ?_
            obtain ⟨g6, h⟩ := gd_some h
            refine wp_lald (pc := 73) C (Nat.le_of_ble_eq_true rfl) rfl g6 dX11_isBetter_73 ?_
            refine wp_aload_n (pc := 74) C 0 dX11_isBetter_74 rfl rfl ?_
            refine wp_getS (v := 25) (pc := 75) C flX11_87 rfl rfl (Nat.le_of_ble_eq_true rfl) (Nat.le_of_ble_eq_true rfl) rfl dX11_isBetter_75 ?_
            refine wp_bipush (v := 6) (pc := 78) C dX11_isBetter_78 (by decide) ?_
            refine wp_iload_n (pc := 80) C 2 dX11_isBetter_80 rfl rfl ?_
            refine wp_imul (pc := 81) C dX11_isBetter_81 ?_
            refine wp_iload (pc := 82) C 5 dX11_isBetter_82 rfl ?_
            refine wp_iadd (pc := 84) C dX11_isBetter_84 ?_
            obtain ⟨g7, h⟩ := gd_some h
            refine wp_lald (pc := 85) C (Nat.le_of_ble_eq_true rfl) rfl g7 dX11_isBetter_85 ?_
            refine wp_lcmp (pc := 86) C dX11_isBetter_86 ?_
            refine wp_if_ge (pc := 87) C 94 dX11_isBetter_87 (by decide) (fun q => ?_) (fun q => ?_)
            · have h := it_pos q h
              refine wp_iconst (v := 0) (pc := 94) C dX11_isBetter_94 (by decide) ?_
              exact wp_sub C [0, 1, 2, 3, 5] rfl (wX11_isBetter_j95 C ih h)
            · have h := it_neg q h
              exact wp_sub C [0, 1, 2, 3, 5] rfl (wX11_isBetter_j90 C ih h)
        · have h := it_neg q h
          refine wp_iconst (v := 0) (pc := 55) C dX11_isBetter_55 (by decide) ?_
          exact rt_z C (Or.inl rfl) rfl h dX11_isBetter_56
      · have h := it_pos q h
        refine wp_goto (pc := 24) C 97 dX11_isBetter_24 (by decide) ?_
        exact (wX11_isBetter_j97 C ih h)
def fX11_isBetter (n : Nat) (S : St) (x1 : Int32) (x2 : Int32) (x3 : Int32) : Option (St × Int32) :=
  fX11_isBetter_l6 n n S x1 x2 x3 0 0
set_option maxRecDepth 100000 in
set_option maxHeartbeats 4000000 in
theorem wX11_isBetter (C : Cx G sdM cX11_isBetter 6 RX11 (some .boolean)) {n : Nat} {S S' : St} {r : Int32} {x1 : Int32} {x2 : Int32} {x3 : Int32} (h : fX11_isBetter n S x1 x2 x3 = some (S', r)) : Wp G sdM (rmOf 1 20) 6 (Qm G sdM (some (.int r)) S') S 0 [(0, .ref (gA G 0)), (1, .int x1), (2, .int x2), (3, .int x3)] [] := by
  unfold fX11_isBetter at h
  refine wp_iconst (v := 0) (pc := 0) C dX11_isBetter_0 (by decide) ?_
  refine wp_istore (pc := 1) C rfl [(4, .int 0), (0, .ref (gA G 0)), (1, .int x1), (2, .int x2), (3, .int x3)] dX11_isBetter_1 (Nat.le_of_ble_eq_true rfl) rfl ?_
  refine wp_iconst (v := 0) (pc := 3) C dX11_isBetter_3 (by decide) ?_
  refine wp_istore (pc := 4) C rfl [(5, .int 0), (4, .int 0), (0, .ref (gA G 0)), (1, .int x1), (2, .int x2), (3, .int x3)] dX11_isBetter_4 (Nat.le_of_ble_eq_true rfl) rfl ?_
  exact wp_sub C [2, 3, 4, 5, 1, 0] rfl (wX11_isBetter_l6 C _ _ _ _ _ _ _ h)
theorem CtX11_isBetter {n : Nat} {S S' : St} {r : Int32} {x1 : Int32} {x2 : Int32} {x3 : Int32} (h : fX11_isBetter n S x1 x2 x3 = some (S', r)) : Ct l sdM cy ad D yX11_isBetter cX11_isBetter 6 (some .boolean) 1 20 [.ref (ad 0), .int x1, .int x2, .int x3] S (some (.int r)) S' :=
  Ct_of (own := RX11) mX11_isBetter rfl (Nat.le_of_ble_eq_true rfl) (fun G e1 e2 e3 e4 C => by subst e1 e2 e3 e4; exact wX11_isBetter C h)
def fX11_isBest_l2 (n : Nat) : Nat → St → Int32 → Int32 → Int32 → Option (St × Int32)
  | 0, _, _, _, _ => none
  | j + 1, S, x1, x2, x3 =>
    if (S.1 0 59) ≤ x3 then
      some (S, 1)
    else
      bd (fX11_isBetter n S x3 x1 x2) (fun S1 r2 =>
      if r2 = 0 then
        bn (x3 + 1) (fun z3 : Int32 =>
        fX11_isBest_l2 n j S1 x1 x2 z3)
      else
        some (S1, 0))
set_option maxRecDepth 100000 in
set_option maxHeartbeats 4000000 in
theorem wX11_isBest_l2 (C : Cx G sdM cX11_isBest 4 RX11 (some .boolean)) {n : Nat} {S' : St} {r : Int32} : ∀ (j : Nat) (S : St) (x1 : Int32) (x2 : Int32) (x3 : Int32), fX11_isBest_l2 n j S x1 x2 x3 = some (S', r) → Wp G sdM (rmOf 2 45) 4 (Qm G sdM (some (.int r)) S') S 2 [(0, .ref (gA G 0)), (1, .int x1), (2, .int x2), (3, .int x3)] [] := by
  intro j
  induction j with
  | zero =>
    intro S x1 x2 x3 h
    exact nomatch (show (none : Option (St × Int32)) = some _ from h)
  | succ j ih =>
    intro S x1 x2 x3 h
    rw [fX11_isBest_l2] at h
    refine wp_iload_n (pc := 2) C 3 dX11_isBest_2 rfl rfl ?_
    refine wp_aload_n (pc := 3) C 0 dX11_isBest_3 rfl rfl ?_
    refine wp_getI (pc := 4) C flX11_480 rfl (Nat.le_of_ble_eq_true rfl) rfl dX11_isBest_4 ?_
    refine wp_icmp_ge (pc := 7) C 28 dX11_isBest_7 (by decide) (fun q => ?_) (fun q => ?_)
    · have h := it_pos q h
      refine wp_iconst (v := 1) (pc := 28) C dX11_isBest_28 (by decide) ?_
      exact rt_z C (Or.inr rfl) rfl h dX11_isBest_29
    · have h := it_neg q h
      refine wp_aload_n (pc := 10) C 0 dX11_isBest_10 rfl rfl ?_
      refine wp_iload_n (pc := 11) C 3 dX11_isBest_11 rfl rfl ?_
      refine wp_iload_n (pc := 12) C 1 dX11_isBest_12 rfl rfl ?_
      refine wp_iload_n (pc := 13) C 2 dX11_isBest_13 rfl rfl ?_
      obtain ⟨S1, r2, cS1, h⟩ := bd_some h
      refine wp_callVi (As := [.int x3, .int x1, .int x2]) (st := []) (pc := 14) C (CtX11_isBetter cS1) mX11_isBetter iX11_isBetter kX11_483 (Nat.le_of_ble_eq_true rfl) rfl (by decide) rfl rfl rfl rfl (Nat.le_of_ble_eq_true rfl) ⟨Nat.le_of_ble_eq_true rfl, Nat.le_of_ble_eq_true rfl⟩ dX11_isBest_14 ?_
      refine wp_if_eq (pc := 17) C 22 dX11_isBest_17 (by decide) (fun q => ?_) (fun q => ?_)
      · have h := it_pos q h
        obtain ⟨z3, ez3, h⟩ := bn_some h
        refine wp_iinc (q := 3) (pc := 22) C (by decide) ez3 [(3, .int z3), (0, .ref (gA G 0)), (1, .int x1), (2, .int x2)] dX11_isBest_22 rfl (Nat.le_of_ble_eq_true rfl) rfl ?_
        refine wp_goto (pc := 25) C 2 dX11_isBest_25 (by decide) ?_
        exact wp_sub C [1, 2, 3, 0] rfl (ih _ _ _ _ h)
      · have h := it_neg q h
        refine wp_iconst (v := 0) (pc := 20) C dX11_isBest_20 (by decide) ?_
        exact rt_z C (Or.inl rfl) rfl h dX11_isBest_21
def fX11_isBest (n : Nat) (S : St) (x1 : Int32) (x2 : Int32) : Option (St × Int32) :=
  fX11_isBest_l2 n n S x1 x2 0
set_option maxRecDepth 100000 in
set_option maxHeartbeats 4000000 in
theorem wX11_isBest (C : Cx G sdM cX11_isBest 4 RX11 (some .boolean)) {n : Nat} {S S' : St} {r : Int32} {x1 : Int32} {x2 : Int32} (h : fX11_isBest n S x1 x2 = some (S', r)) : Wp G sdM (rmOf 2 45) 4 (Qm G sdM (some (.int r)) S') S 0 [(0, .ref (gA G 0)), (1, .int x1), (2, .int x2)] [] := by
  unfold fX11_isBest at h
  refine wp_iconst (v := 0) (pc := 0) C dX11_isBest_0 (by decide) ?_
  refine wp_istore_n (pc := 1) C rfl [(3, .int 0), (0, .ref (gA G 0)), (1, .int x1), (2, .int x2)] dX11_isBest_1 rfl (Nat.le_of_ble_eq_true rfl) rfl ?_
  exact wp_sub C [1, 2, 3, 0] rfl (wX11_isBest_l2 C _ _ _ _ _ h)
theorem CtX11_isBest {n : Nat} {S S' : St} {r : Int32} {x1 : Int32} {x2 : Int32} (h : fX11_isBest n S x1 x2 = some (S', r)) : Ct l sdM cy ad D yX11_isBest cX11_isBest 4 (some .boolean) 2 45 [.ref (ad 0), .int x1, .int x2] S (some (.int r)) S' :=
  Ct_of (own := RX11) mX11_isBest rfl (Nat.le_of_ble_eq_true rfl) (fun G e1 e2 e3 e4 C => by subst e1 e2 e3 e4; exact wX11_isBest C h)
def fX11_layRows_j88 (n : Nat) (k11 : St → Int32 → Int32 → Option (St × Unit)) (S : St) (x1 : Int32) : Option (St × Unit) :=
  bn (sI S 0 59 ((S.1 0 59) + 1)) (fun S1 : St =>
  bd (fX11_nextMix n S1) (fun S2 r3 =>
  k11 S2 x1 r3))
set_option maxRecDepth 100000 in
set_option maxHeartbeats 4000000 in
theorem wX11_layRows_j88 (C : Cx G sdM cX11_layRows 4 RX11 none) {n : Nat} {k11 : St → Int32 → Int32 → Option (St × Unit)} {S S' : St} {r : Unit} {x1 : Int32} (hk11 : ∀ (S : St) (x1 : Int32) (x2 : Int32), k11 S x1 x2 = some (S', r) → Wp G sdM (rmOf 5 113) 4 (Qm G sdM none S') S 11 [(0, .ref (gA G 0)), (1, .int x1), (2, .int x2)] []) (h : fX11_layRows_j88 n k11 S x1 = some (S', r)) : Wp G sdM (rmOf 5 113) 4 (Qm G sdM none S') S 88 [(0, .ref (gA G 0)), (1, .int x1)] [] := by
  unfold fX11_layRows_j88 at h
  refine wp_aload_n (pc := 88) C 0 dX11_layRows_88 rfl rfl ?_
  refine wp_dup (pc := 89) C dX11_layRows_89 rfl ?_
  refine wp_getI (pc := 90) C flX11_480 rfl (Nat.le_of_ble_eq_true rfl) rfl dX11_layRows_90 ?_
  refine wp_iconst (v := 1) (pc := 93) C dX11_layRows_93 (by decide) ?_
  refine wp_iadd (pc := 94) C dX11_layRows_94 ?_
  obtain ⟨S1, eS1, h⟩ := bn_some h
  refine wp_putI (pc := 95) C eS1 flX11_480 fpX11_59 rfl (Nat.le_of_ble_eq_true rfl) rfl dX11_layRows_95 ?_
  refine wp_aload_n (pc := 98) C 0 dX11_layRows_98 rfl rfl ?_
  obtain ⟨S2, r3, cS2, h⟩ := bd_some h
  refine wp_callVi (As := []) (st := []) (pc := 99) C (CtX11_nextMix cS2) mX11_nextMix iX11_nextMix kX11_472 (Nat.le_of_ble_eq_true rfl) rfl (by decide) rfl rfl rfl rfl (Nat.le_of_ble_eq_true rfl) ⟨Nat.le_of_ble_eq_true rfl, Nat.le_of_ble_eq_true rfl⟩ dX11_layRows_99 ?_
  refine wp_istore_n (pc := 102) C rfl [(2, .int r3), (0, .ref (gA G 0)), (1, .int x1)] dX11_layRows_102 rfl (Nat.le_of_ble_eq_true rfl) rfl ?_
  refine wp_goto (pc := 103) C 11 dX11_layRows_103 (by decide) ?_
  exact wp_sub C [1, 2, 0] rfl (hk11 _ _ _ h)
def fX11_layRows_l54 (n : Nat) (k11 : St → Int32 → Int32 → Option (St × Unit)) : Nat → St → Int32 → Int32 → Option (St × Unit)
  | 0, _, _, _ => none
  | j + 1, S, x1, x3 =>
    bd (fX11_lamps n S) (fun S1 r2 =>
    if r2 ≤ x3 then
      fX11_layRows_j88 n k11 S1 x1
    else
      bd (fX11_apartBy n S1 x3 x1) (fun S3 r4 =>
      gd (ib ((6 * (S1.1 0 59)) + x3) 30000) (
      bn (sL S3 25 (Int32.toNatClampNeg ((6 * (S1.1 0 59)) + x3)) r4) (fun S6 : St =>
      bn (x3 + 1) (fun z7 : Int32 =>
      fX11_layRows_l54 n k11 j S6 x1 z7)))))
set_option maxRecDepth 100000 in
set_option maxHeartbeats 4000000 in
theorem wX11_layRows_l54 (C : Cx G sdM cX11_layRows 4 RX11 none) {n : Nat} {k11 : St → Int32 → Int32 → Option (St × Unit)} {S' : St} {r : Unit} (hk11 : ∀ (S : St) (x1 : Int32) (x2 : Int32), k11 S x1 x2 = some (S', r) → Wp G sdM (rmOf 5 113) 4 (Qm G sdM none S') S 11 [(0, .ref (gA G 0)), (1, .int x1), (2, .int x2)] []) : ∀ (j : Nat) (S : St) (x1 : Int32) (x3 : Int32), fX11_layRows_l54 n k11 j S x1 x3 = some (S', r) → Wp G sdM (rmOf 5 113) 4 (Qm G sdM none S') S 54 [(0, .ref (gA G 0)), (1, .int x1), (3, .int x3)] [] := by
  intro j
  induction j with
  | zero =>
    intro S x1 x3 h
    exact nomatch (show (none : Option (St × Unit)) = some _ from h)
  | succ j ih =>
    intro S x1 x3 h
    rw [fX11_layRows_l54] at h
    refine wp_iload_n (pc := 54) C 2 dX11_layRows_54 rfl rfl ?_
    refine wp_aload_n (pc := 55) C 0 dX11_layRows_55 rfl rfl ?_
    obtain ⟨S1, r2, cS1, h⟩ := bd_some h
    refine wp_callVi (As := []) (st := [.int x3]) (pc := 56) C (CtX11_lamps cS1) mX11_lamps iX11_lamps kX11_365 (Nat.le_of_ble_eq_true rfl) rfl (by decide) rfl rfl rfl rfl (Nat.le_of_ble_eq_true rfl) ⟨Nat.le_of_ble_eq_true rfl, Nat.le_of_ble_eq_true rfl⟩ dX11_layRows_56 ?_
    refine wp_icmp_ge (pc := 59) C 88 dX11_layRows_59 (by decide) (fun q => ?_) (fun q => ?_)
    · have h := it_pos q h
      exact wp_sub C [0, 1] rfl (wX11_layRows_j88 C hk11 h)
    · have h := it_neg q h
      refine wp_aload_n (pc := 62) C 0 dX11_layRows_62 rfl rfl ?_
      refine wp_getS (v := 25) (pc := 63) C flX11_87 rfl rfl (Nat.le_of_ble_eq_true rfl) (Nat.le_of_ble_eq_true rfl) rfl dX11_layRows_63 ?_
      refine wp_bipush (v := 6) (pc := 66) C dX11_layRows_66 (by decide) ?_
      refine wp_aload_n (pc := 68) C 0 dX11_layRows_68 rfl rfl ?_
      refine wp_getI (pc := 69) C flX11_480 rfl (Nat.le_of_ble_eq_true rfl) rfl dX11_layRows_69 ?_
      refine wp_imul (pc := 72) C dX11_layRows_72 ?_
      refine wp_iload_n (pc := 73) C 2 dX11_layRows_73 rfl rfl ?_
      refine wp_iadd (pc := 74) C dX11_layRows_74 ?_
      refine wp_aload_n (pc := 75) C 0 dX11_layRows_75 rfl rfl ?_
      refine wp_iload_n (pc := 76) C 2 dX11_layRows_76 rfl rfl ?_
      refine wp_iload_n (pc := 77) C 1 dX11_layRows_77 rfl rfl ?_
      obtain ⟨S3, r4, cS3, h⟩ := bd_some h
      refine wp_callVl (As := [.int x3, .int x1]) (st := [.int ((6 * (S1.1 0 59)) + x3), .ref (gA G 25)]) (pc := 78) C (CtX11_apartBy cS3) mX11_apartBy iX11_apartBy kX11_392 (Nat.le_of_ble_eq_true rfl) rfl (by decide) rfl rfl rfl rfl (Nat.le_of_ble_eq_true rfl) ⟨Nat.le_of_ble_eq_true rfl, Nat.le_of_ble_eq_true rfl⟩ dX11_layRows_78 ?_
      obtain ⟨g5, h⟩ := gd_some h
      obtain ⟨S6, eS6, h⟩ := bn_some h
      refine wp_last (pc := 81) C eS6 (Nat.le_of_ble_eq_true rfl) rfl g5 dX11_layRows_81 ?_
      obtain ⟨z7, ez7, h⟩ := bn_some h
      refine wp_iinc (q := 2) (pc := 82) C (by decide) ez7 [(3, .int z7), (0, .ref (gA G 0)), (1, .int x1)] dX11_layRows_82 rfl (Nat.le_of_ble_eq_true rfl) rfl ?_
      refine wp_goto (pc := 85) C 54 dX11_layRows_85 (by decide) ?_
      exact wp_sub C [1, 2, 0] rfl (ih _ _ _ h)
def fX11_layRows_j52 (n : Nat) (k11 : St → Int32 → Int32 → Option (St × Unit)) (S : St) (x1 : Int32) : Option (St × Unit) :=
  fX11_layRows_l54 n k11 n S x1 0
set_option maxRecDepth 100000 in
set_option maxHeartbeats 4000000 in
theorem wX11_layRows_j52 (C : Cx G sdM cX11_layRows 4 RX11 none) {n : Nat} {k11 : St → Int32 → Int32 → Option (St × Unit)} {S S' : St} {r : Unit} {x1 : Int32} (hk11 : ∀ (S : St) (x1 : Int32) (x2 : Int32), k11 S x1 x2 = some (S', r) → Wp G sdM (rmOf 5 113) 4 (Qm G sdM none S') S 11 [(0, .ref (gA G 0)), (1, .int x1), (2, .int x2)] []) (h : fX11_layRows_j52 n k11 S x1 = some (S', r)) : Wp G sdM (rmOf 5 113) 4 (Qm G sdM none S') S 52 [(0, .ref (gA G 0)), (1, .int x1)] [] := by
  unfold fX11_layRows_j52 at h
  refine wp_iconst (v := 0) (pc := 52) C dX11_layRows_52 (by decide) ?_
  refine wp_istore_n (pc := 53) C rfl [(3, .int 0), (0, .ref (gA G 0)), (1, .int x1)] dX11_layRows_53 rfl (Nat.le_of_ble_eq_true rfl) rfl ?_
  exact wp_sub C [1, 2, 0] rfl (wX11_layRows_l54 C hk11 _ _ _ _ h)
def fX11_layRows_l17 (n : Nat) (k11 : St → Int32 → Int32 → Option (St × Unit)) : Nat → St → Int32 → Int32 → Option (St × Unit)
  | 0, _, _, _ => none
  | j + 1, S, x1, x3 =>
    if 8 ≤ x3 then
      fX11_layRows_j52 n k11 S x1
    else
      gd (ib (8 + x3) 16) (
      gd (ib ((8 * (S.1 0 59)) + x3) 40000) (
      bn (sI S 26 (Int32.toNatClampNeg ((8 * (S.1 0 59)) + x3)) (S.1 21 (Int32.toNatClampNeg (8 + x3)))) (fun S3 : St =>
      bn (x3 + 1) (fun z4 : Int32 =>
      fX11_layRows_l17 n k11 j S3 x1 z4))))
set_option maxRecDepth 100000 in
set_option maxHeartbeats 4000000 in
theorem wX11_layRows_l17 (C : Cx G sdM cX11_layRows 4 RX11 none) {n : Nat} {k11 : St → Int32 → Int32 → Option (St × Unit)} {S' : St} {r : Unit} (hk11 : ∀ (S : St) (x1 : Int32) (x2 : Int32), k11 S x1 x2 = some (S', r) → Wp G sdM (rmOf 5 113) 4 (Qm G sdM none S') S 11 [(0, .ref (gA G 0)), (1, .int x1), (2, .int x2)] []) : ∀ (j : Nat) (S : St) (x1 : Int32) (x3 : Int32), fX11_layRows_l17 n k11 j S x1 x3 = some (S', r) → Wp G sdM (rmOf 5 113) 4 (Qm G sdM none S') S 17 [(0, .ref (gA G 0)), (1, .int x1), (3, .int x3)] [] := by
  intro j
  induction j with
  | zero =>
    intro S x1 x3 h
    exact nomatch (show (none : Option (St × Unit)) = some _ from h)
  | succ j ih =>
    intro S x1 x3 h
    rw [fX11_layRows_l17] at h
    refine wp_iload_n (pc := 17) C 2 dX11_layRows_17 rfl rfl ?_
    refine wp_bipush (v := 8) (pc := 18) C dX11_layRows_18 (by decide) ?_
    refine wp_icmp_ge (pc := 20) C 52 dX11_layRows_20 (by decide) (fun q => ?_) (fun q => ?_)
    · have h := it_pos q h
      exact wp_sub C [0, 1] rfl (wX11_layRows_j52 C hk11 h)
    · have h := it_neg q h
      refine wp_aload_n (pc := 23) C 0 dX11_layRows_23 rfl rfl ?_
      refine wp_getS (v := 26) (pc := 24) C flX11_91 rfl rfl (Nat.le_of_ble_eq_true rfl) (Nat.le_of_ble_eq_true rfl) rfl dX11_layRows_24 ?_
      refine wp_bipush (v := 8) (pc := 27) C dX11_layRows_27 (by decide) ?_
      refine wp_aload_n (pc := 29) C 0 dX11_layRows_29 rfl rfl ?_
      refine wp_getI (pc := 30) C flX11_480 rfl (Nat.le_of_ble_eq_true rfl) rfl dX11_layRows_30 ?_
      refine wp_imul (pc := 33) C dX11_layRows_33 ?_
      refine wp_iload_n (pc := 34) C 2 dX11_layRows_34 rfl rfl ?_
      refine wp_iadd (pc := 35) C dX11_layRows_35 ?_
      refine wp_aload_n (pc := 36) C 0 dX11_layRows_36 rfl rfl ?_
      refine wp_getS (v := 21) (pc := 37) C flX11_75 rfl rfl (Nat.le_of_ble_eq_true rfl) (Nat.le_of_ble_eq_true rfl) rfl dX11_layRows_37 ?_
      refine wp_bipush (v := 8) (pc := 40) C dX11_layRows_40 (by decide) ?_
      refine wp_iload_n (pc := 42) C 2 dX11_layRows_42 rfl rfl ?_
      refine wp_iadd (pc := 43) C dX11_layRows_43 ?_
      obtain ⟨g1, h⟩ := gd_some h
      refine wp_iald (pc := 44) C (Nat.le_of_ble_eq_true rfl) rfl g1 dX11_layRows_44 ?_
      obtain ⟨g2, h⟩ := gd_some h
      obtain ⟨S3, eS3, h⟩ := bn_some h
      refine wp_iast (pc := 45) C eS3 (Nat.le_of_ble_eq_true rfl) rfl g2 dX11_layRows_45 ?_
      obtain ⟨z4, ez4, h⟩ := bn_some h
      refine wp_iinc (q := 2) (pc := 46) C (by decide) ez4 [(3, .int z4), (0, .ref (gA G 0)), (1, .int x1)] dX11_layRows_46 rfl (Nat.le_of_ble_eq_true rfl) rfl ?_
      refine wp_goto (pc := 49) C 17 dX11_layRows_49 (by decide) ?_
      exact wp_sub C [1, 2, 0] rfl (ih _ _ _ h)
def fX11_layRows_l11 (n : Nat) : Nat → St → Int32 → Int32 → Option (St × Unit)
  | 0, _, _, _ => none
  | j + 1, S, x1, x2 =>
    if x2 = 0 then
      some (S, ())
    else
      fX11_layRows_l17 n (fX11_layRows_l11 n j) n S x1 0
set_option maxRecDepth 100000 in
set_option maxHeartbeats 4000000 in
theorem wX11_layRows_l11 (C : Cx G sdM cX11_layRows 4 RX11 none) {n : Nat} {S' : St} {r : Unit} : ∀ (j : Nat) (S : St) (x1 : Int32) (x2 : Int32), fX11_layRows_l11 n j S x1 x2 = some (S', r) → Wp G sdM (rmOf 5 113) 4 (Qm G sdM none S') S 11 [(0, .ref (gA G 0)), (1, .int x1), (2, .int x2)] [] := by
  intro j
  induction j with
  | zero =>
    intro S x1 x2 h
    exact nomatch (show (none : Option (St × Unit)) = some _ from h)
  | succ j ih =>
    intro S x1 x2 h
    rw [fX11_layRows_l11] at h
    refine wp_iload_n (pc := 11) C 2 dX11_layRows_11 rfl rfl ?_
    refine wp_if_eq (pc := 12) C 106 dX11_layRows_12 (by decide) (fun q => ?_) (fun q => ?_)
    · have h := it_pos q h
      exact rt_v C rfl h dX11_layRows_106
    · have h := it_neg q h
      refine wp_iconst (v := 0) (pc := 15) C dX11_layRows_15 (by decide) ?_
      refine wp_istore_n (pc := 16) C rfl [(3, .int 0), (0, .ref (gA G 0)), (1, .int x1), (2, .int x2)] dX11_layRows_16 rfl (Nat.le_of_ble_eq_true rfl) rfl ?_
      exact wp_sub C [1, 2, 0] rfl (wX11_layRows_l17 C ih _ _ _ _ h)
def fX11_layRows (n : Nat) (S : St) (x1 : Int32) : Option (St × Unit) :=
  bd (fX11_beginMixes n S) (fun S1 r2 =>
  bn (sI S1 0 59 0) (fun S3 : St =>
  fX11_layRows_l11 n n S3 x1 1))
set_option maxRecDepth 100000 in
set_option maxHeartbeats 4000000 in
theorem wX11_layRows (C : Cx G sdM cX11_layRows 4 RX11 none) {n : Nat} {S S' : St} {r : Unit} {x1 : Int32} (h : fX11_layRows n S x1 = some (S', r)) : Wp G sdM (rmOf 5 113) 4 (Qm G sdM none S') S 0 [(0, .ref (gA G 0)), (1, .int x1)] [] := by
  unfold fX11_layRows at h
  refine wp_aload_n (pc := 0) C 0 dX11_layRows_0 rfl rfl ?_
  obtain ⟨S1, r2, cS1, h⟩ := bd_some h
  refine wp_callVv (As := []) (st := []) (pc := 1) C (CtX11_beginMixes cS1) mX11_beginMixes iX11_beginMixes kX11_460 (Nat.le_of_ble_eq_true rfl) rfl (by decide) rfl rfl rfl rfl (Nat.le_of_ble_eq_true rfl) ⟨Nat.le_of_ble_eq_true rfl, Nat.le_of_ble_eq_true rfl⟩ dX11_layRows_1 ?_
  refine wp_aload_n (pc := 4) C 0 dX11_layRows_4 rfl rfl ?_
  refine wp_iconst (v := 0) (pc := 5) C dX11_layRows_5 (by decide) ?_
  obtain ⟨S3, eS3, h⟩ := bn_some h
  refine wp_putI (pc := 6) C eS3 flX11_480 fpX11_59 rfl (Nat.le_of_ble_eq_true rfl) rfl dX11_layRows_6 ?_
  refine wp_iconst (v := 1) (pc := 9) C dX11_layRows_9 (by decide) ?_
  refine wp_istore_n (pc := 10) C rfl [(2, .int 1), (0, .ref (gA G 0)), (1, .int x1)] dX11_layRows_10 rfl (Nat.le_of_ble_eq_true rfl) rfl ?_
  exact wp_sub C [1, 2, 0] rfl (wX11_layRows_l11 C _ _ _ _ h)
theorem CtX11_layRows {n : Nat} {S S' : St} {r : Unit} {x1 : Int32} (h : fX11_layRows n S x1 = some (S', r)) : Ct l sdM cy ad D yX11_layRows cX11_layRows 4 none 5 113 [.ref (ad 0), .int x1] S none S' :=
  Ct_of (own := RX11) mX11_layRows rfl (Nat.le_of_ble_eq_true rfl) (fun G e1 e2 e3 e4 C => by subst e1 e2 e3 e4; exact wX11_layRows C h)
def fX11_pick_j55 (n : Nat) (S : St) : Option (St × Int32) :=
  bd (fX11_putDown n S) (fun S1 r2 =>
  some (S1, S1.1 0 53))
set_option maxRecDepth 100000 in
set_option maxHeartbeats 4000000 in
theorem wX11_pick_j55 (C : Cx G sdM cX11_pick 3 RX11 (some .int)) {n : Nat} {S S' : St} {r : Int32} (h : fX11_pick_j55 n S = some (S', r)) : Wp G sdM (rmOf 3 64) 3 (Qm G sdM (some (.int r)) S') S 55 [(0, .ref (gA G 0))] [] := by
  unfold fX11_pick_j55 at h
  refine wp_aload_n (pc := 55) C 0 dX11_pick_55 rfl rfl ?_
  obtain ⟨S1, r2, cS1, h⟩ := bd_some h
  refine wp_callVv (As := []) (st := []) (pc := 56) C (CtX11_putDown cS1) mX11_putDown iX11_putDown kX11_469 (Nat.le_of_ble_eq_true rfl) rfl (by decide) rfl rfl rfl rfl (Nat.le_of_ble_eq_true rfl) ⟨Nat.le_of_ble_eq_true rfl, Nat.le_of_ble_eq_true rfl⟩ dX11_pick_56 ?_
  refine wp_aload_n (pc := 59) C 0 dX11_pick_59 rfl rfl ?_
  refine wp_getI (pc := 60) C flX11_447 rfl (Nat.le_of_ble_eq_true rfl) rfl dX11_pick_60 ?_
  exact rt_i C rfl h dX11_pick_63
def fX11_pick_l18 (n : Nat) : Nat → St → Int32 → Int32 → Option (St × Int32)
  | 0, _, _, _ => none
  | j + 1, S, x1, x2 =>
    if 8 ≤ x2 then
      fX11_pick_j55 n S
    else
      gd (ib x1 5000) (
      gd (ib ((8 * (S.1 27 (Int32.toNatClampNeg x1))) + x2) 40000) (
      gd (ib (8 + x2) 16) (
      bn (sI S 21 (Int32.toNatClampNeg (8 + x2)) (S.1 26 (Int32.toNatClampNeg ((8 * (S.1 27 (Int32.toNatClampNeg x1))) + x2)))) (fun S4 : St =>
      bn (x2 + 1) (fun z5 : Int32 =>
      fX11_pick_l18 n j S4 x1 z5)))))
set_option maxRecDepth 100000 in
set_option maxHeartbeats 4000000 in
theorem wX11_pick_l18 (C : Cx G sdM cX11_pick 3 RX11 (some .int)) {n : Nat} {S' : St} {r : Int32} : ∀ (j : Nat) (S : St) (x1 : Int32) (x2 : Int32), fX11_pick_l18 n j S x1 x2 = some (S', r) → Wp G sdM (rmOf 3 64) 3 (Qm G sdM (some (.int r)) S') S 18 [(0, .ref (gA G 0)), (1, .int x1), (2, .int x2)] [] := by
  intro j
  induction j with
  | zero =>
    intro S x1 x2 h
    exact nomatch (show (none : Option (St × Int32)) = some _ from h)
  | succ j ih =>
    intro S x1 x2 h
    rw [fX11_pick_l18] at h
    refine wp_iload_n (pc := 18) C 2 dX11_pick_18 rfl rfl ?_
    refine wp_bipush (v := 8) (pc := 19) C dX11_pick_19 (by decide) ?_
    refine wp_icmp_ge (pc := 21) C 55 dX11_pick_21 (by decide) (fun q => ?_) (fun q => ?_)
    · have h := it_pos q h
      exact wp_sub C [0] rfl (wX11_pick_j55 C h)
    · have h := it_neg q h
      refine wp_aload_n (pc := 24) C 0 dX11_pick_24 rfl rfl ?_
      refine wp_getS (v := 21) (pc := 25) C flX11_75 rfl rfl (Nat.le_of_ble_eq_true rfl) (Nat.le_of_ble_eq_true rfl) rfl dX11_pick_25 ?_
      refine wp_bipush (v := 8) (pc := 28) C dX11_pick_28 (by decide) ?_
      refine wp_iload_n (pc := 30) C 2 dX11_pick_30 rfl rfl ?_
      refine wp_iadd (pc := 31) C dX11_pick_31 ?_
      refine wp_aload_n (pc := 32) C 0 dX11_pick_32 rfl rfl ?_
      refine wp_getS (v := 26) (pc := 33) C flX11_91 rfl rfl (Nat.le_of_ble_eq_true rfl) (Nat.le_of_ble_eq_true rfl) rfl dX11_pick_33 ?_
      refine wp_bipush (v := 8) (pc := 36) C dX11_pick_36 (by decide) ?_
      refine wp_aload_n (pc := 38) C 0 dX11_pick_38 rfl rfl ?_
      refine wp_getS (v := 27) (pc := 39) C flX11_94 rfl rfl (Nat.le_of_ble_eq_true rfl) (Nat.le_of_ble_eq_true rfl) rfl dX11_pick_39 ?_
      refine wp_iload_n (pc := 42) C 1 dX11_pick_42 rfl rfl ?_
      obtain ⟨g1, h⟩ := gd_some h
      refine wp_iald (pc := 43) C (Nat.le_of_ble_eq_true rfl) rfl g1 dX11_pick_43 ?_
      refine wp_imul (pc := 44) C dX11_pick_44 ?_
      refine wp_iload_n (pc := 45) C 2 dX11_pick_45 rfl rfl ?_
      refine wp_iadd (pc := 46) C dX11_pick_46 ?_
      obtain ⟨g2, h⟩ := gd_some h
      refine wp_iald (pc := 47) C (Nat.le_of_ble_eq_true rfl) rfl g2 dX11_pick_47 ?_
      obtain ⟨g3, h⟩ := gd_some h
      obtain ⟨S4, eS4, h⟩ := bn_some h
      refine wp_iast (pc := 48) C eS4 (Nat.le_of_ble_eq_true rfl) rfl g3 dX11_pick_48 ?_
      obtain ⟨z5, ez5, h⟩ := bn_some h
      refine wp_iinc (q := 2) (pc := 49) C (by decide) ez5 [(2, .int z5), (0, .ref (gA G 0)), (1, .int x1)] dX11_pick_49 rfl (Nat.le_of_ble_eq_true rfl) rfl ?_
      refine wp_goto (pc := 52) C 18 dX11_pick_52 (by decide) ?_
      exact wp_sub C [1, 2, 0] rfl (ih _ _ _ h)
def fX11_pick (n : Nat) (S : St) (x1 : Int32) : Option (St × Int32) :=
  bd (fX11_isIn n S x1 0 ((S.1 0 58) - 1)) (fun S1 r2 =>
  if r2 = 0 then
    some (S1, (-1))
  else
    fX11_pick_l18 n n S1 x1 0)
set_option maxRecDepth 100000 in
set_option maxHeartbeats 4000000 in
theorem wX11_pick (C : Cx G sdM cX11_pick 3 RX11 (some .int)) {n : Nat} {S S' : St} {r : Int32} {x1 : Int32} (h : fX11_pick n S x1 = some (S', r)) : Wp G sdM (rmOf 3 64) 3 (Qm G sdM (some (.int r)) S') S 0 [(0, .ref (gA G 0)), (1, .int x1)] [] := by
  unfold fX11_pick at h
  refine wp_iload_n (pc := 0) C 1 dX11_pick_0 rfl rfl ?_
  refine wp_iconst (v := 0) (pc := 1) C dX11_pick_1 (by decide) ?_
  refine wp_aload_n (pc := 2) C 0 dX11_pick_2 rfl rfl ?_
  refine wp_getI (pc := 3) C flX11_345 rfl (Nat.le_of_ble_eq_true rfl) rfl dX11_pick_3 ?_
  refine wp_iconst (v := 1) (pc := 6) C dX11_pick_6 (by decide) ?_
  refine wp_isub (pc := 7) C dX11_pick_7 ?_
  obtain ⟨S1, r2, cS1, h⟩ := bd_some h
  refine wp_callSi (As := [.int x1, .int 0, .int ((S.1 0 58) - 1)]) (st := []) (pc := 8) C (CtX11_isIn cS1) mX11_isIn sX11_isIn kX11_361 rfl rfl (Nat.le_of_ble_eq_true rfl) ⟨Nat.le_of_ble_eq_true rfl, Nat.le_of_ble_eq_true rfl⟩ dX11_pick_8 ?_
  refine wp_if_ne (pc := 11) C 16 dX11_pick_11 (by decide) (fun q => ?_) (fun q => ?_)
  · have h := it_neg q h
    refine wp_iconst (v := 0) (pc := 16) C dX11_pick_16 (by decide) ?_
    refine wp_istore_n (pc := 17) C rfl [(2, .int 0), (0, .ref (gA G 0)), (1, .int x1)] dX11_pick_17 rfl (Nat.le_of_ble_eq_true rfl) rfl ?_
    exact wp_sub C [1, 2, 0] rfl (wX11_pick_l18 C _ _ _ _ h)
  · have h := it_pos q h
    refine wp_iconst (v := (-1)) (pc := 14) C dX11_pick_14 (by decide) ?_
    exact rt_i C rfl h dX11_pick_15
theorem CtX11_pick {n : Nat} {S S' : St} {r : Int32} {x1 : Int32} (h : fX11_pick n S x1 = some (S', r)) : Ct l sdM cy ad D yX11_pick cX11_pick 3 (some .int) 3 64 [.ref (ad 0), .int x1] S (some (.int r)) S' :=
  Ct_of (own := RX11) mX11_pick rfl (Nat.le_of_ble_eq_true rfl) (fun G e1 e2 e3 e4 C => by subst e1 e2 e3 e4; exact wX11_pick C h)
def fX11_best_j93 (n : Nat) (S : St) : Option (St × Int32) :=
  bd (fX11_pick n S 0) (fun S1 r2 =>
  some (S1, S1.1 0 58))
set_option maxRecDepth 100000 in
set_option maxHeartbeats 4000000 in
theorem wX11_best_j93 (C : Cx G sdM cX11_best 4 RX11 (some .int)) {n : Nat} {S S' : St} {r : Int32} (h : fX11_best_j93 n S = some (S', r)) : Wp G sdM (rmOf 6 136) 4 (Qm G sdM (some (.int r)) S') S 93 [(0, .ref (gA G 0))] [] := by
  unfold fX11_best_j93 at h
  refine wp_aload_n (pc := 93) C 0 dX11_best_93 rfl rfl ?_
  refine wp_iconst (v := 0) (pc := 94) C dX11_best_94 (by decide) ?_
  obtain ⟨S1, r2, cS1, h⟩ := bd_some h
  refine wp_callVi (As := [.int 0]) (st := []) (pc := 95) C (CtX11_pick cS1) mX11_pick iX11_pick kX11_493 (Nat.le_of_ble_eq_true rfl) rfl (by decide) rfl rfl rfl rfl (Nat.le_of_ble_eq_true rfl) ⟨Nat.le_of_ble_eq_true rfl, Nat.le_of_ble_eq_true rfl⟩ dX11_best_95 ?_
  refine wp_pop (pc := 98) C dX11_best_98 rfl ?_
  refine wp_aload_n (pc := 99) C 0 dX11_best_99 rfl rfl ?_
  refine wp_getI (pc := 100) C flX11_345 rfl (Nat.le_of_ble_eq_true rfl) rfl dX11_best_100 ?_
  exact rt_i C rfl h dX11_best_103
def fX11_best_j87 (n : Nat) (k47 : St → Int32 → Int32 → Option (St × Int32)) (S : St) (x1 : Int32) (x3 : Int32) : Option (St × Int32) :=
  bn (x3 + 1) (fun z1 : Int32 =>
  k47 S x1 z1)
set_option maxRecDepth 100000 in
set_option maxHeartbeats 4000000 in
theorem wX11_best_j87 (C : Cx G sdM cX11_best 4 RX11 (some .int)) {n : Nat} {k47 : St → Int32 → Int32 → Option (St × Int32)} {S S' : St} {r : Int32} {x1 : Int32} {x3 : Int32} (hk47 : ∀ (S : St) (x1 : Int32) (x3 : Int32), k47 S x1 x3 = some (S', r) → Wp G sdM (rmOf 6 136) 4 (Qm G sdM (some (.int r)) S') S 47 [(0, .ref (gA G 0)), (1, .int x1), (3, .int x3)] []) (h : fX11_best_j87 n k47 S x1 x3 = some (S', r)) : Wp G sdM (rmOf 6 136) 4 (Qm G sdM (some (.int r)) S') S 87 [(0, .ref (gA G 0)), (1, .int x1), (3, .int x3)] [] := by
  unfold fX11_best_j87 at h
  obtain ⟨z1, ez1, h⟩ := bn_some h
  refine wp_iinc (q := 2) (pc := 87) C (by decide) ez1 [(3, .int z1), (0, .ref (gA G 0)), (1, .int x1)] dX11_best_87 rfl (Nat.le_of_ble_eq_true rfl) rfl ?_
  refine wp_goto (pc := 90) C 47 dX11_best_90 (by decide) ?_
  exact wp_sub C [1, 2, 0] rfl (hk47 _ _ _ h)
def fX11_best_l47 (n : Nat) : Nat → St → Int32 → Int32 → Option (St × Int32)
  | 0, _, _, _ => none
  | j + 1, S, x1, x3 =>
    if (S.1 0 59) ≤ x3 then
      fX11_best_j93 n S
    else
      bd (fX11_isBest n S x3 x1) (fun S1 r2 =>
      if r2 = 0 then
        fX11_best_j87 n (fX11_best_l47 n j) S1 x1 x3
      else
        gd (ib (S1.1 0 58) 5000) (
        bn (sI S1 27 (Int32.toNatClampNeg (S1.1 0 58)) x3) (fun S4 : St =>
        bn (sI S4 0 58 ((S4.1 0 58) + 1)) (fun S5 : St =>
        fX11_best_j87 n (fX11_best_l47 n j) S5 x1 x3))))
set_option maxRecDepth 100000 in
set_option maxHeartbeats 4000000 in
theorem wX11_best_l47 (C : Cx G sdM cX11_best 4 RX11 (some .int)) {n : Nat} {S' : St} {r : Int32} : ∀ (j : Nat) (S : St) (x1 : Int32) (x3 : Int32), fX11_best_l47 n j S x1 x3 = some (S', r) → Wp G sdM (rmOf 6 136) 4 (Qm G sdM (some (.int r)) S') S 47 [(0, .ref (gA G 0)), (1, .int x1), (3, .int x3)] [] := by
  intro j
  induction j with
  | zero =>
    intro S x1 x3 h
    exact nomatch (show (none : Option (St × Int32)) = some _ from h)
  | succ j ih =>
    intro S x1 x3 h
    rw [fX11_best_l47] at h
    refine wp_iload_n (pc := 47) C 2 dX11_best_47 rfl rfl ?_
    refine wp_aload_n (pc := 48) C 0 dX11_best_48 rfl rfl ?_
    refine wp_getI (pc := 49) C flX11_480 rfl (Nat.le_of_ble_eq_true rfl) rfl dX11_best_49 ?_
    refine wp_icmp_ge (pc := 52) C 93 dX11_best_52 (by decide) (fun q => ?_) (fun q => ?_)
    · have h := it_pos q h
      exact wp_sub C [0] rfl (wX11_best_j93 C h)
    · have h := it_neg q h
      refine wp_aload_n (pc := 55) C 0 dX11_best_55 rfl rfl ?_
      refine wp_iload_n (pc := 56) C 2 dX11_best_56 rfl rfl ?_
      refine wp_iload_n (pc := 57) C 1 dX11_best_57 rfl rfl ?_
      obtain ⟨S1, r2, cS1, h⟩ := bd_some h
      refine wp_callVi (As := [.int x3, .int x1]) (st := []) (pc := 58) C (CtX11_isBest cS1) mX11_isBest iX11_isBest kX11_490 (Nat.le_of_ble_eq_true rfl) rfl (by decide) rfl rfl rfl rfl (Nat.le_of_ble_eq_true rfl) ⟨Nat.le_of_ble_eq_true rfl, Nat.le_of_ble_eq_true rfl⟩ dX11_best_58 ?_
      refine wp_if_ne (pc := 61) C 67 dX11_best_61 (by decide) (fun q => ?_) (fun q => ?_)
      · have h := it_neg q h
        refine wp_aload_n (pc := 67) C 0 dX11_best_67 rfl rfl ?_
        refine wp_getS (v := 27) (pc := 68) C flX11_94 rfl rfl (Nat.le_of_ble_eq_true rfl) (Nat.le_of_ble_eq_true rfl) rfl dX11_best_68 ?_
        refine wp_aload_n (pc := 71) C 0 dX11_best_71 rfl rfl ?_
        refine wp_getI (pc := 72) C flX11_345 rfl (Nat.le_of_ble_eq_true rfl) rfl dX11_best_72 ?_
        refine wp_iload_n (pc := 75) C 2 dX11_best_75 rfl rfl ?_
        obtain ⟨g3, h⟩ := gd_some h
        obtain ⟨S4, eS4, h⟩ := bn_some h
        refine wp_iast (pc := 76) C eS4 (Nat.le_of_ble_eq_true rfl) rfl g3 dX11_best_76 ?_
        refine wp_aload_n (pc := 77) C 0 dX11_best_77 rfl rfl ?_
        refine wp_dup (pc := 78) C dX11_best_78 rfl ?_
        refine wp_getI (pc := 79) C flX11_345 rfl (Nat.le_of_ble_eq_true rfl) rfl dX11_best_79 ?_
        refine wp_iconst (v := 1) (pc := 82) C dX11_best_82 (by decide) ?_
        refine wp_iadd (pc := 83) C dX11_best_83 ?_
        obtain ⟨S5, eS5, h⟩ := bn_some h
        refine wp_putI (pc := 84) C eS5 flX11_345 fpX11_58 rfl (Nat.le_of_ble_eq_true rfl) rfl dX11_best_84 ?_
        exact (wX11_best_j87 C ih h)
      · have h := it_pos q h
        refine wp_goto (pc := 64) C 87 dX11_best_64 (by decide) ?_
        exact (wX11_best_j87 C ih h)
def fX11_best (n : Nat) (S : St) (x1 : Int32) (x2 : Int32) : Option (St × Int32) :=
  bn (sI S 0 52 0) (fun S1 : St =>
  bn (sI S1 0 58 0) (fun S2 : St =>
  if (S2.1 0 50) = 0 then
    some (S2, (-1))
  else
    bd (fX11_isSet n S2 x1) (fun S3 r4 =>
    if r4 = 0 then
      some (S3, (-1))
    else
      bd (fX11_mixes n S3) (fun S5 r6 =>
      if r6 ≤ 5000 then
        bd (fX11_layRows n S5 x2) (fun S7 r8 =>
        fX11_best_l47 n n S7 x1 0)
      else
        some (S5, (-2))))))
set_option maxRecDepth 100000 in
set_option maxHeartbeats 4000000 in
theorem wX11_best (C : Cx G sdM cX11_best 4 RX11 (some .int)) {n : Nat} {S S' : St} {r : Int32} {x1 : Int32} {x2 : Int32} (h : fX11_best n S x1 x2 = some (S', r)) : Wp G sdM (rmOf 6 136) 4 (Qm G sdM (some (.int r)) S') S 0 [(0, .ref (gA G 0)), (1, .int x1), (2, .int x2)] [] := by
  unfold fX11_best at h
  refine wp_aload_n (pc := 0) C 0 dX11_best_0 rfl rfl ?_
  refine wp_iconst (v := 0) (pc := 1) C dX11_best_1 (by decide) ?_
  obtain ⟨S1, eS1, h⟩ := bn_some h
  refine wp_putZ (pc := 2) C (Or.inl rfl) eS1 flX11_348 fpX11_52 rfl (Nat.le_of_ble_eq_true rfl) rfl dX11_best_2 ?_
  refine wp_aload_n (pc := 5) C 0 dX11_best_5 rfl rfl ?_
  refine wp_iconst (v := 0) (pc := 6) C dX11_best_6 (by decide) ?_
  obtain ⟨S2, eS2, h⟩ := bn_some h
  refine wp_putI (pc := 7) C eS2 flX11_345 fpX11_58 rfl (Nat.le_of_ble_eq_true rfl) rfl dX11_best_7 ?_
  refine wp_aload_n (pc := 10) C 0 dX11_best_10 rfl rfl ?_
  refine wp_getI (pc := 11) C flX11_342 rfl (Nat.le_of_ble_eq_true rfl) rfl dX11_best_11 ?_
  refine wp_if_eq (pc := 14) C 25 dX11_best_14 (by decide) (fun q => ?_) (fun q => ?_)
  · have h := it_pos q h
    refine wp_iconst (v := (-1)) (pc := 25) C dX11_best_25 (by decide) ?_
    exact rt_i C rfl h dX11_best_26
  · have h := it_neg q h
    refine wp_aload_n (pc := 17) C 0 dX11_best_17 rfl rfl ?_
    refine wp_iload_n (pc := 18) C 1 dX11_best_18 rfl rfl ?_
    obtain ⟨S3, r4, cS3, h⟩ := bd_some h
    refine wp_callVi (As := [.int x1]) (st := []) (pc := 19) C (CtX11_isSet cS3) mX11_isSet iX11_isSet kX11_453 (Nat.le_of_ble_eq_true rfl) rfl (by decide) rfl rfl rfl rfl (Nat.le_of_ble_eq_true rfl) ⟨Nat.le_of_ble_eq_true rfl, Nat.le_of_ble_eq_true rfl⟩ dX11_best_19 ?_
    refine wp_if_ne (pc := 22) C 27 dX11_best_22 (by decide) (fun q => ?_) (fun q => ?_)
    · have h := it_neg q h
      refine wp_aload_n (pc := 27) C 0 dX11_best_27 rfl rfl ?_
      obtain ⟨S5, r6, cS5, h⟩ := bd_some h
      refine wp_callVi (As := []) (st := []) (pc := 28) C (CtX11_mixes cS5) mX11_mixes iX11_mixes kX11_456 (Nat.le_of_ble_eq_true rfl) rfl (by decide) rfl rfl rfl rfl (Nat.le_of_ble_eq_true rfl) ⟨Nat.le_of_ble_eq_true rfl, Nat.le_of_ble_eq_true rfl⟩ dX11_best_28 ?_
      refine wp_sipush (v := 5000) (pc := 31) C dX11_best_31 (by decide) ?_
      refine wp_icmp_le (pc := 34) C 40 dX11_best_34 (by decide) (fun q => ?_) (fun q => ?_)
      · have h := it_pos q h
        refine wp_aload_n (pc := 40) C 0 dX11_best_40 rfl rfl ?_
        refine wp_iload_n (pc := 41) C 2 dX11_best_41 rfl rfl ?_
        obtain ⟨S7, r8, cS7, h⟩ := bd_some h
        refine wp_callVv (As := [.int x2]) (st := []) (pc := 42) C (CtX11_layRows cS7) mX11_layRows iX11_layRows kX11_486 (Nat.le_of_ble_eq_true rfl) rfl (by decide) rfl rfl rfl rfl (Nat.le_of_ble_eq_true rfl) ⟨Nat.le_of_ble_eq_true rfl, Nat.le_of_ble_eq_true rfl⟩ dX11_best_42 ?_
        refine wp_iconst (v := 0) (pc := 45) C dX11_best_45 (by decide) ?_
        refine wp_istore_n (pc := 46) C rfl [(3, .int 0), (0, .ref (gA G 0)), (1, .int x1), (2, .int x2)] dX11_best_46 rfl (Nat.le_of_ble_eq_true rfl) rfl ?_
        exact wp_sub C [1, 2, 0] rfl (wX11_best_l47 C _ _ _ _ h)
      · have h := it_neg q h
        refine wp_bipush (v := (-2)) (pc := 37) C dX11_best_37 (by decide) ?_
        exact rt_i C rfl h dX11_best_39
    · have h := it_pos q h
      refine wp_iconst (v := (-1)) (pc := 25) C dX11_best_25 (by decide) ?_
      exact rt_i C rfl h dX11_best_26
theorem CtX11_best {n : Nat} {S S' : St} {r : Int32} {x1 : Int32} {x2 : Int32} (h : fX11_best n S x1 x2 = some (S', r)) : Ct l sdM cy ad D yX11_best cX11_best 4 (some .int) 6 136 [.ref (ad 0), .int x1, .int x2] S (some (.int r)) S' :=
  Ct_of (own := RX11) mX11_best rfl (Nat.le_of_ble_eq_true rfl) (fun G e1 e2 e3 e4 C => by subst e1 e2 e3 e4; exact wX11_best C h)
def fX11_parts (n : Nat) (S : St) (x1 : Int32) : Option (St × Int32) :=
  if (S.1 0 52) = 0 then
    some (S, (-1))
  else
    bd (fX11_isDye n S x1) (fun S1 r2 =>
    if r2 = 0 then
      some (S1, (-1))
    else
      gd (ib x1 8) (
      some (S1, S1.1 24 (Int32.toNatClampNeg x1))))
set_option maxRecDepth 100000 in
set_option maxHeartbeats 4000000 in
theorem wX11_parts (C : Cx G sdM cX11_parts 2 RX11 (some .int)) {n : Nat} {S S' : St} {r : Int32} {x1 : Int32} (h : fX11_parts n S x1 = some (S', r)) : Wp G sdM (rmOf 2 43) 2 (Qm G sdM (some (.int r)) S') S 0 [(0, .ref (gA G 0)), (1, .int x1)] [] := by
  unfold fX11_parts at h
  refine wp_aload_n (pc := 0) C 0 dX11_parts_0 rfl rfl ?_
  refine wp_getI (pc := 1) C flX11_348 rfl (Nat.le_of_ble_eq_true rfl) rfl dX11_parts_1 ?_
  refine wp_if_eq (pc := 4) C 24 dX11_parts_4 (by decide) (fun q => ?_) (fun q => ?_)
  · have h := it_pos q h
    refine wp_iconst (v := (-1)) (pc := 24) C dX11_parts_24 (by decide) ?_
    exact rt_i C rfl h dX11_parts_25
  · have h := it_neg q h
    refine wp_aload_n (pc := 7) C 0 dX11_parts_7 rfl rfl ?_
    refine wp_iload_n (pc := 8) C 1 dX11_parts_8 rfl rfl ?_
    obtain ⟨S1, r2, cS1, h⟩ := bd_some h
    refine wp_callVi (As := [.int x1]) (st := []) (pc := 9) C (CtX11_isDye cS1) mX11_isDye iX11_isDye kX11_496 (Nat.le_of_ble_eq_true rfl) rfl (by decide) rfl rfl rfl rfl (Nat.le_of_ble_eq_true rfl) ⟨Nat.le_of_ble_eq_true rfl, Nat.le_of_ble_eq_true rfl⟩ dX11_parts_9 ?_
    refine wp_if_eq (pc := 12) C 24 dX11_parts_12 (by decide) (fun q => ?_) (fun q => ?_)
    · have h := it_pos q h
      refine wp_iconst (v := (-1)) (pc := 24) C dX11_parts_24 (by decide) ?_
      exact rt_i C rfl h dX11_parts_25
    · have h := it_neg q h
      refine wp_aload_n (pc := 15) C 0 dX11_parts_15 rfl rfl ?_
      refine wp_getS (v := 24) (pc := 16) C flX11_84 rfl rfl (Nat.le_of_ble_eq_true rfl) (Nat.le_of_ble_eq_true rfl) rfl dX11_parts_16 ?_
      refine wp_iload_n (pc := 19) C 1 dX11_parts_19 rfl rfl ?_
      obtain ⟨g3, h⟩ := gd_some h
      refine wp_iald (pc := 20) C (Nat.le_of_ble_eq_true rfl) rfl g3 dX11_parts_20 ?_
      refine wp_goto (pc := 21) C 25 dX11_parts_21 (by decide) ?_
      exact rt_i C rfl h dX11_parts_25
theorem CtX11_parts {n : Nat} {S S' : St} {r : Int32} {x1 : Int32} (h : fX11_parts n S x1 = some (S', r)) : Ct l sdM cy ad D yX11_parts cX11_parts 2 (some .int) 2 43 [.ref (ad 0), .int x1] S (some (.int r)) S' :=
  Ct_of (own := RX11) mX11_parts rfl (Nat.le_of_ble_eq_true rfl) (fun G e1 e2 e3 e4 C => by subst e1 e2 e3 e4; exact wX11_parts C h)
def fX11_apartMixed_j102 (n : Nat) (k5 : St → Int32 → Int64 → Int32 → Option (St × Int64)) (S : St) (x1 : Int32) (x2 : Int64) (x4 : Int32) : Option (St × Int64) :=
  bn (x4 + 1) (fun z1 : Int32 =>
  k5 S x1 x2 z1)
set_option maxRecDepth 100000 in
set_option maxHeartbeats 4000000 in
theorem wX11_apartMixed_j102 (C : Cx G sdM cX11_apartMixed 8 RX11 (some .long)) {n : Nat} {k5 : St → Int32 → Int64 → Int32 → Option (St × Int64)} {S S' : St} {r : Int64} {x1 : Int32} {x2 : Int64} {x4 : Int32} (hk5 : ∀ (S : St) (x1 : Int32) (x2 : Int64) (x4 : Int32), k5 S x1 x2 x4 = some (S', r) → Wp G sdM (rmOf 2 42) 8 (Qm G sdM (some (.long r)) S') S 5 [(0, .ref (gA G 0)), (1, .int x1), (2, .long x2), (4, .int x4)] []) (h : fX11_apartMixed_j102 n k5 S x1 x2 x4 = some (S', r)) : Wp G sdM (rmOf 2 42) 8 (Qm G sdM (some (.long r)) S') S 102 [(0, .ref (gA G 0)), (1, .int x1), (2, .long x2), (4, .int x4)] [] := by
  unfold fX11_apartMixed_j102 at h
  obtain ⟨z1, ez1, h⟩ := bn_some h
  refine wp_iinc (q := 3) (pc := 102) C (by decide) ez1 [(4, .int z1), (0, .ref (gA G 0)), (1, .int x1), (2, .long x2)] dX11_apartMixed_102 rfl (Nat.le_of_ble_eq_true rfl) rfl ?_
  refine wp_goto (pc := 105) C 5 dX11_apartMixed_105 (by decide) ?_
  exact wp_sub C [1, 2, 3, 0] rfl (hk5 _ _ _ _ h)
def fX11_apartMixed_j101 (n : Nat) (k5 : St → Int32 → Int64 → Int32 → Option (St × Int64)) (S : St) (x1 : Int32) (x4 : Int32) (y0 : Int64) : Option (St × Int64) :=
  fX11_apartMixed_j102 n k5 S x1 y0 x4
set_option maxRecDepth 100000 in
set_option maxHeartbeats 4000000 in
theorem wX11_apartMixed_j101 (C : Cx G sdM cX11_apartMixed 8 RX11 (some .long)) {n : Nat} {k5 : St → Int32 → Int64 → Int32 → Option (St × Int64)} {S S' : St} {r : Int64} {x1 : Int32} {x4 : Int32} {y0 : Int64} (hk5 : ∀ (S : St) (x1 : Int32) (x2 : Int64) (x4 : Int32), k5 S x1 x2 x4 = some (S', r) → Wp G sdM (rmOf 2 42) 8 (Qm G sdM (some (.long r)) S') S 5 [(0, .ref (gA G 0)), (1, .int x1), (2, .long x2), (4, .int x4)] []) (h : fX11_apartMixed_j101 n k5 S x1 x4 y0 = some (S', r)) : Wp G sdM (rmOf 2 42) 8 (Qm G sdM (some (.long r)) S') S 101 [(0, .ref (gA G 0)), (1, .int x1), (4, .int x4)] [.long y0] := by
  unfold fX11_apartMixed_j101 at h
  refine wp_lstore_n (pc := 101) C rfl [(2, .long y0), (0, .ref (gA G 0)), (1, .int x1), (4, .int x4)] dX11_apartMixed_101 rfl (Nat.le_of_ble_eq_true rfl) rfl ?_
  exact wp_sub C [1, 2, 0, 3] rfl (wX11_apartMixed_j102 C hk5 h)
def fX11_apartMixed_j86 (n : Nat) (k5 : St → Int32 → Int64 → Int32 → Option (St × Int64)) (S : St) (x1 : Int32) (x2 : Int64) (x4 : Int32) (y0 : Int64) : Option (St × Int64) :=
  if (lg_cmp y0 x2) ≤ 0 then
    fX11_apartMixed_j101 n k5 S x1 x4 x2
  else
    fX11_apartMixed_j101 n k5 S x1 x4 y0
set_option maxRecDepth 100000 in
set_option maxHeartbeats 4000000 in
theorem wX11_apartMixed_j86 (C : Cx G sdM cX11_apartMixed 8 RX11 (some .long)) {n : Nat} {k5 : St → Int32 → Int64 → Int32 → Option (St × Int64)} {S S' : St} {r : Int64} {x1 : Int32} {x2 : Int64} {x4 : Int32} {y0 : Int64} (hk5 : ∀ (S : St) (x1 : Int32) (x2 : Int64) (x4 : Int32), k5 S x1 x2 x4 = some (S', r) → Wp G sdM (rmOf 2 42) 8 (Qm G sdM (some (.long r)) S') S 5 [(0, .ref (gA G 0)), (1, .int x1), (2, .long x2), (4, .int x4)] []) (h : fX11_apartMixed_j86 n k5 S x1 x2 x4 y0 = some (S', r)) : Wp G sdM (rmOf 2 42) 8 (Qm G sdM (some (.long r)) S') S 86 [(0, .ref (gA G 0)), (1, .int x1), (2, .long x2), (4, .int x4)] [.long y0] := by
  unfold fX11_apartMixed_j86 at h
  refine wp_lstore (pc := 86) C rfl [(5, .long y0), (0, .ref (gA G 0)), (1, .int x1), (2, .long x2), (4, .int x4)] dX11_apartMixed_86 (Nat.le_of_ble_eq_true rfl) rfl ?_
  refine wp_lload (pc := 88) C 0 dX11_apartMixed_88 rfl ?_
  refine wp_lload_n (pc := 90) C 3 dX11_apartMixed_90 rfl rfl ?_
  refine wp_lcmp (pc := 91) C dX11_apartMixed_91 ?_
  refine wp_if_le (pc := 92) C 100 dX11_apartMixed_92 (by decide) (fun q => ?_) (fun q => ?_)
  · have h := it_pos q h
    refine wp_lload_n (pc := 100) C 3 dX11_apartMixed_100 rfl rfl ?_
    exact wp_sub C [1, 2, 4] rfl (wX11_apartMixed_j101 C hk5 h)
  · have h := it_neg q h
    refine wp_lload (pc := 95) C 0 dX11_apartMixed_95 rfl ?_
    refine wp_goto (pc := 97) C 101 dX11_apartMixed_97 (by decide) ?_
    exact wp_sub C [1, 2, 4] rfl (wX11_apartMixed_j101 C hk5 h)
def fX11_apartMixed_j71 (n : Nat) (k5 : St → Int32 → Int64 → Int32 → Option (St × Int64)) (S : St) (x1 : Int32) (x2 : Int64) (x4 : Int32) (x5 : Int64) : Option (St × Int64) :=
  if 0 ≤ (lg_cmp x5 0) then
    fX11_apartMixed_j86 n k5 S x1 x2 x4 x5
  else
    fX11_apartMixed_j86 n k5 S x1 x2 x4 (-x5)
set_option maxRecDepth 100000 in
set_option maxHeartbeats 4000000 in
theorem wX11_apartMixed_j71 (C : Cx G sdM cX11_apartMixed 8 RX11 (some .long)) {n : Nat} {k5 : St → Int32 → Int64 → Int32 → Option (St × Int64)} {S S' : St} {r : Int64} {x1 : Int32} {x2 : Int64} {x4 : Int32} {x5 : Int64} (hk5 : ∀ (S : St) (x1 : Int32) (x2 : Int64) (x4 : Int32), k5 S x1 x2 x4 = some (S', r) → Wp G sdM (rmOf 2 42) 8 (Qm G sdM (some (.long r)) S') S 5 [(0, .ref (gA G 0)), (1, .int x1), (2, .long x2), (4, .int x4)] []) (h : fX11_apartMixed_j71 n k5 S x1 x2 x4 x5 = some (S', r)) : Wp G sdM (rmOf 2 42) 8 (Qm G sdM (some (.long r)) S') S 71 [(0, .ref (gA G 0)), (1, .int x1), (2, .long x2), (4, .int x4), (5, .long x5)] [] := by
  unfold fX11_apartMixed_j71 at h
  refine wp_lload (pc := 71) C 4 dX11_apartMixed_71 rfl ?_
  refine wp_lconst (v := 0) (pc := 73) C dX11_apartMixed_73 (by decide) ?_
  refine wp_lcmp (pc := 74) C dX11_apartMixed_74 ?_
  refine wp_if_ge (pc := 75) C 84 dX11_apartMixed_75 (by decide) (fun q => ?_) (fun q => ?_)
  · have h := it_pos q h
    refine wp_lload (pc := 84) C 4 dX11_apartMixed_84 rfl ?_
    exact wp_sub C [0, 1, 2, 3] rfl (wX11_apartMixed_j86 C hk5 h)
  · have h := it_neg q h
    refine wp_lload (pc := 78) C 4 dX11_apartMixed_78 rfl ?_
    refine wp_lneg (pc := 80) C dX11_apartMixed_80 ?_
    refine wp_goto (pc := 81) C 86 dX11_apartMixed_81 (by decide) ?_
    exact wp_sub C [0, 1, 2, 3] rfl (wX11_apartMixed_j86 C hk5 h)
def fX11_apartMixed_l30 (n : Nat) (k5 : St → Int32 → Int64 → Int32 → Option (St × Int64)) : Nat → St → Int32 → Int64 → Int32 → Int64 → Int32 → Option (St × Int64)
  | 0, _, _, _, _, _, _ => none
  | j + 1, S, x1, x2, x4, x5, x7 =>
    bd (fX11_lamps n S) (fun S1 r2 =>
    if r2 ≤ x7 then
      fX11_apartMixed_j71 n k5 S1 x1 x2 x4 x5
    else
      gd (ib x7 6) (
      gd (ib ((4 * x7) + x4) 24) (
      bn (x5 + ((((S1.1 30 (Int32.toNatClampNeg x7)) : Int32).toInt64) * (S1.2.1 28 (Int32.toNatClampNeg ((4 * x7) + x4))))) (fun z5 : Int64 =>
      bn (x7 + 1) (fun z6 : Int32 =>
      fX11_apartMixed_l30 n k5 j S1 x1 x2 x4 z5 z6)))))
set_option maxRecDepth 100000 in
set_option maxHeartbeats 4000000 in
theorem wX11_apartMixed_l30 (C : Cx G sdM cX11_apartMixed 8 RX11 (some .long)) {n : Nat} {k5 : St → Int32 → Int64 → Int32 → Option (St × Int64)} {S' : St} {r : Int64} (hk5 : ∀ (S : St) (x1 : Int32) (x2 : Int64) (x4 : Int32), k5 S x1 x2 x4 = some (S', r) → Wp G sdM (rmOf 2 42) 8 (Qm G sdM (some (.long r)) S') S 5 [(0, .ref (gA G 0)), (1, .int x1), (2, .long x2), (4, .int x4)] []) : ∀ (j : Nat) (S : St) (x1 : Int32) (x2 : Int64) (x4 : Int32) (x5 : Int64) (x7 : Int32), fX11_apartMixed_l30 n k5 j S x1 x2 x4 x5 x7 = some (S', r) → Wp G sdM (rmOf 2 42) 8 (Qm G sdM (some (.long r)) S') S 30 [(0, .ref (gA G 0)), (1, .int x1), (2, .long x2), (4, .int x4), (5, .long x5), (7, .int x7)] [] := by
  intro j
  induction j with
  | zero =>
    intro S x1 x2 x4 x5 x7 h
    exact nomatch (show (none : Option (St × Int64)) = some _ from h)
  | succ j ih =>
    intro S x1 x2 x4 x5 x7 h
    rw [fX11_apartMixed_l30] at h
    refine wp_iload (pc := 30) C 5 dX11_apartMixed_30 rfl ?_
    refine wp_aload_n (pc := 32) C 0 dX11_apartMixed_32 rfl rfl ?_
    obtain ⟨S1, r2, cS1, h⟩ := bd_some h
    refine wp_callVi (As := []) (st := [.int x7]) (pc := 33) C (CtX11_lamps cS1) mX11_lamps iX11_lamps kX11_365 (Nat.le_of_ble_eq_true rfl) rfl (by decide) rfl rfl rfl rfl (Nat.le_of_ble_eq_true rfl) ⟨Nat.le_of_ble_eq_true rfl, Nat.le_of_ble_eq_true rfl⟩ dX11_apartMixed_33 ?_
    refine wp_icmp_ge (pc := 36) C 71 dX11_apartMixed_36 (by decide) (fun q => ?_) (fun q => ?_)
    · have h := it_pos q h
      exact wp_sub C [0, 1, 2, 3, 4] rfl (wX11_apartMixed_j71 C hk5 h)
    · have h := it_neg q h
      refine wp_lload (pc := 39) C 4 dX11_apartMixed_39 rfl ?_
      refine wp_aload_n (pc := 41) C 0 dX11_apartMixed_41 rfl rfl ?_
      refine wp_getS (v := 30) (pc := 42) C flX11_103 rfl rfl (Nat.le_of_ble_eq_true rfl) (Nat.le_of_ble_eq_true rfl) rfl dX11_apartMixed_42 ?_
      refine wp_iload (pc := 45) C 5 dX11_apartMixed_45 rfl ?_
      obtain ⟨g3, h⟩ := gd_some h
      refine wp_iald (pc := 47) C (Nat.le_of_ble_eq_true rfl) rfl g3 dX11_apartMixed_47 ?_
      refine wp_i2l (pc := 48) C dX11_apartMixed_48 ?_
      refine wp_aload_n (pc := 49) C 0 dX11_apartMixed_49 rfl rfl ?_
      refine wp_getS (v := 28) (pc := 50) C flX11_97 rfl rfl (Nat.le_of_ble_eq_true rfl) (Nat.le_of_ble_eq_true rfl) rfl dX11_apartMixed_50 ?_
      refine wp_iconst (v := 4) (pc := 53) C dX11_apartMixed_53 (by decide) ?_
      refine wp_iload (pc := 54) C 5 dX11_apartMixed_54 rfl ?_
      refine wp_imul (pc := 56) C dX11_apartMixed_56 ?_
      refine wp_iload (pc := 57) C 3 dX11_apartMixed_57 rfl ?_
      refine wp_iadd (pc := 59) C dX11_apartMixed_59 ?_
      obtain ⟨g4, h⟩ := gd_some h
      refine wp_lald (pc := 60) C (Nat.le_of_ble_eq_true rfl) rfl g4 dX11_apartMixed_60 ?_
      refine wp_lmul (pc := 61) C dX11_apartMixed_61 ?_
      refine wp_ladd (pc := 62) C dX11_apartMixed_62 ?_
      obtain ⟨z5, ez5, h⟩ := bn_some h
      refine wp_lstore (pc := 63) C ez5 [(5, .long z5), (0, .ref (gA G 0)), (1, .int x1), (2, .long x2), (4, .int x4), (7, .int x7)] dX11_apartMixed_63 (Nat.le_of_ble_eq_true rfl) rfl ?_
      obtain ⟨z6, ez6, h⟩ := bn_some h
      refine wp_iinc (q := 5) (pc := 65) C (by decide) ez6 [(7, .int z6), (5, .long z5), (0, .ref (gA G 0)), (1, .int x1), (2, .long x2), (4, .int x4)] dX11_apartMixed_65 rfl (Nat.le_of_ble_eq_true rfl) rfl ?_
      refine wp_goto (pc := 68) C 30 dX11_apartMixed_68 (by decide) ?_
      exact wp_sub C [2, 3, 4, 5, 1, 0] rfl (ih _ _ _ _ _ _ h)
def fX11_apartMixed_l5 (n : Nat) : Nat → St → Int32 → Int64 → Int32 → Option (St × Int64)
  | 0, _, _, _, _ => none
  | j + 1, S, x1, x2, x4 =>
    if 4 ≤ x4 then
      some (S, x2)
    else
      bd (fX11_doesSee n S x4 x1) (fun S1 r2 =>
      if r2 = 0 then
        fX11_apartMixed_j102 n (fX11_apartMixed_l5 n j) S1 x1 x2 x4
      else
        fX11_apartMixed_l30 n (fX11_apartMixed_l5 n j) n S1 x1 x2 x4 0 0)
set_option maxRecDepth 100000 in
set_option maxHeartbeats 4000000 in
theorem wX11_apartMixed_l5 (C : Cx G sdM cX11_apartMixed 8 RX11 (some .long)) {n : Nat} {S' : St} {r : Int64} : ∀ (j : Nat) (S : St) (x1 : Int32) (x2 : Int64) (x4 : Int32), fX11_apartMixed_l5 n j S x1 x2 x4 = some (S', r) → Wp G sdM (rmOf 2 42) 8 (Qm G sdM (some (.long r)) S') S 5 [(0, .ref (gA G 0)), (1, .int x1), (2, .long x2), (4, .int x4)] [] := by
  intro j
  induction j with
  | zero =>
    intro S x1 x2 x4 h
    exact nomatch (show (none : Option (St × Int64)) = some _ from h)
  | succ j ih =>
    intro S x1 x2 x4 h
    rw [fX11_apartMixed_l5] at h
    refine wp_iload (pc := 5) C 3 dX11_apartMixed_5 rfl ?_
    refine wp_iconst (v := 4) (pc := 7) C dX11_apartMixed_7 (by decide) ?_
    refine wp_icmp_ge (pc := 8) C 108 dX11_apartMixed_8 (by decide) (fun q => ?_) (fun q => ?_)
    · have h := it_pos q h
      refine wp_lload_n (pc := 108) C 2 dX11_apartMixed_108 rfl rfl ?_
      exact rt_l C rfl h dX11_apartMixed_109
    · have h := it_neg q h
      refine wp_aload_n (pc := 11) C 0 dX11_apartMixed_11 rfl rfl ?_
      refine wp_iload (pc := 12) C 3 dX11_apartMixed_12 rfl ?_
      refine wp_iload_n (pc := 14) C 1 dX11_apartMixed_14 rfl rfl ?_
      obtain ⟨S1, r2, cS1, h⟩ := bd_some h
      refine wp_callVi (As := [.int x4, .int x1]) (st := []) (pc := 15) C (CtX11_doesSee cS1) mX11_doesSee iX11_doesSee kX11_385 (Nat.le_of_ble_eq_true rfl) rfl (by decide) rfl rfl rfl rfl (Nat.le_of_ble_eq_true rfl) ⟨Nat.le_of_ble_eq_true rfl, Nat.le_of_ble_eq_true rfl⟩ dX11_apartMixed_15 ?_
      refine wp_if_ne (pc := 18) C 24 dX11_apartMixed_18 (by decide) (fun q => ?_) (fun q => ?_)
      · have h := it_neg q h
        refine wp_lconst (v := 0) (pc := 24) C dX11_apartMixed_24 (by decide) ?_
        refine wp_lstore (pc := 25) C rfl [(5, .long 0), (0, .ref (gA G 0)), (1, .int x1), (2, .long x2), (4, .int x4)] dX11_apartMixed_25 (Nat.le_of_ble_eq_true rfl) rfl ?_
        refine wp_iconst (v := 0) (pc := 27) C dX11_apartMixed_27 (by decide) ?_
        refine wp_istore (pc := 28) C rfl [(7, .int 0), (5, .long 0), (0, .ref (gA G 0)), (1, .int x1), (2, .long x2), (4, .int x4)] dX11_apartMixed_28 (Nat.le_of_ble_eq_true rfl) rfl ?_
        exact wp_sub C [2, 3, 4, 5, 1, 0] rfl (wX11_apartMixed_l30 C ih _ _ _ _ _ _ _ h)
      · have h := it_pos q h
        refine wp_goto (pc := 21) C 102 dX11_apartMixed_21 (by decide) ?_
        exact (wX11_apartMixed_j102 C ih h)
def fX11_apartMixed (n : Nat) (S : St) (x1 : Int32) : Option (St × Int64) :=
  fX11_apartMixed_l5 n n S x1 0 0
set_option maxRecDepth 100000 in
set_option maxHeartbeats 4000000 in
theorem wX11_apartMixed (C : Cx G sdM cX11_apartMixed 8 RX11 (some .long)) {n : Nat} {S S' : St} {r : Int64} {x1 : Int32} (h : fX11_apartMixed n S x1 = some (S', r)) : Wp G sdM (rmOf 2 42) 8 (Qm G sdM (some (.long r)) S') S 0 [(0, .ref (gA G 0)), (1, .int x1)] [] := by
  unfold fX11_apartMixed at h
  refine wp_lconst (v := 0) (pc := 0) C dX11_apartMixed_0 (by decide) ?_
  refine wp_lstore_n (pc := 1) C rfl [(2, .long 0), (0, .ref (gA G 0)), (1, .int x1)] dX11_apartMixed_1 rfl (Nat.le_of_ble_eq_true rfl) rfl ?_
  refine wp_iconst (v := 0) (pc := 2) C dX11_apartMixed_2 (by decide) ?_
  refine wp_istore (pc := 3) C rfl [(4, .int 0), (2, .long 0), (0, .ref (gA G 0)), (1, .int x1)] dX11_apartMixed_3 (Nat.le_of_ble_eq_true rfl) rfl ?_
  exact wp_sub C [2, 3, 1, 0] rfl (wX11_apartMixed_l5 C _ _ _ _ _ h)
theorem CtX11_apartMixed {n : Nat} {S S' : St} {r : Int64} {x1 : Int32} (h : fX11_apartMixed n S x1 = some (S', r)) : Ct l sdM cy ad D yX11_apartMixed cX11_apartMixed 8 (some .long) 2 42 [.ref (ad 0), .int x1] S (some (.long r)) S' :=
  Ct_of (own := RX11) mX11_apartMixed rfl (Nat.le_of_ble_eq_true rfl) (fun G e1 e2 e3 e4 C => by subst e1 e2 e3 e4; exact wX11_apartMixed C h)
end
