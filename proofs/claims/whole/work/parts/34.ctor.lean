set_option maxRecDepth 100000 in
def nX6_init (n : Nat) (sd : Sd) (S : St) (t : Nat) : Option (Sd × St) :=
  gd (sd.1 = sd.1 + 0 ∧ sd.2.1 sd.1 = 12 ∧ sd.2.2.1 sd.1 = 1700) (
  bn (aI S sd.1) (fun S2 : St =>
  bn (sdA sd) (fun sd3 : Sd =>
  gd (okN sd3 t 6 ∧ sd.1 ≠ 999999) (
  bn (sdP sd3 t 0 sd.1) (fun sd5 : Sd =>
  gd (okN sd5 t 6) (
  bn (sI S2 t 1 0) (fun S7 : St =>
  some (sd5, S7))))))))
set_option maxRecDepth 100000 in
set_option maxHeartbeats 4000000 in
theorem wX6_init {G : Gx} {B : Nat} {qs : (Nat → Nat) × (Nat → Nat)} {n : Nat} {sd sd' : Sd} {S S' : St} {t : Nat} (C : Cn G B sd.1 qs cX6_init 1 RX6 none) (h : nX6_init n sd S t = some (sd', S')) : Wn G sd B (rmN 1 20 1 1700) 1 (QmN G B 1 1700 sd' S') 0 0 S 0 [(0, .ref (B + t))] [] := by
  unfold nX6_init at h
  refine wn_aload_n (pc := 0) C 0 dX6_init_0 rfl rfl ?_
  refine wn_objInit (pc := 1) C kOX6_3 oiI oiC (Nat.le_of_ble_eq_true rfl) (Nat.le_of_ble_eq_true rfl) dX6_init_1 ?_
  refine wn_aload_n (pc := 4) C 0 dX6_init_4 rfl rfl ?_
  refine wn_sipush (v := 1700) (pc := 5) C dX6_init_5 (by decide) ?_
  obtain ⟨g1, h⟩ := gd_some h
  obtain ⟨S2, eS2, h⟩ := bn_some h
  obtain ⟨sd3, esd3, h⟩ := bn_some h
  refine wn_newB (pc := 8) C 1700 g1.1 (by decide) (by decide) g1.2.1 g1.2.2 (Nat.le_of_ble_eq_true rfl) arr12 (Nat.le_of_ble_eq_true rfl) (Nat.le_of_ble_eq_true rfl) dX6_init_8 ?_
  rw [← eS2, ← esd3]
  refine wn_cs (cn2 := 1) (sn2 := 1700) rfl rfl ?_
  obtain ⟨g4, h⟩ := gd_some h
  obtain ⟨sd5, esd5, h⟩ := bn_some h
  refine wn_putS (pc := 10) C (Or.inr ⟨_, rfl⟩) g4.2 flX6_9 ffX6_0 rfl g4.1.1 g4.1.2.1 g4.1.2.2 dX6_init_10 ?_
  rw [← esd5]
  refine wn_aload_n (pc := 13) C 0 dX6_init_13 rfl rfl ?_
  refine wn_iconst (v := 0) (pc := 14) C dX6_init_14 (by decide) ?_
  obtain ⟨g6, h⟩ := gd_some h
  obtain ⟨S7, eS7, h⟩ := bn_some h
  refine wn_putI (pc := 15) C flX6_15 fpX6_1 rfl g6.1 g6.2.1 g6.2.2 dX6_init_15 ?_
  rw [← eS7]
  exact wn_vret C rfl h dX6_init_18
theorem CnX6_init {l : Launch} {cy : Nat → ClassId} {D : va_G} {B : Nat} {qs : (Nat → Nat) × (Nat → Nat)} {n : Nat} {sd sd' : Sd} {S S' : St} {t : Nat} (h : nX6_init n sd S t = some (sd', S')) : CtN l cy B D qs yX6_init cX6_init 1 1 20 1 1700 [.ref (B + t)] sd S sd' S' :=
  CtN_of (own := RX6) mX6_init rfl rfl (Nat.le_of_ble_eq_true rfl) (fun G e1 e2 e3 C => by subst e1 e2 e3; exact wX6_init C h)
set_option maxRecDepth 100000 in
def nX5_init_8_16 (n : Nat) (sd : Sd) (S : St) (t : Nat) : Option (Sd × St) :=
  gd (okN sd t 5) (
  bn (sI S t 0 8) (fun S2 : St =>
  gd (sd.1 = sd.1 + 0 ∧ sd.2.1 sd.1 = 14 ∧ sd.2.2.1 sd.1 = 8) (
  bn (aL S2 sd.1) (fun S4 : St =>
  bn (sdA sd) (fun sd5 : Sd =>
  gd (okN sd5 t 5 ∧ sd.1 ≠ 999999) (
  bn (sdP sd5 t 1 sd.1) (fun sd7 : Sd =>
  gd (sd7.1 = sd.1 + 1 ∧ sd7.2.1 sd7.1 = 17 ∧ sd7.2.2.1 sd7.1 = 8 ∧ sd7.1 + 1 + 8 < 999999 ∧ rowsB sd7 8 16 = true) (
  bn (aM S4 sd7.1 8) (fun S9 : St =>
  bn (sdM2 sd7 8) (fun sd10 : Sd =>
  gd (okN sd10 t 5 ∧ sd7.1 ≠ 999999) (
  bn (sdP sd10 t 2 sd7.1) (fun sd12 : Sd =>
  gd (okN sd12 t 5) (
  bn (sI S9 t 3 0) (fun S14 : St =>
  some (sd12, S14)))))))))))))))
set_option maxRecDepth 100000 in
set_option maxHeartbeats 4000000 in
theorem wX5_init_8_16 {G : Gx} {B : Nat} {qs : (Nat → Nat) × (Nat → Nat)} {n : Nat} {sd sd' : Sd} {S S' : St} {t : Nat} (C : Cn G B sd.1 qs cX5_init 3 RX5 none) (h : nX5_init_8_16 n sd S t = some (sd', S')) : Wn G sd B (rmN 1 20 10 144) 3 (QmN G B 10 144 sd' S') 0 0 S 0 [(0, .ref (B + t)), (1, .int 8), (2, .int 16)] [] := by
  unfold nX5_init_8_16 at h
  refine wn_aload_n (pc := 0) C 0 dX5_init_0 rfl rfl ?_
  refine wn_objInit (pc := 1) C kOX5_3 oiI oiC (Nat.le_of_ble_eq_true rfl) (Nat.le_of_ble_eq_true rfl) dX5_init_1 ?_
  refine wn_aload_n (pc := 4) C 0 dX5_init_4 rfl rfl ?_
  refine wn_iload_n (pc := 5) C 1 dX5_init_5 rfl rfl ?_
  obtain ⟨g1, h⟩ := gd_some h
  obtain ⟨S2, eS2, h⟩ := bn_some h
  refine wn_putFI (pc := 6) C flX5_9 ffX5_0 rfl g1.1 g1.2.1 g1.2.2 dX5_init_6 ?_
  rw [← eS2]
  refine wn_aload_n (pc := 9) C 0 dX5_init_9 rfl rfl ?_
  refine wn_iload_n (pc := 10) C 1 dX5_init_10 rfl rfl ?_
  obtain ⟨g3, h⟩ := gd_some h
  obtain ⟨S4, eS4, h⟩ := bn_some h
  obtain ⟨sd5, esd5, h⟩ := bn_some h
  refine wn_newL (pc := 11) C 8 g3.1 (by decide) (by decide) g3.2.1 g3.2.2 (Nat.le_of_ble_eq_true rfl) arr14 (Nat.le_of_ble_eq_true rfl) (Nat.le_of_ble_eq_true rfl) dX5_init_11 ?_
  rw [← eS4, ← esd5]
  refine wn_cs (cn2 := 1) (sn2 := 8) rfl rfl ?_
  obtain ⟨g6, h⟩ := gd_some h
  obtain ⟨sd7, esd7, h⟩ := bn_some h
  refine wn_putS (pc := 13) C (Or.inr ⟨_, rfl⟩) g6.2 flX5_15 ffX5_1 rfl g6.1.1 g6.1.2.1 g6.1.2.2 dX5_init_13 ?_
  rw [← esd7]
  refine wn_aload_n (pc := 16) C 0 dX5_init_16 rfl rfl ?_
  refine wn_iload_n (pc := 17) C 1 dX5_init_17 rfl rfl ?_
  refine wn_iload_n (pc := 18) C 2 dX5_init_18 rfl rfl ?_
  obtain ⟨g8, h⟩ := gd_some h
  obtain ⟨S9, eS9, h⟩ := bn_some h
  obtain ⟨sd10, esd10, h⟩ := bn_some h
  refine wn_newM (pc := 19) C 8 16 g8.1 (by decide) (by decide) (by decide) (by decide) g8.2.1 g8.2.2.1 g8.2.2.2.1 (rows_of g8.2.2.2.2) (Nat.le_of_ble_eq_true rfl) (Nat.le_of_ble_eq_true rfl) clX5_19 arr13 (Nat.le_of_ble_eq_true rfl) (Nat.le_of_ble_eq_true rfl) dX5_init_19 ?_
  rw [← eS9, ← esd10]
  refine wn_cs (cn2 := 10) (sn2 := 144) rfl rfl ?_
  obtain ⟨g11, h⟩ := gd_some h
  obtain ⟨sd12, esd12, h⟩ := bn_some h
  refine wn_putS (pc := 23) C (Or.inr ⟨_, rfl⟩) g11.2 flX5_21 ffX5_2 rfl g11.1.1 g11.1.2.1 g11.1.2.2 dX5_init_23 ?_
  rw [← esd12]
  refine wn_aload_n (pc := 26) C 0 dX5_init_26 rfl rfl ?_
  refine wn_iconst (v := 0) (pc := 27) C dX5_init_27 (by decide) ?_
  obtain ⟨g13, h⟩ := gd_some h
  obtain ⟨S14, eS14, h⟩ := bn_some h
  refine wn_putI (pc := 28) C flX5_24 fpX5_3 rfl g13.1 g13.2.1 g13.2.2 dX5_init_28 ?_
  rw [← eS14]
  exact wn_vret C rfl h dX5_init_31
theorem CnX5_init_8_16 {l : Launch} {cy : Nat → ClassId} {D : va_G} {B : Nat} {qs : (Nat → Nat) × (Nat → Nat)} {n : Nat} {sd sd' : Sd} {S S' : St} {t : Nat} (h : nX5_init_8_16 n sd S t = some (sd', S')) : CtN l cy B D qs yX5_init cX5_init 3 1 20 10 144 [.ref (B + t), .int 8, .int 16] sd S sd' S' :=
  CtN_of (own := RX5) mX5_init rfl rfl (Nat.le_of_ble_eq_true rfl) (fun G e1 e2 e3 C => by subst e1 e2 e3; exact wX5_init_8_16 C h)
set_option maxRecDepth 100000 in
def nX5_init_4_16 (n : Nat) (sd : Sd) (S : St) (t : Nat) : Option (Sd × St) :=
  gd (okN sd t 5) (
  bn (sI S t 0 4) (fun S2 : St =>
  gd (sd.1 = sd.1 + 0 ∧ sd.2.1 sd.1 = 14 ∧ sd.2.2.1 sd.1 = 4) (
  bn (aL S2 sd.1) (fun S4 : St =>
  bn (sdA sd) (fun sd5 : Sd =>
  gd (okN sd5 t 5 ∧ sd.1 ≠ 999999) (
  bn (sdP sd5 t 1 sd.1) (fun sd7 : Sd =>
  gd (sd7.1 = sd.1 + 1 ∧ sd7.2.1 sd7.1 = 17 ∧ sd7.2.2.1 sd7.1 = 4 ∧ sd7.1 + 1 + 4 < 999999 ∧ rowsB sd7 4 16 = true) (
  bn (aM S4 sd7.1 4) (fun S9 : St =>
  bn (sdM2 sd7 4) (fun sd10 : Sd =>
  gd (okN sd10 t 5 ∧ sd7.1 ≠ 999999) (
  bn (sdP sd10 t 2 sd7.1) (fun sd12 : Sd =>
  gd (okN sd12 t 5) (
  bn (sI S9 t 3 0) (fun S14 : St =>
  some (sd12, S14)))))))))))))))
set_option maxRecDepth 100000 in
set_option maxHeartbeats 4000000 in
theorem wX5_init_4_16 {G : Gx} {B : Nat} {qs : (Nat → Nat) × (Nat → Nat)} {n : Nat} {sd sd' : Sd} {S S' : St} {t : Nat} (C : Cn G B sd.1 qs cX5_init 3 RX5 none) (h : nX5_init_4_16 n sd S t = some (sd', S')) : Wn G sd B (rmN 1 20 6 72) 3 (QmN G B 6 72 sd' S') 0 0 S 0 [(0, .ref (B + t)), (1, .int 4), (2, .int 16)] [] := by
  unfold nX5_init_4_16 at h
  refine wn_aload_n (pc := 0) C 0 dX5_init_0 rfl rfl ?_
  refine wn_objInit (pc := 1) C kOX5_3 oiI oiC (Nat.le_of_ble_eq_true rfl) (Nat.le_of_ble_eq_true rfl) dX5_init_1 ?_
  refine wn_aload_n (pc := 4) C 0 dX5_init_4 rfl rfl ?_
  refine wn_iload_n (pc := 5) C 1 dX5_init_5 rfl rfl ?_
  obtain ⟨g1, h⟩ := gd_some h
  obtain ⟨S2, eS2, h⟩ := bn_some h
  refine wn_putFI (pc := 6) C flX5_9 ffX5_0 rfl g1.1 g1.2.1 g1.2.2 dX5_init_6 ?_
  rw [← eS2]
  refine wn_aload_n (pc := 9) C 0 dX5_init_9 rfl rfl ?_
  refine wn_iload_n (pc := 10) C 1 dX5_init_10 rfl rfl ?_
  obtain ⟨g3, h⟩ := gd_some h
  obtain ⟨S4, eS4, h⟩ := bn_some h
  obtain ⟨sd5, esd5, h⟩ := bn_some h
  refine wn_newL (pc := 11) C 4 g3.1 (by decide) (by decide) g3.2.1 g3.2.2 (Nat.le_of_ble_eq_true rfl) arr14 (Nat.le_of_ble_eq_true rfl) (Nat.le_of_ble_eq_true rfl) dX5_init_11 ?_
  rw [← eS4, ← esd5]
  refine wn_cs (cn2 := 1) (sn2 := 4) rfl rfl ?_
  obtain ⟨g6, h⟩ := gd_some h
  obtain ⟨sd7, esd7, h⟩ := bn_some h
  refine wn_putS (pc := 13) C (Or.inr ⟨_, rfl⟩) g6.2 flX5_15 ffX5_1 rfl g6.1.1 g6.1.2.1 g6.1.2.2 dX5_init_13 ?_
  rw [← esd7]
  refine wn_aload_n (pc := 16) C 0 dX5_init_16 rfl rfl ?_
  refine wn_iload_n (pc := 17) C 1 dX5_init_17 rfl rfl ?_
  refine wn_iload_n (pc := 18) C 2 dX5_init_18 rfl rfl ?_
  obtain ⟨g8, h⟩ := gd_some h
  obtain ⟨S9, eS9, h⟩ := bn_some h
  obtain ⟨sd10, esd10, h⟩ := bn_some h
  refine wn_newM (pc := 19) C 4 16 g8.1 (by decide) (by decide) (by decide) (by decide) g8.2.1 g8.2.2.1 g8.2.2.2.1 (rows_of g8.2.2.2.2) (Nat.le_of_ble_eq_true rfl) (Nat.le_of_ble_eq_true rfl) clX5_19 arr13 (Nat.le_of_ble_eq_true rfl) (Nat.le_of_ble_eq_true rfl) dX5_init_19 ?_
  rw [← eS9, ← esd10]
  refine wn_cs (cn2 := 6) (sn2 := 72) rfl rfl ?_
  obtain ⟨g11, h⟩ := gd_some h
  obtain ⟨sd12, esd12, h⟩ := bn_some h
  refine wn_putS (pc := 23) C (Or.inr ⟨_, rfl⟩) g11.2 flX5_21 ffX5_2 rfl g11.1.1 g11.1.2.1 g11.1.2.2 dX5_init_23 ?_
  rw [← esd12]
  refine wn_aload_n (pc := 26) C 0 dX5_init_26 rfl rfl ?_
  refine wn_iconst (v := 0) (pc := 27) C dX5_init_27 (by decide) ?_
  obtain ⟨g13, h⟩ := gd_some h
  obtain ⟨S14, eS14, h⟩ := bn_some h
  refine wn_putI (pc := 28) C flX5_24 fpX5_3 rfl g13.1 g13.2.1 g13.2.2 dX5_init_28 ?_
  rw [← eS14]
  exact wn_vret C rfl h dX5_init_31
theorem CnX5_init_4_16 {l : Launch} {cy : Nat → ClassId} {D : va_G} {B : Nat} {qs : (Nat → Nat) × (Nat → Nat)} {n : Nat} {sd sd' : Sd} {S S' : St} {t : Nat} (h : nX5_init_4_16 n sd S t = some (sd', S')) : CtN l cy B D qs yX5_init cX5_init 3 1 20 6 72 [.ref (B + t), .int 4, .int 16] sd S sd' S' :=
  CtN_of (own := RX5) mX5_init rfl rfl (Nat.le_of_ble_eq_true rfl) (fun G e1 e2 e3 C => by subst e1 e2 e3; exact wX5_init_4_16 C h)
set_option maxRecDepth 100000 in
def nX5_init_6_16 (n : Nat) (sd : Sd) (S : St) (t : Nat) : Option (Sd × St) :=
  gd (okN sd t 5) (
  bn (sI S t 0 6) (fun S2 : St =>
  gd (sd.1 = sd.1 + 0 ∧ sd.2.1 sd.1 = 14 ∧ sd.2.2.1 sd.1 = 6) (
  bn (aL S2 sd.1) (fun S4 : St =>
  bn (sdA sd) (fun sd5 : Sd =>
  gd (okN sd5 t 5 ∧ sd.1 ≠ 999999) (
  bn (sdP sd5 t 1 sd.1) (fun sd7 : Sd =>
  gd (sd7.1 = sd.1 + 1 ∧ sd7.2.1 sd7.1 = 17 ∧ sd7.2.2.1 sd7.1 = 6 ∧ sd7.1 + 1 + 6 < 999999 ∧ rowsB sd7 6 16 = true) (
  bn (aM S4 sd7.1 6) (fun S9 : St =>
  bn (sdM2 sd7 6) (fun sd10 : Sd =>
  gd (okN sd10 t 5 ∧ sd7.1 ≠ 999999) (
  bn (sdP sd10 t 2 sd7.1) (fun sd12 : Sd =>
  gd (okN sd12 t 5) (
  bn (sI S9 t 3 0) (fun S14 : St =>
  some (sd12, S14)))))))))))))))
set_option maxRecDepth 100000 in
set_option maxHeartbeats 4000000 in
theorem wX5_init_6_16 {G : Gx} {B : Nat} {qs : (Nat → Nat) × (Nat → Nat)} {n : Nat} {sd sd' : Sd} {S S' : St} {t : Nat} (C : Cn G B sd.1 qs cX5_init 3 RX5 none) (h : nX5_init_6_16 n sd S t = some (sd', S')) : Wn G sd B (rmN 1 20 8 108) 3 (QmN G B 8 108 sd' S') 0 0 S 0 [(0, .ref (B + t)), (1, .int 6), (2, .int 16)] [] := by
  unfold nX5_init_6_16 at h
  refine wn_aload_n (pc := 0) C 0 dX5_init_0 rfl rfl ?_
  refine wn_objInit (pc := 1) C kOX5_3 oiI oiC (Nat.le_of_ble_eq_true rfl) (Nat.le_of_ble_eq_true rfl) dX5_init_1 ?_
  refine wn_aload_n (pc := 4) C 0 dX5_init_4 rfl rfl ?_
  refine wn_iload_n (pc := 5) C 1 dX5_init_5 rfl rfl ?_
  obtain ⟨g1, h⟩ := gd_some h
  obtain ⟨S2, eS2, h⟩ := bn_some h
  refine wn_putFI (pc := 6) C flX5_9 ffX5_0 rfl g1.1 g1.2.1 g1.2.2 dX5_init_6 ?_
  rw [← eS2]
  refine wn_aload_n (pc := 9) C 0 dX5_init_9 rfl rfl ?_
  refine wn_iload_n (pc := 10) C 1 dX5_init_10 rfl rfl ?_
  obtain ⟨g3, h⟩ := gd_some h
  obtain ⟨S4, eS4, h⟩ := bn_some h
  obtain ⟨sd5, esd5, h⟩ := bn_some h
  refine wn_newL (pc := 11) C 6 g3.1 (by decide) (by decide) g3.2.1 g3.2.2 (Nat.le_of_ble_eq_true rfl) arr14 (Nat.le_of_ble_eq_true rfl) (Nat.le_of_ble_eq_true rfl) dX5_init_11 ?_
  rw [← eS4, ← esd5]
  refine wn_cs (cn2 := 1) (sn2 := 6) rfl rfl ?_
  obtain ⟨g6, h⟩ := gd_some h
  obtain ⟨sd7, esd7, h⟩ := bn_some h
  refine wn_putS (pc := 13) C (Or.inr ⟨_, rfl⟩) g6.2 flX5_15 ffX5_1 rfl g6.1.1 g6.1.2.1 g6.1.2.2 dX5_init_13 ?_
  rw [← esd7]
  refine wn_aload_n (pc := 16) C 0 dX5_init_16 rfl rfl ?_
  refine wn_iload_n (pc := 17) C 1 dX5_init_17 rfl rfl ?_
  refine wn_iload_n (pc := 18) C 2 dX5_init_18 rfl rfl ?_
  obtain ⟨g8, h⟩ := gd_some h
  obtain ⟨S9, eS9, h⟩ := bn_some h
  obtain ⟨sd10, esd10, h⟩ := bn_some h
  refine wn_newM (pc := 19) C 6 16 g8.1 (by decide) (by decide) (by decide) (by decide) g8.2.1 g8.2.2.1 g8.2.2.2.1 (rows_of g8.2.2.2.2) (Nat.le_of_ble_eq_true rfl) (Nat.le_of_ble_eq_true rfl) clX5_19 arr13 (Nat.le_of_ble_eq_true rfl) (Nat.le_of_ble_eq_true rfl) dX5_init_19 ?_
  rw [← eS9, ← esd10]
  refine wn_cs (cn2 := 8) (sn2 := 108) rfl rfl ?_
  obtain ⟨g11, h⟩ := gd_some h
  obtain ⟨sd12, esd12, h⟩ := bn_some h
  refine wn_putS (pc := 23) C (Or.inr ⟨_, rfl⟩) g11.2 flX5_21 ffX5_2 rfl g11.1.1 g11.1.2.1 g11.1.2.2 dX5_init_23 ?_
  rw [← esd12]
  refine wn_aload_n (pc := 26) C 0 dX5_init_26 rfl rfl ?_
  refine wn_iconst (v := 0) (pc := 27) C dX5_init_27 (by decide) ?_
  obtain ⟨g13, h⟩ := gd_some h
  obtain ⟨S14, eS14, h⟩ := bn_some h
  refine wn_putI (pc := 28) C flX5_24 fpX5_3 rfl g13.1 g13.2.1 g13.2.2 dX5_init_28 ?_
  rw [← eS14]
  exact wn_vret C rfl h dX5_init_31
theorem CnX5_init_6_16 {l : Launch} {cy : Nat → ClassId} {D : va_G} {B : Nat} {qs : (Nat → Nat) × (Nat → Nat)} {n : Nat} {sd sd' : Sd} {S S' : St} {t : Nat} (h : nX5_init_6_16 n sd S t = some (sd', S')) : CtN l cy B D qs yX5_init cX5_init 3 1 20 8 108 [.ref (B + t), .int 6, .int 16] sd S sd' S' :=
  CtN_of (own := RX5) mX5_init rfl rfl (Nat.le_of_ble_eq_true rfl) (fun G e1 e2 e3 C => by subst e1 e2 e3; exact wX5_init_6_16 C h)
set_option maxRecDepth 100000 in
def nX5_init_8_8 (n : Nat) (sd : Sd) (S : St) (t : Nat) : Option (Sd × St) :=
  gd (okN sd t 5) (
  bn (sI S t 0 8) (fun S2 : St =>
  gd (sd.1 = sd.1 + 0 ∧ sd.2.1 sd.1 = 14 ∧ sd.2.2.1 sd.1 = 8) (
  bn (aL S2 sd.1) (fun S4 : St =>
  bn (sdA sd) (fun sd5 : Sd =>
  gd (okN sd5 t 5 ∧ sd.1 ≠ 999999) (
  bn (sdP sd5 t 1 sd.1) (fun sd7 : Sd =>
  gd (sd7.1 = sd.1 + 1 ∧ sd7.2.1 sd7.1 = 17 ∧ sd7.2.2.1 sd7.1 = 8 ∧ sd7.1 + 1 + 8 < 999999 ∧ rowsB sd7 8 8 = true) (
  bn (aM S4 sd7.1 8) (fun S9 : St =>
  bn (sdM2 sd7 8) (fun sd10 : Sd =>
  gd (okN sd10 t 5 ∧ sd7.1 ≠ 999999) (
  bn (sdP sd10 t 2 sd7.1) (fun sd12 : Sd =>
  gd (okN sd12 t 5) (
  bn (sI S9 t 3 0) (fun S14 : St =>
  some (sd12, S14)))))))))))))))
set_option maxRecDepth 100000 in
set_option maxHeartbeats 4000000 in
theorem wX5_init_8_8 {G : Gx} {B : Nat} {qs : (Nat → Nat) × (Nat → Nat)} {n : Nat} {sd sd' : Sd} {S S' : St} {t : Nat} (C : Cn G B sd.1 qs cX5_init 3 RX5 none) (h : nX5_init_8_8 n sd S t = some (sd', S')) : Wn G sd B (rmN 1 20 10 80) 3 (QmN G B 10 80 sd' S') 0 0 S 0 [(0, .ref (B + t)), (1, .int 8), (2, .int 8)] [] := by
  unfold nX5_init_8_8 at h
  refine wn_aload_n (pc := 0) C 0 dX5_init_0 rfl rfl ?_
  refine wn_objInit (pc := 1) C kOX5_3 oiI oiC (Nat.le_of_ble_eq_true rfl) (Nat.le_of_ble_eq_true rfl) dX5_init_1 ?_
  refine wn_aload_n (pc := 4) C 0 dX5_init_4 rfl rfl ?_
  refine wn_iload_n (pc := 5) C 1 dX5_init_5 rfl rfl ?_
  obtain ⟨g1, h⟩ := gd_some h
  obtain ⟨S2, eS2, h⟩ := bn_some h
  refine wn_putFI (pc := 6) C flX5_9 ffX5_0 rfl g1.1 g1.2.1 g1.2.2 dX5_init_6 ?_
  rw [← eS2]
  refine wn_aload_n (pc := 9) C 0 dX5_init_9 rfl rfl ?_
  refine wn_iload_n (pc := 10) C 1 dX5_init_10 rfl rfl ?_
  obtain ⟨g3, h⟩ := gd_some h
  obtain ⟨S4, eS4, h⟩ := bn_some h
  obtain ⟨sd5, esd5, h⟩ := bn_some h
  refine wn_newL (pc := 11) C 8 g3.1 (by decide) (by decide) g3.2.1 g3.2.2 (Nat.le_of_ble_eq_true rfl) arr14 (Nat.le_of_ble_eq_true rfl) (Nat.le_of_ble_eq_true rfl) dX5_init_11 ?_
  rw [← eS4, ← esd5]
  refine wn_cs (cn2 := 1) (sn2 := 8) rfl rfl ?_
  obtain ⟨g6, h⟩ := gd_some h
  obtain ⟨sd7, esd7, h⟩ := bn_some h
  refine wn_putS (pc := 13) C (Or.inr ⟨_, rfl⟩) g6.2 flX5_15 ffX5_1 rfl g6.1.1 g6.1.2.1 g6.1.2.2 dX5_init_13 ?_
  rw [← esd7]
  refine wn_aload_n (pc := 16) C 0 dX5_init_16 rfl rfl ?_
  refine wn_iload_n (pc := 17) C 1 dX5_init_17 rfl rfl ?_
  refine wn_iload_n (pc := 18) C 2 dX5_init_18 rfl rfl ?_
  obtain ⟨g8, h⟩ := gd_some h
  obtain ⟨S9, eS9, h⟩ := bn_some h
  obtain ⟨sd10, esd10, h⟩ := bn_some h
  refine wn_newM (pc := 19) C 8 8 g8.1 (by decide) (by decide) (by decide) (by decide) g8.2.1 g8.2.2.1 g8.2.2.2.1 (rows_of g8.2.2.2.2) (Nat.le_of_ble_eq_true rfl) (Nat.le_of_ble_eq_true rfl) clX5_19 arr13 (Nat.le_of_ble_eq_true rfl) (Nat.le_of_ble_eq_true rfl) dX5_init_19 ?_
  rw [← eS9, ← esd10]
  refine wn_cs (cn2 := 10) (sn2 := 80) rfl rfl ?_
  obtain ⟨g11, h⟩ := gd_some h
  obtain ⟨sd12, esd12, h⟩ := bn_some h
  refine wn_putS (pc := 23) C (Or.inr ⟨_, rfl⟩) g11.2 flX5_21 ffX5_2 rfl g11.1.1 g11.1.2.1 g11.1.2.2 dX5_init_23 ?_
  rw [← esd12]
  refine wn_aload_n (pc := 26) C 0 dX5_init_26 rfl rfl ?_
  refine wn_iconst (v := 0) (pc := 27) C dX5_init_27 (by decide) ?_
  obtain ⟨g13, h⟩ := gd_some h
  obtain ⟨S14, eS14, h⟩ := bn_some h
  refine wn_putI (pc := 28) C flX5_24 fpX5_3 rfl g13.1 g13.2.1 g13.2.2 dX5_init_28 ?_
  rw [← eS14]
  exact wn_vret C rfl h dX5_init_31
theorem CnX5_init_8_8 {l : Launch} {cy : Nat → ClassId} {D : va_G} {B : Nat} {qs : (Nat → Nat) × (Nat → Nat)} {n : Nat} {sd sd' : Sd} {S S' : St} {t : Nat} (h : nX5_init_8_8 n sd S t = some (sd', S')) : CtN l cy B D qs yX5_init cX5_init 3 1 20 10 80 [.ref (B + t), .int 8, .int 8] sd S sd' S' :=
  CtN_of (own := RX5) mX5_init rfl rfl (Nat.le_of_ble_eq_true rfl) (fun G e1 e2 e3 C => by subst e1 e2 e3; exact wX5_init_8_8 C h)
set_option maxRecDepth 100000 in
def nX0_init (n : Nat) (sd : Sd) (S : St) (t : Nat) : Option (Sd × St) :=
  gd (sd.1 = sd.1 + 0 ∧ sd.2.1 sd.1 = 5) (
  bn (aO S sd.1) (fun S2 : St =>
  bn (sdO sd) (fun sd3 : Sd =>
  gd (sd3.1 = sd.1 + 1 ∧ sd3.1 ≤ 999999) (
  bdn (nX5_init_8_16 n sd3 S2 (sd.1)) (fun sd5 S6 =>
  gd (okN sd5 t 0 ∧ sd.1 ≠ 999999) (
  bn (sdP sd5 t 0 sd.1) (fun sd8 : Sd =>
  gd (sd8.1 = sd.1 + 11 ∧ sd8.2.1 sd8.1 = 5) (
  bn (aO S6 sd8.1) (fun S10 : St =>
  bn (sdO sd8) (fun sd11 : Sd =>
  gd (sd11.1 = sd.1 + 12 ∧ sd11.1 ≤ 999999) (
  bdn (nX5_init_4_16 n sd11 S10 (sd8.1)) (fun sd13 S14 =>
  gd (okN sd13 t 0 ∧ sd8.1 ≠ 999999) (
  bn (sdP sd13 t 1 sd8.1) (fun sd16 : Sd =>
  gd (sd16.1 = sd.1 + 18 ∧ sd16.2.1 sd16.1 = 5) (
  bn (aO S14 sd16.1) (fun S18 : St =>
  bn (sdO sd16) (fun sd19 : Sd =>
  gd (sd19.1 = sd.1 + 19 ∧ sd19.1 ≤ 999999) (
  bdn (nX5_init_6_16 n sd19 S18 (sd16.1)) (fun sd21 S22 =>
  gd (okN sd21 t 0 ∧ sd16.1 ≠ 999999) (
  bn (sdP sd21 t 2 sd16.1) (fun sd24 : Sd =>
  gd (sd24.1 = sd.1 + 27 ∧ sd24.2.1 sd24.1 = 5) (
  bn (aO S22 sd24.1) (fun S26 : St =>
  bn (sdO sd24) (fun sd27 : Sd =>
  gd (sd27.1 = sd.1 + 28 ∧ sd27.1 ≤ 999999) (
  bdn (nX5_init_4_16 n sd27 S26 (sd24.1)) (fun sd29 S30 =>
  gd (okN sd29 t 0 ∧ sd24.1 ≠ 999999) (
  bn (sdP sd29 t 3 sd24.1) (fun sd32 : Sd =>
  gd (sd32.1 = sd.1 + 34 ∧ sd32.2.1 sd32.1 = 5) (
  bn (aO S30 sd32.1) (fun S34 : St =>
  bn (sdO sd32) (fun sd35 : Sd =>
  gd (sd35.1 = sd.1 + 35 ∧ sd35.1 ≤ 999999) (
  bdn (nX5_init_8_8 n sd35 S34 (sd32.1)) (fun sd37 S38 =>
  gd (okN sd37 t 0 ∧ sd32.1 ≠ 999999) (
  bn (sdP sd37 t 4 sd32.1) (fun sd40 : Sd =>
  gd (sd40.1 = sd.1 + 45 ∧ sd40.2.1 sd40.1 = 13 ∧ sd40.2.2.1 sd40.1 = 8) (
  bn (aI S38 sd40.1) (fun S42 : St =>
  bn (sdA sd40) (fun sd43 : Sd =>
  gd (okN sd43 t 0 ∧ sd40.1 ≠ 999999) (
  bn (sdP sd43 t 5 sd40.1) (fun sd45 : Sd =>
  gd (sd45.1 = sd.1 + 46 ∧ sd45.2.1 sd45.1 = 13 ∧ sd45.2.2.1 sd45.1 = 8) (
  bn (aI S42 sd45.1) (fun S47 : St =>
  bn (sdA sd45) (fun sd48 : Sd =>
  gd (okN sd48 t 0 ∧ sd45.1 ≠ 999999) (
  bn (sdP sd48 t 6 sd45.1) (fun sd50 : Sd =>
  gd (sd50.1 = sd.1 + 47 ∧ sd50.2.1 sd50.1 = 13 ∧ sd50.2.2.1 sd50.1 = 8) (
  bn (aI S47 sd50.1) (fun S52 : St =>
  bn (sdA sd50) (fun sd53 : Sd =>
  gd (okN sd53 t 0 ∧ sd50.1 ≠ 999999) (
  bn (sdP sd53 t 7 sd50.1) (fun sd55 : Sd =>
  gd (sd55.1 = sd.1 + 48 ∧ sd55.2.1 sd55.1 = 17 ∧ sd55.2.2.1 sd55.1 = 24 ∧ sd55.1 + 1 + 24 < 999999 ∧ rowsB sd55 24 16 = true) (
  bn (aM S52 sd55.1 24) (fun S57 : St =>
  bn (sdM2 sd55 24) (fun sd58 : Sd =>
  gd (okN sd58 t 0 ∧ sd55.1 ≠ 999999) (
  bn (sdP sd58 t 8 sd55.1) (fun sd60 : Sd =>
  gd (okN sd60 t 0) (
  bd (fX0_clear sd60 n S57 t) (fun S62 u63 =>
  some (sd60, S62))))))))))))))))))))))))))))))))))))))))))))))))))))))))))
set_option maxRecDepth 100000 in
set_option maxHeartbeats 4000000 in
theorem wX0_init {G : Gx} {B : Nat} {qs : (Nat → Nat) × (Nat → Nat)} {n : Nat} {sd sd' : Sd} {S S' : St} {t : Nat} (C : Cn G B sd.1 qs cX0_init 1 RX0 none) (h : nX0_init n sd S t = some (sd', S')) : Wn G sd B (rmN 2 42 73 928) 1 (QmN G B 73 928 sd' S') 0 0 S 0 [(0, .ref (B + t))] [] := by
  unfold nX0_init at h
  refine wn_aload_n (pc := 0) C 0 dX0_init_0 rfl rfl ?_
  refine wn_objInit (pc := 1) C kOX0_3 oiI oiC (Nat.le_of_ble_eq_true rfl) (Nat.le_of_ble_eq_true rfl) dX0_init_1 ?_
  refine wn_aload_n (pc := 4) C 0 dX0_init_4 rfl rfl ?_
  obtain ⟨g1, h⟩ := gd_some h
  obtain ⟨S2, eS2, h⟩ := bn_some h
  obtain ⟨sd3, esd3, h⟩ := bn_some h
  refine wn_new (q := (RX5, TX5, 4)) (ty0 := tyX5) (pc := 5) C g1.1 rfl (by decide) rfl layX5 tyX5_ok dfX5 clX0_9 inX5 iniX5 g1.2 (Nat.le_of_ble_eq_true rfl) (Nat.le_of_ble_eq_true rfl) dX0_init_5 ?_
  rw [← eS2, ← esd3]
  refine wn_cs (cn2 := 1) (sn2 := 4) rfl rfl ?_
  refine wn_dup (pc := 8) C dX0_init_8 rfl ?_
  refine wn_bipush (v := 8) (pc := 9) C dX0_init_9 (by decide) ?_
  refine wn_bipush (v := 16) (pc := 11) C dX0_init_11 (by decide) ?_
  obtain ⟨g4, h⟩ := gd_some h
  obtain ⟨sd5, S6, cS6, h⟩ := bdn_some h
  refine wn_callI (b := sd.1) (As := [.int 8, .int 16]) (st := [.ref (B + sd.1), .ref (B + t)]) (pc := 13) C g4.1 g4.2 (CnX5_init_8_16 cS6) mX5_init iX5_init rfl kX0_11 rfl rfl (Nat.le_of_ble_eq_true rfl) ⟨(Nat.le_of_ble_eq_true rfl), (Nat.le_of_ble_eq_true rfl)⟩ ⟨(Nat.le_of_ble_eq_true rfl), (Nat.le_of_ble_eq_true rfl)⟩ dX0_init_13 ?_
  refine wn_cs (cn2 := 11) (sn2 := 148) rfl rfl ?_
  obtain ⟨g7, h⟩ := gd_some h
  obtain ⟨sd8, esd8, h⟩ := bn_some h
  refine wn_putS (pc := 16) C (Or.inl ⟨_, rfl⟩) g7.2 flX0_14 ffX0_0 rfl g7.1.1 g7.1.2.1 g7.1.2.2 dX0_init_16 ?_
  rw [← esd8]
  refine wn_aload_n (pc := 19) C 0 dX0_init_19 rfl rfl ?_
  obtain ⟨g9, h⟩ := gd_some h
  obtain ⟨S10, eS10, h⟩ := bn_some h
  obtain ⟨sd11, esd11, h⟩ := bn_some h
  refine wn_new (q := (RX5, TX5, 4)) (ty0 := tyX5) (pc := 20) C g9.1 rfl (by decide) rfl layX5 tyX5_ok dfX5 clX0_9 inX5 iniX5 g9.2 (Nat.le_of_ble_eq_true rfl) (Nat.le_of_ble_eq_true rfl) dX0_init_20 ?_
  rw [← eS10, ← esd11]
  refine wn_cs (cn2 := 12) (sn2 := 152) rfl rfl ?_
  refine wn_dup (pc := 23) C dX0_init_23 rfl ?_
  refine wn_iconst (v := 4) (pc := 24) C dX0_init_24 (by decide) ?_
  refine wn_bipush (v := 16) (pc := 25) C dX0_init_25 (by decide) ?_
  obtain ⟨g12, h⟩ := gd_some h
  obtain ⟨sd13, S14, cS14, h⟩ := bdn_some h
  refine wn_callI (b := sd8.1) (As := [.int 4, .int 16]) (st := [.ref (B + sd8.1), .ref (B + t)]) (pc := 27) C g12.1 g12.2 (CnX5_init_4_16 cS14) mX5_init iX5_init rfl kX0_11 rfl rfl (Nat.le_of_ble_eq_true rfl) ⟨(Nat.le_of_ble_eq_true rfl), (Nat.le_of_ble_eq_true rfl)⟩ ⟨(Nat.le_of_ble_eq_true rfl), (Nat.le_of_ble_eq_true rfl)⟩ dX0_init_27 ?_
  refine wn_cs (cn2 := 18) (sn2 := 224) rfl rfl ?_
  obtain ⟨g15, h⟩ := gd_some h
  obtain ⟨sd16, esd16, h⟩ := bn_some h
  refine wn_putS (pc := 30) C (Or.inl ⟨_, rfl⟩) g15.2 flX0_20 ffX0_1 rfl g15.1.1 g15.1.2.1 g15.1.2.2 dX0_init_30 ?_
  rw [← esd16]
  refine wn_aload_n (pc := 33) C 0 dX0_init_33 rfl rfl ?_
  obtain ⟨g17, h⟩ := gd_some h
  obtain ⟨S18, eS18, h⟩ := bn_some h
  obtain ⟨sd19, esd19, h⟩ := bn_some h
  refine wn_new (q := (RX5, TX5, 4)) (ty0 := tyX5) (pc := 34) C g17.1 rfl (by decide) rfl layX5 tyX5_ok dfX5 clX0_9 inX5 iniX5 g17.2 (Nat.le_of_ble_eq_true rfl) (Nat.le_of_ble_eq_true rfl) dX0_init_34 ?_
  rw [← eS18, ← esd19]
  refine wn_cs (cn2 := 19) (sn2 := 228) rfl rfl ?_
  refine wn_dup (pc := 37) C dX0_init_37 rfl ?_
  refine wn_bipush (v := 6) (pc := 38) C dX0_init_38 (by decide) ?_
  refine wn_bipush (v := 16) (pc := 40) C dX0_init_40 (by decide) ?_
  obtain ⟨g20, h⟩ := gd_some h
  obtain ⟨sd21, S22, cS22, h⟩ := bdn_some h
  refine wn_callI (b := sd16.1) (As := [.int 6, .int 16]) (st := [.ref (B + sd16.1), .ref (B + t)]) (pc := 42) C g20.1 g20.2 (CnX5_init_6_16 cS22) mX5_init iX5_init rfl kX0_11 rfl rfl (Nat.le_of_ble_eq_true rfl) ⟨(Nat.le_of_ble_eq_true rfl), (Nat.le_of_ble_eq_true rfl)⟩ ⟨(Nat.le_of_ble_eq_true rfl), (Nat.le_of_ble_eq_true rfl)⟩ dX0_init_42 ?_
  refine wn_cs (cn2 := 27) (sn2 := 336) rfl rfl ?_
  obtain ⟨g23, h⟩ := gd_some h
  obtain ⟨sd24, esd24, h⟩ := bn_some h
  refine wn_putS (pc := 45) C (Or.inl ⟨_, rfl⟩) g23.2 flX0_23 ffX0_2 rfl g23.1.1 g23.1.2.1 g23.1.2.2 dX0_init_45 ?_
  rw [← esd24]
  refine wn_aload_n (pc := 48) C 0 dX0_init_48 rfl rfl ?_
  obtain ⟨g25, h⟩ := gd_some h
  obtain ⟨S26, eS26, h⟩ := bn_some h
  obtain ⟨sd27, esd27, h⟩ := bn_some h
  refine wn_new (q := (RX5, TX5, 4)) (ty0 := tyX5) (pc := 49) C g25.1 rfl (by decide) rfl layX5 tyX5_ok dfX5 clX0_9 inX5 iniX5 g25.2 (Nat.le_of_ble_eq_true rfl) (Nat.le_of_ble_eq_true rfl) dX0_init_49 ?_
  rw [← eS26, ← esd27]
  refine wn_cs (cn2 := 28) (sn2 := 340) rfl rfl ?_
  refine wn_dup (pc := 52) C dX0_init_52 rfl ?_
  refine wn_iconst (v := 4) (pc := 53) C dX0_init_53 (by decide) ?_
  refine wn_bipush (v := 16) (pc := 54) C dX0_init_54 (by decide) ?_
  obtain ⟨g28, h⟩ := gd_some h
  obtain ⟨sd29, S30, cS30, h⟩ := bdn_some h
  refine wn_callI (b := sd24.1) (As := [.int 4, .int 16]) (st := [.ref (B + sd24.1), .ref (B + t)]) (pc := 56) C g28.1 g28.2 (CnX5_init_4_16 cS30) mX5_init iX5_init rfl kX0_11 rfl rfl (Nat.le_of_ble_eq_true rfl) ⟨(Nat.le_of_ble_eq_true rfl), (Nat.le_of_ble_eq_true rfl)⟩ ⟨(Nat.le_of_ble_eq_true rfl), (Nat.le_of_ble_eq_true rfl)⟩ dX0_init_56 ?_
  refine wn_cs (cn2 := 34) (sn2 := 412) rfl rfl ?_
  obtain ⟨g31, h⟩ := gd_some h
  obtain ⟨sd32, esd32, h⟩ := bn_some h
  refine wn_putS (pc := 59) C (Or.inl ⟨_, rfl⟩) g31.2 flX0_26 ffX0_3 rfl g31.1.1 g31.1.2.1 g31.1.2.2 dX0_init_59 ?_
  rw [← esd32]
  refine wn_aload_n (pc := 62) C 0 dX0_init_62 rfl rfl ?_
  obtain ⟨g33, h⟩ := gd_some h
  obtain ⟨S34, eS34, h⟩ := bn_some h
  obtain ⟨sd35, esd35, h⟩ := bn_some h
  refine wn_new (q := (RX5, TX5, 4)) (ty0 := tyX5) (pc := 63) C g33.1 rfl (by decide) rfl layX5 tyX5_ok dfX5 clX0_9 inX5 iniX5 g33.2 (Nat.le_of_ble_eq_true rfl) (Nat.le_of_ble_eq_true rfl) dX0_init_63 ?_
  rw [← eS34, ← esd35]
  refine wn_cs (cn2 := 35) (sn2 := 416) rfl rfl ?_
  refine wn_dup (pc := 66) C dX0_init_66 rfl ?_
  refine wn_bipush (v := 8) (pc := 67) C dX0_init_67 (by decide) ?_
  refine wn_bipush (v := 8) (pc := 69) C dX0_init_69 (by decide) ?_
  obtain ⟨g36, h⟩ := gd_some h
  obtain ⟨sd37, S38, cS38, h⟩ := bdn_some h
  refine wn_callI (b := sd32.1) (As := [.int 8, .int 8]) (st := [.ref (B + sd32.1), .ref (B + t)]) (pc := 71) C g36.1 g36.2 (CnX5_init_8_8 cS38) mX5_init iX5_init rfl kX0_11 rfl rfl (Nat.le_of_ble_eq_true rfl) ⟨(Nat.le_of_ble_eq_true rfl), (Nat.le_of_ble_eq_true rfl)⟩ ⟨(Nat.le_of_ble_eq_true rfl), (Nat.le_of_ble_eq_true rfl)⟩ dX0_init_71 ?_
  refine wn_cs (cn2 := 45) (sn2 := 496) rfl rfl ?_
  obtain ⟨g39, h⟩ := gd_some h
  obtain ⟨sd40, esd40, h⟩ := bn_some h
  refine wn_putS (pc := 74) C (Or.inl ⟨_, rfl⟩) g39.2 flX0_29 ffX0_4 rfl g39.1.1 g39.1.2.1 g39.1.2.2 dX0_init_74 ?_
  rw [← esd40]
  refine wn_aload_n (pc := 77) C 0 dX0_init_77 rfl rfl ?_
  refine wn_bipush (v := 8) (pc := 78) C dX0_init_78 (by decide) ?_
  obtain ⟨g41, h⟩ := gd_some h
  obtain ⟨S42, eS42, h⟩ := bn_some h
  obtain ⟨sd43, esd43, h⟩ := bn_some h
  refine wn_newI (pc := 80) C 8 g41.1 (by decide) (by decide) g41.2.1 g41.2.2 (Nat.le_of_ble_eq_true rfl) arr13 (Nat.le_of_ble_eq_true rfl) (Nat.le_of_ble_eq_true rfl) dX0_init_80 ?_
  rw [← eS42, ← esd43]
  refine wn_cs (cn2 := 46) (sn2 := 504) rfl rfl ?_
  obtain ⟨g44, h⟩ := gd_some h
  obtain ⟨sd45, esd45, h⟩ := bn_some h
  refine wn_putS (pc := 82) C (Or.inr ⟨_, rfl⟩) g44.2 flX0_32 ffX0_5 rfl g44.1.1 g44.1.2.1 g44.1.2.2 dX0_init_82 ?_
  rw [← esd45]
  refine wn_aload_n (pc := 85) C 0 dX0_init_85 rfl rfl ?_
  refine wn_bipush (v := 8) (pc := 86) C dX0_init_86 (by decide) ?_
  obtain ⟨g46, h⟩ := gd_some h
  obtain ⟨S47, eS47, h⟩ := bn_some h
  obtain ⟨sd48, esd48, h⟩ := bn_some h
  refine wn_newI (pc := 88) C 8 g46.1 (by decide) (by decide) g46.2.1 g46.2.2 (Nat.le_of_ble_eq_true rfl) arr13 (Nat.le_of_ble_eq_true rfl) (Nat.le_of_ble_eq_true rfl) dX0_init_88 ?_
  rw [← eS47, ← esd48]
  refine wn_cs (cn2 := 47) (sn2 := 512) rfl rfl ?_
  obtain ⟨g49, h⟩ := gd_some h
  obtain ⟨sd50, esd50, h⟩ := bn_some h
  refine wn_putS (pc := 90) C (Or.inr ⟨_, rfl⟩) g49.2 flX0_36 ffX0_6 rfl g49.1.1 g49.1.2.1 g49.1.2.2 dX0_init_90 ?_
  rw [← esd50]
  refine wn_aload_n (pc := 93) C 0 dX0_init_93 rfl rfl ?_
  refine wn_bipush (v := 8) (pc := 94) C dX0_init_94 (by decide) ?_
  obtain ⟨g51, h⟩ := gd_some h
  obtain ⟨S52, eS52, h⟩ := bn_some h
  obtain ⟨sd53, esd53, h⟩ := bn_some h
  refine wn_newI (pc := 96) C 8 g51.1 (by decide) (by decide) g51.2.1 g51.2.2 (Nat.le_of_ble_eq_true rfl) arr13 (Nat.le_of_ble_eq_true rfl) (Nat.le_of_ble_eq_true rfl) dX0_init_96 ?_
  rw [← eS52, ← esd53]
  refine wn_cs (cn2 := 48) (sn2 := 520) rfl rfl ?_
  obtain ⟨g54, h⟩ := gd_some h
  obtain ⟨sd55, esd55, h⟩ := bn_some h
  refine wn_putS (pc := 98) C (Or.inr ⟨_, rfl⟩) g54.2 flX0_39 ffX0_7 rfl g54.1.1 g54.1.2.1 g54.1.2.2 dX0_init_98 ?_
  rw [← esd55]
  refine wn_aload_n (pc := 101) C 0 dX0_init_101 rfl rfl ?_
  refine wn_bipush (v := 24) (pc := 102) C dX0_init_102 (by decide) ?_
  refine wn_bipush (v := 16) (pc := 104) C dX0_init_104 (by decide) ?_
  obtain ⟨g56, h⟩ := gd_some h
  obtain ⟨S57, eS57, h⟩ := bn_some h
  obtain ⟨sd58, esd58, h⟩ := bn_some h
  refine wn_newM (pc := 106) C 24 16 g56.1 (by decide) (by decide) (by decide) (by decide) g56.2.1 g56.2.2.1 g56.2.2.2.1 (rows_of g56.2.2.2.2) (Nat.le_of_ble_eq_true rfl) (Nat.le_of_ble_eq_true rfl) clX0_42 arr13 (Nat.le_of_ble_eq_true rfl) (Nat.le_of_ble_eq_true rfl) dX0_init_106 ?_
  rw [← eS57, ← esd58]
  refine wn_cs (cn2 := 73) (sn2 := 928) rfl rfl ?_
  obtain ⟨g59, h⟩ := gd_some h
  obtain ⟨sd60, esd60, h⟩ := bn_some h
  refine wn_putS (pc := 110) C (Or.inr ⟨_, rfl⟩) g59.2 flX0_44 ffX0_8 rfl g59.1.1 g59.1.2.1 g59.1.2.2 dX0_init_110 ?_
  rw [← esd60]
  refine wn_aload_n (pc := 113) C 0 dX0_init_113 rfl rfl ?_
  obtain ⟨g61, h⟩ := gd_some h
  obtain ⟨S62, u63, cS62, h⟩ := bd_some h
  refine wn_callV (b := t) (As := []) (st := []) (pc := 114) C g61.2.2 (CtX0_clear cS62) mX0_clear iX0_clear kX0_47 g61.1 g61.2.1 (by decide) rfl rfl rfl rfl (Nat.le_of_ble_eq_true rfl) ⟨(Nat.le_of_ble_eq_true rfl), (Nat.le_of_ble_eq_true rfl)⟩ ⟨(Nat.le_of_ble_eq_true rfl), (Nat.le_of_ble_eq_true rfl)⟩ dX0_init_114 ?_
  exact wn_vret C rfl h dX0_init_117
theorem CnX0_init {l : Launch} {cy : Nat → ClassId} {D : va_G} {B : Nat} {qs : (Nat → Nat) × (Nat → Nat)} {n : Nat} {sd sd' : Sd} {S S' : St} {t : Nat} (h : nX0_init n sd S t = some (sd', S')) : CtN l cy B D qs yX0_init cX0_init 1 2 42 73 928 [.ref (B + t)] sd S sd' S' :=
  CtN_of (own := RX0) mX0_init rfl rfl (Nat.le_of_ble_eq_true rfl) (fun G e1 e2 e3 C => by subst e1 e2 e3; exact wX0_init C h)
set_option maxRecDepth 100000 in
def nX7_init (n : Nat) (sd : Sd) (S : St) (t : Nat) : Option (Sd × St) :=
  gd (sd.1 = sd.1 + 0 ∧ sd.2.1 sd.1 = 14 ∧ sd.2.2.1 sd.1 = 14) (
  bn (aL S sd.1) (fun S2 : St =>
  bn (sdA sd) (fun sd3 : Sd =>
  gd (sd3.1 ≤ 999999 ∧ isK sd3 (sd.1) 14 ∧ ib 0 (sd3.2.2.1 (sd.1))) (
  bn (sL S2 (sd.1) (Int32.toNatClampNeg 0) (pkS 0)) (fun S5 : St =>
  gd (sd3.1 ≤ 999999 ∧ isK sd3 (sd.1) 14 ∧ ib 1 (sd3.2.2.1 (sd.1))) (
  bn (sL S5 (sd.1) (Int32.toNatClampNeg 1) (pkS 1)) (fun S7 : St =>
  gd (sd3.1 ≤ 999999 ∧ isK sd3 (sd.1) 14 ∧ ib 2 (sd3.2.2.1 (sd.1))) (
  bn (sL S7 (sd.1) (Int32.toNatClampNeg 2) (pkS 2)) (fun S9 : St =>
  gd (sd3.1 ≤ 999999 ∧ isK sd3 (sd.1) 14 ∧ ib 3 (sd3.2.2.1 (sd.1))) (
  bn (sL S9 (sd.1) (Int32.toNatClampNeg 3) (pkS 3)) (fun S11 : St =>
  gd (sd3.1 ≤ 999999 ∧ isK sd3 (sd.1) 14 ∧ ib 4 (sd3.2.2.1 (sd.1))) (
  bn (sL S11 (sd.1) (Int32.toNatClampNeg 4) (pkS 4)) (fun S13 : St =>
  gd (sd3.1 ≤ 999999 ∧ isK sd3 (sd.1) 14 ∧ ib 5 (sd3.2.2.1 (sd.1))) (
  bn (sL S13 (sd.1) (Int32.toNatClampNeg 5) (pkS 5)) (fun S15 : St =>
  gd (sd3.1 ≤ 999999 ∧ isK sd3 (sd.1) 14 ∧ ib 6 (sd3.2.2.1 (sd.1))) (
  bn (sL S15 (sd.1) (Int32.toNatClampNeg 6) (pkS 6)) (fun S17 : St =>
  gd (sd3.1 ≤ 999999 ∧ isK sd3 (sd.1) 14 ∧ ib 7 (sd3.2.2.1 (sd.1))) (
  bn (sL S17 (sd.1) (Int32.toNatClampNeg 7) (pkS 7)) (fun S19 : St =>
  gd (sd3.1 ≤ 999999 ∧ isK sd3 (sd.1) 14 ∧ ib 8 (sd3.2.2.1 (sd.1))) (
  bn (sL S19 (sd.1) (Int32.toNatClampNeg 8) (pkS 8)) (fun S21 : St =>
  gd (sd3.1 ≤ 999999 ∧ isK sd3 (sd.1) 14 ∧ ib 9 (sd3.2.2.1 (sd.1))) (
  bn (sL S21 (sd.1) (Int32.toNatClampNeg 9) (pkS 9)) (fun S23 : St =>
  gd (sd3.1 ≤ 999999 ∧ isK sd3 (sd.1) 14 ∧ ib 10 (sd3.2.2.1 (sd.1))) (
  bn (sL S23 (sd.1) (Int32.toNatClampNeg 10) (pkS 10)) (fun S25 : St =>
  gd (sd3.1 ≤ 999999 ∧ isK sd3 (sd.1) 14 ∧ ib 11 (sd3.2.2.1 (sd.1))) (
  bn (sL S25 (sd.1) (Int32.toNatClampNeg 11) (pkS 11)) (fun S27 : St =>
  gd (sd3.1 ≤ 999999 ∧ isK sd3 (sd.1) 14 ∧ ib 12 (sd3.2.2.1 (sd.1))) (
  bn (sL S27 (sd.1) (Int32.toNatClampNeg 12) (pkS 12)) (fun S29 : St =>
  gd (sd3.1 ≤ 999999 ∧ isK sd3 (sd.1) 14 ∧ ib 13 (sd3.2.2.1 (sd.1))) (
  bn (sL S29 (sd.1) (Int32.toNatClampNeg 13) (pkS 13)) (fun S31 : St =>
  gd (okN sd3 t 7 ∧ sd.1 ≠ 999999) (
  bn (sdP sd3 t 0 sd.1) (fun sd33 : Sd =>
  gd (sd33.1 = sd.1 + 1 ∧ sd33.2.1 sd33.1 = 13 ∧ sd33.2.2.1 sd33.1 = 1701) (
  bn (aI S31 sd33.1) (fun S35 : St =>
  bn (sdA sd33) (fun sd36 : Sd =>
  gd (okN sd36 t 7 ∧ sd33.1 ≠ 999999) (
  bn (sdP sd36 t 1 sd33.1) (fun sd38 : Sd =>
  gd (sd38.1 = sd.1 + 2 ∧ sd38.2.1 sd38.1 = 13 ∧ sd38.2.2.1 sd38.1 = 1701) (
  bn (aI S35 sd38.1) (fun S40 : St =>
  bn (sdA sd38) (fun sd41 : Sd =>
  gd (okN sd41 t 7 ∧ sd38.1 ≠ 999999) (
  bn (sdP sd41 t 2 sd38.1) (fun sd43 : Sd =>
  gd (sd43.1 = sd.1 + 3 ∧ sd43.2.1 sd43.1 = 14 ∧ sd43.2.2.1 sd43.1 = 1701) (
  bn (aL S40 sd43.1) (fun S45 : St =>
  bn (sdA sd43) (fun sd46 : Sd =>
  gd (okN sd46 t 7 ∧ sd43.1 ≠ 999999) (
  bn (sdP sd46 t 3 sd43.1) (fun sd48 : Sd =>
  gd (okN sd48 t 7) (
  bn (sI S45 t 4 0) (fun S50 : St =>
  some (sd48, S50)))))))))))))))))))))))))))))))))))))))))))))))))))
set_option maxRecDepth 100000 in
set_option maxHeartbeats 4000000 in
theorem wX7_init {G : Gx} {B : Nat} {qs : (Nat → Nat) × (Nat → Nat)} {n : Nat} {sd sd' : Sd} {S S' : St} {t : Nat} (C : Cn G B sd.1 qs cX7_init 1 RX7 none) (h : nX7_init n sd S t = some (sd', S')) : Wn G sd B (rmN 5 108 4 5117) 1 (QmN G B 4 5117 sd' S') 0 0 S 0 [(0, .ref (B + t))] [] := by
  unfold nX7_init at h
  refine wn_aload_n (pc := 0) C 0 dX7_init_0 rfl rfl ?_
  refine wn_objInit (pc := 1) C kOX7_3 oiI oiC (Nat.le_of_ble_eq_true rfl) (Nat.le_of_ble_eq_true rfl) dX7_init_1 ?_
  refine wn_aload_n (pc := 4) C 0 dX7_init_4 rfl rfl ?_
  refine wn_bipush (v := 14) (pc := 5) C dX7_init_5 (by decide) ?_
  obtain ⟨g1, h⟩ := gd_some h
  obtain ⟨S2, eS2, h⟩ := bn_some h
  obtain ⟨sd3, esd3, h⟩ := bn_some h
  refine wn_newL (pc := 7) C 14 g1.1 (by decide) (by decide) g1.2.1 g1.2.2 (Nat.le_of_ble_eq_true rfl) arr14 (Nat.le_of_ble_eq_true rfl) (Nat.le_of_ble_eq_true rfl) dX7_init_7 ?_
  rw [← eS2, ← esd3]
  refine wn_cs (cn2 := 1) (sn2 := 14) rfl rfl ?_
  refine wn_dup (pc := 9) C dX7_init_9 rfl ?_
  refine wn_iconst (v := 0) (pc := 10) C dX7_init_10 (by decide) ?_
  refine wn_ldcS (tx := "") (i := 0) (pc := 11) C (by decide) rfl rfl dX7_init_11 ?_
  refine wn_pack (st := [.int 0, .ref (B + sd.1), .ref (B + sd.1), .ref (B + t)]) (i := 0) (pc := 13) C (by decide) kX7_11 (Nat.le_of_ble_eq_true rfl) ⟨(Nat.le_of_ble_eq_true rfl), (Nat.le_of_ble_eq_true rfl)⟩ ⟨(Nat.le_of_ble_eq_true rfl), (Nat.le_of_ble_eq_true rfl)⟩ dX7_init_13 ?_
  obtain ⟨g4, h⟩ := gd_some h
  obtain ⟨S5, eS5, h⟩ := bn_some h
  refine wn_last (pc := 16) C g4.1 g4.2.1.1 g4.2.1.2 g4.2.2 dX7_init_16 ?_
  rw [← eS5]
  refine wn_dup (pc := 17) C dX7_init_17 rfl ?_
  refine wn_iconst (v := 1) (pc := 18) C dX7_init_18 (by decide) ?_
  refine wn_ldcS (tx := "") (i := 1) (pc := 19) C (by decide) rfl rfl dX7_init_19 ?_
  refine wn_pack (st := [.int 1, .ref (B + sd.1), .ref (B + sd.1), .ref (B + t)]) (i := 1) (pc := 21) C (by decide) kX7_11 (Nat.le_of_ble_eq_true rfl) ⟨(Nat.le_of_ble_eq_true rfl), (Nat.le_of_ble_eq_true rfl)⟩ ⟨(Nat.le_of_ble_eq_true rfl), (Nat.le_of_ble_eq_true rfl)⟩ dX7_init_21 ?_
  obtain ⟨g6, h⟩ := gd_some h
  obtain ⟨S7, eS7, h⟩ := bn_some h
  refine wn_last (pc := 24) C g6.1 g6.2.1.1 g6.2.1.2 g6.2.2 dX7_init_24 ?_
  rw [← eS7]
  refine wn_dup (pc := 25) C dX7_init_25 rfl ?_
  refine wn_iconst (v := 2) (pc := 26) C dX7_init_26 (by decide) ?_
  refine wn_ldcS (tx := "") (i := 2) (pc := 27) C (by decide) rfl rfl dX7_init_27 ?_
  refine wn_pack (st := [.int 2, .ref (B + sd.1), .ref (B + sd.1), .ref (B + t)]) (i := 2) (pc := 29) C (by decide) kX7_11 (Nat.le_of_ble_eq_true rfl) ⟨(Nat.le_of_ble_eq_true rfl), (Nat.le_of_ble_eq_true rfl)⟩ ⟨(Nat.le_of_ble_eq_true rfl), (Nat.le_of_ble_eq_true rfl)⟩ dX7_init_29 ?_
  obtain ⟨g8, h⟩ := gd_some h
  obtain ⟨S9, eS9, h⟩ := bn_some h
  refine wn_last (pc := 32) C g8.1 g8.2.1.1 g8.2.1.2 g8.2.2 dX7_init_32 ?_
  rw [← eS9]
  refine wn_dup (pc := 33) C dX7_init_33 rfl ?_
  refine wn_iconst (v := 3) (pc := 34) C dX7_init_34 (by decide) ?_
  refine wn_ldcS (tx := "") (i := 3) (pc := 35) C (by decide) rfl rfl dX7_init_35 ?_
  refine wn_pack (st := [.int 3, .ref (B + sd.1), .ref (B + sd.1), .ref (B + t)]) (i := 3) (pc := 37) C (by decide) kX7_11 (Nat.le_of_ble_eq_true rfl) ⟨(Nat.le_of_ble_eq_true rfl), (Nat.le_of_ble_eq_true rfl)⟩ ⟨(Nat.le_of_ble_eq_true rfl), (Nat.le_of_ble_eq_true rfl)⟩ dX7_init_37 ?_
  obtain ⟨g10, h⟩ := gd_some h
  obtain ⟨S11, eS11, h⟩ := bn_some h
  refine wn_last (pc := 40) C g10.1 g10.2.1.1 g10.2.1.2 g10.2.2 dX7_init_40 ?_
  rw [← eS11]
  refine wn_dup (pc := 41) C dX7_init_41 rfl ?_
  refine wn_iconst (v := 4) (pc := 42) C dX7_init_42 (by decide) ?_
  refine wn_ldcS (tx := "") (i := 4) (pc := 43) C (by decide) rfl rfl dX7_init_43 ?_
  refine wn_pack (st := [.int 4, .ref (B + sd.1), .ref (B + sd.1), .ref (B + t)]) (i := 4) (pc := 45) C (by decide) kX7_11 (Nat.le_of_ble_eq_true rfl) ⟨(Nat.le_of_ble_eq_true rfl), (Nat.le_of_ble_eq_true rfl)⟩ ⟨(Nat.le_of_ble_eq_true rfl), (Nat.le_of_ble_eq_true rfl)⟩ dX7_init_45 ?_
  obtain ⟨g12, h⟩ := gd_some h
  obtain ⟨S13, eS13, h⟩ := bn_some h
  refine wn_last (pc := 48) C g12.1 g12.2.1.1 g12.2.1.2 g12.2.2 dX7_init_48 ?_
  rw [← eS13]
  refine wn_dup (pc := 49) C dX7_init_49 rfl ?_
  refine wn_iconst (v := 5) (pc := 50) C dX7_init_50 (by decide) ?_
  refine wn_ldcS (tx := "") (i := 5) (pc := 51) C (by decide) rfl rfl dX7_init_51 ?_
  refine wn_pack (st := [.int 5, .ref (B + sd.1), .ref (B + sd.1), .ref (B + t)]) (i := 5) (pc := 53) C (by decide) kX7_11 (Nat.le_of_ble_eq_true rfl) ⟨(Nat.le_of_ble_eq_true rfl), (Nat.le_of_ble_eq_true rfl)⟩ ⟨(Nat.le_of_ble_eq_true rfl), (Nat.le_of_ble_eq_true rfl)⟩ dX7_init_53 ?_
  obtain ⟨g14, h⟩ := gd_some h
  obtain ⟨S15, eS15, h⟩ := bn_some h
  refine wn_last (pc := 56) C g14.1 g14.2.1.1 g14.2.1.2 g14.2.2 dX7_init_56 ?_
  rw [← eS15]
  refine wn_dup (pc := 57) C dX7_init_57 rfl ?_
  refine wn_bipush (v := 6) (pc := 58) C dX7_init_58 (by decide) ?_
  refine wn_ldcS (tx := "") (i := 6) (pc := 60) C (by decide) rfl rfl dX7_init_60 ?_
  refine wn_pack (st := [.int 6, .ref (B + sd.1), .ref (B + sd.1), .ref (B + t)]) (i := 6) (pc := 62) C (by decide) kX7_11 (Nat.le_of_ble_eq_true rfl) ⟨(Nat.le_of_ble_eq_true rfl), (Nat.le_of_ble_eq_true rfl)⟩ ⟨(Nat.le_of_ble_eq_true rfl), (Nat.le_of_ble_eq_true rfl)⟩ dX7_init_62 ?_
  obtain ⟨g16, h⟩ := gd_some h
  obtain ⟨S17, eS17, h⟩ := bn_some h
  refine wn_last (pc := 65) C g16.1 g16.2.1.1 g16.2.1.2 g16.2.2 dX7_init_65 ?_
  rw [← eS17]
  refine wn_dup (pc := 66) C dX7_init_66 rfl ?_
  refine wn_bipush (v := 7) (pc := 67) C dX7_init_67 (by decide) ?_
  refine wn_ldcS (tx := "") (i := 7) (pc := 69) C (by decide) rfl rfl dX7_init_69 ?_
  refine wn_pack (st := [.int 7, .ref (B + sd.1), .ref (B + sd.1), .ref (B + t)]) (i := 7) (pc := 71) C (by decide) kX7_11 (Nat.le_of_ble_eq_true rfl) ⟨(Nat.le_of_ble_eq_true rfl), (Nat.le_of_ble_eq_true rfl)⟩ ⟨(Nat.le_of_ble_eq_true rfl), (Nat.le_of_ble_eq_true rfl)⟩ dX7_init_71 ?_
  obtain ⟨g18, h⟩ := gd_some h
  obtain ⟨S19, eS19, h⟩ := bn_some h
  refine wn_last (pc := 74) C g18.1 g18.2.1.1 g18.2.1.2 g18.2.2 dX7_init_74 ?_
  rw [← eS19]
  refine wn_dup (pc := 75) C dX7_init_75 rfl ?_
  refine wn_bipush (v := 8) (pc := 76) C dX7_init_76 (by decide) ?_
  refine wn_ldcS (tx := "") (i := 8) (pc := 78) C (by decide) rfl rfl dX7_init_78 ?_
  refine wn_pack (st := [.int 8, .ref (B + sd.1), .ref (B + sd.1), .ref (B + t)]) (i := 8) (pc := 80) C (by decide) kX7_11 (Nat.le_of_ble_eq_true rfl) ⟨(Nat.le_of_ble_eq_true rfl), (Nat.le_of_ble_eq_true rfl)⟩ ⟨(Nat.le_of_ble_eq_true rfl), (Nat.le_of_ble_eq_true rfl)⟩ dX7_init_80 ?_
  obtain ⟨g20, h⟩ := gd_some h
  obtain ⟨S21, eS21, h⟩ := bn_some h
  refine wn_last (pc := 83) C g20.1 g20.2.1.1 g20.2.1.2 g20.2.2 dX7_init_83 ?_
  rw [← eS21]
  refine wn_dup (pc := 84) C dX7_init_84 rfl ?_
  refine wn_bipush (v := 9) (pc := 85) C dX7_init_85 (by decide) ?_
  refine wn_ldcS (tx := "") (i := 9) (pc := 87) C (by decide) rfl rfl dX7_init_87 ?_
  refine wn_pack (st := [.int 9, .ref (B + sd.1), .ref (B + sd.1), .ref (B + t)]) (i := 9) (pc := 89) C (by decide) kX7_11 (Nat.le_of_ble_eq_true rfl) ⟨(Nat.le_of_ble_eq_true rfl), (Nat.le_of_ble_eq_true rfl)⟩ ⟨(Nat.le_of_ble_eq_true rfl), (Nat.le_of_ble_eq_true rfl)⟩ dX7_init_89 ?_
  obtain ⟨g22, h⟩ := gd_some h
  obtain ⟨S23, eS23, h⟩ := bn_some h
  refine wn_last (pc := 92) C g22.1 g22.2.1.1 g22.2.1.2 g22.2.2 dX7_init_92 ?_
  rw [← eS23]
  refine wn_dup (pc := 93) C dX7_init_93 rfl ?_
  refine wn_bipush (v := 10) (pc := 94) C dX7_init_94 (by decide) ?_
  refine wn_ldcS (tx := "") (i := 10) (pc := 96) C (by decide) rfl rfl dX7_init_96 ?_
  refine wn_pack (st := [.int 10, .ref (B + sd.1), .ref (B + sd.1), .ref (B + t)]) (i := 10) (pc := 98) C (by decide) kX7_11 (Nat.le_of_ble_eq_true rfl) ⟨(Nat.le_of_ble_eq_true rfl), (Nat.le_of_ble_eq_true rfl)⟩ ⟨(Nat.le_of_ble_eq_true rfl), (Nat.le_of_ble_eq_true rfl)⟩ dX7_init_98 ?_
  obtain ⟨g24, h⟩ := gd_some h
  obtain ⟨S25, eS25, h⟩ := bn_some h
  refine wn_last (pc := 101) C g24.1 g24.2.1.1 g24.2.1.2 g24.2.2 dX7_init_101 ?_
  rw [← eS25]
  refine wn_dup (pc := 102) C dX7_init_102 rfl ?_
  refine wn_bipush (v := 11) (pc := 103) C dX7_init_103 (by decide) ?_
  refine wn_ldcS (tx := "") (i := 11) (pc := 105) C (by decide) rfl rfl dX7_init_105 ?_
  refine wn_pack (st := [.int 11, .ref (B + sd.1), .ref (B + sd.1), .ref (B + t)]) (i := 11) (pc := 107) C (by decide) kX7_11 (Nat.le_of_ble_eq_true rfl) ⟨(Nat.le_of_ble_eq_true rfl), (Nat.le_of_ble_eq_true rfl)⟩ ⟨(Nat.le_of_ble_eq_true rfl), (Nat.le_of_ble_eq_true rfl)⟩ dX7_init_107 ?_
  obtain ⟨g26, h⟩ := gd_some h
  obtain ⟨S27, eS27, h⟩ := bn_some h
  refine wn_last (pc := 110) C g26.1 g26.2.1.1 g26.2.1.2 g26.2.2 dX7_init_110 ?_
  rw [← eS27]
  refine wn_dup (pc := 111) C dX7_init_111 rfl ?_
  refine wn_bipush (v := 12) (pc := 112) C dX7_init_112 (by decide) ?_
  refine wn_ldcS (tx := "") (i := 12) (pc := 114) C (by decide) rfl rfl dX7_init_114 ?_
  refine wn_pack (st := [.int 12, .ref (B + sd.1), .ref (B + sd.1), .ref (B + t)]) (i := 12) (pc := 116) C (by decide) kX7_11 (Nat.le_of_ble_eq_true rfl) ⟨(Nat.le_of_ble_eq_true rfl), (Nat.le_of_ble_eq_true rfl)⟩ ⟨(Nat.le_of_ble_eq_true rfl), (Nat.le_of_ble_eq_true rfl)⟩ dX7_init_116 ?_
  obtain ⟨g28, h⟩ := gd_some h
  obtain ⟨S29, eS29, h⟩ := bn_some h
  refine wn_last (pc := 119) C g28.1 g28.2.1.1 g28.2.1.2 g28.2.2 dX7_init_119 ?_
  rw [← eS29]
  refine wn_dup (pc := 120) C dX7_init_120 rfl ?_
  refine wn_bipush (v := 13) (pc := 121) C dX7_init_121 (by decide) ?_
  refine wn_ldcS (tx := "") (i := 13) (pc := 123) C (by decide) rfl rfl dX7_init_123 ?_
  refine wn_pack (st := [.int 13, .ref (B + sd.1), .ref (B + sd.1), .ref (B + t)]) (i := 13) (pc := 125) C (by decide) kX7_11 (Nat.le_of_ble_eq_true rfl) ⟨(Nat.le_of_ble_eq_true rfl), (Nat.le_of_ble_eq_true rfl)⟩ ⟨(Nat.le_of_ble_eq_true rfl), (Nat.le_of_ble_eq_true rfl)⟩ dX7_init_125 ?_
  obtain ⟨g30, h⟩ := gd_some h
  obtain ⟨S31, eS31, h⟩ := bn_some h
  refine wn_last (pc := 128) C g30.1 g30.2.1.1 g30.2.1.2 g30.2.2 dX7_init_128 ?_
  rw [← eS31]
  obtain ⟨g32, h⟩ := gd_some h
  obtain ⟨sd33, esd33, h⟩ := bn_some h
  refine wn_putS (pc := 129) C (Or.inr ⟨_, rfl⟩) g32.2 flX7_43 ffX7_0 rfl g32.1.1 g32.1.2.1 g32.1.2.2 dX7_init_129 ?_
  rw [← esd33]
  refine wn_aload_n (pc := 132) C 0 dX7_init_132 rfl rfl ?_
  refine wn_sipush (v := 1701) (pc := 133) C dX7_init_133 (by decide) ?_
  obtain ⟨g34, h⟩ := gd_some h
  obtain ⟨S35, eS35, h⟩ := bn_some h
  obtain ⟨sd36, esd36, h⟩ := bn_some h
  refine wn_newI (pc := 136) C 1701 g34.1 (by decide) (by decide) g34.2.1 g34.2.2 (Nat.le_of_ble_eq_true rfl) arr13 (Nat.le_of_ble_eq_true rfl) (Nat.le_of_ble_eq_true rfl) dX7_init_136 ?_
  rw [← eS35, ← esd36]
  refine wn_cs (cn2 := 2) (sn2 := 1715) rfl rfl ?_
  obtain ⟨g37, h⟩ := gd_some h
  obtain ⟨sd38, esd38, h⟩ := bn_some h
  refine wn_putS (pc := 138) C (Or.inr ⟨_, rfl⟩) g37.2 flX7_47 ffX7_1 rfl g37.1.1 g37.1.2.1 g37.1.2.2 dX7_init_138 ?_
  rw [← esd38]
  refine wn_aload_n (pc := 141) C 0 dX7_init_141 rfl rfl ?_
  refine wn_sipush (v := 1701) (pc := 142) C dX7_init_142 (by decide) ?_
  obtain ⟨g39, h⟩ := gd_some h
  obtain ⟨S40, eS40, h⟩ := bn_some h
  obtain ⟨sd41, esd41, h⟩ := bn_some h
  refine wn_newI (pc := 145) C 1701 g39.1 (by decide) (by decide) g39.2.1 g39.2.2 (Nat.le_of_ble_eq_true rfl) arr13 (Nat.le_of_ble_eq_true rfl) (Nat.le_of_ble_eq_true rfl) dX7_init_145 ?_
  rw [← eS40, ← esd41]
  refine wn_cs (cn2 := 3) (sn2 := 3416) rfl rfl ?_
  obtain ⟨g42, h⟩ := gd_some h
  obtain ⟨sd43, esd43, h⟩ := bn_some h
  refine wn_putS (pc := 147) C (Or.inr ⟨_, rfl⟩) g42.2 flX7_51 ffX7_2 rfl g42.1.1 g42.1.2.1 g42.1.2.2 dX7_init_147 ?_
  rw [← esd43]
  refine wn_aload_n (pc := 150) C 0 dX7_init_150 rfl rfl ?_
  refine wn_sipush (v := 1701) (pc := 151) C dX7_init_151 (by decide) ?_
  obtain ⟨g44, h⟩ := gd_some h
  obtain ⟨S45, eS45, h⟩ := bn_some h
  obtain ⟨sd46, esd46, h⟩ := bn_some h
  refine wn_newL (pc := 154) C 1701 g44.1 (by decide) (by decide) g44.2.1 g44.2.2 (Nat.le_of_ble_eq_true rfl) arr14 (Nat.le_of_ble_eq_true rfl) (Nat.le_of_ble_eq_true rfl) dX7_init_154 ?_
  rw [← eS45, ← esd46]
  refine wn_cs (cn2 := 4) (sn2 := 5117) rfl rfl ?_
  obtain ⟨g47, h⟩ := gd_some h
  obtain ⟨sd48, esd48, h⟩ := bn_some h
  refine wn_putS (pc := 156) C (Or.inr ⟨_, rfl⟩) g47.2 flX7_54 ffX7_3 rfl g47.1.1 g47.1.2.1 g47.1.2.2 dX7_init_156 ?_
  rw [← esd48]
  refine wn_aload_n (pc := 159) C 0 dX7_init_159 rfl rfl ?_
  refine wn_iconst (v := 0) (pc := 160) C dX7_init_160 (by decide) ?_
  obtain ⟨g49, h⟩ := gd_some h
  obtain ⟨S50, eS50, h⟩ := bn_some h
  refine wn_putI (pc := 161) C flX7_57 fpX7_4 rfl g49.1 g49.2.1 g49.2.2 dX7_init_161 ?_
  rw [← eS50]
  exact wn_vret C rfl h dX7_init_164
theorem CnX7_init {l : Launch} {cy : Nat → ClassId} {D : va_G} {B : Nat} {qs : (Nat → Nat) × (Nat → Nat)} {n : Nat} {sd sd' : Sd} {S S' : St} {t : Nat} (h : nX7_init n sd S t = some (sd', S')) : CtN l cy B D qs yX7_init cX7_init 1 5 108 4 5117 [.ref (B + t)] sd S sd' S' :=
  CtN_of (own := RX7) mX7_init rfl rfl (Nat.le_of_ble_eq_true rfl) (fun G e1 e2 e3 C => by subst e1 e2 e3; exact wX7_init C h)
set_option maxRecDepth 100000 in
def nX3_init (n : Nat) (sd : Sd) (S : St) (t : Nat) (a1 : Nat) : Option (Sd × St) :=
  gd (okN sd t 3 ∧ a1 ≠ 999999) (
  bn (sR S t 1 a1) (fun S2 : St =>
  gd (sd.1 = sd.1 + 0 ∧ sd.2.1 sd.1 = 7) (
  bn (aO S2 sd.1) (fun S4 : St =>
  bn (sdO sd) (fun sd5 : Sd =>
  gd (sd5.1 = sd.1 + 1 ∧ sd5.1 ≤ 999999) (
  bdn (nX7_init n sd5 S4 (sd.1)) (fun sd7 S8 =>
  gd (okN sd7 t 3 ∧ sd.1 ≠ 999999) (
  bn (sdP sd7 t 0 sd.1) (fun sd10 : Sd =>
  gd (okN sd10 t 3) (
  bn (sI S8 t 7 0) (fun S12 : St =>
  gd (okN sd10 t 3) (
  bn (sI S12 t 8 (-1)) (fun S14 : St =>
  some (sd10, S14))))))))))))))
set_option maxRecDepth 100000 in
set_option maxHeartbeats 4000000 in
theorem wX3_init {G : Gx} {B : Nat} {qs : (Nat → Nat) × (Nat → Nat)} {n : Nat} {sd sd' : Sd} {S S' : St} {t : Nat} {a1 : Nat} (C : Cn G B sd.1 qs cX3_init 2 RX3 none) (h : nX3_init n sd S t a1 = some (sd', S')) : Wn G sd B (rmN 6 128 5 5123) 2 (QmN G B 5 5123 sd' S') 0 0 S 0 [(0, .ref (B + t)), (1, .ref (B + a1))] [] := by
  unfold nX3_init at h
  refine wn_aload_n (pc := 0) C 0 dX3_init_0 rfl rfl ?_
  refine wn_objInit (pc := 1) C kOX3_3 oiI oiC (Nat.le_of_ble_eq_true rfl) (Nat.le_of_ble_eq_true rfl) dX3_init_1 ?_
  refine wn_aload_n (pc := 4) C 0 dX3_init_4 rfl rfl ?_
  refine wn_aload_n (pc := 5) C 1 dX3_init_5 rfl rfl ?_
  obtain ⟨g1, h⟩ := gd_some h
  obtain ⟨S2, eS2, h⟩ := bn_some h
  refine wn_putD (pc := 6) C (Or.inl ⟨_, rfl⟩) g1.2 flX3_9 fpX3_1 rfl g1.1.1 g1.1.2.1 g1.1.2.2 dX3_init_6 ?_
  rw [← eS2]
  refine wn_aload_n (pc := 9) C 0 dX3_init_9 rfl rfl ?_
  obtain ⟨g3, h⟩ := gd_some h
  obtain ⟨S4, eS4, h⟩ := bn_some h
  obtain ⟨sd5, esd5, h⟩ := bn_some h
  refine wn_new (q := (RX7, TX7, 6)) (ty0 := tyX7) (pc := 10) C g3.1 rfl (by decide) rfl layX7 tyX7_ok dfX7 clX3_15 inX7 iniX7 g3.2 (Nat.le_of_ble_eq_true rfl) (Nat.le_of_ble_eq_true rfl) dX3_init_10 ?_
  rw [← eS4, ← esd5]
  refine wn_cs (cn2 := 1) (sn2 := 6) rfl rfl ?_
  refine wn_dup (pc := 13) C dX3_init_13 rfl ?_
  obtain ⟨g6, h⟩ := gd_some h
  obtain ⟨sd7, S8, cS8, h⟩ := bdn_some h
  refine wn_callI (b := sd.1) (As := []) (st := [.ref (B + sd.1), .ref (B + t)]) (pc := 14) C g6.1 g6.2 (CnX7_init cS8) mX7_init iX7_init rfl kX3_17 rfl rfl (Nat.le_of_ble_eq_true rfl) ⟨(Nat.le_of_ble_eq_true rfl), (Nat.le_of_ble_eq_true rfl)⟩ ⟨(Nat.le_of_ble_eq_true rfl), (Nat.le_of_ble_eq_true rfl)⟩ dX3_init_14 ?_
  refine wn_cs (cn2 := 5) (sn2 := 5123) rfl rfl ?_
  obtain ⟨g9, h⟩ := gd_some h
  obtain ⟨sd10, esd10, h⟩ := bn_some h
  refine wn_putS (pc := 17) C (Or.inl ⟨_, rfl⟩) g9.2 flX3_18 ffX3_0 rfl g9.1.1 g9.1.2.1 g9.1.2.2 dX3_init_17 ?_
  rw [← esd10]
  refine wn_aload_n (pc := 20) C 0 dX3_init_20 rfl rfl ?_
  refine wn_iconst (v := 0) (pc := 21) C dX3_init_21 (by decide) ?_
  obtain ⟨g11, h⟩ := gd_some h
  obtain ⟨S12, eS12, h⟩ := bn_some h
  refine wn_putI (pc := 22) C flX3_22 fpX3_7 rfl g11.1 g11.2.1 g11.2.2 dX3_init_22 ?_
  rw [← eS12]
  refine wn_aload_n (pc := 25) C 0 dX3_init_25 rfl rfl ?_
  refine wn_iconst (v := (-1)) (pc := 26) C dX3_init_26 (by decide) ?_
  obtain ⟨g13, h⟩ := gd_some h
  obtain ⟨S14, eS14, h⟩ := bn_some h
  refine wn_putI (pc := 27) C flX3_26 fpX3_8 rfl g13.1 g13.2.1 g13.2.2 dX3_init_27 ?_
  rw [← eS14]
  exact wn_vret C rfl h dX3_init_30
theorem CnX3_init {l : Launch} {cy : Nat → ClassId} {D : va_G} {B : Nat} {qs : (Nat → Nat) × (Nat → Nat)} {n : Nat} {sd sd' : Sd} {S S' : St} {t : Nat} {a1 : Nat} (h : nX3_init n sd S t a1 = some (sd', S')) : CtN l cy B D qs yX3_init cX3_init 2 6 128 5 5123 [.ref (B + t), .ref (B + a1)] sd S sd' S' :=
  CtN_of (own := RX3) mX3_init rfl rfl (Nat.le_of_ble_eq_true rfl) (fun G e1 e2 e3 C => by subst e1 e2 e3; exact wX3_init C h)
set_option maxRecDepth 100000 in
def nX2_init (n : Nat) (sd : Sd) (S : St) (t : Nat) : Option (Sd × St) :=
  gd (sd.1 = sd.1 + 0 ∧ sd.2.1 sd.1 = 13 ∧ sd.2.2.1 sd.1 = 72) (
  bn (aI S sd.1) (fun S2 : St =>
  bn (sdA sd) (fun sd3 : Sd =>
  gd (okN sd3 t 2 ∧ sd.1 ≠ 999999) (
  bn (sdP sd3 t 0 sd.1) (fun sd5 : Sd =>
  gd (sd5.1 = sd.1 + 1 ∧ sd5.2.1 sd5.1 = 13 ∧ sd5.2.2.1 sd5.1 = 72) (
  bn (aI S2 sd5.1) (fun S7 : St =>
  bn (sdA sd5) (fun sd8 : Sd =>
  gd (okN sd8 t 2 ∧ sd5.1 ≠ 999999) (
  bn (sdP sd8 t 1 sd5.1) (fun sd10 : Sd =>
  gd (sd10.1 = sd.1 + 2 ∧ sd10.2.1 sd10.1 = 17 ∧ sd10.2.2.1 sd10.1 = 72 ∧ sd10.1 + 1 + 72 < 999999 ∧ rowsB sd10 72 16 = true) (
  bn (aM S7 sd10.1 72) (fun S12 : St =>
  bn (sdM2 sd10 72) (fun sd13 : Sd =>
  gd (okN sd13 t 2 ∧ sd10.1 ≠ 999999) (
  bn (sdP sd13 t 2 sd10.1) (fun sd15 : Sd =>
  gd (sd15.1 = sd.1 + 75 ∧ sd15.2.1 sd15.1 = 13 ∧ sd15.2.2.1 sd15.1 = 8) (
  bn (aI S12 sd15.1) (fun S17 : St =>
  bn (sdA sd15) (fun sd18 : Sd =>
  gd (okN sd18 t 2 ∧ sd15.1 ≠ 999999) (
  bn (sdP sd18 t 3 sd15.1) (fun sd20 : Sd =>
  gd (okN sd20 t 2) (
  bn (sI S17 t 4 0) (fun S22 : St =>
  some (sd20, S22)))))))))))))))))))))))
set_option maxRecDepth 100000 in
set_option maxHeartbeats 4000000 in
theorem wX2_init {G : Gx} {B : Nat} {qs : (Nat → Nat) × (Nat → Nat)} {n : Nat} {sd sd' : Sd} {S S' : St} {t : Nat} (C : Cn G B sd.1 qs cX2_init 1 RX2 none) (h : nX2_init n sd S t = some (sd', S')) : Wn G sd B (rmN 1 20 76 1376) 1 (QmN G B 76 1376 sd' S') 0 0 S 0 [(0, .ref (B + t))] [] := by
  unfold nX2_init at h
  refine wn_aload_n (pc := 0) C 0 dX2_init_0 rfl rfl ?_
  refine wn_objInit (pc := 1) C kOX2_3 oiI oiC (Nat.le_of_ble_eq_true rfl) (Nat.le_of_ble_eq_true rfl) dX2_init_1 ?_
  refine wn_aload_n (pc := 4) C 0 dX2_init_4 rfl rfl ?_
  refine wn_bipush (v := 72) (pc := 5) C dX2_init_5 (by decide) ?_
  obtain ⟨g1, h⟩ := gd_some h
  obtain ⟨S2, eS2, h⟩ := bn_some h
  obtain ⟨sd3, esd3, h⟩ := bn_some h
  refine wn_newI (pc := 7) C 72 g1.1 (by decide) (by decide) g1.2.1 g1.2.2 (Nat.le_of_ble_eq_true rfl) arr13 (Nat.le_of_ble_eq_true rfl) (Nat.le_of_ble_eq_true rfl) dX2_init_7 ?_
  rw [← eS2, ← esd3]
  refine wn_cs (cn2 := 1) (sn2 := 72) rfl rfl ?_
  obtain ⟨g4, h⟩ := gd_some h
  obtain ⟨sd5, esd5, h⟩ := bn_some h
  refine wn_putS (pc := 9) C (Or.inr ⟨_, rfl⟩) g4.2 flX2_9 ffX2_0 rfl g4.1.1 g4.1.2.1 g4.1.2.2 dX2_init_9 ?_
  rw [← esd5]
  refine wn_aload_n (pc := 12) C 0 dX2_init_12 rfl rfl ?_
  refine wn_bipush (v := 72) (pc := 13) C dX2_init_13 (by decide) ?_
  obtain ⟨g6, h⟩ := gd_some h
  obtain ⟨S7, eS7, h⟩ := bn_some h
  obtain ⟨sd8, esd8, h⟩ := bn_some h
  refine wn_newI (pc := 15) C 72 g6.1 (by decide) (by decide) g6.2.1 g6.2.2 (Nat.le_of_ble_eq_true rfl) arr13 (Nat.le_of_ble_eq_true rfl) (Nat.le_of_ble_eq_true rfl) dX2_init_15 ?_
  rw [← eS7, ← esd8]
  refine wn_cs (cn2 := 2) (sn2 := 144) rfl rfl ?_
  obtain ⟨g9, h⟩ := gd_some h
  obtain ⟨sd10, esd10, h⟩ := bn_some h
  refine wn_putS (pc := 17) C (Or.inr ⟨_, rfl⟩) g9.2 flX2_15 ffX2_1 rfl g9.1.1 g9.1.2.1 g9.1.2.2 dX2_init_17 ?_
  rw [← esd10]
  refine wn_aload_n (pc := 20) C 0 dX2_init_20 rfl rfl ?_
  refine wn_bipush (v := 72) (pc := 21) C dX2_init_21 (by decide) ?_
  refine wn_bipush (v := 16) (pc := 23) C dX2_init_23 (by decide) ?_
  obtain ⟨g11, h⟩ := gd_some h
  obtain ⟨S12, eS12, h⟩ := bn_some h
  obtain ⟨sd13, esd13, h⟩ := bn_some h
  refine wn_newM (pc := 25) C 72 16 g11.1 (by decide) (by decide) (by decide) (by decide) g11.2.1 g11.2.2.1 g11.2.2.2.1 (rows_of g11.2.2.2.2) (Nat.le_of_ble_eq_true rfl) (Nat.le_of_ble_eq_true rfl) clX2_18 arr13 (Nat.le_of_ble_eq_true rfl) (Nat.le_of_ble_eq_true rfl) dX2_init_25 ?_
  rw [← eS12, ← esd13]
  refine wn_cs (cn2 := 75) (sn2 := 1368) rfl rfl ?_
  obtain ⟨g14, h⟩ := gd_some h
  obtain ⟨sd15, esd15, h⟩ := bn_some h
  refine wn_putS (pc := 29) C (Or.inr ⟨_, rfl⟩) g14.2 flX2_20 ffX2_2 rfl g14.1.1 g14.1.2.1 g14.1.2.2 dX2_init_29 ?_
  rw [← esd15]
  refine wn_aload_n (pc := 32) C 0 dX2_init_32 rfl rfl ?_
  refine wn_bipush (v := 8) (pc := 33) C dX2_init_33 (by decide) ?_
  obtain ⟨g16, h⟩ := gd_some h
  obtain ⟨S17, eS17, h⟩ := bn_some h
  obtain ⟨sd18, esd18, h⟩ := bn_some h
  refine wn_newI (pc := 35) C 8 g16.1 (by decide) (by decide) g16.2.1 g16.2.2 (Nat.le_of_ble_eq_true rfl) arr13 (Nat.le_of_ble_eq_true rfl) (Nat.le_of_ble_eq_true rfl) dX2_init_35 ?_
  rw [← eS17, ← esd18]
  refine wn_cs (cn2 := 76) (sn2 := 1376) rfl rfl ?_
  obtain ⟨g19, h⟩ := gd_some h
  obtain ⟨sd20, esd20, h⟩ := bn_some h
  refine wn_putS (pc := 37) C (Or.inr ⟨_, rfl⟩) g19.2 flX2_23 ffX2_3 rfl g19.1.1 g19.1.2.1 g19.1.2.2 dX2_init_37 ?_
  rw [← esd20]
  refine wn_aload_n (pc := 40) C 0 dX2_init_40 rfl rfl ?_
  refine wn_iconst (v := 0) (pc := 41) C dX2_init_41 (by decide) ?_
  obtain ⟨g21, h⟩ := gd_some h
  obtain ⟨S22, eS22, h⟩ := bn_some h
  refine wn_putI (pc := 42) C flX2_26 fpX2_4 rfl g21.1 g21.2.1 g21.2.2 dX2_init_42 ?_
  rw [← eS22]
  exact wn_vret C rfl h dX2_init_45
theorem CnX2_init {l : Launch} {cy : Nat → ClassId} {D : va_G} {B : Nat} {qs : (Nat → Nat) × (Nat → Nat)} {n : Nat} {sd sd' : Sd} {S S' : St} {t : Nat} (h : nX2_init n sd S t = some (sd', S')) : CtN l cy B D qs yX2_init cX2_init 1 1 20 76 1376 [.ref (B + t)] sd S sd' S' :=
  CtN_of (own := RX2) mX2_init rfl rfl (Nat.le_of_ble_eq_true rfl) (fun G e1 e2 e3 C => by subst e1 e2 e3; exact wX2_init C h)
set_option maxRecDepth 100000 in
def nX1_init (n : Nat) (sd : Sd) (S : St) (t : Nat) : Option (Sd × St) :=
  gd (sd.1 = sd.1 + 0 ∧ sd.2.1 sd.1 = 13 ∧ sd.2.2.1 sd.1 = 40) (
  bn (aI S sd.1) (fun S2 : St =>
  bn (sdA sd) (fun sd3 : Sd =>
  gd (okN sd3 t 1 ∧ sd.1 ≠ 999999) (
  bn (sdP sd3 t 0 sd.1) (fun sd5 : Sd =>
  gd (sd5.1 = sd.1 + 1 ∧ sd5.2.1 sd5.1 = 13 ∧ sd5.2.2.1 sd5.1 = 40) (
  bn (aI S2 sd5.1) (fun S7 : St =>
  bn (sdA sd5) (fun sd8 : Sd =>
  gd (okN sd8 t 1 ∧ sd5.1 ≠ 999999) (
  bn (sdP sd8 t 1 sd5.1) (fun sd10 : Sd =>
  gd (sd10.1 = sd.1 + 2 ∧ sd10.2.1 sd10.1 = 13 ∧ sd10.2.2.1 sd10.1 = 40) (
  bn (aI S7 sd10.1) (fun S12 : St =>
  bn (sdA sd10) (fun sd13 : Sd =>
  gd (okN sd13 t 1 ∧ sd10.1 ≠ 999999) (
  bn (sdP sd13 t 2 sd10.1) (fun sd15 : Sd =>
  gd (sd15.1 = sd.1 + 3 ∧ sd15.2.1 sd15.1 = 13 ∧ sd15.2.2.1 sd15.1 = 40) (
  bn (aI S12 sd15.1) (fun S17 : St =>
  bn (sdA sd15) (fun sd18 : Sd =>
  gd (okN sd18 t 1 ∧ sd15.1 ≠ 999999) (
  bn (sdP sd18 t 3 sd15.1) (fun sd20 : Sd =>
  gd (sd20.1 = sd.1 + 4 ∧ sd20.2.1 sd20.1 = 13 ∧ sd20.2.2.1 sd20.1 = 40) (
  bn (aI S17 sd20.1) (fun S22 : St =>
  bn (sdA sd20) (fun sd23 : Sd =>
  gd (okN sd23 t 1 ∧ sd20.1 ≠ 999999) (
  bn (sdP sd23 t 4 sd20.1) (fun sd25 : Sd =>
  gd (sd25.1 = sd.1 + 5 ∧ sd25.2.1 sd25.1 = 13 ∧ sd25.2.2.1 sd25.1 = 40) (
  bn (aI S22 sd25.1) (fun S27 : St =>
  bn (sdA sd25) (fun sd28 : Sd =>
  gd (okN sd28 t 1 ∧ sd25.1 ≠ 999999) (
  bn (sdP sd28 t 5 sd25.1) (fun sd30 : Sd =>
  gd (sd30.1 = sd.1 + 6 ∧ sd30.2.1 sd30.1 = 14 ∧ sd30.2.2.1 sd30.1 = 72) (
  bn (aL S27 sd30.1) (fun S32 : St =>
  bn (sdA sd30) (fun sd33 : Sd =>
  gd (okN sd33 t 1 ∧ sd30.1 ≠ 999999) (
  bn (sdP sd33 t 6 sd30.1) (fun sd35 : Sd =>
  gd (sd35.1 = sd.1 + 7 ∧ sd35.2.1 sd35.1 = 13 ∧ sd35.2.2.1 sd35.1 = 72) (
  bn (aI S32 sd35.1) (fun S37 : St =>
  bn (sdA sd35) (fun sd38 : Sd =>
  gd (okN sd38 t 1 ∧ sd35.1 ≠ 999999) (
  bn (sdP sd38 t 7 sd35.1) (fun sd40 : Sd =>
  gd (okN sd40 t 1) (
  bn (sI S37 t 8 0) (fun S42 : St =>
  gd (okN sd40 t 1) (
  bn (sI S42 t 9 0) (fun S44 : St =>
  some (sd40, S44)))))))))))))))))))))))))))))))))))))))))))))
set_option maxRecDepth 100000 in
set_option maxHeartbeats 4000000 in
theorem wX1_init {G : Gx} {B : Nat} {qs : (Nat → Nat) × (Nat → Nat)} {n : Nat} {sd sd' : Sd} {S S' : St} {t : Nat} (C : Cn G B sd.1 qs cX1_init 1 RX1 none) (h : nX1_init n sd S t = some (sd', S')) : Wn G sd B (rmN 1 20 8 384) 1 (QmN G B 8 384 sd' S') 0 0 S 0 [(0, .ref (B + t))] [] := by
  unfold nX1_init at h
  refine wn_aload_n (pc := 0) C 0 dX1_init_0 rfl rfl ?_
  refine wn_objInit (pc := 1) C kOX1_3 oiI oiC (Nat.le_of_ble_eq_true rfl) (Nat.le_of_ble_eq_true rfl) dX1_init_1 ?_
  refine wn_aload_n (pc := 4) C 0 dX1_init_4 rfl rfl ?_
  refine wn_bipush (v := 40) (pc := 5) C dX1_init_5 (by decide) ?_
  obtain ⟨g1, h⟩ := gd_some h
  obtain ⟨S2, eS2, h⟩ := bn_some h
  obtain ⟨sd3, esd3, h⟩ := bn_some h
  refine wn_newI (pc := 7) C 40 g1.1 (by decide) (by decide) g1.2.1 g1.2.2 (Nat.le_of_ble_eq_true rfl) arr13 (Nat.le_of_ble_eq_true rfl) (Nat.le_of_ble_eq_true rfl) dX1_init_7 ?_
  rw [← eS2, ← esd3]
  refine wn_cs (cn2 := 1) (sn2 := 40) rfl rfl ?_
  obtain ⟨g4, h⟩ := gd_some h
  obtain ⟨sd5, esd5, h⟩ := bn_some h
  refine wn_putS (pc := 9) C (Or.inr ⟨_, rfl⟩) g4.2 flX1_9 ffX1_0 rfl g4.1.1 g4.1.2.1 g4.1.2.2 dX1_init_9 ?_
  rw [← esd5]
  refine wn_aload_n (pc := 12) C 0 dX1_init_12 rfl rfl ?_
  refine wn_bipush (v := 40) (pc := 13) C dX1_init_13 (by decide) ?_
  obtain ⟨g6, h⟩ := gd_some h
  obtain ⟨S7, eS7, h⟩ := bn_some h
  obtain ⟨sd8, esd8, h⟩ := bn_some h
  refine wn_newI (pc := 15) C 40 g6.1 (by decide) (by decide) g6.2.1 g6.2.2 (Nat.le_of_ble_eq_true rfl) arr13 (Nat.le_of_ble_eq_true rfl) (Nat.le_of_ble_eq_true rfl) dX1_init_15 ?_
  rw [← eS7, ← esd8]
  refine wn_cs (cn2 := 2) (sn2 := 80) rfl rfl ?_
  obtain ⟨g9, h⟩ := gd_some h
  obtain ⟨sd10, esd10, h⟩ := bn_some h
  refine wn_putS (pc := 17) C (Or.inr ⟨_, rfl⟩) g9.2 flX1_15 ffX1_1 rfl g9.1.1 g9.1.2.1 g9.1.2.2 dX1_init_17 ?_
  rw [← esd10]
  refine wn_aload_n (pc := 20) C 0 dX1_init_20 rfl rfl ?_
  refine wn_bipush (v := 40) (pc := 21) C dX1_init_21 (by decide) ?_
  obtain ⟨g11, h⟩ := gd_some h
  obtain ⟨S12, eS12, h⟩ := bn_some h
  obtain ⟨sd13, esd13, h⟩ := bn_some h
  refine wn_newI (pc := 23) C 40 g11.1 (by decide) (by decide) g11.2.1 g11.2.2 (Nat.le_of_ble_eq_true rfl) arr13 (Nat.le_of_ble_eq_true rfl) (Nat.le_of_ble_eq_true rfl) dX1_init_23 ?_
  rw [← eS12, ← esd13]
  refine wn_cs (cn2 := 3) (sn2 := 120) rfl rfl ?_
  obtain ⟨g14, h⟩ := gd_some h
  obtain ⟨sd15, esd15, h⟩ := bn_some h
  refine wn_putS (pc := 25) C (Or.inr ⟨_, rfl⟩) g14.2 flX1_18 ffX1_2 rfl g14.1.1 g14.1.2.1 g14.1.2.2 dX1_init_25 ?_
  rw [← esd15]
  refine wn_aload_n (pc := 28) C 0 dX1_init_28 rfl rfl ?_
  refine wn_bipush (v := 40) (pc := 29) C dX1_init_29 (by decide) ?_
  obtain ⟨g16, h⟩ := gd_some h
  obtain ⟨S17, eS17, h⟩ := bn_some h
  obtain ⟨sd18, esd18, h⟩ := bn_some h
  refine wn_newI (pc := 31) C 40 g16.1 (by decide) (by decide) g16.2.1 g16.2.2 (Nat.le_of_ble_eq_true rfl) arr13 (Nat.le_of_ble_eq_true rfl) (Nat.le_of_ble_eq_true rfl) dX1_init_31 ?_
  rw [← eS17, ← esd18]
  refine wn_cs (cn2 := 4) (sn2 := 160) rfl rfl ?_
  obtain ⟨g19, h⟩ := gd_some h
  obtain ⟨sd20, esd20, h⟩ := bn_some h
  refine wn_putS (pc := 33) C (Or.inr ⟨_, rfl⟩) g19.2 flX1_21 ffX1_3 rfl g19.1.1 g19.1.2.1 g19.1.2.2 dX1_init_33 ?_
  rw [← esd20]
  refine wn_aload_n (pc := 36) C 0 dX1_init_36 rfl rfl ?_
  refine wn_bipush (v := 40) (pc := 37) C dX1_init_37 (by decide) ?_
  obtain ⟨g21, h⟩ := gd_some h
  obtain ⟨S22, eS22, h⟩ := bn_some h
  obtain ⟨sd23, esd23, h⟩ := bn_some h
  refine wn_newI (pc := 39) C 40 g21.1 (by decide) (by decide) g21.2.1 g21.2.2 (Nat.le_of_ble_eq_true rfl) arr13 (Nat.le_of_ble_eq_true rfl) (Nat.le_of_ble_eq_true rfl) dX1_init_39 ?_
  rw [← eS22, ← esd23]
  refine wn_cs (cn2 := 5) (sn2 := 200) rfl rfl ?_
  obtain ⟨g24, h⟩ := gd_some h
  obtain ⟨sd25, esd25, h⟩ := bn_some h
  refine wn_putS (pc := 41) C (Or.inr ⟨_, rfl⟩) g24.2 flX1_24 ffX1_4 rfl g24.1.1 g24.1.2.1 g24.1.2.2 dX1_init_41 ?_
  rw [← esd25]
  refine wn_aload_n (pc := 44) C 0 dX1_init_44 rfl rfl ?_
  refine wn_bipush (v := 40) (pc := 45) C dX1_init_45 (by decide) ?_
  obtain ⟨g26, h⟩ := gd_some h
  obtain ⟨S27, eS27, h⟩ := bn_some h
  obtain ⟨sd28, esd28, h⟩ := bn_some h
  refine wn_newI (pc := 47) C 40 g26.1 (by decide) (by decide) g26.2.1 g26.2.2 (Nat.le_of_ble_eq_true rfl) arr13 (Nat.le_of_ble_eq_true rfl) (Nat.le_of_ble_eq_true rfl) dX1_init_47 ?_
  rw [← eS27, ← esd28]
  refine wn_cs (cn2 := 6) (sn2 := 240) rfl rfl ?_
  obtain ⟨g29, h⟩ := gd_some h
  obtain ⟨sd30, esd30, h⟩ := bn_some h
  refine wn_putS (pc := 49) C (Or.inr ⟨_, rfl⟩) g29.2 flX1_27 ffX1_5 rfl g29.1.1 g29.1.2.1 g29.1.2.2 dX1_init_49 ?_
  rw [← esd30]
  refine wn_aload_n (pc := 52) C 0 dX1_init_52 rfl rfl ?_
  refine wn_bipush (v := 72) (pc := 53) C dX1_init_53 (by decide) ?_
  obtain ⟨g31, h⟩ := gd_some h
  obtain ⟨S32, eS32, h⟩ := bn_some h
  obtain ⟨sd33, esd33, h⟩ := bn_some h
  refine wn_newL (pc := 55) C 72 g31.1 (by decide) (by decide) g31.2.1 g31.2.2 (Nat.le_of_ble_eq_true rfl) arr14 (Nat.le_of_ble_eq_true rfl) (Nat.le_of_ble_eq_true rfl) dX1_init_55 ?_
  rw [← eS32, ← esd33]
  refine wn_cs (cn2 := 7) (sn2 := 312) rfl rfl ?_
  obtain ⟨g34, h⟩ := gd_some h
  obtain ⟨sd35, esd35, h⟩ := bn_some h
  refine wn_putS (pc := 57) C (Or.inr ⟨_, rfl⟩) g34.2 flX1_30 ffX1_6 rfl g34.1.1 g34.1.2.1 g34.1.2.2 dX1_init_57 ?_
  rw [← esd35]
  refine wn_aload_n (pc := 60) C 0 dX1_init_60 rfl rfl ?_
  refine wn_bipush (v := 72) (pc := 61) C dX1_init_61 (by decide) ?_
  obtain ⟨g36, h⟩ := gd_some h
  obtain ⟨S37, eS37, h⟩ := bn_some h
  obtain ⟨sd38, esd38, h⟩ := bn_some h
  refine wn_newI (pc := 63) C 72 g36.1 (by decide) (by decide) g36.2.1 g36.2.2 (Nat.le_of_ble_eq_true rfl) arr13 (Nat.le_of_ble_eq_true rfl) (Nat.le_of_ble_eq_true rfl) dX1_init_63 ?_
  rw [← eS37, ← esd38]
  refine wn_cs (cn2 := 8) (sn2 := 384) rfl rfl ?_
  obtain ⟨g39, h⟩ := gd_some h
  obtain ⟨sd40, esd40, h⟩ := bn_some h
  refine wn_putS (pc := 65) C (Or.inr ⟨_, rfl⟩) g39.2 flX1_34 ffX1_7 rfl g39.1.1 g39.1.2.1 g39.1.2.2 dX1_init_65 ?_
  rw [← esd40]
  refine wn_aload_n (pc := 68) C 0 dX1_init_68 rfl rfl ?_
  refine wn_iconst (v := 0) (pc := 69) C dX1_init_69 (by decide) ?_
  obtain ⟨g41, h⟩ := gd_some h
  obtain ⟨S42, eS42, h⟩ := bn_some h
  refine wn_putI (pc := 70) C flX1_37 fpX1_8 rfl g41.1 g41.2.1 g41.2.2 dX1_init_70 ?_
  rw [← eS42]
  refine wn_aload_n (pc := 73) C 0 dX1_init_73 rfl rfl ?_
  refine wn_iconst (v := 0) (pc := 74) C dX1_init_74 (by decide) ?_
  obtain ⟨g43, h⟩ := gd_some h
  obtain ⟨S44, eS44, h⟩ := bn_some h
  refine wn_putI (pc := 75) C flX1_41 fpX1_9 rfl g43.1 g43.2.1 g43.2.2 dX1_init_75 ?_
  rw [← eS44]
  exact wn_vret C rfl h dX1_init_78
theorem CnX1_init {l : Launch} {cy : Nat → ClassId} {D : va_G} {B : Nat} {qs : (Nat → Nat) × (Nat → Nat)} {n : Nat} {sd sd' : Sd} {S S' : St} {t : Nat} (h : nX1_init n sd S t = some (sd', S')) : CtN l cy B D qs yX1_init cX1_init 1 1 20 8 384 [.ref (B + t)] sd S sd' S' :=
  CtN_of (own := RX1) mX1_init rfl rfl (Nat.le_of_ble_eq_true rfl) (fun G e1 e2 e3 C => by subst e1 e2 e3; exact wX1_init C h)
set_option maxRecDepth 100000 in
def nX9_init (n : Nat) (sd : Sd) (S : St) (t : Nat) (a1 : Nat) : Option (Sd × St) :=
  gd (okN sd t 9 ∧ a1 ≠ 999999) (
  bn (sR S t 2 a1) (fun S2 : St =>
  gd (sd.1 = sd.1 + 0 ∧ sd.2.1 sd.1 = 17 ∧ sd.2.2.1 sd.1 = 9 ∧ sd.1 + 1 + 9 < 999999 ∧ rowsB sd 9 16 = true) (
  bn (aM S2 sd.1 9) (fun S4 : St =>
  bn (sdM2 sd 9) (fun sd5 : Sd =>
  gd (okN sd5 t 9 ∧ sd.1 ≠ 999999) (
  bn (sdP sd5 t 0 sd.1) (fun sd7 : Sd =>
  gd (sd7.1 = sd.1 + 10 ∧ sd7.2.1 sd7.1 = 13 ∧ sd7.2.2.1 sd7.1 = 16) (
  bn (aI S4 sd7.1) (fun S9 : St =>
  bn (sdA sd7) (fun sd10 : Sd =>
  gd (okN sd10 t 9 ∧ sd7.1 ≠ 999999) (
  bn (sdP sd10 t 1 sd7.1) (fun sd12 : Sd =>
  gd (sd12.1 = sd.1 + 11 ∧ sd12.2.1 sd12.1 = 13 ∧ sd12.2.2.1 sd12.1 = 8) (
  bn (aI S9 sd12.1) (fun S14 : St =>
  bn (sdA sd12) (fun sd15 : Sd =>
  gd (okN sd15 t 9 ∧ sd12.1 ≠ 999999) (
  bn (sdP sd15 t 7 sd12.1) (fun sd17 : Sd =>
  some (sd17, S14))))))))))))))))))
set_option maxRecDepth 100000 in
set_option maxHeartbeats 4000000 in
theorem wX9_init {G : Gx} {B : Nat} {qs : (Nat → Nat) × (Nat → Nat)} {n : Nat} {sd sd' : Sd} {S S' : St} {t : Nat} {a1 : Nat} (C : Cn G B sd.1 qs cX9_init 2 RX9 none) (h : nX9_init n sd S t a1 = some (sd', S')) : Wn G sd B (rmN 1 20 12 177) 2 (QmN G B 12 177 sd' S') 0 0 S 0 [(0, .ref (B + t)), (1, .ref (B + a1))] [] := by
  unfold nX9_init at h
  refine wn_aload_n (pc := 0) C 0 dX9_init_0 rfl rfl ?_
  refine wn_objInit (pc := 1) C kOX9_3 oiI oiC (Nat.le_of_ble_eq_true rfl) (Nat.le_of_ble_eq_true rfl) dX9_init_1 ?_
  refine wn_aload_n (pc := 4) C 0 dX9_init_4 rfl rfl ?_
  refine wn_aload_n (pc := 5) C 1 dX9_init_5 rfl rfl ?_
  obtain ⟨g1, h⟩ := gd_some h
  obtain ⟨S2, eS2, h⟩ := bn_some h
  refine wn_putD (pc := 6) C (Or.inl ⟨_, rfl⟩) g1.2 flX9_9 fpX9_2 rfl g1.1.1 g1.1.2.1 g1.1.2.2 dX9_init_6 ?_
  rw [← eS2]
  refine wn_aload_n (pc := 9) C 0 dX9_init_9 rfl rfl ?_
  refine wn_bipush (v := 9) (pc := 10) C dX9_init_10 (by decide) ?_
  refine wn_bipush (v := 16) (pc := 12) C dX9_init_12 (by decide) ?_
  obtain ⟨g3, h⟩ := gd_some h
  obtain ⟨S4, eS4, h⟩ := bn_some h
  obtain ⟨sd5, esd5, h⟩ := bn_some h
  refine wn_newM (pc := 14) C 9 16 g3.1 (by decide) (by decide) (by decide) (by decide) g3.2.1 g3.2.2.1 g3.2.2.2.1 (rows_of g3.2.2.2.2) (Nat.le_of_ble_eq_true rfl) (Nat.le_of_ble_eq_true rfl) clX9_15 arr13 (Nat.le_of_ble_eq_true rfl) (Nat.le_of_ble_eq_true rfl) dX9_init_14 ?_
  rw [← eS4, ← esd5]
  refine wn_cs (cn2 := 10) (sn2 := 153) rfl rfl ?_
  obtain ⟨g6, h⟩ := gd_some h
  obtain ⟨sd7, esd7, h⟩ := bn_some h
  refine wn_putS (pc := 18) C (Or.inr ⟨_, rfl⟩) g6.2 flX9_17 ffX9_0 rfl g6.1.1 g6.1.2.1 g6.1.2.2 dX9_init_18 ?_
  rw [← esd7]
  refine wn_aload_n (pc := 21) C 0 dX9_init_21 rfl rfl ?_
  refine wn_bipush (v := 16) (pc := 22) C dX9_init_22 (by decide) ?_
  obtain ⟨g8, h⟩ := gd_some h
  obtain ⟨S9, eS9, h⟩ := bn_some h
  obtain ⟨sd10, esd10, h⟩ := bn_some h
  refine wn_newI (pc := 24) C 16 g8.1 (by decide) (by decide) g8.2.1 g8.2.2 (Nat.le_of_ble_eq_true rfl) arr13 (Nat.le_of_ble_eq_true rfl) (Nat.le_of_ble_eq_true rfl) dX9_init_24 ?_
  rw [← eS9, ← esd10]
  refine wn_cs (cn2 := 11) (sn2 := 169) rfl rfl ?_
  obtain ⟨g11, h⟩ := gd_some h
  obtain ⟨sd12, esd12, h⟩ := bn_some h
  refine wn_putS (pc := 26) C (Or.inr ⟨_, rfl⟩) g11.2 flX9_20 ffX9_1 rfl g11.1.1 g11.1.2.1 g11.1.2.2 dX9_init_26 ?_
  rw [← esd12]
  refine wn_aload_n (pc := 29) C 0 dX9_init_29 rfl rfl ?_
  refine wn_bipush (v := 8) (pc := 30) C dX9_init_30 (by decide) ?_
  obtain ⟨g13, h⟩ := gd_some h
  obtain ⟨S14, eS14, h⟩ := bn_some h
  obtain ⟨sd15, esd15, h⟩ := bn_some h
  refine wn_newI (pc := 32) C 8 g13.1 (by decide) (by decide) g13.2.1 g13.2.2 (Nat.le_of_ble_eq_true rfl) arr13 (Nat.le_of_ble_eq_true rfl) (Nat.le_of_ble_eq_true rfl) dX9_init_32 ?_
  rw [← eS14, ← esd15]
  refine wn_cs (cn2 := 12) (sn2 := 177) rfl rfl ?_
  obtain ⟨g16, h⟩ := gd_some h
  obtain ⟨sd17, esd17, h⟩ := bn_some h
  refine wn_putS (pc := 34) C (Or.inr ⟨_, rfl⟩) g16.2 flX9_24 ffX9_7 rfl g16.1.1 g16.1.2.1 g16.1.2.2 dX9_init_34 ?_
  rw [← esd17]
  exact wn_vret C rfl h dX9_init_37
theorem CnX9_init {l : Launch} {cy : Nat → ClassId} {D : va_G} {B : Nat} {qs : (Nat → Nat) × (Nat → Nat)} {n : Nat} {sd sd' : Sd} {S S' : St} {t : Nat} {a1 : Nat} (h : nX9_init n sd S t a1 = some (sd', S')) : CtN l cy B D qs yX9_init cX9_init 2 1 20 12 177 [.ref (B + t), .ref (B + a1)] sd S sd' S' :=
  CtN_of (own := RX9) mX9_init rfl rfl (Nat.le_of_ble_eq_true rfl) (fun G e1 e2 e3 C => by subst e1 e2 e3; exact wX9_init C h)
set_option maxRecDepth 100000 in
def nX4_init (n : Nat) (sd : Sd) (S : St) (t : Nat) (a1 : Nat) (a2 : Nat) : Option (Sd × St) :=
  gd (okN sd t 4 ∧ a1 ≠ 999999) (
  bn (sR S t 0 a1) (fun S2 : St =>
  gd (okN sd t 4 ∧ a2 ≠ 999999) (
  bn (sdP sd t 1 a2) (fun sd4 : Sd =>
  gd (sd4.1 = sd.1 + 0 ∧ sd4.2.1 sd4.1 = 9) (
  bn (aO S2 sd4.1) (fun S6 : St =>
  bn (sdO sd4) (fun sd7 : Sd =>
  gd (sd7.1 = sd.1 + 1 ∧ sd7.1 ≤ 999999) (
  bdn (nX9_init n sd7 S6 (sd4.1) a1) (fun sd9 S10 =>
  gd (okN sd9 t 4 ∧ sd4.1 ≠ 999999) (
  bn (sdP sd9 t 2 sd4.1) (fun sd12 : Sd =>
  gd (sd12.1 = sd.1 + 13 ∧ sd12.2.1 sd12.1 = 14 ∧ sd12.2.2.1 sd12.1 = 5000) (
  bn (aL S10 sd12.1) (fun S14 : St =>
  bn (sdA sd12) (fun sd15 : Sd =>
  gd (okN sd15 t 4 ∧ sd12.1 ≠ 999999) (
  bn (sdP sd15 t 9 sd12.1) (fun sd17 : Sd =>
  gd (sd17.1 = sd.1 + 14 ∧ sd17.2.1 sd17.1 = 14 ∧ sd17.2.2.1 sd17.1 = 30000) (
  bn (aL S14 sd17.1) (fun S19 : St =>
  bn (sdA sd17) (fun sd20 : Sd =>
  gd (okN sd20 t 4 ∧ sd17.1 ≠ 999999) (
  bn (sdP sd20 t 10 sd17.1) (fun sd22 : Sd =>
  gd (sd22.1 = sd.1 + 15 ∧ sd22.2.1 sd22.1 = 14 ∧ sd22.2.2.1 sd22.1 = 6) (
  bn (aL S19 sd22.1) (fun S24 : St =>
  bn (sdA sd22) (fun sd25 : Sd =>
  gd (okN sd25 t 4 ∧ sd22.1 ≠ 999999) (
  bn (sdP sd25 t 11 sd22.1) (fun sd27 : Sd =>
  gd (sd27.1 = sd.1 + 16 ∧ sd27.2.1 sd27.1 = 13 ∧ sd27.2.2.1 sd27.1 = 8) (
  bn (aI S24 sd27.1) (fun S29 : St =>
  bn (sdA sd27) (fun sd30 : Sd =>
  gd (okN sd30 t 4 ∧ sd27.1 ≠ 999999) (
  bn (sdP sd30 t 16 sd27.1) (fun sd32 : Sd =>
  some (sd32, S29))))))))))))))))))))))))))))))))
set_option maxRecDepth 100000 in
set_option maxHeartbeats 4000000 in
theorem wX4_init {G : Gx} {B : Nat} {qs : (Nat → Nat) × (Nat → Nat)} {n : Nat} {sd sd' : Sd} {S S' : St} {t : Nat} {a1 : Nat} {a2 : Nat} (C : Cn G B sd.1 qs cX4_init 3 RX4 none) (h : nX4_init n sd S t a1 a2 = some (sd', S')) : Wn G sd B (rmN 2 41 17 35201) 3 (QmN G B 17 35201 sd' S') 0 0 S 0 [(0, .ref (B + t)), (1, .ref (B + a1)), (2, .ref (B + a2))] [] := by
  unfold nX4_init at h
  refine wn_aload_n (pc := 0) C 0 dX4_init_0 rfl rfl ?_
  refine wn_objInit (pc := 1) C kOX4_3 oiI oiC (Nat.le_of_ble_eq_true rfl) (Nat.le_of_ble_eq_true rfl) dX4_init_1 ?_
  refine wn_aload_n (pc := 4) C 0 dX4_init_4 rfl rfl ?_
  refine wn_aload_n (pc := 5) C 1 dX4_init_5 rfl rfl ?_
  obtain ⟨g1, h⟩ := gd_some h
  obtain ⟨S2, eS2, h⟩ := bn_some h
  refine wn_putD (pc := 6) C (Or.inl ⟨_, rfl⟩) g1.2 flX4_9 fpX4_0 rfl g1.1.1 g1.1.2.1 g1.1.2.2 dX4_init_6 ?_
  rw [← eS2]
  refine wn_aload_n (pc := 9) C 0 dX4_init_9 rfl rfl ?_
  refine wn_aload_n (pc := 10) C 2 dX4_init_10 rfl rfl ?_
  obtain ⟨g3, h⟩ := gd_some h
  obtain ⟨sd4, esd4, h⟩ := bn_some h
  refine wn_putS (pc := 11) C (Or.inl ⟨_, rfl⟩) g3.2 flX4_15 ffX4_1 rfl g3.1.1 g3.1.2.1 g3.1.2.2 dX4_init_11 ?_
  rw [← esd4]
  refine wn_aload_n (pc := 14) C 0 dX4_init_14 rfl rfl ?_
  obtain ⟨g5, h⟩ := gd_some h
  obtain ⟨S6, eS6, h⟩ := bn_some h
  obtain ⟨sd7, esd7, h⟩ := bn_some h
  refine wn_new (q := (RX9, TX9, 10)) (ty0 := tyX9) (pc := 15) C g5.1 rfl (by decide) rfl layX9 tyX9_ok dfX9 clX4_19 inX9 iniX9 g5.2 (Nat.le_of_ble_eq_true rfl) (Nat.le_of_ble_eq_true rfl) dX4_init_15 ?_
  rw [← eS6, ← esd7]
  refine wn_cs (cn2 := 1) (sn2 := 10) rfl rfl ?_
  refine wn_dup (pc := 18) C dX4_init_18 rfl ?_
  refine wn_aload_n (pc := 19) C 1 dX4_init_19 rfl rfl ?_
  obtain ⟨g8, h⟩ := gd_some h
  obtain ⟨sd9, S10, cS10, h⟩ := bdn_some h
  refine wn_callI (b := sd4.1) (As := [.ref (B + a1)]) (st := [.ref (B + sd4.1), .ref (B + t)]) (pc := 20) C g8.1 g8.2 (CnX9_init cS10) mX9_init iX9_init rfl kX4_21 rfl rfl (Nat.le_of_ble_eq_true rfl) ⟨(Nat.le_of_ble_eq_true rfl), (Nat.le_of_ble_eq_true rfl)⟩ ⟨(Nat.le_of_ble_eq_true rfl), (Nat.le_of_ble_eq_true rfl)⟩ dX4_init_20 ?_
  refine wn_cs (cn2 := 13) (sn2 := 187) rfl rfl ?_
  obtain ⟨g11, h⟩ := gd_some h
  obtain ⟨sd12, esd12, h⟩ := bn_some h
  refine wn_putS (pc := 23) C (Or.inl ⟨_, rfl⟩) g11.2 flX4_24 ffX4_2 rfl g11.1.1 g11.1.2.1 g11.1.2.2 dX4_init_23 ?_
  rw [← esd12]
  refine wn_aload_n (pc := 26) C 0 dX4_init_26 rfl rfl ?_
  refine wn_sipush (v := 5000) (pc := 27) C dX4_init_27 (by decide) ?_
  obtain ⟨g13, h⟩ := gd_some h
  obtain ⟨S14, eS14, h⟩ := bn_some h
  obtain ⟨sd15, esd15, h⟩ := bn_some h
  refine wn_newL (pc := 30) C 5000 g13.1 (by decide) (by decide) g13.2.1 g13.2.2 (Nat.le_of_ble_eq_true rfl) arr14 (Nat.le_of_ble_eq_true rfl) (Nat.le_of_ble_eq_true rfl) dX4_init_30 ?_
  rw [← eS14, ← esd15]
  refine wn_cs (cn2 := 14) (sn2 := 5187) rfl rfl ?_
  obtain ⟨g16, h⟩ := gd_some h
  obtain ⟨sd17, esd17, h⟩ := bn_some h
  refine wn_putS (pc := 32) C (Or.inr ⟨_, rfl⟩) g16.2 flX4_28 ffX4_9 rfl g16.1.1 g16.1.2.1 g16.1.2.2 dX4_init_32 ?_
  rw [← esd17]
  refine wn_aload_n (pc := 35) C 0 dX4_init_35 rfl rfl ?_
  refine wn_sipush (v := 30000) (pc := 36) C dX4_init_36 (by decide) ?_
  obtain ⟨g18, h⟩ := gd_some h
  obtain ⟨S19, eS19, h⟩ := bn_some h
  obtain ⟨sd20, esd20, h⟩ := bn_some h
  refine wn_newL (pc := 39) C 30000 g18.1 (by decide) (by decide) g18.2.1 g18.2.2 (Nat.le_of_ble_eq_true rfl) arr14 (Nat.le_of_ble_eq_true rfl) (Nat.le_of_ble_eq_true rfl) dX4_init_39 ?_
  rw [← eS19, ← esd20]
  refine wn_cs (cn2 := 15) (sn2 := 35187) rfl rfl ?_
  obtain ⟨g21, h⟩ := gd_some h
  obtain ⟨sd22, esd22, h⟩ := bn_some h
  refine wn_putS (pc := 41) C (Or.inr ⟨_, rfl⟩) g21.2 flX4_32 ffX4_10 rfl g21.1.1 g21.1.2.1 g21.1.2.2 dX4_init_41 ?_
  rw [← esd22]
  refine wn_aload_n (pc := 44) C 0 dX4_init_44 rfl rfl ?_
  refine wn_bipush (v := 6) (pc := 45) C dX4_init_45 (by decide) ?_
  obtain ⟨g23, h⟩ := gd_some h
  obtain ⟨S24, eS24, h⟩ := bn_some h
  obtain ⟨sd25, esd25, h⟩ := bn_some h
  refine wn_newL (pc := 47) C 6 g23.1 (by decide) (by decide) g23.2.1 g23.2.2 (Nat.le_of_ble_eq_true rfl) arr14 (Nat.le_of_ble_eq_true rfl) (Nat.le_of_ble_eq_true rfl) dX4_init_47 ?_
  rw [← eS24, ← esd25]
  refine wn_cs (cn2 := 16) (sn2 := 35193) rfl rfl ?_
  obtain ⟨g26, h⟩ := gd_some h
  obtain ⟨sd27, esd27, h⟩ := bn_some h
  refine wn_putS (pc := 49) C (Or.inr ⟨_, rfl⟩) g26.2 flX4_35 ffX4_11 rfl g26.1.1 g26.1.2.1 g26.1.2.2 dX4_init_49 ?_
  rw [← esd27]
  refine wn_aload_n (pc := 52) C 0 dX4_init_52 rfl rfl ?_
  refine wn_bipush (v := 8) (pc := 53) C dX4_init_53 (by decide) ?_
  obtain ⟨g28, h⟩ := gd_some h
  obtain ⟨S29, eS29, h⟩ := bn_some h
  obtain ⟨sd30, esd30, h⟩ := bn_some h
  refine wn_newI (pc := 55) C 8 g28.1 (by decide) (by decide) g28.2.1 g28.2.2 (Nat.le_of_ble_eq_true rfl) arr13 (Nat.le_of_ble_eq_true rfl) (Nat.le_of_ble_eq_true rfl) dX4_init_55 ?_
  rw [← eS29, ← esd30]
  refine wn_cs (cn2 := 17) (sn2 := 35201) rfl rfl ?_
  obtain ⟨g31, h⟩ := gd_some h
  obtain ⟨sd32, esd32, h⟩ := bn_some h
  refine wn_putS (pc := 57) C (Or.inr ⟨_, rfl⟩) g31.2 flX4_38 ffX4_16 rfl g31.1.1 g31.1.2.1 g31.1.2.2 dX4_init_57 ?_
  rw [← esd32]
  exact wn_vret C rfl h dX4_init_60
theorem CnX4_init {l : Launch} {cy : Nat → ClassId} {D : va_G} {B : Nat} {qs : (Nat → Nat) × (Nat → Nat)} {n : Nat} {sd sd' : Sd} {S S' : St} {t : Nat} {a1 : Nat} {a2 : Nat} (h : nX4_init n sd S t a1 a2 = some (sd', S')) : CtN l cy B D qs yX4_init cX4_init 3 2 41 17 35201 [.ref (B + t), .ref (B + a1), .ref (B + a2)] sd S sd' S' :=
  CtN_of (own := RX4) mX4_init rfl rfl (Nat.le_of_ble_eq_true rfl) (fun G e1 e2 e3 C => by subst e1 e2 e3; exact wX4_init C h)
set_option maxRecDepth 100000 in
def nX8_init (n : Nat) (sd : Sd) (S : St) (t : Nat) : Option (Sd × St) :=
  gd (sd.1 = sd.1 + 0 ∧ sd.2.1 sd.1 = 13 ∧ sd.2.2.1 sd.1 = 8) (
  bn (aI S sd.1) (fun S2 : St =>
  bn (sdA sd) (fun sd3 : Sd =>
  gd (okN sd3 t 8 ∧ sd.1 ≠ 999999) (
  bn (sdP sd3 t 0 sd.1) (fun sd5 : Sd =>
  gd (okN sd5 t 8) (
  bn (sI S2 t 3 1) (fun S7 : St =>
  gd (okN sd5 t 8) (
  bd (fX8_putOn sd5 n S7 t 0) (fun S9 u10 =>
  some (sd5, S9))))))))))
set_option maxRecDepth 100000 in
set_option maxHeartbeats 4000000 in
theorem wX8_init {G : Gx} {B : Nat} {qs : (Nat → Nat) × (Nat → Nat)} {n : Nat} {sd sd' : Sd} {S S' : St} {t : Nat} (C : Cn G B sd.1 qs cX8_init 1 RX8 none) (h : nX8_init n sd S t = some (sd', S')) : Wn G sd B (rmN 2 44 1 8) 1 (QmN G B 1 8 sd' S') 0 0 S 0 [(0, .ref (B + t))] [] := by
  unfold nX8_init at h
  refine wn_aload_n (pc := 0) C 0 dX8_init_0 rfl rfl ?_
  refine wn_objInit (pc := 1) C kOX8_3 oiI oiC (Nat.le_of_ble_eq_true rfl) (Nat.le_of_ble_eq_true rfl) dX8_init_1 ?_
  refine wn_aload_n (pc := 4) C 0 dX8_init_4 rfl rfl ?_
  refine wn_bipush (v := 8) (pc := 5) C dX8_init_5 (by decide) ?_
  obtain ⟨g1, h⟩ := gd_some h
  obtain ⟨S2, eS2, h⟩ := bn_some h
  obtain ⟨sd3, esd3, h⟩ := bn_some h
  refine wn_newI (pc := 7) C 8 g1.1 (by decide) (by decide) g1.2.1 g1.2.2 (Nat.le_of_ble_eq_true rfl) arr13 (Nat.le_of_ble_eq_true rfl) (Nat.le_of_ble_eq_true rfl) dX8_init_7 ?_
  rw [← eS2, ← esd3]
  refine wn_cs (cn2 := 1) (sn2 := 8) rfl rfl ?_
  obtain ⟨g4, h⟩ := gd_some h
  obtain ⟨sd5, esd5, h⟩ := bn_some h
  refine wn_putS (pc := 9) C (Or.inr ⟨_, rfl⟩) g4.2 flX8_9 ffX8_0 rfl g4.1.1 g4.1.2.1 g4.1.2.2 dX8_init_9 ?_
  rw [← esd5]
  refine wn_aload_n (pc := 12) C 0 dX8_init_12 rfl rfl ?_
  refine wn_iconst (v := 1) (pc := 13) C dX8_init_13 (by decide) ?_
  obtain ⟨g6, h⟩ := gd_some h
  obtain ⟨S7, eS7, h⟩ := bn_some h
  refine wn_putI (pc := 14) C flX8_15 fpX8_3 rfl g6.1 g6.2.1 g6.2.2 dX8_init_14 ?_
  rw [← eS7]
  refine wn_aload_n (pc := 17) C 0 dX8_init_17 rfl rfl ?_
  refine wn_iconst (v := 0) (pc := 18) C dX8_init_18 (by decide) ?_
  obtain ⟨g8, h⟩ := gd_some h
  obtain ⟨S9, u10, cS9, h⟩ := bd_some h
  refine wn_callV (b := t) (As := [.int 0]) (st := []) (pc := 19) C g8.2.2 (CtX8_putOn cS9) mX8_putOn iX8_putOn kX8_19 g8.1 g8.2.1 (by decide) rfl rfl rfl rfl (Nat.le_of_ble_eq_true rfl) ⟨(Nat.le_of_ble_eq_true rfl), (Nat.le_of_ble_eq_true rfl)⟩ ⟨(Nat.le_of_ble_eq_true rfl), (Nat.le_of_ble_eq_true rfl)⟩ dX8_init_19 ?_
  exact wn_vret C rfl h dX8_init_22
theorem CnX8_init {l : Launch} {cy : Nat → ClassId} {D : va_G} {B : Nat} {qs : (Nat → Nat) × (Nat → Nat)} {n : Nat} {sd sd' : Sd} {S S' : St} {t : Nat} (h : nX8_init n sd S t = some (sd', S')) : CtN l cy B D qs yX8_init cX8_init 1 2 44 1 8 [.ref (B + t)] sd S sd' S' :=
  CtN_of (own := RX8) mX8_init rfl rfl (Nat.le_of_ble_eq_true rfl) (fun G e1 e2 e3 C => by subst e1 e2 e3; exact wX8_init C h)
set_option maxRecDepth 100000 in
def nX10_init (n : Nat) (sd : Sd) (S : St) (t : Nat) : Option (Sd × St) :=
  gd (sd.1 = sd.1 + 0 ∧ sd.2.1 sd.1 = 6) (
  bn (aO S sd.1) (fun S2 : St =>
  bn (sdO sd) (fun sd3 : Sd =>
  gd (sd3.1 = sd.1 + 1 ∧ sd3.1 ≤ 999999) (
  bdn (nX6_init n sd3 S2 (sd.1)) (fun sd5 S6 =>
  gd (okN sd5 t 10 ∧ sd.1 ≠ 999999) (
  bn (sdP sd5 t 0 sd.1) (fun sd8 : Sd =>
  gd (sd8.1 = sd.1 + 2 ∧ sd8.2.1 sd8.1 = 0) (
  bn (aO S6 sd8.1) (fun S10 : St =>
  bn (sdO sd8) (fun sd11 : Sd =>
  gd (sd11.1 = sd.1 + 3 ∧ sd11.1 ≤ 999999) (
  bdn (nX0_init n sd11 S10 (sd8.1)) (fun sd13 S14 =>
  gd (okN sd13 t 10 ∧ sd8.1 ≠ 999999) (
  bn (sR S14 t 2 sd8.1) (fun S16 : St =>
  gd (sd13.1 = sd.1 + 76 ∧ sd13.2.1 sd13.1 = 0) (
  bn (aO S16 sd13.1) (fun S18 : St =>
  bn (sdO sd13) (fun sd19 : Sd =>
  gd (sd19.1 = sd.1 + 77 ∧ sd19.1 ≤ 999999) (
  bdn (nX0_init n sd19 S18 (sd13.1)) (fun sd21 S22 =>
  gd (okN sd21 t 10 ∧ sd13.1 ≠ 999999) (
  bn (sR S22 t 3 sd13.1) (fun S24 : St =>
  gd (sd21.1 = sd.1 + 150 ∧ sd21.2.1 sd21.1 = 3) (
  bn (aO S24 sd21.1) (fun S26 : St =>
  bn (sdO sd21) (fun sd27 : Sd =>
  gd (okN sd27 t 10 ∧ S26.2.2 t 3 ≠ 999999) (
  gd (sd27.1 = sd.1 + 151 ∧ sd27.1 ≤ 999999) (
  bdn (nX3_init n sd27 S26 (sd21.1) (S26.2.2 t 3)) (fun sd30 S31 =>
  gd (okN sd30 t 10 ∧ sd21.1 ≠ 999999) (
  bn (sdP sd30 t 1 sd21.1) (fun sd33 : Sd =>
  gd (sd33.1 = sd.1 + 156 ∧ sd33.2.1 sd33.1 = 2) (
  bn (aO S31 sd33.1) (fun S35 : St =>
  bn (sdO sd33) (fun sd36 : Sd =>
  gd (sd36.1 = sd.1 + 157 ∧ sd36.1 ≤ 999999) (
  bdn (nX2_init n sd36 S35 (sd33.1)) (fun sd38 S39 =>
  gd (okN sd38 t 10 ∧ sd33.1 ≠ 999999) (
  bn (sdP sd38 t 4 sd33.1) (fun sd41 : Sd =>
  gd (sd41.1 = sd.1 + 233 ∧ sd41.2.1 sd41.1 = 1) (
  bn (aO S39 sd41.1) (fun S43 : St =>
  bn (sdO sd41) (fun sd44 : Sd =>
  gd (sd44.1 = sd.1 + 234 ∧ sd44.1 ≤ 999999) (
  bdn (nX1_init n sd44 S43 (sd41.1)) (fun sd46 S47 =>
  gd (okN sd46 t 10 ∧ sd41.1 ≠ 999999) (
  bn (sdP sd46 t 5 sd41.1) (fun sd49 : Sd =>
  gd (sd49.1 = sd.1 + 242 ∧ sd49.2.1 sd49.1 = 4) (
  bn (aO S47 sd49.1) (fun S51 : St =>
  bn (sdO sd49) (fun sd52 : Sd =>
  gd (okN sd52 t 10 ∧ S51.2.2 t 2 ≠ 999999) (
  gd (okN sd52 t 10 ∧ sd52.2.2.2 t 4 ≠ 999999) (
  gd (sd52.1 = sd.1 + 243 ∧ sd52.1 ≤ 999999) (
  bdn (nX4_init n sd52 S51 (sd49.1) (S51.2.2 t 2) (sd52.2.2.2 t 4)) (fun sd56 S57 =>
  gd (okN sd56 t 10 ∧ sd49.1 ≠ 999999) (
  bn (sdP sd56 t 6 sd49.1) (fun sd59 : Sd =>
  gd (sd59.1 = sd.1 + 260 ∧ sd59.2.1 sd59.1 = 8) (
  bn (aO S57 sd59.1) (fun S61 : St =>
  bn (sdO sd59) (fun sd62 : Sd =>
  gd (sd62.1 = sd.1 + 261 ∧ sd62.1 ≤ 999999) (
  bdn (nX8_init n sd62 S61 (sd59.1)) (fun sd64 S65 =>
  gd (okN sd64 t 10 ∧ sd59.1 ≠ 999999) (
  bn (sdP sd64 t 7 sd59.1) (fun sd67 : Sd =>
  gd (sd67.1 = sd.1 + 262 ∧ sd67.2.1 sd67.1 = 16 ∧ sd67.2.2.1 sd67.1 = 3) (
  bn (sdO sd67) (fun sd69 : Sd =>
  gd (okN sd69 t 10 ∧ sd67.1 ≠ 999999) (
  bn (sdP sd69 t 8 sd67.1) (fun sd71 : Sd =>
  gd (okN sd71 t 10 ∧ sd71.2.2.2 t 8 ≠ 999999) (
  gd (sd71.1 = sd.1 + 263 ∧ sd71.2.1 sd71.1 = 8) (
  bn (aO S65 sd71.1) (fun S74 : St =>
  bn (sdO sd71) (fun sd75 : Sd =>
  gd (sd75.1 = sd.1 + 264 ∧ sd75.1 ≤ 999999) (
  bdn (nX8_init n sd75 S74 (sd71.1)) (fun sd77 S78 =>
  gd (sd77.1 ≤ 999999 ∧ isK sd77 (sd71.2.2.2 t 8) 16 ∧ isK sd77 sd71.1 8 ∧ ib 0 (sd77.2.2.1 (sd71.2.2.2 t 8))) (
  bn (sdP sd77 (sd71.2.2.2 t 8) (Int32.toNatClampNeg 0) sd71.1) (fun sd80 : Sd =>
  gd (okN sd80 t 10 ∧ sd80.2.2.2 t 8 ≠ 999999) (
  gd (sd80.1 = sd.1 + 265 ∧ sd80.2.1 sd80.1 = 8) (
  bn (aO S78 sd80.1) (fun S83 : St =>
  bn (sdO sd80) (fun sd84 : Sd =>
  gd (sd84.1 = sd.1 + 266 ∧ sd84.1 ≤ 999999) (
  bdn (nX8_init n sd84 S83 (sd80.1)) (fun sd86 S87 =>
  gd (sd86.1 ≤ 999999 ∧ isK sd86 (sd80.2.2.2 t 8) 16 ∧ isK sd86 sd80.1 8 ∧ ib 1 (sd86.2.2.1 (sd80.2.2.2 t 8))) (
  bn (sdP sd86 (sd80.2.2.2 t 8) (Int32.toNatClampNeg 1) sd80.1) (fun sd89 : Sd =>
  gd (okN sd89 t 10 ∧ sd89.2.2.2 t 8 ≠ 999999) (
  gd (sd89.1 = sd.1 + 267 ∧ sd89.2.1 sd89.1 = 8) (
  bn (aO S87 sd89.1) (fun S92 : St =>
  bn (sdO sd89) (fun sd93 : Sd =>
  gd (sd93.1 = sd.1 + 268 ∧ sd93.1 ≤ 999999) (
  bdn (nX8_init n sd93 S92 (sd89.1)) (fun sd95 S96 =>
  gd (sd95.1 ≤ 999999 ∧ isK sd95 (sd89.2.2.2 t 8) 16 ∧ isK sd95 sd89.1 8 ∧ ib 2 (sd95.2.2.1 (sd89.2.2.2 t 8))) (
  bn (sdP sd95 (sd89.2.2.2 t 8) (Int32.toNatClampNeg 2) sd89.1) (fun sd98 : Sd =>
  gd (sd98.1 = sd.1 + 269 ∧ sd98.2.1 sd98.1 = 13 ∧ sd98.2.2.1 sd98.1 = 16) (
  bn (aI S96 sd98.1) (fun S100 : St =>
  bn (sdA sd98) (fun sd101 : Sd =>
  gd (okN sd101 t 10 ∧ sd98.1 ≠ 999999) (
  bn (sdP sd101 t 9 sd98.1) (fun sd103 : Sd =>
  gd (sd103.1 = sd.1 + 270 ∧ sd103.2.1 sd103.1 = 13 ∧ sd103.2.2.1 sd103.1 = 6) (
  bn (aI S100 sd103.1) (fun S105 : St =>
  bn (sdA sd103) (fun sd106 : Sd =>
  gd (okN sd106 t 10 ∧ sd103.1 ≠ 999999) (
  bn (sdP sd106 t 10 sd103.1) (fun sd108 : Sd =>
  gd (okN sd108 t 10) (
  bn (sI S105 t 11 0) (fun S110 : St =>
  gd (okN sd108 t 10) (
  bn (sI S110 t 12 0) (fun S112 : St =>
  some (sd108, S112))))))))))))))))))))))))))))))))))))))))))))))))))))))))))))))))))))))))))))))))))))))))))))))))))))))
set_option maxRecDepth 100000 in
set_option maxHeartbeats 4000000 in
theorem wX10_init {G : Gx} {B : Nat} {qs : (Nat → Nat) × (Nat → Nat)} {n : Nat} {sd sd' : Sd} {S S' : St} {t : Nat} (C : Cn G B sd.1 qs cX10_init 2 RX10 none) (h : nX10_init n sd S t = some (sd', S')) : Wn G sd B (rmN 7 149 271 45792) 2 (QmN G B 271 45792 sd' S') 0 0 S 0 [(0, .ref (B + t))] [] := by
  unfold nX10_init at h
  refine wn_aload_n (pc := 0) C 0 dX10_init_0 rfl rfl ?_
  refine wn_objInit (pc := 1) C kOX10_3 oiI oiC (Nat.le_of_ble_eq_true rfl) (Nat.le_of_ble_eq_true rfl) dX10_init_1 ?_
  refine wn_aload_n (pc := 4) C 0 dX10_init_4 rfl rfl ?_
  obtain ⟨g1, h⟩ := gd_some h
  obtain ⟨S2, eS2, h⟩ := bn_some h
  obtain ⟨sd3, esd3, h⟩ := bn_some h
  refine wn_new (q := (RX6, TX6, 2)) (ty0 := tyX6) (pc := 5) C g1.1 rfl (by decide) rfl layX6 tyX6_ok dfX6 clX10_9 inX6 iniX6 g1.2 (Nat.le_of_ble_eq_true rfl) (Nat.le_of_ble_eq_true rfl) dX10_init_5 ?_
  rw [← eS2, ← esd3]
  refine wn_cs (cn2 := 1) (sn2 := 2) rfl rfl ?_
  refine wn_dup (pc := 8) C dX10_init_8 rfl ?_
  obtain ⟨g4, h⟩ := gd_some h
  obtain ⟨sd5, S6, cS6, h⟩ := bdn_some h
  refine wn_callI (b := sd.1) (As := []) (st := [.ref (B + sd.1), .ref (B + t)]) (pc := 9) C g4.1 g4.2 (CnX6_init cS6) mX6_init iX6_init rfl kX10_11 rfl rfl (Nat.le_of_ble_eq_true rfl) ⟨(Nat.le_of_ble_eq_true rfl), (Nat.le_of_ble_eq_true rfl)⟩ ⟨(Nat.le_of_ble_eq_true rfl), (Nat.le_of_ble_eq_true rfl)⟩ dX10_init_9 ?_
  refine wn_cs (cn2 := 2) (sn2 := 1702) rfl rfl ?_
  obtain ⟨g7, h⟩ := gd_some h
  obtain ⟨sd8, esd8, h⟩ := bn_some h
  refine wn_putS (pc := 12) C (Or.inl ⟨_, rfl⟩) g7.2 flX10_12 ffX10_0 rfl g7.1.1 g7.1.2.1 g7.1.2.2 dX10_init_12 ?_
  rw [← esd8]
  refine wn_aload_n (pc := 15) C 0 dX10_init_15 rfl rfl ?_
  obtain ⟨g9, h⟩ := gd_some h
  obtain ⟨S10, eS10, h⟩ := bn_some h
  obtain ⟨sd11, esd11, h⟩ := bn_some h
  refine wn_new (q := (RX0, TX0, 14)) (ty0 := tyX0) (pc := 16) C g9.1 rfl (by decide) rfl layX0 tyX0_ok dfX0 clX10_16 inX0 iniX0 g9.2 (Nat.le_of_ble_eq_true rfl) (Nat.le_of_ble_eq_true rfl) dX10_init_16 ?_
  rw [← eS10, ← esd11]
  refine wn_cs (cn2 := 3) (sn2 := 1716) rfl rfl ?_
  refine wn_dup (pc := 19) C dX10_init_19 rfl ?_
  obtain ⟨g12, h⟩ := gd_some h
  obtain ⟨sd13, S14, cS14, h⟩ := bdn_some h
  refine wn_callI (b := sd8.1) (As := []) (st := [.ref (B + sd8.1), .ref (B + t)]) (pc := 20) C g12.1 g12.2 (CnX0_init cS14) mX0_init iX0_init rfl kX10_18 rfl rfl (Nat.le_of_ble_eq_true rfl) ⟨(Nat.le_of_ble_eq_true rfl), (Nat.le_of_ble_eq_true rfl)⟩ ⟨(Nat.le_of_ble_eq_true rfl), (Nat.le_of_ble_eq_true rfl)⟩ dX10_init_20 ?_
  refine wn_cs (cn2 := 76) (sn2 := 2644) rfl rfl ?_
  obtain ⟨g15, h⟩ := gd_some h
  obtain ⟨S16, eS16, h⟩ := bn_some h
  refine wn_putD (pc := 23) C (Or.inl ⟨_, rfl⟩) g15.2 flX10_19 fpX10_2 rfl g15.1.1 g15.1.2.1 g15.1.2.2 dX10_init_23 ?_
  rw [← eS16]
  refine wn_aload_n (pc := 26) C 0 dX10_init_26 rfl rfl ?_
  obtain ⟨g17, h⟩ := gd_some h
  obtain ⟨S18, eS18, h⟩ := bn_some h
  obtain ⟨sd19, esd19, h⟩ := bn_some h
  refine wn_new (q := (RX0, TX0, 14)) (ty0 := tyX0) (pc := 27) C g17.1 rfl (by decide) rfl layX0 tyX0_ok dfX0 clX10_16 inX0 iniX0 g17.2 (Nat.le_of_ble_eq_true rfl) (Nat.le_of_ble_eq_true rfl) dX10_init_27 ?_
  rw [← eS18, ← esd19]
  refine wn_cs (cn2 := 77) (sn2 := 2658) rfl rfl ?_
  refine wn_dup (pc := 30) C dX10_init_30 rfl ?_
  obtain ⟨g20, h⟩ := gd_some h
  obtain ⟨sd21, S22, cS22, h⟩ := bdn_some h
  refine wn_callI (b := sd13.1) (As := []) (st := [.ref (B + sd13.1), .ref (B + t)]) (pc := 31) C g20.1 g20.2 (CnX0_init cS22) mX0_init iX0_init rfl kX10_18 rfl rfl (Nat.le_of_ble_eq_true rfl) ⟨(Nat.le_of_ble_eq_true rfl), (Nat.le_of_ble_eq_true rfl)⟩ ⟨(Nat.le_of_ble_eq_true rfl), (Nat.le_of_ble_eq_true rfl)⟩ dX10_init_31 ?_
  refine wn_cs (cn2 := 150) (sn2 := 3586) rfl rfl ?_
  obtain ⟨g23, h⟩ := gd_some h
  obtain ⟨S24, eS24, h⟩ := bn_some h
  refine wn_putD (pc := 34) C (Or.inl ⟨_, rfl⟩) g23.2 flX10_23 fpX10_3 rfl g23.1.1 g23.1.2.1 g23.1.2.2 dX10_init_34 ?_
  rw [← eS24]
  refine wn_aload_n (pc := 37) C 0 dX10_init_37 rfl rfl ?_
  obtain ⟨g25, h⟩ := gd_some h
  obtain ⟨S26, eS26, h⟩ := bn_some h
  obtain ⟨sd27, esd27, h⟩ := bn_some h
  refine wn_new (q := (RX3, TX3, 9)) (ty0 := tyX3) (pc := 38) C g25.1 rfl (by decide) rfl layX3 tyX3_ok dfX3 clX10_26 inX3 iniX3 g25.2 (Nat.le_of_ble_eq_true rfl) (Nat.le_of_ble_eq_true rfl) dX10_init_38 ?_
  rw [← eS26, ← esd27]
  refine wn_cs (cn2 := 151) (sn2 := 3595) rfl rfl ?_
  refine wn_dup (pc := 41) C dX10_init_41 rfl ?_
  refine wn_aload_n (pc := 42) C 0 dX10_init_42 rfl rfl ?_
  obtain ⟨g28, h⟩ := gd_some h
  refine wn_getD (v := S26.2.2 t 3) (pc := 43) C flX10_23 rfl rfl g28.2 g28.1.1 g28.1.2.1 dX10_init_43 ?_
  obtain ⟨g29, h⟩ := gd_some h
  obtain ⟨sd30, S31, cS31, h⟩ := bdn_some h
  refine wn_callI (b := sd21.1) (As := [.ref (B + (S26.2.2 t 3))]) (st := [.ref (B + sd21.1), .ref (B + t)]) (pc := 46) C g29.1 g29.2 (CnX3_init cS31) mX3_init iX3_init rfl kX10_28 rfl rfl (Nat.le_of_ble_eq_true rfl) ⟨(Nat.le_of_ble_eq_true rfl), (Nat.le_of_ble_eq_true rfl)⟩ ⟨(Nat.le_of_ble_eq_true rfl), (Nat.le_of_ble_eq_true rfl)⟩ dX10_init_46 ?_
  refine wn_cs (cn2 := 156) (sn2 := 8718) rfl rfl ?_
  obtain ⟨g32, h⟩ := gd_some h
  obtain ⟨sd33, esd33, h⟩ := bn_some h
  refine wn_putS (pc := 49) C (Or.inl ⟨_, rfl⟩) g32.2 flX10_31 ffX10_1 rfl g32.1.1 g32.1.2.1 g32.1.2.2 dX10_init_49 ?_
  rw [← esd33]
  refine wn_aload_n (pc := 52) C 0 dX10_init_52 rfl rfl ?_
  obtain ⟨g34, h⟩ := gd_some h
  obtain ⟨S35, eS35, h⟩ := bn_some h
  obtain ⟨sd36, esd36, h⟩ := bn_some h
  refine wn_new (q := (RX2, TX2, 5)) (ty0 := tyX2) (pc := 53) C g34.1 rfl (by decide) rfl layX2 tyX2_ok dfX2 clX10_35 inX2 iniX2 g34.2 (Nat.le_of_ble_eq_true rfl) (Nat.le_of_ble_eq_true rfl) dX10_init_53 ?_
  rw [← eS35, ← esd36]
  refine wn_cs (cn2 := 157) (sn2 := 8723) rfl rfl ?_
  refine wn_dup (pc := 56) C dX10_init_56 rfl ?_
  obtain ⟨g37, h⟩ := gd_some h
  obtain ⟨sd38, S39, cS39, h⟩ := bdn_some h
  refine wn_callI (b := sd33.1) (As := []) (st := [.ref (B + sd33.1), .ref (B + t)]) (pc := 57) C g37.1 g37.2 (CnX2_init cS39) mX2_init iX2_init rfl kX10_37 rfl rfl (Nat.le_of_ble_eq_true rfl) ⟨(Nat.le_of_ble_eq_true rfl), (Nat.le_of_ble_eq_true rfl)⟩ ⟨(Nat.le_of_ble_eq_true rfl), (Nat.le_of_ble_eq_true rfl)⟩ dX10_init_57 ?_
  refine wn_cs (cn2 := 233) (sn2 := 10099) rfl rfl ?_
  obtain ⟨g40, h⟩ := gd_some h
  obtain ⟨sd41, esd41, h⟩ := bn_some h
  refine wn_putS (pc := 60) C (Or.inl ⟨_, rfl⟩) g40.2 flX10_38 ffX10_4 rfl g40.1.1 g40.1.2.1 g40.1.2.2 dX10_init_60 ?_
  rw [← esd41]
  refine wn_aload_n (pc := 63) C 0 dX10_init_63 rfl rfl ?_
  obtain ⟨g42, h⟩ := gd_some h
  obtain ⟨S43, eS43, h⟩ := bn_some h
  obtain ⟨sd44, esd44, h⟩ := bn_some h
  refine wn_new (q := (RX1, TX1, 13)) (ty0 := tyX1) (pc := 64) C g42.1 rfl (by decide) rfl layX1 tyX1_ok dfX1 clX10_42 inX1 iniX1 g42.2 (Nat.le_of_ble_eq_true rfl) (Nat.le_of_ble_eq_true rfl) dX10_init_64 ?_
  rw [← eS43, ← esd44]
  refine wn_cs (cn2 := 234) (sn2 := 10112) rfl rfl ?_
  refine wn_dup (pc := 67) C dX10_init_67 rfl ?_
  obtain ⟨g45, h⟩ := gd_some h
  obtain ⟨sd46, S47, cS47, h⟩ := bdn_some h
  refine wn_callI (b := sd41.1) (As := []) (st := [.ref (B + sd41.1), .ref (B + t)]) (pc := 68) C g45.1 g45.2 (CnX1_init cS47) mX1_init iX1_init rfl kX10_44 rfl rfl (Nat.le_of_ble_eq_true rfl) ⟨(Nat.le_of_ble_eq_true rfl), (Nat.le_of_ble_eq_true rfl)⟩ ⟨(Nat.le_of_ble_eq_true rfl), (Nat.le_of_ble_eq_true rfl)⟩ dX10_init_68 ?_
  refine wn_cs (cn2 := 242) (sn2 := 10496) rfl rfl ?_
  obtain ⟨g48, h⟩ := gd_some h
  obtain ⟨sd49, esd49, h⟩ := bn_some h
  refine wn_putS (pc := 71) C (Or.inl ⟨_, rfl⟩) g48.2 flX10_45 ffX10_5 rfl g48.1.1 g48.1.2.1 g48.1.2.2 dX10_init_71 ?_
  rw [← esd49]
  refine wn_aload_n (pc := 74) C 0 dX10_init_74 rfl rfl ?_
  obtain ⟨g50, h⟩ := gd_some h
  obtain ⟨S51, eS51, h⟩ := bn_some h
  obtain ⟨sd52, esd52, h⟩ := bn_some h
  refine wn_new (q := (RX4, TX4, 18)) (ty0 := tyX4) (pc := 75) C g50.1 rfl (by decide) rfl layX4 tyX4_ok dfX4 clX10_49 inX4 iniX4 g50.2 (Nat.le_of_ble_eq_true rfl) (Nat.le_of_ble_eq_true rfl) dX10_init_75 ?_
  rw [← eS51, ← esd52]
  refine wn_cs (cn2 := 243) (sn2 := 10514) rfl rfl ?_
  refine wn_dup (pc := 78) C dX10_init_78 rfl ?_
  refine wn_aload_n (pc := 79) C 0 dX10_init_79 rfl rfl ?_
  obtain ⟨g53, h⟩ := gd_some h
  refine wn_getD (v := S51.2.2 t 2) (pc := 80) C flX10_19 rfl rfl g53.2 g53.1.1 g53.1.2.1 dX10_init_80 ?_
  refine wn_aload_n (pc := 83) C 0 dX10_init_83 rfl rfl ?_
  obtain ⟨g54, h⟩ := gd_some h
  refine wn_getS (v := sd52.2.2.2 t 4) (pc := 84) C flX10_38 rfl rfl g54.2 g54.1.1 g54.1.2.1 dX10_init_84 ?_
  obtain ⟨g55, h⟩ := gd_some h
  obtain ⟨sd56, S57, cS57, h⟩ := bdn_some h
  refine wn_callI (b := sd49.1) (As := [.ref (B + (S51.2.2 t 2)), .ref (B + (sd52.2.2.2 t 4))]) (st := [.ref (B + sd49.1), .ref (B + t)]) (pc := 87) C g55.1 g55.2 (CnX4_init cS57) mX4_init iX4_init rfl kX10_51 rfl rfl (Nat.le_of_ble_eq_true rfl) ⟨(Nat.le_of_ble_eq_true rfl), (Nat.le_of_ble_eq_true rfl)⟩ ⟨(Nat.le_of_ble_eq_true rfl), (Nat.le_of_ble_eq_true rfl)⟩ dX10_init_87 ?_
  refine wn_cs (cn2 := 260) (sn2 := 45715) rfl rfl ?_
  obtain ⟨g58, h⟩ := gd_some h
  obtain ⟨sd59, esd59, h⟩ := bn_some h
  refine wn_putS (pc := 90) C (Or.inl ⟨_, rfl⟩) g58.2 flX10_54 ffX10_6 rfl g58.1.1 g58.1.2.1 g58.1.2.2 dX10_init_90 ?_
  rw [← esd59]
  refine wn_aload_n (pc := 93) C 0 dX10_init_93 rfl rfl ?_
  obtain ⟨g60, h⟩ := gd_some h
  obtain ⟨S61, eS61, h⟩ := bn_some h
  obtain ⟨sd62, esd62, h⟩ := bn_some h
  refine wn_new (q := (RX8, TX8, 5)) (ty0 := tyX8) (pc := 94) C g60.1 rfl (by decide) rfl layX8 tyX8_ok dfX8 clX10_58 inX8 iniX8 g60.2 (Nat.le_of_ble_eq_true rfl) (Nat.le_of_ble_eq_true rfl) dX10_init_94 ?_
  rw [← eS61, ← esd62]
  refine wn_cs (cn2 := 261) (sn2 := 45720) rfl rfl ?_
  refine wn_dup (pc := 97) C dX10_init_97 rfl ?_
  obtain ⟨g63, h⟩ := gd_some h
  obtain ⟨sd64, S65, cS65, h⟩ := bdn_some h
  refine wn_callI (b := sd59.1) (As := []) (st := [.ref (B + sd59.1), .ref (B + t)]) (pc := 98) C g63.1 g63.2 (CnX8_init cS65) mX8_init iX8_init rfl kX10_60 rfl rfl (Nat.le_of_ble_eq_true rfl) ⟨(Nat.le_of_ble_eq_true rfl), (Nat.le_of_ble_eq_true rfl)⟩ ⟨(Nat.le_of_ble_eq_true rfl), (Nat.le_of_ble_eq_true rfl)⟩ dX10_init_98 ?_
  refine wn_cs (cn2 := 262) (sn2 := 45728) rfl rfl ?_
  obtain ⟨g66, h⟩ := gd_some h
  obtain ⟨sd67, esd67, h⟩ := bn_some h
  refine wn_putS (pc := 101) C (Or.inl ⟨_, rfl⟩) g66.2 flX10_61 ffX10_7 rfl g66.1.1 g66.1.2.1 g66.1.2.2 dX10_init_101 ?_
  rw [← esd67]
  refine wn_aload_n (pc := 104) C 0 dX10_init_104 rfl rfl ?_
  refine wn_iconst (v := 3) (pc := 105) C dX10_init_105 (by decide) ?_
  obtain ⟨g68, h⟩ := gd_some h
  obtain ⟨sd69, esd69, h⟩ := bn_some h
  refine wn_newQ (pc := 106) C 3 g68.1 (by decide) (by decide) g68.2.1 g68.2.2 (Nat.le_of_ble_eq_true rfl) clX10_58 (Nat.le_of_ble_eq_true rfl) (Nat.le_of_ble_eq_true rfl) dX10_init_106 ?_
  rw [← esd69]
  refine wn_cs (cn2 := 263) (sn2 := 45731) rfl rfl ?_
  obtain ⟨g70, h⟩ := gd_some h
  obtain ⟨sd71, esd71, h⟩ := bn_some h
  refine wn_putS (pc := 109) C (Or.inr ⟨_, rfl⟩) g70.2 flX10_65 ffX10_8 rfl g70.1.1 g70.1.2.1 g70.1.2.2 dX10_init_109 ?_
  rw [← esd71]
  refine wn_iconst (v := 0) (pc := 112) C dX10_init_112 (by decide) ?_
  refine wn_istore_n (pc := 113) C [(1, .int 0), (0, .ref (B + t))] dX10_init_113 rfl (Nat.le_of_ble_eq_true rfl) rfl ?_
  refine wn_iload_n (pc := 114) C 0 dX10_init_114 rfl rfl ?_
  refine wn_iconst (v := 3) (pc := 115) C dX10_init_115 (by decide) ?_
  refine wn_ge_f (pc := 116) C 138 dX10_init_116 (by decide) (by decide) ?_
  refine wn_aload_n (pc := 119) C 1 dX10_init_119 rfl rfl ?_
  obtain ⟨g72, h⟩ := gd_some h
  refine wn_getS (v := sd71.2.2.2 t 8) (pc := 120) C flX10_65 rfl rfl g72.2 g72.1.1 g72.1.2.1 dX10_init_120 ?_
  refine wn_iload_n (pc := 123) C 0 dX10_init_123 rfl rfl ?_
  obtain ⟨g73, h⟩ := gd_some h
  obtain ⟨S74, eS74, h⟩ := bn_some h
  obtain ⟨sd75, esd75, h⟩ := bn_some h
  refine wn_new (q := (RX8, TX8, 5)) (ty0 := tyX8) (pc := 124) C g73.1 rfl (by decide) rfl layX8 tyX8_ok dfX8 clX10_58 inX8 iniX8 g73.2 (Nat.le_of_ble_eq_true rfl) (Nat.le_of_ble_eq_true rfl) dX10_init_124 ?_
  rw [← eS74, ← esd75]
  refine wn_cs (cn2 := 264) (sn2 := 45736) rfl rfl ?_
  refine wn_dup (pc := 127) C dX10_init_127 rfl ?_
  obtain ⟨g76, h⟩ := gd_some h
  obtain ⟨sd77, S78, cS78, h⟩ := bdn_some h
  refine wn_callI (b := sd71.1) (As := []) (st := [.ref (B + sd71.1), .int 0, .ref (B + (sd71.2.2.2 t 8))]) (pc := 128) C g76.1 g76.2 (CnX8_init cS78) mX8_init iX8_init rfl kX10_60 rfl rfl (Nat.le_of_ble_eq_true rfl) ⟨(Nat.le_of_ble_eq_true rfl), (Nat.le_of_ble_eq_true rfl)⟩ ⟨(Nat.le_of_ble_eq_true rfl), (Nat.le_of_ble_eq_true rfl)⟩ dX10_init_128 ?_
  refine wn_cs (cn2 := 265) (sn2 := 45744) rfl rfl ?_
  obtain ⟨g79, h⟩ := gd_some h
  obtain ⟨sd80, esd80, h⟩ := bn_some h
  refine wn_aast (pc := 131) C g79.1 g79.2.1.1 g79.2.1.2 g79.2.2.1.1 g79.2.2.1.2 g79.2.2.2 dX10_init_131 ?_
  rw [← esd80]
  refine wn_iinc (q := 0) (pc := 132) C (by decide) [(1, .int 1), (0, .ref (B + t))] dX10_init_132 rfl (Nat.le_of_ble_eq_true rfl) rfl ?_
  refine wn_goto (pc := 135) C 114 dX10_init_135 (by decide) ?_
  refine wn_iload_n (pc := 114) C 0 dX10_init_114 rfl rfl ?_
  refine wn_iconst (v := 3) (pc := 115) C dX10_init_115 (by decide) ?_
  refine wn_ge_f (pc := 116) C 138 dX10_init_116 (by decide) (by decide) ?_
  refine wn_aload_n (pc := 119) C 1 dX10_init_119 rfl rfl ?_
  obtain ⟨g81, h⟩ := gd_some h
  refine wn_getS (v := sd80.2.2.2 t 8) (pc := 120) C flX10_65 rfl rfl g81.2 g81.1.1 g81.1.2.1 dX10_init_120 ?_
  refine wn_iload_n (pc := 123) C 0 dX10_init_123 rfl rfl ?_
  obtain ⟨g82, h⟩ := gd_some h
  obtain ⟨S83, eS83, h⟩ := bn_some h
  obtain ⟨sd84, esd84, h⟩ := bn_some h
  refine wn_new (q := (RX8, TX8, 5)) (ty0 := tyX8) (pc := 124) C g82.1 rfl (by decide) rfl layX8 tyX8_ok dfX8 clX10_58 inX8 iniX8 g82.2 (Nat.le_of_ble_eq_true rfl) (Nat.le_of_ble_eq_true rfl) dX10_init_124 ?_
  rw [← eS83, ← esd84]
  refine wn_cs (cn2 := 266) (sn2 := 45749) rfl rfl ?_
  refine wn_dup (pc := 127) C dX10_init_127 rfl ?_
  obtain ⟨g85, h⟩ := gd_some h
  obtain ⟨sd86, S87, cS87, h⟩ := bdn_some h
  refine wn_callI (b := sd80.1) (As := []) (st := [.ref (B + sd80.1), .int 1, .ref (B + (sd80.2.2.2 t 8))]) (pc := 128) C g85.1 g85.2 (CnX8_init cS87) mX8_init iX8_init rfl kX10_60 rfl rfl (Nat.le_of_ble_eq_true rfl) ⟨(Nat.le_of_ble_eq_true rfl), (Nat.le_of_ble_eq_true rfl)⟩ ⟨(Nat.le_of_ble_eq_true rfl), (Nat.le_of_ble_eq_true rfl)⟩ dX10_init_128 ?_
  refine wn_cs (cn2 := 267) (sn2 := 45757) rfl rfl ?_
  obtain ⟨g88, h⟩ := gd_some h
  obtain ⟨sd89, esd89, h⟩ := bn_some h
  refine wn_aast (pc := 131) C g88.1 g88.2.1.1 g88.2.1.2 g88.2.2.1.1 g88.2.2.1.2 g88.2.2.2 dX10_init_131 ?_
  rw [← esd89]
  refine wn_iinc (q := 0) (pc := 132) C (by decide) [(1, .int 2), (0, .ref (B + t))] dX10_init_132 rfl (Nat.le_of_ble_eq_true rfl) rfl ?_
  refine wn_goto (pc := 135) C 114 dX10_init_135 (by decide) ?_
  refine wn_iload_n (pc := 114) C 0 dX10_init_114 rfl rfl ?_
  refine wn_iconst (v := 3) (pc := 115) C dX10_init_115 (by decide) ?_
  refine wn_ge_f (pc := 116) C 138 dX10_init_116 (by decide) (by decide) ?_
  refine wn_aload_n (pc := 119) C 1 dX10_init_119 rfl rfl ?_
  obtain ⟨g90, h⟩ := gd_some h
  refine wn_getS (v := sd89.2.2.2 t 8) (pc := 120) C flX10_65 rfl rfl g90.2 g90.1.1 g90.1.2.1 dX10_init_120 ?_
  refine wn_iload_n (pc := 123) C 0 dX10_init_123 rfl rfl ?_
  obtain ⟨g91, h⟩ := gd_some h
  obtain ⟨S92, eS92, h⟩ := bn_some h
  obtain ⟨sd93, esd93, h⟩ := bn_some h
  refine wn_new (q := (RX8, TX8, 5)) (ty0 := tyX8) (pc := 124) C g91.1 rfl (by decide) rfl layX8 tyX8_ok dfX8 clX10_58 inX8 iniX8 g91.2 (Nat.le_of_ble_eq_true rfl) (Nat.le_of_ble_eq_true rfl) dX10_init_124 ?_
  rw [← eS92, ← esd93]
  refine wn_cs (cn2 := 268) (sn2 := 45762) rfl rfl ?_
  refine wn_dup (pc := 127) C dX10_init_127 rfl ?_
  obtain ⟨g94, h⟩ := gd_some h
  obtain ⟨sd95, S96, cS96, h⟩ := bdn_some h
  refine wn_callI (b := sd89.1) (As := []) (st := [.ref (B + sd89.1), .int 2, .ref (B + (sd89.2.2.2 t 8))]) (pc := 128) C g94.1 g94.2 (CnX8_init cS96) mX8_init iX8_init rfl kX10_60 rfl rfl (Nat.le_of_ble_eq_true rfl) ⟨(Nat.le_of_ble_eq_true rfl), (Nat.le_of_ble_eq_true rfl)⟩ ⟨(Nat.le_of_ble_eq_true rfl), (Nat.le_of_ble_eq_true rfl)⟩ dX10_init_128 ?_
  refine wn_cs (cn2 := 269) (sn2 := 45770) rfl rfl ?_
  obtain ⟨g97, h⟩ := gd_some h
  obtain ⟨sd98, esd98, h⟩ := bn_some h
  refine wn_aast (pc := 131) C g97.1 g97.2.1.1 g97.2.1.2 g97.2.2.1.1 g97.2.2.1.2 g97.2.2.2 dX10_init_131 ?_
  rw [← esd98]
  refine wn_iinc (q := 0) (pc := 132) C (by decide) [(1, .int 3), (0, .ref (B + t))] dX10_init_132 rfl (Nat.le_of_ble_eq_true rfl) rfl ?_
  refine wn_goto (pc := 135) C 114 dX10_init_135 (by decide) ?_
  refine wn_iload_n (pc := 114) C 0 dX10_init_114 rfl rfl ?_
  refine wn_iconst (v := 3) (pc := 115) C dX10_init_115 (by decide) ?_
  refine wn_ge_t (pc := 116) C 138 dX10_init_116 (by decide) (by decide) ?_
  refine wn_aload_n (pc := 138) C 1 dX10_init_138 rfl rfl ?_
  refine wn_bipush (v := 16) (pc := 139) C dX10_init_139 (by decide) ?_
  obtain ⟨g99, h⟩ := gd_some h
  obtain ⟨S100, eS100, h⟩ := bn_some h
  obtain ⟨sd101, esd101, h⟩ := bn_some h
  refine wn_newI (pc := 141) C 16 g99.1 (by decide) (by decide) g99.2.1 g99.2.2 (Nat.le_of_ble_eq_true rfl) arr13 (Nat.le_of_ble_eq_true rfl) (Nat.le_of_ble_eq_true rfl) dX10_init_141 ?_
  rw [← eS100, ← esd101]
  refine wn_cs (cn2 := 270) (sn2 := 45786) rfl rfl ?_
  obtain ⟨g102, h⟩ := gd_some h
  obtain ⟨sd103, esd103, h⟩ := bn_some h
  refine wn_putS (pc := 143) C (Or.inr ⟨_, rfl⟩) g102.2 flX10_69 ffX10_9 rfl g102.1.1 g102.1.2.1 g102.1.2.2 dX10_init_143 ?_
  rw [← esd103]
  refine wn_aload_n (pc := 146) C 1 dX10_init_146 rfl rfl ?_
  refine wn_bipush (v := 6) (pc := 147) C dX10_init_147 (by decide) ?_
  obtain ⟨g104, h⟩ := gd_some h
  obtain ⟨S105, eS105, h⟩ := bn_some h
  obtain ⟨sd106, esd106, h⟩ := bn_some h
  refine wn_newI (pc := 149) C 6 g104.1 (by decide) (by decide) g104.2.1 g104.2.2 (Nat.le_of_ble_eq_true rfl) arr13 (Nat.le_of_ble_eq_true rfl) (Nat.le_of_ble_eq_true rfl) dX10_init_149 ?_
  rw [← eS105, ← esd106]
  refine wn_cs (cn2 := 271) (sn2 := 45792) rfl rfl ?_
  obtain ⟨g107, h⟩ := gd_some h
  obtain ⟨sd108, esd108, h⟩ := bn_some h
  refine wn_putS (pc := 151) C (Or.inr ⟨_, rfl⟩) g107.2 flX10_73 ffX10_10 rfl g107.1.1 g107.1.2.1 g107.1.2.2 dX10_init_151 ?_
  rw [← esd108]
  refine wn_aload_n (pc := 154) C 1 dX10_init_154 rfl rfl ?_
  refine wn_iconst (v := 0) (pc := 155) C dX10_init_155 (by decide) ?_
  obtain ⟨g109, h⟩ := gd_some h
  obtain ⟨S110, eS110, h⟩ := bn_some h
  refine wn_putZ (pc := 156) C (Or.inl rfl) flX10_76 fpX10_11 rfl g109.1 g109.2.1 g109.2.2 dX10_init_156 ?_
  rw [← eS110]
  refine wn_aload_n (pc := 159) C 1 dX10_init_159 rfl rfl ?_
  refine wn_iconst (v := 0) (pc := 160) C dX10_init_160 (by decide) ?_
  obtain ⟨g111, h⟩ := gd_some h
  obtain ⟨S112, eS112, h⟩ := bn_some h
  refine wn_putI (pc := 161) C flX10_80 fpX10_12 rfl g111.1 g111.2.1 g111.2.2 dX10_init_161 ?_
  rw [← eS112]
  exact wn_vret C rfl h dX10_init_164
theorem CnX10_init {l : Launch} {cy : Nat → ClassId} {D : va_G} {B : Nat} {qs : (Nat → Nat) × (Nat → Nat)} {n : Nat} {sd sd' : Sd} {S S' : St} {t : Nat} (h : nX10_init n sd S t = some (sd', S')) : CtN l cy B D qs yX10_init cX10_init 2 7 149 271 45792 [.ref (B + t)] sd S sd' S' :=
  CtN_of (own := RX10) mX10_init rfl rfl (Nat.le_of_ble_eq_true rfl) (fun G e1 e2 e3 C => by subst e1 e2 e3; exact wX10_init C h)
set_option maxRecDepth 100000 in
def nX11_init (n : Nat) (sd : Sd) (S : St) (t : Nat) : Option (Sd × St) :=
  gd (sd.1 = sd.1 + 0 ∧ sd.2.1 sd.1 = 13 ∧ sd.2.2.1 sd.1 = 1700) (
  bn (aI S sd.1) (fun S2 : St =>
  bn (sdA sd) (fun sd3 : Sd =>
  gd (okN sd3 t 11 ∧ sd.1 ≠ 999999) (
  bn (sdP sd3 t 0 sd.1) (fun sd5 : Sd =>
  gd (okN sd5 t 11) (
  bn (sI S2 t 3 (-1)) (fun S7 : St =>
  gd (sd5.1 = sd.1 + 1 ∧ sd5.2.1 sd5.1 = 14 ∧ sd5.2.2.1 sd5.1 = 50) (
  bn (aL S7 sd5.1) (fun S9 : St =>
  bn (sdA sd5) (fun sd10 : Sd =>
  gd (okN sd10 t 11 ∧ sd5.1 ≠ 999999) (
  bn (sdP sd10 t 10 sd5.1) (fun sd12 : Sd =>
  gd (sd12.1 = sd.1 + 2 ∧ sd12.2.1 sd12.1 = 13 ∧ sd12.2.2.1 sd12.1 = 5) (
  bn (aI S9 sd12.1) (fun S14 : St =>
  bn (sdA sd12) (fun sd15 : Sd =>
  gd (okN sd15 t 11 ∧ sd12.1 ≠ 999999) (
  bn (sdP sd15 t 11 sd12.1) (fun sd17 : Sd =>
  gd (sd17.1 = sd.1 + 3 ∧ sd17.2.1 sd17.1 = 13 ∧ sd17.2.2.1 sd17.1 = 5) (
  bn (aI S14 sd17.1) (fun S19 : St =>
  bn (sdA sd17) (fun sd20 : Sd =>
  gd (okN sd20 t 11 ∧ sd17.1 ≠ 999999) (
  bn (sdP sd20 t 12 sd17.1) (fun sd22 : Sd =>
  gd (sd22.1 = sd.1 + 4 ∧ sd22.2.1 sd22.1 = 13 ∧ sd22.2.2.1 sd22.1 = 128) (
  bn (aI S19 sd22.1) (fun S24 : St =>
  bn (sdA sd22) (fun sd25 : Sd =>
  gd (okN sd25 t 11 ∧ sd22.1 ≠ 999999) (
  bn (sdP sd25 t 13 sd22.1) (fun sd27 : Sd =>
  gd (sd27.1 = sd.1 + 5 ∧ sd27.2.1 sd27.1 = 13 ∧ sd27.2.2.1 sd27.1 = 64) (
  bn (aI S24 sd27.1) (fun S29 : St =>
  bn (sdA sd27) (fun sd30 : Sd =>
  gd (okN sd30 t 11 ∧ sd27.1 ≠ 999999) (
  bn (sdP sd30 t 14 sd27.1) (fun sd32 : Sd =>
  gd (sd32.1 = sd.1 + 6 ∧ sd32.2.1 sd32.1 = 13 ∧ sd32.2.2.1 sd32.1 = 96) (
  bn (aI S29 sd32.1) (fun S34 : St =>
  bn (sdA sd32) (fun sd35 : Sd =>
  gd (okN sd35 t 11 ∧ sd32.1 ≠ 999999) (
  bn (sdP sd35 t 15 sd32.1) (fun sd37 : Sd =>
  gd (sd37.1 = sd.1 + 7 ∧ sd37.2.1 sd37.1 = 13 ∧ sd37.2.2.1 sd37.1 = 64) (
  bn (aI S34 sd37.1) (fun S39 : St =>
  bn (sdA sd37) (fun sd40 : Sd =>
  gd (okN sd40 t 11 ∧ sd37.1 ≠ 999999) (
  bn (sdP sd40 t 16 sd37.1) (fun sd42 : Sd =>
  gd (sd42.1 = sd.1 + 8 ∧ sd42.2.1 sd42.1 = 13 ∧ sd42.2.2.1 sd42.1 = 8) (
  bn (aI S39 sd42.1) (fun S44 : St =>
  bn (sdA sd42) (fun sd45 : Sd =>
  gd (okN sd45 t 11 ∧ sd42.1 ≠ 999999) (
  bn (sdP sd45 t 17 sd42.1) (fun sd47 : Sd =>
  gd (sd47.1 = sd.1 + 9 ∧ sd47.2.1 sd47.1 = 13 ∧ sd47.2.2.1 sd47.1 = 8) (
  bn (aI S44 sd47.1) (fun S49 : St =>
  bn (sdA sd47) (fun sd50 : Sd =>
  gd (okN sd50 t 11 ∧ sd47.1 ≠ 999999) (
  bn (sdP sd50 t 18 sd47.1) (fun sd52 : Sd =>
  gd (sd52.1 = sd.1 + 10 ∧ sd52.2.1 sd52.1 = 13 ∧ sd52.2.2.1 sd52.1 = 8) (
  bn (aI S49 sd52.1) (fun S54 : St =>
  bn (sdA sd52) (fun sd55 : Sd =>
  gd (okN sd55 t 11 ∧ sd52.1 ≠ 999999) (
  bn (sdP sd55 t 19 sd52.1) (fun sd57 : Sd =>
  gd (sd57.1 = sd.1 + 11 ∧ sd57.2.1 sd57.1 = 13 ∧ sd57.2.2.1 sd57.1 = 64) (
  bn (aI S54 sd57.1) (fun S59 : St =>
  bn (sdA sd57) (fun sd60 : Sd =>
  gd (okN sd60 t 11 ∧ sd57.1 ≠ 999999) (
  bn (sdP sd60 t 20 sd57.1) (fun sd62 : Sd =>
  gd (sd62.1 = sd.1 + 12 ∧ sd62.2.1 sd62.1 = 13 ∧ sd62.2.2.1 sd62.1 = 128) (
  bn (aI S59 sd62.1) (fun S64 : St =>
  bn (sdA sd62) (fun sd65 : Sd =>
  gd (okN sd65 t 11 ∧ sd62.1 ≠ 999999) (
  bn (sdP sd65 t 21 sd62.1) (fun sd67 : Sd =>
  gd (sd67.1 = sd.1 + 13 ∧ sd67.2.1 sd67.1 = 13 ∧ sd67.2.2.1 sd67.1 = 64) (
  bn (aI S64 sd67.1) (fun S69 : St =>
  bn (sdA sd67) (fun sd70 : Sd =>
  gd (okN sd70 t 11 ∧ sd67.1 ≠ 999999) (
  bn (sdP sd70 t 22 sd67.1) (fun sd72 : Sd =>
  gd (sd72.1 = sd.1 + 14 ∧ sd72.2.1 sd72.1 = 13 ∧ sd72.2.2.1 sd72.1 = 96) (
  bn (aI S69 sd72.1) (fun S74 : St =>
  bn (sdA sd72) (fun sd75 : Sd =>
  gd (okN sd75 t 11 ∧ sd72.1 ≠ 999999) (
  bn (sdP sd75 t 23 sd72.1) (fun sd77 : Sd =>
  gd (sd77.1 = sd.1 + 15 ∧ sd77.2.1 sd77.1 = 13 ∧ sd77.2.2.1 sd77.1 = 64) (
  bn (aI S74 sd77.1) (fun S79 : St =>
  bn (sdA sd77) (fun sd80 : Sd =>
  gd (okN sd80 t 11 ∧ sd77.1 ≠ 999999) (
  bn (sdP sd80 t 24 sd77.1) (fun sd82 : Sd =>
  gd (sd82.1 = sd.1 + 16 ∧ sd82.2.1 sd82.1 = 13 ∧ sd82.2.2.1 sd82.1 = 8) (
  bn (aI S79 sd82.1) (fun S84 : St =>
  bn (sdA sd82) (fun sd85 : Sd =>
  gd (okN sd85 t 11 ∧ sd82.1 ≠ 999999) (
  bn (sdP sd85 t 25 sd82.1) (fun sd87 : Sd =>
  gd (sd87.1 = sd.1 + 17 ∧ sd87.2.1 sd87.1 = 13 ∧ sd87.2.2.1 sd87.1 = 8) (
  bn (aI S84 sd87.1) (fun S89 : St =>
  bn (sdA sd87) (fun sd90 : Sd =>
  gd (okN sd90 t 11 ∧ sd87.1 ≠ 999999) (
  bn (sdP sd90 t 26 sd87.1) (fun sd92 : Sd =>
  gd (sd92.1 = sd.1 + 18 ∧ sd92.2.1 sd92.1 = 13 ∧ sd92.2.2.1 sd92.1 = 8) (
  bn (aI S89 sd92.1) (fun S94 : St =>
  bn (sdA sd92) (fun sd95 : Sd =>
  gd (okN sd95 t 11 ∧ sd92.1 ≠ 999999) (
  bn (sdP sd95 t 27 sd92.1) (fun sd97 : Sd =>
  gd (sd97.1 = sd.1 + 19 ∧ sd97.2.1 sd97.1 = 13 ∧ sd97.2.2.1 sd97.1 = 64) (
  bn (aI S94 sd97.1) (fun S99 : St =>
  bn (sdA sd97) (fun sd100 : Sd =>
  gd (okN sd100 t 11 ∧ sd97.1 ≠ 999999) (
  bn (sdP sd100 t 28 sd97.1) (fun sd102 : Sd =>
  gd (sd102.1 = sd.1 + 20 ∧ sd102.2.1 sd102.1 = 13 ∧ sd102.2.2.1 sd102.1 = 16) (
  bn (aI S99 sd102.1) (fun S104 : St =>
  bn (sdA sd102) (fun sd105 : Sd =>
  gd (okN sd105 t 11 ∧ sd102.1 ≠ 999999) (
  bn (sdP sd105 t 43 sd102.1) (fun sd107 : Sd =>
  gd (sd107.1 = sd.1 + 21 ∧ sd107.2.1 sd107.1 = 13 ∧ sd107.2.2.1 sd107.1 = 2) (
  bn (aI S104 sd107.1) (fun S109 : St =>
  bn (sdA sd107) (fun sd110 : Sd =>
  gd (okN sd110 t 11 ∧ sd107.1 ≠ 999999) (
  bn (sdP sd110 t 44 sd107.1) (fun sd112 : Sd =>
  gd (sd112.1 = sd.1 + 22 ∧ sd112.2.1 sd112.1 = 14 ∧ sd112.2.2.1 sd112.1 = 32) (
  bn (aL S109 sd112.1) (fun S114 : St =>
  bn (sdA sd112) (fun sd115 : Sd =>
  gd (okN sd115 t 11 ∧ sd112.1 ≠ 999999) (
  bn (sdP sd115 t 45 sd112.1) (fun sd117 : Sd =>
  gd (sd117.1 = sd.1 + 23 ∧ sd117.2.1 sd117.1 = 13 ∧ sd117.2.2.1 sd117.1 = 8) (
  bn (aI S114 sd117.1) (fun S119 : St =>
  bn (sdA sd117) (fun sd120 : Sd =>
  gd (okN sd120 t 11 ∧ sd117.1 ≠ 999999) (
  bn (sdP sd120 t 51 sd117.1) (fun sd122 : Sd =>
  gd (sd122.1 = sd.1 + 24 ∧ sd122.2.1 sd122.1 = 14 ∧ sd122.2.2.1 sd122.1 = 30000) (
  bn (aL S119 sd122.1) (fun S124 : St =>
  bn (sdA sd122) (fun sd125 : Sd =>
  gd (okN sd125 t 11 ∧ sd122.1 ≠ 999999) (
  bn (sdP sd125 t 55 sd122.1) (fun sd127 : Sd =>
  gd (sd127.1 = sd.1 + 25 ∧ sd127.2.1 sd127.1 = 13 ∧ sd127.2.2.1 sd127.1 = 40000) (
  bn (aI S124 sd127.1) (fun S129 : St =>
  bn (sdA sd127) (fun sd130 : Sd =>
  gd (okN sd130 t 11 ∧ sd127.1 ≠ 999999) (
  bn (sdP sd130 t 56 sd127.1) (fun sd132 : Sd =>
  gd (sd132.1 = sd.1 + 26 ∧ sd132.2.1 sd132.1 = 13 ∧ sd132.2.2.1 sd132.1 = 5000) (
  bn (aI S129 sd132.1) (fun S134 : St =>
  bn (sdA sd132) (fun sd135 : Sd =>
  gd (okN sd135 t 11 ∧ sd132.1 ≠ 999999) (
  bn (sdP sd135 t 57 sd132.1) (fun sd137 : Sd =>
  gd (sd137.1 = sd.1 + 27 ∧ sd137.2.1 sd137.1 = 14 ∧ sd137.2.2.1 sd137.1 = 24) (
  bn (aL S134 sd137.1) (fun S139 : St =>
  bn (sdA sd137) (fun sd140 : Sd =>
  gd (okN sd140 t 11 ∧ sd137.1 ≠ 999999) (
  bn (sdP sd140 t 60 sd137.1) (fun sd142 : Sd =>
  gd (sd142.1 = sd.1 + 28 ∧ sd142.2.1 sd142.1 = 13 ∧ sd142.2.2.1 sd142.1 = 6) (
  bn (aI S139 sd142.1) (fun S144 : St =>
  bn (sdA sd142) (fun sd145 : Sd =>
  gd (okN sd145 t 11 ∧ sd142.1 ≠ 999999) (
  bn (sdP sd145 t 61 sd142.1) (fun sd147 : Sd =>
  gd (sd147.1 = sd.1 + 29 ∧ sd147.2.1 sd147.1 = 13 ∧ sd147.2.2.1 sd147.1 = 6) (
  bn (aI S144 sd147.1) (fun S149 : St =>
  bn (sdA sd147) (fun sd150 : Sd =>
  gd (okN sd150 t 11 ∧ sd147.1 ≠ 999999) (
  bn (sdP sd150 t 62 sd147.1) (fun sd152 : Sd =>
  gd (sd152.1 = sd.1 + 30 ∧ sd152.2.1 sd152.1 = 13 ∧ sd152.2.2.1 sd152.1 = 8) (
  bn (aI S149 sd152.1) (fun S154 : St =>
  bn (sdA sd152) (fun sd155 : Sd =>
  gd (okN sd155 t 11 ∧ sd152.1 ≠ 999999) (
  bn (sdP sd155 t 64 sd152.1) (fun sd157 : Sd =>
  gd (okN sd157 t 11) (
  bn (sI S154 t 67 1) (fun S159 : St =>
  gd (sd157.1 = sd.1 + 31 ∧ sd157.2.1 sd157.1 = 13 ∧ sd157.2.2.1 sd157.1 = 72) (
  bn (aI S159 sd157.1) (fun S161 : St =>
  bn (sdA sd157) (fun sd162 : Sd =>
  gd (okN sd162 t 11 ∧ sd157.1 ≠ 999999) (
  bn (sdP sd162 t 68 sd157.1) (fun sd164 : Sd =>
  gd (sd164.1 = sd.1 + 32 ∧ sd164.2.1 sd164.1 = 13 ∧ sd164.2.2.1 sd164.1 = 72) (
  bn (aI S161 sd164.1) (fun S166 : St =>
  bn (sdA sd164) (fun sd167 : Sd =>
  gd (okN sd167 t 11 ∧ sd164.1 ≠ 999999) (
  bn (sdP sd167 t 69 sd164.1) (fun sd169 : Sd =>
  gd (sd169.1 = sd.1 + 33 ∧ sd169.2.1 sd169.1 = 13 ∧ sd169.2.2.1 sd169.1 = 40) (
  bn (aI S166 sd169.1) (fun S171 : St =>
  bn (sdA sd169) (fun sd172 : Sd =>
  gd (okN sd172 t 11 ∧ sd169.1 ≠ 999999) (
  bn (sdP sd172 t 71 sd169.1) (fun sd174 : Sd =>
  gd (sd174.1 = sd.1 + 34 ∧ sd174.2.1 sd174.1 = 13 ∧ sd174.2.2.1 sd174.1 = 40) (
  bn (aI S171 sd174.1) (fun S176 : St =>
  bn (sdA sd174) (fun sd177 : Sd =>
  gd (okN sd177 t 11 ∧ sd174.1 ≠ 999999) (
  bn (sdP sd177 t 72 sd174.1) (fun sd179 : Sd =>
  gd (sd179.1 = sd.1 + 35 ∧ sd179.2.1 sd179.1 = 13 ∧ sd179.2.2.1 sd179.1 = 40) (
  bn (aI S176 sd179.1) (fun S181 : St =>
  bn (sdA sd179) (fun sd182 : Sd =>
  gd (okN sd182 t 11 ∧ sd179.1 ≠ 999999) (
  bn (sdP sd182 t 73 sd179.1) (fun sd184 : Sd =>
  gd (sd184.1 = sd.1 + 36 ∧ sd184.2.1 sd184.1 = 13 ∧ sd184.2.2.1 sd184.1 = 40) (
  bn (aI S181 sd184.1) (fun S186 : St =>
  bn (sdA sd184) (fun sd187 : Sd =>
  gd (okN sd187 t 11 ∧ sd184.1 ≠ 999999) (
  bn (sdP sd187 t 74 sd184.1) (fun sd189 : Sd =>
  gd (sd189.1 = sd.1 + 37 ∧ sd189.2.1 sd189.1 = 13 ∧ sd189.2.2.1 sd189.1 = 40) (
  bn (aI S186 sd189.1) (fun S191 : St =>
  bn (sdA sd189) (fun sd192 : Sd =>
  gd (okN sd192 t 11 ∧ sd189.1 ≠ 999999) (
  bn (sdP sd192 t 75 sd189.1) (fun sd194 : Sd =>
  gd (sd194.1 = sd.1 + 38 ∧ sd194.2.1 sd194.1 = 13 ∧ sd194.2.2.1 sd194.1 = 40) (
  bn (aI S191 sd194.1) (fun S196 : St =>
  bn (sdA sd194) (fun sd197 : Sd =>
  gd (okN sd197 t 11 ∧ sd194.1 ≠ 999999) (
  bn (sdP sd197 t 76 sd194.1) (fun sd199 : Sd =>
  gd (sd199.1 = sd.1 + 39 ∧ sd199.2.1 sd199.1 = 13 ∧ sd199.2.2.1 sd199.1 = 72) (
  bn (aI S196 sd199.1) (fun S201 : St =>
  bn (sdA sd199) (fun sd202 : Sd =>
  gd (okN sd202 t 11 ∧ sd199.1 ≠ 999999) (
  bn (sdP sd202 t 79 sd199.1) (fun sd204 : Sd =>
  gd (sd204.1 = sd.1 + 40 ∧ sd204.2.1 sd204.1 = 14 ∧ sd204.2.2.1 sd204.1 = 72) (
  bn (aL S201 sd204.1) (fun S206 : St =>
  bn (sdA sd204) (fun sd207 : Sd =>
  gd (okN sd207 t 11 ∧ sd204.1 ≠ 999999) (
  bn (sdP sd207 t 80 sd204.1) (fun sd209 : Sd =>
  gd (sd209.1 = sd.1 + 41 ∧ sd209.2.1 sd209.1 = 15 ∧ sd209.2.2.1 sd209.1 = 3) (
  bn (aI S206 sd209.1) (fun S211 : St =>
  bn (sdA sd209) (fun sd212 : Sd =>
  gd (okN sd212 t 11 ∧ sd209.1 ≠ 999999) (
  bn (sdP sd212 t 82 sd209.1) (fun sd214 : Sd =>
  gd (sd214.1 = sd.1 + 42 ∧ sd214.2.1 sd214.1 = 13 ∧ sd214.2.2.1 sd214.1 = 24) (
  bn (aI S211 sd214.1) (fun S216 : St =>
  bn (sdA sd214) (fun sd217 : Sd =>
  gd (okN sd217 t 11 ∧ sd214.1 ≠ 999999) (
  bn (sdP sd217 t 83 sd214.1) (fun sd219 : Sd =>
  gd (sd219.1 = sd.1 + 43 ∧ sd219.2.1 sd219.1 = 13 ∧ sd219.2.2.1 sd219.1 = 3) (
  bn (aI S216 sd219.1) (fun S221 : St =>
  bn (sdA sd219) (fun sd222 : Sd =>
  gd (okN sd222 t 11 ∧ sd219.1 ≠ 999999) (
  bn (sdP sd222 t 84 sd219.1) (fun sd224 : Sd =>
  gd (sd224.1 = sd.1 + 44 ∧ sd224.2.1 sd224.1 = 13 ∧ sd224.2.2.1 sd224.1 = 3) (
  bn (aI S221 sd224.1) (fun S226 : St =>
  bn (sdA sd224) (fun sd227 : Sd =>
  gd (okN sd227 t 11 ∧ sd224.1 ≠ 999999) (
  bn (sdP sd227 t 85 sd224.1) (fun sd229 : Sd =>
  gd (sd229.1 = sd.1 + 45 ∧ sd229.2.1 sd229.1 = 13 ∧ sd229.2.2.1 sd229.1 = 3) (
  bn (aI S226 sd229.1) (fun S231 : St =>
  bn (sdA sd229) (fun sd232 : Sd =>
  gd (okN sd232 t 11 ∧ sd229.1 ≠ 999999) (
  bn (sdP sd232 t 86 sd229.1) (fun sd234 : Sd =>
  gd (okN sd234 t 11) (
  bn (sI S231 t 33 4) (fun S236 : St =>
  gd (okN sd234 t 11) (
  bn (sI S236 t 34 12) (fun S238 : St =>
  gd (okN sd234 t 11) (
  bn (sI S238 t 35 10) (fun S240 : St =>
  some (sd234, S240)))))))))))))))))))))))))))))))))))))))))))))))))))))))))))))))))))))))))))))))))))))))))))))))))))))))))))))))))))))))))))))))))))))))))))))))))))))))))))))))))))))))))))))))))))))))))))))))))))))))))))))))))))))))))))))))))))))))))))))))))
set_option maxRecDepth 100000 in
set_option maxHeartbeats 4000000 in
theorem wX11_init {G : Gx} {B : Nat} {qs : (Nat → Nat) × (Nat → Nat)} {n : Nat} {sd sd' : Sd} {S S' : St} {t : Nat} (C : Cn G B sd.1 qs cX11_init 1 RX11 none) (h : nX11_init n sd S t = some (sd', S')) : Wn G sd B (rmN 1 20 46 78306) 1 (QmN G B 46 78306 sd' S') 0 0 S 0 [(0, .ref (B + t))] [] := by
  unfold nX11_init at h
  refine wn_aload_n (pc := 0) C 0 dX11_init_0 rfl rfl ?_
  refine wn_objInit (pc := 1) C kOX11_1 oiI oiC (Nat.le_of_ble_eq_true rfl) (Nat.le_of_ble_eq_true rfl) dX11_init_1 ?_
  refine wn_aload_n (pc := 4) C 0 dX11_init_4 rfl rfl ?_
  refine wn_sipush (v := 1700) (pc := 5) C dX11_init_5 (by decide) ?_
  obtain ⟨g1, h⟩ := gd_some h
  obtain ⟨S2, eS2, h⟩ := bn_some h
  obtain ⟨sd3, esd3, h⟩ := bn_some h
  refine wn_newI (pc := 8) C 1700 g1.1 (by decide) (by decide) g1.2.1 g1.2.2 (Nat.le_of_ble_eq_true rfl) arr13 (Nat.le_of_ble_eq_true rfl) (Nat.le_of_ble_eq_true rfl) dX11_init_8 ?_
  rw [← eS2, ← esd3]
  refine wn_cs (cn2 := 1) (sn2 := 1700) rfl rfl ?_
  obtain ⟨g4, h⟩ := gd_some h
  obtain ⟨sd5, esd5, h⟩ := bn_some h
  refine wn_putS (pc := 10) C (Or.inr ⟨_, rfl⟩) g4.2 flX11_7 ffX11_0 rfl g4.1.1 g4.1.2.1 g4.1.2.2 dX11_init_10 ?_
  rw [← esd5]
  refine wn_aload_n (pc := 13) C 0 dX11_init_13 rfl rfl ?_
  refine wn_iconst (v := (-1)) (pc := 14) C dX11_init_14 (by decide) ?_
  obtain ⟨g6, h⟩ := gd_some h
  obtain ⟨S7, eS7, h⟩ := bn_some h
  refine wn_putI (pc := 15) C flX11_13 fpX11_3 rfl g6.1 g6.2.1 g6.2.2 dX11_init_15 ?_
  rw [← eS7]
  refine wn_aload_n (pc := 18) C 0 dX11_init_18 rfl rfl ?_
  refine wn_bipush (v := 50) (pc := 19) C dX11_init_19 (by decide) ?_
  obtain ⟨g8, h⟩ := gd_some h
  obtain ⟨S9, eS9, h⟩ := bn_some h
  obtain ⟨sd10, esd10, h⟩ := bn_some h
  refine wn_newL (pc := 21) C 50 g8.1 (by decide) (by decide) g8.2.1 g8.2.2 (Nat.le_of_ble_eq_true rfl) arr14 (Nat.le_of_ble_eq_true rfl) (Nat.le_of_ble_eq_true rfl) dX11_init_21 ?_
  rw [← eS9, ← esd10]
  refine wn_cs (cn2 := 2) (sn2 := 1750) rfl rfl ?_
  obtain ⟨g11, h⟩ := gd_some h
  obtain ⟨sd12, esd12, h⟩ := bn_some h
  refine wn_putS (pc := 23) C (Or.inr ⟨_, rfl⟩) g11.2 flX11_17 ffX11_10 rfl g11.1.1 g11.1.2.1 g11.1.2.2 dX11_init_23 ?_
  rw [← esd12]
  refine wn_aload_n (pc := 26) C 0 dX11_init_26 rfl rfl ?_
  refine wn_iconst (v := 5) (pc := 27) C dX11_init_27 (by decide) ?_
  obtain ⟨g13, h⟩ := gd_some h
  obtain ⟨S14, eS14, h⟩ := bn_some h
  obtain ⟨sd15, esd15, h⟩ := bn_some h
  refine wn_newI (pc := 28) C 5 g13.1 (by decide) (by decide) g13.2.1 g13.2.2 (Nat.le_of_ble_eq_true rfl) arr13 (Nat.le_of_ble_eq_true rfl) (Nat.le_of_ble_eq_true rfl) dX11_init_28 ?_
  rw [← eS14, ← esd15]
  refine wn_cs (cn2 := 3) (sn2 := 1755) rfl rfl ?_
  obtain ⟨g16, h⟩ := gd_some h
  obtain ⟨sd17, esd17, h⟩ := bn_some h
  refine wn_putS (pc := 30) C (Or.inr ⟨_, rfl⟩) g16.2 flX11_21 ffX11_11 rfl g16.1.1 g16.1.2.1 g16.1.2.2 dX11_init_30 ?_
  rw [← esd17]
  refine wn_aload_n (pc := 33) C 0 dX11_init_33 rfl rfl ?_
  refine wn_iconst (v := 5) (pc := 34) C dX11_init_34 (by decide) ?_
  obtain ⟨g18, h⟩ := gd_some h
  obtain ⟨S19, eS19, h⟩ := bn_some h
  obtain ⟨sd20, esd20, h⟩ := bn_some h
  refine wn_newI (pc := 35) C 5 g18.1 (by decide) (by decide) g18.2.1 g18.2.2 (Nat.le_of_ble_eq_true rfl) arr13 (Nat.le_of_ble_eq_true rfl) (Nat.le_of_ble_eq_true rfl) dX11_init_35 ?_
  rw [← eS19, ← esd20]
  refine wn_cs (cn2 := 4) (sn2 := 1760) rfl rfl ?_
  obtain ⟨g21, h⟩ := gd_some h
  obtain ⟨sd22, esd22, h⟩ := bn_some h
  refine wn_putS (pc := 37) C (Or.inr ⟨_, rfl⟩) g21.2 flX11_24 ffX11_12 rfl g21.1.1 g21.1.2.1 g21.1.2.2 dX11_init_37 ?_
  rw [← esd22]
  refine wn_aload_n (pc := 40) C 0 dX11_init_40 rfl rfl ?_
  refine wn_sipush (v := 128) (pc := 41) C dX11_init_41 (by decide) ?_
  obtain ⟨g23, h⟩ := gd_some h
  obtain ⟨S24, eS24, h⟩ := bn_some h
  obtain ⟨sd25, esd25, h⟩ := bn_some h
  refine wn_newI (pc := 44) C 128 g23.1 (by decide) (by decide) g23.2.1 g23.2.2 (Nat.le_of_ble_eq_true rfl) arr13 (Nat.le_of_ble_eq_true rfl) (Nat.le_of_ble_eq_true rfl) dX11_init_44 ?_
  rw [← eS24, ← esd25]
  refine wn_cs (cn2 := 5) (sn2 := 1888) rfl rfl ?_
  obtain ⟨g26, h⟩ := gd_some h
  obtain ⟨sd27, esd27, h⟩ := bn_some h
  refine wn_putS (pc := 46) C (Or.inr ⟨_, rfl⟩) g26.2 flX11_27 ffX11_13 rfl g26.1.1 g26.1.2.1 g26.1.2.2 dX11_init_46 ?_
  rw [← esd27]
  refine wn_aload_n (pc := 49) C 0 dX11_init_49 rfl rfl ?_
  refine wn_bipush (v := 64) (pc := 50) C dX11_init_50 (by decide) ?_
  obtain ⟨g28, h⟩ := gd_some h
  obtain ⟨S29, eS29, h⟩ := bn_some h
  obtain ⟨sd30, esd30, h⟩ := bn_some h
  refine wn_newI (pc := 52) C 64 g28.1 (by decide) (by decide) g28.2.1 g28.2.2 (Nat.le_of_ble_eq_true rfl) arr13 (Nat.le_of_ble_eq_true rfl) (Nat.le_of_ble_eq_true rfl) dX11_init_52 ?_
  rw [← eS29, ← esd30]
  refine wn_cs (cn2 := 6) (sn2 := 1952) rfl rfl ?_
  obtain ⟨g31, h⟩ := gd_some h
  obtain ⟨sd32, esd32, h⟩ := bn_some h
  refine wn_putS (pc := 54) C (Or.inr ⟨_, rfl⟩) g31.2 flX11_30 ffX11_14 rfl g31.1.1 g31.1.2.1 g31.1.2.2 dX11_init_54 ?_
  rw [← esd32]
  refine wn_aload_n (pc := 57) C 0 dX11_init_57 rfl rfl ?_
  refine wn_bipush (v := 96) (pc := 58) C dX11_init_58 (by decide) ?_
  obtain ⟨g33, h⟩ := gd_some h
  obtain ⟨S34, eS34, h⟩ := bn_some h
  obtain ⟨sd35, esd35, h⟩ := bn_some h
  refine wn_newI (pc := 60) C 96 g33.1 (by decide) (by decide) g33.2.1 g33.2.2 (Nat.le_of_ble_eq_true rfl) arr13 (Nat.le_of_ble_eq_true rfl) (Nat.le_of_ble_eq_true rfl) dX11_init_60 ?_
  rw [← eS34, ← esd35]
  refine wn_cs (cn2 := 7) (sn2 := 2048) rfl rfl ?_
  obtain ⟨g36, h⟩ := gd_some h
  obtain ⟨sd37, esd37, h⟩ := bn_some h
  refine wn_putS (pc := 62) C (Or.inr ⟨_, rfl⟩) g36.2 flX11_33 ffX11_15 rfl g36.1.1 g36.1.2.1 g36.1.2.2 dX11_init_62 ?_
  rw [← esd37]
  refine wn_aload_n (pc := 65) C 0 dX11_init_65 rfl rfl ?_
  refine wn_bipush (v := 64) (pc := 66) C dX11_init_66 (by decide) ?_
  obtain ⟨g38, h⟩ := gd_some h
  obtain ⟨S39, eS39, h⟩ := bn_some h
  obtain ⟨sd40, esd40, h⟩ := bn_some h
  refine wn_newI (pc := 68) C 64 g38.1 (by decide) (by decide) g38.2.1 g38.2.2 (Nat.le_of_ble_eq_true rfl) arr13 (Nat.le_of_ble_eq_true rfl) (Nat.le_of_ble_eq_true rfl) dX11_init_68 ?_
  rw [← eS39, ← esd40]
  refine wn_cs (cn2 := 8) (sn2 := 2112) rfl rfl ?_
  obtain ⟨g41, h⟩ := gd_some h
  obtain ⟨sd42, esd42, h⟩ := bn_some h
  refine wn_putS (pc := 70) C (Or.inr ⟨_, rfl⟩) g41.2 flX11_36 ffX11_16 rfl g41.1.1 g41.1.2.1 g41.1.2.2 dX11_init_70 ?_
  rw [← esd42]
  refine wn_aload_n (pc := 73) C 0 dX11_init_73 rfl rfl ?_
  refine wn_bipush (v := 8) (pc := 74) C dX11_init_74 (by decide) ?_
  obtain ⟨g43, h⟩ := gd_some h
  obtain ⟨S44, eS44, h⟩ := bn_some h
  obtain ⟨sd45, esd45, h⟩ := bn_some h
  refine wn_newI (pc := 76) C 8 g43.1 (by decide) (by decide) g43.2.1 g43.2.2 (Nat.le_of_ble_eq_true rfl) arr13 (Nat.le_of_ble_eq_true rfl) (Nat.le_of_ble_eq_true rfl) dX11_init_76 ?_
  rw [← eS44, ← esd45]
  refine wn_cs (cn2 := 9) (sn2 := 2120) rfl rfl ?_
  obtain ⟨g46, h⟩ := gd_some h
  obtain ⟨sd47, esd47, h⟩ := bn_some h
  refine wn_putS (pc := 78) C (Or.inr ⟨_, rfl⟩) g46.2 flX11_39 ffX11_17 rfl g46.1.1 g46.1.2.1 g46.1.2.2 dX11_init_78 ?_
  rw [← esd47]
  refine wn_aload_n (pc := 81) C 0 dX11_init_81 rfl rfl ?_
  refine wn_bipush (v := 8) (pc := 82) C dX11_init_82 (by decide) ?_
  obtain ⟨g48, h⟩ := gd_some h
  obtain ⟨S49, eS49, h⟩ := bn_some h
  obtain ⟨sd50, esd50, h⟩ := bn_some h
  refine wn_newI (pc := 84) C 8 g48.1 (by decide) (by decide) g48.2.1 g48.2.2 (Nat.le_of_ble_eq_true rfl) arr13 (Nat.le_of_ble_eq_true rfl) (Nat.le_of_ble_eq_true rfl) dX11_init_84 ?_
  rw [← eS49, ← esd50]
  refine wn_cs (cn2 := 10) (sn2 := 2128) rfl rfl ?_
  obtain ⟨g51, h⟩ := gd_some h
  obtain ⟨sd52, esd52, h⟩ := bn_some h
  refine wn_putS (pc := 86) C (Or.inr ⟨_, rfl⟩) g51.2 flX11_42 ffX11_18 rfl g51.1.1 g51.1.2.1 g51.1.2.2 dX11_init_86 ?_
  rw [← esd52]
  refine wn_aload_n (pc := 89) C 0 dX11_init_89 rfl rfl ?_
  refine wn_bipush (v := 8) (pc := 90) C dX11_init_90 (by decide) ?_
  obtain ⟨g53, h⟩ := gd_some h
  obtain ⟨S54, eS54, h⟩ := bn_some h
  obtain ⟨sd55, esd55, h⟩ := bn_some h
  refine wn_newI (pc := 92) C 8 g53.1 (by decide) (by decide) g53.2.1 g53.2.2 (Nat.le_of_ble_eq_true rfl) arr13 (Nat.le_of_ble_eq_true rfl) (Nat.le_of_ble_eq_true rfl) dX11_init_92 ?_
  rw [← eS54, ← esd55]
  refine wn_cs (cn2 := 11) (sn2 := 2136) rfl rfl ?_
  obtain ⟨g56, h⟩ := gd_some h
  obtain ⟨sd57, esd57, h⟩ := bn_some h
  refine wn_putS (pc := 94) C (Or.inr ⟨_, rfl⟩) g56.2 flX11_45 ffX11_19 rfl g56.1.1 g56.1.2.1 g56.1.2.2 dX11_init_94 ?_
  rw [← esd57]
  refine wn_aload_n (pc := 97) C 0 dX11_init_97 rfl rfl ?_
  refine wn_bipush (v := 64) (pc := 98) C dX11_init_98 (by decide) ?_
  obtain ⟨g58, h⟩ := gd_some h
  obtain ⟨S59, eS59, h⟩ := bn_some h
  obtain ⟨sd60, esd60, h⟩ := bn_some h
  refine wn_newI (pc := 100) C 64 g58.1 (by decide) (by decide) g58.2.1 g58.2.2 (Nat.le_of_ble_eq_true rfl) arr13 (Nat.le_of_ble_eq_true rfl) (Nat.le_of_ble_eq_true rfl) dX11_init_100 ?_
  rw [← eS59, ← esd60]
  refine wn_cs (cn2 := 12) (sn2 := 2200) rfl rfl ?_
  obtain ⟨g61, h⟩ := gd_some h
  obtain ⟨sd62, esd62, h⟩ := bn_some h
  refine wn_putS (pc := 102) C (Or.inr ⟨_, rfl⟩) g61.2 flX11_48 ffX11_20 rfl g61.1.1 g61.1.2.1 g61.1.2.2 dX11_init_102 ?_
  rw [← esd62]
  refine wn_aload_n (pc := 105) C 0 dX11_init_105 rfl rfl ?_
  refine wn_sipush (v := 128) (pc := 106) C dX11_init_106 (by decide) ?_
  obtain ⟨g63, h⟩ := gd_some h
  obtain ⟨S64, eS64, h⟩ := bn_some h
  obtain ⟨sd65, esd65, h⟩ := bn_some h
  refine wn_newI (pc := 109) C 128 g63.1 (by decide) (by decide) g63.2.1 g63.2.2 (Nat.le_of_ble_eq_true rfl) arr13 (Nat.le_of_ble_eq_true rfl) (Nat.le_of_ble_eq_true rfl) dX11_init_109 ?_
  rw [← eS64, ← esd65]
  refine wn_cs (cn2 := 13) (sn2 := 2328) rfl rfl ?_
  obtain ⟨g66, h⟩ := gd_some h
  obtain ⟨sd67, esd67, h⟩ := bn_some h
  refine wn_putS (pc := 111) C (Or.inr ⟨_, rfl⟩) g66.2 flX11_51 ffX11_21 rfl g66.1.1 g66.1.2.1 g66.1.2.2 dX11_init_111 ?_
  rw [← esd67]
  refine wn_aload_n (pc := 114) C 0 dX11_init_114 rfl rfl ?_
  refine wn_bipush (v := 64) (pc := 115) C dX11_init_115 (by decide) ?_
  obtain ⟨g68, h⟩ := gd_some h
  obtain ⟨S69, eS69, h⟩ := bn_some h
  obtain ⟨sd70, esd70, h⟩ := bn_some h
  refine wn_newI (pc := 117) C 64 g68.1 (by decide) (by decide) g68.2.1 g68.2.2 (Nat.le_of_ble_eq_true rfl) arr13 (Nat.le_of_ble_eq_true rfl) (Nat.le_of_ble_eq_true rfl) dX11_init_117 ?_
  rw [← eS69, ← esd70]
  refine wn_cs (cn2 := 14) (sn2 := 2392) rfl rfl ?_
  obtain ⟨g71, h⟩ := gd_some h
  obtain ⟨sd72, esd72, h⟩ := bn_some h
  refine wn_putS (pc := 119) C (Or.inr ⟨_, rfl⟩) g71.2 flX11_54 ffX11_22 rfl g71.1.1 g71.1.2.1 g71.1.2.2 dX11_init_119 ?_
  rw [← esd72]
  refine wn_aload_n (pc := 122) C 0 dX11_init_122 rfl rfl ?_
  refine wn_bipush (v := 96) (pc := 123) C dX11_init_123 (by decide) ?_
  obtain ⟨g73, h⟩ := gd_some h
  obtain ⟨S74, eS74, h⟩ := bn_some h
  obtain ⟨sd75, esd75, h⟩ := bn_some h
  refine wn_newI (pc := 125) C 96 g73.1 (by decide) (by decide) g73.2.1 g73.2.2 (Nat.le_of_ble_eq_true rfl) arr13 (Nat.le_of_ble_eq_true rfl) (Nat.le_of_ble_eq_true rfl) dX11_init_125 ?_
  rw [← eS74, ← esd75]
  refine wn_cs (cn2 := 15) (sn2 := 2488) rfl rfl ?_
  obtain ⟨g76, h⟩ := gd_some h
  obtain ⟨sd77, esd77, h⟩ := bn_some h
  refine wn_putS (pc := 127) C (Or.inr ⟨_, rfl⟩) g76.2 flX11_57 ffX11_23 rfl g76.1.1 g76.1.2.1 g76.1.2.2 dX11_init_127 ?_
  rw [← esd77]
  refine wn_aload_n (pc := 130) C 0 dX11_init_130 rfl rfl ?_
  refine wn_bipush (v := 64) (pc := 131) C dX11_init_131 (by decide) ?_
  obtain ⟨g78, h⟩ := gd_some h
  obtain ⟨S79, eS79, h⟩ := bn_some h
  obtain ⟨sd80, esd80, h⟩ := bn_some h
  refine wn_newI (pc := 133) C 64 g78.1 (by decide) (by decide) g78.2.1 g78.2.2 (Nat.le_of_ble_eq_true rfl) arr13 (Nat.le_of_ble_eq_true rfl) (Nat.le_of_ble_eq_true rfl) dX11_init_133 ?_
  rw [← eS79, ← esd80]
  refine wn_cs (cn2 := 16) (sn2 := 2552) rfl rfl ?_
  obtain ⟨g81, h⟩ := gd_some h
  obtain ⟨sd82, esd82, h⟩ := bn_some h
  refine wn_putS (pc := 135) C (Or.inr ⟨_, rfl⟩) g81.2 flX11_60 ffX11_24 rfl g81.1.1 g81.1.2.1 g81.1.2.2 dX11_init_135 ?_
  rw [← esd82]
  refine wn_aload_n (pc := 138) C 0 dX11_init_138 rfl rfl ?_
  refine wn_bipush (v := 8) (pc := 139) C dX11_init_139 (by decide) ?_
  obtain ⟨g83, h⟩ := gd_some h
  obtain ⟨S84, eS84, h⟩ := bn_some h
  obtain ⟨sd85, esd85, h⟩ := bn_some h
  refine wn_newI (pc := 141) C 8 g83.1 (by decide) (by decide) g83.2.1 g83.2.2 (Nat.le_of_ble_eq_true rfl) arr13 (Nat.le_of_ble_eq_true rfl) (Nat.le_of_ble_eq_true rfl) dX11_init_141 ?_
  rw [← eS84, ← esd85]
  refine wn_cs (cn2 := 17) (sn2 := 2560) rfl rfl ?_
  obtain ⟨g86, h⟩ := gd_some h
  obtain ⟨sd87, esd87, h⟩ := bn_some h
  refine wn_putS (pc := 143) C (Or.inr ⟨_, rfl⟩) g86.2 flX11_63 ffX11_25 rfl g86.1.1 g86.1.2.1 g86.1.2.2 dX11_init_143 ?_
  rw [← esd87]
  refine wn_aload_n (pc := 146) C 0 dX11_init_146 rfl rfl ?_
  refine wn_bipush (v := 8) (pc := 147) C dX11_init_147 (by decide) ?_
  obtain ⟨g88, h⟩ := gd_some h
  obtain ⟨S89, eS89, h⟩ := bn_some h
  obtain ⟨sd90, esd90, h⟩ := bn_some h
  refine wn_newI (pc := 149) C 8 g88.1 (by decide) (by decide) g88.2.1 g88.2.2 (Nat.le_of_ble_eq_true rfl) arr13 (Nat.le_of_ble_eq_true rfl) (Nat.le_of_ble_eq_true rfl) dX11_init_149 ?_
  rw [← eS89, ← esd90]
  refine wn_cs (cn2 := 18) (sn2 := 2568) rfl rfl ?_
  obtain ⟨g91, h⟩ := gd_some h
  obtain ⟨sd92, esd92, h⟩ := bn_some h
  refine wn_putS (pc := 151) C (Or.inr ⟨_, rfl⟩) g91.2 flX11_66 ffX11_26 rfl g91.1.1 g91.1.2.1 g91.1.2.2 dX11_init_151 ?_
  rw [← esd92]
  refine wn_aload_n (pc := 154) C 0 dX11_init_154 rfl rfl ?_
  refine wn_bipush (v := 8) (pc := 155) C dX11_init_155 (by decide) ?_
  obtain ⟨g93, h⟩ := gd_some h
  obtain ⟨S94, eS94, h⟩ := bn_some h
  obtain ⟨sd95, esd95, h⟩ := bn_some h
  refine wn_newI (pc := 157) C 8 g93.1 (by decide) (by decide) g93.2.1 g93.2.2 (Nat.le_of_ble_eq_true rfl) arr13 (Nat.le_of_ble_eq_true rfl) (Nat.le_of_ble_eq_true rfl) dX11_init_157 ?_
  rw [← eS94, ← esd95]
  refine wn_cs (cn2 := 19) (sn2 := 2576) rfl rfl ?_
  obtain ⟨g96, h⟩ := gd_some h
  obtain ⟨sd97, esd97, h⟩ := bn_some h
  refine wn_putS (pc := 159) C (Or.inr ⟨_, rfl⟩) g96.2 flX11_69 ffX11_27 rfl g96.1.1 g96.1.2.1 g96.1.2.2 dX11_init_159 ?_
  rw [← esd97]
  refine wn_aload_n (pc := 162) C 0 dX11_init_162 rfl rfl ?_
  refine wn_bipush (v := 64) (pc := 163) C dX11_init_163 (by decide) ?_
  obtain ⟨g98, h⟩ := gd_some h
  obtain ⟨S99, eS99, h⟩ := bn_some h
  obtain ⟨sd100, esd100, h⟩ := bn_some h
  refine wn_newI (pc := 165) C 64 g98.1 (by decide) (by decide) g98.2.1 g98.2.2 (Nat.le_of_ble_eq_true rfl) arr13 (Nat.le_of_ble_eq_true rfl) (Nat.le_of_ble_eq_true rfl) dX11_init_165 ?_
  rw [← eS99, ← esd100]
  refine wn_cs (cn2 := 20) (sn2 := 2640) rfl rfl ?_
  obtain ⟨g101, h⟩ := gd_some h
  obtain ⟨sd102, esd102, h⟩ := bn_some h
  refine wn_putS (pc := 167) C (Or.inr ⟨_, rfl⟩) g101.2 flX11_72 ffX11_28 rfl g101.1.1 g101.1.2.1 g101.1.2.2 dX11_init_167 ?_
  rw [← esd102]
  refine wn_aload_n (pc := 170) C 0 dX11_init_170 rfl rfl ?_
  refine wn_bipush (v := 16) (pc := 171) C dX11_init_171 (by decide) ?_
  obtain ⟨g103, h⟩ := gd_some h
  obtain ⟨S104, eS104, h⟩ := bn_some h
  obtain ⟨sd105, esd105, h⟩ := bn_some h
  refine wn_newI (pc := 173) C 16 g103.1 (by decide) (by decide) g103.2.1 g103.2.2 (Nat.le_of_ble_eq_true rfl) arr13 (Nat.le_of_ble_eq_true rfl) (Nat.le_of_ble_eq_true rfl) dX11_init_173 ?_
  rw [← eS104, ← esd105]
  refine wn_cs (cn2 := 21) (sn2 := 2656) rfl rfl ?_
  obtain ⟨g106, h⟩ := gd_some h
  obtain ⟨sd107, esd107, h⟩ := bn_some h
  refine wn_putS (pc := 175) C (Or.inr ⟨_, rfl⟩) g106.2 flX11_75 ffX11_43 rfl g106.1.1 g106.1.2.1 g106.1.2.2 dX11_init_175 ?_
  rw [← esd107]
  refine wn_aload_n (pc := 178) C 0 dX11_init_178 rfl rfl ?_
  refine wn_iconst (v := 2) (pc := 179) C dX11_init_179 (by decide) ?_
  obtain ⟨g108, h⟩ := gd_some h
  obtain ⟨S109, eS109, h⟩ := bn_some h
  obtain ⟨sd110, esd110, h⟩ := bn_some h
  refine wn_newI (pc := 180) C 2 g108.1 (by decide) (by decide) g108.2.1 g108.2.2 (Nat.le_of_ble_eq_true rfl) arr13 (Nat.le_of_ble_eq_true rfl) (Nat.le_of_ble_eq_true rfl) dX11_init_180 ?_
  rw [← eS109, ← esd110]
  refine wn_cs (cn2 := 22) (sn2 := 2658) rfl rfl ?_
  obtain ⟨g111, h⟩ := gd_some h
  obtain ⟨sd112, esd112, h⟩ := bn_some h
  refine wn_putS (pc := 182) C (Or.inr ⟨_, rfl⟩) g111.2 flX11_78 ffX11_44 rfl g111.1.1 g111.1.2.1 g111.1.2.2 dX11_init_182 ?_
  rw [← esd112]
  refine wn_aload_n (pc := 185) C 0 dX11_init_185 rfl rfl ?_
  refine wn_bipush (v := 32) (pc := 186) C dX11_init_186 (by decide) ?_
  obtain ⟨g113, h⟩ := gd_some h
  obtain ⟨S114, eS114, h⟩ := bn_some h
  obtain ⟨sd115, esd115, h⟩ := bn_some h
  refine wn_newL (pc := 188) C 32 g113.1 (by decide) (by decide) g113.2.1 g113.2.2 (Nat.le_of_ble_eq_true rfl) arr14 (Nat.le_of_ble_eq_true rfl) (Nat.le_of_ble_eq_true rfl) dX11_init_188 ?_
  rw [← eS114, ← esd115]
  refine wn_cs (cn2 := 23) (sn2 := 2690) rfl rfl ?_
  obtain ⟨g116, h⟩ := gd_some h
  obtain ⟨sd117, esd117, h⟩ := bn_some h
  refine wn_putS (pc := 190) C (Or.inr ⟨_, rfl⟩) g116.2 flX11_81 ffX11_45 rfl g116.1.1 g116.1.2.1 g116.1.2.2 dX11_init_190 ?_
  rw [← esd117]
  refine wn_aload_n (pc := 193) C 0 dX11_init_193 rfl rfl ?_
  refine wn_bipush (v := 8) (pc := 194) C dX11_init_194 (by decide) ?_
  obtain ⟨g118, h⟩ := gd_some h
  obtain ⟨S119, eS119, h⟩ := bn_some h
  obtain ⟨sd120, esd120, h⟩ := bn_some h
  refine wn_newI (pc := 196) C 8 g118.1 (by decide) (by decide) g118.2.1 g118.2.2 (Nat.le_of_ble_eq_true rfl) arr13 (Nat.le_of_ble_eq_true rfl) (Nat.le_of_ble_eq_true rfl) dX11_init_196 ?_
  rw [← eS119, ← esd120]
  refine wn_cs (cn2 := 24) (sn2 := 2698) rfl rfl ?_
  obtain ⟨g121, h⟩ := gd_some h
  obtain ⟨sd122, esd122, h⟩ := bn_some h
  refine wn_putS (pc := 198) C (Or.inr ⟨_, rfl⟩) g121.2 flX11_84 ffX11_51 rfl g121.1.1 g121.1.2.1 g121.1.2.2 dX11_init_198 ?_
  rw [← esd122]
  refine wn_aload_n (pc := 201) C 0 dX11_init_201 rfl rfl ?_
  refine wn_sipush (v := 30000) (pc := 202) C dX11_init_202 (by decide) ?_
  obtain ⟨g123, h⟩ := gd_some h
  obtain ⟨S124, eS124, h⟩ := bn_some h
  obtain ⟨sd125, esd125, h⟩ := bn_some h
  refine wn_newL (pc := 205) C 30000 g123.1 (by decide) (by decide) g123.2.1 g123.2.2 (Nat.le_of_ble_eq_true rfl) arr14 (Nat.le_of_ble_eq_true rfl) (Nat.le_of_ble_eq_true rfl) dX11_init_205 ?_
  rw [← eS124, ← esd125]
  refine wn_cs (cn2 := 25) (sn2 := 32698) rfl rfl ?_
  obtain ⟨g126, h⟩ := gd_some h
  obtain ⟨sd127, esd127, h⟩ := bn_some h
  refine wn_putS (pc := 207) C (Or.inr ⟨_, rfl⟩) g126.2 flX11_87 ffX11_55 rfl g126.1.1 g126.1.2.1 g126.1.2.2 dX11_init_207 ?_
  rw [← esd127]
  refine wn_aload_n (pc := 210) C 0 dX11_init_210 rfl rfl ?_
  refine wn_ldc (pc := 211) C qX11_90 dX11_init_211 ?_
  obtain ⟨g128, h⟩ := gd_some h
  obtain ⟨S129, eS129, h⟩ := bn_some h
  obtain ⟨sd130, esd130, h⟩ := bn_some h
  refine wn_newI (pc := 213) C 40000 g128.1 (by decide) (by decide) g128.2.1 g128.2.2 (Nat.le_of_ble_eq_true rfl) arr13 (Nat.le_of_ble_eq_true rfl) (Nat.le_of_ble_eq_true rfl) dX11_init_213 ?_
  rw [← eS129, ← esd130]
  refine wn_cs (cn2 := 26) (sn2 := 72698) rfl rfl ?_
  obtain ⟨g131, h⟩ := gd_some h
  obtain ⟨sd132, esd132, h⟩ := bn_some h
  refine wn_putS (pc := 215) C (Or.inr ⟨_, rfl⟩) g131.2 flX11_91 ffX11_56 rfl g131.1.1 g131.1.2.1 g131.1.2.2 dX11_init_215 ?_
  rw [← esd132]
  refine wn_aload_n (pc := 218) C 0 dX11_init_218 rfl rfl ?_
  refine wn_sipush (v := 5000) (pc := 219) C dX11_init_219 (by decide) ?_
  obtain ⟨g133, h⟩ := gd_some h
  obtain ⟨S134, eS134, h⟩ := bn_some h
  obtain ⟨sd135, esd135, h⟩ := bn_some h
  refine wn_newI (pc := 222) C 5000 g133.1 (by decide) (by decide) g133.2.1 g133.2.2 (Nat.le_of_ble_eq_true rfl) arr13 (Nat.le_of_ble_eq_true rfl) (Nat.le_of_ble_eq_true rfl) dX11_init_222 ?_
  rw [← eS134, ← esd135]
  refine wn_cs (cn2 := 27) (sn2 := 77698) rfl rfl ?_
  obtain ⟨g136, h⟩ := gd_some h
  obtain ⟨sd137, esd137, h⟩ := bn_some h
  refine wn_putS (pc := 224) C (Or.inr ⟨_, rfl⟩) g136.2 flX11_94 ffX11_57 rfl g136.1.1 g136.1.2.1 g136.1.2.2 dX11_init_224 ?_
  rw [← esd137]
  refine wn_aload_n (pc := 227) C 0 dX11_init_227 rfl rfl ?_
  refine wn_bipush (v := 24) (pc := 228) C dX11_init_228 (by decide) ?_
  obtain ⟨g138, h⟩ := gd_some h
  obtain ⟨S139, eS139, h⟩ := bn_some h
  obtain ⟨sd140, esd140, h⟩ := bn_some h
  refine wn_newL (pc := 230) C 24 g138.1 (by decide) (by decide) g138.2.1 g138.2.2 (Nat.le_of_ble_eq_true rfl) arr14 (Nat.le_of_ble_eq_true rfl) (Nat.le_of_ble_eq_true rfl) dX11_init_230 ?_
  rw [← eS139, ← esd140]
  refine wn_cs (cn2 := 28) (sn2 := 77722) rfl rfl ?_
  obtain ⟨g141, h⟩ := gd_some h
  obtain ⟨sd142, esd142, h⟩ := bn_some h
  refine wn_putS (pc := 232) C (Or.inr ⟨_, rfl⟩) g141.2 flX11_97 ffX11_60 rfl g141.1.1 g141.1.2.1 g141.1.2.2 dX11_init_232 ?_
  rw [← esd142]
  refine wn_aload_n (pc := 235) C 0 dX11_init_235 rfl rfl ?_
  refine wn_bipush (v := 6) (pc := 236) C dX11_init_236 (by decide) ?_
  obtain ⟨g143, h⟩ := gd_some h
  obtain ⟨S144, eS144, h⟩ := bn_some h
  obtain ⟨sd145, esd145, h⟩ := bn_some h
  refine wn_newI (pc := 238) C 6 g143.1 (by decide) (by decide) g143.2.1 g143.2.2 (Nat.le_of_ble_eq_true rfl) arr13 (Nat.le_of_ble_eq_true rfl) (Nat.le_of_ble_eq_true rfl) dX11_init_238 ?_
  rw [← eS144, ← esd145]
  refine wn_cs (cn2 := 29) (sn2 := 77728) rfl rfl ?_
  obtain ⟨g146, h⟩ := gd_some h
  obtain ⟨sd147, esd147, h⟩ := bn_some h
  refine wn_putS (pc := 240) C (Or.inr ⟨_, rfl⟩) g146.2 flX11_100 ffX11_61 rfl g146.1.1 g146.1.2.1 g146.1.2.2 dX11_init_240 ?_
  rw [← esd147]
  refine wn_aload_n (pc := 243) C 0 dX11_init_243 rfl rfl ?_
  refine wn_bipush (v := 6) (pc := 244) C dX11_init_244 (by decide) ?_
  obtain ⟨g148, h⟩ := gd_some h
  obtain ⟨S149, eS149, h⟩ := bn_some h
  obtain ⟨sd150, esd150, h⟩ := bn_some h
  refine wn_newI (pc := 246) C 6 g148.1 (by decide) (by decide) g148.2.1 g148.2.2 (Nat.le_of_ble_eq_true rfl) arr13 (Nat.le_of_ble_eq_true rfl) (Nat.le_of_ble_eq_true rfl) dX11_init_246 ?_
  rw [← eS149, ← esd150]
  refine wn_cs (cn2 := 30) (sn2 := 77734) rfl rfl ?_
  obtain ⟨g151, h⟩ := gd_some h
  obtain ⟨sd152, esd152, h⟩ := bn_some h
  refine wn_putS (pc := 248) C (Or.inr ⟨_, rfl⟩) g151.2 flX11_103 ffX11_62 rfl g151.1.1 g151.1.2.1 g151.1.2.2 dX11_init_248 ?_
  rw [← esd152]
  refine wn_aload_n (pc := 251) C 0 dX11_init_251 rfl rfl ?_
  refine wn_bipush (v := 8) (pc := 252) C dX11_init_252 (by decide) ?_
  obtain ⟨g153, h⟩ := gd_some h
  obtain ⟨S154, eS154, h⟩ := bn_some h
  obtain ⟨sd155, esd155, h⟩ := bn_some h
  refine wn_newI (pc := 254) C 8 g153.1 (by decide) (by decide) g153.2.1 g153.2.2 (Nat.le_of_ble_eq_true rfl) arr13 (Nat.le_of_ble_eq_true rfl) (Nat.le_of_ble_eq_true rfl) dX11_init_254 ?_
  rw [← eS154, ← esd155]
  refine wn_cs (cn2 := 31) (sn2 := 77742) rfl rfl ?_
  obtain ⟨g156, h⟩ := gd_some h
  obtain ⟨sd157, esd157, h⟩ := bn_some h
  refine wn_putS (pc := 256) C (Or.inr ⟨_, rfl⟩) g156.2 flX11_106 ffX11_64 rfl g156.1.1 g156.1.2.1 g156.1.2.2 dX11_init_256 ?_
  rw [← esd157]
  refine wn_aload_n (pc := 259) C 0 dX11_init_259 rfl rfl ?_
  refine wn_iconst (v := 1) (pc := 260) C dX11_init_260 (by decide) ?_
  obtain ⟨g158, h⟩ := gd_some h
  obtain ⟨S159, eS159, h⟩ := bn_some h
  refine wn_putI (pc := 261) C flX11_109 fpX11_67 rfl g158.1 g158.2.1 g158.2.2 dX11_init_261 ?_
  rw [← eS159]
  refine wn_aload_n (pc := 264) C 0 dX11_init_264 rfl rfl ?_
  refine wn_bipush (v := 72) (pc := 265) C dX11_init_265 (by decide) ?_
  obtain ⟨g160, h⟩ := gd_some h
  obtain ⟨S161, eS161, h⟩ := bn_some h
  obtain ⟨sd162, esd162, h⟩ := bn_some h
  refine wn_newI (pc := 267) C 72 g160.1 (by decide) (by decide) g160.2.1 g160.2.2 (Nat.le_of_ble_eq_true rfl) arr13 (Nat.le_of_ble_eq_true rfl) (Nat.le_of_ble_eq_true rfl) dX11_init_267 ?_
  rw [← eS161, ← esd162]
  refine wn_cs (cn2 := 32) (sn2 := 77814) rfl rfl ?_
  obtain ⟨g163, h⟩ := gd_some h
  obtain ⟨sd164, esd164, h⟩ := bn_some h
  refine wn_putS (pc := 269) C (Or.inr ⟨_, rfl⟩) g163.2 flX11_112 ffX11_68 rfl g163.1.1 g163.1.2.1 g163.1.2.2 dX11_init_269 ?_
  rw [← esd164]
  refine wn_aload_n (pc := 272) C 0 dX11_init_272 rfl rfl ?_
  refine wn_bipush (v := 72) (pc := 273) C dX11_init_273 (by decide) ?_
  obtain ⟨g165, h⟩ := gd_some h
  obtain ⟨S166, eS166, h⟩ := bn_some h
  obtain ⟨sd167, esd167, h⟩ := bn_some h
  refine wn_newI (pc := 275) C 72 g165.1 (by decide) (by decide) g165.2.1 g165.2.2 (Nat.le_of_ble_eq_true rfl) arr13 (Nat.le_of_ble_eq_true rfl) (Nat.le_of_ble_eq_true rfl) dX11_init_275 ?_
  rw [← eS166, ← esd167]
  refine wn_cs (cn2 := 33) (sn2 := 77886) rfl rfl ?_
  obtain ⟨g168, h⟩ := gd_some h
  obtain ⟨sd169, esd169, h⟩ := bn_some h
  refine wn_putS (pc := 277) C (Or.inr ⟨_, rfl⟩) g168.2 flX11_115 ffX11_69 rfl g168.1.1 g168.1.2.1 g168.1.2.2 dX11_init_277 ?_
  rw [← esd169]
  refine wn_aload_n (pc := 280) C 0 dX11_init_280 rfl rfl ?_
  refine wn_bipush (v := 40) (pc := 281) C dX11_init_281 (by decide) ?_
  obtain ⟨g170, h⟩ := gd_some h
  obtain ⟨S171, eS171, h⟩ := bn_some h
  obtain ⟨sd172, esd172, h⟩ := bn_some h
  refine wn_newI (pc := 283) C 40 g170.1 (by decide) (by decide) g170.2.1 g170.2.2 (Nat.le_of_ble_eq_true rfl) arr13 (Nat.le_of_ble_eq_true rfl) (Nat.le_of_ble_eq_true rfl) dX11_init_283 ?_
  rw [← eS171, ← esd172]
  refine wn_cs (cn2 := 34) (sn2 := 77926) rfl rfl ?_
  obtain ⟨g173, h⟩ := gd_some h
  obtain ⟨sd174, esd174, h⟩ := bn_some h
  refine wn_putS (pc := 285) C (Or.inr ⟨_, rfl⟩) g173.2 flX11_118 ffX11_71 rfl g173.1.1 g173.1.2.1 g173.1.2.2 dX11_init_285 ?_
  rw [← esd174]
  refine wn_aload_n (pc := 288) C 0 dX11_init_288 rfl rfl ?_
  refine wn_bipush (v := 40) (pc := 289) C dX11_init_289 (by decide) ?_
  obtain ⟨g175, h⟩ := gd_some h
  obtain ⟨S176, eS176, h⟩ := bn_some h
  obtain ⟨sd177, esd177, h⟩ := bn_some h
  refine wn_newI (pc := 291) C 40 g175.1 (by decide) (by decide) g175.2.1 g175.2.2 (Nat.le_of_ble_eq_true rfl) arr13 (Nat.le_of_ble_eq_true rfl) (Nat.le_of_ble_eq_true rfl) dX11_init_291 ?_
  rw [← eS176, ← esd177]
  refine wn_cs (cn2 := 35) (sn2 := 77966) rfl rfl ?_
  obtain ⟨g178, h⟩ := gd_some h
  obtain ⟨sd179, esd179, h⟩ := bn_some h
  refine wn_putS (pc := 293) C (Or.inr ⟨_, rfl⟩) g178.2 flX11_121 ffX11_72 rfl g178.1.1 g178.1.2.1 g178.1.2.2 dX11_init_293 ?_
  rw [← esd179]
  refine wn_aload_n (pc := 296) C 0 dX11_init_296 rfl rfl ?_
  refine wn_bipush (v := 40) (pc := 297) C dX11_init_297 (by decide) ?_
  obtain ⟨g180, h⟩ := gd_some h
  obtain ⟨S181, eS181, h⟩ := bn_some h
  obtain ⟨sd182, esd182, h⟩ := bn_some h
  refine wn_newI (pc := 299) C 40 g180.1 (by decide) (by decide) g180.2.1 g180.2.2 (Nat.le_of_ble_eq_true rfl) arr13 (Nat.le_of_ble_eq_true rfl) (Nat.le_of_ble_eq_true rfl) dX11_init_299 ?_
  rw [← eS181, ← esd182]
  refine wn_cs (cn2 := 36) (sn2 := 78006) rfl rfl ?_
  obtain ⟨g183, h⟩ := gd_some h
  obtain ⟨sd184, esd184, h⟩ := bn_some h
  refine wn_putS (pc := 301) C (Or.inr ⟨_, rfl⟩) g183.2 flX11_124 ffX11_73 rfl g183.1.1 g183.1.2.1 g183.1.2.2 dX11_init_301 ?_
  rw [← esd184]
  refine wn_aload_n (pc := 304) C 0 dX11_init_304 rfl rfl ?_
  refine wn_bipush (v := 40) (pc := 305) C dX11_init_305 (by decide) ?_
  obtain ⟨g185, h⟩ := gd_some h
  obtain ⟨S186, eS186, h⟩ := bn_some h
  obtain ⟨sd187, esd187, h⟩ := bn_some h
  refine wn_newI (pc := 307) C 40 g185.1 (by decide) (by decide) g185.2.1 g185.2.2 (Nat.le_of_ble_eq_true rfl) arr13 (Nat.le_of_ble_eq_true rfl) (Nat.le_of_ble_eq_true rfl) dX11_init_307 ?_
  rw [← eS186, ← esd187]
  refine wn_cs (cn2 := 37) (sn2 := 78046) rfl rfl ?_
  obtain ⟨g188, h⟩ := gd_some h
  obtain ⟨sd189, esd189, h⟩ := bn_some h
  refine wn_putS (pc := 309) C (Or.inr ⟨_, rfl⟩) g188.2 flX11_127 ffX11_74 rfl g188.1.1 g188.1.2.1 g188.1.2.2 dX11_init_309 ?_
  rw [← esd189]
  refine wn_aload_n (pc := 312) C 0 dX11_init_312 rfl rfl ?_
  refine wn_bipush (v := 40) (pc := 313) C dX11_init_313 (by decide) ?_
  obtain ⟨g190, h⟩ := gd_some h
  obtain ⟨S191, eS191, h⟩ := bn_some h
  obtain ⟨sd192, esd192, h⟩ := bn_some h
  refine wn_newI (pc := 315) C 40 g190.1 (by decide) (by decide) g190.2.1 g190.2.2 (Nat.le_of_ble_eq_true rfl) arr13 (Nat.le_of_ble_eq_true rfl) (Nat.le_of_ble_eq_true rfl) dX11_init_315 ?_
  rw [← eS191, ← esd192]
  refine wn_cs (cn2 := 38) (sn2 := 78086) rfl rfl ?_
  obtain ⟨g193, h⟩ := gd_some h
  obtain ⟨sd194, esd194, h⟩ := bn_some h
  refine wn_putS (pc := 317) C (Or.inr ⟨_, rfl⟩) g193.2 flX11_130 ffX11_75 rfl g193.1.1 g193.1.2.1 g193.1.2.2 dX11_init_317 ?_
  rw [← esd194]
  refine wn_aload_n (pc := 320) C 0 dX11_init_320 rfl rfl ?_
  refine wn_bipush (v := 40) (pc := 321) C dX11_init_321 (by decide) ?_
  obtain ⟨g195, h⟩ := gd_some h
  obtain ⟨S196, eS196, h⟩ := bn_some h
  obtain ⟨sd197, esd197, h⟩ := bn_some h
  refine wn_newI (pc := 323) C 40 g195.1 (by decide) (by decide) g195.2.1 g195.2.2 (Nat.le_of_ble_eq_true rfl) arr13 (Nat.le_of_ble_eq_true rfl) (Nat.le_of_ble_eq_true rfl) dX11_init_323 ?_
  rw [← eS196, ← esd197]
  refine wn_cs (cn2 := 39) (sn2 := 78126) rfl rfl ?_
  obtain ⟨g198, h⟩ := gd_some h
  obtain ⟨sd199, esd199, h⟩ := bn_some h
  refine wn_putS (pc := 325) C (Or.inr ⟨_, rfl⟩) g198.2 flX11_133 ffX11_76 rfl g198.1.1 g198.1.2.1 g198.1.2.2 dX11_init_325 ?_
  rw [← esd199]
  refine wn_aload_n (pc := 328) C 0 dX11_init_328 rfl rfl ?_
  refine wn_bipush (v := 72) (pc := 329) C dX11_init_329 (by decide) ?_
  obtain ⟨g200, h⟩ := gd_some h
  obtain ⟨S201, eS201, h⟩ := bn_some h
  obtain ⟨sd202, esd202, h⟩ := bn_some h
  refine wn_newI (pc := 331) C 72 g200.1 (by decide) (by decide) g200.2.1 g200.2.2 (Nat.le_of_ble_eq_true rfl) arr13 (Nat.le_of_ble_eq_true rfl) (Nat.le_of_ble_eq_true rfl) dX11_init_331 ?_
  rw [← eS201, ← esd202]
  refine wn_cs (cn2 := 40) (sn2 := 78198) rfl rfl ?_
  obtain ⟨g203, h⟩ := gd_some h
  obtain ⟨sd204, esd204, h⟩ := bn_some h
  refine wn_putS (pc := 333) C (Or.inr ⟨_, rfl⟩) g203.2 flX11_136 ffX11_79 rfl g203.1.1 g203.1.2.1 g203.1.2.2 dX11_init_333 ?_
  rw [← esd204]
  refine wn_aload_n (pc := 336) C 0 dX11_init_336 rfl rfl ?_
  refine wn_bipush (v := 72) (pc := 337) C dX11_init_337 (by decide) ?_
  obtain ⟨g205, h⟩ := gd_some h
  obtain ⟨S206, eS206, h⟩ := bn_some h
  obtain ⟨sd207, esd207, h⟩ := bn_some h
  refine wn_newL (pc := 339) C 72 g205.1 (by decide) (by decide) g205.2.1 g205.2.2 (Nat.le_of_ble_eq_true rfl) arr14 (Nat.le_of_ble_eq_true rfl) (Nat.le_of_ble_eq_true rfl) dX11_init_339 ?_
  rw [← eS206, ← esd207]
  refine wn_cs (cn2 := 41) (sn2 := 78270) rfl rfl ?_
  obtain ⟨g208, h⟩ := gd_some h
  obtain ⟨sd209, esd209, h⟩ := bn_some h
  refine wn_putS (pc := 341) C (Or.inr ⟨_, rfl⟩) g208.2 flX11_139 ffX11_80 rfl g208.1.1 g208.1.2.1 g208.1.2.2 dX11_init_341 ?_
  rw [← esd209]
  refine wn_aload_n (pc := 344) C 0 dX11_init_344 rfl rfl ?_
  refine wn_iconst (v := 3) (pc := 345) C dX11_init_345 (by decide) ?_
  obtain ⟨g210, h⟩ := gd_some h
  obtain ⟨S211, eS211, h⟩ := bn_some h
  obtain ⟨sd212, esd212, h⟩ := bn_some h
  refine wn_newZ (pc := 346) C 3 g210.1 (by decide) (by decide) g210.2.1 g210.2.2 (Nat.le_of_ble_eq_true rfl) arr15 (Nat.le_of_ble_eq_true rfl) (Nat.le_of_ble_eq_true rfl) dX11_init_346 ?_
  rw [← eS211, ← esd212]
  refine wn_cs (cn2 := 42) (sn2 := 78273) rfl rfl ?_
  obtain ⟨g213, h⟩ := gd_some h
  obtain ⟨sd214, esd214, h⟩ := bn_some h
  refine wn_putS (pc := 348) C (Or.inr ⟨_, rfl⟩) g213.2 flX11_142 ffX11_82 rfl g213.1.1 g213.1.2.1 g213.1.2.2 dX11_init_348 ?_
  rw [← esd214]
  refine wn_aload_n (pc := 351) C 0 dX11_init_351 rfl rfl ?_
  refine wn_bipush (v := 24) (pc := 352) C dX11_init_352 (by decide) ?_
  obtain ⟨g215, h⟩ := gd_some h
  obtain ⟨S216, eS216, h⟩ := bn_some h
  obtain ⟨sd217, esd217, h⟩ := bn_some h
  refine wn_newI (pc := 354) C 24 g215.1 (by decide) (by decide) g215.2.1 g215.2.2 (Nat.le_of_ble_eq_true rfl) arr13 (Nat.le_of_ble_eq_true rfl) (Nat.le_of_ble_eq_true rfl) dX11_init_354 ?_
  rw [← eS216, ← esd217]
  refine wn_cs (cn2 := 43) (sn2 := 78297) rfl rfl ?_
  obtain ⟨g218, h⟩ := gd_some h
  obtain ⟨sd219, esd219, h⟩ := bn_some h
  refine wn_putS (pc := 356) C (Or.inr ⟨_, rfl⟩) g218.2 flX11_146 ffX11_83 rfl g218.1.1 g218.1.2.1 g218.1.2.2 dX11_init_356 ?_
  rw [← esd219]
  refine wn_aload_n (pc := 359) C 0 dX11_init_359 rfl rfl ?_
  refine wn_iconst (v := 3) (pc := 360) C dX11_init_360 (by decide) ?_
  obtain ⟨g220, h⟩ := gd_some h
  obtain ⟨S221, eS221, h⟩ := bn_some h
  obtain ⟨sd222, esd222, h⟩ := bn_some h
  refine wn_newI (pc := 361) C 3 g220.1 (by decide) (by decide) g220.2.1 g220.2.2 (Nat.le_of_ble_eq_true rfl) arr13 (Nat.le_of_ble_eq_true rfl) (Nat.le_of_ble_eq_true rfl) dX11_init_361 ?_
  rw [← eS221, ← esd222]
  refine wn_cs (cn2 := 44) (sn2 := 78300) rfl rfl ?_
  obtain ⟨g223, h⟩ := gd_some h
  obtain ⟨sd224, esd224, h⟩ := bn_some h
  refine wn_putS (pc := 363) C (Or.inr ⟨_, rfl⟩) g223.2 flX11_149 ffX11_84 rfl g223.1.1 g223.1.2.1 g223.1.2.2 dX11_init_363 ?_
  rw [← esd224]
  refine wn_aload_n (pc := 366) C 0 dX11_init_366 rfl rfl ?_
  refine wn_iconst (v := 3) (pc := 367) C dX11_init_367 (by decide) ?_
  obtain ⟨g225, h⟩ := gd_some h
  obtain ⟨S226, eS226, h⟩ := bn_some h
  obtain ⟨sd227, esd227, h⟩ := bn_some h
  refine wn_newI (pc := 368) C 3 g225.1 (by decide) (by decide) g225.2.1 g225.2.2 (Nat.le_of_ble_eq_true rfl) arr13 (Nat.le_of_ble_eq_true rfl) (Nat.le_of_ble_eq_true rfl) dX11_init_368 ?_
  rw [← eS226, ← esd227]
  refine wn_cs (cn2 := 45) (sn2 := 78303) rfl rfl ?_
  obtain ⟨g228, h⟩ := gd_some h
  obtain ⟨sd229, esd229, h⟩ := bn_some h
  refine wn_putS (pc := 370) C (Or.inr ⟨_, rfl⟩) g228.2 flX11_152 ffX11_85 rfl g228.1.1 g228.1.2.1 g228.1.2.2 dX11_init_370 ?_
  rw [← esd229]
  refine wn_aload_n (pc := 373) C 0 dX11_init_373 rfl rfl ?_
  refine wn_iconst (v := 3) (pc := 374) C dX11_init_374 (by decide) ?_
  obtain ⟨g230, h⟩ := gd_some h
  obtain ⟨S231, eS231, h⟩ := bn_some h
  obtain ⟨sd232, esd232, h⟩ := bn_some h
  refine wn_newI (pc := 375) C 3 g230.1 (by decide) (by decide) g230.2.1 g230.2.2 (Nat.le_of_ble_eq_true rfl) arr13 (Nat.le_of_ble_eq_true rfl) (Nat.le_of_ble_eq_true rfl) dX11_init_375 ?_
  rw [← eS231, ← esd232]
  refine wn_cs (cn2 := 46) (sn2 := 78306) rfl rfl ?_
  obtain ⟨g233, h⟩ := gd_some h
  obtain ⟨sd234, esd234, h⟩ := bn_some h
  refine wn_putS (pc := 377) C (Or.inr ⟨_, rfl⟩) g233.2 flX11_155 ffX11_86 rfl g233.1.1 g233.1.2.1 g233.1.2.2 dX11_init_377 ?_
  rw [← esd234]
  refine wn_aload_n (pc := 380) C 0 dX11_init_380 rfl rfl ?_
  refine wn_iconst (v := 4) (pc := 381) C dX11_init_381 (by decide) ?_
  obtain ⟨g235, h⟩ := gd_some h
  obtain ⟨S236, eS236, h⟩ := bn_some h
  refine wn_putI (pc := 382) C flX11_158 fpX11_33 rfl g235.1 g235.2.1 g235.2.2 dX11_init_382 ?_
  rw [← eS236]
  refine wn_aload_n (pc := 385) C 0 dX11_init_385 rfl rfl ?_
  refine wn_bipush (v := 12) (pc := 386) C dX11_init_386 (by decide) ?_
  obtain ⟨g237, h⟩ := gd_some h
  obtain ⟨S238, eS238, h⟩ := bn_some h
  refine wn_putI (pc := 388) C flX11_161 fpX11_34 rfl g237.1 g237.2.1 g237.2.2 dX11_init_388 ?_
  rw [← eS238]
  refine wn_aload_n (pc := 391) C 0 dX11_init_391 rfl rfl ?_
  refine wn_bipush (v := 10) (pc := 392) C dX11_init_392 (by decide) ?_
  obtain ⟨g239, h⟩ := gd_some h
  obtain ⟨S240, eS240, h⟩ := bn_some h
  refine wn_putI (pc := 394) C flX11_164 fpX11_35 rfl g239.1 g239.2.1 g239.2.2 dX11_init_394 ?_
  rw [← eS240]
  exact wn_vret C rfl h dX11_init_397
theorem CnX11_init {l : Launch} {cy : Nat → ClassId} {D : va_G} {B : Nat} {qs : (Nat → Nat) × (Nat → Nat)} {n : Nat} {sd sd' : Sd} {S S' : St} {t : Nat} (h : nX11_init n sd S t = some (sd', S')) : CtN l cy B D qs yX11_init cX11_init 1 1 20 46 78306 [.ref (B + t)] sd S sd' S' :=
  CtN_of (own := RX11) mX11_init rfl rfl (Nat.le_of_ble_eq_true rfl) (fun G e1 e2 e3 C => by subst e1 e2 e3; exact wX11_init C h)
