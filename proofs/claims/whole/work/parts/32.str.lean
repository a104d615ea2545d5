theorem fJ0_9 : Cond.fieldLink RJ0 9 "java/lang/String" "value" "[B" ∈ lw_g := lw_gm 1899 (by decide +kernel) (by decide +kernel)
theorem fJ0_15 : Cond.fieldLink RJ0 15 "java/lang/String" "coder" "B" ∈ lw_g := lw_gm 1900 (by decide +kernel) (by decide +kernel)
theorem fJ0_38 : Cond.fieldLink RJ0 38 "java/lang/String" "COMPACT_STRINGS" "Z" ∈ lw_g := lw_gm 297 (by decide +kernel) (by decide +kernel)
theorem fJ0_1053 : Cond.fieldLink RJ0 1053 "jdk/internal/util/Preconditions" "SIOOBE_FORMATTER" "Ljava/util/function/BiFunction;" ∈ lw_g := lw_gm 313 (by decide +kernel) (by decide +kernel)

/-- the contract of a method that only looks at text constants -/
def CtS (l : Launch) (B : Nat) (q : (Nat → Nat) × (Nat → Nat)) (y : MethodName) (cc : ByteArray) (nL : Nat) (ret : Option FieldType) (fr lo : Nat) (av : List Value) (v : Option Value) : Prop :=
  Met l y (Cond.code y cc nL ret :: lw_g) (rmOf fr lo) (va_Pc av (Str q B)) (fun _ st oc t => oc = .returned v ∧ t.heap = st.heap ∧ va_F (AB B) st t) 0 0 (AB B)
def Cs (G : Gx) (B : Nat) (q : (Nat → Nat) × (Nat → Nat)) (cc : ByteArray) (nL : Nat) (own : String) (ret : Option FieldType) : Prop :=
  (gP G).tables.exec = Jvm.exec ∧ (gC G).code = cc ∧ (gC G).maxLocals = nL ∧ (gS G).vm.findClass own = some (gM G).cls ∧ (∀ w ∈ lw_g, w.before (gV G) (gS G) = true) ∧ (gT G).locks = false ∧ (gT G).sig.returnType = ret ∧ Str q B (gS G)
def Ws (G : Gx) (B : Nat) (R : Room) (nL : Nat) (v : Option Value) (pc : Nat) (lv : List (Nat × Value)) (st : List Value) : Prop :=
  ∀ (locs : List Loc) (ls : Array Slot), va_S (AB B) (gS G).heap (gS G).heap locs → lv_has ls nL lv → W (gP G) (gL G) (gE G) R (gS G) (gM G) (gV G) (gB G) (gT G) (gC G) (gS G).heap locs 0 0 (MQ (gB G) (fun _ st oc t => oc = .returned v ∧ t.heap = st.heap ∧ va_F (AB B) st t) (gV G) (gS G) 0 0 (AB B)) (F0 (gM G) pc ls st)
theorem StrP_blind {B : Nat} {q : (Nat → Nat) × (Nat → Nat)} {av : List Value} : FrameBlind (va_Pc av (Str q B)) := fun _ _ _ _ h => ⟨h.1, Str_blind h.2⟩
theorem CtS_of {l : Launch} {B : Nat} {q : (Nat → Nat) × (Nat → Nat)} {y : MethodName} {cc : ByteArray} {nL fr lo n : Nat} {ret : Option FieldType} {av : List Value} {v : Option Value} {own : String} (hm : Mok y cc nL ret n) (hown : y.cls = own) (hlen : (lg_sl av).length ≤ nL)
    (k : ∀ G : Gx, gL G = l → Cs G B q cc nL own ret → Ws G B (rmOf fr lo) nL v 0 (lv_args 0 av) []) : CtS l B q y cc nL ret fr lo av v := by
  refine Met.ofW (cc := cc) (maxL := nL) (ret := ret) hm.2.2.2.1 rfl ?_
  intro p e s m args below meth c s₁ Bd hml hv
  obtain ⟨rfl, hZ⟩ := hv
  have hts := atoms_spec (ws := Cond.code y cc nL ret :: lw_g) Bd.pre
  have hcl : s.vm.findClass own = some m.cls := hown ▸ findClass_of_methodNamed Bd.named
  have hl := lv_entry av (n := nL) hlen
  rw [lg_entry_eq]
  exact k (p, l, e, s, m, av.toArray, below, meth, c, fun _ => m.cls, adB B, (fun _ => m.cls, fun _ _ => 0)) rfl ⟨Bd.exec, Bd.bytes, hml, hcl, fun w hw => hts w (List.mem_cons_of_mem _ hw), Bd.notSynchronized, Bd.returns, hZ⟩ [] _ va_S.rf hl
section
variable {G : Gx} {B : Nat} {qs : (Nat → Nat) × (Nat → Nat)} {R : Room} {cc : ByteArray} {nL : Nat} {own : String} {ret : Option FieldType} {vv : Option Value} {pc : Nat} {lv lv' : List (Nat × Value)} {st : List Value}
theorem ws_callV (C : Cs G B qs cc nL own ret) {y : MethodName} {cc' : ByteArray} {nL' n fr lo idx i : Nat} {ret' : Option FieldType} {As st0 : List Value} {v : Value} (hi : i < 14) (hct : CtS (gL G) B qs y cc' nL' ret' fr lo (.ref (qs.1 i) :: As) (some v)) (hm : Mok y cc' nL' ret' n) (hio : Iok y) (hlk : Cond.methodLink own idx y ∈ lw_g) (hy : y.cls = "java/lang/String") (hn : As.length = n) (hst : st0 = As.reverse ++ .ref (qs.1 i) :: st) (hcat : (st.map fun v => v.category).sum ≤ 8) (hR : fr + 1 ≤ R.frames ∧ 8 + (nL' + 11) + lo ≤ R.locals) (hd : decode cc pc = .ok (.invokevirtual idx, 3)) (kk : Ws G B R nL vv (pc + 3) lv (v :: st)) : Ws G B R nL vv pc lv st0 := fun locs ls hS hl => by
  have hrv := vk_recv C.2.2.2.2.2.2.2.1 hi hS
  rw [← hy] at hrv
  refine run_goG (mc := 0) (ms := 0) (PO := fun st t => t.heap = st.heap) (va_runV (As := As) (rest := st) ⟨C.1, C.2.1, C.2.2.1, C.2.2.2.1, C.2.2.2.2.1⟩ hct ⟨callB_g C.2.2.2.2.1 hm hlk hR, C.2.2.2.2.1 _ hio.1, C.2.2.2.2.1 _ hio.2⟩ ⟨StrP_blind, hrv, fun U hU hW => ⟨rfl, Str_to C.2.2.2.2.2.2.2 hS hU hW⟩⟩ rfl hn hl.1 hst (lv_room (m := gM G) (pc := pc) (ls := ls) (rest := st0) hcat) hd ⟨Nat.zero_le _, Nat.zero_le _⟩) (fun _ h => h) hS (fun H1 locs1 s1 t e1 e2 e3 hS1 => ?_)
  have e4 : H1 = (gS G).heap := by rw [← e2, e3, e1]
  subst e4
  exact kk locs1 ls hS1 hl
theorem ws_callS (C : Cs G B qs cc nL own ret) {y : MethodName} {cc' : ByteArray} {nL' n fr lo idx : Nat} {ret' : Option FieldType} {As st0 : List Value} {v : Option Value} (hct : CtS (gL G) B qs y cc' nL' ret' fr lo As v) (hm : Mok y cc' nL' ret' n) (hso : Cond.static y ∈ lw_g) (hlk : Cond.methodLink own idx y ∈ lw_g) (hn : As.length = n) (hst : st0 = As.reverse ++ st) (hcat : (st.map fun v => v.category).sum ≤ 8) (hR : fr + 1 ≤ R.frames ∧ 8 + (nL' + 11) + lo ≤ R.locals) (hd : decode cc pc = .ok (.invokestatic idx, 3)) (kk : Ws G B R nL vv (pc + 3) lv (v.toList ++ st)) : Ws G B R nL vv pc lv st0 := fun locs ls hS hl => by
  refine run_goG (mc := 0) (ms := 0) (PO := fun st t => t.heap = st.heap) (va_runS (As := As) (rest := st) ⟨C.1, C.2.1, C.2.2.1, C.2.2.2.1, C.2.2.2.2.1⟩ hct ⟨callB_g C.2.2.2.2.1 hm hlk hR, C.2.2.2.2.1 _ hso⟩ ⟨StrP_blind, fun U hU hW => ⟨rfl, Str_to C.2.2.2.2.2.2.2 hS hU hW⟩⟩ rfl hn hl.1 hst (lv_room (m := gM G) (pc := pc) (ls := ls) (rest := st0) hcat) hd ⟨Nat.zero_le _, Nat.zero_le _⟩) (fun _ h => h) hS (fun H1 locs1 s1 t e1 e2 e3 hS1 => ?_)
  have e4 : H1 = (gS G).heap := by rw [← e2, e3, e1]
  subst e4
  exact kk locs1 ls hS1 hl
theorem ws_ret (C : Cs G B qs cc nL own ret) {v : Int32} {fr lo : Nat} {ty : FieldType} (hr : ret = some ty) (hn : narrow ty (.int v) = .int v) (hd : decode cc pc = .ok (.ireturn, 1)) : Ws G B (rmOf fr lo) nL (some (.int v)) pc lv [.int v] := fun locs ls hS hl =>
  W.zret (Qc := fun _ st oc t => oc = .returned (some (.int v)) ∧ t.heap = st.heap ∧ va_F (AB B) st t) C.1 C.2.1 (C.2.2.2.2.2.2.1.trans hr) hn (fun t ht hW => ⟨rfl, ht, hS.F ht⟩) hS.2.2 hd C.2.2.2.2.2.1
theorem ws_lret (C : Cs G B qs cc nL own ret) {v : Int64} {fr lo : Nat} (hr : ret = some .long) (hd : decode cc pc = .ok (.lreturn, 1)) : Ws G B (rmOf fr lo) nL (some (.long v)) pc lv [.long v] := fun locs ls hS hl =>
  W.lret (Qc := fun _ st oc t => oc = .returned (some (.long v)) ∧ t.heap = st.heap ∧ va_F (AB B) st t) C.1 C.2.1 (C.2.2.2.2.2.2.1.trans hr) (fun t ht hW => ⟨rfl, ht, hS.F ht⟩) hS.2.2 hd C.2.2.2.2.2.1
theorem ws_vret (C : Cs G B qs cc nL own ret) {fr lo : Nat} (hr : ret = none) (hd : decode cc pc = .ok (.return_, 1)) : Ws G B (rmOf fr lo) nL none pc lv [] := fun locs ls hS hl =>
  W.vret (Qc := fun _ st oc t => oc = .returned none ∧ t.heap = st.heap ∧ va_F (AB B) st t) C.1 C.2.1 (C.2.2.2.2.2.2.1.trans hr) (fun t ht hW => ⟨rfl, ht, hS.F ht⟩) hS.2.2 hd C.2.2.2.2.2.1
end
section
variable {l : Launch} {B : Nat} {qs : (Nat → Nat) × (Nat → Nat)}
theorem ct_coder {i : Nat} (hi : i < 14) : CtS l B qs yJ0_coder_7d493 cJ0_coder_7d493 1 (some .byte) 0 0 [.ref (qs.1 i)] (some (.int 0)) := by
  refine CtS_of (own := RJ0) mJ0_coder_7d493 rfl (Nat.le_of_ble_eq_true rfl) (fun G eG C => ?_)
  intro locs ls hS hl
  have hl : lv_has ls 1 [(0, .ref (qs.1 i))] := hl
  refine va_gets C.1 C.2.1 C.2.2.2.2.2.2.2.2.2.1 hS C.2.2.2.1 (C.2.2.2.2.1 _ fJ0_38) (fun _ h => h) dJ0_coder_7d493_0 ?_
  refine lv_if_eq (tgt := 13) (pc := 3) C.1 C.2.1 dJ0_coder_7d493_3 (by decide) (fun q => absurd q (by decide)) (fun _ => ?_)
  refine lv_aload_n (pc := 6) C.1 C.2.1 dJ0_coder_7d493_6 rfl (lv_at hl 0 rfl) ?_
  refine vk_getf (pc := 7) C.1 C.2.1 (C.2.2.2.2.2.2.2.1.1 i hi).2.1 hS C.2.2.2.1 (C.2.2.2.2.1 _ fJ0_15) (fun _ h => h) dJ0_coder_7d493_7 ?_
  refine lv_goto (pc := 10) (tgt := 14) C.1 C.2.1 dJ0_coder_7d493_10 (by decide) ?_
  exact ws_ret C rfl rfl dJ0_coder_7d493_14 locs ls hS hl
theorem ct_latin {i : Nat} (hi : i < 14) : CtS l B qs yJ0_isLatin1_aae02 cJ0_isLatin1_aae02 1 (some .boolean) 0 0 [.ref (qs.1 i)] (some (.int 1)) := by
  refine CtS_of (own := RJ0) mJ0_isLatin1_aae02 rfl (Nat.le_of_ble_eq_true rfl) (fun G eG C => ?_)
  intro locs ls hS hl
  have hl : lv_has ls 1 [(0, .ref (qs.1 i))] := hl
  refine va_gets C.1 C.2.1 C.2.2.2.2.2.2.2.2.2.1 hS C.2.2.2.1 (C.2.2.2.2.1 _ fJ0_38) (fun _ h => h) dJ0_isLatin1_aae02_0 ?_
  refine lv_if_eq (tgt := 17) (pc := 3) C.1 C.2.1 dJ0_isLatin1_aae02_3 (by decide) (fun q => absurd q (by decide)) (fun _ => ?_)
  refine lv_aload_n (pc := 6) C.1 C.2.1 dJ0_isLatin1_aae02_6 rfl (lv_at hl 0 rfl) ?_
  refine vk_getf (pc := 7) C.1 C.2.1 (C.2.2.2.2.2.2.2.1.1 i hi).2.1 hS C.2.2.2.1 (C.2.2.2.2.1 _ fJ0_15) (fun _ h => h) dJ0_isLatin1_aae02_7 ?_
  refine lv_if_ne (tgt := 17) (pc := 10) C.1 C.2.1 dJ0_isLatin1_aae02_10 (by decide) (fun q => absurd rfl q) (fun _ => ?_)
  refine lv_iconst (v := 1) (pc := 13) C.1 C.2.1 dJ0_isLatin1_aae02_13 (by decide) ?_
  refine lv_goto (pc := 14) (tgt := 18) C.1 C.2.1 dJ0_isLatin1_aae02_14 (by decide) ?_
  exact ws_ret C rfl rfl dJ0_isLatin1_aae02_18 locs ls hS hl
theorem ct_length {i : Nat} (hi : i < 14) : CtS l B qs yJ0_length_8abf5 cJ0_length_8abf5 1 (some .int) 1 20 [.ref (qs.1 i)] (some (.int (Int32.ofNat (lenS.getD i 0)))) := by
  refine CtS_of (own := RJ0) mJ0_length_8abf5 rfl (Nat.le_of_ble_eq_true rfl) (fun G eG C => ?_)
  subst eG
  intro locs ls hS hl
  have hl : lv_has ls 1 [(0, .ref (qs.1 i))] := hl
  refine lv_aload_n (pc := 0) C.1 C.2.1 dJ0_length_8abf5_0 rfl (lv_at hl 0 rfl) ?_
  refine vk_getf (pc := 1) C.1 C.2.1 (C.2.2.2.2.2.2.2.1.1 i hi).2.2.1 hS C.2.2.2.1 (C.2.2.2.2.1 _ fJ0_9) (fun _ h => h) dJ0_length_8abf5_1 ?_
  refine va_tlen (pc := 4) C.1 C.2.1 (C.2.2.2.2.2.2.2.1.1 i hi).2.2.2 hS rfl dJ0_length_8abf5_4 ?_
  refine lv_aload_n (pc := 5) C.1 C.2.1 dJ0_length_8abf5_5 rfl (lv_at hl 0 rfl) ?_
  refine ws_callV (R := rmOf 1 20) (lv := [(0, .ref (qs.1 i))]) (st := [.int (Int32.ofNat (lenS.getD i 0))]) (As := []) (pc := 6) C hi (ct_coder hi) mJ0_coder_7d493 iJ0_coder_7d493 kJ0_335 rfl rfl rfl (Nat.le_of_ble_eq_true rfl) ⟨Nat.le_of_ble_eq_true rfl, Nat.le_of_ble_eq_true rfl⟩ dJ0_length_8abf5_6 ?_ locs ls hS hl
  intro locs ls hS hl
  refine lv_ishr (pc := 9) C.1 C.2.1 dJ0_length_8abf5_9 ?_
  rw [sb_shr0]
  exact ws_ret C rfl rfl dJ0_length_8abf5_10 locs ls hS hl
theorem ct_checkJ {x y : Int32} {f : Value} (h1 : ¬ x < 0) (h2 : x < y) (hf : f.category = 1) : CtS l B qs yJ3_checkIndex_8e157 cJ3_checkIndex_8e157 3 (some .int) 0 0 [.int x, .int y, f] (some (.int x)) := by
  refine CtS_of (own := RJ3) mJ3_checkIndex_8e157 rfl (by cases f <;> first | exact Nat.le_of_ble_eq_true rfl | cases hf) (fun G eG C => ?_)
  intro locs ls hS hl
  have hl : lv_has ls 3 [(0, .int x), (1, .int y)] := by
    cases f <;> first | exact lv_sub hl [0, 1] rfl | cases hf
  refine lv_iload_n (pc := 0) C.1 C.2.1 dJ3_checkIndex_8e157_0 rfl (lv_at hl 0 rfl) ?_
  refine lv_if_lt (tgt := 9) (pc := 1) C.1 C.2.1 dJ3_checkIndex_8e157_1 (by decide) (fun q => absurd q h1) (fun _ => ?_)
  refine lv_iload_n (pc := 4) C.1 C.2.1 dJ3_checkIndex_8e157_4 rfl (lv_at hl 0 rfl) ?_
  refine lv_iload_n (pc := 5) C.1 C.2.1 dJ3_checkIndex_8e157_5 rfl (lv_at hl 1 rfl) ?_
  refine lv_icmp_lt (tgt := 16) (pc := 6) C.1 C.2.1 dJ3_checkIndex_8e157_6 (by decide) (fun _ => ?_) (fun q => absurd h2 q)
  refine lv_iload_n (pc := 16) C.1 C.2.1 dJ3_checkIndex_8e157_16 rfl (lv_at hl 0 rfl) ?_
  exact ws_ret C rfl rfl dJ3_checkIndex_8e157_17 locs ls hS hl
theorem ct_check {x y : Int32} (h1 : ¬ x < 0) (h2 : x < y) : CtS l B qs yJ0_checkIndex_df160 cJ0_checkIndex_df160 2 none 1 22 [.int x, .int y] none := by
  refine CtS_of (own := RJ0) mJ0_checkIndex_df160 rfl (Nat.le_of_ble_eq_true rfl) (fun G eG C => ?_)
  subst eG
  intro locs ls hS hl
  have hl : lv_has ls 2 [(0, .int x), (1, .int y)] := hl
  refine lv_iload_n (pc := 0) C.1 C.2.1 dJ0_checkIndex_df160_0 rfl (lv_at hl 0 rfl) ?_
  refine lv_iload_n (pc := 1) C.1 C.2.1 dJ0_checkIndex_df160_1 rfl (lv_at hl 1 rfl) ?_
  have go : ∀ f : Value, f.category = 1 → Ws G B (rmOf 1 22) 2 none 5 [(0, .int x), (1, .int y)] [f, .int y, .int x] := fun f hf => by
    refine ws_callS (R := rmOf 1 22) (lv := [(0, .int x), (1, .int y)]) (st := []) (As := [.int x, .int y, f]) (pc := 5) C (ct_checkJ h1 h2 hf) mJ3_checkIndex_8e157 sJ3_checkIndex_8e157 kJ0_1059 rfl rfl (Nat.le_of_ble_eq_true rfl) ⟨Nat.le_of_ble_eq_true rfl, Nat.le_of_ble_eq_true rfl⟩ dJ0_checkIndex_df160_5 ?_
    intro locs ls hS hl
    refine lv_pop (va := .int x) (rest := []) (pc := 8) C.1 C.2.1 dJ0_checkIndex_df160_8 rfl ?_
    exact ws_vret C rfl dJ0_checkIndex_df160_9 locs ls hS hl
  rcases C.2.2.2.2.2.2.2.2.2.2.1 with hz | ⟨t, hz⟩
  · refine va_gets (pc := 2) C.1 C.2.1 hz hS C.2.2.2.1 (C.2.2.2.2.1 _ fJ0_1053) (fun _ h => h) dJ0_checkIndex_df160_2 ?_
    exact go .null rfl locs ls hS hl
  · refine va_gets (pc := 2) C.1 C.2.1 hz hS C.2.2.2.1 (C.2.2.2.2.1 _ fJ0_1053) (fun _ h => h) dJ0_checkIndex_df160_2 ?_
    exact go (.ref t) rfl locs ls hS hl
theorem lenS_small : ∀ i, i < 14 → lenS.getD i 0 < 9 ∧ lenS.getD i 0 = (bytS.getD i []).length := by decide
theorem bytS_fit : ∀ i, i < 14 → ∀ j, j < 9 → (((bytS.getD i []).getD j 0 &&& 255).toUInt32 % 65536).toInt32 = (bytS.getD i []).getD j 0 ∧ narrow .char (.int ((bytS.getD i []).getD j 0)) = .int ((bytS.getD i []).getD j 0) := by decide +kernel
theorem ct_chL {i k : Nat} (hi : i < 14) (hk : k < lenS.getD i 0) : CtS l B qs yJ1_charAt_3b067 cJ1_charAt_3b067 2 (some .char) 2 43 [.ref (qs.2 i), .int (nI k)] (some (.int ((bytS.getD i []).getD k 0))) := by
  refine CtS_of (own := RJ1) mJ1_charAt_3b067 rfl (Nat.le_of_ble_eq_true rfl) (fun G eG C => ?_)
  subst eG
  intro locs ls hS hl
  have hl : lv_has ls 2 [(0, .ref (qs.2 i)), (1, .int (nI k))] := hl
  have hs := (lenS_small i hi).1
  refine lv_iload_n (pc := 0) C.1 C.2.1 dJ1_charAt_3b067_0 rfl (lv_at hl 1 rfl) ?_
  refine lv_aload_n (pc := 1) C.1 C.2.1 dJ1_charAt_3b067_1 rfl (lv_at hl 0 rfl) ?_
  refine va_tlen (pc := 2) C.1 C.2.1 (C.2.2.2.2.2.2.2.1.1 i hi).2.2.2 hS rfl dJ1_charAt_3b067_2 ?_
  refine ws_callS (R := rmOf 2 43) (lv := [(0, .ref (qs.2 i)), (1, .int (nI k))]) (st := []) (As := [.int (nI k), .int (Int32.ofNat (lenS.getD i 0))]) (pc := 3) C (ct_check (nI_pos (by omega)) (nI_lt hk (by omega))) mJ0_checkIndex_df160 sJ0_checkIndex_df160 kJ1_9 rfl rfl (Nat.le_of_ble_eq_true rfl) ⟨Nat.le_of_ble_eq_true rfl, Nat.le_of_ble_eq_true rfl⟩ dJ1_charAt_3b067_3 ?_ locs ls hS hl
  intro locs ls hS hl
  refine lv_aload_n (pc := 6) C.1 C.2.1 dJ1_charAt_3b067_6 rfl (lv_at hl 0 rfl) ?_
  refine lv_iload_n (pc := 7) C.1 C.2.1 dJ1_charAt_3b067_7 rfl (lv_at hl 1 rfl) ?_
  refine va_tb (pc := 8) (v := .int ((bytS.getD i []).getD k 0)) C.1 C.2.1 (C.2.2.2.2.2.2.2.1.1 i hi).2.2.2 hS (vp_in_nI hk (by omega)) (by rw [nI_clamp (by omega)]) dJ1_charAt_3b067_8 ?_
  refine lv_sipush (v := 255) (pc := 9) C.1 C.2.1 dJ1_charAt_3b067_9 (by decide) ?_
  refine lv_iand (pc := 12) C.1 C.2.1 dJ1_charAt_3b067_12 ?_
  have hf := bytS_fit i hi k (by omega)
  refine lv_i2c (pc := 13) C.1 C.2.1 dJ1_charAt_3b067_13 hf.1 ?_
  exact ws_ret C rfl hf.2 dJ1_charAt_3b067_14 locs ls hS hl
theorem ct_charAt {i k : Nat} (hi : i < 14) (hk : k < lenS.getD i 0) : CtS l B qs yJ0_charAt_5068e cJ0_charAt_5068e 2 (some .char) 3 64 [.ref (qs.1 i), .int (nI k)] (some (.int ((bytS.getD i []).getD k 0))) := by
  refine CtS_of (own := RJ0) mJ0_charAt_5068e rfl (Nat.le_of_ble_eq_true rfl) (fun G eG C => ?_)
  subst eG
  intro locs ls hS hl
  have hl : lv_has ls 2 [(0, .ref (qs.1 i)), (1, .int (nI k))] := hl
  have hs := (lenS_small i hi).1
  refine lv_aload_n (pc := 0) C.1 C.2.1 dJ0_charAt_5068e_0 rfl (lv_at hl 0 rfl) ?_
  refine ws_callV (R := rmOf 3 64) (lv := [(0, .ref (qs.1 i)), (1, .int (nI k))]) (st := []) (As := []) (pc := 1) C hi (ct_latin hi) mJ0_isLatin1_aae02 iJ0_isLatin1_aae02 kJ0_492 rfl rfl rfl (Nat.le_of_ble_eq_true rfl) ⟨Nat.le_of_ble_eq_true rfl, Nat.le_of_ble_eq_true rfl⟩ dJ0_charAt_5068e_1 ?_ locs ls hS hl
  intro locs ls hS hl
  refine lv_if_eq (tgt := 16) (pc := 4) C.1 C.2.1 dJ0_charAt_5068e_4 (by decide) (fun q => absurd q (by decide)) (fun _ => ?_)
  refine lv_aload_n (pc := 7) C.1 C.2.1 dJ0_charAt_5068e_7 rfl (lv_at hl 0 rfl) ?_
  refine vk_getf (pc := 8) C.1 C.2.1 (C.2.2.2.2.2.2.2.1.1 i hi).2.2.1 hS C.2.2.2.1 (C.2.2.2.2.1 _ fJ0_9) (fun _ h => h) dJ0_charAt_5068e_8 ?_
  refine lv_iload_n (pc := 11) C.1 C.2.1 dJ0_charAt_5068e_11 rfl (lv_at hl 1 rfl) ?_
  refine ws_callS (R := rmOf 3 64) (lv := [(0, .ref (qs.1 i)), (1, .int (nI k))]) (st := []) (As := [.ref (qs.2 i), .int (nI k)]) (pc := 12) C (ct_chL hi hk) mJ1_charAt_3b067 sJ1_charAt_3b067 kJ0_495 rfl rfl (Nat.le_of_ble_eq_true rfl) ⟨Nat.le_of_ble_eq_true rfl, Nat.le_of_ble_eq_true rfl⟩ dJ0_charAt_5068e_12 ?_ locs ls hS hl
  intro locs ls hS hl
  exact ws_ret C rfl (bytS_fit i hi k (by omega)).2 dJ0_charAt_5068e_15 locs ls hS hl
def pk1 (p : Int64) (x : Int32) : Int64 := (p <<< ((5 : Int32).toInt64 &&& 63)) ||| (x - 97 + 1).toInt64
theorem ct_addLetter {p : Int64} {x : Int32} : CtS l B qs yX7_addLetter cX7_addLetter 3 (some .long) 0 0 [.long p, .int x] (some (.long (pk1 p x))) := by
  refine CtS_of (own := RX7) mX7_addLetter rfl (Nat.le_of_ble_eq_true rfl) (fun G eG C => ?_)
  intro locs ls hS hl
  have hl : lv_has ls 3 [(0, .long p), (2, .int x)] := hl
  refine lv_lload_n (pc := 0) C.1 C.2.1 dX7_addLetter_0 rfl (lv_at hl 0 rfl) ?_
  refine lv_iconst (v := 5) (pc := 1) C.1 C.2.1 dX7_addLetter_1 (by decide) ?_
  refine lv_lshl (pc := 2) C.1 C.2.1 dX7_addLetter_2 rfl ?_
  refine lv_iload_n (pc := 3) C.1 C.2.1 dX7_addLetter_3 rfl (lv_at hl 1 rfl) ?_
  refine lv_bipush (v := 97) (pc := 4) C.1 C.2.1 dX7_addLetter_4 (by decide) ?_
  refine lv_isub (pc := 6) C.1 C.2.1 dX7_addLetter_6 ?_
  refine lv_iconst (v := 1) (pc := 7) C.1 C.2.1 dX7_addLetter_7 (by decide) ?_
  refine lv_iadd (pc := 8) C.1 C.2.1 dX7_addLetter_8 ?_
  refine lv_i2l (pc := 9) C.1 C.2.1 dX7_addLetter_9 rfl ?_
  refine lv_lor (pc := 10) C.1 C.2.1 dX7_addLetter_10 ?_
  exact ws_lret C rfl dX7_addLetter_11 locs ls hS hl
def pkF (i : Nat) : Nat → Int64
  | 0 => 0
  | k + 1 => pk1 (pkF i k) ((bytS.getD i []).getD k 0)
def pkS (i : Nat) : Int64 := pkF i (lenS.getD i 0)
theorem ct_pack {i : Nat} (hi : i < 14) : CtS l B qs yX7_pack cX7_pack 4 (some .long) 4 85 [.ref (qs.1 i)] (some (.long (pkS i))) := by
  refine CtS_of (own := RX7) mX7_pack rfl (Nat.le_of_ble_eq_true rfl) (fun G eG C => ?_)
  subst eG
  have hs := (lenS_small i hi).1
  have loop : ∀ (n k : Nat), k + n = lenS.getD i 0 → Ws G B (rmOf 4 85) 4 (some (.long (pkS i))) 4 [(3, .int (nI k)), (1, .long (pkF i k)), (0, .ref (qs.1 i))] [] := by
    intro n
    induction n with
    | zero =>
      intro k hk locs ls hS hl
      refine lv_iload_n (pc := 4) C.1 C.2.1 dX7_pack_4 rfl (lv_at hl 0 rfl) ?_
      refine lv_aload_n (pc := 5) C.1 C.2.1 dX7_pack_5 rfl (lv_at hl 2 rfl) ?_
      refine ws_callV (R := rmOf 4 85) (lv := [(3, .int (nI k)), (1, .long (pkF i k)), (0, .ref (qs.1 i))]) (st := [.int (nI k)]) (As := []) (pc := 6) C hi (ct_length hi) mJ0_length_8abf5 iJ0_length_8abf5 kX7_61 rfl rfl rfl (Nat.le_of_ble_eq_true rfl) ⟨Nat.le_of_ble_eq_true rfl, Nat.le_of_ble_eq_true rfl⟩ dX7_pack_6 ?_ locs ls hS hl
      intro locs ls hS hl
      refine lv_icmp_ge (tgt := 28) (pc := 9) C.1 C.2.1 dX7_pack_9 (by decide) (fun _ => ?_) (fun q => absurd (nI_le (by omega) (by omega)) q)
      refine lv_lload_n (pc := 28) C.1 C.2.1 dX7_pack_28 rfl (lv_at hl 1 rfl) ?_
      have e : pkF i k = pkS i := by unfold pkS; rw [show k = lenS.getD i 0 by omega]
      rw [e]
      exact ws_lret C rfl dX7_pack_29 locs ls hS hl
    | succ n ih =>
      intro k hk locs ls hS hl
      have hkl : k < lenS.getD i 0 := by omega
      refine lv_iload_n (pc := 4) C.1 C.2.1 dX7_pack_4 rfl (lv_at hl 0 rfl) ?_
      refine lv_aload_n (pc := 5) C.1 C.2.1 dX7_pack_5 rfl (lv_at hl 2 rfl) ?_
      refine ws_callV (R := rmOf 4 85) (lv := [(3, .int (nI k)), (1, .long (pkF i k)), (0, .ref (qs.1 i))]) (st := [.int (nI k)]) (As := []) (pc := 6) C hi (ct_length hi) mJ0_length_8abf5 iJ0_length_8abf5 kX7_61 rfl rfl rfl (Nat.le_of_ble_eq_true rfl) ⟨Nat.le_of_ble_eq_true rfl, Nat.le_of_ble_eq_true rfl⟩ dX7_pack_6 ?_ locs ls hS hl
      intro locs ls hS hl
      refine lv_icmp_ge (tgt := 28) (pc := 9) C.1 C.2.1 dX7_pack_9 (by decide) (fun q => absurd q (nI_ge hkl (by omega))) (fun _ => ?_)
      refine lv_lload_n (pc := 12) C.1 C.2.1 dX7_pack_12 rfl (lv_at hl 1 rfl) ?_
      refine lv_aload_n (pc := 13) C.1 C.2.1 dX7_pack_13 rfl (lv_at hl 2 rfl) ?_
      refine lv_iload_n (pc := 14) C.1 C.2.1 dX7_pack_14 rfl (lv_at hl 0 rfl) ?_
      refine ws_callV (R := rmOf 4 85) (lv := [(3, .int (nI k)), (1, .long (pkF i k)), (0, .ref (qs.1 i))]) (st := [.long (pkF i k)]) (As := [.int (nI k)]) (pc := 15) C hi (ct_charAt hi hkl) mJ0_charAt_5068e iJ0_charAt_5068e kX7_67 rfl rfl rfl (Nat.le_of_ble_eq_true rfl) ⟨Nat.le_of_ble_eq_true rfl, Nat.le_of_ble_eq_true rfl⟩ dX7_pack_15 ?_ locs ls hS hl
      refine ws_callS (R := rmOf 4 85) (lv := [(3, .int (nI k)), (1, .long (pkF i k)), (0, .ref (qs.1 i))]) (st := []) (As := [.long (pkF i k), .int ((bytS.getD i []).getD k 0)]) (pc := 18) C (ct_addLetter (p := pkF i k) (x := (bytS.getD i []).getD k 0)) mX7_addLetter sX7_addLetter kX7_71 rfl rfl (Nat.le_of_ble_eq_true rfl) ⟨Nat.le_of_ble_eq_true rfl, Nat.le_of_ble_eq_true rfl⟩ dX7_pack_18 ?_
      intro locs ls hS hl
      refine lv_lstore_n (x := pkF i (k + 1)) (rest := []) (lv' := [(1, .long (pkF i (k + 1))), (3, .int (nI k)), (0, .ref (qs.1 i))]) (pc := 21) C.1 C.2.1 dX7_pack_21 rfl hl (Nat.le_of_ble_eq_true rfl) rfl (fun ls hl => ?_)
      refine lv_iinc (v := nI (k + 1)) (k := 1) (lv' := [(3, .int (nI (k + 1))), (1, .long (pkF i (k + 1))), (0, .ref (qs.1 i))]) (pc := 22) C.1 C.2.1 dX7_pack_22 hl rfl (by rw [nI_succ]; rfl) (Nat.le_of_ble_eq_true rfl) rfl (fun ls hl => ?_)
      refine lv_goto (tgt := 4) (pc := 25) C.1 C.2.1 dX7_pack_25 (by decide) ?_
      exact ih (k + 1) (by omega) locs ls hS hl
  intro locs ls hS hl
  have hl : lv_has ls 4 [(0, .ref (qs.1 i))] := hl
  refine lv_lconst (v := 0) (pc := 0) C.1 C.2.1 dX7_pack_0 (by decide) ?_
  refine lv_lstore_n (lv' := [(1, .long 0), (0, .ref (qs.1 i))]) (pc := 1) C.1 C.2.1 dX7_pack_1 rfl hl (Nat.le_of_ble_eq_true rfl) rfl (fun ls hl => ?_)
  refine lv_iconst (v := 0) (pc := 2) C.1 C.2.1 dX7_pack_2 (by decide) ?_
  refine lv_istore_n (lv' := [(3, .int 0), (1, .long 0), (0, .ref (qs.1 i))]) (pc := 3) C.1 C.2.1 dX7_pack_3 rfl hl (Nat.le_of_ble_eq_true rfl) rfl (fun ls hl => ?_)
  exact loop (lenS.getD i 0) 0 (by omega) locs ls hS hl
end
/-- pack, called while a side is being made -/
theorem wn_pack {G : Gx} {sd : Sd} {B N0 cn sn : Nat} {qs : (Nat → Nat) × (Nat → Nat)} {R : Room} {cc : ByteArray} {nL : Nat} {own : String} {ret : Option FieldType} {Q : State → Prop} {S : St} {pc : Nat} {lv : List (Nat × Value)} {st : List Value} (C : Cn G B N0 qs cc nL own ret) {idx i : Nat} (hi : i < 14) (hlk : Cond.methodLink own idx yX7_pack ∈ lw_g) (hcat : (st.map fun v => v.category).sum ≤ 8) (hR : 5 ≤ R.frames ∧ 108 ≤ R.locals) (hc : cn ≤ R.cells ∧ sn ≤ R.slots) (hd : decode cc pc = .ok (.invokestatic idx, 3)) (kk : Wn G sd B R nL Q cn sn S (pc + 3) lv (.long (pkS i) :: st)) : Wn G sd B R nL Q cn sn S pc lv (.ref (qs.1 i) :: st) := fun H locs ls hP hS hl => by
  refine run_goG (mc := 0) (ms := 0) (PO := fun st t => t.heap = st.heap) (va_runS (As := [.ref (qs.1 i)]) (rest := st) ⟨C.1, C.2.1, C.2.2.1, C.2.2.2.1, C.2.2.2.2.1⟩ (ct_pack (l := gL G) (B := B) hi) ⟨callB_g C.2.2.2.2.1 mX7_pack hlk hR, C.2.2.2.2.1 _ sX7_pack⟩ ⟨StrP_blind, fun U hU hW => ⟨rfl, Str_to C.2.2.2.2.2.2.2.2.2.1 hS hU hW⟩⟩ rfl rfl hl.1 rfl (lv_room (m := gM G) (pc := pc) (ls := ls) (rest := .ref (qs.1 i) :: st) hcat) hd hc) (fun _ h => h) hS (fun H1 locs1 s1 t e1 e2 e3 hS1 => ?_)
  have e4 : H1 = H := by rw [← e2, e3, e1]
  subst e4
  exact kk H1 locs1 ls hP hS1 hl

