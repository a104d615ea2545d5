def R_law : String := "DyeLampsLaw"
def lw_P (b : Addr) (xs : List Int32) (args : Array Value) (s : State) : Prop := args = #[.ref b] ∧ s.IntsAt b xs ∧ xs.length ≤ 384 ∧ (Jvm.Cond.and given_1 narrow_1).before args s = true
def lw_Q (_ : Array Value) (s : State) (o : Outcome) (t : State) : Prop := o = .returned (some (.int 1)) ∧ Framed s o t [] 600000 7302250
def lw_Z (below : List Frame) (a : Array Value) (s : State) : State → Prop := fun t => ∃ o, t.status = .running ∧ Ended t below o ∧ lw_Q a s o t
/-- the law's own end, with 1 on the stack, nothing written that was there before, its room as the claim has it -/
theorem lw_ret {p : Program} {l : Launch} {e : Env} {s : State} {m : MethodId} {below : List Frame} {meth : Method} {c : Code} {b : Nat} (hx : p.tables.exec = Jvm.exec) (hb : c.code = code) (hr : meth.sig.returnType = ret) (hlocks : meth.locks = false) {pc : Nat} {H : Heap} {ls : Array Slot} (hdg : decode code pc = .ok (.ireturn, 1)) : W p l e room_1 s m #[Value.ref b] below meth c H [] 600000 7302250 (lw_Z below #[Value.ref b] s) (F0 m pc ls [.int 1]) := by
  intro T hT X
  obtain ⟨fs, hret, hrun, hended, hW, hframe⟩ := X.leave (v := some (.int 1)) (hlocks := hlocks) (fun h => by rw [hr] at h; cases h)
  have hmeth' : T.vm.method? m = some meth := X.method'
  refine ⟨T.setFrames fs, ?_, .returned (some (.int 1)), hrun, hended, rfl, ⟨_, rfl⟩, hW, hframe⟩
  jvm_step X.here [X.here.top, hx, hb, hdg, hmeth', hr, ret, narrow_b1]
  (try refine ⟨rfl, ?_⟩); (try refine ⟨rfl, ?_⟩)
  first | (intro acts; rw [hret _ acts rfl rfl rfl]) | rw [hret _ _ rfl rfl rfl]
  exact Steps.refl _
/-- what holds at the law's entry: the machine, the code, the tables' words (any of lw_tbl by 'hts w (by decide +kernel)'), the script of L ints xs at the cell b, what the Statement gives of the start (any of its parts by flat_of_before) -/
def lw_At (p : Program) (s : State) (m : MethodId) (meth : Method) (c : Code) (b L : Nat) (xs : Nat → Int32) : Prop :=
  p.tables.exec = Jvm.exec ∧ c.code = code ∧ meth.sig.returnType = ret ∧ c.maxLocals = 4 ∧ s.vm.findClass R_law = some m.cls ∧ (∀ w ∈ lw_tbl, w.before #[Value.ref b] s = true) ∧ va_X b L xs s s.heap ∧ b < s.heap.size ∧ meth.locks = false ∧ (Jvm.Cond.and given_1 narrow_1).before #[Value.ref b] s = true

def tmS (i : Nat) : Term := Term.string "DyeLamps$Tokens" (cpS.getD i 0)
abbrev nwF : List Cond := flatC (Jvm.Cond.and given_1 narrow_1)
theorem nw_ex : ∀ i, i < 14 → Cond.exactly (tmS i) "java/lang/String" ∈ nwF := by decide +kernel
theorem nw_co : ∀ i, i < 14 → Cond.eq (.field (tmS i) "java/lang/String" "coder" "B") (.int 0) ∈ nwF := by decide +kernel
theorem nw_ar : ∀ i, i < 14 → Cond.arrayOf (.field (tmS i) "java/lang/String" "value" "[B") .byte ∈ nwF := by decide +kernel
theorem nw_le : ∀ i, i < 14 → Cond.eq (.length (.field (tmS i) "java/lang/String" "value" "[B")) (.int (Int32.ofNat (lenS.getD i 0))) ∈ nwF := by decide +kernel
theorem nw_el : ∀ i, i < 14 → ∀ j, j < lenS.getD i 0 → Cond.eq (.elem (.field (tmS i) "java/lang/String" "value" "[B") (.int (Int32.ofNat j))) (.int ((bytS.getD i []).getD j 0)) ∈ nwF := by decide +kernel
theorem nw_0_1 : Cond.not (Cond.eq (tmS 0) (tmS 1)) ∈ nwF := List.mem_of_getElem? (i := 25) (by decide +kernel)
theorem nw_0_2 : Cond.not (Cond.eq (tmS 0) (tmS 2)) ∈ nwF := List.mem_of_getElem? (i := 36) (by decide +kernel)
theorem nw_0_3 : Cond.not (Cond.eq (tmS 0) (tmS 3)) ∈ nwF := List.mem_of_getElem? (i := 46) (by decide +kernel)
theorem nw_0_4 : Cond.not (Cond.eq (tmS 0) (tmS 4)) ∈ nwF := List.mem_of_getElem? (i := 56) (by decide +kernel)
theorem nw_0_5 : Cond.not (Cond.eq (tmS 0) (tmS 5)) ∈ nwF := List.mem_of_getElem? (i := 68) (by decide +kernel)
theorem nw_0_6 : Cond.not (Cond.eq (tmS 0) (tmS 6)) ∈ nwF := List.mem_of_getElem? (i := 81) (by decide +kernel)
theorem nw_0_7 : Cond.not (Cond.eq (tmS 0) (tmS 7)) ∈ nwF := List.mem_of_getElem? (i := 96) (by decide +kernel)
theorem nw_0_8 : Cond.not (Cond.eq (tmS 0) (tmS 8)) ∈ nwF := List.mem_of_getElem? (i := 111) (by decide +kernel)
theorem nw_0_9 : Cond.not (Cond.eq (tmS 0) (tmS 9)) ∈ nwF := List.mem_of_getElem? (i := 127) (by decide +kernel)
theorem nw_0_10 : Cond.not (Cond.eq (tmS 0) (tmS 10)) ∈ nwF := List.mem_of_getElem? (i := 145) (by decide +kernel)
theorem nw_0_11 : Cond.not (Cond.eq (tmS 0) (tmS 11)) ∈ nwF := List.mem_of_getElem? (i := 163) (by decide +kernel)
theorem nw_0_12 : Cond.not (Cond.eq (tmS 0) (tmS 12)) ∈ nwF := List.mem_of_getElem? (i := 180) (by decide +kernel)
theorem nw_0_13 : Cond.not (Cond.eq (tmS 0) (tmS 13)) ∈ nwF := List.mem_of_getElem? (i := 198) (by decide +kernel)
theorem nw_1_2 : Cond.not (Cond.eq (tmS 1) (tmS 2)) ∈ nwF := List.mem_of_getElem? (i := 37) (by decide +kernel)
theorem nw_1_3 : Cond.not (Cond.eq (tmS 1) (tmS 3)) ∈ nwF := List.mem_of_getElem? (i := 47) (by decide +kernel)
theorem nw_1_4 : Cond.not (Cond.eq (tmS 1) (tmS 4)) ∈ nwF := List.mem_of_getElem? (i := 57) (by decide +kernel)
theorem nw_1_5 : Cond.not (Cond.eq (tmS 1) (tmS 5)) ∈ nwF := List.mem_of_getElem? (i := 69) (by decide +kernel)
theorem nw_1_6 : Cond.not (Cond.eq (tmS 1) (tmS 6)) ∈ nwF := List.mem_of_getElem? (i := 82) (by decide +kernel)
theorem nw_1_7 : Cond.not (Cond.eq (tmS 1) (tmS 7)) ∈ nwF := List.mem_of_getElem? (i := 97) (by decide +kernel)
theorem nw_1_8 : Cond.not (Cond.eq (tmS 1) (tmS 8)) ∈ nwF := List.mem_of_getElem? (i := 112) (by decide +kernel)
theorem nw_1_9 : Cond.not (Cond.eq (tmS 1) (tmS 9)) ∈ nwF := List.mem_of_getElem? (i := 128) (by decide +kernel)
theorem nw_1_10 : Cond.not (Cond.eq (tmS 1) (tmS 10)) ∈ nwF := List.mem_of_getElem? (i := 146) (by decide +kernel)
theorem nw_1_11 : Cond.not (Cond.eq (tmS 1) (tmS 11)) ∈ nwF := List.mem_of_getElem? (i := 164) (by decide +kernel)
theorem nw_1_12 : Cond.not (Cond.eq (tmS 1) (tmS 12)) ∈ nwF := List.mem_of_getElem? (i := 181) (by decide +kernel)
theorem nw_1_13 : Cond.not (Cond.eq (tmS 1) (tmS 13)) ∈ nwF := List.mem_of_getElem? (i := 199) (by decide +kernel)
theorem nw_2_3 : Cond.not (Cond.eq (tmS 2) (tmS 3)) ∈ nwF := List.mem_of_getElem? (i := 48) (by decide +kernel)
theorem nw_2_4 : Cond.not (Cond.eq (tmS 2) (tmS 4)) ∈ nwF := List.mem_of_getElem? (i := 58) (by decide +kernel)
theorem nw_2_5 : Cond.not (Cond.eq (tmS 2) (tmS 5)) ∈ nwF := List.mem_of_getElem? (i := 70) (by decide +kernel)
theorem nw_2_6 : Cond.not (Cond.eq (tmS 2) (tmS 6)) ∈ nwF := List.mem_of_getElem? (i := 83) (by decide +kernel)
theorem nw_2_7 : Cond.not (Cond.eq (tmS 2) (tmS 7)) ∈ nwF := List.mem_of_getElem? (i := 98) (by decide +kernel)
theorem nw_2_8 : Cond.not (Cond.eq (tmS 2) (tmS 8)) ∈ nwF := List.mem_of_getElem? (i := 113) (by decide +kernel)
theorem nw_2_9 : Cond.not (Cond.eq (tmS 2) (tmS 9)) ∈ nwF := List.mem_of_getElem? (i := 129) (by decide +kernel)
theorem nw_2_10 : Cond.not (Cond.eq (tmS 2) (tmS 10)) ∈ nwF := List.mem_of_getElem? (i := 147) (by decide +kernel)
theorem nw_2_11 : Cond.not (Cond.eq (tmS 2) (tmS 11)) ∈ nwF := List.mem_of_getElem? (i := 165) (by decide +kernel)
theorem nw_2_12 : Cond.not (Cond.eq (tmS 2) (tmS 12)) ∈ nwF := List.mem_of_getElem? (i := 182) (by decide +kernel)
theorem nw_2_13 : Cond.not (Cond.eq (tmS 2) (tmS 13)) ∈ nwF := List.mem_of_getElem? (i := 200) (by decide +kernel)
theorem nw_3_4 : Cond.not (Cond.eq (tmS 3) (tmS 4)) ∈ nwF := List.mem_of_getElem? (i := 59) (by decide +kernel)
theorem nw_3_5 : Cond.not (Cond.eq (tmS 3) (tmS 5)) ∈ nwF := List.mem_of_getElem? (i := 71) (by decide +kernel)
theorem nw_3_6 : Cond.not (Cond.eq (tmS 3) (tmS 6)) ∈ nwF := List.mem_of_getElem? (i := 84) (by decide +kernel)
theorem nw_3_7 : Cond.not (Cond.eq (tmS 3) (tmS 7)) ∈ nwF := List.mem_of_getElem? (i := 99) (by decide +kernel)
theorem nw_3_8 : Cond.not (Cond.eq (tmS 3) (tmS 8)) ∈ nwF := List.mem_of_getElem? (i := 114) (by decide +kernel)
theorem nw_3_9 : Cond.not (Cond.eq (tmS 3) (tmS 9)) ∈ nwF := List.mem_of_getElem? (i := 130) (by decide +kernel)
theorem nw_3_10 : Cond.not (Cond.eq (tmS 3) (tmS 10)) ∈ nwF := List.mem_of_getElem? (i := 148) (by decide +kernel)
theorem nw_3_11 : Cond.not (Cond.eq (tmS 3) (tmS 11)) ∈ nwF := List.mem_of_getElem? (i := 166) (by decide +kernel)
theorem nw_3_12 : Cond.not (Cond.eq (tmS 3) (tmS 12)) ∈ nwF := List.mem_of_getElem? (i := 183) (by decide +kernel)
theorem nw_3_13 : Cond.not (Cond.eq (tmS 3) (tmS 13)) ∈ nwF := List.mem_of_getElem? (i := 201) (by decide +kernel)
theorem nw_4_5 : Cond.not (Cond.eq (tmS 4) (tmS 5)) ∈ nwF := List.mem_of_getElem? (i := 72) (by decide +kernel)
theorem nw_4_6 : Cond.not (Cond.eq (tmS 4) (tmS 6)) ∈ nwF := List.mem_of_getElem? (i := 85) (by decide +kernel)
theorem nw_4_7 : Cond.not (Cond.eq (tmS 4) (tmS 7)) ∈ nwF := List.mem_of_getElem? (i := 100) (by decide +kernel)
theorem nw_4_8 : Cond.not (Cond.eq (tmS 4) (tmS 8)) ∈ nwF := List.mem_of_getElem? (i := 115) (by decide +kernel)
theorem nw_4_9 : Cond.not (Cond.eq (tmS 4) (tmS 9)) ∈ nwF := List.mem_of_getElem? (i := 131) (by decide +kernel)
theorem nw_4_10 : Cond.not (Cond.eq (tmS 4) (tmS 10)) ∈ nwF := List.mem_of_getElem? (i := 149) (by decide +kernel)
theorem nw_4_11 : Cond.not (Cond.eq (tmS 4) (tmS 11)) ∈ nwF := List.mem_of_getElem? (i := 167) (by decide +kernel)
theorem nw_4_12 : Cond.not (Cond.eq (tmS 4) (tmS 12)) ∈ nwF := List.mem_of_getElem? (i := 184) (by decide +kernel)
theorem nw_4_13 : Cond.not (Cond.eq (tmS 4) (tmS 13)) ∈ nwF := List.mem_of_getElem? (i := 202) (by decide +kernel)
theorem nw_5_6 : Cond.not (Cond.eq (tmS 5) (tmS 6)) ∈ nwF := List.mem_of_getElem? (i := 86) (by decide +kernel)
theorem nw_5_7 : Cond.not (Cond.eq (tmS 5) (tmS 7)) ∈ nwF := List.mem_of_getElem? (i := 101) (by decide +kernel)
theorem nw_5_8 : Cond.not (Cond.eq (tmS 5) (tmS 8)) ∈ nwF := List.mem_of_getElem? (i := 116) (by decide +kernel)
theorem nw_5_9 : Cond.not (Cond.eq (tmS 5) (tmS 9)) ∈ nwF := List.mem_of_getElem? (i := 132) (by decide +kernel)
theorem nw_5_10 : Cond.not (Cond.eq (tmS 5) (tmS 10)) ∈ nwF := List.mem_of_getElem? (i := 150) (by decide +kernel)
theorem nw_5_11 : Cond.not (Cond.eq (tmS 5) (tmS 11)) ∈ nwF := List.mem_of_getElem? (i := 168) (by decide +kernel)
theorem nw_5_12 : Cond.not (Cond.eq (tmS 5) (tmS 12)) ∈ nwF := List.mem_of_getElem? (i := 185) (by decide +kernel)
theorem nw_5_13 : Cond.not (Cond.eq (tmS 5) (tmS 13)) ∈ nwF := List.mem_of_getElem? (i := 203) (by decide +kernel)
theorem nw_6_7 : Cond.not (Cond.eq (tmS 6) (tmS 7)) ∈ nwF := List.mem_of_getElem? (i := 102) (by decide +kernel)
theorem nw_6_8 : Cond.not (Cond.eq (tmS 6) (tmS 8)) ∈ nwF := List.mem_of_getElem? (i := 117) (by decide +kernel)
theorem nw_6_9 : Cond.not (Cond.eq (tmS 6) (tmS 9)) ∈ nwF := List.mem_of_getElem? (i := 133) (by decide +kernel)
theorem nw_6_10 : Cond.not (Cond.eq (tmS 6) (tmS 10)) ∈ nwF := List.mem_of_getElem? (i := 151) (by decide +kernel)
theorem nw_6_11 : Cond.not (Cond.eq (tmS 6) (tmS 11)) ∈ nwF := List.mem_of_getElem? (i := 169) (by decide +kernel)
theorem nw_6_12 : Cond.not (Cond.eq (tmS 6) (tmS 12)) ∈ nwF := List.mem_of_getElem? (i := 186) (by decide +kernel)
theorem nw_6_13 : Cond.not (Cond.eq (tmS 6) (tmS 13)) ∈ nwF := List.mem_of_getElem? (i := 204) (by decide +kernel)
theorem nw_7_8 : Cond.not (Cond.eq (tmS 7) (tmS 8)) ∈ nwF := List.mem_of_getElem? (i := 118) (by decide +kernel)
theorem nw_7_9 : Cond.not (Cond.eq (tmS 7) (tmS 9)) ∈ nwF := List.mem_of_getElem? (i := 134) (by decide +kernel)
theorem nw_7_10 : Cond.not (Cond.eq (tmS 7) (tmS 10)) ∈ nwF := List.mem_of_getElem? (i := 152) (by decide +kernel)
theorem nw_7_11 : Cond.not (Cond.eq (tmS 7) (tmS 11)) ∈ nwF := List.mem_of_getElem? (i := 170) (by decide +kernel)
theorem nw_7_12 : Cond.not (Cond.eq (tmS 7) (tmS 12)) ∈ nwF := List.mem_of_getElem? (i := 187) (by decide +kernel)
theorem nw_7_13 : Cond.not (Cond.eq (tmS 7) (tmS 13)) ∈ nwF := List.mem_of_getElem? (i := 205) (by decide +kernel)
theorem nw_8_9 : Cond.not (Cond.eq (tmS 8) (tmS 9)) ∈ nwF := List.mem_of_getElem? (i := 135) (by decide +kernel)
theorem nw_8_10 : Cond.not (Cond.eq (tmS 8) (tmS 10)) ∈ nwF := List.mem_of_getElem? (i := 153) (by decide +kernel)
theorem nw_8_11 : Cond.not (Cond.eq (tmS 8) (tmS 11)) ∈ nwF := List.mem_of_getElem? (i := 171) (by decide +kernel)
theorem nw_8_12 : Cond.not (Cond.eq (tmS 8) (tmS 12)) ∈ nwF := List.mem_of_getElem? (i := 188) (by decide +kernel)
theorem nw_8_13 : Cond.not (Cond.eq (tmS 8) (tmS 13)) ∈ nwF := List.mem_of_getElem? (i := 206) (by decide +kernel)
theorem nw_9_10 : Cond.not (Cond.eq (tmS 9) (tmS 10)) ∈ nwF := List.mem_of_getElem? (i := 154) (by decide +kernel)
theorem nw_9_11 : Cond.not (Cond.eq (tmS 9) (tmS 11)) ∈ nwF := List.mem_of_getElem? (i := 172) (by decide +kernel)
theorem nw_9_12 : Cond.not (Cond.eq (tmS 9) (tmS 12)) ∈ nwF := List.mem_of_getElem? (i := 189) (by decide +kernel)
theorem nw_9_13 : Cond.not (Cond.eq (tmS 9) (tmS 13)) ∈ nwF := List.mem_of_getElem? (i := 207) (by decide +kernel)
theorem nw_10_11 : Cond.not (Cond.eq (tmS 10) (tmS 11)) ∈ nwF := List.mem_of_getElem? (i := 173) (by decide +kernel)
theorem nw_10_12 : Cond.not (Cond.eq (tmS 10) (tmS 12)) ∈ nwF := List.mem_of_getElem? (i := 190) (by decide +kernel)
theorem nw_10_13 : Cond.not (Cond.eq (tmS 10) (tmS 13)) ∈ nwF := List.mem_of_getElem? (i := 208) (by decide +kernel)
theorem nw_11_12 : Cond.not (Cond.eq (tmS 11) (tmS 12)) ∈ nwF := List.mem_of_getElem? (i := 191) (by decide +kernel)
theorem nw_11_13 : Cond.not (Cond.eq (tmS 11) (tmS 13)) ∈ nwF := List.mem_of_getElem? (i := 209) (by decide +kernel)
theorem nw_12_13 : Cond.not (Cond.eq (tmS 12) (tmS 13)) ∈ nwF := List.mem_of_getElem? (i := 210) (by decide +kernel)
theorem nw_ne : ∀ i, i < 14 → ∀ j, j < 14 → i ≠ j → (Cond.not (Cond.eq (tmS i) (tmS j)) ∈ nwF ∨ Cond.not (Cond.eq (tmS j) (tmS i)) ∈ nwF) := by
  intro i hi j hj h
  exact match i, j, hi, hj, h with
  | 0, 0, _, _, h => absurd rfl h
  | 0, 1, _, _, h => Or.inl nw_0_1
  | 0, 2, _, _, h => Or.inl nw_0_2
  | 0, 3, _, _, h => Or.inl nw_0_3
  | 0, 4, _, _, h => Or.inl nw_0_4
  | 0, 5, _, _, h => Or.inl nw_0_5
  | 0, 6, _, _, h => Or.inl nw_0_6
  | 0, 7, _, _, h => Or.inl nw_0_7
  | 0, 8, _, _, h => Or.inl nw_0_8
  | 0, 9, _, _, h => Or.inl nw_0_9
  | 0, 10, _, _, h => Or.inl nw_0_10
  | 0, 11, _, _, h => Or.inl nw_0_11
  | 0, 12, _, _, h => Or.inl nw_0_12
  | 0, 13, _, _, h => Or.inl nw_0_13
  | 1, 0, _, _, h => Or.inr nw_0_1
  | 1, 1, _, _, h => absurd rfl h
  | 1, 2, _, _, h => Or.inl nw_1_2
  | 1, 3, _, _, h => Or.inl nw_1_3
  | 1, 4, _, _, h => Or.inl nw_1_4
  | 1, 5, _, _, h => Or.inl nw_1_5
  | 1, 6, _, _, h => Or.inl nw_1_6
  | 1, 7, _, _, h => Or.inl nw_1_7
  | 1, 8, _, _, h => Or.inl nw_1_8
  | 1, 9, _, _, h => Or.inl nw_1_9
  | 1, 10, _, _, h => Or.inl nw_1_10
  | 1, 11, _, _, h => Or.inl nw_1_11
  | 1, 12, _, _, h => Or.inl nw_1_12
  | 1, 13, _, _, h => Or.inl nw_1_13
  | 2, 0, _, _, h => Or.inr nw_0_2
  | 2, 1, _, _, h => Or.inr nw_1_2
  | 2, 2, _, _, h => absurd rfl h
  | 2, 3, _, _, h => Or.inl nw_2_3
  | 2, 4, _, _, h => Or.inl nw_2_4
  | 2, 5, _, _, h => Or.inl nw_2_5
  | 2, 6, _, _, h => Or.inl nw_2_6
  | 2, 7, _, _, h => Or.inl nw_2_7
  | 2, 8, _, _, h => Or.inl nw_2_8
  | 2, 9, _, _, h => Or.inl nw_2_9
  | 2, 10, _, _, h => Or.inl nw_2_10
  | 2, 11, _, _, h => Or.inl nw_2_11
  | 2, 12, _, _, h => Or.inl nw_2_12
  | 2, 13, _, _, h => Or.inl nw_2_13
  | 3, 0, _, _, h => Or.inr nw_0_3
  | 3, 1, _, _, h => Or.inr nw_1_3
  | 3, 2, _, _, h => Or.inr nw_2_3
  | 3, 3, _, _, h => absurd rfl h
  | 3, 4, _, _, h => Or.inl nw_3_4
  | 3, 5, _, _, h => Or.inl nw_3_5
  | 3, 6, _, _, h => Or.inl nw_3_6
  | 3, 7, _, _, h => Or.inl nw_3_7
  | 3, 8, _, _, h => Or.inl nw_3_8
  | 3, 9, _, _, h => Or.inl nw_3_9
  | 3, 10, _, _, h => Or.inl nw_3_10
  | 3, 11, _, _, h => Or.inl nw_3_11
  | 3, 12, _, _, h => Or.inl nw_3_12
  | 3, 13, _, _, h => Or.inl nw_3_13
  | 4, 0, _, _, h => Or.inr nw_0_4
  | 4, 1, _, _, h => Or.inr nw_1_4
  | 4, 2, _, _, h => Or.inr nw_2_4
  | 4, 3, _, _, h => Or.inr nw_3_4
  | 4, 4, _, _, h => absurd rfl h
  | 4, 5, _, _, h => Or.inl nw_4_5
  | 4, 6, _, _, h => Or.inl nw_4_6
  | 4, 7, _, _, h => Or.inl nw_4_7
  | 4, 8, _, _, h => Or.inl nw_4_8
  | 4, 9, _, _, h => Or.inl nw_4_9
  | 4, 10, _, _, h => Or.inl nw_4_10
  | 4, 11, _, _, h => Or.inl nw_4_11
  | 4, 12, _, _, h => Or.inl nw_4_12
  | 4, 13, _, _, h => Or.inl nw_4_13
  | 5, 0, _, _, h => Or.inr nw_0_5
  | 5, 1, _, _, h => Or.inr nw_1_5
  | 5, 2, _, _, h => Or.inr nw_2_5
  | 5, 3, _, _, h => Or.inr nw_3_5
  | 5, 4, _, _, h => Or.inr nw_4_5
  | 5, 5, _, _, h => absurd rfl h
  | 5, 6, _, _, h => Or.inl nw_5_6
  | 5, 7, _, _, h => Or.inl nw_5_7
  | 5, 8, _, _, h => Or.inl nw_5_8
  | 5, 9, _, _, h => Or.inl nw_5_9
  | 5, 10, _, _, h => Or.inl nw_5_10
  | 5, 11, _, _, h => Or.inl nw_5_11
  | 5, 12, _, _, h => Or.inl nw_5_12
  | 5, 13, _, _, h => Or.inl nw_5_13
  | 6, 0, _, _, h => Or.inr nw_0_6
  | 6, 1, _, _, h => Or.inr nw_1_6
  | 6, 2, _, _, h => Or.inr nw_2_6
  | 6, 3, _, _, h => Or.inr nw_3_6
  | 6, 4, _, _, h => Or.inr nw_4_6
  | 6, 5, _, _, h => Or.inr nw_5_6
  | 6, 6, _, _, h => absurd rfl h
  | 6, 7, _, _, h => Or.inl nw_6_7
  | 6, 8, _, _, h => Or.inl nw_6_8
  | 6, 9, _, _, h => Or.inl nw_6_9
  | 6, 10, _, _, h => Or.inl nw_6_10
  | 6, 11, _, _, h => Or.inl nw_6_11
  | 6, 12, _, _, h => Or.inl nw_6_12
  | 6, 13, _, _, h => Or.inl nw_6_13
  | 7, 0, _, _, h => Or.inr nw_0_7
  | 7, 1, _, _, h => Or.inr nw_1_7
  | 7, 2, _, _, h => Or.inr nw_2_7
  | 7, 3, _, _, h => Or.inr nw_3_7
  | 7, 4, _, _, h => Or.inr nw_4_7
  | 7, 5, _, _, h => Or.inr nw_5_7
  | 7, 6, _, _, h => Or.inr nw_6_7
  | 7, 7, _, _, h => absurd rfl h
  | 7, 8, _, _, h => Or.inl nw_7_8
  | 7, 9, _, _, h => Or.inl nw_7_9
  | 7, 10, _, _, h => Or.inl nw_7_10
  | 7, 11, _, _, h => Or.inl nw_7_11
  | 7, 12, _, _, h => Or.inl nw_7_12
  | 7, 13, _, _, h => Or.inl nw_7_13
  | 8, 0, _, _, h => Or.inr nw_0_8
  | 8, 1, _, _, h => Or.inr nw_1_8
  | 8, 2, _, _, h => Or.inr nw_2_8
  | 8, 3, _, _, h => Or.inr nw_3_8
  | 8, 4, _, _, h => Or.inr nw_4_8
  | 8, 5, _, _, h => Or.inr nw_5_8
  | 8, 6, _, _, h => Or.inr nw_6_8
  | 8, 7, _, _, h => Or.inr nw_7_8
  | 8, 8, _, _, h => absurd rfl h
  | 8, 9, _, _, h => Or.inl nw_8_9
  | 8, 10, _, _, h => Or.inl nw_8_10
  | 8, 11, _, _, h => Or.inl nw_8_11
  | 8, 12, _, _, h => Or.inl nw_8_12
  | 8, 13, _, _, h => Or.inl nw_8_13
  | 9, 0, _, _, h => Or.inr nw_0_9
  | 9, 1, _, _, h => Or.inr nw_1_9
  | 9, 2, _, _, h => Or.inr nw_2_9
  | 9, 3, _, _, h => Or.inr nw_3_9
  | 9, 4, _, _, h => Or.inr nw_4_9
  | 9, 5, _, _, h => Or.inr nw_5_9
  | 9, 6, _, _, h => Or.inr nw_6_9
  | 9, 7, _, _, h => Or.inr nw_7_9
  | 9, 8, _, _, h => Or.inr nw_8_9
  | 9, 9, _, _, h => absurd rfl h
  | 9, 10, _, _, h => Or.inl nw_9_10
  | 9, 11, _, _, h => Or.inl nw_9_11
  | 9, 12, _, _, h => Or.inl nw_9_12
  | 9, 13, _, _, h => Or.inl nw_9_13
  | 10, 0, _, _, h => Or.inr nw_0_10
  | 10, 1, _, _, h => Or.inr nw_1_10
  | 10, 2, _, _, h => Or.inr nw_2_10
  | 10, 3, _, _, h => Or.inr nw_3_10
  | 10, 4, _, _, h => Or.inr nw_4_10
  | 10, 5, _, _, h => Or.inr nw_5_10
  | 10, 6, _, _, h => Or.inr nw_6_10
  | 10, 7, _, _, h => Or.inr nw_7_10
  | 10, 8, _, _, h => Or.inr nw_8_10
  | 10, 9, _, _, h => Or.inr nw_9_10
  | 10, 10, _, _, h => absurd rfl h
  | 10, 11, _, _, h => Or.inl nw_10_11
  | 10, 12, _, _, h => Or.inl nw_10_12
  | 10, 13, _, _, h => Or.inl nw_10_13
  | 11, 0, _, _, h => Or.inr nw_0_11
  | 11, 1, _, _, h => Or.inr nw_1_11
  | 11, 2, _, _, h => Or.inr nw_2_11
  | 11, 3, _, _, h => Or.inr nw_3_11
  | 11, 4, _, _, h => Or.inr nw_4_11
  | 11, 5, _, _, h => Or.inr nw_5_11
  | 11, 6, _, _, h => Or.inr nw_6_11
  | 11, 7, _, _, h => Or.inr nw_7_11
  | 11, 8, _, _, h => Or.inr nw_8_11
  | 11, 9, _, _, h => Or.inr nw_9_11
  | 11, 10, _, _, h => Or.inr nw_10_11
  | 11, 11, _, _, h => absurd rfl h
  | 11, 12, _, _, h => Or.inl nw_11_12
  | 11, 13, _, _, h => Or.inl nw_11_13
  | 12, 0, _, _, h => Or.inr nw_0_12
  | 12, 1, _, _, h => Or.inr nw_1_12
  | 12, 2, _, _, h => Or.inr nw_2_12
  | 12, 3, _, _, h => Or.inr nw_3_12
  | 12, 4, _, _, h => Or.inr nw_4_12
  | 12, 5, _, _, h => Or.inr nw_5_12
  | 12, 6, _, _, h => Or.inr nw_6_12
  | 12, 7, _, _, h => Or.inr nw_7_12
  | 12, 8, _, _, h => Or.inr nw_8_12
  | 12, 9, _, _, h => Or.inr nw_9_12
  | 12, 10, _, _, h => Or.inr nw_10_12
  | 12, 11, _, _, h => Or.inr nw_11_12
  | 12, 12, _, _, h => absurd rfl h
  | 12, 13, _, _, h => Or.inl nw_12_13
  | 13, 0, _, _, h => Or.inr nw_0_13
  | 13, 1, _, _, h => Or.inr nw_1_13
  | 13, 2, _, _, h => Or.inr nw_2_13
  | 13, 3, _, _, h => Or.inr nw_3_13
  | 13, 4, _, _, h => Or.inr nw_4_13
  | 13, 5, _, _, h => Or.inr nw_5_13
  | 13, 6, _, _, h => Or.inr nw_6_13
  | 13, 7, _, _, h => Or.inr nw_7_13
  | 13, 8, _, _, h => Or.inr nw_8_13
  | 13, 9, _, _, h => Or.inr nw_9_13
  | 13, 10, _, _, h => Or.inr nw_10_13
  | 13, 11, _, _, h => Or.inr nw_11_13
  | 13, 12, _, _, h => Or.inr nw_12_13
  | 13, 13, _, _, h => absurd rfl h
  | i + 14, _, hi, _, _ => absurd hi (by omega)
  | _, j + 14, _, hj, _ => absurd hj (by omega)
theorem nw_cs : Cond.eq (.static "java/lang/String" "COMPACT_STRINGS" "Z") (.int 1) ∈ nwF := by decide +kernel
theorem nw_fm : Cond.isRef (.static "jdk/internal/util/Preconditions" "SIOOBE_FORMATTER" "Ljava/util/function/BiFunction;") ∈ nwF := by decide +kernel
theorem lw_st : Cond.laysStatic "java/lang/String" "COMPACT_STRINGS" "Z" ∈ lw_tbl := List.mem_of_getElem? (i := 298) (by decide +kernel)
theorem lw_sf : Cond.laysStatic "jdk/internal/util/Preconditions" "SIOOBE_FORMATTER" "Ljava/util/function/BiFunction;" ∈ lw_tbl := List.mem_of_getElem? (i := 314) (by decide +kernel)
theorem lw_i1 : Cond.initialized "java/lang/String" ∈ lw_g := lw_gm 113 (by decide +kernel) (by decide +kernel)
theorem lw_i2 : Cond.initialized "jdk/internal/util/Preconditions" ∈ lw_g := lw_gm 115 (by decide +kernel) (by decide +kernel)
theorem lw_sr : ∀ i, i < 14 → Cond.stringRef RX7 (cpS.getD i 0) (txS.getD i "") ∈ lw_tbl := by
  intro i hi
  exact match i, hi with
  | 0, _ => List.mem_of_getElem? (i := 285) (by decide +kernel)
  | 1, _ => List.mem_of_getElem? (i := 340) (by decide +kernel)
  | 2, _ => List.mem_of_getElem? (i := 341) (by decide +kernel)
  | 3, _ => List.mem_of_getElem? (i := 342) (by decide +kernel)
  | 4, _ => List.mem_of_getElem? (i := 343) (by decide +kernel)
  | 5, _ => List.mem_of_getElem? (i := 344) (by decide +kernel)
  | 6, _ => List.mem_of_getElem? (i := 345) (by decide +kernel)
  | 7, _ => List.mem_of_getElem? (i := 346) (by decide +kernel)
  | 8, _ => List.mem_of_getElem? (i := 347) (by decide +kernel)
  | 9, _ => List.mem_of_getElem? (i := 348) (by decide +kernel)
  | 10, _ => List.mem_of_getElem? (i := 349) (by decide +kernel)
  | 11, _ => List.mem_of_getElem? (i := 350) (by decide +kernel)
  | 12, _ => List.mem_of_getElem? (i := 351) (by decide +kernel)
  | 13, _ => List.mem_of_getElem? (i := 352) (by decide +kernel)
  | i + 14, hi => absurd hi (by omega)
theorem lw_aQ : Cond.arrayOver (.object "DyeLamps$Vat") ∈ lw_tbl := List.mem_of_getElem? (i := 627) (by decide +kernel)
theorem lw_aM : Cond.arrayOver (.array .int) ∈ lw_tbl := List.mem_of_getElem? (i := 164) (by decide +kernel)
theorem Str_start {b : Nat} {s : State} (hts : ∀ w ∈ lw_tbl, w.before #[Value.ref b] s = true) (hgv : (Jvm.Cond.and given_1 narrow_1).before #[Value.ref b] s = true) : ∃ q, Str q s.heap.size s := by
  have hs := flat_of_before _ hgv
  have hA : ∀ a : Nat, a < s.heap.size → ¬ AB s.heap.size a := fun a h => Nat.not_le.mpr h
  obtain ⟨adK, adV, h1, h2⟩ := vk_Sof (args := #[Value.ref b]) (s := s) (N := 14) (tm := tmS) (len := lenS) (byt := bytS) (A := AB s.heap.size) (fun i hi => by have := (lenS_small i hi).1; omega) (fun i hi => hs _ (nw_ex i hi)) (fun i hi => hs _ (nw_co i hi)) (fun i hi => hs _ (nw_ar i hi)) (fun i hi => hs _ (nw_le i hi)) (fun i hi j hj => hs _ (nw_el i hi j hj)) (fun i j hi hj hij => (nw_ne i hi j hj hij).imp (hs _) (hs _)) hA
  refine ⟨(adK, adV), h1, fun i hi => vk_R.of (hts _ (lw_sr i hi)) (h2 i hi), va_Zof (hts _ lw_st) (hts _ (lw_g_tbl lw_i1)) (va_eqi (hs _ nw_cs)) hA, va_Zqof (hts _ lw_sf) (hts _ (lw_g_tbl lw_i2)) (hs _ nw_fm) hA, va_AO.of (hts _ lw_aQ), hts _ lw_aM⟩
theorem Str_narrow {q : (Nat → Nat) × (Nat → Nat)} {B B' : Nat} {U : State} (h : Str q B U) (hB : B ≤ B') : Str q B' U := by
  obtain ⟨h1, h2, h3, h4, h5, h6⟩ := h
  have hAB : ∀ x, AB B' x → AB B x := fun x hx => Nat.le_trans hB hx
  exact ⟨h1.narrow hAB, h2, h3.narrow hAB, h4.narrow hAB, h5, h6⟩
theorem va_K_start {b : Nat} {s : State} (hts : ∀ w ∈ lw_tbl, w.before #[Value.ref b] s = true) : ∃ (D : va_G) (cy : Nat → ClassId), va_K D vwCl (tysOf cy) s := by
  have hg : ∀ w ∈ lw_g, w.before #[Value.ref b] s = true := fun w hw => hts w (lw_g_tbl hw)
  obtain ⟨c0, s0, k0⟩ := u_known (C := RX0) (T := TX0) (N := 14) (n := 14) hg layX0 (hg _ inX0)
  obtain ⟨c1, s1, k1⟩ := u_known (C := RX1) (T := TX1) (N := 13) (n := 13) hg layX1 (hg _ inX1)
  obtain ⟨c2, s2, k2⟩ := u_known (C := RX2) (T := TX2) (N := 5) (n := 5) hg layX2 (hg _ inX2)
  obtain ⟨c3, s3, k3⟩ := u_known (C := RX3) (T := TX3) (N := 9) (n := 9) hg layX3 (hg _ inX3)
  obtain ⟨c4, s4, k4⟩ := u_known (C := RX4) (T := TX4) (N := 18) (n := 18) hg layX4 (hg _ inX4)
  obtain ⟨c5, s5, k5⟩ := u_known (C := RX5) (T := TX5) (N := 4) (n := 4) hg layX5 (hg _ inX5)
  obtain ⟨c6, s6, k6⟩ := u_known (C := RX6) (T := TX6) (N := 2) (n := 2) hg layX6 (hg _ inX6)
  obtain ⟨c7, s7, k7⟩ := u_known (C := RX7) (T := TX7) (N := 6) (n := 6) hg layX7 (hg _ inX7)
  obtain ⟨c8, s8, k8⟩ := u_known (C := RX8) (T := TX8) (N := 5) (n := 5) hg layX8 (hg _ inX8)
  obtain ⟨c9, s9, k9⟩ := u_known (C := RX9) (T := TX9) (N := 10) (n := 10) hg layX9 (hg _ inX9)
  obtain ⟨c10, s10, k10⟩ := u_known (C := RX10) (T := TX10) (N := 13) (n := 13) hg layX10 (hg _ inX10)
  obtain ⟨c11, s11, k11⟩ := u_known (C := RX11) (T := TX11) (N := 87) (n := 87) hg layX11 (hg _ inX11)
  obtain ⟨cB, kB, pB, b1, b2, b3⟩ := Cond.arrayClass_spec (hg _ arr12)
  obtain ⟨cI, kI, pI, i1, i2, i3⟩ := Cond.arrayClass_spec (hg _ arr13)
  obtain ⟨cJ, kJ, pJ, j1, j2, j3⟩ := Cond.arrayClass_spec (hg _ arr14)
  obtain ⟨cZ, kZ, pZ, z1, z2, z3⟩ := Cond.arrayClass_spec (hg _ arr15)
  obtain ⟨pV, cV, kV, v1, v2, v3, v4, v5⟩ := Cond.arrayOver_spec (hts _ lw_aQ)
  obtain ⟨pM, cM, kM, m1, m2, m3, m4⟩ := Cond.arrayOver_specA (hts _ lw_aM)
  refine ⟨(fun k => [c0, c1, c2, c3, c4, c5, c6, c7, c8, c9, c10, c11].getD k 0, fun k => [s0, s1, s2, s3, s4, s5, s6, s7, s8, s9, s10, s11].getD k (fun _ => 0)), fun k => if k = 12 then cB else if k = 13 then cI else if k = 14 then cJ else if k = 15 then cZ else if k = 16 then cV else cM, ?_, ?_⟩
  · intro k q hq
    match k, hq with
    | 0, hq => cases hq; exact k0
    | 1, hq => cases hq; exact k1
    | 2, hq => cases hq; exact k2
    | 3, hq => cases hq; exact k3
    | 4, hq => cases hq; exact k4
    | 5, hq => cases hq; exact k5
    | 6, hq => cases hq; exact k6
    | 7, hq => cases hq; exact k7
    | 8, hq => cases hq; exact k8
    | 9, hq => cases hq; exact k9
    | 10, hq => cases hq; exact k10
    | 11, hq => cases hq; exact k11
    | k + 12, hq => simp [vwCl] at hq
  · intro k q hq
    match k, hq with
    | 0, hq => cases hq; exact ⟨fun n z => ⟨fun _ h => (by cases h), kB, b2, pB, b3⟩, b1⟩
    | 1, hq => cases hq; exact ⟨fun n z => ⟨fun _ h => (by cases h), kI, i2, pI, i3⟩, i1⟩
    | 2, hq => cases hq; exact ⟨fun n z => ⟨fun _ h => (by cases h), kJ, j2, pJ, j3⟩, j1⟩
    | 3, hq => cases hq; exact ⟨fun n z => ⟨fun _ h => (by cases h), kZ, z2, pZ, z3⟩, z1⟩
    | 4, hq => cases hq; exact ⟨fun n z => ⟨fun _ h => (by cases h), kV, v3, pV, v4⟩, kV, pV, v3, v4, v1, v5⟩
    | 5, hq => cases hq; exact ⟨fun n z => ⟨fun _ h => (by cases h), kM, m2, pM, m3⟩, m4⟩
    | k + 6, hq => simp [tysOf] at hq
section
variable {G : Gx} {b L : Nat} {xs : Nat → Int32} {cn sn : Nat} {Q : State → Prop} {pc : Nat} {lv : List (Nat × Value)} {st : List Value} {H : Heap} {locs : List Loc} {ls : Array Slot}
/-- the law makes an object: the first cell of its side -/
theorem law_new (C : CL G b L xs) {idx ci B' : Nat} {q : vw_C} {ty0 : Nat → FieldType} {sd : Sd} (h0 : sd.1 = 0) (hq : vwCl[ci]? = some q) (hci : ci < 12) (hns : nsl ci = q.2.2) (hlay : ∀ w ∈ u_ws q.1 q.2.1 q.2.2, w ∈ lw_g) (hty : ∀ k, k < q.2.2 → parseFieldDescriptor (q.2.1 k).2.2.1 = some (ty0 k)) (hdf : ∀ j, j < q.2.2 → defaultValue (ty0 j) = (if tg ci j = 0 then .int 0 else if tg ci j = 1 then .long 0 else .null)) (hcl : Cond.classLink RL idx q.1 ∈ lw_g) (hinst : Cond.instantiable q.1 q.2.2 ∈ lw_g) (hini : Cond.initialized q.1 ∈ lw_g) (hkd : sd.2.1 0 = ci) (hsz : H.size = B') (hcells : cn + 1 ≤ 600000) (hslots : sn + q.2.2 ≤ 7302250) (hd : decode cL_law pc = .ok (.new idx, 3))
    (k : ∀ H1 : Heap, H1.size = B' + 1 → va_P (gD G) vwCl (cells (sdO sd) (gY G) (adB B') (aO S0 0)) H1 → (∀ x : Nat, x < B' → H1[x]? = H[x]?) → W (gP G) (gL G) (gE G) room_1 (gS G) (gM G) (gV G) (gB G) (gT G) (gC G) H1 locs (cn + 1) (sn + q.2.2) Q (F0 (gM G) (pc + 3) ls (.ref (adB B' 0) :: st))) : W (gP G) (gL G) (gE G) room_1 (gS G) (gM G) (gV G) (gB G) (gT G) (gC G) H locs cn sn Q (F0 (gM G) pc ls st) := by
  have hKn := C.2.2.2.2.2.1.1 ci q hq
  refine W.newcK C.1 C.2.1 C.2.2.2.1 (C.2.2.2.2.1 _ hcl) (C.2.2.2.2.1 _ hinst) (C.2.2.2.2.1 _ hini) rfl hd hcells hslots hKn.2.1 hsz (fun H1 kC hkC e1 z1 o1 => ?_)
  refine k H1 z1 (fun j x hx => ?_) o1
  obtain ⟨hj, rfl⟩ := cells_at hx
  have hj : j < sd.1 + 1 := hj
  have ha : j = 0 := by omega
  subst ha
  have e3 := eC_obj (sd := sdO sd) (cy := gY G) (ad := adB B') (S := aO S0 0) (a := 0) hkd hci
  rw [e3]
  refine ⟨_, hq, (u_born ty0 C.2.2.2.2.1 hlay hKn hkC e1 hty).to (fun j hj => ?_)⟩
  rw [hdf j hj]
  show _ = (List.map _ _).getD j Value.null
  rw [List.getD_eq_getElem?_getD, List.getElem?_map, List.getElem?_range (by rw [hns]; exact hj)]
  show _ = fv (adB B') (sdO sd).2.2.2 ci (aO S0 0) 0 j
  unfold fv
  have a1 : (aO S0 0).1 0 j = 0 := rfl
  have a2 : (aO S0 0).2.1 0 j = 0 := rfl
  have a3 : (aO S0 0).2.2 0 j = 999999 := rfl
  have a4 : (sdO sd).2.2.2 0 j = 999999 := by simp only [sdO, h0, up_same]
  rw [a1, a2, a3, a4]
  simp
theorem law_init (C : CL G b L xs) {qs : (Nat → Nat) × (Nat → Nat)} {B' : Nat} {sd sd' : Sd} {S S' : St} {y : MethodName} {cc' : ByteArray} {nL' fr lo mc ms idx : Nat} (hZ : Str qs B' (gS G)) (hB : (gS G).heap.size ≤ B') (hsz : H.size = B' + sd.1) (h1 : sd.1 ≤ 999999) (hP : va_P (gD G) vwCl (cells sd (gY G) (adB B') S) H) (hS : va_S (AB (gS G).heap.size) (gS G).heap H locs) (hl : lv_has ls 4 lv) (hct : CtN (gL G) (gY G) B' (gD G) qs y cc' nL' fr lo mc ms [.ref (B' + 0)] sd S sd' S') (hm : Mok y cc' nL' none 0) (hi : Cond.instanceMethod y ∈ lw_g) (hy : y.name = "<init>") (hlk : Cond.methodLink RL idx y ∈ lw_g) (hcat : (st.map fun v => v.category).sum ≤ 8) (hR : fr + 1 ≤ 11 ∧ 8 + (nL' + 11) + lo ≤ 384) (hc : cn + mc ≤ 600000 ∧ sn + ms ≤ 7302250) (hd : decode cL_law pc = .ok (.invokespecial idx, 3))
    (kk : ∀ (H1 : Heap) (locs1 : List Loc), va_P (gD G) vwCl (cells sd' (gY G) (adB B') S') H1 → (∀ x : Nat, x < H.size → ¬ B' ≤ x → H1[x]? = H[x]?) → va_S (AB (gS G).heap.size) (gS G).heap H1 locs1 → W (gP G) (gL G) (gE G) room_1 (gS G) (gM G) (gV G) (gB G) (gT G) (gC G) H1 locs1 (cn + mc) (sn + ms) Q (F0 (gM G) (pc + 3) ls st)) : W (gP G) (gL G) (gE G) room_1 (gS G) (gM G) (gV G) (gB G) (gT G) (gC G) H locs cn sn Q (F0 (gM G) pc ls (.ref (adB B' 0) :: st)) := by
  have hS' : va_S (AB B') (gS G).heap H [] := ⟨hS.1, fun x h1 h2 => hS.2.1 x h1 (fun z => absurd (show (gS G).heap.size ≤ x from z) (by omega)), fun x hx => absurd hx List.not_mem_nil⟩
  exact run_goL (PO := fun t => va_P (gD G) vwCl (cells sd' (gY G) (adB B') S') t.heap) (va_runI (As := []) (rest := st) ⟨C.1, C.2.1, C.2.2.1, C.2.2.2.1, C.2.2.2.2.1⟩ hct ⟨callB_n C.2.2.2.2.1 hm hlk hR, hy, C.2.2.2.2.1 _ hi⟩ ⟨PreN_blind, fun U hU hW => ⟨rfl, by rw [hU]; exact hsz, h1, by rw [hU]; exact hP, va_K.moved hW.alike C.2.2.2.2.2.1, Str_to hZ hS' hU hW⟩⟩ rfl rfl hl.1 rfl (lv_room (m := gM G) (pc := pc) (ls := ls) (rest := .ref (adB B' 0) :: st) hcat) hd hc) (fun q h => Nat.le_trans hB h) hS (fun H1 locs1 t ht hP1 hk hS1 => kk H1 locs1 (by rw [← ht]; exact hP1) hk hS1)
end
set_option maxRecDepth 100000 in
set_option maxHeartbeats 4000000 in
theorem whole_open {Rel : St → St → Prop} (ok : StepOK 1000000 Rel) (hr0 : Rel SXF SMF) {p : Program} {e : Env} {s : State} {m : MethodId} {below : List Frame} {meth : Method} {c : Code} (l : Launch) {b L : Nat} {xs : Nat → Int32} (hL : L ≤ 384) (C0 : lw_At p s m meth c b L xs) : W p l e room_1 s m #[Value.ref b] below meth c s.heap [] 0 0 (lw_Z below #[Value.ref b] s) (entryFrame m ([Value.ref b] : List Value).toArray 4) := by
  obtain ⟨hx, hb, hr, hml, hown, hts, hX, hbl, hlocks, hgv⟩ := C0
  obtain ⟨D, cy, hK⟩ := va_K_start hts
  obtain ⟨qs, hZ⟩ := Str_start hts hgv
  have hl := lv_entry ([.ref b]) (n := 4) (Nat.le_of_ble_eq_true rfl)
  rw [lg_entry_eq]
  generalize (lg_sl ([.ref b]) ++ List.replicate (4 - (lg_sl ([.ref b])).length) Slot.unset).toArray = ls at hl ⊢
  have hl : lv_has ls 4 [(0, .ref b)] := hl
  have C : CL (p, l, e, s, m, #[Value.ref b], below, meth, c, cy, adB s.heap.size, D) b L xs := ⟨hx, hb, hml, hown, fun w hw => hts w (lw_g_tbl hw), hK, hlocks, hr, hX, hbl⟩
  have hS0 : va_S (AB s.heap.size) s.heap s.heap [] := va_S.rf
  refine law_new (pc := 0) (q := (RX10, TX10, 13)) (ty0 := tyX10) (sd := sd0X) (ci := 10) C rfl rfl (by decide) rfl layX10 tyX10_ok dfX10 clL_7 inX10 iniX10 rfl rfl (Nat.le_of_ble_eq_true rfl) (Nat.le_of_ble_eq_true rfl) dL_law_0 (fun H1 z1 hP1 o1 => ?_)
  have hS1 : va_S (AB s.heap.size) s.heap H1 [] := ⟨by rw [z1]; exact Nat.le_succ _, fun x h1 _ => o1 x h1, fun x hx => absurd hx List.not_mem_nil⟩
  refine lv_dup (pc := 3) C.1 C.2.1 dL_law_3 rfl ?_
  refine law_init (lv := [(0, .ref b)]) (sd := sdO sd0X) (S := aO S0 0) (pc := 4) C hZ (Nat.le_refl _) z1 (by decide) hP1 hS1 hl (CnX10_init iniX_eq) mX10_init iX10_init rfl kL_9 (Nat.le_of_ble_eq_true rfl) ⟨Nat.le_of_ble_eq_true rfl, Nat.le_of_ble_eq_true rfl⟩ ⟨Nat.le_of_ble_eq_true rfl, Nat.le_of_ble_eq_true rfl⟩ dL_law_4 (fun H2 locs2 hP2 _ hS2 => ?_)
  refine lv_astore_n (lv' := [(1, .ref (adB s.heap.size 0)), (0, .ref b)]) (pc := 7) C.1 C.2.1 dL_law_7 rfl hl (by decide) rfl (fun ls hl => ?_)
  have hPX : va_P D vwCl (cells sdX cy (adB s.heap.size) SXF) H2 := conv_P sdXF_1 sdXF_ok sdX_lim hP2
  -- the heap's size
  intro T2 hT2 X2
  have hsz2 : H2.size = s.heap.size + 272 := by
    have u1 : T2.heap.size ≤ s.heap.size + (0 + 1 + 271) := X2.same.2.2.1
    have u2 : s.heap.size + 271 < H2.size := (hPX 271 _ (cells_get (by decide))).lt
    rw [hT2] at u1
    omega
  revert T2 hT2 X2
  show W _ _ _ _ _ _ _ _ _ _ _ _ _ _ _ _
  refine law_new (pc := 8) (q := (RX11, TX11, 87)) (ty0 := tyX11) (sd := sd0M) (ci := 11) C rfl rfl (by decide) rfl layX11 tyX11_ok dfX11 clL_10 inX11 iniX11 rfl hsz2 (Nat.le_of_ble_eq_true rfl) (Nat.le_of_ble_eq_true rfl) dL_law_8 (fun H3 z3 hP3 o3 => ?_)
  have hS3 : va_S (AB s.heap.size) s.heap H3 locs2 := ⟨by rw [z3]; show s.heap.size ≤ _; omega, fun x h1 h2 => (o3 x (by omega)).trans (hS2.2.1 x h1 h2), hS2.2.2⟩
  have hPX3 : va_P D vwCl (cells sdX cy (adB s.heap.size) SXF) H3 := hPX.kept (fun k x hx => o3 _ (by have := (hPX k x hx).lt; omega))
  refine lv_dup (pc := 11) C.1 C.2.1 dL_law_11 rfl ?_
  refine law_init (lv := [(1, .ref (adB s.heap.size 0)), (0, .ref b)]) (sd := sdO sd0M) (S := aO S0 0) (pc := 12) C (Str_narrow hZ (Nat.le_add_right _ 272)) (Nat.le_add_right _ 272) z3 (by decide) hP3 hS3 hl (CnX11_init iniM_eq) mX11_init iX11_init rfl kL_12 (Nat.le_of_ble_eq_true rfl) ⟨Nat.le_of_ble_eq_true rfl, Nat.le_of_ble_eq_true rfl⟩ ⟨Nat.le_of_ble_eq_true rfl, Nat.le_of_ble_eq_true rfl⟩ dL_law_12 (fun H4 locs4 hP4 o4 hS4 => ?_)
  have hPM : va_P D vwCl (cells sdM cy (adB (s.heap.size + 272)) SMF) H4 := conv_P sdMF_1 sdMF_ok sdM_lim hP4
  have hPX4 : va_P D vwCl (cells sdX cy (adB s.heap.size) SXF) H4 := hPX3.kept (fun k x hx => by
    refine o4 _ ((hPX3 k x hx).lt) (fun q => ?_)
    obtain ⟨hk, rfl⟩ := cells_at hx
    have hk : k < 272 := hk
    have q : s.heap.size + 272 ≤ s.heap.size + k := q
    omega)
  refine lv_astore_n (lv' := [(2, .ref (adB (s.heap.size + 272) 0)), (1, .ref (adB s.heap.size 0)), (0, .ref b)]) (pc := 15) C.1 C.2.1 dL_law_15 rfl hl (by decide) rfl (fun ls hl => ?_)
  refine lv_iconst (v := 0) (pc := 16) C.1 C.2.1 dL_law_16 (by decide) ?_
  refine lv_istore_n (lv' := [(3, .int 0), (2, .ref (adB (s.heap.size + 272) 0)), (1, .ref (adB s.heap.size 0)), (0, .ref b)]) (pc := 17) C.1 C.2.1 dL_law_17 rfl hl (by decide) rfl (fun ls hl => ?_)
  refine wl_loop (BX := s.heap.size) (BM := s.heap.size + 272) C hL (Nat.le_refl _) (Nat.le_refl _) (Nat.le_of_ble_eq_true rfl) (Nat.le_of_ble_eq_true rfl) ok (fun Sx Sm lv H locs ls hX hM hS hl => ?_) 66 0 (by omega) (by decide) SXF SMF hr0 H4 locs4 ls hPX4 hPM hS4 hl
  refine va_forget (fun q hq => hS.2.2 q hq) ?_
  refine W.widen (k := 600000) (n := 7302250) (Nat.le_of_ble_eq_true rfl) (Nat.le_of_ble_eq_true rfl) ?_
  exact lw_ret C.1 C.2.1 C.2.2.2.2.2.2.2.1 C.2.2.2.2.2.2.1 dL_law_1440
