
section
variable {p : Program} {l : Launch} {e : Env} {R : Room} {s : State} {m : MethodId} {args : Array Value} {below : List Frame} {meth : Method} {c : Code} {H : Heap} {locs : List Loc} {ls : Array Slot} {pc cn sn mc ms : Nat} {st0 rest : List Value} {Q : State → Prop} {A A1 : Nat → Prop} {v : Option Value} {a : Array Value} {PO : State → State → Prop}
/-- behind a call: what the callee says of its end, the frame -/
theorem run_goG (hr : va_Run p l e R s m args below meth c H locs cn sn mc ms (F0 m pc ls st0) rest (fun st oc t => oc = .returned v ∧ PO st t ∧ va_F A1 st t) A1) (hA : ∀ q, A1 q → A q) (hS : va_S A s.heap H locs)
    (kk : ∀ (H1 : Heap) (locs1 : List Loc) (st t : State), st.heap = H → t.heap = H1 → PO st t → va_S A s.heap H1 locs1 → W p l e R s m args below meth c H1 locs1 (cn + mc) (sn + ms) Q (F0 m (pc + 3) ls (v.toList ++ rest))) : W p l e R s m args below meth c H locs cn sn Q (F0 m pc ls st0) := by
  intro T hT X
  obtain ⟨w, st₀, t, T', L, h0, X', hL, e1, e2, ⟨hv, hP, hz, hk⟩, st⟩ := hr T hT X
  cases hv
  rw [h0] at hz hk
  obtain ⟨t2, a1, b1⟩ := kk T'.heap (locs ++ L) st₀ t h0 e1.symm hP
    ⟨Nat.le_trans hS.1 (by rw [e1]; exact hz), fun q h1 h2 => by rw [e1, hk q (Nat.lt_of_lt_of_le h1 hS.1) (fun z => h2 (hA q z))]; exact hS.2.1 q h1 h2, fun q hq => by
      rcases List.mem_append.mp hq with h | h
      · exact hS.2.2 q h
      · exact hA _ (hL q h)⟩ T' rfl X'
  exact ⟨t2, st t2 a1, b1⟩
theorem callB_n {own : String} {index : Nat} {y : MethodName} {bytes : ByteArray} {maxL n fr lo : Nat} {ret : Option FieldType} (hts : ∀ w ∈ lw_g, w.before args s = true) (hm : Mok y bytes maxL ret n) (hlk : Cond.methodLink own index y ∈ lw_g) (hR : fr + 1 ≤ R.frames ∧ 8 + (maxL + 11) + lo ≤ R.locals) : CallB R s args own index y bytes maxL ret (Cond.code y bytes maxL ret :: lw_g) (rmN fr lo mc ms) mc ms n := by
  obtain ⟨h1, h2, h3, h4, h5⟩ := hm
  refine ⟨rfl, rfl, hR.1, hR.2, ?_, List.mem_cons_self, hts _ h1, hts _ h2, h3, ?_, hts _ hlk⟩
  · intro w hw a' U hW
    have hg : w ∈ lw_g := by
      rcases List.mem_cons.mp hw with rfl | h
      · exact h1
      · exact h
    exact word_at hW (lw_g_good hg) (hts _ hg)
  · intro sig hs
    rw [hs] at h5
    exact (Option.some.inj h5).symm
end
theorem PreN_blind {sd : Sd} {cy : Nat → ClassId} {B : Nat} {D : va_G} {q : (Nat → Nat) × (Nat → Nat)} {S : St} {av : List Value} : FrameBlind (va_Pc av (PreN sd cy B D q S)) := fun a U g mk h => by
  obtain ⟨q0, q1, q2, q3, q4, q5⟩ := h
  exact ⟨q0, q1, q2, q3, va_K.moved (u := U) (U := U.calling g mk a) (Vm.Alike.refl U.vm) q4, Str_blind q5⟩
section
variable {G : Gx} {sd sd1 : Sd} {B N0 cn sn : Nat} {qs : (Nat → Nat) × (Nat → Nat)} {R : Room} {cc : ByteArray} {nL : Nat} {own : String} {ret : Option FieldType} {Q : State → Prop} {S S1 : St} {pc : Nat} {lv lv' : List (Nat × Value)} {st : List Value}
theorem wn_objInit (C : Cn G B N0 qs cc nL own ret) {idx a : Nat} (hlk : Cond.methodLink own idx Lib.objectInit ∈ lw_g) (hinst : Cond.instanceMethod Lib.objectInit ∈ lw_g) (hcode : Cond.code Lib.objectInit ⟨#[0xb1]⟩ 1 none ∈ lw_g) (hfr : 1 ≤ R.frames) (hlo : (st.map fun v => v.category).sum + 12 ≤ R.locals) (hd : decode cc pc = .ok (.invokespecial idx, 3)) (k : Wn G sd B R nL Q cn sn S (pc + 3) lv st) : Wn G sd B R nL Q cn sn S pc lv (.ref a :: st) := fun H locs ls hP hS hl =>
  W.objInit C.1 C.2.1 C.2.2.2.1 (C.2.2.2.2.1 _ hlk) (C.2.2.2.2.1 _ hinst) (C.2.2.2.2.1 _ hcode) rfl (by rw [C.2.2.1]; exact hl.1) rfl hd hfr (by show 2 * (F0 (gM G) pc ls (.ref a :: st)).monitorRoom + _ + 12 ≤ _; have : (F0 (gM G) pc ls (.ref a :: st)).monitorRoom = 0 := rfl; omega) (k H locs ls hP hS hl)
theorem wn_callI (C : Cn G B N0 qs cc nL own ret) {y : MethodName} {cc' : ByteArray} {nL' n fr lo mc ms idx b : Nat} {As st0 : List Value} {sd' : Sd} {S' : St} (hN : sd.1 = N0 + cn) (hb9 : sd.1 ≤ 999999) (hct : CtN (gL G) (gY G) B (gD G) qs y cc' nL' fr lo mc ms (.ref (B + b) :: As) sd S sd' S') (hm : Mok y cc' nL' none n) (hi : Cond.instanceMethod y ∈ lw_g) (hy : y.name = "<init>") (hlk : Cond.methodLink own idx y ∈ lw_g) (hn : As.length = n) (hst : st0 = As.reverse ++ .ref (B + b) :: st) (hcat : (st.map fun v => v.category).sum ≤ 8) (hR : fr + 1 ≤ R.frames ∧ 8 + (nL' + 11) + lo ≤ R.locals) (hc : cn + mc ≤ R.cells ∧ sn + ms ≤ R.slots) (hd : decode cc pc = .ok (.invokespecial idx, 3)) (kk : Wn G sd' B R nL Q (cn + mc) (sn + ms) S' (pc + 3) lv st) : Wn G sd B R nL Q cn sn S pc lv st0 := fun H locs ls hP hS hl => by
  refine wn_size C hN hP hS (fun hsz => ?_)
  exact run_goG (PO := fun _ t => va_P (gD G) vwCl (cells sd' (gY G) (adB B) S') t.heap) (va_runI (As := As) (rest := st) ⟨C.1, C.2.1, C.2.2.1, C.2.2.2.1, C.2.2.2.2.1⟩ hct ⟨callB_n C.2.2.2.2.1 hm hlk hR, hy, C.2.2.2.2.1 _ hi⟩ ⟨PreN_blind, fun U hU hW => ⟨rfl, by rw [hU]; exact hsz, hb9, by rw [hU]; exact hP, va_K.moved hW.alike C.2.2.2.2.2.1, Str_to C.2.2.2.2.2.2.2.2.2.1 hS hU hW⟩⟩ rfl hn hl.1 hst (lv_room (m := gM G) (pc := pc) (ls := ls) (rest := st0) hcat) hd hc) (fun _ h => h) hS (fun H1 locs1 _ t _ ht hP1 hS1 => kk H1 locs1 ls (by rw [← ht]; exact hP1) hS1 hl)
theorem wn_callV (C : Cn G B N0 qs cc nL own ret) {y : MethodName} {cc' : ByteArray} {nL' n fr lo idx b ci : Nat} {As st0 : List Value} {S' : St} {q : vw_C} (hb9 : sd.1 ≤ 999999) (hct : Ct (gL G) sd (gY G) (adB B) (gD G) y cc' nL' none fr lo (.ref (B + b) :: As) S none S') (hm : Mok y cc' nL' none n) (hi : Iok y) (hlk : Cond.methodLink own idx y ∈ lw_g) (ha : b < sd.1) (hkd : sd.2.1 b = ci) (hci : ci < 12) (hq : vwCl[ci]? = some q) (hqc : q.1 = y.cls) (hn : As.length = n) (hst : st0 = As.reverse ++ .ref (B + b) :: st) (hcat : (st.map fun v => v.category).sum ≤ 8) (hR : fr + 1 ≤ R.frames ∧ 8 + (nL' + 11) + lo ≤ R.locals) (hc : cn ≤ R.cells ∧ sn ≤ R.slots) (hd : decode cc pc = .ok (.invokevirtual idx, 3)) (kk : Wn G sd B R nL Q cn sn S' (pc + 3) lv st) : Wn G sd B R nL Q cn sn S pc lv st0 := fun H locs ls hP hS hl => by
  have hrv := va_recv C.2.2.2.2.2.1 hP hq ((cells_get ha).trans (by rw [eC_obj hkd hci]))
  rw [hqc] at hrv
  exact run_goG (mc := 0) (ms := 0) (PO := fun _ t => va_P (gD G) vwCl (cells sd (gY G) (adB B) S') t.heap) (va_runV (As := As) (rest := st) ⟨C.1, C.2.1, C.2.2.1, C.2.2.2.1, C.2.2.2.2.1⟩ hct ⟨callB_g C.2.2.2.2.1 hm hlk hR, C.2.2.2.2.1 _ hi.1, C.2.2.2.2.1 _ hi.2⟩ ⟨Pre_blind, hrv, fun U hU hW => ⟨rfl, inj_B hb9, by rw [hU]; exact hP, va_K.moved hW.alike C.2.2.2.2.2.1⟩⟩ rfl hn hl.1 hst (lv_room (m := gM G) (pc := pc) (ls := ls) (rest := st0) hcat) hd hc) (fun q h => by obtain ⟨i, _, e⟩ := h; rw [e]; exact Nat.le_add_right _ _) hS (fun H1 locs1 _ t _ ht hP1 hS1 => kk H1 locs1 ls (by rw [← ht]; exact hP1) hS1 hl)
theorem wn_last (C : Cn G B N0 qs cc nL own ret) {a : Nat} {i : Int32} {x : Int64} (hb9 : sd.1 ≤ 999999) (ha : a < sd.1) (hkd : sd.2.1 a = 14) (hin : vp_in i (sd.2.2.1 a)) (hd : decode cc pc = .ok (.lastore, 1)) (kk : Wn G sd B R nL Q cn sn (sL S a i.toNatClampNeg x) (pc + 1) lv st) : Wn G sd B R nL Q cn sn S pc lv (.long x :: .int i :: .ref (B + a) :: st) := fun H locs ls hP hS hl => by
  have hA : ∀ (k : Nat) (q : Nat × va_E), (cells sd (gY G) (adB B) S)[k]? = some q → Aof sd (adB B) q.1 → AB B q.1 := fun _ _ _ h => by obtain ⟨i, _, e⟩ := h; rw [e]; exact Nat.le_add_right _ _
  refine va_last C.1 C.2.1 C.2.2.2.2.2.1 hP ((cells_D (inj_B hb9)).weaken hA) hS a 2 ((cells_get ha).trans (by rw [eC_long hkd])) rfl hin hd (fun H1 locs1 hP1 _ hS1 => ?_)
  have e1 := set_aL (cy := gY G) (ad := adB B) (S := S) (f := vp_updL (S.2.1 a) i.toNatClampNeg x) ha hkd
  exact kk H1 locs1 ls (e1 ▸ hP1) hS1 hl
theorem wn_aast (C : Cn G B N0 qs cc nL own ret) {a v : Nat} {i : Int32} (hb9 : sd.1 ≤ 999999) (ha : a < sd.1) (hkd : sd.2.1 a = 16) (hv : v < sd.1) (hkv : sd.2.1 v = 8) (hin : vp_in i (sd.2.2.1 a)) (hd : decode cc pc = .ok (.aastore, 1)) (kk : Wn G (sdP sd a i.toNatClampNeg v) B R nL Q cn sn S (pc + 1) lv st) : Wn G sd B R nL Q cn sn S pc lv (.ref (B + v) :: .int i :: .ref (B + a) :: st) := fun H locs ls hP hS hl => by
  have hA : ∀ (k : Nat) (q : Nat × va_E), (cells sd (gY G) (adB B) S)[k]? = some q → Aof sd (adB B) q.1 → AB B q.1 := fun _ _ _ h => by obtain ⟨i, _, e⟩ := h; rw [e]; exact Nat.le_add_right _ _
  refine va_astq (r := (RX8, TX8, 5)) C.1 C.2.1 C.2.2.2.2.2.1 hP ((cells_D (inj_B hb9)).weaken hA) hS a 4 v 8 ((cells_get ha).trans (by rw [eC_ref hkd (by decide)])) rfl ((cells_get hv).trans (by rw [eC_obj hkv (by decide)])) rfl hin hd (fun H1 locs1 hP1 _ hS1 => ?_)
  have hv9 : v ≠ 999999 := by omega
  have e1 : (cells sd (gY G) (adB B) S).set a (adB B a, .inl (gY G 16, sd.2.2.1 a, .inr (.inr (.inr (.inr (va_up (fun j => if sd.2.2.2 a j = 999999 then none else some (adB B (sd.2.2.2 a j))) i.toNatClampNeg (some (B + v)))))))) = cells (sdP sd a i.toNatClampNeg v) (gY G) (adB B) S := by
    refine cells_set2 rfl ha ?_ (fun b hb => eC_sr rfl rfl (up_other _ _ hb))
    rw [eC_ref (sd := sdP sd a i.toNatClampNeg v) hkd (by decide)]
    have e2 : (fun j => if (sdP sd a i.toNatClampNeg v).2.2.2 a j = 999999 then none else some (adB B ((sdP sd a i.toNatClampNeg v).2.2.2 a j))) = va_up (fun j => if sd.2.2.2 a j = 999999 then none else some (adB B (sd.2.2.2 a j))) i.toNatClampNeg (some (B + v)) := by
      funext j
      by_cases hj : j = i.toNatClampNeg
      · subst hj
        simp only [sdP, up_same, if_neg hv9]
      · simp only [sdP, up_same, up_other _ _ hj]
    rw [e2]
    rfl
  exact kk H1 locs1 ls (e1 ▸ hP1) hS1 hl
theorem wn_vret (C : Cn G B N0 qs cc nL own ret) {fr lo mc ms : Nat} {S' : St} {sd' : Sd} (hr : ret = none) (h : some (sd, S) = some (sd', S')) (hd : decode cc pc = .ok (.return_, 1)) : Wn G sd B (rmN fr lo mc ms) nL (QmN G B cn sn sd' S') cn sn S pc lv [] := by
  cases h
  exact fun H locs ls hP hS hl => W.vret (Qc := QoN sd (gY G) B (gD G) S) C.1 C.2.1 (C.2.2.2.2.2.2.2.1.trans hr) (fun t ht hW => ⟨rfl, by rw [ht]; exact hP, hS.F ht⟩) hS.2.2 hd C.2.2.2.2.2.2.1
end
theorem CtN_of {l : Launch} {sd sd' : Sd} {cy : Nat → ClassId} {B : Nat} {D : va_G} {q : (Nat → Nat) × (Nat → Nat)} {y : MethodName} {cc : ByteArray} {nL fr lo n mc ms : Nat} {av : List Value} {S S' : St} {own : String} (hm : Mok y cc nL none n) (hown : y.cls = own) (hin : y.name = "<init>") (hlen : (lg_sl av).length ≤ nL)
    (k : ∀ G : Gx, gL G = l → gY G = cy → gD G = D → Cn G B sd.1 q cc nL own none → Wn G sd B (rmN fr lo mc ms) nL (QmN G B mc ms sd' S') 0 0 S 0 (lv_args 0 av) []) : CtN l cy B D q y cc nL fr lo mc ms av sd S sd' S' := by
  refine Met.ofW (cc := cc) (maxL := nL) (ret := none) hm.2.2.2.1 rfl ?_
  intro p e s m args below meth c s₁ Bd hml hv
  obtain ⟨rfl, hsz, hb9, hP, hK, hZ⟩ := hv
  have hts := atoms_spec (ws := Cond.code y cc nL none :: lw_g) Bd.pre
  have hcl : s.vm.findClass own = some m.cls := hown ▸ findClass_of_methodNamed Bd.named
  have hl := lv_entry av (n := nL) hlen
  have hnm : meth.name = "<init>" := (name_of_methodNamed Bd.named Bd.method).1.trans hin
  rw [lg_entry_eq]
  exact k (p, l, e, s, m, av.toArray, below, meth, c, cy, adB B, D) rfl rfl rfl ⟨Bd.exec, Bd.bytes, hml, hcl, fun w hw => hts w (List.mem_cons_of_mem _ hw), hK, Bd.notSynchronized, Bd.returns, hsz, hZ, hnm⟩ s.heap [] _ hP va_S.rf hl
