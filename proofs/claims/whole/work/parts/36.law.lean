
section
variable {p : Program} {l : Launch} {e : Env} {R : Room} {s : State} {m : MethodId} {args : Array Value} {below : List Frame} {meth : Method} {c : Code} {H : Heap} {locs : List Loc} {ls : Array Slot} {pc cn sn mc ms : Nat} {st0 rest : List Value} {Q : State → Prop} {A A1 : Nat → Prop} {v : Option Value} {a : Array Value} {PO : State → Prop}
theorem run_goL (hr : va_Run p l e R s m args below meth c H locs cn sn mc ms (F0 m pc ls st0) rest (fun st oc t => oc = .returned v ∧ PO t ∧ va_F A1 st t) A1) (hA : ∀ q, A1 q → A q) (hS : va_S A s.heap H locs)
    (kk : ∀ (H1 : Heap) (locs1 : List Loc) (t : State), t.heap = H1 → PO t → (∀ q : Nat, q < H.size → ¬ A1 q → H1[q]? = H[q]?) → va_S A s.heap H1 locs1 → W p l e R s m args below meth c H1 locs1 (cn + mc) (sn + ms) Q (F0 m (pc + 3) ls (v.toList ++ rest))) : W p l e R s m args below meth c H locs cn sn Q (F0 m pc ls st0) := by
  intro T hT X
  obtain ⟨w, st₀, t, T', L, h0, X', hL, e1, e2, ⟨hv, hP, hz, hk⟩, st⟩ := hr T hT X
  cases hv
  rw [h0] at hz hk
  obtain ⟨t2, a1, b1⟩ := kk T'.heap (locs ++ L) t e1.symm hP (fun q h1 h2 => by rw [e1]; exact hk q h1 h2)
    ⟨Nat.le_trans hS.1 (by rw [e1]; exact hz), fun q h1 h2 => by rw [e1, hk q (Nat.lt_of_lt_of_le h1 hS.1) (fun z => h2 (hA q z))]; exact hS.2.1 q h1 h2, fun q hq => by
      rcases List.mem_append.mp hq with h | h
      · exact hS.2.2 q h
      · exact hA _ (hL q h)⟩ T' rfl X'
  exact ⟨t2, st t2 a1, b1⟩
end
def CL (G : Gx) (b L : Nat) (xs : Nat → Int32) : Prop :=
  (gP G).tables.exec = Jvm.exec ∧ (gC G).code = cL_law ∧ (gC G).maxLocals = 4 ∧ (gS G).vm.findClass RL = some (gM G).cls ∧ (∀ w ∈ lw_g, w.before (gV G) (gS G) = true) ∧ va_K (gD G) vwCl (tysOf (gY G)) (gS G) ∧ (gT G).locks = false ∧ (gT G).sig.returnType = ret ∧ va_X b L xs (gS G) (gS G).heap ∧ b < (gS G).heap.size
/-- the law's own loop: the machine at this place, both sides standing -/
def Wl (G : Gx) (BX BM cn sn : Nat) (Q : State → Prop) (Sx Sm : St) (pc : Nat) (lv : List (Nat × Value)) (st : List Value) : Prop :=
  ∀ (H : Heap) (locs : List Loc) (ls : Array Slot), va_P (gD G) vwCl (cells sdX (gY G) (adB BX) Sx) H → va_P (gD G) vwCl (cells sdM (gY G) (adB BM) Sm) H → va_S (AB (gS G).heap.size) (gS G).heap H locs → lv_has ls 4 lv → W (gP G) (gL G) (gE G) room_1 (gS G) (gM G) (gV G) (gB G) (gT G) (gC G) H locs cn sn Q (F0 (gM G) pc ls st)
section
variable {G : Gx} {b L : Nat} {xs : Nat → Int32} {BX BM cn sn : Nat} {Q : State → Prop} {Sx Sm : St} {pc : Nat} {lv : List (Nat × Value)} {st : List Value}
theorem wl_aload_n (C : CL G b L xs) {j : Fin 4} {i x : Nat} (q : Nat) (hd : decode cL_law pc = .ok (.aload_n j, 1)) (hi : (j : Nat) = i) (hq : lv[q]? = some (i, .ref x)) (k : Wl G BX BM cn sn Q Sx Sm (pc + 1) lv (.ref x :: st)) : Wl G BX BM cn sn Q Sx Sm pc lv st := fun H locs ls hX hM hS hl => lv_aload_n C.1 C.2.1 hd hi (lv_at hl q hq) (k H locs ls hX hM hS hl)
theorem wl_iload_n (C : CL G b L xs) {j : Fin 4} {i : Nat} {x : Int32} (q : Nat) (hd : decode cL_law pc = .ok (.iload_n j, 1)) (hi : (j : Nat) = i) (hq : lv[q]? = some (i, .int x)) (k : Wl G BX BM cn sn Q Sx Sm (pc + 1) lv (.int x :: st)) : Wl G BX BM cn sn Q Sx Sm pc lv st := fun H locs ls hX hM hS hl => lv_iload_n C.1 C.2.1 hd hi (lv_at hl q hq) (k H locs ls hX hM hS hl)
theorem wl_iconst (C : CL G b L xs) {n : Int} {v : Int32} (hd : decode cL_law pc = .ok (.iconst n, 1)) (hv : Int32.ofInt n = v) (k : Wl G BX BM cn sn Q Sx Sm (pc + 1) lv (.int v :: st)) : Wl G BX BM cn sn Q Sx Sm pc lv st := fun H locs ls hX hM hS hl => lv_iconst C.1 C.2.1 hd hv (k H locs ls hX hM hS hl)
theorem wl_bipush (C : CL G b L xs) {n : Int} {v : Int32} (hd : decode cL_law pc = .ok (.bipush n, 2)) (hv : (Int8.ofInt n).toInt32 = v) (k : Wl G BX BM cn sn Q Sx Sm (pc + 2) lv (.int v :: st)) : Wl G BX BM cn sn Q Sx Sm pc lv st := fun H locs ls hX hM hS hl => lv_bipush C.1 C.2.1 hd hv (k H locs ls hX hM hS hl)
theorem wl_iadd (C : CL G b L xs) {x y : Int32} (hd : decode cL_law pc = .ok (.iadd, 1)) (k : Wl G BX BM cn sn Q Sx Sm (pc + 1) lv (.int (x + y) :: st)) : Wl G BX BM cn sn Q Sx Sm pc lv (.int y :: .int x :: st) := fun H locs ls hX hM hS hl => lv_iadd C.1 C.2.1 hd (k H locs ls hX hM hS hl)
theorem wl_isub (C : CL G b L xs) {x y : Int32} (hd : decode cL_law pc = .ok (.isub, 1)) (k : Wl G BX BM cn sn Q Sx Sm (pc + 1) lv (.int (x - y) :: st)) : Wl G BX BM cn sn Q Sx Sm pc lv (.int y :: .int x :: st) := fun H locs ls hX hM hS hl => lv_isub C.1 C.2.1 hd (k H locs ls hX hM hS hl)
theorem wl_iand (C : CL G b L xs) {x y : Int32} (hd : decode cL_law pc = .ok (.iand, 1)) (k : Wl G BX BM cn sn Q Sx Sm (pc + 1) lv (.int (x &&& y) :: st)) : Wl G BX BM cn sn Q Sx Sm pc lv (.int y :: .int x :: st) := fun H locs ls hX hM hS hl => lv_iand C.1 C.2.1 hd (k H locs ls hX hM hS hl)
theorem wl_lcmp (C : CL G b L xs) {x y : Int64} (hd : decode cL_law pc = .ok (.lcmp, 1)) (k : Wl G BX BM cn sn Q Sx Sm (pc + 1) lv (.int (lg_cmp x y) :: st)) : Wl G BX BM cn sn Q Sx Sm pc lv (.long y :: .long x :: st) := fun H locs ls hX hM hS hl => W.lcmp C.1 C.2.1 hd (k H locs ls hX hM hS hl)
theorem wl_goto (C : CL G b L xs) {off : Int} (tgt : Nat) (hd : decode cL_law pc = .ok (.goto off, 3)) (ht : (pc : Int) + off = (tgt : Int)) (k : Wl G BX BM cn sn Q Sx Sm tgt lv st) : Wl G BX BM cn sn Q Sx Sm pc lv st := fun H locs ls hX hM hS hl => lv_goto C.1 C.2.1 hd ht (k H locs ls hX hM hS hl)
theorem wl_if_eq (C : CL G b L xs) {x : Int32} {off : Int} (tgt : Nat) (hd : decode cL_law pc = .ok (.ifCond .eq off, 3)) (ht : (pc : Int) + off = (tgt : Int)) (kt : x = 0 → Wl G BX BM cn sn Q Sx Sm tgt lv st) (kf : ¬ x = 0 → Wl G BX BM cn sn Q Sx Sm (pc + 3) lv st) : Wl G BX BM cn sn Q Sx Sm pc lv (.int x :: st) := fun H locs ls hX hM hS hl => lv_if_eq C.1 C.2.1 hd ht (fun q => kt q H locs ls hX hM hS hl) (fun q => kf q H locs ls hX hM hS hl)
theorem wl_same (C : CL G b L xs) {x : Int32} {off : Int} (tgt : Nat) (hd : decode cL_law pc = .ok (.if_icmp .eq off, 3)) (ht : (pc : Int) + off = (tgt : Int)) (k : Wl G BX BM cn sn Q Sx Sm tgt lv st) : Wl G BX BM cn sn Q Sx Sm pc lv (.int x :: .int x :: st) := fun H locs ls hX hM hS hl => lv_icmp_eq C.1 C.2.1 hd ht (fun _ => k H locs ls hX hM hS hl) (fun q => absurd rfl q)
theorem wl_sameL (C : CL G b L xs) {x : Int64} {off : Int} (tgt : Nat) (hd : decode cL_law pc = .ok (.ifCond .eq off, 3)) (ht : (pc : Int) + off = (tgt : Int)) (k : Wl G BX BM cn sn Q Sx Sm tgt lv st) : Wl G BX BM cn sn Q Sx Sm pc lv (.int (lg_cmp x x) :: st) := wl_if_eq C tgt hd ht (fun _ => k) (fun q => absurd (by simp [lg_cmp]) q)
theorem wl_icmp_gt (C : CL G b L xs) {x y : Int32} {off : Int} (tgt : Nat) (hd : decode cL_law pc = .ok (.if_icmp .gt off, 3)) (ht : (pc : Int) + off = (tgt : Int)) (kt : y < x → Wl G BX BM cn sn Q Sx Sm tgt lv st) (kf : ¬ y < x → Wl G BX BM cn sn Q Sx Sm (pc + 3) lv st) : Wl G BX BM cn sn Q Sx Sm pc lv (.int y :: .int x :: st) := fun H locs ls hX hM hS hl => lv_icmp_gt C.1 C.2.1 hd ht (fun q => kt q H locs ls hX hM hS hl) (fun q => kf q H locs ls hX hM hS hl)
theorem wl_tableIn (C : CL G b L xs) {dflt lo hi : Int} {offs : Array Int} {len : Nat} {x : Int32} {off : Int} (tgt : Nat) (hd : decode cL_law pc = .ok (.tableswitch dflt lo hi offs, len)) (h1 : ¬ x.toInt < lo) (h2 : ¬ hi < x.toInt) (ho : offs[(x.toInt - lo).toNat]? = some off) (ht : (pc : Int) + off = (tgt : Int)) (k : Wl G BX BM cn sn Q Sx Sm tgt lv st) : Wl G BX BM cn sn Q Sx Sm pc lv (.int x :: st) := fun H locs ls hX hM hS hl => lv_tableIn C.1 C.2.1 hd h1 h2 ho ht (k H locs ls hX hM hS hl)
theorem wl_tableOut (C : CL G b L xs) {dflt lo hi : Int} {offs : Array Int} {len : Nat} {x : Int32} (tgt : Nat) (hd : decode cL_law pc = .ok (.tableswitch dflt lo hi offs, len)) (h : x.toInt < lo ∨ hi < x.toInt) (ht : (pc : Int) + dflt = (tgt : Int)) (k : Wl G BX BM cn sn Q Sx Sm tgt lv st) : Wl G BX BM cn sn Q Sx Sm pc lv (.int x :: st) := fun H locs ls hX hM hS hl => lv_tableOut C.1 C.2.1 hd h ht (k H locs ls hX hM hS hl)
theorem wl_sld (C : CL G b L xs) {i : Int32} (hin : vp_in i L) (hd : decode cL_law pc = .ok (.iaload, 1)) (k : Wl G BX BM cn sn Q Sx Sm (pc + 1) lv (.int (xs i.toNatClampNeg) :: st)) : Wl G BX BM cn sn Q Sx Sm pc lv (.int i :: .ref b :: st) := fun H locs ls hX hM hS hl => va_sld C.1 C.2.1 C.2.2.2.2.2.2.2.2.1 C.2.2.2.2.2.2.2.2.2 (Nat.not_le.mpr C.2.2.2.2.2.2.2.2.2) hS hin hd (k H locs ls hX hM hS hl)
theorem wl_slen (C : CL G b L xs) (hd : decode cL_law pc = .ok (.arraylength, 1)) (k : Wl G BX BM cn sn Q Sx Sm (pc + 1) lv (.int (Int32.ofNat L) :: st)) : Wl G BX BM cn sn Q Sx Sm pc lv (.ref b :: st) := fun H locs ls hX hM hS hl => va_slen C.1 C.2.1 C.2.2.2.2.2.2.2.2.1 C.2.2.2.2.2.2.2.2.2 (Nat.not_le.mpr C.2.2.2.2.2.2.2.2.2) hS hd (k H locs ls hX hM hS hl)
theorem wl_iinc (C : CL G b L xs) {i q : Nat} {n : Int} {x v : Int32} (e : x + Int32.ofInt n = v) (lv' : List (Nat × Value)) (hd : decode cL_law pc = .ok (.iinc i n, 3)) (hq : lv[q]? = some (i, .int x)) (hn : i < 4) (hf : (i, Value.int v) :: lv.filter (fun q => !(q.1 == i) && !(q.1 + 1 == i && q.2.category == 2)) = lv') (k : Wl G BX BM cn sn Q Sx Sm (pc + 3) lv' st) : Wl G BX BM cn sn Q Sx Sm pc lv st := fun H locs ls hX hM hS hl => lv_iinc C.1 C.2.1 hd hl hq e hn hf (fun ls hl => k H locs ls hX hM hS hl)
theorem wl_sub {lv' : List (Nat × Value)} (ks : List Nat) (hk : lv_pick lv ks = lv') (k : Wl G BX BM cn sn Q Sx Sm pc lv' st) : Wl G BX BM cn sn Q Sx Sm pc lv st := fun H locs ls hX hM hS hl => k H locs ls hX hM hS (lv_sub hl ks hk)
theorem wl_callX (C : CL G b L xs) (hB : (gS G).heap.size ≤ BX) (hBM : BX + 272 ≤ BM) (hcn : cn ≤ 600000) (hsn : sn ≤ 7302250) {y : MethodName} {cc' : ByteArray} {nL' n fr lo idx : Nat} {ret' : Option FieldType} {As st0 : List Value} {v : Value} {Sx' : St} (hct : Ct (gL G) sdX (gY G) (adB BX) (gD G) y cc' nL' ret' fr lo (.ref (adB BX 0) :: As) Sx (some v) Sx') (hm : Mok y cc' nL' ret' n) (hi : Iok y) (hlk : Cond.methodLink RL idx y ∈ lw_g) (hqc : RX10 = y.cls) (hn : As.length = n) (hst : st0 = As.reverse ++ .ref (adB BX 0) :: st) (hcat : (st.map fun v => v.category).sum ≤ 8) (hR : fr + 1 ≤ 11 ∧ 8 + (nL' + 11) + lo ≤ 384) (hd : decode cL_law pc = .ok (.invokevirtual idx, 3)) (kk : Wl G BX BM cn sn Q Sx' Sm (pc + 3) lv (v :: st)) : Wl G BX BM cn sn Q Sx Sm pc lv st0 := fun H locs ls hX hM hS hl => by
  have ha : 0 < sdX.1 := by decide
  have hrv := va_recv (q := (RX10, TX10, 13)) C.2.2.2.2.2.1 hX rfl ((cells_get ha).trans (by rw [eC_obj (sd := sdX) (a := 0) (ci := 10) rfl (by decide)]))
  have hrv : ∃ cell : Cell, H[adB BX 0]? = some cell ∧ cell.vm.isStatics = false ∧ (gS G).vm.findClass y.cls = some cell.cls := by rw [← hqc]; exact hrv
  refine run_goL (mc := 0) (ms := 0) (PO := fun t => va_P (gD G) vwCl (cells sdX (gY G) (adB BX) Sx') t.heap) (va_runV (As := As) (rest := st) ⟨C.1, C.2.1, C.2.2.1, C.2.2.2.1, C.2.2.2.2.1⟩ hct ⟨callB_g C.2.2.2.2.1 hm hlk hR, C.2.2.2.2.1 _ hi.1, C.2.2.2.2.1 _ hi.2⟩ ⟨Pre_blind, hrv, fun U hU hW => ⟨rfl, inj_B (by decide), by rw [hU]; exact hX, va_K.moved hW.alike C.2.2.2.2.2.1⟩⟩ rfl hn hl.1 hst (lv_room (m := gM G) (pc := pc) (ls := ls) (rest := st0) hcat) hd ⟨hcn, hsn⟩) (fun q h => by obtain ⟨i, _, e⟩ := h; rw [e]; exact Nat.le_trans hB (Nat.le_add_right _ _)) hS (fun H1 locs1 t ht hP1 hk hS1 => ?_)
  refine kk H1 locs1 ls (by rw [← ht]; exact hP1) (hM.kept (fun k x hx => ?_)) hS1 hl
  refine hk _ ((hM k x hx).lt) (fun hq => ?_)
  obtain ⟨h1, rfl⟩ := cells_at hx
  obtain ⟨i, hi, e⟩ := hq
  have e : BM + k = BX + i := e
  have hi : i < 272 := hi
  omega
theorem wl_callM (C : CL G b L xs) (hB : (gS G).heap.size ≤ BX) (hBM : BX + 272 ≤ BM) (hcn : cn ≤ 600000) (hsn : sn ≤ 7302250) {y : MethodName} {cc' : ByteArray} {nL' n fr lo idx : Nat} {ret' : Option FieldType} {As st0 : List Value} {v : Value} {Sm' : St} (hct : Ct (gL G) sdM (gY G) (adB BM) (gD G) y cc' nL' ret' fr lo (.ref (adB BM 0) :: As) Sm (some v) Sm') (hm : Mok y cc' nL' ret' n) (hi : Iok y) (hlk : Cond.methodLink RL idx y ∈ lw_g) (hqc : RX11 = y.cls) (hn : As.length = n) (hst : st0 = As.reverse ++ .ref (adB BM 0) :: st) (hcat : (st.map fun v => v.category).sum ≤ 8) (hR : fr + 1 ≤ 11 ∧ 8 + (nL' + 11) + lo ≤ 384) (hd : decode cL_law pc = .ok (.invokevirtual idx, 3)) (kk : Wl G BX BM cn sn Q Sx Sm' (pc + 3) lv (v :: st)) : Wl G BX BM cn sn Q Sx Sm pc lv st0 := fun H locs ls hX hM hS hl => by
  have ha : 0 < sdM.1 := by decide
  have hrv := va_recv (q := (RX11, TX11, 87)) C.2.2.2.2.2.1 hM rfl ((cells_get ha).trans (by rw [eC_obj (sd := sdM) (a := 0) (ci := 11) rfl (by decide)]))
  have hrv : ∃ cell : Cell, H[adB BM 0]? = some cell ∧ cell.vm.isStatics = false ∧ (gS G).vm.findClass y.cls = some cell.cls := by rw [← hqc]; exact hrv
  refine run_goL (mc := 0) (ms := 0) (PO := fun t => va_P (gD G) vwCl (cells sdM (gY G) (adB BM) Sm') t.heap) (va_runV (As := As) (rest := st) ⟨C.1, C.2.1, C.2.2.1, C.2.2.2.1, C.2.2.2.2.1⟩ hct ⟨callB_g C.2.2.2.2.1 hm hlk hR, C.2.2.2.2.1 _ hi.1, C.2.2.2.2.1 _ hi.2⟩ ⟨Pre_blind, hrv, fun U hU hW => ⟨rfl, inj_B (by decide), by rw [hU]; exact hM, va_K.moved hW.alike C.2.2.2.2.2.1⟩⟩ rfl hn hl.1 hst (lv_room (m := gM G) (pc := pc) (ls := ls) (rest := st0) hcat) hd ⟨hcn, hsn⟩) (fun q h => by obtain ⟨i, _, e⟩ := h; rw [e]; exact Nat.le_trans (Nat.le_trans hB (by omega)) (Nat.le_add_right _ _)) hS (fun H1 locs1 t ht hP1 hk hS1 => ?_)
  refine kk H1 locs1 ls (hX.kept (fun k x hx => ?_)) (by rw [← ht]; exact hP1) hS1 hl
  refine hk _ ((hX k x hx).lt) (fun hq => ?_)
  obtain ⟨h1, rfl⟩ := cells_at hx
  obtain ⟨i, hi, e⟩ := hq
  have e : BX + k = BM + i := e
  have h1 : k < 272 := h1
  omega
end

def Ok_feed (n : Nat) (Rel : St → St → Prop) (Sx Sm : St) : Prop := ∀ y1 y2 y3 y4 y5 : Int32, ∃ (Sx' Sm' : St) (r : Int32), fX10_feed n Sx y1 y2 y3 y4 y5 = some (Sx', r) ∧ fX11_feed n Sm y1 y2 y3 y4 y5 = some (Sm', r) ∧ Rel Sx' Sm'
def Ok_end (n : Nat) (Rel : St → St → Prop) (Sx Sm : St) : Prop := ∀ y1 : Int32, ∃ (Sx' Sm' : St) (r : Int32), fX10_end n Sx y1 = some (Sx', r) ∧ fX11_end n Sm y1 = some (Sm', r) ∧ Rel Sx' Sm'
def Ok_bench (n : Nat) (Rel : St → St → Prop) (Sx Sm : St) : Prop := ∃ (Sx' Sm' : St) (r : Int32), fX10_bench n Sx = some (Sx', r) ∧ fX11_bench n Sm = some (Sm', r) ∧ Rel Sx' Sm'
def Ok_fault (n : Nat) (Rel : St → St → Prop) (Sx Sm : St) : Prop := ∀ y1 : Int32, ∃ (Sx' Sm' : St) (r : Int32), fX10_fault n Sx y1 = some (Sx', r) ∧ fX11_fault n Sm y1 = some (Sm', r) ∧ Rel Sx' Sm'
def Ok_throwsBack (n : Nat) (Rel : St → St → Prop) (Sx Sm : St) : Prop := ∀ y1 y2 : Int32, ∃ (Sx' Sm' : St) (r : Int32), fX10_throwsBack n Sx y1 y2 = some (Sx', r) ∧ fX11_throwsBack n Sm y1 y2 = some (Sm', r) ∧ Rel Sx' Sm'
def Ok_seen (n : Nat) (Rel : St → St → Prop) (Sx Sm : St) : Prop := ∀ y1 y2 y3 : Int32, ∃ (Sx' Sm' : St) (r : Int64), fX10_seen n Sx y1 y2 y3 = some (Sx', r) ∧ fX11_seen n Sm y1 y2 y3 = some (Sm', r) ∧ Rel Sx' Sm'
def Ok_apart (n : Nat) (Rel : St → St → Prop) (Sx Sm : St) : Prop := ∀ y1 y2 y3 y4 : Int32, (y4 = 0 ∨ y4 = 1) → ∃ (Sx' Sm' : St) (r : Int64), fX10_apart n Sx y1 y2 y3 y4 = some (Sx', r) ∧ fX11_apart n Sm y1 y2 y3 y4 = some (Sm', r) ∧ Rel Sx' Sm'
def Ok_alike (n : Nat) (Rel : St → St → Prop) (Sx Sm : St) : Prop := ∀ y1 y2 y3 : Int32, (y3 = 0 ∨ y3 = 1) → ∃ (Sx' Sm' : St) (r : Int32), fX10_alike n Sx y1 y2 y3 = some (Sx', r) ∧ fX11_alike n Sm y1 y2 y3 = some (Sm', r) ∧ Rel Sx' Sm'
def Ok_cost (n : Nat) (Rel : St → St → Prop) (Sx Sm : St) : Prop := ∀ y1 : Int32, ∃ (Sx' Sm' : St) (r : Int32), fX10_cost n Sx y1 = some (Sx', r) ∧ fX11_cost n Sm y1 = some (Sm', r) ∧ Rel Sx' Sm'
def Ok_ask (n : Nat) (Rel : St → St → Prop) (Sx Sm : St) : Prop := ∀ y1 y2 y3 y4 : Int32, ∃ (Sx' Sm' : St) (r : Int32), fX10_ask n Sx y1 y2 y3 y4 = some (Sx', r) ∧ fX11_ask n Sm y1 y2 y3 y4 = some (Sm', r) ∧ Rel Sx' Sm'
def Ok_mixes (n : Nat) (Rel : St → St → Prop) (Sx Sm : St) : Prop := ∃ (Sx' Sm' : St) (r : Int32), fX10_mixes n Sx = some (Sx', r) ∧ fX11_mixes n Sm = some (Sm', r) ∧ Rel Sx' Sm'
def Ok_match (n : Nat) (Rel : St → St → Prop) (Sx Sm : St) : Prop := ∀ y1 y2 : Int32, (y2 = 0 ∨ y2 = 1) → ∃ (Sx' Sm' : St) (r : Int32), fX10_match n Sx y1 y2 = some (Sx', r) ∧ fX11_match n Sm y1 y2 = some (Sm', r) ∧ Rel Sx' Sm'
def Ok_nearest (n : Nat) (Rel : St → St → Prop) (Sx Sm : St) : Prop := ∀ y1 y2 : Int32, (y2 = 0 ∨ y2 = 1) → ∃ (Sx' Sm' : St) (r : Int64), fX10_nearest n Sx y1 y2 = some (Sx', r) ∧ fX11_nearest n Sm y1 y2 = some (Sm', r) ∧ Rel Sx' Sm'
def Ok_best (n : Nat) (Rel : St → St → Prop) (Sx Sm : St) : Prop := ∀ y1 y2 : Int32, (y2 = 0 ∨ y2 = 1) → ∃ (Sx' Sm' : St) (r : Int32), fX10_best n Sx y1 y2 = some (Sx', r) ∧ fX11_best n Sm y1 y2 = some (Sm', r) ∧ Rel Sx' Sm'
def Ok_pick (n : Nat) (Rel : St → St → Prop) (Sx Sm : St) : Prop := ∀ y1 : Int32, ∃ (Sx' Sm' : St) (r : Int32), fX10_pick n Sx y1 = some (Sx', r) ∧ fX11_pick n Sm y1 = some (Sm', r) ∧ Rel Sx' Sm'
def Ok_trick (n : Nat) (Rel : St → St → Prop) (Sx Sm : St) : Prop := ∀ y1 y2 y3 : Int32, (y3 = 0 ∨ y3 = 1) → ∃ (Sx' Sm' : St) (r : Int64), fX10_trick n Sx y1 y2 y3 = some (Sx', r) ∧ fX11_trick n Sm y1 y2 y3 = some (Sm', r) ∧ Rel Sx' Sm'
def Ok_parts (n : Nat) (Rel : St → St → Prop) (Sx Sm : St) : Prop := ∀ y1 : Int32, ∃ (Sx' Sm' : St) (r : Int32), fX10_parts n Sx y1 = some (Sx', r) ∧ fX11_parts n Sm y1 = some (Sm', r) ∧ Rel Sx' Sm'
def Ok_betray (n : Nat) (Rel : St → St → Prop) (Sx Sm : St) : Prop := ∀ y1 y2 y3 : Int32, (y3 = 0 ∨ y3 = 1) → ∃ (Sx' Sm' : St) (r : Int64), fX10_betray n Sx y1 y2 y3 = some (Sx', r) ∧ fX11_betray n Sm y1 y2 y3 = some (Sm', r) ∧ Rel Sx' Sm'
def Ok_weight (n : Nat) (Rel : St → St → Prop) (Sx Sm : St) : Prop := ∀ y1 : Int32, ∃ (Sx' Sm' : St) (r : Int32), fX10_weight n Sx y1 = some (Sx', r) ∧ fX11_weight n Sm y1 = some (Sm', r) ∧ Rel Sx' Sm'
def Ok_lamp (n : Nat) (Rel : St → St → Prop) (Sx Sm : St) : Prop := ∀ y1 y2 y3 : Int32, (y3 = 0 ∨ y3 = 1) → ∃ (Sx' Sm' : St) (r : Int32), fX10_lamp n Sx y1 y2 y3 = some (Sx', r) ∧ fX11_lamp n Sm y1 y2 y3 = some (Sm', r) ∧ Rel Sx' Sm'
def Ok_set (n : Nat) (Rel : St → St → Prop) (Sx Sm : St) : Prop := ∀ y1 : Int32, ∃ (Sx' Sm' : St) (r : Int32), fX10_set n Sx y1 = some (Sx', r) ∧ fX11_set n Sm y1 = some (Sm', r) ∧ Rel Sx' Sm'
def Ok_drop (n : Nat) (Rel : St → St → Prop) (Sx Sm : St) : Prop := ∀ y1 y2 : Int32, ∃ (Sx' Sm' : St) (r : Int32), fX10_drop n Sx y1 y2 = some (Sx', r) ∧ fX11_drop n Sm y1 y2 = some (Sm', r) ∧ Rel Sx' Sm'
def Ok_days (n : Nat) (Rel : St → St → Prop) (Sx Sm : St) : Prop := ∀ y1 : Int32, ∃ (Sx' Sm' : St) (r : Int32), fX10_days n Sx y1 = some (Sx', r) ∧ fX11_days n Sm y1 = some (Sm', r) ∧ Rel Sx' Sm'
def Ok_vat (n : Nat) (Rel : St → St → Prop) (Sx Sm : St) : Prop := ∀ y1 : Int32, ∃ (Sx' Sm' : St) (r : Int32), fX10_vat n Sx y1 = some (Sx', r) ∧ fX11_vat n Sm y1 = some (Sm', r) ∧ Rel Sx' Sm'
def Ok_old (n : Nat) (Rel : St → St → Prop) (Sx Sm : St) : Prop := ∃ (Sx' Sm' : St) (r : Int32), fX10_old n Sx = some (Sx', r) ∧ fX11_old n Sm = some (Sm', r) ∧ Rel Sx' Sm'
def Ok_oldOne (n : Nat) (Rel : St → St → Prop) (Sx Sm : St) : Prop := ∀ y1 y2 : Int32, ∃ (Sx' Sm' : St) (r : Int32), fX10_oldOne n Sx y1 y2 = some (Sx', r) ∧ fX11_oldOne n Sm y1 y2 = some (Sm', r) ∧ Rel Sx' Sm'
def Ok_look (n : Nat) (Rel : St → St → Prop) (Sx Sm : St) : Prop := ∀ y1 y2 y3 y4 : Int32, ∃ (Sx' Sm' : St) (r : Int32), fX10_look n Sx y1 y2 y3 y4 = some (Sx', r) ∧ fX11_look n Sm y1 y2 y3 y4 = some (Sm', r) ∧ Rel Sx' Sm'
def Ok_untell (n : Nat) (Rel : St → St → Prop) (Sx Sm : St) : Prop := ∀ y1 : Int32, ∃ (Sx' Sm' : St) (r : Int32), fX10_untell n Sx y1 = some (Sx', r) ∧ fX11_untell n Sm y1 = some (Sm', r) ∧ Rel Sx' Sm'
def Ok_later (n : Nat) (Rel : St → St → Prop) (Sx Sm : St) : Prop := ∀ y1 : Int32, ∃ (Sx' Sm' : St) (r : Int32), fX10_later n Sx y1 = some (Sx', r) ∧ fX11_later n Sm y1 = some (Sm', r) ∧ Rel Sx' Sm'
def Ok_agree (n : Nat) (Rel : St → St → Prop) (Sx Sm : St) : Prop := ∀ y1 : Int32, ∃ (Sx' Sm' : St) (r : Int32), fX10_agree n Sx y1 = some (Sx', r) ∧ fX11_agree n Sm y1 = some (Sm', r) ∧ Rel Sx' Sm'
def Ok_agrees (n : Nat) (Rel : St → St → Prop) (Sx Sm : St) : Prop := ∀ y1 y2 : Int32, ∃ (Sx' Sm' : St) (r : Int32), fX10_agrees n Sx y1 y2 = some (Sx', r) ∧ fX11_agrees n Sm y1 y2 = some (Sm', r) ∧ Rel Sx' Sm'
def Ok_next (n : Nat) (Rel : St → St → Prop) (Sx Sm : St) : Prop := ∀ y1 y2 : Int32, ∃ (Sx' Sm' : St) (r : Int32), fX10_next n Sx y1 y2 = some (Sx', r) ∧ fX11_next n Sm y1 y2 = some (Sm', r) ∧ Rel Sx' Sm'
def Ok_seed (n : Nat) (Rel : St → St → Prop) (Sx Sm : St) : Prop := ∀ y1 : Int32, ∃ (Sx' Sm' : St) (r : Int32), fX10_seed n Sx y1 = some (Sx', r) ∧ fX11_seed n Sm y1 = some (Sm', r) ∧ Rel Sx' Sm'
def Ok_image (n : Nat) (Rel : St → St → Prop) (Sx Sm : St) : Prop := ∀ y1 : Int32, ∃ (Sx' Sm' : St) (r : Int32), fX10_image n Sx y1 = some (Sx', r) ∧ fX11_image n Sm y1 = some (Sm', r) ∧ Rel Sx' Sm'
def Ok_back (n : Nat) (Rel : St → St → Prop) (Sx Sm : St) : Prop := ∀ y1 : Int32, ∃ (Sx' Sm' : St) (r : Int32), fX10_back n Sx y1 = some (Sx', r) ∧ fX11_back n Sm y1 = some (Sm', r) ∧ Rel Sx' Sm'
def Ok_about (n : Nat) (Rel : St → St → Prop) (Sx Sm : St) : Prop := ∀ y1 : Int32, ∃ (Sx' Sm' : St) (r : Int32), fX10_about n Sx y1 = some (Sx', r) ∧ fX11_about n Sm y1 = some (Sm', r) ∧ Rel Sx' Sm'
def StepOK (n : Nat) (Rel : St → St → Prop) : Prop := ∀ Sx Sm : St, Rel Sx Sm → Ok_feed n Rel Sx Sm ∧ Ok_end n Rel Sx Sm ∧ Ok_bench n Rel Sx Sm ∧ Ok_fault n Rel Sx Sm ∧ Ok_throwsBack n Rel Sx Sm ∧ Ok_seen n Rel Sx Sm ∧ Ok_apart n Rel Sx Sm ∧ Ok_alike n Rel Sx Sm ∧ Ok_cost n Rel Sx Sm ∧ Ok_ask n Rel Sx Sm ∧ Ok_mixes n Rel Sx Sm ∧ Ok_match n Rel Sx Sm ∧ Ok_nearest n Rel Sx Sm ∧ Ok_best n Rel Sx Sm ∧ Ok_pick n Rel Sx Sm ∧ Ok_trick n Rel Sx Sm ∧ Ok_parts n Rel Sx Sm ∧ Ok_betray n Rel Sx Sm ∧ Ok_weight n Rel Sx Sm ∧ Ok_lamp n Rel Sx Sm ∧ Ok_set n Rel Sx Sm ∧ Ok_drop n Rel Sx Sm ∧ Ok_days n Rel Sx Sm ∧ Ok_vat n Rel Sx Sm ∧ Ok_old n Rel Sx Sm ∧ Ok_oldOne n Rel Sx Sm ∧ Ok_look n Rel Sx Sm ∧ Ok_untell n Rel Sx Sm ∧ Ok_later n Rel Sx Sm ∧ Ok_agree n Rel Sx Sm ∧ Ok_agrees n Rel Sx Sm ∧ Ok_next n Rel Sx Sm ∧ Ok_seed n Rel Sx Sm ∧ Ok_image n Rel Sx Sm ∧ Ok_back n Rel Sx Sm ∧ Ok_about n Rel Sx Sm
section
variable {G : Gx} {b L : Nat} {xs : Nat → Int32} {BX BM cn sn : Nat} {Q : State → Prop} {Sx Sm : St} {x3 : Int32}
set_option maxRecDepth 100000 in
set_option maxHeartbeats 4000000 in
theorem wl_op0 (C : CL G b L xs) (hB : (gS G).heap.size ≤ BX) (hBM : BX + 272 ≤ BM) (hcn : cn ≤ 600000) (hsn : sn ≤ 7302250) {n : Nat} {Rel : St → St → Prop} (h1 : vp_in (x3 + 1) L) (h2 : vp_in (x3 + 2) L) (h3 : vp_in (x3 + 3) L) (h4 : vp_in (x3 + 4) L) (h5 : vp_in (x3 + 5) L) (hok : Ok_feed n Rel Sx Sm) (fin : ∀ Sx Sm : St, Rel Sx Sm → Wl G BX BM cn sn Q Sx Sm 1433 [(3, .int x3), (2, .ref (adB BM 0)), (1, .ref (adB BX 0)), (0, .ref b)] []) : Wl G BX BM cn sn Q Sx Sm 192 [(3, .int x3), (2, .ref (adB BM 0)), (1, .ref (adB BX 0)), (0, .ref b)] [] := by
  refine wl_aload_n (pc := 192) C 2 dL_law_192 rfl rfl ?_
  refine wl_aload_n (pc := 193) C 3 dL_law_193 rfl rfl ?_
  refine wl_iload_n (pc := 194) C 0 dL_law_194 rfl rfl ?_
  refine wl_iconst (v := 1) (pc := 195) C dL_law_195 (by decide) ?_
  refine wl_iadd (pc := 196) C dL_law_196 ?_
  refine wl_sld (pc := 197) C h1 dL_law_197 ?_
  refine wl_aload_n (pc := 198) C 3 dL_law_198 rfl rfl ?_
  refine wl_iload_n (pc := 199) C 0 dL_law_199 rfl rfl ?_
  refine wl_iconst (v := 2) (pc := 200) C dL_law_200 (by decide) ?_
  refine wl_iadd (pc := 201) C dL_law_201 ?_
  refine wl_sld (pc := 202) C h2 dL_law_202 ?_
  refine wl_aload_n (pc := 203) C 3 dL_law_203 rfl rfl ?_
  refine wl_iload_n (pc := 204) C 0 dL_law_204 rfl rfl ?_
  refine wl_iconst (v := 3) (pc := 205) C dL_law_205 (by decide) ?_
  refine wl_iadd (pc := 206) C dL_law_206 ?_
  refine wl_sld (pc := 207) C h3 dL_law_207 ?_
  refine wl_aload_n (pc := 208) C 3 dL_law_208 rfl rfl ?_
  refine wl_iload_n (pc := 209) C 0 dL_law_209 rfl rfl ?_
  refine wl_iconst (v := 4) (pc := 210) C dL_law_210 (by decide) ?_
  refine wl_iadd (pc := 211) C dL_law_211 ?_
  refine wl_sld (pc := 212) C h4 dL_law_212 ?_
  refine wl_aload_n (pc := 213) C 3 dL_law_213 rfl rfl ?_
  refine wl_iload_n (pc := 214) C 0 dL_law_214 rfl rfl ?_
  refine wl_iconst (v := 5) (pc := 215) C dL_law_215 (by decide) ?_
  refine wl_iadd (pc := 216) C dL_law_216 ?_
  refine wl_sld (pc := 217) C h5 dL_law_217 ?_
  obtain ⟨Sx1, Sm1, r, c1, c2, hr⟩ := hok (xs (Int32.toNatClampNeg (x3 + 1))) (xs (Int32.toNatClampNeg (x3 + 2))) (xs (Int32.toNatClampNeg (x3 + 3))) (xs (Int32.toNatClampNeg (x3 + 4))) (xs (Int32.toNatClampNeg (x3 + 5))) 
  refine wl_callX (As := [.int (xs (Int32.toNatClampNeg (x3 + 1))), .int (xs (Int32.toNatClampNeg (x3 + 2))), .int (xs (Int32.toNatClampNeg (x3 + 3))), .int (xs (Int32.toNatClampNeg (x3 + 4))), .int (xs (Int32.toNatClampNeg (x3 + 5)))]) (st := []) (pc := 218) C hB hBM hcn hsn (CtX10_feed c1) mX10_feed iX10_feed kL_13 rfl rfl rfl (Nat.le_of_ble_eq_true rfl) ⟨(Nat.le_of_ble_eq_true rfl), (Nat.le_of_ble_eq_true rfl)⟩ dL_law_218 ?_
  refine wl_aload_n (pc := 221) C 1 dL_law_221 rfl rfl ?_
  refine wl_aload_n (pc := 222) C 3 dL_law_222 rfl rfl ?_
  refine wl_iload_n (pc := 223) C 0 dL_law_223 rfl rfl ?_
  refine wl_iconst (v := 1) (pc := 224) C dL_law_224 (by decide) ?_
  refine wl_iadd (pc := 225) C dL_law_225 ?_
  refine wl_sld (pc := 226) C h1 dL_law_226 ?_
  refine wl_aload_n (pc := 227) C 3 dL_law_227 rfl rfl ?_
  refine wl_iload_n (pc := 228) C 0 dL_law_228 rfl rfl ?_
  refine wl_iconst (v := 2) (pc := 229) C dL_law_229 (by decide) ?_
  refine wl_iadd (pc := 230) C dL_law_230 ?_
  refine wl_sld (pc := 231) C h2 dL_law_231 ?_
  refine wl_aload_n (pc := 232) C 3 dL_law_232 rfl rfl ?_
  refine wl_iload_n (pc := 233) C 0 dL_law_233 rfl rfl ?_
  refine wl_iconst (v := 3) (pc := 234) C dL_law_234 (by decide) ?_
  refine wl_iadd (pc := 235) C dL_law_235 ?_
  refine wl_sld (pc := 236) C h3 dL_law_236 ?_
  refine wl_aload_n (pc := 237) C 3 dL_law_237 rfl rfl ?_
  refine wl_iload_n (pc := 238) C 0 dL_law_238 rfl rfl ?_
  refine wl_iconst (v := 4) (pc := 239) C dL_law_239 (by decide) ?_
  refine wl_iadd (pc := 240) C dL_law_240 ?_
  refine wl_sld (pc := 241) C h4 dL_law_241 ?_
  refine wl_aload_n (pc := 242) C 3 dL_law_242 rfl rfl ?_
  refine wl_iload_n (pc := 243) C 0 dL_law_243 rfl rfl ?_
  refine wl_iconst (v := 5) (pc := 244) C dL_law_244 (by decide) ?_
  refine wl_iadd (pc := 245) C dL_law_245 ?_
  refine wl_sld (pc := 246) C h5 dL_law_246 ?_
  refine wl_callM (As := [.int (xs (Int32.toNatClampNeg (x3 + 1))), .int (xs (Int32.toNatClampNeg (x3 + 2))), .int (xs (Int32.toNatClampNeg (x3 + 3))), .int (xs (Int32.toNatClampNeg (x3 + 4))), .int (xs (Int32.toNatClampNeg (x3 + 5)))]) (st := [.int (r)]) (pc := 247) C hB hBM hcn hsn (CtX11_feed c2) mX11_feed iX11_feed kL_17 rfl rfl rfl (Nat.le_of_ble_eq_true rfl) ⟨(Nat.le_of_ble_eq_true rfl), (Nat.le_of_ble_eq_true rfl)⟩ dL_law_247 ?_
  refine wl_same (pc := 250) C 1433 dL_law_250 (by decide) ?_
  exact fin Sx1 Sm1 hr
set_option maxRecDepth 100000 in
set_option maxHeartbeats 4000000 in
theorem wl_op1 (C : CL G b L xs) (hB : (gS G).heap.size ≤ BX) (hBM : BX + 272 ≤ BM) (hcn : cn ≤ 600000) (hsn : sn ≤ 7302250) {n : Nat} {Rel : St → St → Prop} (h1 : vp_in (x3 + 1) L) (h2 : vp_in (x3 + 2) L) (h3 : vp_in (x3 + 3) L) (h4 : vp_in (x3 + 4) L) (h5 : vp_in (x3 + 5) L) (hok : Ok_end n Rel Sx Sm) (fin : ∀ Sx Sm : St, Rel Sx Sm → Wl G BX BM cn sn Q Sx Sm 1433 [(3, .int x3), (2, .ref (adB BM 0)), (1, .ref (adB BX 0)), (0, .ref b)] []) : Wl G BX BM cn sn Q Sx Sm 255 [(3, .int x3), (2, .ref (adB BM 0)), (1, .ref (adB BX 0)), (0, .ref b)] [] := by
  refine wl_aload_n (pc := 255) C 2 dL_law_255 rfl rfl ?_
  refine wl_aload_n (pc := 256) C 3 dL_law_256 rfl rfl ?_
  refine wl_iload_n (pc := 257) C 0 dL_law_257 rfl rfl ?_
  refine wl_iconst (v := 1) (pc := 258) C dL_law_258 (by decide) ?_
  refine wl_iadd (pc := 259) C dL_law_259 ?_
  refine wl_sld (pc := 260) C h1 dL_law_260 ?_
  obtain ⟨Sx1, Sm1, r, c1, c2, hr⟩ := hok (xs (Int32.toNatClampNeg (x3 + 1))) 
  refine wl_callX (As := [.int (xs (Int32.toNatClampNeg (x3 + 1)))]) (st := []) (pc := 261) C hB hBM hcn hsn (CtX10_end c1) mX10_end iX10_end kL_18 rfl rfl rfl (Nat.le_of_ble_eq_true rfl) ⟨(Nat.le_of_ble_eq_true rfl), (Nat.le_of_ble_eq_true rfl)⟩ dL_law_261 ?_
  refine wl_aload_n (pc := 264) C 1 dL_law_264 rfl rfl ?_
  refine wl_aload_n (pc := 265) C 3 dL_law_265 rfl rfl ?_
  refine wl_iload_n (pc := 266) C 0 dL_law_266 rfl rfl ?_
  refine wl_iconst (v := 1) (pc := 267) C dL_law_267 (by decide) ?_
  refine wl_iadd (pc := 268) C dL_law_268 ?_
  refine wl_sld (pc := 269) C h1 dL_law_269 ?_
  refine wl_callM (As := [.int (xs (Int32.toNatClampNeg (x3 + 1)))]) (st := [.int (r)]) (pc := 270) C hB hBM hcn hsn (CtX11_end c2) mX11_end iX11_end kL_22 rfl rfl rfl (Nat.le_of_ble_eq_true rfl) ⟨(Nat.le_of_ble_eq_true rfl), (Nat.le_of_ble_eq_true rfl)⟩ dL_law_270 ?_
  refine wl_same (pc := 273) C 1433 dL_law_273 (by decide) ?_
  exact fin Sx1 Sm1 hr
set_option maxRecDepth 100000 in
set_option maxHeartbeats 4000000 in
theorem wl_op2 (C : CL G b L xs) (hB : (gS G).heap.size ≤ BX) (hBM : BX + 272 ≤ BM) (hcn : cn ≤ 600000) (hsn : sn ≤ 7302250) {n : Nat} {Rel : St → St → Prop} (h1 : vp_in (x3 + 1) L) (h2 : vp_in (x3 + 2) L) (h3 : vp_in (x3 + 3) L) (h4 : vp_in (x3 + 4) L) (h5 : vp_in (x3 + 5) L) (hok : Ok_bench n Rel Sx Sm) (fin : ∀ Sx Sm : St, Rel Sx Sm → Wl G BX BM cn sn Q Sx Sm 1433 [(3, .int x3), (2, .ref (adB BM 0)), (1, .ref (adB BX 0)), (0, .ref b)] []) : Wl G BX BM cn sn Q Sx Sm 278 [(3, .int x3), (2, .ref (adB BM 0)), (1, .ref (adB BX 0)), (0, .ref b)] [] := by
  refine wl_aload_n (pc := 278) C 2 dL_law_278 rfl rfl ?_
  obtain ⟨Sx1, Sm1, r, c1, c2, hr⟩ := hok  
  refine wl_callX (As := []) (st := []) (pc := 279) C hB hBM hcn hsn (CtX10_bench c1) mX10_bench iX10_bench kL_23 rfl rfl rfl (Nat.le_of_ble_eq_true rfl) ⟨(Nat.le_of_ble_eq_true rfl), (Nat.le_of_ble_eq_true rfl)⟩ dL_law_279 ?_
  refine wl_aload_n (pc := 282) C 1 dL_law_282 rfl rfl ?_
  refine wl_callM (As := []) (st := [.int (r)]) (pc := 283) C hB hBM hcn hsn (CtX11_bench c2) mX11_bench iX11_bench kL_27 rfl rfl rfl (Nat.le_of_ble_eq_true rfl) ⟨(Nat.le_of_ble_eq_true rfl), (Nat.le_of_ble_eq_true rfl)⟩ dL_law_283 ?_
  refine wl_same (pc := 286) C 1433 dL_law_286 (by decide) ?_
  exact fin Sx1 Sm1 hr
set_option maxRecDepth 100000 in
set_option maxHeartbeats 4000000 in
theorem wl_op3 (C : CL G b L xs) (hB : (gS G).heap.size ≤ BX) (hBM : BX + 272 ≤ BM) (hcn : cn ≤ 600000) (hsn : sn ≤ 7302250) {n : Nat} {Rel : St → St → Prop} (h1 : vp_in (x3 + 1) L) (h2 : vp_in (x3 + 2) L) (h3 : vp_in (x3 + 3) L) (h4 : vp_in (x3 + 4) L) (h5 : vp_in (x3 + 5) L) (hok : Ok_fault n Rel Sx Sm) (fin : ∀ Sx Sm : St, Rel Sx Sm → Wl G BX BM cn sn Q Sx Sm 1433 [(3, .int x3), (2, .ref (adB BM 0)), (1, .ref (adB BX 0)), (0, .ref b)] []) : Wl G BX BM cn sn Q Sx Sm 291 [(3, .int x3), (2, .ref (adB BM 0)), (1, .ref (adB BX 0)), (0, .ref b)] [] := by
  refine wl_aload_n (pc := 291) C 2 dL_law_291 rfl rfl ?_
  refine wl_aload_n (pc := 292) C 3 dL_law_292 rfl rfl ?_
  refine wl_iload_n (pc := 293) C 0 dL_law_293 rfl rfl ?_
  refine wl_iconst (v := 1) (pc := 294) C dL_law_294 (by decide) ?_
  refine wl_iadd (pc := 295) C dL_law_295 ?_
  refine wl_sld (pc := 296) C h1 dL_law_296 ?_
  obtain ⟨Sx1, Sm1, r, c1, c2, hr⟩ := hok (xs (Int32.toNatClampNeg (x3 + 1))) 
  refine wl_callX (As := [.int (xs (Int32.toNatClampNeg (x3 + 1)))]) (st := []) (pc := 297) C hB hBM hcn hsn (CtX10_fault c1) mX10_fault iX10_fault kL_28 rfl rfl rfl (Nat.le_of_ble_eq_true rfl) ⟨(Nat.le_of_ble_eq_true rfl), (Nat.le_of_ble_eq_true rfl)⟩ dL_law_297 ?_
  refine wl_aload_n (pc := 300) C 1 dL_law_300 rfl rfl ?_
  refine wl_aload_n (pc := 301) C 3 dL_law_301 rfl rfl ?_
  refine wl_iload_n (pc := 302) C 0 dL_law_302 rfl rfl ?_
  refine wl_iconst (v := 1) (pc := 303) C dL_law_303 (by decide) ?_
  refine wl_iadd (pc := 304) C dL_law_304 ?_
  refine wl_sld (pc := 305) C h1 dL_law_305 ?_
  refine wl_callM (As := [.int (xs (Int32.toNatClampNeg (x3 + 1)))]) (st := [.int (r)]) (pc := 306) C hB hBM hcn hsn (CtX11_fault c2) mX11_fault iX11_fault kL_31 rfl rfl rfl (Nat.le_of_ble_eq_true rfl) ⟨(Nat.le_of_ble_eq_true rfl), (Nat.le_of_ble_eq_true rfl)⟩ dL_law_306 ?_
  refine wl_same (pc := 309) C 1433 dL_law_309 (by decide) ?_
  exact fin Sx1 Sm1 hr
set_option maxRecDepth 100000 in
set_option maxHeartbeats 4000000 in
theorem wl_op4 (C : CL G b L xs) (hB : (gS G).heap.size ≤ BX) (hBM : BX + 272 ≤ BM) (hcn : cn ≤ 600000) (hsn : sn ≤ 7302250) {n : Nat} {Rel : St → St → Prop} (h1 : vp_in (x3 + 1) L) (h2 : vp_in (x3 + 2) L) (h3 : vp_in (x3 + 3) L) (h4 : vp_in (x3 + 4) L) (h5 : vp_in (x3 + 5) L) (hok : Ok_throwsBack n Rel Sx Sm) (fin : ∀ Sx Sm : St, Rel Sx Sm → Wl G BX BM cn sn Q Sx Sm 1433 [(3, .int x3), (2, .ref (adB BM 0)), (1, .ref (adB BX 0)), (0, .ref b)] []) : Wl G BX BM cn sn Q Sx Sm 314 [(3, .int x3), (2, .ref (adB BM 0)), (1, .ref (adB BX 0)), (0, .ref b)] [] := by
  refine wl_aload_n (pc := 314) C 2 dL_law_314 rfl rfl ?_
  refine wl_aload_n (pc := 315) C 3 dL_law_315 rfl rfl ?_
  refine wl_iload_n (pc := 316) C 0 dL_law_316 rfl rfl ?_
  refine wl_iconst (v := 1) (pc := 317) C dL_law_317 (by decide) ?_
  refine wl_iadd (pc := 318) C dL_law_318 ?_
  refine wl_sld (pc := 319) C h1 dL_law_319 ?_
  refine wl_aload_n (pc := 320) C 3 dL_law_320 rfl rfl ?_
  refine wl_iload_n (pc := 321) C 0 dL_law_321 rfl rfl ?_
  refine wl_iconst (v := 2) (pc := 322) C dL_law_322 (by decide) ?_
  refine wl_iadd (pc := 323) C dL_law_323 ?_
  refine wl_sld (pc := 324) C h2 dL_law_324 ?_
  obtain ⟨Sx1, Sm1, r, c1, c2, hr⟩ := hok (xs (Int32.toNatClampNeg (x3 + 1))) (xs (Int32.toNatClampNeg (x3 + 2))) 
  refine wl_callX (As := [.int (xs (Int32.toNatClampNeg (x3 + 1))), .int (xs (Int32.toNatClampNeg (x3 + 2)))]) (st := []) (pc := 325) C hB hBM hcn hsn (CtX10_throwsBack c1) mX10_throwsBack iX10_throwsBack kL_32 rfl rfl rfl (Nat.le_of_ble_eq_true rfl) ⟨(Nat.le_of_ble_eq_true rfl), (Nat.le_of_ble_eq_true rfl)⟩ dL_law_325 ?_
  refine wl_aload_n (pc := 328) C 1 dL_law_328 rfl rfl ?_
  refine wl_aload_n (pc := 329) C 3 dL_law_329 rfl rfl ?_
  refine wl_iload_n (pc := 330) C 0 dL_law_330 rfl rfl ?_
  refine wl_iconst (v := 1) (pc := 331) C dL_law_331 (by decide) ?_
  refine wl_iadd (pc := 332) C dL_law_332 ?_
  refine wl_sld (pc := 333) C h1 dL_law_333 ?_
  refine wl_aload_n (pc := 334) C 3 dL_law_334 rfl rfl ?_
  refine wl_iload_n (pc := 335) C 0 dL_law_335 rfl rfl ?_
  refine wl_iconst (v := 2) (pc := 336) C dL_law_336 (by decide) ?_
  refine wl_iadd (pc := 337) C dL_law_337 ?_
  refine wl_sld (pc := 338) C h2 dL_law_338 ?_
  refine wl_callM (As := [.int (xs (Int32.toNatClampNeg (x3 + 1))), .int (xs (Int32.toNatClampNeg (x3 + 2)))]) (st := [.int (r)]) (pc := 339) C hB hBM hcn hsn (CtX11_throwsBack c2) mX11_throwsBack iX11_throwsBack kL_36 rfl rfl rfl (Nat.le_of_ble_eq_true rfl) ⟨(Nat.le_of_ble_eq_true rfl), (Nat.le_of_ble_eq_true rfl)⟩ dL_law_339 ?_
  refine wl_same (pc := 342) C 1433 dL_law_342 (by decide) ?_
  exact fin Sx1 Sm1 hr
set_option maxRecDepth 100000 in
set_option maxHeartbeats 4000000 in
theorem wl_op5 (C : CL G b L xs) (hB : (gS G).heap.size ≤ BX) (hBM : BX + 272 ≤ BM) (hcn : cn ≤ 600000) (hsn : sn ≤ 7302250) {n : Nat} {Rel : St → St → Prop} (h1 : vp_in (x3 + 1) L) (h2 : vp_in (x3 + 2) L) (h3 : vp_in (x3 + 3) L) (h4 : vp_in (x3 + 4) L) (h5 : vp_in (x3 + 5) L) (hok : Ok_seen n Rel Sx Sm) (fin : ∀ Sx Sm : St, Rel Sx Sm → Wl G BX BM cn sn Q Sx Sm 1433 [(3, .int x3), (2, .ref (adB BM 0)), (1, .ref (adB BX 0)), (0, .ref b)] []) : Wl G BX BM cn sn Q Sx Sm 347 [(3, .int x3), (2, .ref (adB BM 0)), (1, .ref (adB BX 0)), (0, .ref b)] [] := by
  refine wl_aload_n (pc := 347) C 2 dL_law_347 rfl rfl ?_
  refine wl_aload_n (pc := 348) C 3 dL_law_348 rfl rfl ?_
  refine wl_iload_n (pc := 349) C 0 dL_law_349 rfl rfl ?_
  refine wl_iconst (v := 1) (pc := 350) C dL_law_350 (by decide) ?_
  refine wl_iadd (pc := 351) C dL_law_351 ?_
  refine wl_sld (pc := 352) C h1 dL_law_352 ?_
  refine wl_aload_n (pc := 353) C 3 dL_law_353 rfl rfl ?_
  refine wl_iload_n (pc := 354) C 0 dL_law_354 rfl rfl ?_
  refine wl_iconst (v := 2) (pc := 355) C dL_law_355 (by decide) ?_
  refine wl_iadd (pc := 356) C dL_law_356 ?_
  refine wl_sld (pc := 357) C h2 dL_law_357 ?_
  refine wl_aload_n (pc := 358) C 3 dL_law_358 rfl rfl ?_
  refine wl_iload_n (pc := 359) C 0 dL_law_359 rfl rfl ?_
  refine wl_iconst (v := 3) (pc := 360) C dL_law_360 (by decide) ?_
  refine wl_iadd (pc := 361) C dL_law_361 ?_
  refine wl_sld (pc := 362) C h3 dL_law_362 ?_
  obtain ⟨Sx1, Sm1, r, c1, c2, hr⟩ := hok (xs (Int32.toNatClampNeg (x3 + 1))) (xs (Int32.toNatClampNeg (x3 + 2))) (xs (Int32.toNatClampNeg (x3 + 3))) 
  refine wl_callX (As := [.int (xs (Int32.toNatClampNeg (x3 + 1))), .int (xs (Int32.toNatClampNeg (x3 + 2))), .int (xs (Int32.toNatClampNeg (x3 + 3)))]) (st := []) (pc := 363) C hB hBM hcn hsn (CtX10_seen c1) mX10_seen iX10_seen kL_37 rfl rfl rfl (Nat.le_of_ble_eq_true rfl) ⟨(Nat.le_of_ble_eq_true rfl), (Nat.le_of_ble_eq_true rfl)⟩ dL_law_363 ?_
  refine wl_aload_n (pc := 366) C 1 dL_law_366 rfl rfl ?_
  refine wl_aload_n (pc := 367) C 3 dL_law_367 rfl rfl ?_
  refine wl_iload_n (pc := 368) C 0 dL_law_368 rfl rfl ?_
  refine wl_iconst (v := 1) (pc := 369) C dL_law_369 (by decide) ?_
  refine wl_iadd (pc := 370) C dL_law_370 ?_
  refine wl_sld (pc := 371) C h1 dL_law_371 ?_
  refine wl_aload_n (pc := 372) C 3 dL_law_372 rfl rfl ?_
  refine wl_iload_n (pc := 373) C 0 dL_law_373 rfl rfl ?_
  refine wl_iconst (v := 2) (pc := 374) C dL_law_374 (by decide) ?_
  refine wl_iadd (pc := 375) C dL_law_375 ?_
  refine wl_sld (pc := 376) C h2 dL_law_376 ?_
  refine wl_aload_n (pc := 377) C 3 dL_law_377 rfl rfl ?_
  refine wl_iload_n (pc := 378) C 0 dL_law_378 rfl rfl ?_
  refine wl_iconst (v := 3) (pc := 379) C dL_law_379 (by decide) ?_
  refine wl_iadd (pc := 380) C dL_law_380 ?_
  refine wl_sld (pc := 381) C h3 dL_law_381 ?_
  refine wl_callM (As := [.int (xs (Int32.toNatClampNeg (x3 + 1))), .int (xs (Int32.toNatClampNeg (x3 + 2))), .int (xs (Int32.toNatClampNeg (x3 + 3)))]) (st := [.long (r)]) (pc := 382) C hB hBM hcn hsn (CtX11_seen c2) mX11_seen iX11_seen kL_41 rfl rfl rfl (Nat.le_of_ble_eq_true rfl) ⟨(Nat.le_of_ble_eq_true rfl), (Nat.le_of_ble_eq_true rfl)⟩ dL_law_382 ?_
  refine wl_lcmp (pc := 385) C dL_law_385 ?_
  refine wl_sameL (pc := 386) C 1433 dL_law_386 (by decide) ?_
  exact fin Sx1 Sm1 hr
set_option maxRecDepth 100000 in
set_option maxHeartbeats 4000000 in
theorem wl_op6 (C : CL G b L xs) (hB : (gS G).heap.size ≤ BX) (hBM : BX + 272 ≤ BM) (hcn : cn ≤ 600000) (hsn : sn ≤ 7302250) {n : Nat} {Rel : St → St → Prop} (h1 : vp_in (x3 + 1) L) (h2 : vp_in (x3 + 2) L) (h3 : vp_in (x3 + 3) L) (h4 : vp_in (x3 + 4) L) (h5 : vp_in (x3 + 5) L) (hok : Ok_apart n Rel Sx Sm) (fin : ∀ Sx Sm : St, Rel Sx Sm → Wl G BX BM cn sn Q Sx Sm 1433 [(3, .int x3), (2, .ref (adB BM 0)), (1, .ref (adB BX 0)), (0, .ref b)] []) : Wl G BX BM cn sn Q Sx Sm 391 [(3, .int x3), (2, .ref (adB BM 0)), (1, .ref (adB BX 0)), (0, .ref b)] [] := by
  refine wl_aload_n (pc := 391) C 2 dL_law_391 rfl rfl ?_
  refine wl_aload_n (pc := 392) C 3 dL_law_392 rfl rfl ?_
  refine wl_iload_n (pc := 393) C 0 dL_law_393 rfl rfl ?_
  refine wl_iconst (v := 1) (pc := 394) C dL_law_394 (by decide) ?_
  refine wl_iadd (pc := 395) C dL_law_395 ?_
  refine wl_sld (pc := 396) C h1 dL_law_396 ?_
  refine wl_aload_n (pc := 397) C 3 dL_law_397 rfl rfl ?_
  refine wl_iload_n (pc := 398) C 0 dL_law_398 rfl rfl ?_
  refine wl_iconst (v := 2) (pc := 399) C dL_law_399 (by decide) ?_
  refine wl_iadd (pc := 400) C dL_law_400 ?_
  refine wl_sld (pc := 401) C h2 dL_law_401 ?_
  refine wl_aload_n (pc := 402) C 3 dL_law_402 rfl rfl ?_
  refine wl_iload_n (pc := 403) C 0 dL_law_403 rfl rfl ?_
  refine wl_iconst (v := 3) (pc := 404) C dL_law_404 (by decide) ?_
  refine wl_iadd (pc := 405) C dL_law_405 ?_
  refine wl_sld (pc := 406) C h3 dL_law_406 ?_
  refine wl_aload_n (pc := 407) C 3 dL_law_407 rfl rfl ?_
  refine wl_iload_n (pc := 408) C 0 dL_law_408 rfl rfl ?_
  refine wl_iconst (v := 4) (pc := 409) C dL_law_409 (by decide) ?_
  refine wl_iadd (pc := 410) C dL_law_410 ?_
  refine wl_sld (pc := 411) C h4 dL_law_411 ?_
  refine wl_if_eq (pc := 412) C 419 dL_law_412 (by decide) (fun hz => ?_) (fun hz => ?_)
  · refine wl_iconst (v := 0) (pc := 419) C dL_law_419 (by decide) ?_
    obtain ⟨Sx1, Sm1, r, c1, c2, hr⟩ := hok (xs (Int32.toNatClampNeg (x3 + 1))) (xs (Int32.toNatClampNeg (x3 + 2))) (xs (Int32.toNatClampNeg (x3 + 3))) 0 (Or.inl rfl)
    refine wl_callX (As := [.int (xs (Int32.toNatClampNeg (x3 + 1))), .int (xs (Int32.toNatClampNeg (x3 + 2))), .int (xs (Int32.toNatClampNeg (x3 + 3))), .int (0)]) (st := []) (pc := 420) C hB hBM hcn hsn (CtX10_apart c1) mX10_apart iX10_apart kL_42 rfl rfl rfl (Nat.le_of_ble_eq_true rfl) ⟨(Nat.le_of_ble_eq_true rfl), (Nat.le_of_ble_eq_true rfl)⟩ dL_law_420 ?_
    refine wl_aload_n (pc := 423) C 1 dL_law_423 rfl rfl ?_
    refine wl_aload_n (pc := 424) C 3 dL_law_424 rfl rfl ?_
    refine wl_iload_n (pc := 425) C 0 dL_law_425 rfl rfl ?_
    refine wl_iconst (v := 1) (pc := 426) C dL_law_426 (by decide) ?_
    refine wl_iadd (pc := 427) C dL_law_427 ?_
    refine wl_sld (pc := 428) C h1 dL_law_428 ?_
    refine wl_aload_n (pc := 429) C 3 dL_law_429 rfl rfl ?_
    refine wl_iload_n (pc := 430) C 0 dL_law_430 rfl rfl ?_
    refine wl_iconst (v := 2) (pc := 431) C dL_law_431 (by decide) ?_
    refine wl_iadd (pc := 432) C dL_law_432 ?_
    refine wl_sld (pc := 433) C h2 dL_law_433 ?_
    refine wl_aload_n (pc := 434) C 3 dL_law_434 rfl rfl ?_
    refine wl_iload_n (pc := 435) C 0 dL_law_435 rfl rfl ?_
    refine wl_iconst (v := 3) (pc := 436) C dL_law_436 (by decide) ?_
    refine wl_iadd (pc := 437) C dL_law_437 ?_
    refine wl_sld (pc := 438) C h3 dL_law_438 ?_
    refine wl_aload_n (pc := 439) C 3 dL_law_439 rfl rfl ?_
    refine wl_iload_n (pc := 440) C 0 dL_law_440 rfl rfl ?_
    refine wl_iconst (v := 4) (pc := 441) C dL_law_441 (by decide) ?_
    refine wl_iadd (pc := 442) C dL_law_442 ?_
    refine wl_sld (pc := 443) C h4 dL_law_443 ?_
    refine wl_if_eq (pc := 444) C 451 dL_law_444 (by decide) (fun _ => ?_) (fun q => absurd hz q)
    refine wl_iconst (v := 0) (pc := 451) C dL_law_451 (by decide) ?_
    refine wl_callM (As := [.int (xs (Int32.toNatClampNeg (x3 + 1))), .int (xs (Int32.toNatClampNeg (x3 + 2))), .int (xs (Int32.toNatClampNeg (x3 + 3))), .int (0)]) (st := [.long (r)]) (pc := 452) C hB hBM hcn hsn (CtX11_apart c2) mX11_apart iX11_apart kL_46 rfl rfl rfl (Nat.le_of_ble_eq_true rfl) ⟨(Nat.le_of_ble_eq_true rfl), (Nat.le_of_ble_eq_true rfl)⟩ dL_law_452 ?_
    refine wl_lcmp (pc := 455) C dL_law_455 ?_
    refine wl_sameL (pc := 456) C 1433 dL_law_456 (by decide) ?_
    exact fin Sx1 Sm1 hr
  · refine wl_iconst (v := 1) (pc := 415) C dL_law_415 (by decide) ?_
    refine wl_goto (pc := 416) C 420 dL_law_416 (by decide) ?_
    obtain ⟨Sx1, Sm1, r, c1, c2, hr⟩ := hok (xs (Int32.toNatClampNeg (x3 + 1))) (xs (Int32.toNatClampNeg (x3 + 2))) (xs (Int32.toNatClampNeg (x3 + 3))) 1 (Or.inr rfl)
    refine wl_callX (As := [.int (xs (Int32.toNatClampNeg (x3 + 1))), .int (xs (Int32.toNatClampNeg (x3 + 2))), .int (xs (Int32.toNatClampNeg (x3 + 3))), .int (1)]) (st := []) (pc := 420) C hB hBM hcn hsn (CtX10_apart c1) mX10_apart iX10_apart kL_42 rfl rfl rfl (Nat.le_of_ble_eq_true rfl) ⟨(Nat.le_of_ble_eq_true rfl), (Nat.le_of_ble_eq_true rfl)⟩ dL_law_420 ?_
    refine wl_aload_n (pc := 423) C 1 dL_law_423 rfl rfl ?_
    refine wl_aload_n (pc := 424) C 3 dL_law_424 rfl rfl ?_
    refine wl_iload_n (pc := 425) C 0 dL_law_425 rfl rfl ?_
    refine wl_iconst (v := 1) (pc := 426) C dL_law_426 (by decide) ?_
    refine wl_iadd (pc := 427) C dL_law_427 ?_
    refine wl_sld (pc := 428) C h1 dL_law_428 ?_
    refine wl_aload_n (pc := 429) C 3 dL_law_429 rfl rfl ?_
    refine wl_iload_n (pc := 430) C 0 dL_law_430 rfl rfl ?_
    refine wl_iconst (v := 2) (pc := 431) C dL_law_431 (by decide) ?_
    refine wl_iadd (pc := 432) C dL_law_432 ?_
    refine wl_sld (pc := 433) C h2 dL_law_433 ?_
    refine wl_aload_n (pc := 434) C 3 dL_law_434 rfl rfl ?_
    refine wl_iload_n (pc := 435) C 0 dL_law_435 rfl rfl ?_
    refine wl_iconst (v := 3) (pc := 436) C dL_law_436 (by decide) ?_
    refine wl_iadd (pc := 437) C dL_law_437 ?_
    refine wl_sld (pc := 438) C h3 dL_law_438 ?_
    refine wl_aload_n (pc := 439) C 3 dL_law_439 rfl rfl ?_
    refine wl_iload_n (pc := 440) C 0 dL_law_440 rfl rfl ?_
    refine wl_iconst (v := 4) (pc := 441) C dL_law_441 (by decide) ?_
    refine wl_iadd (pc := 442) C dL_law_442 ?_
    refine wl_sld (pc := 443) C h4 dL_law_443 ?_
    refine wl_if_eq (pc := 444) C 451 dL_law_444 (by decide) (fun q => absurd q hz) (fun _ => ?_)
    refine wl_iconst (v := 1) (pc := 447) C dL_law_447 (by decide) ?_
    refine wl_goto (pc := 448) C 452 dL_law_448 (by decide) ?_
    refine wl_callM (As := [.int (xs (Int32.toNatClampNeg (x3 + 1))), .int (xs (Int32.toNatClampNeg (x3 + 2))), .int (xs (Int32.toNatClampNeg (x3 + 3))), .int (1)]) (st := [.long (r)]) (pc := 452) C hB hBM hcn hsn (CtX11_apart c2) mX11_apart iX11_apart kL_46 rfl rfl rfl (Nat.le_of_ble_eq_true rfl) ⟨(Nat.le_of_ble_eq_true rfl), (Nat.le_of_ble_eq_true rfl)⟩ dL_law_452 ?_
    refine wl_lcmp (pc := 455) C dL_law_455 ?_
    refine wl_sameL (pc := 456) C 1433 dL_law_456 (by decide) ?_
    exact fin Sx1 Sm1 hr
set_option maxRecDepth 100000 in
set_option maxHeartbeats 4000000 in
theorem wl_op7 (C : CL G b L xs) (hB : (gS G).heap.size ≤ BX) (hBM : BX + 272 ≤ BM) (hcn : cn ≤ 600000) (hsn : sn ≤ 7302250) {n : Nat} {Rel : St → St → Prop} (h1 : vp_in (x3 + 1) L) (h2 : vp_in (x3 + 2) L) (h3 : vp_in (x3 + 3) L) (h4 : vp_in (x3 + 4) L) (h5 : vp_in (x3 + 5) L) (hok : Ok_alike n Rel Sx Sm) (fin : ∀ Sx Sm : St, Rel Sx Sm → Wl G BX BM cn sn Q Sx Sm 1433 [(3, .int x3), (2, .ref (adB BM 0)), (1, .ref (adB BX 0)), (0, .ref b)] []) : Wl G BX BM cn sn Q Sx Sm 461 [(3, .int x3), (2, .ref (adB BM 0)), (1, .ref (adB BX 0)), (0, .ref b)] [] := by
  refine wl_aload_n (pc := 461) C 2 dL_law_461 rfl rfl ?_
  refine wl_aload_n (pc := 462) C 3 dL_law_462 rfl rfl ?_
  refine wl_iload_n (pc := 463) C 0 dL_law_463 rfl rfl ?_
  refine wl_iconst (v := 1) (pc := 464) C dL_law_464 (by decide) ?_
  refine wl_iadd (pc := 465) C dL_law_465 ?_
  refine wl_sld (pc := 466) C h1 dL_law_466 ?_
  refine wl_aload_n (pc := 467) C 3 dL_law_467 rfl rfl ?_
  refine wl_iload_n (pc := 468) C 0 dL_law_468 rfl rfl ?_
  refine wl_iconst (v := 2) (pc := 469) C dL_law_469 (by decide) ?_
  refine wl_iadd (pc := 470) C dL_law_470 ?_
  refine wl_sld (pc := 471) C h2 dL_law_471 ?_
  refine wl_aload_n (pc := 472) C 3 dL_law_472 rfl rfl ?_
  refine wl_iload_n (pc := 473) C 0 dL_law_473 rfl rfl ?_
  refine wl_iconst (v := 3) (pc := 474) C dL_law_474 (by decide) ?_
  refine wl_iadd (pc := 475) C dL_law_475 ?_
  refine wl_sld (pc := 476) C h3 dL_law_476 ?_
  refine wl_if_eq (pc := 477) C 484 dL_law_477 (by decide) (fun hz => ?_) (fun hz => ?_)
  · refine wl_iconst (v := 0) (pc := 484) C dL_law_484 (by decide) ?_
    obtain ⟨Sx1, Sm1, r, c1, c2, hr⟩ := hok (xs (Int32.toNatClampNeg (x3 + 1))) (xs (Int32.toNatClampNeg (x3 + 2))) 0 (Or.inl rfl)
    refine wl_callX (As := [.int (xs (Int32.toNatClampNeg (x3 + 1))), .int (xs (Int32.toNatClampNeg (x3 + 2))), .int (0)]) (st := []) (pc := 485) C hB hBM hcn hsn (CtX10_alike c1) mX10_alike iX10_alike kL_47 rfl rfl rfl (Nat.le_of_ble_eq_true rfl) ⟨(Nat.le_of_ble_eq_true rfl), (Nat.le_of_ble_eq_true rfl)⟩ dL_law_485 ?_
    refine wl_aload_n (pc := 488) C 1 dL_law_488 rfl rfl ?_
    refine wl_aload_n (pc := 489) C 3 dL_law_489 rfl rfl ?_
    refine wl_iload_n (pc := 490) C 0 dL_law_490 rfl rfl ?_
    refine wl_iconst (v := 1) (pc := 491) C dL_law_491 (by decide) ?_
    refine wl_iadd (pc := 492) C dL_law_492 ?_
    refine wl_sld (pc := 493) C h1 dL_law_493 ?_
    refine wl_aload_n (pc := 494) C 3 dL_law_494 rfl rfl ?_
    refine wl_iload_n (pc := 495) C 0 dL_law_495 rfl rfl ?_
    refine wl_iconst (v := 2) (pc := 496) C dL_law_496 (by decide) ?_
    refine wl_iadd (pc := 497) C dL_law_497 ?_
    refine wl_sld (pc := 498) C h2 dL_law_498 ?_
    refine wl_aload_n (pc := 499) C 3 dL_law_499 rfl rfl ?_
    refine wl_iload_n (pc := 500) C 0 dL_law_500 rfl rfl ?_
    refine wl_iconst (v := 3) (pc := 501) C dL_law_501 (by decide) ?_
    refine wl_iadd (pc := 502) C dL_law_502 ?_
    refine wl_sld (pc := 503) C h3 dL_law_503 ?_
    refine wl_if_eq (pc := 504) C 511 dL_law_504 (by decide) (fun _ => ?_) (fun q => absurd hz q)
    refine wl_iconst (v := 0) (pc := 511) C dL_law_511 (by decide) ?_
    refine wl_callM (As := [.int (xs (Int32.toNatClampNeg (x3 + 1))), .int (xs (Int32.toNatClampNeg (x3 + 2))), .int (0)]) (st := [.int (r)]) (pc := 512) C hB hBM hcn hsn (CtX11_alike c2) mX11_alike iX11_alike kL_51 rfl rfl rfl (Nat.le_of_ble_eq_true rfl) ⟨(Nat.le_of_ble_eq_true rfl), (Nat.le_of_ble_eq_true rfl)⟩ dL_law_512 ?_
    refine wl_same (pc := 515) C 1433 dL_law_515 (by decide) ?_
    exact fin Sx1 Sm1 hr
  · refine wl_iconst (v := 1) (pc := 480) C dL_law_480 (by decide) ?_
    refine wl_goto (pc := 481) C 485 dL_law_481 (by decide) ?_
    obtain ⟨Sx1, Sm1, r, c1, c2, hr⟩ := hok (xs (Int32.toNatClampNeg (x3 + 1))) (xs (Int32.toNatClampNeg (x3 + 2))) 1 (Or.inr rfl)
    refine wl_callX (As := [.int (xs (Int32.toNatClampNeg (x3 + 1))), .int (xs (Int32.toNatClampNeg (x3 + 2))), .int (1)]) (st := []) (pc := 485) C hB hBM hcn hsn (CtX10_alike c1) mX10_alike iX10_alike kL_47 rfl rfl rfl (Nat.le_of_ble_eq_true rfl) ⟨(Nat.le_of_ble_eq_true rfl), (Nat.le_of_ble_eq_true rfl)⟩ dL_law_485 ?_
    refine wl_aload_n (pc := 488) C 1 dL_law_488 rfl rfl ?_
    refine wl_aload_n (pc := 489) C 3 dL_law_489 rfl rfl ?_
    refine wl_iload_n (pc := 490) C 0 dL_law_490 rfl rfl ?_
    refine wl_iconst (v := 1) (pc := 491) C dL_law_491 (by decide) ?_
    refine wl_iadd (pc := 492) C dL_law_492 ?_
    refine wl_sld (pc := 493) C h1 dL_law_493 ?_
    refine wl_aload_n (pc := 494) C 3 dL_law_494 rfl rfl ?_
    refine wl_iload_n (pc := 495) C 0 dL_law_495 rfl rfl ?_
    refine wl_iconst (v := 2) (pc := 496) C dL_law_496 (by decide) ?_
    refine wl_iadd (pc := 497) C dL_law_497 ?_
    refine wl_sld (pc := 498) C h2 dL_law_498 ?_
    refine wl_aload_n (pc := 499) C 3 dL_law_499 rfl rfl ?_
    refine wl_iload_n (pc := 500) C 0 dL_law_500 rfl rfl ?_
    refine wl_iconst (v := 3) (pc := 501) C dL_law_501 (by decide) ?_
    refine wl_iadd (pc := 502) C dL_law_502 ?_
    refine wl_sld (pc := 503) C h3 dL_law_503 ?_
    refine wl_if_eq (pc := 504) C 511 dL_law_504 (by decide) (fun q => absurd q hz) (fun _ => ?_)
    refine wl_iconst (v := 1) (pc := 507) C dL_law_507 (by decide) ?_
    refine wl_goto (pc := 508) C 512 dL_law_508 (by decide) ?_
    refine wl_callM (As := [.int (xs (Int32.toNatClampNeg (x3 + 1))), .int (xs (Int32.toNatClampNeg (x3 + 2))), .int (1)]) (st := [.int (r)]) (pc := 512) C hB hBM hcn hsn (CtX11_alike c2) mX11_alike iX11_alike kL_51 rfl rfl rfl (Nat.le_of_ble_eq_true rfl) ⟨(Nat.le_of_ble_eq_true rfl), (Nat.le_of_ble_eq_true rfl)⟩ dL_law_512 ?_
    refine wl_same (pc := 515) C 1433 dL_law_515 (by decide) ?_
    exact fin Sx1 Sm1 hr
set_option maxRecDepth 100000 in
set_option maxHeartbeats 4000000 in
theorem wl_op8 (C : CL G b L xs) (hB : (gS G).heap.size ≤ BX) (hBM : BX + 272 ≤ BM) (hcn : cn ≤ 600000) (hsn : sn ≤ 7302250) {n : Nat} {Rel : St → St → Prop} (h1 : vp_in (x3 + 1) L) (h2 : vp_in (x3 + 2) L) (h3 : vp_in (x3 + 3) L) (h4 : vp_in (x3 + 4) L) (h5 : vp_in (x3 + 5) L) (hok : Ok_cost n Rel Sx Sm) (fin : ∀ Sx Sm : St, Rel Sx Sm → Wl G BX BM cn sn Q Sx Sm 1433 [(3, .int x3), (2, .ref (adB BM 0)), (1, .ref (adB BX 0)), (0, .ref b)] []) : Wl G BX BM cn sn Q Sx Sm 520 [(3, .int x3), (2, .ref (adB BM 0)), (1, .ref (adB BX 0)), (0, .ref b)] [] := by
  refine wl_aload_n (pc := 520) C 2 dL_law_520 rfl rfl ?_
  refine wl_aload_n (pc := 521) C 3 dL_law_521 rfl rfl ?_
  refine wl_iload_n (pc := 522) C 0 dL_law_522 rfl rfl ?_
  refine wl_iconst (v := 1) (pc := 523) C dL_law_523 (by decide) ?_
  refine wl_iadd (pc := 524) C dL_law_524 ?_
  refine wl_sld (pc := 525) C h1 dL_law_525 ?_
  obtain ⟨Sx1, Sm1, r, c1, c2, hr⟩ := hok (xs (Int32.toNatClampNeg (x3 + 1))) 
  refine wl_callX (As := [.int (xs (Int32.toNatClampNeg (x3 + 1)))]) (st := []) (pc := 526) C hB hBM hcn hsn (CtX10_cost c1) mX10_cost iX10_cost kL_52 rfl rfl rfl (Nat.le_of_ble_eq_true rfl) ⟨(Nat.le_of_ble_eq_true rfl), (Nat.le_of_ble_eq_true rfl)⟩ dL_law_526 ?_
  refine wl_aload_n (pc := 529) C 1 dL_law_529 rfl rfl ?_
  refine wl_aload_n (pc := 530) C 3 dL_law_530 rfl rfl ?_
  refine wl_iload_n (pc := 531) C 0 dL_law_531 rfl rfl ?_
  refine wl_iconst (v := 1) (pc := 532) C dL_law_532 (by decide) ?_
  refine wl_iadd (pc := 533) C dL_law_533 ?_
  refine wl_sld (pc := 534) C h1 dL_law_534 ?_
  refine wl_callM (As := [.int (xs (Int32.toNatClampNeg (x3 + 1)))]) (st := [.int (r)]) (pc := 535) C hB hBM hcn hsn (CtX11_cost c2) mX11_cost iX11_cost kL_55 rfl rfl rfl (Nat.le_of_ble_eq_true rfl) ⟨(Nat.le_of_ble_eq_true rfl), (Nat.le_of_ble_eq_true rfl)⟩ dL_law_535 ?_
  refine wl_same (pc := 538) C 1433 dL_law_538 (by decide) ?_
  exact fin Sx1 Sm1 hr
set_option maxRecDepth 100000 in
set_option maxHeartbeats 4000000 in
theorem wl_op9 (C : CL G b L xs) (hB : (gS G).heap.size ≤ BX) (hBM : BX + 272 ≤ BM) (hcn : cn ≤ 600000) (hsn : sn ≤ 7302250) {n : Nat} {Rel : St → St → Prop} (h1 : vp_in (x3 + 1) L) (h2 : vp_in (x3 + 2) L) (h3 : vp_in (x3 + 3) L) (h4 : vp_in (x3 + 4) L) (h5 : vp_in (x3 + 5) L) (hok : Ok_ask n Rel Sx Sm) (fin : ∀ Sx Sm : St, Rel Sx Sm → Wl G BX BM cn sn Q Sx Sm 1433 [(3, .int x3), (2, .ref (adB BM 0)), (1, .ref (adB BX 0)), (0, .ref b)] []) : Wl G BX BM cn sn Q Sx Sm 543 [(3, .int x3), (2, .ref (adB BM 0)), (1, .ref (adB BX 0)), (0, .ref b)] [] := by
  refine wl_aload_n (pc := 543) C 2 dL_law_543 rfl rfl ?_
  refine wl_aload_n (pc := 544) C 3 dL_law_544 rfl rfl ?_
  refine wl_iload_n (pc := 545) C 0 dL_law_545 rfl rfl ?_
  refine wl_iconst (v := 1) (pc := 546) C dL_law_546 (by decide) ?_
  refine wl_iadd (pc := 547) C dL_law_547 ?_
  refine wl_sld (pc := 548) C h1 dL_law_548 ?_
  refine wl_aload_n (pc := 549) C 3 dL_law_549 rfl rfl ?_
  refine wl_iload_n (pc := 550) C 0 dL_law_550 rfl rfl ?_
  refine wl_iconst (v := 2) (pc := 551) C dL_law_551 (by decide) ?_
  refine wl_iadd (pc := 552) C dL_law_552 ?_
  refine wl_sld (pc := 553) C h2 dL_law_553 ?_
  refine wl_aload_n (pc := 554) C 3 dL_law_554 rfl rfl ?_
  refine wl_iload_n (pc := 555) C 0 dL_law_555 rfl rfl ?_
  refine wl_iconst (v := 3) (pc := 556) C dL_law_556 (by decide) ?_
  refine wl_iadd (pc := 557) C dL_law_557 ?_
  refine wl_sld (pc := 558) C h3 dL_law_558 ?_
  refine wl_aload_n (pc := 559) C 3 dL_law_559 rfl rfl ?_
  refine wl_iload_n (pc := 560) C 0 dL_law_560 rfl rfl ?_
  refine wl_iconst (v := 4) (pc := 561) C dL_law_561 (by decide) ?_
  refine wl_iadd (pc := 562) C dL_law_562 ?_
  refine wl_sld (pc := 563) C h4 dL_law_563 ?_
  obtain ⟨Sx1, Sm1, r, c1, c2, hr⟩ := hok (xs (Int32.toNatClampNeg (x3 + 1))) (xs (Int32.toNatClampNeg (x3 + 2))) (xs (Int32.toNatClampNeg (x3 + 3))) (xs (Int32.toNatClampNeg (x3 + 4))) 
  refine wl_callX (As := [.int (xs (Int32.toNatClampNeg (x3 + 1))), .int (xs (Int32.toNatClampNeg (x3 + 2))), .int (xs (Int32.toNatClampNeg (x3 + 3))), .int (xs (Int32.toNatClampNeg (x3 + 4)))]) (st := []) (pc := 564) C hB hBM hcn hsn (CtX10_ask c1) mX10_ask iX10_ask kL_56 rfl rfl rfl (Nat.le_of_ble_eq_true rfl) ⟨(Nat.le_of_ble_eq_true rfl), (Nat.le_of_ble_eq_true rfl)⟩ dL_law_564 ?_
  refine wl_aload_n (pc := 567) C 1 dL_law_567 rfl rfl ?_
  refine wl_aload_n (pc := 568) C 3 dL_law_568 rfl rfl ?_
  refine wl_iload_n (pc := 569) C 0 dL_law_569 rfl rfl ?_
  refine wl_iconst (v := 1) (pc := 570) C dL_law_570 (by decide) ?_
  refine wl_iadd (pc := 571) C dL_law_571 ?_
  refine wl_sld (pc := 572) C h1 dL_law_572 ?_
  refine wl_aload_n (pc := 573) C 3 dL_law_573 rfl rfl ?_
  refine wl_iload_n (pc := 574) C 0 dL_law_574 rfl rfl ?_
  refine wl_iconst (v := 2) (pc := 575) C dL_law_575 (by decide) ?_
  refine wl_iadd (pc := 576) C dL_law_576 ?_
  refine wl_sld (pc := 577) C h2 dL_law_577 ?_
  refine wl_aload_n (pc := 578) C 3 dL_law_578 rfl rfl ?_
  refine wl_iload_n (pc := 579) C 0 dL_law_579 rfl rfl ?_
  refine wl_iconst (v := 3) (pc := 580) C dL_law_580 (by decide) ?_
  refine wl_iadd (pc := 581) C dL_law_581 ?_
  refine wl_sld (pc := 582) C h3 dL_law_582 ?_
  refine wl_aload_n (pc := 583) C 3 dL_law_583 rfl rfl ?_
  refine wl_iload_n (pc := 584) C 0 dL_law_584 rfl rfl ?_
  refine wl_iconst (v := 4) (pc := 585) C dL_law_585 (by decide) ?_
  refine wl_iadd (pc := 586) C dL_law_586 ?_
  refine wl_sld (pc := 587) C h4 dL_law_587 ?_
  refine wl_callM (As := [.int (xs (Int32.toNatClampNeg (x3 + 1))), .int (xs (Int32.toNatClampNeg (x3 + 2))), .int (xs (Int32.toNatClampNeg (x3 + 3))), .int (xs (Int32.toNatClampNeg (x3 + 4)))]) (st := [.int (r)]) (pc := 588) C hB hBM hcn hsn (CtX11_ask c2) mX11_ask iX11_ask kL_60 rfl rfl rfl (Nat.le_of_ble_eq_true rfl) ⟨(Nat.le_of_ble_eq_true rfl), (Nat.le_of_ble_eq_true rfl)⟩ dL_law_588 ?_
  refine wl_same (pc := 591) C 1433 dL_law_591 (by decide) ?_
  exact fin Sx1 Sm1 hr
set_option maxRecDepth 100000 in
set_option maxHeartbeats 4000000 in
theorem wl_op10 (C : CL G b L xs) (hB : (gS G).heap.size ≤ BX) (hBM : BX + 272 ≤ BM) (hcn : cn ≤ 600000) (hsn : sn ≤ 7302250) {n : Nat} {Rel : St → St → Prop} (h1 : vp_in (x3 + 1) L) (h2 : vp_in (x3 + 2) L) (h3 : vp_in (x3 + 3) L) (h4 : vp_in (x3 + 4) L) (h5 : vp_in (x3 + 5) L) (hok : Ok_mixes n Rel Sx Sm) (fin : ∀ Sx Sm : St, Rel Sx Sm → Wl G BX BM cn sn Q Sx Sm 1433 [(3, .int x3), (2, .ref (adB BM 0)), (1, .ref (adB BX 0)), (0, .ref b)] []) : Wl G BX BM cn sn Q Sx Sm 596 [(3, .int x3), (2, .ref (adB BM 0)), (1, .ref (adB BX 0)), (0, .ref b)] [] := by
  refine wl_aload_n (pc := 596) C 2 dL_law_596 rfl rfl ?_
  obtain ⟨Sx1, Sm1, r, c1, c2, hr⟩ := hok  
  refine wl_callX (As := []) (st := []) (pc := 597) C hB hBM hcn hsn (CtX10_mixes c1) mX10_mixes iX10_mixes kL_61 rfl rfl rfl (Nat.le_of_ble_eq_true rfl) ⟨(Nat.le_of_ble_eq_true rfl), (Nat.le_of_ble_eq_true rfl)⟩ dL_law_597 ?_
  refine wl_aload_n (pc := 600) C 1 dL_law_600 rfl rfl ?_
  refine wl_callM (As := []) (st := [.int (r)]) (pc := 601) C hB hBM hcn hsn (CtX11_mixes c2) mX11_mixes iX11_mixes kL_64 rfl rfl rfl (Nat.le_of_ble_eq_true rfl) ⟨(Nat.le_of_ble_eq_true rfl), (Nat.le_of_ble_eq_true rfl)⟩ dL_law_601 ?_
  refine wl_same (pc := 604) C 1433 dL_law_604 (by decide) ?_
  exact fin Sx1 Sm1 hr
set_option maxRecDepth 100000 in
set_option maxHeartbeats 4000000 in
theorem wl_op11 (C : CL G b L xs) (hB : (gS G).heap.size ≤ BX) (hBM : BX + 272 ≤ BM) (hcn : cn ≤ 600000) (hsn : sn ≤ 7302250) {n : Nat} {Rel : St → St → Prop} (h1 : vp_in (x3 + 1) L) (h2 : vp_in (x3 + 2) L) (h3 : vp_in (x3 + 3) L) (h4 : vp_in (x3 + 4) L) (h5 : vp_in (x3 + 5) L) (hok : Ok_match n Rel Sx Sm) (fin : ∀ Sx Sm : St, Rel Sx Sm → Wl G BX BM cn sn Q Sx Sm 1433 [(3, .int x3), (2, .ref (adB BM 0)), (1, .ref (adB BX 0)), (0, .ref b)] []) : Wl G BX BM cn sn Q Sx Sm 609 [(3, .int x3), (2, .ref (adB BM 0)), (1, .ref (adB BX 0)), (0, .ref b)] [] := by
  refine wl_aload_n (pc := 609) C 2 dL_law_609 rfl rfl ?_
  refine wl_aload_n (pc := 610) C 3 dL_law_610 rfl rfl ?_
  refine wl_iload_n (pc := 611) C 0 dL_law_611 rfl rfl ?_
  refine wl_iconst (v := 1) (pc := 612) C dL_law_612 (by decide) ?_
  refine wl_iadd (pc := 613) C dL_law_613 ?_
  refine wl_sld (pc := 614) C h1 dL_law_614 ?_
  refine wl_aload_n (pc := 615) C 3 dL_law_615 rfl rfl ?_
  refine wl_iload_n (pc := 616) C 0 dL_law_616 rfl rfl ?_
  refine wl_iconst (v := 2) (pc := 617) C dL_law_617 (by decide) ?_
  refine wl_iadd (pc := 618) C dL_law_618 ?_
  refine wl_sld (pc := 619) C h2 dL_law_619 ?_
  refine wl_if_eq (pc := 620) C 627 dL_law_620 (by decide) (fun hz => ?_) (fun hz => ?_)
  · refine wl_iconst (v := 0) (pc := 627) C dL_law_627 (by decide) ?_
    obtain ⟨Sx1, Sm1, r, c1, c2, hr⟩ := hok (xs (Int32.toNatClampNeg (x3 + 1))) 0 (Or.inl rfl)
    refine wl_callX (As := [.int (xs (Int32.toNatClampNeg (x3 + 1))), .int (0)]) (st := []) (pc := 628) C hB hBM hcn hsn (CtX10_match c1) mX10_match iX10_match kL_65 rfl rfl rfl (Nat.le_of_ble_eq_true rfl) ⟨(Nat.le_of_ble_eq_true rfl), (Nat.le_of_ble_eq_true rfl)⟩ dL_law_628 ?_
    refine wl_aload_n (pc := 631) C 1 dL_law_631 rfl rfl ?_
    refine wl_aload_n (pc := 632) C 3 dL_law_632 rfl rfl ?_
    refine wl_iload_n (pc := 633) C 0 dL_law_633 rfl rfl ?_
    refine wl_iconst (v := 1) (pc := 634) C dL_law_634 (by decide) ?_
    refine wl_iadd (pc := 635) C dL_law_635 ?_
    refine wl_sld (pc := 636) C h1 dL_law_636 ?_
    refine wl_aload_n (pc := 637) C 3 dL_law_637 rfl rfl ?_
    refine wl_iload_n (pc := 638) C 0 dL_law_638 rfl rfl ?_
    refine wl_iconst (v := 2) (pc := 639) C dL_law_639 (by decide) ?_
    refine wl_iadd (pc := 640) C dL_law_640 ?_
    refine wl_sld (pc := 641) C h2 dL_law_641 ?_
    refine wl_if_eq (pc := 642) C 649 dL_law_642 (by decide) (fun _ => ?_) (fun q => absurd hz q)
    refine wl_iconst (v := 0) (pc := 649) C dL_law_649 (by decide) ?_
    refine wl_callM (As := [.int (xs (Int32.toNatClampNeg (x3 + 1))), .int (0)]) (st := [.int (r)]) (pc := 650) C hB hBM hcn hsn (CtX11_match c2) mX11_match iX11_match kL_69 rfl rfl rfl (Nat.le_of_ble_eq_true rfl) ⟨(Nat.le_of_ble_eq_true rfl), (Nat.le_of_ble_eq_true rfl)⟩ dL_law_650 ?_
    refine wl_same (pc := 653) C 1433 dL_law_653 (by decide) ?_
    exact fin Sx1 Sm1 hr
  · refine wl_iconst (v := 1) (pc := 623) C dL_law_623 (by decide) ?_
    refine wl_goto (pc := 624) C 628 dL_law_624 (by decide) ?_
    obtain ⟨Sx1, Sm1, r, c1, c2, hr⟩ := hok (xs (Int32.toNatClampNeg (x3 + 1))) 1 (Or.inr rfl)
    refine wl_callX (As := [.int (xs (Int32.toNatClampNeg (x3 + 1))), .int (1)]) (st := []) (pc := 628) C hB hBM hcn hsn (CtX10_match c1) mX10_match iX10_match kL_65 rfl rfl rfl (Nat.le_of_ble_eq_true rfl) ⟨(Nat.le_of_ble_eq_true rfl), (Nat.le_of_ble_eq_true rfl)⟩ dL_law_628 ?_
    refine wl_aload_n (pc := 631) C 1 dL_law_631 rfl rfl ?_
    refine wl_aload_n (pc := 632) C 3 dL_law_632 rfl rfl ?_
    refine wl_iload_n (pc := 633) C 0 dL_law_633 rfl rfl ?_
    refine wl_iconst (v := 1) (pc := 634) C dL_law_634 (by decide) ?_
    refine wl_iadd (pc := 635) C dL_law_635 ?_
    refine wl_sld (pc := 636) C h1 dL_law_636 ?_
    refine wl_aload_n (pc := 637) C 3 dL_law_637 rfl rfl ?_
    refine wl_iload_n (pc := 638) C 0 dL_law_638 rfl rfl ?_
    refine wl_iconst (v := 2) (pc := 639) C dL_law_639 (by decide) ?_
    refine wl_iadd (pc := 640) C dL_law_640 ?_
    refine wl_sld (pc := 641) C h2 dL_law_641 ?_
    refine wl_if_eq (pc := 642) C 649 dL_law_642 (by decide) (fun q => absurd q hz) (fun _ => ?_)
    refine wl_iconst (v := 1) (pc := 645) C dL_law_645 (by decide) ?_
    refine wl_goto (pc := 646) C 650 dL_law_646 (by decide) ?_
    refine wl_callM (As := [.int (xs (Int32.toNatClampNeg (x3 + 1))), .int (1)]) (st := [.int (r)]) (pc := 650) C hB hBM hcn hsn (CtX11_match c2) mX11_match iX11_match kL_69 rfl rfl rfl (Nat.le_of_ble_eq_true rfl) ⟨(Nat.le_of_ble_eq_true rfl), (Nat.le_of_ble_eq_true rfl)⟩ dL_law_650 ?_
    refine wl_same (pc := 653) C 1433 dL_law_653 (by decide) ?_
    exact fin Sx1 Sm1 hr
set_option maxRecDepth 100000 in
set_option maxHeartbeats 4000000 in
theorem wl_op12 (C : CL G b L xs) (hB : (gS G).heap.size ≤ BX) (hBM : BX + 272 ≤ BM) (hcn : cn ≤ 600000) (hsn : sn ≤ 7302250) {n : Nat} {Rel : St → St → Prop} (h1 : vp_in (x3 + 1) L) (h2 : vp_in (x3 + 2) L) (h3 : vp_in (x3 + 3) L) (h4 : vp_in (x3 + 4) L) (h5 : vp_in (x3 + 5) L) (hok : Ok_nearest n Rel Sx Sm) (fin : ∀ Sx Sm : St, Rel Sx Sm → Wl G BX BM cn sn Q Sx Sm 1433 [(3, .int x3), (2, .ref (adB BM 0)), (1, .ref (adB BX 0)), (0, .ref b)] []) : Wl G BX BM cn sn Q Sx Sm 658 [(3, .int x3), (2, .ref (adB BM 0)), (1, .ref (adB BX 0)), (0, .ref b)] [] := by
  refine wl_aload_n (pc := 658) C 2 dL_law_658 rfl rfl ?_
  refine wl_aload_n (pc := 659) C 3 dL_law_659 rfl rfl ?_
  refine wl_iload_n (pc := 660) C 0 dL_law_660 rfl rfl ?_
  refine wl_iconst (v := 1) (pc := 661) C dL_law_661 (by decide) ?_
  refine wl_iadd (pc := 662) C dL_law_662 ?_
  refine wl_sld (pc := 663) C h1 dL_law_663 ?_
  refine wl_aload_n (pc := 664) C 3 dL_law_664 rfl rfl ?_
  refine wl_iload_n (pc := 665) C 0 dL_law_665 rfl rfl ?_
  refine wl_iconst (v := 2) (pc := 666) C dL_law_666 (by decide) ?_
  refine wl_iadd (pc := 667) C dL_law_667 ?_
  refine wl_sld (pc := 668) C h2 dL_law_668 ?_
  refine wl_if_eq (pc := 669) C 676 dL_law_669 (by decide) (fun hz => ?_) (fun hz => ?_)
  · refine wl_iconst (v := 0) (pc := 676) C dL_law_676 (by decide) ?_
    obtain ⟨Sx1, Sm1, r, c1, c2, hr⟩ := hok (xs (Int32.toNatClampNeg (x3 + 1))) 0 (Or.inl rfl)
    refine wl_callX (As := [.int (xs (Int32.toNatClampNeg (x3 + 1))), .int (0)]) (st := []) (pc := 677) C hB hBM hcn hsn (CtX10_nearest c1) mX10_nearest iX10_nearest kL_70 rfl rfl rfl (Nat.le_of_ble_eq_true rfl) ⟨(Nat.le_of_ble_eq_true rfl), (Nat.le_of_ble_eq_true rfl)⟩ dL_law_677 ?_
    refine wl_aload_n (pc := 680) C 1 dL_law_680 rfl rfl ?_
    refine wl_aload_n (pc := 681) C 3 dL_law_681 rfl rfl ?_
    refine wl_iload_n (pc := 682) C 0 dL_law_682 rfl rfl ?_
    refine wl_iconst (v := 1) (pc := 683) C dL_law_683 (by decide) ?_
    refine wl_iadd (pc := 684) C dL_law_684 ?_
    refine wl_sld (pc := 685) C h1 dL_law_685 ?_
    refine wl_aload_n (pc := 686) C 3 dL_law_686 rfl rfl ?_
    refine wl_iload_n (pc := 687) C 0 dL_law_687 rfl rfl ?_
    refine wl_iconst (v := 2) (pc := 688) C dL_law_688 (by decide) ?_
    refine wl_iadd (pc := 689) C dL_law_689 ?_
    refine wl_sld (pc := 690) C h2 dL_law_690 ?_
    refine wl_if_eq (pc := 691) C 698 dL_law_691 (by decide) (fun _ => ?_) (fun q => absurd hz q)
    refine wl_iconst (v := 0) (pc := 698) C dL_law_698 (by decide) ?_
    refine wl_callM (As := [.int (xs (Int32.toNatClampNeg (x3 + 1))), .int (0)]) (st := [.long (r)]) (pc := 699) C hB hBM hcn hsn (CtX11_nearest c2) mX11_nearest iX11_nearest kL_74 rfl rfl rfl (Nat.le_of_ble_eq_true rfl) ⟨(Nat.le_of_ble_eq_true rfl), (Nat.le_of_ble_eq_true rfl)⟩ dL_law_699 ?_
    refine wl_lcmp (pc := 702) C dL_law_702 ?_
    refine wl_sameL (pc := 703) C 1433 dL_law_703 (by decide) ?_
    exact fin Sx1 Sm1 hr
  · refine wl_iconst (v := 1) (pc := 672) C dL_law_672 (by decide) ?_
    refine wl_goto (pc := 673) C 677 dL_law_673 (by decide) ?_
    obtain ⟨Sx1, Sm1, r, c1, c2, hr⟩ := hok (xs (Int32.toNatClampNeg (x3 + 1))) 1 (Or.inr rfl)
    refine wl_callX (As := [.int (xs (Int32.toNatClampNeg (x3 + 1))), .int (1)]) (st := []) (pc := 677) C hB hBM hcn hsn (CtX10_nearest c1) mX10_nearest iX10_nearest kL_70 rfl rfl rfl (Nat.le_of_ble_eq_true rfl) ⟨(Nat.le_of_ble_eq_true rfl), (Nat.le_of_ble_eq_true rfl)⟩ dL_law_677 ?_
    refine wl_aload_n (pc := 680) C 1 dL_law_680 rfl rfl ?_
    refine wl_aload_n (pc := 681) C 3 dL_law_681 rfl rfl ?_
    refine wl_iload_n (pc := 682) C 0 dL_law_682 rfl rfl ?_
    refine wl_iconst (v := 1) (pc := 683) C dL_law_683 (by decide) ?_
    refine wl_iadd (pc := 684) C dL_law_684 ?_
    refine wl_sld (pc := 685) C h1 dL_law_685 ?_
    refine wl_aload_n (pc := 686) C 3 dL_law_686 rfl rfl ?_
    refine wl_iload_n (pc := 687) C 0 dL_law_687 rfl rfl ?_
    refine wl_iconst (v := 2) (pc := 688) C dL_law_688 (by decide) ?_
    refine wl_iadd (pc := 689) C dL_law_689 ?_
    refine wl_sld (pc := 690) C h2 dL_law_690 ?_
    refine wl_if_eq (pc := 691) C 698 dL_law_691 (by decide) (fun q => absurd q hz) (fun _ => ?_)
    refine wl_iconst (v := 1) (pc := 694) C dL_law_694 (by decide) ?_
    refine wl_goto (pc := 695) C 699 dL_law_695 (by decide) ?_
    refine wl_callM (As := [.int (xs (Int32.toNatClampNeg (x3 + 1))), .int (1)]) (st := [.long (r)]) (pc := 699) C hB hBM hcn hsn (CtX11_nearest c2) mX11_nearest iX11_nearest kL_74 rfl rfl rfl (Nat.le_of_ble_eq_true rfl) ⟨(Nat.le_of_ble_eq_true rfl), (Nat.le_of_ble_eq_true rfl)⟩ dL_law_699 ?_
    refine wl_lcmp (pc := 702) C dL_law_702 ?_
    refine wl_sameL (pc := 703) C 1433 dL_law_703 (by decide) ?_
    exact fin Sx1 Sm1 hr
set_option maxRecDepth 100000 in
set_option maxHeartbeats 4000000 in
theorem wl_op13 (C : CL G b L xs) (hB : (gS G).heap.size ≤ BX) (hBM : BX + 272 ≤ BM) (hcn : cn ≤ 600000) (hsn : sn ≤ 7302250) {n : Nat} {Rel : St → St → Prop} (h1 : vp_in (x3 + 1) L) (h2 : vp_in (x3 + 2) L) (h3 : vp_in (x3 + 3) L) (h4 : vp_in (x3 + 4) L) (h5 : vp_in (x3 + 5) L) (hok : Ok_best n Rel Sx Sm) (fin : ∀ Sx Sm : St, Rel Sx Sm → Wl G BX BM cn sn Q Sx Sm 1433 [(3, .int x3), (2, .ref (adB BM 0)), (1, .ref (adB BX 0)), (0, .ref b)] []) : Wl G BX BM cn sn Q Sx Sm 708 [(3, .int x3), (2, .ref (adB BM 0)), (1, .ref (adB BX 0)), (0, .ref b)] [] := by
  refine wl_aload_n (pc := 708) C 2 dL_law_708 rfl rfl ?_
  refine wl_aload_n (pc := 709) C 3 dL_law_709 rfl rfl ?_
  refine wl_iload_n (pc := 710) C 0 dL_law_710 rfl rfl ?_
  refine wl_iconst (v := 1) (pc := 711) C dL_law_711 (by decide) ?_
  refine wl_iadd (pc := 712) C dL_law_712 ?_
  refine wl_sld (pc := 713) C h1 dL_law_713 ?_
  refine wl_aload_n (pc := 714) C 3 dL_law_714 rfl rfl ?_
  refine wl_iload_n (pc := 715) C 0 dL_law_715 rfl rfl ?_
  refine wl_iconst (v := 2) (pc := 716) C dL_law_716 (by decide) ?_
  refine wl_iadd (pc := 717) C dL_law_717 ?_
  refine wl_sld (pc := 718) C h2 dL_law_718 ?_
  refine wl_if_eq (pc := 719) C 726 dL_law_719 (by decide) (fun hz => ?_) (fun hz => ?_)
  · refine wl_iconst (v := 0) (pc := 726) C dL_law_726 (by decide) ?_
    obtain ⟨Sx1, Sm1, r, c1, c2, hr⟩ := hok (xs (Int32.toNatClampNeg (x3 + 1))) 0 (Or.inl rfl)
    refine wl_callX (As := [.int (xs (Int32.toNatClampNeg (x3 + 1))), .int (0)]) (st := []) (pc := 727) C hB hBM hcn hsn (CtX10_best c1) mX10_best iX10_best kL_75 rfl rfl rfl (Nat.le_of_ble_eq_true rfl) ⟨(Nat.le_of_ble_eq_true rfl), (Nat.le_of_ble_eq_true rfl)⟩ dL_law_727 ?_
    refine wl_aload_n (pc := 730) C 1 dL_law_730 rfl rfl ?_
    refine wl_aload_n (pc := 731) C 3 dL_law_731 rfl rfl ?_
    refine wl_iload_n (pc := 732) C 0 dL_law_732 rfl rfl ?_
    refine wl_iconst (v := 1) (pc := 733) C dL_law_733 (by decide) ?_
    refine wl_iadd (pc := 734) C dL_law_734 ?_
    refine wl_sld (pc := 735) C h1 dL_law_735 ?_
    refine wl_aload_n (pc := 736) C 3 dL_law_736 rfl rfl ?_
    refine wl_iload_n (pc := 737) C 0 dL_law_737 rfl rfl ?_
    refine wl_iconst (v := 2) (pc := 738) C dL_law_738 (by decide) ?_
    refine wl_iadd (pc := 739) C dL_law_739 ?_
    refine wl_sld (pc := 740) C h2 dL_law_740 ?_
    refine wl_if_eq (pc := 741) C 748 dL_law_741 (by decide) (fun _ => ?_) (fun q => absurd hz q)
    refine wl_iconst (v := 0) (pc := 748) C dL_law_748 (by decide) ?_
    refine wl_callM (As := [.int (xs (Int32.toNatClampNeg (x3 + 1))), .int (0)]) (st := [.int (r)]) (pc := 749) C hB hBM hcn hsn (CtX11_best c2) mX11_best iX11_best kL_78 rfl rfl rfl (Nat.le_of_ble_eq_true rfl) ⟨(Nat.le_of_ble_eq_true rfl), (Nat.le_of_ble_eq_true rfl)⟩ dL_law_749 ?_
    refine wl_same (pc := 752) C 1433 dL_law_752 (by decide) ?_
    exact fin Sx1 Sm1 hr
  · refine wl_iconst (v := 1) (pc := 722) C dL_law_722 (by decide) ?_
    refine wl_goto (pc := 723) C 727 dL_law_723 (by decide) ?_
    obtain ⟨Sx1, Sm1, r, c1, c2, hr⟩ := hok (xs (Int32.toNatClampNeg (x3 + 1))) 1 (Or.inr rfl)
    refine wl_callX (As := [.int (xs (Int32.toNatClampNeg (x3 + 1))), .int (1)]) (st := []) (pc := 727) C hB hBM hcn hsn (CtX10_best c1) mX10_best iX10_best kL_75 rfl rfl rfl (Nat.le_of_ble_eq_true rfl) ⟨(Nat.le_of_ble_eq_true rfl), (Nat.le_of_ble_eq_true rfl)⟩ dL_law_727 ?_
    refine wl_aload_n (pc := 730) C 1 dL_law_730 rfl rfl ?_
    refine wl_aload_n (pc := 731) C 3 dL_law_731 rfl rfl ?_
    refine wl_iload_n (pc := 732) C 0 dL_law_732 rfl rfl ?_
    refine wl_iconst (v := 1) (pc := 733) C dL_law_733 (by decide) ?_
    refine wl_iadd (pc := 734) C dL_law_734 ?_
    refine wl_sld (pc := 735) C h1 dL_law_735 ?_
    refine wl_aload_n (pc := 736) C 3 dL_law_736 rfl rfl ?_
    refine wl_iload_n (pc := 737) C 0 dL_law_737 rfl rfl ?_
    refine wl_iconst (v := 2) (pc := 738) C dL_law_738 (by decide) ?_
    refine wl_iadd (pc := 739) C dL_law_739 ?_
    refine wl_sld (pc := 740) C h2 dL_law_740 ?_
    refine wl_if_eq (pc := 741) C 748 dL_law_741 (by decide) (fun q => absurd q hz) (fun _ => ?_)
    refine wl_iconst (v := 1) (pc := 744) C dL_law_744 (by decide) ?_
    refine wl_goto (pc := 745) C 749 dL_law_745 (by decide) ?_
    refine wl_callM (As := [.int (xs (Int32.toNatClampNeg (x3 + 1))), .int (1)]) (st := [.int (r)]) (pc := 749) C hB hBM hcn hsn (CtX11_best c2) mX11_best iX11_best kL_78 rfl rfl rfl (Nat.le_of_ble_eq_true rfl) ⟨(Nat.le_of_ble_eq_true rfl), (Nat.le_of_ble_eq_true rfl)⟩ dL_law_749 ?_
    refine wl_same (pc := 752) C 1433 dL_law_752 (by decide) ?_
    exact fin Sx1 Sm1 hr
set_option maxRecDepth 100000 in
set_option maxHeartbeats 4000000 in
theorem wl_op14 (C : CL G b L xs) (hB : (gS G).heap.size ≤ BX) (hBM : BX + 272 ≤ BM) (hcn : cn ≤ 600000) (hsn : sn ≤ 7302250) {n : Nat} {Rel : St → St → Prop} (h1 : vp_in (x3 + 1) L) (h2 : vp_in (x3 + 2) L) (h3 : vp_in (x3 + 3) L) (h4 : vp_in (x3 + 4) L) (h5 : vp_in (x3 + 5) L) (hok : Ok_pick n Rel Sx Sm) (fin : ∀ Sx Sm : St, Rel Sx Sm → Wl G BX BM cn sn Q Sx Sm 1433 [(3, .int x3), (2, .ref (adB BM 0)), (1, .ref (adB BX 0)), (0, .ref b)] []) : Wl G BX BM cn sn Q Sx Sm 757 [(3, .int x3), (2, .ref (adB BM 0)), (1, .ref (adB BX 0)), (0, .ref b)] [] := by
  refine wl_aload_n (pc := 757) C 2 dL_law_757 rfl rfl ?_
  refine wl_aload_n (pc := 758) C 3 dL_law_758 rfl rfl ?_
  refine wl_iload_n (pc := 759) C 0 dL_law_759 rfl rfl ?_
  refine wl_iconst (v := 1) (pc := 760) C dL_law_760 (by decide) ?_
  refine wl_iadd (pc := 761) C dL_law_761 ?_
  refine wl_sld (pc := 762) C h1 dL_law_762 ?_
  obtain ⟨Sx1, Sm1, r, c1, c2, hr⟩ := hok (xs (Int32.toNatClampNeg (x3 + 1))) 
  refine wl_callX (As := [.int (xs (Int32.toNatClampNeg (x3 + 1)))]) (st := []) (pc := 763) C hB hBM hcn hsn (CtX10_pick c1) mX10_pick iX10_pick kL_79 rfl rfl rfl (Nat.le_of_ble_eq_true rfl) ⟨(Nat.le_of_ble_eq_true rfl), (Nat.le_of_ble_eq_true rfl)⟩ dL_law_763 ?_
  refine wl_aload_n (pc := 766) C 1 dL_law_766 rfl rfl ?_
  refine wl_aload_n (pc := 767) C 3 dL_law_767 rfl rfl ?_
  refine wl_iload_n (pc := 768) C 0 dL_law_768 rfl rfl ?_
  refine wl_iconst (v := 1) (pc := 769) C dL_law_769 (by decide) ?_
  refine wl_iadd (pc := 770) C dL_law_770 ?_
  refine wl_sld (pc := 771) C h1 dL_law_771 ?_
  refine wl_callM (As := [.int (xs (Int32.toNatClampNeg (x3 + 1)))]) (st := [.int (r)]) (pc := 772) C hB hBM hcn hsn (CtX11_pick c2) mX11_pick iX11_pick kL_82 rfl rfl rfl (Nat.le_of_ble_eq_true rfl) ⟨(Nat.le_of_ble_eq_true rfl), (Nat.le_of_ble_eq_true rfl)⟩ dL_law_772 ?_
  refine wl_same (pc := 775) C 1433 dL_law_775 (by decide) ?_
  exact fin Sx1 Sm1 hr
set_option maxRecDepth 100000 in
set_option maxHeartbeats 4000000 in
theorem wl_op15 (C : CL G b L xs) (hB : (gS G).heap.size ≤ BX) (hBM : BX + 272 ≤ BM) (hcn : cn ≤ 600000) (hsn : sn ≤ 7302250) {n : Nat} {Rel : St → St → Prop} (h1 : vp_in (x3 + 1) L) (h2 : vp_in (x3 + 2) L) (h3 : vp_in (x3 + 3) L) (h4 : vp_in (x3 + 4) L) (h5 : vp_in (x3 + 5) L) (hok : Ok_trick n Rel Sx Sm) (fin : ∀ Sx Sm : St, Rel Sx Sm → Wl G BX BM cn sn Q Sx Sm 1433 [(3, .int x3), (2, .ref (adB BM 0)), (1, .ref (adB BX 0)), (0, .ref b)] []) : Wl G BX BM cn sn Q Sx Sm 780 [(3, .int x3), (2, .ref (adB BM 0)), (1, .ref (adB BX 0)), (0, .ref b)] [] := by
  refine wl_aload_n (pc := 780) C 2 dL_law_780 rfl rfl ?_
  refine wl_aload_n (pc := 781) C 3 dL_law_781 rfl rfl ?_
  refine wl_iload_n (pc := 782) C 0 dL_law_782 rfl rfl ?_
  refine wl_iconst (v := 1) (pc := 783) C dL_law_783 (by decide) ?_
  refine wl_iadd (pc := 784) C dL_law_784 ?_
  refine wl_sld (pc := 785) C h1 dL_law_785 ?_
  refine wl_aload_n (pc := 786) C 3 dL_law_786 rfl rfl ?_
  refine wl_iload_n (pc := 787) C 0 dL_law_787 rfl rfl ?_
  refine wl_iconst (v := 2) (pc := 788) C dL_law_788 (by decide) ?_
  refine wl_iadd (pc := 789) C dL_law_789 ?_
  refine wl_sld (pc := 790) C h2 dL_law_790 ?_
  refine wl_aload_n (pc := 791) C 3 dL_law_791 rfl rfl ?_
  refine wl_iload_n (pc := 792) C 0 dL_law_792 rfl rfl ?_
  refine wl_iconst (v := 3) (pc := 793) C dL_law_793 (by decide) ?_
  refine wl_iadd (pc := 794) C dL_law_794 ?_
  refine wl_sld (pc := 795) C h3 dL_law_795 ?_
  refine wl_if_eq (pc := 796) C 803 dL_law_796 (by decide) (fun hz => ?_) (fun hz => ?_)
  · refine wl_iconst (v := 0) (pc := 803) C dL_law_803 (by decide) ?_
    obtain ⟨Sx1, Sm1, r, c1, c2, hr⟩ := hok (xs (Int32.toNatClampNeg (x3 + 1))) (xs (Int32.toNatClampNeg (x3 + 2))) 0 (Or.inl rfl)
    refine wl_callX (As := [.int (xs (Int32.toNatClampNeg (x3 + 1))), .int (xs (Int32.toNatClampNeg (x3 + 2))), .int (0)]) (st := []) (pc := 804) C hB hBM hcn hsn (CtX10_trick c1) mX10_trick iX10_trick kL_83 rfl rfl rfl (Nat.le_of_ble_eq_true rfl) ⟨(Nat.le_of_ble_eq_true rfl), (Nat.le_of_ble_eq_true rfl)⟩ dL_law_804 ?_
    refine wl_aload_n (pc := 807) C 1 dL_law_807 rfl rfl ?_
    refine wl_aload_n (pc := 808) C 3 dL_law_808 rfl rfl ?_
    refine wl_iload_n (pc := 809) C 0 dL_law_809 rfl rfl ?_
    refine wl_iconst (v := 1) (pc := 810) C dL_law_810 (by decide) ?_
    refine wl_iadd (pc := 811) C dL_law_811 ?_
    refine wl_sld (pc := 812) C h1 dL_law_812 ?_
    refine wl_aload_n (pc := 813) C 3 dL_law_813 rfl rfl ?_
    refine wl_iload_n (pc := 814) C 0 dL_law_814 rfl rfl ?_
    refine wl_iconst (v := 2) (pc := 815) C dL_law_815 (by decide) ?_
    refine wl_iadd (pc := 816) C dL_law_816 ?_
    refine wl_sld (pc := 817) C h2 dL_law_817 ?_
    refine wl_aload_n (pc := 818) C 3 dL_law_818 rfl rfl ?_
    refine wl_iload_n (pc := 819) C 0 dL_law_819 rfl rfl ?_
    refine wl_iconst (v := 3) (pc := 820) C dL_law_820 (by decide) ?_
    refine wl_iadd (pc := 821) C dL_law_821 ?_
    refine wl_sld (pc := 822) C h3 dL_law_822 ?_
    refine wl_if_eq (pc := 823) C 830 dL_law_823 (by decide) (fun _ => ?_) (fun q => absurd hz q)
    refine wl_iconst (v := 0) (pc := 830) C dL_law_830 (by decide) ?_
    refine wl_callM (As := [.int (xs (Int32.toNatClampNeg (x3 + 1))), .int (xs (Int32.toNatClampNeg (x3 + 2))), .int (0)]) (st := [.long (r)]) (pc := 831) C hB hBM hcn hsn (CtX11_trick c2) mX11_trick iX11_trick kL_87 rfl rfl rfl (Nat.le_of_ble_eq_true rfl) ⟨(Nat.le_of_ble_eq_true rfl), (Nat.le_of_ble_eq_true rfl)⟩ dL_law_831 ?_
    refine wl_lcmp (pc := 834) C dL_law_834 ?_
    refine wl_sameL (pc := 835) C 1433 dL_law_835 (by decide) ?_
    exact fin Sx1 Sm1 hr
  · refine wl_iconst (v := 1) (pc := 799) C dL_law_799 (by decide) ?_
    refine wl_goto (pc := 800) C 804 dL_law_800 (by decide) ?_
    obtain ⟨Sx1, Sm1, r, c1, c2, hr⟩ := hok (xs (Int32.toNatClampNeg (x3 + 1))) (xs (Int32.toNatClampNeg (x3 + 2))) 1 (Or.inr rfl)
    refine wl_callX (As := [.int (xs (Int32.toNatClampNeg (x3 + 1))), .int (xs (Int32.toNatClampNeg (x3 + 2))), .int (1)]) (st := []) (pc := 804) C hB hBM hcn hsn (CtX10_trick c1) mX10_trick iX10_trick kL_83 rfl rfl rfl (Nat.le_of_ble_eq_true rfl) ⟨(Nat.le_of_ble_eq_true rfl), (Nat.le_of_ble_eq_true rfl)⟩ dL_law_804 ?_
    refine wl_aload_n (pc := 807) C 1 dL_law_807 rfl rfl ?_
    refine wl_aload_n (pc := 808) C 3 dL_law_808 rfl rfl ?_
    refine wl_iload_n (pc := 809) C 0 dL_law_809 rfl rfl ?_
    refine wl_iconst (v := 1) (pc := 810) C dL_law_810 (by decide) ?_
    refine wl_iadd (pc := 811) C dL_law_811 ?_
    refine wl_sld (pc := 812) C h1 dL_law_812 ?_
    refine wl_aload_n (pc := 813) C 3 dL_law_813 rfl rfl ?_
    refine wl_iload_n (pc := 814) C 0 dL_law_814 rfl rfl ?_
    refine wl_iconst (v := 2) (pc := 815) C dL_law_815 (by decide) ?_
    refine wl_iadd (pc := 816) C dL_law_816 ?_
    refine wl_sld (pc := 817) C h2 dL_law_817 ?_
    refine wl_aload_n (pc := 818) C 3 dL_law_818 rfl rfl ?_
    refine wl_iload_n (pc := 819) C 0 dL_law_819 rfl rfl ?_
    refine wl_iconst (v := 3) (pc := 820) C dL_law_820 (by decide) ?_
    refine wl_iadd (pc := 821) C dL_law_821 ?_
    refine wl_sld (pc := 822) C h3 dL_law_822 ?_
    refine wl_if_eq (pc := 823) C 830 dL_law_823 (by decide) (fun q => absurd q hz) (fun _ => ?_)
    refine wl_iconst (v := 1) (pc := 826) C dL_law_826 (by decide) ?_
    refine wl_goto (pc := 827) C 831 dL_law_827 (by decide) ?_
    refine wl_callM (As := [.int (xs (Int32.toNatClampNeg (x3 + 1))), .int (xs (Int32.toNatClampNeg (x3 + 2))), .int (1)]) (st := [.long (r)]) (pc := 831) C hB hBM hcn hsn (CtX11_trick c2) mX11_trick iX11_trick kL_87 rfl rfl rfl (Nat.le_of_ble_eq_true rfl) ⟨(Nat.le_of_ble_eq_true rfl), (Nat.le_of_ble_eq_true rfl)⟩ dL_law_831 ?_
    refine wl_lcmp (pc := 834) C dL_law_834 ?_
    refine wl_sameL (pc := 835) C 1433 dL_law_835 (by decide) ?_
    exact fin Sx1 Sm1 hr
set_option maxRecDepth 100000 in
set_option maxHeartbeats 4000000 in
theorem wl_op16 (C : CL G b L xs) (hB : (gS G).heap.size ≤ BX) (hBM : BX + 272 ≤ BM) (hcn : cn ≤ 600000) (hsn : sn ≤ 7302250) {n : Nat} {Rel : St → St → Prop} (h1 : vp_in (x3 + 1) L) (h2 : vp_in (x3 + 2) L) (h3 : vp_in (x3 + 3) L) (h4 : vp_in (x3 + 4) L) (h5 : vp_in (x3 + 5) L) (hok : Ok_parts n Rel Sx Sm) (fin : ∀ Sx Sm : St, Rel Sx Sm → Wl G BX BM cn sn Q Sx Sm 1433 [(3, .int x3), (2, .ref (adB BM 0)), (1, .ref (adB BX 0)), (0, .ref b)] []) : Wl G BX BM cn sn Q Sx Sm 840 [(3, .int x3), (2, .ref (adB BM 0)), (1, .ref (adB BX 0)), (0, .ref b)] [] := by
  refine wl_aload_n (pc := 840) C 2 dL_law_840 rfl rfl ?_
  refine wl_aload_n (pc := 841) C 3 dL_law_841 rfl rfl ?_
  refine wl_iload_n (pc := 842) C 0 dL_law_842 rfl rfl ?_
  refine wl_iconst (v := 1) (pc := 843) C dL_law_843 (by decide) ?_
  refine wl_iadd (pc := 844) C dL_law_844 ?_
  refine wl_sld (pc := 845) C h1 dL_law_845 ?_
  obtain ⟨Sx1, Sm1, r, c1, c2, hr⟩ := hok (xs (Int32.toNatClampNeg (x3 + 1))) 
  refine wl_callX (As := [.int (xs (Int32.toNatClampNeg (x3 + 1)))]) (st := []) (pc := 846) C hB hBM hcn hsn (CtX10_parts c1) mX10_parts iX10_parts kL_88 rfl rfl rfl (Nat.le_of_ble_eq_true rfl) ⟨(Nat.le_of_ble_eq_true rfl), (Nat.le_of_ble_eq_true rfl)⟩ dL_law_846 ?_
  refine wl_aload_n (pc := 849) C 1 dL_law_849 rfl rfl ?_
  refine wl_aload_n (pc := 850) C 3 dL_law_850 rfl rfl ?_
  refine wl_iload_n (pc := 851) C 0 dL_law_851 rfl rfl ?_
  refine wl_iconst (v := 1) (pc := 852) C dL_law_852 (by decide) ?_
  refine wl_iadd (pc := 853) C dL_law_853 ?_
  refine wl_sld (pc := 854) C h1 dL_law_854 ?_
  refine wl_callM (As := [.int (xs (Int32.toNatClampNeg (x3 + 1)))]) (st := [.int (r)]) (pc := 855) C hB hBM hcn hsn (CtX11_parts c2) mX11_parts iX11_parts kL_91 rfl rfl rfl (Nat.le_of_ble_eq_true rfl) ⟨(Nat.le_of_ble_eq_true rfl), (Nat.le_of_ble_eq_true rfl)⟩ dL_law_855 ?_
  refine wl_same (pc := 858) C 1433 dL_law_858 (by decide) ?_
  exact fin Sx1 Sm1 hr
set_option maxRecDepth 100000 in
set_option maxHeartbeats 4000000 in
theorem wl_op17 (C : CL G b L xs) (hB : (gS G).heap.size ≤ BX) (hBM : BX + 272 ≤ BM) (hcn : cn ≤ 600000) (hsn : sn ≤ 7302250) {n : Nat} {Rel : St → St → Prop} (h1 : vp_in (x3 + 1) L) (h2 : vp_in (x3 + 2) L) (h3 : vp_in (x3 + 3) L) (h4 : vp_in (x3 + 4) L) (h5 : vp_in (x3 + 5) L) (hok : Ok_betray n Rel Sx Sm) (fin : ∀ Sx Sm : St, Rel Sx Sm → Wl G BX BM cn sn Q Sx Sm 1433 [(3, .int x3), (2, .ref (adB BM 0)), (1, .ref (adB BX 0)), (0, .ref b)] []) : Wl G BX BM cn sn Q Sx Sm 863 [(3, .int x3), (2, .ref (adB BM 0)), (1, .ref (adB BX 0)), (0, .ref b)] [] := by
  refine wl_aload_n (pc := 863) C 2 dL_law_863 rfl rfl ?_
  refine wl_aload_n (pc := 864) C 3 dL_law_864 rfl rfl ?_
  refine wl_iload_n (pc := 865) C 0 dL_law_865 rfl rfl ?_
  refine wl_iconst (v := 1) (pc := 866) C dL_law_866 (by decide) ?_
  refine wl_iadd (pc := 867) C dL_law_867 ?_
  refine wl_sld (pc := 868) C h1 dL_law_868 ?_
  refine wl_aload_n (pc := 869) C 3 dL_law_869 rfl rfl ?_
  refine wl_iload_n (pc := 870) C 0 dL_law_870 rfl rfl ?_
  refine wl_iconst (v := 2) (pc := 871) C dL_law_871 (by decide) ?_
  refine wl_iadd (pc := 872) C dL_law_872 ?_
  refine wl_sld (pc := 873) C h2 dL_law_873 ?_
  refine wl_aload_n (pc := 874) C 3 dL_law_874 rfl rfl ?_
  refine wl_iload_n (pc := 875) C 0 dL_law_875 rfl rfl ?_
  refine wl_iconst (v := 3) (pc := 876) C dL_law_876 (by decide) ?_
  refine wl_iadd (pc := 877) C dL_law_877 ?_
  refine wl_sld (pc := 878) C h3 dL_law_878 ?_
  refine wl_if_eq (pc := 879) C 886 dL_law_879 (by decide) (fun hz => ?_) (fun hz => ?_)
  · refine wl_iconst (v := 0) (pc := 886) C dL_law_886 (by decide) ?_
    obtain ⟨Sx1, Sm1, r, c1, c2, hr⟩ := hok (xs (Int32.toNatClampNeg (x3 + 1))) (xs (Int32.toNatClampNeg (x3 + 2))) 0 (Or.inl rfl)
    refine wl_callX (As := [.int (xs (Int32.toNatClampNeg (x3 + 1))), .int (xs (Int32.toNatClampNeg (x3 + 2))), .int (0)]) (st := []) (pc := 887) C hB hBM hcn hsn (CtX10_betray c1) mX10_betray iX10_betray kL_92 rfl rfl rfl (Nat.le_of_ble_eq_true rfl) ⟨(Nat.le_of_ble_eq_true rfl), (Nat.le_of_ble_eq_true rfl)⟩ dL_law_887 ?_
    refine wl_aload_n (pc := 890) C 1 dL_law_890 rfl rfl ?_
    refine wl_aload_n (pc := 891) C 3 dL_law_891 rfl rfl ?_
    refine wl_iload_n (pc := 892) C 0 dL_law_892 rfl rfl ?_
    refine wl_iconst (v := 1) (pc := 893) C dL_law_893 (by decide) ?_
    refine wl_iadd (pc := 894) C dL_law_894 ?_
    refine wl_sld (pc := 895) C h1 dL_law_895 ?_
    refine wl_aload_n (pc := 896) C 3 dL_law_896 rfl rfl ?_
    refine wl_iload_n (pc := 897) C 0 dL_law_897 rfl rfl ?_
    refine wl_iconst (v := 2) (pc := 898) C dL_law_898 (by decide) ?_
    refine wl_iadd (pc := 899) C dL_law_899 ?_
    refine wl_sld (pc := 900) C h2 dL_law_900 ?_
    refine wl_aload_n (pc := 901) C 3 dL_law_901 rfl rfl ?_
    refine wl_iload_n (pc := 902) C 0 dL_law_902 rfl rfl ?_
    refine wl_iconst (v := 3) (pc := 903) C dL_law_903 (by decide) ?_
    refine wl_iadd (pc := 904) C dL_law_904 ?_
    refine wl_sld (pc := 905) C h3 dL_law_905 ?_
    refine wl_if_eq (pc := 906) C 913 dL_law_906 (by decide) (fun _ => ?_) (fun q => absurd hz q)
    refine wl_iconst (v := 0) (pc := 913) C dL_law_913 (by decide) ?_
    refine wl_callM (As := [.int (xs (Int32.toNatClampNeg (x3 + 1))), .int (xs (Int32.toNatClampNeg (x3 + 2))), .int (0)]) (st := [.long (r)]) (pc := 914) C hB hBM hcn hsn (CtX11_betray c2) mX11_betray iX11_betray kL_95 rfl rfl rfl (Nat.le_of_ble_eq_true rfl) ⟨(Nat.le_of_ble_eq_true rfl), (Nat.le_of_ble_eq_true rfl)⟩ dL_law_914 ?_
    refine wl_lcmp (pc := 917) C dL_law_917 ?_
    refine wl_sameL (pc := 918) C 1433 dL_law_918 (by decide) ?_
    exact fin Sx1 Sm1 hr
  · refine wl_iconst (v := 1) (pc := 882) C dL_law_882 (by decide) ?_
    refine wl_goto (pc := 883) C 887 dL_law_883 (by decide) ?_
    obtain ⟨Sx1, Sm1, r, c1, c2, hr⟩ := hok (xs (Int32.toNatClampNeg (x3 + 1))) (xs (Int32.toNatClampNeg (x3 + 2))) 1 (Or.inr rfl)
    refine wl_callX (As := [.int (xs (Int32.toNatClampNeg (x3 + 1))), .int (xs (Int32.toNatClampNeg (x3 + 2))), .int (1)]) (st := []) (pc := 887) C hB hBM hcn hsn (CtX10_betray c1) mX10_betray iX10_betray kL_92 rfl rfl rfl (Nat.le_of_ble_eq_true rfl) ⟨(Nat.le_of_ble_eq_true rfl), (Nat.le_of_ble_eq_true rfl)⟩ dL_law_887 ?_
    refine wl_aload_n (pc := 890) C 1 dL_law_890 rfl rfl ?_
    refine wl_aload_n (pc := 891) C 3 dL_law_891 rfl rfl ?_
    refine wl_iload_n (pc := 892) C 0 dL_law_892 rfl rfl ?_
    refine wl_iconst (v := 1) (pc := 893) C dL_law_893 (by decide) ?_
    refine wl_iadd (pc := 894) C dL_law_894 ?_
    refine wl_sld (pc := 895) C h1 dL_law_895 ?_
    refine wl_aload_n (pc := 896) C 3 dL_law_896 rfl rfl ?_
    refine wl_iload_n (pc := 897) C 0 dL_law_897 rfl rfl ?_
    refine wl_iconst (v := 2) (pc := 898) C dL_law_898 (by decide) ?_
    refine wl_iadd (pc := 899) C dL_law_899 ?_
    refine wl_sld (pc := 900) C h2 dL_law_900 ?_
    refine wl_aload_n (pc := 901) C 3 dL_law_901 rfl rfl ?_
    refine wl_iload_n (pc := 902) C 0 dL_law_902 rfl rfl ?_
    refine wl_iconst (v := 3) (pc := 903) C dL_law_903 (by decide) ?_
    refine wl_iadd (pc := 904) C dL_law_904 ?_
    refine wl_sld (pc := 905) C h3 dL_law_905 ?_
    refine wl_if_eq (pc := 906) C 913 dL_law_906 (by decide) (fun q => absurd q hz) (fun _ => ?_)
    refine wl_iconst (v := 1) (pc := 909) C dL_law_909 (by decide) ?_
    refine wl_goto (pc := 910) C 914 dL_law_910 (by decide) ?_
    refine wl_callM (As := [.int (xs (Int32.toNatClampNeg (x3 + 1))), .int (xs (Int32.toNatClampNeg (x3 + 2))), .int (1)]) (st := [.long (r)]) (pc := 914) C hB hBM hcn hsn (CtX11_betray c2) mX11_betray iX11_betray kL_95 rfl rfl rfl (Nat.le_of_ble_eq_true rfl) ⟨(Nat.le_of_ble_eq_true rfl), (Nat.le_of_ble_eq_true rfl)⟩ dL_law_914 ?_
    refine wl_lcmp (pc := 917) C dL_law_917 ?_
    refine wl_sameL (pc := 918) C 1433 dL_law_918 (by decide) ?_
    exact fin Sx1 Sm1 hr
set_option maxRecDepth 100000 in
set_option maxHeartbeats 4000000 in
theorem wl_op18 (C : CL G b L xs) (hB : (gS G).heap.size ≤ BX) (hBM : BX + 272 ≤ BM) (hcn : cn ≤ 600000) (hsn : sn ≤ 7302250) {n : Nat} {Rel : St → St → Prop} (h1 : vp_in (x3 + 1) L) (h2 : vp_in (x3 + 2) L) (h3 : vp_in (x3 + 3) L) (h4 : vp_in (x3 + 4) L) (h5 : vp_in (x3 + 5) L) (hok : Ok_weight n Rel Sx Sm) (fin : ∀ Sx Sm : St, Rel Sx Sm → Wl G BX BM cn sn Q Sx Sm 1433 [(3, .int x3), (2, .ref (adB BM 0)), (1, .ref (adB BX 0)), (0, .ref b)] []) : Wl G BX BM cn sn Q Sx Sm 923 [(3, .int x3), (2, .ref (adB BM 0)), (1, .ref (adB BX 0)), (0, .ref b)] [] := by
  refine wl_aload_n (pc := 923) C 2 dL_law_923 rfl rfl ?_
  refine wl_aload_n (pc := 924) C 3 dL_law_924 rfl rfl ?_
  refine wl_iload_n (pc := 925) C 0 dL_law_925 rfl rfl ?_
  refine wl_iconst (v := 1) (pc := 926) C dL_law_926 (by decide) ?_
  refine wl_iadd (pc := 927) C dL_law_927 ?_
  refine wl_sld (pc := 928) C h1 dL_law_928 ?_
  obtain ⟨Sx1, Sm1, r, c1, c2, hr⟩ := hok (xs (Int32.toNatClampNeg (x3 + 1))) 
  refine wl_callX (As := [.int (xs (Int32.toNatClampNeg (x3 + 1)))]) (st := []) (pc := 929) C hB hBM hcn hsn (CtX10_weight c1) mX10_weight iX10_weight kL_96 rfl rfl rfl (Nat.le_of_ble_eq_true rfl) ⟨(Nat.le_of_ble_eq_true rfl), (Nat.le_of_ble_eq_true rfl)⟩ dL_law_929 ?_
  refine wl_aload_n (pc := 932) C 1 dL_law_932 rfl rfl ?_
  refine wl_aload_n (pc := 933) C 3 dL_law_933 rfl rfl ?_
  refine wl_iload_n (pc := 934) C 0 dL_law_934 rfl rfl ?_
  refine wl_iconst (v := 1) (pc := 935) C dL_law_935 (by decide) ?_
  refine wl_iadd (pc := 936) C dL_law_936 ?_
  refine wl_sld (pc := 937) C h1 dL_law_937 ?_
  refine wl_callM (As := [.int (xs (Int32.toNatClampNeg (x3 + 1)))]) (st := [.int (r)]) (pc := 938) C hB hBM hcn hsn (CtX11_weight c2) mX11_weight iX11_weight kL_99 rfl rfl rfl (Nat.le_of_ble_eq_true rfl) ⟨(Nat.le_of_ble_eq_true rfl), (Nat.le_of_ble_eq_true rfl)⟩ dL_law_938 ?_
  refine wl_same (pc := 941) C 1433 dL_law_941 (by decide) ?_
  exact fin Sx1 Sm1 hr
set_option maxRecDepth 100000 in
set_option maxHeartbeats 4000000 in
theorem wl_op19 (C : CL G b L xs) (hB : (gS G).heap.size ≤ BX) (hBM : BX + 272 ≤ BM) (hcn : cn ≤ 600000) (hsn : sn ≤ 7302250) {n : Nat} {Rel : St → St → Prop} (h1 : vp_in (x3 + 1) L) (h2 : vp_in (x3 + 2) L) (h3 : vp_in (x3 + 3) L) (h4 : vp_in (x3 + 4) L) (h5 : vp_in (x3 + 5) L) (hok : Ok_lamp n Rel Sx Sm) (fin : ∀ Sx Sm : St, Rel Sx Sm → Wl G BX BM cn sn Q Sx Sm 1433 [(3, .int x3), (2, .ref (adB BM 0)), (1, .ref (adB BX 0)), (0, .ref b)] []) : Wl G BX BM cn sn Q Sx Sm 946 [(3, .int x3), (2, .ref (adB BM 0)), (1, .ref (adB BX 0)), (0, .ref b)] [] := by
  refine wl_aload_n (pc := 946) C 2 dL_law_946 rfl rfl ?_
  refine wl_aload_n (pc := 947) C 3 dL_law_947 rfl rfl ?_
  refine wl_iload_n (pc := 948) C 0 dL_law_948 rfl rfl ?_
  refine wl_iconst (v := 1) (pc := 949) C dL_law_949 (by decide) ?_
  refine wl_iadd (pc := 950) C dL_law_950 ?_
  refine wl_sld (pc := 951) C h1 dL_law_951 ?_
  refine wl_aload_n (pc := 952) C 3 dL_law_952 rfl rfl ?_
  refine wl_iload_n (pc := 953) C 0 dL_law_953 rfl rfl ?_
  refine wl_iconst (v := 2) (pc := 954) C dL_law_954 (by decide) ?_
  refine wl_iadd (pc := 955) C dL_law_955 ?_
  refine wl_sld (pc := 956) C h2 dL_law_956 ?_
  refine wl_aload_n (pc := 957) C 3 dL_law_957 rfl rfl ?_
  refine wl_iload_n (pc := 958) C 0 dL_law_958 rfl rfl ?_
  refine wl_iconst (v := 3) (pc := 959) C dL_law_959 (by decide) ?_
  refine wl_iadd (pc := 960) C dL_law_960 ?_
  refine wl_sld (pc := 961) C h3 dL_law_961 ?_
  refine wl_if_eq (pc := 962) C 969 dL_law_962 (by decide) (fun hz => ?_) (fun hz => ?_)
  · refine wl_iconst (v := 0) (pc := 969) C dL_law_969 (by decide) ?_
    obtain ⟨Sx1, Sm1, r, c1, c2, hr⟩ := hok (xs (Int32.toNatClampNeg (x3 + 1))) (xs (Int32.toNatClampNeg (x3 + 2))) 0 (Or.inl rfl)
    refine wl_callX (As := [.int (xs (Int32.toNatClampNeg (x3 + 1))), .int (xs (Int32.toNatClampNeg (x3 + 2))), .int (0)]) (st := []) (pc := 970) C hB hBM hcn hsn (CtX10_lamp c1) mX10_lamp iX10_lamp kL_100 rfl rfl rfl (Nat.le_of_ble_eq_true rfl) ⟨(Nat.le_of_ble_eq_true rfl), (Nat.le_of_ble_eq_true rfl)⟩ dL_law_970 ?_
    refine wl_aload_n (pc := 973) C 1 dL_law_973 rfl rfl ?_
    refine wl_aload_n (pc := 974) C 3 dL_law_974 rfl rfl ?_
    refine wl_iload_n (pc := 975) C 0 dL_law_975 rfl rfl ?_
    refine wl_iconst (v := 1) (pc := 976) C dL_law_976 (by decide) ?_
    refine wl_iadd (pc := 977) C dL_law_977 ?_
    refine wl_sld (pc := 978) C h1 dL_law_978 ?_
    refine wl_aload_n (pc := 979) C 3 dL_law_979 rfl rfl ?_
    refine wl_iload_n (pc := 980) C 0 dL_law_980 rfl rfl ?_
    refine wl_iconst (v := 2) (pc := 981) C dL_law_981 (by decide) ?_
    refine wl_iadd (pc := 982) C dL_law_982 ?_
    refine wl_sld (pc := 983) C h2 dL_law_983 ?_
    refine wl_aload_n (pc := 984) C 3 dL_law_984 rfl rfl ?_
    refine wl_iload_n (pc := 985) C 0 dL_law_985 rfl rfl ?_
    refine wl_iconst (v := 3) (pc := 986) C dL_law_986 (by decide) ?_
    refine wl_iadd (pc := 987) C dL_law_987 ?_
    refine wl_sld (pc := 988) C h3 dL_law_988 ?_
    refine wl_if_eq (pc := 989) C 996 dL_law_989 (by decide) (fun _ => ?_) (fun q => absurd hz q)
    refine wl_iconst (v := 0) (pc := 996) C dL_law_996 (by decide) ?_
    refine wl_callM (As := [.int (xs (Int32.toNatClampNeg (x3 + 1))), .int (xs (Int32.toNatClampNeg (x3 + 2))), .int (0)]) (st := [.int (r)]) (pc := 997) C hB hBM hcn hsn (CtX11_lamp c2) mX11_lamp iX11_lamp kL_103 rfl rfl rfl (Nat.le_of_ble_eq_true rfl) ⟨(Nat.le_of_ble_eq_true rfl), (Nat.le_of_ble_eq_true rfl)⟩ dL_law_997 ?_
    refine wl_same (pc := 1000) C 1433 dL_law_1000 (by decide) ?_
    exact fin Sx1 Sm1 hr
  · refine wl_iconst (v := 1) (pc := 965) C dL_law_965 (by decide) ?_
    refine wl_goto (pc := 966) C 970 dL_law_966 (by decide) ?_
    obtain ⟨Sx1, Sm1, r, c1, c2, hr⟩ := hok (xs (Int32.toNatClampNeg (x3 + 1))) (xs (Int32.toNatClampNeg (x3 + 2))) 1 (Or.inr rfl)
    refine wl_callX (As := [.int (xs (Int32.toNatClampNeg (x3 + 1))), .int (xs (Int32.toNatClampNeg (x3 + 2))), .int (1)]) (st := []) (pc := 970) C hB hBM hcn hsn (CtX10_lamp c1) mX10_lamp iX10_lamp kL_100 rfl rfl rfl (Nat.le_of_ble_eq_true rfl) ⟨(Nat.le_of_ble_eq_true rfl), (Nat.le_of_ble_eq_true rfl)⟩ dL_law_970 ?_
    refine wl_aload_n (pc := 973) C 1 dL_law_973 rfl rfl ?_
    refine wl_aload_n (pc := 974) C 3 dL_law_974 rfl rfl ?_
    refine wl_iload_n (pc := 975) C 0 dL_law_975 rfl rfl ?_
    refine wl_iconst (v := 1) (pc := 976) C dL_law_976 (by decide) ?_
    refine wl_iadd (pc := 977) C dL_law_977 ?_
    refine wl_sld (pc := 978) C h1 dL_law_978 ?_
    refine wl_aload_n (pc := 979) C 3 dL_law_979 rfl rfl ?_
    refine wl_iload_n (pc := 980) C 0 dL_law_980 rfl rfl ?_
    refine wl_iconst (v := 2) (pc := 981) C dL_law_981 (by decide) ?_
    refine wl_iadd (pc := 982) C dL_law_982 ?_
    refine wl_sld (pc := 983) C h2 dL_law_983 ?_
    refine wl_aload_n (pc := 984) C 3 dL_law_984 rfl rfl ?_
    refine wl_iload_n (pc := 985) C 0 dL_law_985 rfl rfl ?_
    refine wl_iconst (v := 3) (pc := 986) C dL_law_986 (by decide) ?_
    refine wl_iadd (pc := 987) C dL_law_987 ?_
    refine wl_sld (pc := 988) C h3 dL_law_988 ?_
    refine wl_if_eq (pc := 989) C 996 dL_law_989 (by decide) (fun q => absurd q hz) (fun _ => ?_)
    refine wl_iconst (v := 1) (pc := 992) C dL_law_992 (by decide) ?_
    refine wl_goto (pc := 993) C 997 dL_law_993 (by decide) ?_
    refine wl_callM (As := [.int (xs (Int32.toNatClampNeg (x3 + 1))), .int (xs (Int32.toNatClampNeg (x3 + 2))), .int (1)]) (st := [.int (r)]) (pc := 997) C hB hBM hcn hsn (CtX11_lamp c2) mX11_lamp iX11_lamp kL_103 rfl rfl rfl (Nat.le_of_ble_eq_true rfl) ⟨(Nat.le_of_ble_eq_true rfl), (Nat.le_of_ble_eq_true rfl)⟩ dL_law_997 ?_
    refine wl_same (pc := 1000) C 1433 dL_law_1000 (by decide) ?_
    exact fin Sx1 Sm1 hr
set_option maxRecDepth 100000 in
set_option maxHeartbeats 4000000 in
theorem wl_op20 (C : CL G b L xs) (hB : (gS G).heap.size ≤ BX) (hBM : BX + 272 ≤ BM) (hcn : cn ≤ 600000) (hsn : sn ≤ 7302250) {n : Nat} {Rel : St → St → Prop} (h1 : vp_in (x3 + 1) L) (h2 : vp_in (x3 + 2) L) (h3 : vp_in (x3 + 3) L) (h4 : vp_in (x3 + 4) L) (h5 : vp_in (x3 + 5) L) (hok : Ok_set n Rel Sx Sm) (fin : ∀ Sx Sm : St, Rel Sx Sm → Wl G BX BM cn sn Q Sx Sm 1433 [(3, .int x3), (2, .ref (adB BM 0)), (1, .ref (adB BX 0)), (0, .ref b)] []) : Wl G BX BM cn sn Q Sx Sm 1005 [(3, .int x3), (2, .ref (adB BM 0)), (1, .ref (adB BX 0)), (0, .ref b)] [] := by
  refine wl_aload_n (pc := 1005) C 2 dL_law_1005 rfl rfl ?_
  refine wl_aload_n (pc := 1006) C 3 dL_law_1006 rfl rfl ?_
  refine wl_iload_n (pc := 1007) C 0 dL_law_1007 rfl rfl ?_
  refine wl_iconst (v := 1) (pc := 1008) C dL_law_1008 (by decide) ?_
  refine wl_iadd (pc := 1009) C dL_law_1009 ?_
  refine wl_sld (pc := 1010) C h1 dL_law_1010 ?_
  obtain ⟨Sx1, Sm1, r, c1, c2, hr⟩ := hok (xs (Int32.toNatClampNeg (x3 + 1))) 
  refine wl_callX (As := [.int (xs (Int32.toNatClampNeg (x3 + 1)))]) (st := []) (pc := 1011) C hB hBM hcn hsn (CtX10_set c1) mX10_set iX10_set kL_104 rfl rfl rfl (Nat.le_of_ble_eq_true rfl) ⟨(Nat.le_of_ble_eq_true rfl), (Nat.le_of_ble_eq_true rfl)⟩ dL_law_1011 ?_
  refine wl_aload_n (pc := 1014) C 1 dL_law_1014 rfl rfl ?_
  refine wl_aload_n (pc := 1015) C 3 dL_law_1015 rfl rfl ?_
  refine wl_iload_n (pc := 1016) C 0 dL_law_1016 rfl rfl ?_
  refine wl_iconst (v := 1) (pc := 1017) C dL_law_1017 (by decide) ?_
  refine wl_iadd (pc := 1018) C dL_law_1018 ?_
  refine wl_sld (pc := 1019) C h1 dL_law_1019 ?_
  refine wl_callM (As := [.int (xs (Int32.toNatClampNeg (x3 + 1)))]) (st := [.int (r)]) (pc := 1020) C hB hBM hcn hsn (CtX11_set c2) mX11_set iX11_set kL_108 rfl rfl rfl (Nat.le_of_ble_eq_true rfl) ⟨(Nat.le_of_ble_eq_true rfl), (Nat.le_of_ble_eq_true rfl)⟩ dL_law_1020 ?_
  refine wl_same (pc := 1023) C 1433 dL_law_1023 (by decide) ?_
  exact fin Sx1 Sm1 hr
set_option maxRecDepth 100000 in
set_option maxHeartbeats 4000000 in
theorem wl_op21 (C : CL G b L xs) (hB : (gS G).heap.size ≤ BX) (hBM : BX + 272 ≤ BM) (hcn : cn ≤ 600000) (hsn : sn ≤ 7302250) {n : Nat} {Rel : St → St → Prop} (h1 : vp_in (x3 + 1) L) (h2 : vp_in (x3 + 2) L) (h3 : vp_in (x3 + 3) L) (h4 : vp_in (x3 + 4) L) (h5 : vp_in (x3 + 5) L) (hok : Ok_drop n Rel Sx Sm) (fin : ∀ Sx Sm : St, Rel Sx Sm → Wl G BX BM cn sn Q Sx Sm 1433 [(3, .int x3), (2, .ref (adB BM 0)), (1, .ref (adB BX 0)), (0, .ref b)] []) : Wl G BX BM cn sn Q Sx Sm 1028 [(3, .int x3), (2, .ref (adB BM 0)), (1, .ref (adB BX 0)), (0, .ref b)] [] := by
  refine wl_aload_n (pc := 1028) C 2 dL_law_1028 rfl rfl ?_
  refine wl_aload_n (pc := 1029) C 3 dL_law_1029 rfl rfl ?_
  refine wl_iload_n (pc := 1030) C 0 dL_law_1030 rfl rfl ?_
  refine wl_iconst (v := 1) (pc := 1031) C dL_law_1031 (by decide) ?_
  refine wl_iadd (pc := 1032) C dL_law_1032 ?_
  refine wl_sld (pc := 1033) C h1 dL_law_1033 ?_
  refine wl_aload_n (pc := 1034) C 3 dL_law_1034 rfl rfl ?_
  refine wl_iload_n (pc := 1035) C 0 dL_law_1035 rfl rfl ?_
  refine wl_iconst (v := 2) (pc := 1036) C dL_law_1036 (by decide) ?_
  refine wl_iadd (pc := 1037) C dL_law_1037 ?_
  refine wl_sld (pc := 1038) C h2 dL_law_1038 ?_
  obtain ⟨Sx1, Sm1, r, c1, c2, hr⟩ := hok (xs (Int32.toNatClampNeg (x3 + 1))) (xs (Int32.toNatClampNeg (x3 + 2))) 
  refine wl_callX (As := [.int (xs (Int32.toNatClampNeg (x3 + 1))), .int (xs (Int32.toNatClampNeg (x3 + 2)))]) (st := []) (pc := 1039) C hB hBM hcn hsn (CtX10_drop c1) mX10_drop iX10_drop kL_109 rfl rfl rfl (Nat.le_of_ble_eq_true rfl) ⟨(Nat.le_of_ble_eq_true rfl), (Nat.le_of_ble_eq_true rfl)⟩ dL_law_1039 ?_
  refine wl_aload_n (pc := 1042) C 1 dL_law_1042 rfl rfl ?_
  refine wl_aload_n (pc := 1043) C 3 dL_law_1043 rfl rfl ?_
  refine wl_iload_n (pc := 1044) C 0 dL_law_1044 rfl rfl ?_
  refine wl_iconst (v := 1) (pc := 1045) C dL_law_1045 (by decide) ?_
  refine wl_iadd (pc := 1046) C dL_law_1046 ?_
  refine wl_sld (pc := 1047) C h1 dL_law_1047 ?_
  refine wl_aload_n (pc := 1048) C 3 dL_law_1048 rfl rfl ?_
  refine wl_iload_n (pc := 1049) C 0 dL_law_1049 rfl rfl ?_
  refine wl_iconst (v := 2) (pc := 1050) C dL_law_1050 (by decide) ?_
  refine wl_iadd (pc := 1051) C dL_law_1051 ?_
  refine wl_sld (pc := 1052) C h2 dL_law_1052 ?_
  refine wl_callM (As := [.int (xs (Int32.toNatClampNeg (x3 + 1))), .int (xs (Int32.toNatClampNeg (x3 + 2)))]) (st := [.int (r)]) (pc := 1053) C hB hBM hcn hsn (CtX11_drop c2) mX11_drop iX11_drop kL_112 rfl rfl rfl (Nat.le_of_ble_eq_true rfl) ⟨(Nat.le_of_ble_eq_true rfl), (Nat.le_of_ble_eq_true rfl)⟩ dL_law_1053 ?_
  refine wl_same (pc := 1056) C 1433 dL_law_1056 (by decide) ?_
  exact fin Sx1 Sm1 hr
set_option maxRecDepth 100000 in
set_option maxHeartbeats 4000000 in
theorem wl_op22 (C : CL G b L xs) (hB : (gS G).heap.size ≤ BX) (hBM : BX + 272 ≤ BM) (hcn : cn ≤ 600000) (hsn : sn ≤ 7302250) {n : Nat} {Rel : St → St → Prop} (h1 : vp_in (x3 + 1) L) (h2 : vp_in (x3 + 2) L) (h3 : vp_in (x3 + 3) L) (h4 : vp_in (x3 + 4) L) (h5 : vp_in (x3 + 5) L) (hok : Ok_days n Rel Sx Sm) (fin : ∀ Sx Sm : St, Rel Sx Sm → Wl G BX BM cn sn Q Sx Sm 1433 [(3, .int x3), (2, .ref (adB BM 0)), (1, .ref (adB BX 0)), (0, .ref b)] []) : Wl G BX BM cn sn Q Sx Sm 1061 [(3, .int x3), (2, .ref (adB BM 0)), (1, .ref (adB BX 0)), (0, .ref b)] [] := by
  refine wl_aload_n (pc := 1061) C 2 dL_law_1061 rfl rfl ?_
  refine wl_aload_n (pc := 1062) C 3 dL_law_1062 rfl rfl ?_
  refine wl_iload_n (pc := 1063) C 0 dL_law_1063 rfl rfl ?_
  refine wl_iconst (v := 1) (pc := 1064) C dL_law_1064 (by decide) ?_
  refine wl_iadd (pc := 1065) C dL_law_1065 ?_
  refine wl_sld (pc := 1066) C h1 dL_law_1066 ?_
  obtain ⟨Sx1, Sm1, r, c1, c2, hr⟩ := hok (xs (Int32.toNatClampNeg (x3 + 1))) 
  refine wl_callX (As := [.int (xs (Int32.toNatClampNeg (x3 + 1)))]) (st := []) (pc := 1067) C hB hBM hcn hsn (CtX10_days c1) mX10_days iX10_days kL_113 rfl rfl rfl (Nat.le_of_ble_eq_true rfl) ⟨(Nat.le_of_ble_eq_true rfl), (Nat.le_of_ble_eq_true rfl)⟩ dL_law_1067 ?_
  refine wl_aload_n (pc := 1070) C 1 dL_law_1070 rfl rfl ?_
  refine wl_aload_n (pc := 1071) C 3 dL_law_1071 rfl rfl ?_
  refine wl_iload_n (pc := 1072) C 0 dL_law_1072 rfl rfl ?_
  refine wl_iconst (v := 1) (pc := 1073) C dL_law_1073 (by decide) ?_
  refine wl_iadd (pc := 1074) C dL_law_1074 ?_
  refine wl_sld (pc := 1075) C h1 dL_law_1075 ?_
  refine wl_callM (As := [.int (xs (Int32.toNatClampNeg (x3 + 1)))]) (st := [.int (r)]) (pc := 1076) C hB hBM hcn hsn (CtX11_days c2) mX11_days iX11_days kL_116 rfl rfl rfl (Nat.le_of_ble_eq_true rfl) ⟨(Nat.le_of_ble_eq_true rfl), (Nat.le_of_ble_eq_true rfl)⟩ dL_law_1076 ?_
  refine wl_same (pc := 1079) C 1433 dL_law_1079 (by decide) ?_
  exact fin Sx1 Sm1 hr
set_option maxRecDepth 100000 in
set_option maxHeartbeats 4000000 in
theorem wl_op23 (C : CL G b L xs) (hB : (gS G).heap.size ≤ BX) (hBM : BX + 272 ≤ BM) (hcn : cn ≤ 600000) (hsn : sn ≤ 7302250) {n : Nat} {Rel : St → St → Prop} (h1 : vp_in (x3 + 1) L) (h2 : vp_in (x3 + 2) L) (h3 : vp_in (x3 + 3) L) (h4 : vp_in (x3 + 4) L) (h5 : vp_in (x3 + 5) L) (hok : Ok_vat n Rel Sx Sm) (fin : ∀ Sx Sm : St, Rel Sx Sm → Wl G BX BM cn sn Q Sx Sm 1433 [(3, .int x3), (2, .ref (adB BM 0)), (1, .ref (adB BX 0)), (0, .ref b)] []) : Wl G BX BM cn sn Q Sx Sm 1084 [(3, .int x3), (2, .ref (adB BM 0)), (1, .ref (adB BX 0)), (0, .ref b)] [] := by
  refine wl_aload_n (pc := 1084) C 2 dL_law_1084 rfl rfl ?_
  refine wl_aload_n (pc := 1085) C 3 dL_law_1085 rfl rfl ?_
  refine wl_iload_n (pc := 1086) C 0 dL_law_1086 rfl rfl ?_
  refine wl_iconst (v := 1) (pc := 1087) C dL_law_1087 (by decide) ?_
  refine wl_iadd (pc := 1088) C dL_law_1088 ?_
  refine wl_sld (pc := 1089) C h1 dL_law_1089 ?_
  obtain ⟨Sx1, Sm1, r, c1, c2, hr⟩ := hok (xs (Int32.toNatClampNeg (x3 + 1))) 
  refine wl_callX (As := [.int (xs (Int32.toNatClampNeg (x3 + 1)))]) (st := []) (pc := 1090) C hB hBM hcn hsn (CtX10_vat c1) mX10_vat iX10_vat kL_117 rfl rfl rfl (Nat.le_of_ble_eq_true rfl) ⟨(Nat.le_of_ble_eq_true rfl), (Nat.le_of_ble_eq_true rfl)⟩ dL_law_1090 ?_
  refine wl_aload_n (pc := 1093) C 1 dL_law_1093 rfl rfl ?_
  refine wl_aload_n (pc := 1094) C 3 dL_law_1094 rfl rfl ?_
  refine wl_iload_n (pc := 1095) C 0 dL_law_1095 rfl rfl ?_
  refine wl_iconst (v := 1) (pc := 1096) C dL_law_1096 (by decide) ?_
  refine wl_iadd (pc := 1097) C dL_law_1097 ?_
  refine wl_sld (pc := 1098) C h1 dL_law_1098 ?_
  refine wl_callM (As := [.int (xs (Int32.toNatClampNeg (x3 + 1)))]) (st := [.int (r)]) (pc := 1099) C hB hBM hcn hsn (CtX11_vat c2) mX11_vat iX11_vat kL_120 rfl rfl rfl (Nat.le_of_ble_eq_true rfl) ⟨(Nat.le_of_ble_eq_true rfl), (Nat.le_of_ble_eq_true rfl)⟩ dL_law_1099 ?_
  refine wl_same (pc := 1102) C 1433 dL_law_1102 (by decide) ?_
  exact fin Sx1 Sm1 hr
set_option maxRecDepth 100000 in
set_option maxHeartbeats 4000000 in
theorem wl_op24 (C : CL G b L xs) (hB : (gS G).heap.size ≤ BX) (hBM : BX + 272 ≤ BM) (hcn : cn ≤ 600000) (hsn : sn ≤ 7302250) {n : Nat} {Rel : St → St → Prop} (h1 : vp_in (x3 + 1) L) (h2 : vp_in (x3 + 2) L) (h3 : vp_in (x3 + 3) L) (h4 : vp_in (x3 + 4) L) (h5 : vp_in (x3 + 5) L) (hok : Ok_old n Rel Sx Sm) (fin : ∀ Sx Sm : St, Rel Sx Sm → Wl G BX BM cn sn Q Sx Sm 1433 [(3, .int x3), (2, .ref (adB BM 0)), (1, .ref (adB BX 0)), (0, .ref b)] []) : Wl G BX BM cn sn Q Sx Sm 1107 [(3, .int x3), (2, .ref (adB BM 0)), (1, .ref (adB BX 0)), (0, .ref b)] [] := by
  refine wl_aload_n (pc := 1107) C 2 dL_law_1107 rfl rfl ?_
  obtain ⟨Sx1, Sm1, r, c1, c2, hr⟩ := hok  
  refine wl_callX (As := []) (st := []) (pc := 1108) C hB hBM hcn hsn (CtX10_old c1) mX10_old iX10_old kL_121 rfl rfl rfl (Nat.le_of_ble_eq_true rfl) ⟨(Nat.le_of_ble_eq_true rfl), (Nat.le_of_ble_eq_true rfl)⟩ dL_law_1108 ?_
  refine wl_aload_n (pc := 1111) C 1 dL_law_1111 rfl rfl ?_
  refine wl_callM (As := []) (st := [.int (r)]) (pc := 1112) C hB hBM hcn hsn (CtX11_old c2) mX11_old iX11_old kL_124 rfl rfl rfl (Nat.le_of_ble_eq_true rfl) ⟨(Nat.le_of_ble_eq_true rfl), (Nat.le_of_ble_eq_true rfl)⟩ dL_law_1112 ?_
  refine wl_same (pc := 1115) C 1433 dL_law_1115 (by decide) ?_
  exact fin Sx1 Sm1 hr
set_option maxRecDepth 100000 in
set_option maxHeartbeats 4000000 in
theorem wl_op25 (C : CL G b L xs) (hB : (gS G).heap.size ≤ BX) (hBM : BX + 272 ≤ BM) (hcn : cn ≤ 600000) (hsn : sn ≤ 7302250) {n : Nat} {Rel : St → St → Prop} (h1 : vp_in (x3 + 1) L) (h2 : vp_in (x3 + 2) L) (h3 : vp_in (x3 + 3) L) (h4 : vp_in (x3 + 4) L) (h5 : vp_in (x3 + 5) L) (hok : Ok_oldOne n Rel Sx Sm) (fin : ∀ Sx Sm : St, Rel Sx Sm → Wl G BX BM cn sn Q Sx Sm 1433 [(3, .int x3), (2, .ref (adB BM 0)), (1, .ref (adB BX 0)), (0, .ref b)] []) : Wl G BX BM cn sn Q Sx Sm 1120 [(3, .int x3), (2, .ref (adB BM 0)), (1, .ref (adB BX 0)), (0, .ref b)] [] := by
  refine wl_aload_n (pc := 1120) C 2 dL_law_1120 rfl rfl ?_
  refine wl_aload_n (pc := 1121) C 3 dL_law_1121 rfl rfl ?_
  refine wl_iload_n (pc := 1122) C 0 dL_law_1122 rfl rfl ?_
  refine wl_iconst (v := 1) (pc := 1123) C dL_law_1123 (by decide) ?_
  refine wl_iadd (pc := 1124) C dL_law_1124 ?_
  refine wl_sld (pc := 1125) C h1 dL_law_1125 ?_
  refine wl_aload_n (pc := 1126) C 3 dL_law_1126 rfl rfl ?_
  refine wl_iload_n (pc := 1127) C 0 dL_law_1127 rfl rfl ?_
  refine wl_iconst (v := 2) (pc := 1128) C dL_law_1128 (by decide) ?_
  refine wl_iadd (pc := 1129) C dL_law_1129 ?_
  refine wl_sld (pc := 1130) C h2 dL_law_1130 ?_
  obtain ⟨Sx1, Sm1, r, c1, c2, hr⟩ := hok (xs (Int32.toNatClampNeg (x3 + 1))) (xs (Int32.toNatClampNeg (x3 + 2))) 
  refine wl_callX (As := [.int (xs (Int32.toNatClampNeg (x3 + 1))), .int (xs (Int32.toNatClampNeg (x3 + 2)))]) (st := []) (pc := 1131) C hB hBM hcn hsn (CtX10_oldOne c1) mX10_oldOne iX10_oldOne kL_125 rfl rfl rfl (Nat.le_of_ble_eq_true rfl) ⟨(Nat.le_of_ble_eq_true rfl), (Nat.le_of_ble_eq_true rfl)⟩ dL_law_1131 ?_
  refine wl_aload_n (pc := 1134) C 1 dL_law_1134 rfl rfl ?_
  refine wl_aload_n (pc := 1135) C 3 dL_law_1135 rfl rfl ?_
  refine wl_iload_n (pc := 1136) C 0 dL_law_1136 rfl rfl ?_
  refine wl_iconst (v := 1) (pc := 1137) C dL_law_1137 (by decide) ?_
  refine wl_iadd (pc := 1138) C dL_law_1138 ?_
  refine wl_sld (pc := 1139) C h1 dL_law_1139 ?_
  refine wl_aload_n (pc := 1140) C 3 dL_law_1140 rfl rfl ?_
  refine wl_iload_n (pc := 1141) C 0 dL_law_1141 rfl rfl ?_
  refine wl_iconst (v := 2) (pc := 1142) C dL_law_1142 (by decide) ?_
  refine wl_iadd (pc := 1143) C dL_law_1143 ?_
  refine wl_sld (pc := 1144) C h2 dL_law_1144 ?_
  refine wl_callM (As := [.int (xs (Int32.toNatClampNeg (x3 + 1))), .int (xs (Int32.toNatClampNeg (x3 + 2)))]) (st := [.int (r)]) (pc := 1145) C hB hBM hcn hsn (CtX11_oldOne c2) mX11_oldOne iX11_oldOne kL_128 rfl rfl rfl (Nat.le_of_ble_eq_true rfl) ⟨(Nat.le_of_ble_eq_true rfl), (Nat.le_of_ble_eq_true rfl)⟩ dL_law_1145 ?_
  refine wl_same (pc := 1148) C 1433 dL_law_1148 (by decide) ?_
  exact fin Sx1 Sm1 hr
set_option maxRecDepth 100000 in
set_option maxHeartbeats 4000000 in
theorem wl_op26 (C : CL G b L xs) (hB : (gS G).heap.size ≤ BX) (hBM : BX + 272 ≤ BM) (hcn : cn ≤ 600000) (hsn : sn ≤ 7302250) {n : Nat} {Rel : St → St → Prop} (h1 : vp_in (x3 + 1) L) (h2 : vp_in (x3 + 2) L) (h3 : vp_in (x3 + 3) L) (h4 : vp_in (x3 + 4) L) (h5 : vp_in (x3 + 5) L) (hok : Ok_look n Rel Sx Sm) (fin : ∀ Sx Sm : St, Rel Sx Sm → Wl G BX BM cn sn Q Sx Sm 1433 [(3, .int x3), (2, .ref (adB BM 0)), (1, .ref (adB BX 0)), (0, .ref b)] []) : Wl G BX BM cn sn Q Sx Sm 1153 [(3, .int x3), (2, .ref (adB BM 0)), (1, .ref (adB BX 0)), (0, .ref b)] [] := by
  refine wl_aload_n (pc := 1153) C 2 dL_law_1153 rfl rfl ?_
  refine wl_aload_n (pc := 1154) C 3 dL_law_1154 rfl rfl ?_
  refine wl_iload_n (pc := 1155) C 0 dL_law_1155 rfl rfl ?_
  refine wl_iconst (v := 1) (pc := 1156) C dL_law_1156 (by decide) ?_
  refine wl_iadd (pc := 1157) C dL_law_1157 ?_
  refine wl_sld (pc := 1158) C h1 dL_law_1158 ?_
  refine wl_aload_n (pc := 1159) C 3 dL_law_1159 rfl rfl ?_
  refine wl_iload_n (pc := 1160) C 0 dL_law_1160 rfl rfl ?_
  refine wl_iconst (v := 2) (pc := 1161) C dL_law_1161 (by decide) ?_
  refine wl_iadd (pc := 1162) C dL_law_1162 ?_
  refine wl_sld (pc := 1163) C h2 dL_law_1163 ?_
  refine wl_aload_n (pc := 1164) C 3 dL_law_1164 rfl rfl ?_
  refine wl_iload_n (pc := 1165) C 0 dL_law_1165 rfl rfl ?_
  refine wl_iconst (v := 3) (pc := 1166) C dL_law_1166 (by decide) ?_
  refine wl_iadd (pc := 1167) C dL_law_1167 ?_
  refine wl_sld (pc := 1168) C h3 dL_law_1168 ?_
  refine wl_aload_n (pc := 1169) C 3 dL_law_1169 rfl rfl ?_
  refine wl_iload_n (pc := 1170) C 0 dL_law_1170 rfl rfl ?_
  refine wl_iconst (v := 4) (pc := 1171) C dL_law_1171 (by decide) ?_
  refine wl_iadd (pc := 1172) C dL_law_1172 ?_
  refine wl_sld (pc := 1173) C h4 dL_law_1173 ?_
  obtain ⟨Sx1, Sm1, r, c1, c2, hr⟩ := hok (xs (Int32.toNatClampNeg (x3 + 1))) (xs (Int32.toNatClampNeg (x3 + 2))) (xs (Int32.toNatClampNeg (x3 + 3))) (xs (Int32.toNatClampNeg (x3 + 4))) 
  refine wl_callX (As := [.int (xs (Int32.toNatClampNeg (x3 + 1))), .int (xs (Int32.toNatClampNeg (x3 + 2))), .int (xs (Int32.toNatClampNeg (x3 + 3))), .int (xs (Int32.toNatClampNeg (x3 + 4)))]) (st := []) (pc := 1174) C hB hBM hcn hsn (CtX10_look c1) mX10_look iX10_look kL_129 rfl rfl rfl (Nat.le_of_ble_eq_true rfl) ⟨(Nat.le_of_ble_eq_true rfl), (Nat.le_of_ble_eq_true rfl)⟩ dL_law_1174 ?_
  refine wl_aload_n (pc := 1177) C 1 dL_law_1177 rfl rfl ?_
  refine wl_aload_n (pc := 1178) C 3 dL_law_1178 rfl rfl ?_
  refine wl_iload_n (pc := 1179) C 0 dL_law_1179 rfl rfl ?_
  refine wl_iconst (v := 1) (pc := 1180) C dL_law_1180 (by decide) ?_
  refine wl_iadd (pc := 1181) C dL_law_1181 ?_
  refine wl_sld (pc := 1182) C h1 dL_law_1182 ?_
  refine wl_aload_n (pc := 1183) C 3 dL_law_1183 rfl rfl ?_
  refine wl_iload_n (pc := 1184) C 0 dL_law_1184 rfl rfl ?_
  refine wl_iconst (v := 2) (pc := 1185) C dL_law_1185 (by decide) ?_
  refine wl_iadd (pc := 1186) C dL_law_1186 ?_
  refine wl_sld (pc := 1187) C h2 dL_law_1187 ?_
  refine wl_aload_n (pc := 1188) C 3 dL_law_1188 rfl rfl ?_
  refine wl_iload_n (pc := 1189) C 0 dL_law_1189 rfl rfl ?_
  refine wl_iconst (v := 3) (pc := 1190) C dL_law_1190 (by decide) ?_
  refine wl_iadd (pc := 1191) C dL_law_1191 ?_
  refine wl_sld (pc := 1192) C h3 dL_law_1192 ?_
  refine wl_aload_n (pc := 1193) C 3 dL_law_1193 rfl rfl ?_
  refine wl_iload_n (pc := 1194) C 0 dL_law_1194 rfl rfl ?_
  refine wl_iconst (v := 4) (pc := 1195) C dL_law_1195 (by decide) ?_
  refine wl_iadd (pc := 1196) C dL_law_1196 ?_
  refine wl_sld (pc := 1197) C h4 dL_law_1197 ?_
  refine wl_callM (As := [.int (xs (Int32.toNatClampNeg (x3 + 1))), .int (xs (Int32.toNatClampNeg (x3 + 2))), .int (xs (Int32.toNatClampNeg (x3 + 3))), .int (xs (Int32.toNatClampNeg (x3 + 4)))]) (st := [.int (r)]) (pc := 1198) C hB hBM hcn hsn (CtX11_look c2) mX11_look iX11_look kL_133 rfl rfl rfl (Nat.le_of_ble_eq_true rfl) ⟨(Nat.le_of_ble_eq_true rfl), (Nat.le_of_ble_eq_true rfl)⟩ dL_law_1198 ?_
  refine wl_same (pc := 1201) C 1433 dL_law_1201 (by decide) ?_
  exact fin Sx1 Sm1 hr
set_option maxRecDepth 100000 in
set_option maxHeartbeats 4000000 in
theorem wl_op27 (C : CL G b L xs) (hB : (gS G).heap.size ≤ BX) (hBM : BX + 272 ≤ BM) (hcn : cn ≤ 600000) (hsn : sn ≤ 7302250) {n : Nat} {Rel : St → St → Prop} (h1 : vp_in (x3 + 1) L) (h2 : vp_in (x3 + 2) L) (h3 : vp_in (x3 + 3) L) (h4 : vp_in (x3 + 4) L) (h5 : vp_in (x3 + 5) L) (hok : Ok_untell n Rel Sx Sm) (fin : ∀ Sx Sm : St, Rel Sx Sm → Wl G BX BM cn sn Q Sx Sm 1433 [(3, .int x3), (2, .ref (adB BM 0)), (1, .ref (adB BX 0)), (0, .ref b)] []) : Wl G BX BM cn sn Q Sx Sm 1206 [(3, .int x3), (2, .ref (adB BM 0)), (1, .ref (adB BX 0)), (0, .ref b)] [] := by
  refine wl_aload_n (pc := 1206) C 2 dL_law_1206 rfl rfl ?_
  refine wl_aload_n (pc := 1207) C 3 dL_law_1207 rfl rfl ?_
  refine wl_iload_n (pc := 1208) C 0 dL_law_1208 rfl rfl ?_
  refine wl_iconst (v := 1) (pc := 1209) C dL_law_1209 (by decide) ?_
  refine wl_iadd (pc := 1210) C dL_law_1210 ?_
  refine wl_sld (pc := 1211) C h1 dL_law_1211 ?_
  obtain ⟨Sx1, Sm1, r, c1, c2, hr⟩ := hok (xs (Int32.toNatClampNeg (x3 + 1))) 
  refine wl_callX (As := [.int (xs (Int32.toNatClampNeg (x3 + 1)))]) (st := []) (pc := 1212) C hB hBM hcn hsn (CtX10_untell c1) mX10_untell iX10_untell kL_134 rfl rfl rfl (Nat.le_of_ble_eq_true rfl) ⟨(Nat.le_of_ble_eq_true rfl), (Nat.le_of_ble_eq_true rfl)⟩ dL_law_1212 ?_
  refine wl_aload_n (pc := 1215) C 1 dL_law_1215 rfl rfl ?_
  refine wl_aload_n (pc := 1216) C 3 dL_law_1216 rfl rfl ?_
  refine wl_iload_n (pc := 1217) C 0 dL_law_1217 rfl rfl ?_
  refine wl_iconst (v := 1) (pc := 1218) C dL_law_1218 (by decide) ?_
  refine wl_iadd (pc := 1219) C dL_law_1219 ?_
  refine wl_sld (pc := 1220) C h1 dL_law_1220 ?_
  refine wl_callM (As := [.int (xs (Int32.toNatClampNeg (x3 + 1)))]) (st := [.int (r)]) (pc := 1221) C hB hBM hcn hsn (CtX11_untell c2) mX11_untell iX11_untell kL_137 rfl rfl rfl (Nat.le_of_ble_eq_true rfl) ⟨(Nat.le_of_ble_eq_true rfl), (Nat.le_of_ble_eq_true rfl)⟩ dL_law_1221 ?_
  refine wl_same (pc := 1224) C 1433 dL_law_1224 (by decide) ?_
  exact fin Sx1 Sm1 hr
set_option maxRecDepth 100000 in
set_option maxHeartbeats 4000000 in
theorem wl_op28 (C : CL G b L xs) (hB : (gS G).heap.size ≤ BX) (hBM : BX + 272 ≤ BM) (hcn : cn ≤ 600000) (hsn : sn ≤ 7302250) {n : Nat} {Rel : St → St → Prop} (h1 : vp_in (x3 + 1) L) (h2 : vp_in (x3 + 2) L) (h3 : vp_in (x3 + 3) L) (h4 : vp_in (x3 + 4) L) (h5 : vp_in (x3 + 5) L) (hok : Ok_later n Rel Sx Sm) (fin : ∀ Sx Sm : St, Rel Sx Sm → Wl G BX BM cn sn Q Sx Sm 1433 [(3, .int x3), (2, .ref (adB BM 0)), (1, .ref (adB BX 0)), (0, .ref b)] []) : Wl G BX BM cn sn Q Sx Sm 1229 [(3, .int x3), (2, .ref (adB BM 0)), (1, .ref (adB BX 0)), (0, .ref b)] [] := by
  refine wl_aload_n (pc := 1229) C 2 dL_law_1229 rfl rfl ?_
  refine wl_aload_n (pc := 1230) C 3 dL_law_1230 rfl rfl ?_
  refine wl_iload_n (pc := 1231) C 0 dL_law_1231 rfl rfl ?_
  refine wl_iconst (v := 1) (pc := 1232) C dL_law_1232 (by decide) ?_
  refine wl_iadd (pc := 1233) C dL_law_1233 ?_
  refine wl_sld (pc := 1234) C h1 dL_law_1234 ?_
  obtain ⟨Sx1, Sm1, r, c1, c2, hr⟩ := hok (xs (Int32.toNatClampNeg (x3 + 1))) 
  refine wl_callX (As := [.int (xs (Int32.toNatClampNeg (x3 + 1)))]) (st := []) (pc := 1235) C hB hBM hcn hsn (CtX10_later c1) mX10_later iX10_later kL_138 rfl rfl rfl (Nat.le_of_ble_eq_true rfl) ⟨(Nat.le_of_ble_eq_true rfl), (Nat.le_of_ble_eq_true rfl)⟩ dL_law_1235 ?_
  refine wl_aload_n (pc := 1238) C 1 dL_law_1238 rfl rfl ?_
  refine wl_aload_n (pc := 1239) C 3 dL_law_1239 rfl rfl ?_
  refine wl_iload_n (pc := 1240) C 0 dL_law_1240 rfl rfl ?_
  refine wl_iconst (v := 1) (pc := 1241) C dL_law_1241 (by decide) ?_
  refine wl_iadd (pc := 1242) C dL_law_1242 ?_
  refine wl_sld (pc := 1243) C h1 dL_law_1243 ?_
  refine wl_callM (As := [.int (xs (Int32.toNatClampNeg (x3 + 1)))]) (st := [.int (r)]) (pc := 1244) C hB hBM hcn hsn (CtX11_later c2) mX11_later iX11_later kL_141 rfl rfl rfl (Nat.le_of_ble_eq_true rfl) ⟨(Nat.le_of_ble_eq_true rfl), (Nat.le_of_ble_eq_true rfl)⟩ dL_law_1244 ?_
  refine wl_same (pc := 1247) C 1433 dL_law_1247 (by decide) ?_
  exact fin Sx1 Sm1 hr
set_option maxRecDepth 100000 in
set_option maxHeartbeats 4000000 in
theorem wl_op29 (C : CL G b L xs) (hB : (gS G).heap.size ≤ BX) (hBM : BX + 272 ≤ BM) (hcn : cn ≤ 600000) (hsn : sn ≤ 7302250) {n : Nat} {Rel : St → St → Prop} (h1 : vp_in (x3 + 1) L) (h2 : vp_in (x3 + 2) L) (h3 : vp_in (x3 + 3) L) (h4 : vp_in (x3 + 4) L) (h5 : vp_in (x3 + 5) L) (hok : Ok_agree n Rel Sx Sm) (fin : ∀ Sx Sm : St, Rel Sx Sm → Wl G BX BM cn sn Q Sx Sm 1433 [(3, .int x3), (2, .ref (adB BM 0)), (1, .ref (adB BX 0)), (0, .ref b)] []) : Wl G BX BM cn sn Q Sx Sm 1252 [(3, .int x3), (2, .ref (adB BM 0)), (1, .ref (adB BX 0)), (0, .ref b)] [] := by
  refine wl_aload_n (pc := 1252) C 2 dL_law_1252 rfl rfl ?_
  refine wl_aload_n (pc := 1253) C 3 dL_law_1253 rfl rfl ?_
  refine wl_iload_n (pc := 1254) C 0 dL_law_1254 rfl rfl ?_
  refine wl_iconst (v := 1) (pc := 1255) C dL_law_1255 (by decide) ?_
  refine wl_iadd (pc := 1256) C dL_law_1256 ?_
  refine wl_sld (pc := 1257) C h1 dL_law_1257 ?_
  obtain ⟨Sx1, Sm1, r, c1, c2, hr⟩ := hok (xs (Int32.toNatClampNeg (x3 + 1))) 
  refine wl_callX (As := [.int (xs (Int32.toNatClampNeg (x3 + 1)))]) (st := []) (pc := 1258) C hB hBM hcn hsn (CtX10_agree c1) mX10_agree iX10_agree kL_142 rfl rfl rfl (Nat.le_of_ble_eq_true rfl) ⟨(Nat.le_of_ble_eq_true rfl), (Nat.le_of_ble_eq_true rfl)⟩ dL_law_1258 ?_
  refine wl_aload_n (pc := 1261) C 1 dL_law_1261 rfl rfl ?_
  refine wl_aload_n (pc := 1262) C 3 dL_law_1262 rfl rfl ?_
  refine wl_iload_n (pc := 1263) C 0 dL_law_1263 rfl rfl ?_
  refine wl_iconst (v := 1) (pc := 1264) C dL_law_1264 (by decide) ?_
  refine wl_iadd (pc := 1265) C dL_law_1265 ?_
  refine wl_sld (pc := 1266) C h1 dL_law_1266 ?_
  refine wl_callM (As := [.int (xs (Int32.toNatClampNeg (x3 + 1)))]) (st := [.int (r)]) (pc := 1267) C hB hBM hcn hsn (CtX11_agree c2) mX11_agree iX11_agree kL_145 rfl rfl rfl (Nat.le_of_ble_eq_true rfl) ⟨(Nat.le_of_ble_eq_true rfl), (Nat.le_of_ble_eq_true rfl)⟩ dL_law_1267 ?_
  refine wl_same (pc := 1270) C 1433 dL_law_1270 (by decide) ?_
  exact fin Sx1 Sm1 hr
set_option maxRecDepth 100000 in
set_option maxHeartbeats 4000000 in
theorem wl_op30 (C : CL G b L xs) (hB : (gS G).heap.size ≤ BX) (hBM : BX + 272 ≤ BM) (hcn : cn ≤ 600000) (hsn : sn ≤ 7302250) {n : Nat} {Rel : St → St → Prop} (h1 : vp_in (x3 + 1) L) (h2 : vp_in (x3 + 2) L) (h3 : vp_in (x3 + 3) L) (h4 : vp_in (x3 + 4) L) (h5 : vp_in (x3 + 5) L) (hok : Ok_agrees n Rel Sx Sm) (fin : ∀ Sx Sm : St, Rel Sx Sm → Wl G BX BM cn sn Q Sx Sm 1433 [(3, .int x3), (2, .ref (adB BM 0)), (1, .ref (adB BX 0)), (0, .ref b)] []) : Wl G BX BM cn sn Q Sx Sm 1275 [(3, .int x3), (2, .ref (adB BM 0)), (1, .ref (adB BX 0)), (0, .ref b)] [] := by
  refine wl_aload_n (pc := 1275) C 2 dL_law_1275 rfl rfl ?_
  refine wl_aload_n (pc := 1276) C 3 dL_law_1276 rfl rfl ?_
  refine wl_iload_n (pc := 1277) C 0 dL_law_1277 rfl rfl ?_
  refine wl_iconst (v := 1) (pc := 1278) C dL_law_1278 (by decide) ?_
  refine wl_iadd (pc := 1279) C dL_law_1279 ?_
  refine wl_sld (pc := 1280) C h1 dL_law_1280 ?_
  refine wl_aload_n (pc := 1281) C 3 dL_law_1281 rfl rfl ?_
  refine wl_iload_n (pc := 1282) C 0 dL_law_1282 rfl rfl ?_
  refine wl_iconst (v := 2) (pc := 1283) C dL_law_1283 (by decide) ?_
  refine wl_iadd (pc := 1284) C dL_law_1284 ?_
  refine wl_sld (pc := 1285) C h2 dL_law_1285 ?_
  obtain ⟨Sx1, Sm1, r, c1, c2, hr⟩ := hok (xs (Int32.toNatClampNeg (x3 + 1))) (xs (Int32.toNatClampNeg (x3 + 2))) 
  refine wl_callX (As := [.int (xs (Int32.toNatClampNeg (x3 + 1))), .int (xs (Int32.toNatClampNeg (x3 + 2)))]) (st := []) (pc := 1286) C hB hBM hcn hsn (CtX10_agrees c1) mX10_agrees iX10_agrees kL_146 rfl rfl rfl (Nat.le_of_ble_eq_true rfl) ⟨(Nat.le_of_ble_eq_true rfl), (Nat.le_of_ble_eq_true rfl)⟩ dL_law_1286 ?_
  refine wl_aload_n (pc := 1289) C 1 dL_law_1289 rfl rfl ?_
  refine wl_aload_n (pc := 1290) C 3 dL_law_1290 rfl rfl ?_
  refine wl_iload_n (pc := 1291) C 0 dL_law_1291 rfl rfl ?_
  refine wl_iconst (v := 1) (pc := 1292) C dL_law_1292 (by decide) ?_
  refine wl_iadd (pc := 1293) C dL_law_1293 ?_
  refine wl_sld (pc := 1294) C h1 dL_law_1294 ?_
  refine wl_aload_n (pc := 1295) C 3 dL_law_1295 rfl rfl ?_
  refine wl_iload_n (pc := 1296) C 0 dL_law_1296 rfl rfl ?_
  refine wl_iconst (v := 2) (pc := 1297) C dL_law_1297 (by decide) ?_
  refine wl_iadd (pc := 1298) C dL_law_1298 ?_
  refine wl_sld (pc := 1299) C h2 dL_law_1299 ?_
  refine wl_callM (As := [.int (xs (Int32.toNatClampNeg (x3 + 1))), .int (xs (Int32.toNatClampNeg (x3 + 2)))]) (st := [.int (r)]) (pc := 1300) C hB hBM hcn hsn (CtX11_agrees c2) mX11_agrees iX11_agrees kL_149 rfl rfl rfl (Nat.le_of_ble_eq_true rfl) ⟨(Nat.le_of_ble_eq_true rfl), (Nat.le_of_ble_eq_true rfl)⟩ dL_law_1300 ?_
  refine wl_same (pc := 1303) C 1433 dL_law_1303 (by decide) ?_
  exact fin Sx1 Sm1 hr
set_option maxRecDepth 100000 in
set_option maxHeartbeats 4000000 in
theorem wl_op31 (C : CL G b L xs) (hB : (gS G).heap.size ≤ BX) (hBM : BX + 272 ≤ BM) (hcn : cn ≤ 600000) (hsn : sn ≤ 7302250) {n : Nat} {Rel : St → St → Prop} (h1 : vp_in (x3 + 1) L) (h2 : vp_in (x3 + 2) L) (h3 : vp_in (x3 + 3) L) (h4 : vp_in (x3 + 4) L) (h5 : vp_in (x3 + 5) L) (hok : Ok_next n Rel Sx Sm) (fin : ∀ Sx Sm : St, Rel Sx Sm → Wl G BX BM cn sn Q Sx Sm 1433 [(3, .int x3), (2, .ref (adB BM 0)), (1, .ref (adB BX 0)), (0, .ref b)] []) : Wl G BX BM cn sn Q Sx Sm 1308 [(3, .int x3), (2, .ref (adB BM 0)), (1, .ref (adB BX 0)), (0, .ref b)] [] := by
  refine wl_aload_n (pc := 1308) C 2 dL_law_1308 rfl rfl ?_
  refine wl_aload_n (pc := 1309) C 3 dL_law_1309 rfl rfl ?_
  refine wl_iload_n (pc := 1310) C 0 dL_law_1310 rfl rfl ?_
  refine wl_iconst (v := 1) (pc := 1311) C dL_law_1311 (by decide) ?_
  refine wl_iadd (pc := 1312) C dL_law_1312 ?_
  refine wl_sld (pc := 1313) C h1 dL_law_1313 ?_
  refine wl_aload_n (pc := 1314) C 3 dL_law_1314 rfl rfl ?_
  refine wl_iload_n (pc := 1315) C 0 dL_law_1315 rfl rfl ?_
  refine wl_iconst (v := 2) (pc := 1316) C dL_law_1316 (by decide) ?_
  refine wl_iadd (pc := 1317) C dL_law_1317 ?_
  refine wl_sld (pc := 1318) C h2 dL_law_1318 ?_
  obtain ⟨Sx1, Sm1, r, c1, c2, hr⟩ := hok (xs (Int32.toNatClampNeg (x3 + 1))) (xs (Int32.toNatClampNeg (x3 + 2))) 
  refine wl_callX (As := [.int (xs (Int32.toNatClampNeg (x3 + 1))), .int (xs (Int32.toNatClampNeg (x3 + 2)))]) (st := []) (pc := 1319) C hB hBM hcn hsn (CtX10_next c1) mX10_next iX10_next kL_150 rfl rfl rfl (Nat.le_of_ble_eq_true rfl) ⟨(Nat.le_of_ble_eq_true rfl), (Nat.le_of_ble_eq_true rfl)⟩ dL_law_1319 ?_
  refine wl_aload_n (pc := 1322) C 1 dL_law_1322 rfl rfl ?_
  refine wl_aload_n (pc := 1323) C 3 dL_law_1323 rfl rfl ?_
  refine wl_iload_n (pc := 1324) C 0 dL_law_1324 rfl rfl ?_
  refine wl_iconst (v := 1) (pc := 1325) C dL_law_1325 (by decide) ?_
  refine wl_iadd (pc := 1326) C dL_law_1326 ?_
  refine wl_sld (pc := 1327) C h1 dL_law_1327 ?_
  refine wl_aload_n (pc := 1328) C 3 dL_law_1328 rfl rfl ?_
  refine wl_iload_n (pc := 1329) C 0 dL_law_1329 rfl rfl ?_
  refine wl_iconst (v := 2) (pc := 1330) C dL_law_1330 (by decide) ?_
  refine wl_iadd (pc := 1331) C dL_law_1331 ?_
  refine wl_sld (pc := 1332) C h2 dL_law_1332 ?_
  refine wl_callM (As := [.int (xs (Int32.toNatClampNeg (x3 + 1))), .int (xs (Int32.toNatClampNeg (x3 + 2)))]) (st := [.int (r)]) (pc := 1333) C hB hBM hcn hsn (CtX11_next c2) mX11_next iX11_next kL_153 rfl rfl rfl (Nat.le_of_ble_eq_true rfl) ⟨(Nat.le_of_ble_eq_true rfl), (Nat.le_of_ble_eq_true rfl)⟩ dL_law_1333 ?_
  refine wl_same (pc := 1336) C 1433 dL_law_1336 (by decide) ?_
  exact fin Sx1 Sm1 hr
set_option maxRecDepth 100000 in
set_option maxHeartbeats 4000000 in
theorem wl_op32 (C : CL G b L xs) (hB : (gS G).heap.size ≤ BX) (hBM : BX + 272 ≤ BM) (hcn : cn ≤ 600000) (hsn : sn ≤ 7302250) {n : Nat} {Rel : St → St → Prop} (h1 : vp_in (x3 + 1) L) (h2 : vp_in (x3 + 2) L) (h3 : vp_in (x3 + 3) L) (h4 : vp_in (x3 + 4) L) (h5 : vp_in (x3 + 5) L) (hok : Ok_seed n Rel Sx Sm) (fin : ∀ Sx Sm : St, Rel Sx Sm → Wl G BX BM cn sn Q Sx Sm 1433 [(3, .int x3), (2, .ref (adB BM 0)), (1, .ref (adB BX 0)), (0, .ref b)] []) : Wl G BX BM cn sn Q Sx Sm 1341 [(3, .int x3), (2, .ref (adB BM 0)), (1, .ref (adB BX 0)), (0, .ref b)] [] := by
  refine wl_aload_n (pc := 1341) C 2 dL_law_1341 rfl rfl ?_
  refine wl_aload_n (pc := 1342) C 3 dL_law_1342 rfl rfl ?_
  refine wl_iload_n (pc := 1343) C 0 dL_law_1343 rfl rfl ?_
  refine wl_iconst (v := 1) (pc := 1344) C dL_law_1344 (by decide) ?_
  refine wl_iadd (pc := 1345) C dL_law_1345 ?_
  refine wl_sld (pc := 1346) C h1 dL_law_1346 ?_
  obtain ⟨Sx1, Sm1, r, c1, c2, hr⟩ := hok (xs (Int32.toNatClampNeg (x3 + 1))) 
  refine wl_callX (As := [.int (xs (Int32.toNatClampNeg (x3 + 1)))]) (st := []) (pc := 1347) C hB hBM hcn hsn (CtX10_seed c1) mX10_seed iX10_seed kL_154 rfl rfl rfl (Nat.le_of_ble_eq_true rfl) ⟨(Nat.le_of_ble_eq_true rfl), (Nat.le_of_ble_eq_true rfl)⟩ dL_law_1347 ?_
  refine wl_aload_n (pc := 1350) C 1 dL_law_1350 rfl rfl ?_
  refine wl_aload_n (pc := 1351) C 3 dL_law_1351 rfl rfl ?_
  refine wl_iload_n (pc := 1352) C 0 dL_law_1352 rfl rfl ?_
  refine wl_iconst (v := 1) (pc := 1353) C dL_law_1353 (by decide) ?_
  refine wl_iadd (pc := 1354) C dL_law_1354 ?_
  refine wl_sld (pc := 1355) C h1 dL_law_1355 ?_
  refine wl_callM (As := [.int (xs (Int32.toNatClampNeg (x3 + 1)))]) (st := [.int (r)]) (pc := 1356) C hB hBM hcn hsn (CtX11_seed c2) mX11_seed iX11_seed kL_157 rfl rfl rfl (Nat.le_of_ble_eq_true rfl) ⟨(Nat.le_of_ble_eq_true rfl), (Nat.le_of_ble_eq_true rfl)⟩ dL_law_1356 ?_
  refine wl_same (pc := 1359) C 1433 dL_law_1359 (by decide) ?_
  exact fin Sx1 Sm1 hr
set_option maxRecDepth 100000 in
set_option maxHeartbeats 4000000 in
theorem wl_op33 (C : CL G b L xs) (hB : (gS G).heap.size ≤ BX) (hBM : BX + 272 ≤ BM) (hcn : cn ≤ 600000) (hsn : sn ≤ 7302250) {n : Nat} {Rel : St → St → Prop} (h1 : vp_in (x3 + 1) L) (h2 : vp_in (x3 + 2) L) (h3 : vp_in (x3 + 3) L) (h4 : vp_in (x3 + 4) L) (h5 : vp_in (x3 + 5) L) (hok : Ok_image n Rel Sx Sm) (fin : ∀ Sx Sm : St, Rel Sx Sm → Wl G BX BM cn sn Q Sx Sm 1433 [(3, .int x3), (2, .ref (adB BM 0)), (1, .ref (adB BX 0)), (0, .ref b)] []) : Wl G BX BM cn sn Q Sx Sm 1364 [(3, .int x3), (2, .ref (adB BM 0)), (1, .ref (adB BX 0)), (0, .ref b)] [] := by
  refine wl_aload_n (pc := 1364) C 2 dL_law_1364 rfl rfl ?_
  refine wl_aload_n (pc := 1365) C 3 dL_law_1365 rfl rfl ?_
  refine wl_iload_n (pc := 1366) C 0 dL_law_1366 rfl rfl ?_
  refine wl_iconst (v := 1) (pc := 1367) C dL_law_1367 (by decide) ?_
  refine wl_iadd (pc := 1368) C dL_law_1368 ?_
  refine wl_sld (pc := 1369) C h1 dL_law_1369 ?_
  obtain ⟨Sx1, Sm1, r, c1, c2, hr⟩ := hok (xs (Int32.toNatClampNeg (x3 + 1))) 
  refine wl_callX (As := [.int (xs (Int32.toNatClampNeg (x3 + 1)))]) (st := []) (pc := 1370) C hB hBM hcn hsn (CtX10_image c1) mX10_image iX10_image kL_158 rfl rfl rfl (Nat.le_of_ble_eq_true rfl) ⟨(Nat.le_of_ble_eq_true rfl), (Nat.le_of_ble_eq_true rfl)⟩ dL_law_1370 ?_
  refine wl_aload_n (pc := 1373) C 1 dL_law_1373 rfl rfl ?_
  refine wl_aload_n (pc := 1374) C 3 dL_law_1374 rfl rfl ?_
  refine wl_iload_n (pc := 1375) C 0 dL_law_1375 rfl rfl ?_
  refine wl_iconst (v := 1) (pc := 1376) C dL_law_1376 (by decide) ?_
  refine wl_iadd (pc := 1377) C dL_law_1377 ?_
  refine wl_sld (pc := 1378) C h1 dL_law_1378 ?_
  refine wl_callM (As := [.int (xs (Int32.toNatClampNeg (x3 + 1)))]) (st := [.int (r)]) (pc := 1379) C hB hBM hcn hsn (CtX11_image c2) mX11_image iX11_image kL_161 rfl rfl rfl (Nat.le_of_ble_eq_true rfl) ⟨(Nat.le_of_ble_eq_true rfl), (Nat.le_of_ble_eq_true rfl)⟩ dL_law_1379 ?_
  refine wl_same (pc := 1382) C 1433 dL_law_1382 (by decide) ?_
  exact fin Sx1 Sm1 hr
set_option maxRecDepth 100000 in
set_option maxHeartbeats 4000000 in
theorem wl_op34 (C : CL G b L xs) (hB : (gS G).heap.size ≤ BX) (hBM : BX + 272 ≤ BM) (hcn : cn ≤ 600000) (hsn : sn ≤ 7302250) {n : Nat} {Rel : St → St → Prop} (h1 : vp_in (x3 + 1) L) (h2 : vp_in (x3 + 2) L) (h3 : vp_in (x3 + 3) L) (h4 : vp_in (x3 + 4) L) (h5 : vp_in (x3 + 5) L) (hok : Ok_back n Rel Sx Sm) (fin : ∀ Sx Sm : St, Rel Sx Sm → Wl G BX BM cn sn Q Sx Sm 1433 [(3, .int x3), (2, .ref (adB BM 0)), (1, .ref (adB BX 0)), (0, .ref b)] []) : Wl G BX BM cn sn Q Sx Sm 1387 [(3, .int x3), (2, .ref (adB BM 0)), (1, .ref (adB BX 0)), (0, .ref b)] [] := by
  refine wl_aload_n (pc := 1387) C 2 dL_law_1387 rfl rfl ?_
  refine wl_aload_n (pc := 1388) C 3 dL_law_1388 rfl rfl ?_
  refine wl_iload_n (pc := 1389) C 0 dL_law_1389 rfl rfl ?_
  refine wl_iconst (v := 1) (pc := 1390) C dL_law_1390 (by decide) ?_
  refine wl_iadd (pc := 1391) C dL_law_1391 ?_
  refine wl_sld (pc := 1392) C h1 dL_law_1392 ?_
  obtain ⟨Sx1, Sm1, r, c1, c2, hr⟩ := hok (xs (Int32.toNatClampNeg (x3 + 1))) 
  refine wl_callX (As := [.int (xs (Int32.toNatClampNeg (x3 + 1)))]) (st := []) (pc := 1393) C hB hBM hcn hsn (CtX10_back c1) mX10_back iX10_back kL_162 rfl rfl rfl (Nat.le_of_ble_eq_true rfl) ⟨(Nat.le_of_ble_eq_true rfl), (Nat.le_of_ble_eq_true rfl)⟩ dL_law_1393 ?_
  refine wl_aload_n (pc := 1396) C 1 dL_law_1396 rfl rfl ?_
  refine wl_aload_n (pc := 1397) C 3 dL_law_1397 rfl rfl ?_
  refine wl_iload_n (pc := 1398) C 0 dL_law_1398 rfl rfl ?_
  refine wl_iconst (v := 1) (pc := 1399) C dL_law_1399 (by decide) ?_
  refine wl_iadd (pc := 1400) C dL_law_1400 ?_
  refine wl_sld (pc := 1401) C h1 dL_law_1401 ?_
  refine wl_callM (As := [.int (xs (Int32.toNatClampNeg (x3 + 1)))]) (st := [.int (r)]) (pc := 1402) C hB hBM hcn hsn (CtX11_back c2) mX11_back iX11_back kL_165 rfl rfl rfl (Nat.le_of_ble_eq_true rfl) ⟨(Nat.le_of_ble_eq_true rfl), (Nat.le_of_ble_eq_true rfl)⟩ dL_law_1402 ?_
  refine wl_same (pc := 1405) C 1433 dL_law_1405 (by decide) ?_
  exact fin Sx1 Sm1 hr
set_option maxRecDepth 100000 in
set_option maxHeartbeats 4000000 in
theorem wl_op35 (C : CL G b L xs) (hB : (gS G).heap.size ≤ BX) (hBM : BX + 272 ≤ BM) (hcn : cn ≤ 600000) (hsn : sn ≤ 7302250) {n : Nat} {Rel : St → St → Prop} (h1 : vp_in (x3 + 1) L) (h2 : vp_in (x3 + 2) L) (h3 : vp_in (x3 + 3) L) (h4 : vp_in (x3 + 4) L) (h5 : vp_in (x3 + 5) L) (hok : Ok_about n Rel Sx Sm) (fin : ∀ Sx Sm : St, Rel Sx Sm → Wl G BX BM cn sn Q Sx Sm 1433 [(3, .int x3), (2, .ref (adB BM 0)), (1, .ref (adB BX 0)), (0, .ref b)] []) : Wl G BX BM cn sn Q Sx Sm 1410 [(3, .int x3), (2, .ref (adB BM 0)), (1, .ref (adB BX 0)), (0, .ref b)] [] := by
  refine wl_aload_n (pc := 1410) C 2 dL_law_1410 rfl rfl ?_
  refine wl_aload_n (pc := 1411) C 3 dL_law_1411 rfl rfl ?_
  refine wl_iload_n (pc := 1412) C 0 dL_law_1412 rfl rfl ?_
  refine wl_iconst (v := 1) (pc := 1413) C dL_law_1413 (by decide) ?_
  refine wl_iadd (pc := 1414) C dL_law_1414 ?_
  refine wl_sld (pc := 1415) C h1 dL_law_1415 ?_
  obtain ⟨Sx1, Sm1, r, c1, c2, hr⟩ := hok (xs (Int32.toNatClampNeg (x3 + 1))) 
  refine wl_callX (As := [.int (xs (Int32.toNatClampNeg (x3 + 1)))]) (st := []) (pc := 1416) C hB hBM hcn hsn (CtX10_about c1) mX10_about iX10_about kL_166 rfl rfl rfl (Nat.le_of_ble_eq_true rfl) ⟨(Nat.le_of_ble_eq_true rfl), (Nat.le_of_ble_eq_true rfl)⟩ dL_law_1416 ?_
  refine wl_aload_n (pc := 1419) C 1 dL_law_1419 rfl rfl ?_
  refine wl_aload_n (pc := 1420) C 3 dL_law_1420 rfl rfl ?_
  refine wl_iload_n (pc := 1421) C 0 dL_law_1421 rfl rfl ?_
  refine wl_iconst (v := 1) (pc := 1422) C dL_law_1422 (by decide) ?_
  refine wl_iadd (pc := 1423) C dL_law_1423 ?_
  refine wl_sld (pc := 1424) C h1 dL_law_1424 ?_
  refine wl_callM (As := [.int (xs (Int32.toNatClampNeg (x3 + 1)))]) (st := [.int (r)]) (pc := 1425) C hB hBM hcn hsn (CtX11_about c2) mX11_about iX11_about kL_169 rfl rfl rfl (Nat.le_of_ble_eq_true rfl) ⟨(Nat.le_of_ble_eq_true rfl), (Nat.le_of_ble_eq_true rfl)⟩ dL_law_1425 ?_
  refine wl_same (pc := 1428) C 1433 dL_law_1428 (by decide) ?_
  exact fin Sx1 Sm1 hr
theorem and63 (x : Int32) : ∃ k : Nat, k < 64 ∧ x &&& 63 = nI k := pk_andE x 6 (by decide)
set_option maxRecDepth 100000 in
set_option maxHeartbeats 4000000 in
theorem wl_switch (C : CL G b L xs) (hB : (gS G).heap.size ≤ BX) (hBM : BX + 272 ≤ BM) (hcn : cn ≤ 600000) (hsn : sn ≤ 7302250) {n : Nat} {Rel : St → St → Prop} (h1 : vp_in (x3 + 1) L) (h2 : vp_in (x3 + 2) L) (h3 : vp_in (x3 + 3) L) (h4 : vp_in (x3 + 4) L) (h5 : vp_in (x3 + 5) L) (ok : StepOK n Rel) (hr : Rel Sx Sm) (fin : ∀ Sx Sm : St, Rel Sx Sm → Wl G BX BM cn sn Q Sx Sm 1433 [(3, .int x3), (2, .ref (adB BM 0)), (1, .ref (adB BX 0)), (0, .ref b)] []) {x : Int32} : Wl G BX BM cn sn Q Sx Sm 33 [(3, .int x3), (2, .ref (adB BM 0)), (1, .ref (adB BX 0)), (0, .ref b)] [.int (x &&& 63)] := by
  obtain ⟨k, hk, e⟩ := and63 x
  rw [e]
  have ht : (nI k).toInt = (k : Int) := nI_toInt (by omega)
  have hk' := ok Sx Sm hr
  by_cases hc : k < 36
  · exact match k, hc, ht with
    | 0, _, ht => wl_tableIn (off := 159) (pc := 33) C 192 dL_law_33 (by rw [ht]; decide) (by rw [ht]; decide) (by rw [ht]; rfl) (by decide) (wl_op0 C hB hBM hcn hsn h1 h2 h3 h4 h5 hk'.1 fin)
    | 1, _, ht => wl_tableIn (off := 222) (pc := 33) C 255 dL_law_33 (by rw [ht]; decide) (by rw [ht]; decide) (by rw [ht]; rfl) (by decide) (wl_op1 C hB hBM hcn hsn h1 h2 h3 h4 h5 hk'.2.1 fin)
    | 2, _, ht => wl_tableIn (off := 245) (pc := 33) C 278 dL_law_33 (by rw [ht]; decide) (by rw [ht]; decide) (by rw [ht]; rfl) (by decide) (wl_op2 C hB hBM hcn hsn h1 h2 h3 h4 h5 hk'.2.2.1 fin)
    | 3, _, ht => wl_tableIn (off := 258) (pc := 33) C 291 dL_law_33 (by rw [ht]; decide) (by rw [ht]; decide) (by rw [ht]; rfl) (by decide) (wl_op3 C hB hBM hcn hsn h1 h2 h3 h4 h5 hk'.2.2.2.1 fin)
    | 4, _, ht => wl_tableIn (off := 281) (pc := 33) C 314 dL_law_33 (by rw [ht]; decide) (by rw [ht]; decide) (by rw [ht]; rfl) (by decide) (wl_op4 C hB hBM hcn hsn h1 h2 h3 h4 h5 hk'.2.2.2.2.1 fin)
    | 5, _, ht => wl_tableIn (off := 314) (pc := 33) C 347 dL_law_33 (by rw [ht]; decide) (by rw [ht]; decide) (by rw [ht]; rfl) (by decide) (wl_op5 C hB hBM hcn hsn h1 h2 h3 h4 h5 hk'.2.2.2.2.2.1 fin)
    | 6, _, ht => wl_tableIn (off := 358) (pc := 33) C 391 dL_law_33 (by rw [ht]; decide) (by rw [ht]; decide) (by rw [ht]; rfl) (by decide) (wl_op6 C hB hBM hcn hsn h1 h2 h3 h4 h5 hk'.2.2.2.2.2.2.1 fin)
    | 7, _, ht => wl_tableIn (off := 428) (pc := 33) C 461 dL_law_33 (by rw [ht]; decide) (by rw [ht]; decide) (by rw [ht]; rfl) (by decide) (wl_op7 C hB hBM hcn hsn h1 h2 h3 h4 h5 hk'.2.2.2.2.2.2.2.1 fin)
    | 8, _, ht => wl_tableIn (off := 487) (pc := 33) C 520 dL_law_33 (by rw [ht]; decide) (by rw [ht]; decide) (by rw [ht]; rfl) (by decide) (wl_op8 C hB hBM hcn hsn h1 h2 h3 h4 h5 hk'.2.2.2.2.2.2.2.2.1 fin)
    | 9, _, ht => wl_tableIn (off := 510) (pc := 33) C 543 dL_law_33 (by rw [ht]; decide) (by rw [ht]; decide) (by rw [ht]; rfl) (by decide) (wl_op9 C hB hBM hcn hsn h1 h2 h3 h4 h5 hk'.2.2.2.2.2.2.2.2.2.1 fin)
    | 10, _, ht => wl_tableIn (off := 563) (pc := 33) C 596 dL_law_33 (by rw [ht]; decide) (by rw [ht]; decide) (by rw [ht]; rfl) (by decide) (wl_op10 C hB hBM hcn hsn h1 h2 h3 h4 h5 hk'.2.2.2.2.2.2.2.2.2.2.1 fin)
    | 11, _, ht => wl_tableIn (off := 576) (pc := 33) C 609 dL_law_33 (by rw [ht]; decide) (by rw [ht]; decide) (by rw [ht]; rfl) (by decide) (wl_op11 C hB hBM hcn hsn h1 h2 h3 h4 h5 hk'.2.2.2.2.2.2.2.2.2.2.2.1 fin)
    | 12, _, ht => wl_tableIn (off := 625) (pc := 33) C 658 dL_law_33 (by rw [ht]; decide) (by rw [ht]; decide) (by rw [ht]; rfl) (by decide) (wl_op12 C hB hBM hcn hsn h1 h2 h3 h4 h5 hk'.2.2.2.2.2.2.2.2.2.2.2.2.1 fin)
    | 13, _, ht => wl_tableIn (off := 675) (pc := 33) C 708 dL_law_33 (by rw [ht]; decide) (by rw [ht]; decide) (by rw [ht]; rfl) (by decide) (wl_op13 C hB hBM hcn hsn h1 h2 h3 h4 h5 hk'.2.2.2.2.2.2.2.2.2.2.2.2.2.1 fin)
    | 14, _, ht => wl_tableIn (off := 724) (pc := 33) C 757 dL_law_33 (by rw [ht]; decide) (by rw [ht]; decide) (by rw [ht]; rfl) (by decide) (wl_op14 C hB hBM hcn hsn h1 h2 h3 h4 h5 hk'.2.2.2.2.2.2.2.2.2.2.2.2.2.2.1 fin)
    | 15, _, ht => wl_tableIn (off := 747) (pc := 33) C 780 dL_law_33 (by rw [ht]; decide) (by rw [ht]; decide) (by rw [ht]; rfl) (by decide) (wl_op15 C hB hBM hcn hsn h1 h2 h3 h4 h5 hk'.2.2.2.2.2.2.2.2.2.2.2.2.2.2.2.1 fin)
    | 16, _, ht => wl_tableIn (off := 807) (pc := 33) C 840 dL_law_33 (by rw [ht]; decide) (by rw [ht]; decide) (by rw [ht]; rfl) (by decide) (wl_op16 C hB hBM hcn hsn h1 h2 h3 h4 h5 hk'.2.2.2.2.2.2.2.2.2.2.2.2.2.2.2.2.1 fin)
    | 17, _, ht => wl_tableIn (off := 830) (pc := 33) C 863 dL_law_33 (by rw [ht]; decide) (by rw [ht]; decide) (by rw [ht]; rfl) (by decide) (wl_op17 C hB hBM hcn hsn h1 h2 h3 h4 h5 hk'.2.2.2.2.2.2.2.2.2.2.2.2.2.2.2.2.2.1 fin)
    | 18, _, ht => wl_tableIn (off := 890) (pc := 33) C 923 dL_law_33 (by rw [ht]; decide) (by rw [ht]; decide) (by rw [ht]; rfl) (by decide) (wl_op18 C hB hBM hcn hsn h1 h2 h3 h4 h5 hk'.2.2.2.2.2.2.2.2.2.2.2.2.2.2.2.2.2.2.1 fin)
    | 19, _, ht => wl_tableIn (off := 913) (pc := 33) C 946 dL_law_33 (by rw [ht]; decide) (by rw [ht]; decide) (by rw [ht]; rfl) (by decide) (wl_op19 C hB hBM hcn hsn h1 h2 h3 h4 h5 hk'.2.2.2.2.2.2.2.2.2.2.2.2.2.2.2.2.2.2.2.1 fin)
    | 20, _, ht => wl_tableIn (off := 972) (pc := 33) C 1005 dL_law_33 (by rw [ht]; decide) (by rw [ht]; decide) (by rw [ht]; rfl) (by decide) (wl_op20 C hB hBM hcn hsn h1 h2 h3 h4 h5 hk'.2.2.2.2.2.2.2.2.2.2.2.2.2.2.2.2.2.2.2.2.1 fin)
    | 21, _, ht => wl_tableIn (off := 995) (pc := 33) C 1028 dL_law_33 (by rw [ht]; decide) (by rw [ht]; decide) (by rw [ht]; rfl) (by decide) (wl_op21 C hB hBM hcn hsn h1 h2 h3 h4 h5 hk'.2.2.2.2.2.2.2.2.2.2.2.2.2.2.2.2.2.2.2.2.2.1 fin)
    | 22, _, ht => wl_tableIn (off := 1028) (pc := 33) C 1061 dL_law_33 (by rw [ht]; decide) (by rw [ht]; decide) (by rw [ht]; rfl) (by decide) (wl_op22 C hB hBM hcn hsn h1 h2 h3 h4 h5 hk'.2.2.2.2.2.2.2.2.2.2.2.2.2.2.2.2.2.2.2.2.2.2.1 fin)
    | 23, _, ht => wl_tableIn (off := 1051) (pc := 33) C 1084 dL_law_33 (by rw [ht]; decide) (by rw [ht]; decide) (by rw [ht]; rfl) (by decide) (wl_op23 C hB hBM hcn hsn h1 h2 h3 h4 h5 hk'.2.2.2.2.2.2.2.2.2.2.2.2.2.2.2.2.2.2.2.2.2.2.2.1 fin)
    | 24, _, ht => wl_tableIn (off := 1074) (pc := 33) C 1107 dL_law_33 (by rw [ht]; decide) (by rw [ht]; decide) (by rw [ht]; rfl) (by decide) (wl_op24 C hB hBM hcn hsn h1 h2 h3 h4 h5 hk'.2.2.2.2.2.2.2.2.2.2.2.2.2.2.2.2.2.2.2.2.2.2.2.2.1 fin)
    | 25, _, ht => wl_tableIn (off := 1087) (pc := 33) C 1120 dL_law_33 (by rw [ht]; decide) (by rw [ht]; decide) (by rw [ht]; rfl) (by decide) (wl_op25 C hB hBM hcn hsn h1 h2 h3 h4 h5 hk'.2.2.2.2.2.2.2.2.2.2.2.2.2.2.2.2.2.2.2.2.2.2.2.2.2.1 fin)
    | 26, _, ht => wl_tableIn (off := 1120) (pc := 33) C 1153 dL_law_33 (by rw [ht]; decide) (by rw [ht]; decide) (by rw [ht]; rfl) (by decide) (wl_op26 C hB hBM hcn hsn h1 h2 h3 h4 h5 hk'.2.2.2.2.2.2.2.2.2.2.2.2.2.2.2.2.2.2.2.2.2.2.2.2.2.2.1 fin)
    | 27, _, ht => wl_tableIn (off := 1173) (pc := 33) C 1206 dL_law_33 (by rw [ht]; decide) (by rw [ht]; decide) (by rw [ht]; rfl) (by decide) (wl_op27 C hB hBM hcn hsn h1 h2 h3 h4 h5 hk'.2.2.2.2.2.2.2.2.2.2.2.2.2.2.2.2.2.2.2.2.2.2.2.2.2.2.2.1 fin)
    | 28, _, ht => wl_tableIn (off := 1196) (pc := 33) C 1229 dL_law_33 (by rw [ht]; decide) (by rw [ht]; decide) (by rw [ht]; rfl) (by decide) (wl_op28 C hB hBM hcn hsn h1 h2 h3 h4 h5 hk'.2.2.2.2.2.2.2.2.2.2.2.2.2.2.2.2.2.2.2.2.2.2.2.2.2.2.2.2.1 fin)
    | 29, _, ht => wl_tableIn (off := 1219) (pc := 33) C 1252 dL_law_33 (by rw [ht]; decide) (by rw [ht]; decide) (by rw [ht]; rfl) (by decide) (wl_op29 C hB hBM hcn hsn h1 h2 h3 h4 h5 hk'.2.2.2.2.2.2.2.2.2.2.2.2.2.2.2.2.2.2.2.2.2.2.2.2.2.2.2.2.2.1 fin)
    | 30, _, ht => wl_tableIn (off := 1242) (pc := 33) C 1275 dL_law_33 (by rw [ht]; decide) (by rw [ht]; decide) (by rw [ht]; rfl) (by decide) (wl_op30 C hB hBM hcn hsn h1 h2 h3 h4 h5 hk'.2.2.2.2.2.2.2.2.2.2.2.2.2.2.2.2.2.2.2.2.2.2.2.2.2.2.2.2.2.2.1 fin)
    | 31, _, ht => wl_tableIn (off := 1275) (pc := 33) C 1308 dL_law_33 (by rw [ht]; decide) (by rw [ht]; decide) (by rw [ht]; rfl) (by decide) (wl_op31 C hB hBM hcn hsn h1 h2 h3 h4 h5 hk'.2.2.2.2.2.2.2.2.2.2.2.2.2.2.2.2.2.2.2.2.2.2.2.2.2.2.2.2.2.2.2.1 fin)
    | 32, _, ht => wl_tableIn (off := 1308) (pc := 33) C 1341 dL_law_33 (by rw [ht]; decide) (by rw [ht]; decide) (by rw [ht]; rfl) (by decide) (wl_op32 C hB hBM hcn hsn h1 h2 h3 h4 h5 hk'.2.2.2.2.2.2.2.2.2.2.2.2.2.2.2.2.2.2.2.2.2.2.2.2.2.2.2.2.2.2.2.2.1 fin)
    | 33, _, ht => wl_tableIn (off := 1331) (pc := 33) C 1364 dL_law_33 (by rw [ht]; decide) (by rw [ht]; decide) (by rw [ht]; rfl) (by decide) (wl_op33 C hB hBM hcn hsn h1 h2 h3 h4 h5 hk'.2.2.2.2.2.2.2.2.2.2.2.2.2.2.2.2.2.2.2.2.2.2.2.2.2.2.2.2.2.2.2.2.2.1 fin)
    | 34, _, ht => wl_tableIn (off := 1354) (pc := 33) C 1387 dL_law_33 (by rw [ht]; decide) (by rw [ht]; decide) (by rw [ht]; rfl) (by decide) (wl_op34 C hB hBM hcn hsn h1 h2 h3 h4 h5 hk'.2.2.2.2.2.2.2.2.2.2.2.2.2.2.2.2.2.2.2.2.2.2.2.2.2.2.2.2.2.2.2.2.2.2.1 fin)
    | 35, _, ht => wl_tableIn (off := 1377) (pc := 33) C 1410 dL_law_33 (by rw [ht]; decide) (by rw [ht]; decide) (by rw [ht]; rfl) (by decide) (wl_op35 C hB hBM hcn hsn h1 h2 h3 h4 h5 hk'.2.2.2.2.2.2.2.2.2.2.2.2.2.2.2.2.2.2.2.2.2.2.2.2.2.2.2.2.2.2.2.2.2.2.2 fin)
    | k + 36, hc, _ => absurd hc (by omega)
  · exact wl_tableOut (pc := 33) C 1433 dL_law_33 (by rw [ht]; omega) (by decide) (fin Sx Sm hr)

theorem sub6 {L : Nat} (hL : L ≤ 384) : (Int32.ofNat L - 6).toInt = (L : Int) - 6 := by
  have h : ∀ L, L < 385 → (Int32.ofNat L - 6).toInt = (L : Int) - 6 := by decide +kernel
  exact h L (by omega)
set_option maxRecDepth 100000 in
set_option maxHeartbeats 4000000 in
/-- THE LAW'S LOOP -/
theorem wl_loop (C : CL G b L xs) (hL : L ≤ 384) (hB : (gS G).heap.size ≤ BX) (hBM : BX + 272 ≤ BM) (hcn : cn ≤ 600000) (hsn : sn ≤ 7302250) {n : Nat} {Rel : St → St → Prop} (ok : StepOK n Rel) (endd : ∀ Sx Sm : St, ∀ lv, Wl G BX BM cn sn Q Sx Sm 1440 lv [.int 1]) :
    ∀ (f i : Nat), L + 6 ≤ i + 6 * f → i ≤ 390 → ∀ Sx Sm : St, Rel Sx Sm → Wl G BX BM cn sn Q Sx Sm 18 [(3, .int (nI i)), (2, .ref (adB BM 0)), (1, .ref (adB BX 0)), (0, .ref b)] [] := by
  intro f
  induction f with
  | zero =>
    intro i h h390 Sx Sm hr
    refine wl_iload_n (pc := 18) C 0 dL_law_18 rfl rfl ?_
    refine wl_aload_n (pc := 19) C 3 dL_law_19 rfl rfl ?_
    refine wl_slen (pc := 20) C dL_law_20 ?_
    refine wl_bipush (v := 6) (pc := 21) C dL_law_21 (by decide) ?_
    refine wl_isub (pc := 23) C dL_law_23 ?_
    refine wl_icmp_gt (pc := 24) C 1439 dL_law_24 (by decide) (fun q => ?_) (fun q => absurd ?_ q)
    · refine wl_iconst (v := 1) (pc := 1439) C dL_law_1439 (by decide) ?_
      exact endd Sx Sm _
    · rw [Int32.lt_iff_toInt_lt, sub6 hL, nI_toInt (by omega)]
      omega
  | succ f ih =>
    intro i h h390 Sx Sm hr
    refine wl_iload_n (pc := 18) C 0 dL_law_18 rfl rfl ?_
    refine wl_aload_n (pc := 19) C 3 dL_law_19 rfl rfl ?_
    refine wl_slen (pc := 20) C dL_law_20 ?_
    refine wl_bipush (v := 6) (pc := 21) C dL_law_21 (by decide) ?_
    refine wl_isub (pc := 23) C dL_law_23 ?_
    refine wl_icmp_gt (pc := 24) C 1439 dL_law_24 (by decide) (fun q => ?_) (fun q => ?_)
    · refine wl_iconst (v := 1) (pc := 1439) C dL_law_1439 (by decide) ?_
      exact endd Sx Sm _
    · have hi : i + 6 ≤ L := by
        rw [Int32.lt_iff_toInt_lt, sub6 hL, nI_toInt (by omega)] at q
        omega
      have hin : ∀ k : Nat, k < 6 → vp_in (nI i + nI k) L := fun k hk => by rw [nI_add]; exact vp_in_nI (by omega) (by omega)
      refine wl_aload_n (pc := 27) C 3 dL_law_27 rfl rfl ?_
      refine wl_iload_n (pc := 28) C 0 dL_law_28 rfl rfl ?_
      refine wl_sld (pc := 29) C (vp_in_nI (by omega) (by omega)) dL_law_29 ?_
      refine wl_bipush (v := 63) (pc := 30) C dL_law_30 (by decide) ?_
      refine wl_iand (pc := 32) C dL_law_32 ?_
      refine wl_switch C hB hBM hcn hsn (hin 1 (by decide)) (hin 2 (by decide)) (hin 3 (by decide)) (hin 4 (by decide)) (hin 5 (by decide)) ok hr (fun Sx Sm hr => ?_)
      refine wl_iinc (q := 0) (v := nI (i + 6)) (pc := 1433) C (by rw [← nI_add]; rfl) [(3, .int (nI (i + 6))), (2, .ref (adB BM 0)), (1, .ref (adB BX 0)), (0, .ref b)] dL_law_1433 rfl (by decide) rfl ?_
      refine wl_goto (pc := 1436) C 18 dL_law_1436 (by decide) ?_
      exact ih (i + 6) (by omega) (by omega) Sx Sm hr
end
