def cpS : List Nat := [9, 17, 19, 21, 23, 25, 27, 29, 31, 33, 35, 37, 39, 41]
def txS : List String := ["bands", "dye", "ground", "lamp", "eye", "good", "most", "alike", "over", "slip", "price", "fast", "of", "on"]
def lenS : List Nat := [5, 3, 6, 4, 3, 4, 4, 5, 4, 4, 5, 4, 2, 2]
def bytS : List (List Int32) := [[98, 97, 110, 100, 115], [100, 121, 101], [103, 114, 111, 117, 110, 100], [108, 97, 109, 112], [101, 121, 101], [103, 111, 111, 100], [109, 111, 115, 116], [97, 108, 105, 107, 101], [111, 118, 101, 114], [115, 108, 105, 112], [112, 114, 105, 99, 101], [102, 97, 115, 116], [111, 102], [111, 110]]

abbrev adB (B : Nat) : Nat → Nat := fun i => B + i
abbrev AB (B : Nat) : Nat → Prop := fun q => B ≤ q
theorem inj_B {sd : Sd} {B : Nat} (h : sd.1 ≤ 999999) : Inj sd (adB B) := ⟨h, fun i j _ _ e => by have e : B + i = B + j := e; omega⟩
def AOI (U : State) : Prop := (Cond.arrayOver (.array .int)).before #[] U = true
theorem AOI_moved {u U : State} (hvm : u.vm.Alike U.vm) (h : AOI u) : AOI U := by
  have h' := h
  unfold AOI Cond.before Cond.holds at h'
  simp only [Cond.value] at h'
  cases h1 : u.vm.findClass (FieldType.array FieldType.int).toString with
  | none => rw [h1] at h'; exact absurd h' (by simp)
  | some comp =>
    rw [h1, Option.bind_some] at h'
    cases h2 : (u.vm.classes.findIdx? fun (x : Class) => match x.kind with | .array component _ => component == comp | _ => false) with
    | none => exact absurd (Eq.trans (congrArg (fun o : Option Nat => (o.bind (fun c => (u.vm.classes[c]?).map fun (k : Class) => match k.kind with | .array _ ty => decide (ty = FieldType.array .int) && decide (u.vm.findClass ("[" ++ (FieldType.array .int).toString) = some c) | _ => false) == some true)) h2).symm h') (by simp)
    | some c =>
      have h'' := Eq.trans (congrArg (fun o : Option Nat => (o.bind (fun c => (u.vm.classes[c]?).map fun (k : Class) => match k.kind with | .array _ ty => decide (ty = FieldType.array .int) && decide (u.vm.findClass ("[" ++ (FieldType.array .int).toString) = some c) | _ => false) == some true)) h2).symm h'
      simp only [Option.bind_some] at h''
      cases h3 : u.vm.classes[c]? with
      | none => rw [h3] at h''; exact absurd h'' (by simp)
      | some k =>
        rw [h3] at h''
        obtain ⟨k', hk', he⟩ := hvm.2.2 _ _ h3
        have hkind : k'.kind = k.kind := by rw [he]
        have hi : (U.vm.classes.findIdx? fun (x : Class) => match x.kind with | .array component _ => component == comp | _ => false) = some c := by
          have hb : U.vm.bare = u.vm.bare := by first | exact hvm.bare_eq | exact hvm.bare_eq.symm
          have b1 := va_idx_bare U.vm comp
          have b2 := va_idx_bare u.vm comp
          rw [hb] at b1
          exact (b1.symm.trans b2).trans h2
        have f1 : U.vm.findClass (FieldType.array .int).toString = some comp := by rw [hvm.findClass]; exact h1
        have f2 : U.vm.findClass ("[" ++ (FieldType.array .int).toString) = u.vm.findClass ("[" ++ (FieldType.array .int).toString) := hvm.findClass _ _
        unfold AOI Cond.before Cond.holds
        simp only [Cond.value]
        rw [f1, Option.bind_some]
        refine (congrArg (fun o : Option Nat => (o.bind (fun c => (U.vm.classes[c]?).map fun (k : Class) => match k.kind with | .array _ ty => decide (ty = FieldType.array .int) && decide (U.vm.findClass ("[" ++ (FieldType.array .int).toString) = some c) | _ => false) == some true)) hi).trans ?_
        simp only [Option.bind_some, hk', Option.map_some, hkind, f2]
        simpa using h''
/-- the text constants, and what the JDK's statics hold -/
def Str (q : (Nat → Nat) × (Nat → Nat)) (B : Nat) (U : State) : Prop :=
  vk_S 14 lenS bytS q.1 q.2 (AB B) U U.heap ∧ (∀ i, i < 14 → vk_R RX7 (cpS.getD i 0) (txS.getD i "") (q.1 i) U) ∧ va_Z "java/lang/String" "COMPACT_STRINGS" "Z" (.int 1) (AB B) U U.heap ∧ va_Zq "jdk/internal/util/Preconditions" "SIOOBE_FORMATTER" "Ljava/util/function/BiFunction;" (AB B) U U.heap ∧ va_AO "DyeLamps$Vat" U ∧ AOI U
theorem Str_to {q : (Nat → Nat) × (Nat → Nat)} {B : Nat} {s U : State} {H : Heap} {locs : List Loc} (h : Str q B s) (hS : va_S (AB B) s.heap H locs) (hU : U.heap = H) (hW : s.WarmedH U.vm) : Str q B U := by
  obtain ⟨h1, h2, h3, h4, h5, h6⟩ := h
  have hk : ∀ a : Nat, a < s.heap.size → ¬ AB B a → U.heap[a]? = s.heap[a]? := fun a x y => by rw [hU]; exact hS.2.1 a x y
  exact ⟨(h1.kept hk).moved hW.alike, fun i hi => (h2 i hi).warm hW, (h3.kept hk).moved hW.alike, (h4.kept hk).moved hW.alike, h5.moved hW.alike, AOI_moved hW.alike h6⟩
theorem Str_blind {q : (Nat → Nat) × (Nat → Nat)} {B : Nat} {U : State} {g : JFrame} {mk : MethodId} {a : Array Value} (h : Str q B U) : Str q B (U.calling g mk a) := by
  obtain ⟨h1, h2, h3, h4, h5, h6⟩ := h
  exact ⟨h1.moved (U := U.calling g mk a) (Vm.Alike.refl U.vm), fun i hi => (h2 i hi).same rfl, h3.moved (U := U.calling g mk a) (Vm.Alike.refl U.vm), h4.moved (U := U.calling g mk a) (Vm.Alike.refl U.vm), h5.moved (U := U.calling g mk a) (Vm.Alike.refl U.vm), AOI_moved (U := U.calling g mk a) (Vm.Alike.refl U.vm) h6⟩
def Cn (G : Gx) (B N0 : Nat) (q : (Nat → Nat) × (Nat → Nat)) (cc : ByteArray) (nL : Nat) (own : String) (ret : Option FieldType) : Prop :=
  (gP G).tables.exec = Jvm.exec ∧ (gC G).code = cc ∧ (gC G).maxLocals = nL ∧ (gS G).vm.findClass own = some (gM G).cls ∧ (∀ w ∈ lw_g, w.before (gV G) (gS G) = true) ∧ va_K (gD G) vwCl (tysOf (gY G)) (gS G) ∧ (gT G).locks = false ∧ (gT G).sig.returnType = ret ∧ (gS G).heap.size = B + N0 ∧ Str q B (gS G) ∧ (gT G).name = "<init>"
def Wn (G : Gx) (sd : Sd) (B : Nat) (R : Room) (nL : Nat) (Q : State → Prop) (cn sn : Nat) (S : St) (pc : Nat) (lv : List (Nat × Value)) (st : List Value) : Prop :=
  ∀ (H : Heap) (locs : List Loc) (ls : Array Slot), va_P (gD G) vwCl (cells sd (gY G) (adB B) S) H → va_S (AB B) (gS G).heap H locs → lv_has ls nL lv → W (gP G) (gL G) (gE G) R (gS G) (gM G) (gV G) (gB G) (gT G) (gC G) H locs cn sn Q (F0 (gM G) pc ls st)
def PreN (sd : Sd) (cy : Nat → ClassId) (B : Nat) (D : va_G) (q : (Nat → Nat) × (Nat → Nat)) (S : St) (U : State) : Prop := U.heap.size = B + sd.1 ∧ sd.1 ≤ 999999 ∧ va_P D vwCl (cells sd cy (adB B) S) U.heap ∧ va_K D vwCl (tysOf cy) U ∧ Str q B U
def QoN (sd : Sd) (cy : Nat → ClassId) (B : Nat) (D : va_G) (S : St) : Array Value → State → Outcome → State → Prop := fun _ st oc t => oc = .returned none ∧ va_P D vwCl (cells sd cy (adB B) S) t.heap ∧ va_F (AB B) st t
abbrev rmN (fr lo mc ms : Nat) : Room := { frames := fr, cells := mc, slots := ms, locals := lo }
/-- the contract of a constructor: sd, S to sd', S' -/
def CtN (l : Launch) (cy : Nat → ClassId) (B : Nat) (D : va_G) (q : (Nat → Nat) × (Nat → Nat)) (y : MethodName) (cc : ByteArray) (nL : Nat) (fr lo mc ms : Nat) (av : List Value) (sd : Sd) (S : St) (sd' : Sd) (S' : St) : Prop :=
  Met l y (Cond.code y cc nL none :: lw_g) (rmN fr lo mc ms) (va_Pc av (PreN sd cy B D q S)) (QoN sd' cy B D S') mc ms (AB B)
def QmN (G : Gx) (B mc ms : Nat) (sd : Sd) (S : St) : State → Prop := MQ (gB G) (QoN sd (gY G) B (gD G) S) (gV G) (gS G) mc ms (AB B)
-- what is made
def aI (S : St) (N : Nat) : St := (va_up S.1 N (fun _ => 0), S.2)
def aL (S : St) (N : Nat) : St := (S.1, va_up S.2.1 N (fun _ => 0), S.2.2)
def aO (S : St) (N : Nat) : St := (va_up S.1 N (fun _ => 0), va_up S.2.1 N (fun _ => 0), va_up S.2.2 N (fun _ => 999999))
def aM (S : St) (N n : Nat) : St := (fun a => if N < a ∧ a ≤ N + n then (fun _ => 0) else S.1 a, S.2)
def sdA (sd : Sd) : Sd := (sd.1 + 1, sd.2)
def sdO (sd : Sd) : Sd := (sd.1 + 1, sd.2.1, sd.2.2.1, va_up sd.2.2.2 sd.1 (fun _ => 999999))
def sdM2 (sd : Sd) (n : Nat) : Sd := (sd.1 + 1 + n, sd.2.1, sd.2.2.1, va_up sd.2.2.2 sd.1 (fun i => sd.1 + 1 + i))
def sdP (sd : Sd) (a k v : Nat) : Sd := (sd.1, sd.2.1, sd.2.2.1, va_up sd.2.2.2 a (va_up (sd.2.2.2 a) k v))
theorem ext_P {sd sd1 : Sd} {cy : Nat → ClassId} {ad : Nat → Nat} {S S1 : St} {D : va_G} {H H' : Heap} (hP : va_P D vwCl (cells sd cy ad S) H) (hold : ∀ a, a < sd.1 → eC sd1 cy ad S1 a = eC sd cy ad S a) (hkeep : ∀ q, q < H.size → H'[q]? = H[q]?) (hnew : ∀ a, sd.1 ≤ a → a < sd1.1 → va_at D vwCl (ad a, eC sd1 cy ad S1 a) H') : va_P D vwCl (cells sd1 cy ad S1) H' := by
  intro k x hx
  obtain ⟨hk, rfl⟩ := cells_at hx
  by_cases h : k < sd.1
  · have h0 := hP k _ (cells_get h)
    rw [hold k h]
    exact h0.kept (hkeep _ h0.lt)
  · exact hnew k (by omega) hk
theorem cells_set2 {sd sd1 : Sd} {cy : Nat → ClassId} {ad : Nat → Nat} {S S' : St} {a : Nat} {e : va_E} (hs : sd1.1 = sd.1) (h : a < sd.1) (he : eC sd1 cy ad S' a = e) (ho : ∀ b, b ≠ a → eC sd1 cy ad S' b = eC sd cy ad S b) : (cells sd cy ad S).set a (ad a, e) = cells sd1 cy ad S' := by
  apply List.ext_getElem?
  intro k
  by_cases hk : k < sd.1
  · rw [cells_get (sd := sd1) (by rw [hs]; exact hk)]
    by_cases hka : a = k
    · subst hka
      rw [List.getElem?_set_self (by rw [cells_len]; exact hk), he]
    · rw [List.getElem?_set_ne hka, cells_get hk, ho k (fun q => hka q.symm)]
  · rw [List.getElem?_eq_none (by rw [List.length_set, cells_len]; omega), List.getElem?_eq_none (by rw [cells_len]; omega)]
theorem eC_sr {sd sd1 : Sd} {cy : Nat → ClassId} {ad : Nat → Nat} {S : St} {b : Nat} (h1 : sd1.2.1 b = sd.2.1 b) (h2 : sd1.2.2.1 b = sd.2.2.1 b) (h3 : sd1.2.2.2 b = sd.2.2.2 b) : eC sd1 cy ad S b = eC sd cy ad S b := by
  have : fv ad sd1.2.2.2 (sd.2.1 b) S b = fv ad sd.2.2.2 (sd.2.1 b) S b := by
    funext k
    simp only [fv, h3]
  simp only [eC, h1, h2, h3, this]
theorem set_S {sd : Sd} {cy : Nat → ClassId} {ad : Nat → Nat} {S : St} {a k ci v : Nat} (hv9 : v ≠ 999999) (ha : a < sd.1) (hkd : sd.2.1 a = ci) (hc : ci < 12) (hk : k < nsl ci) (ht : tg ci k = 2) :
    (cells sd cy ad S).set a (ad a, .inr (ci, ((List.range (nsl ci)).map (fv ad sd.2.2.2 ci S a)).set k (.ref (ad v)))) = cells (sdP sd a k v) cy ad S := by
  refine cells_set2 rfl ha ?_ (fun b hb => eC_sr rfl rfl (up_other _ _ hb))
  rw [eC_obj (sd := sdP sd a k v) hkd hc]
  have hv : Value.ref (ad v) = fv ad (sdP sd a k v).2.2.2 ci S a k := by
    simp [fv, ht, sdP, up_same, hv9]
  rw [hv, map_set hk]
  intro j hj
  have e1 : (sdP sd a k v).2.2.2 a j = sd.2.2.2 a j := by simp only [sdP, up_same, up_other _ _ hj]
  unfold fv
  rw [e1]

theorem arrV_ext {c : ClassId} {N : Nat} {f g : Nat → Value} (h : ∀ j, j < N → f j = g j) : arrV c N f = arrV c N g := by
  unfold arrV
  have : (fun j : Fin N => f j.val) = (fun j : Fin N => g j.val) := funext fun j => h j.val j.isLt
  rw [this]
theorem vz_outer (c : ClassId) (N h0 : Nat) : ∀ i : Nat, Jvm.Free.Multi.outerC c N h0 i = arrV c N (fun j => va_rf (if j < i then some (h0 + 1 + j) else none))
  | 0 => by
    show ({ cls := c, slots := Array.replicate N .null, vm := .none } : Cell) = _
    rw [arrV_new]
    refine congrArg (arrV c N) (funext fun j => ?_)
    simp [va_rf]
  | i + 1 => by
    show (Jvm.Free.Multi.outerC c N h0 i).setSlot i (.ref (h0 + 1 + i)) = _
    rw [vz_outer c N h0 i, arrV_store]
    refine congrArg (arrV c N) (funext fun j => ?_)
    by_cases e : j = i
    · subst e
      simp [updV, va_rf]
    · by_cases h : j < i
      · simp [updV, e, h, Nat.lt_succ_of_lt h]
      · simp [updV, e, h, show ¬ j < i + 1 by omega]
/-- how large the heap is: what stands, and no more -/
theorem wn_size {G : Gx} {sd : Sd} {B N0 cn sn : Nat} {q : (Nat → Nat) × (Nat → Nat)} {cc : ByteArray} {nL : Nat} {own : String} {ret : Option FieldType} {R : Room} {Q : State → Prop} {S : St} {H : Heap} {locs : List Loc} {g : JFrame} (C : Cn G B N0 q cc nL own ret) (hN : sd.1 = N0 + cn) (hP : va_P (gD G) vwCl (cells sd (gY G) (adB B) S) H) (hS : va_S (AB B) (gS G).heap H locs)
    (k : H.size = B + sd.1 → W (gP G) (gL G) (gE G) R (gS G) (gM G) (gV G) (gB G) (gT G) (gC G) H locs cn sn Q g) : W (gP G) (gL G) (gE G) R (gS G) (gM G) (gV G) (gB G) (gT G) (gC G) H locs cn sn Q g := fun T hT X => by
  have h1 : T.heap.size ≤ (gS G).heap.size + cn := X.same.2.2.1
  have h2 : (gS G).heap.size = B + N0 := C.2.2.2.2.2.2.2.2.1
  have h3 : B + sd.1 ≤ H.size := by
    by_cases h0 : sd.1 = 0
    · have := hS.1
      omega
    · have h4 := (hP (sd.1 - 1) _ (cells_get (by omega))).lt
      have h5 : B + (sd.1 - 1) < H.size := h4
      omega
  exact k (by rw [hT] at h1; omega) T hT X
section
variable {G : Gx} {sd sd1 : Sd} {B N0 cn sn : Nat} {qs : (Nat → Nat) × (Nat → Nat)} {R : Room} {cc : ByteArray} {nL : Nat} {own : String} {ret : Option FieldType} {Q : State → Prop} {S S1 : St} {pc : Nat} {lv lv' : List (Nat × Value)} {st : List Value}

theorem wn_iconst (C : Cn G B N0 qs cc nL own ret) {n : Int} {v : Int32} (hd : decode cc pc = .ok (.iconst n, 1)) (hv : Int32.ofInt n = v) (k : Wn G sd B R nL Q cn sn S (pc + 1) lv (.int v :: st)) : Wn G sd B R nL Q cn sn S pc lv (st) := fun H locs ls hP hS hl => lv_iconst C.1 C.2.1 hd hv (k H locs ls hP hS hl)
theorem wn_bipush (C : Cn G B N0 qs cc nL own ret) {n : Int} {v : Int32} (hd : decode cc pc = .ok (.bipush n, 2)) (hv : (Int8.ofInt n).toInt32 = v) (k : Wn G sd B R nL Q cn sn S (pc + 2) lv (.int v :: st)) : Wn G sd B R nL Q cn sn S pc lv (st) := fun H locs ls hP hS hl => lv_bipush C.1 C.2.1 hd hv (k H locs ls hP hS hl)
theorem wn_sipush (C : Cn G B N0 qs cc nL own ret) {n : Int} {v : Int32} (hd : decode cc pc = .ok (.sipush n, 3)) (hv : (Int16.ofInt n).toInt32 = v) (k : Wn G sd B R nL Q cn sn S (pc + 3) lv (.int v :: st)) : Wn G sd B R nL Q cn sn S pc lv (st) := fun H locs ls hP hS hl => lv_sipush C.1 C.2.1 hd hv (k H locs ls hP hS hl)
theorem wn_dup (C : Cn G B N0 qs cc nL own ret) {va : Value} (hd : decode cc pc = .ok (.dup, 1)) (hv : va.category = 1) (k : Wn G sd B R nL Q cn sn S (pc + 1) lv (va :: va :: st)) : Wn G sd B R nL Q cn sn S pc lv (va :: st) := fun H locs ls hP hS hl => lv_dup C.1 C.2.1 hd hv (k H locs ls hP hS hl)
theorem wn_iload_n (C : Cn G B N0 qs cc nL own ret) {j : Fin 4} {i : Nat} {x : Int32} (q : Nat) (hd : decode cc pc = .ok (.iload_n j, 1)) (hi : (j : Nat) = i) (hq : lv[q]? = some (i, .int x)) (k : Wn G sd B R nL Q cn sn S (pc + 1) lv (.int x :: st)) : Wn G sd B R nL Q cn sn S pc lv st := fun H locs ls hP hS hl => lv_iload_n C.1 C.2.1 hd hi (lv_at hl q hq) (k H locs ls hP hS hl)
theorem wn_aload_n (C : Cn G B N0 qs cc nL own ret) {j : Fin 4} {i : Nat} {x : Nat} (q : Nat) (hd : decode cc pc = .ok (.aload_n j, 1)) (hi : (j : Nat) = i) (hq : lv[q]? = some (i, .ref x)) (k : Wn G sd B R nL Q cn sn S (pc + 1) lv (.ref x :: st)) : Wn G sd B R nL Q cn sn S pc lv st := fun H locs ls hP hS hl => lv_aload_n C.1 C.2.1 hd hi (lv_at hl q hq) (k H locs ls hP hS hl)
theorem wn_istore_n (C : Cn G B N0 qs cc nL own ret) {j : Fin 4} {i : Nat} {x : Int32} (lv' : List (Nat × Value)) (hd : decode cc pc = .ok (.istore_n j, 1)) (hi : (j : Nat) = i) (hn : i < nL) (hf : (i, Value.int x) :: lv.filter (fun q => !(q.1 == i) && !(q.1 + 1 == i && q.2.category == 2)) = lv') (k : Wn G sd B R nL Q cn sn S (pc + 1) lv' st) : Wn G sd B R nL Q cn sn S pc lv (.int x :: st) := fun H locs ls hP hS hl => lv_istore_n C.1 C.2.1 hd hi hl hn hf (fun ls hl => k H locs ls hP hS hl)
theorem wn_iinc (C : Cn G B N0 qs cc nL own ret) {i q : Nat} {n : Int} {x v : Int32} (e : x + Int32.ofInt n = v) (lv' : List (Nat × Value)) (hd : decode cc pc = .ok (.iinc i n, 3)) (hq : lv[q]? = some (i, .int x)) (hn : i < nL) (hf : (i, Value.int v) :: lv.filter (fun q => !(q.1 == i) && !(q.1 + 1 == i && q.2.category == 2)) = lv') (k : Wn G sd B R nL Q cn sn S (pc + 3) lv' st) : Wn G sd B R nL Q cn sn S pc lv st := fun H locs ls hP hS hl => lv_iinc C.1 C.2.1 hd hl hq e hn hf (fun ls hl => k H locs ls hP hS hl)
theorem wn_goto (C : Cn G B N0 qs cc nL own ret) {off : Int} (tgt : Nat) (hd : decode cc pc = .ok (.goto off, 3)) (ht : (pc : Int) + off = (tgt : Int)) (k : Wn G sd B R nL Q cn sn S tgt lv st) : Wn G sd B R nL Q cn sn S pc lv st := fun H locs ls hP hS hl => lv_goto C.1 C.2.1 hd ht (k H locs ls hP hS hl)
theorem wn_ge_t (C : Cn G B N0 qs cc nL own ret) {x y : Int32} {off : Int} (tgt : Nat) (hd : decode cc pc = .ok (.if_icmp .ge off, 3)) (ht : (pc : Int) + off = (tgt : Int)) (h : y ≤ x) (k : Wn G sd B R nL Q cn sn S tgt lv st) : Wn G sd B R nL Q cn sn S pc lv (.int y :: .int x :: st) := fun H locs ls hP hS hl => lv_icmp_ge C.1 C.2.1 hd ht (fun _ => k H locs ls hP hS hl) (fun q => absurd h q)
theorem wn_ge_f (C : Cn G B N0 qs cc nL own ret) {x y : Int32} {off : Int} (tgt : Nat) (hd : decode cc pc = .ok (.if_icmp .ge off, 3)) (ht : (pc : Int) + off = (tgt : Int)) (h : ¬ y ≤ x) (k : Wn G sd B R nL Q cn sn S (pc + 3) lv st) : Wn G sd B R nL Q cn sn S pc lv (.int y :: .int x :: st) := fun H locs ls hP hS hl => lv_icmp_ge C.1 C.2.1 hd ht (fun q => absurd q h) (fun _ => k H locs ls hP hS hl)
theorem wn_ldcw (C : Cn G B N0 qs cc nL own ret) {idx : Nat} {v : Int32} (hq : Cond.constant own idx v ∈ lw_g) (hd : decode cc pc = .ok (.ldc_w idx, 3)) (k : Wn G sd B R nL Q cn sn S (pc + 3) lv (.int v :: st)) : Wn G sd B R nL Q cn sn S pc lv st := fun H locs ls hP hS hl => lv_ldcw C.1 C.2.1 C.2.2.2.1 (C.2.2.2.2.1 _ hq) hd (k H locs ls hP hS hl)
theorem wn_ldc (C : Cn G B N0 qs cc nL own ret) {idx : Nat} {v : Int32} (hq : Cond.constant own idx v ∈ lw_g) (hd : decode cc pc = .ok (.ldc idx, 2)) (k : Wn G sd B R nL Q cn sn S (pc + 2) lv (.int v :: st)) : Wn G sd B R nL Q cn sn S pc lv st := fun H locs ls hP hS hl => lv_ldc C.1 C.2.1 C.2.2.2.1 (C.2.2.2.2.1 _ hq) hd (k H locs ls hP hS hl)
theorem wn_ldcS (C : Cn G B N0 qs cc nL own ret) {idx i : Nat} {tx : String} (hi : i < 14) (h1 : cpS.getD i 0 = idx) (h2 : own = RX7) (hd : decode cc pc = .ok (.ldc idx, 2)) (k : Wn G sd B R nL Q cn sn S (pc + 2) lv (.ref (qs.1 i) :: st)) : Wn G sd B R nL Q cn sn S pc lv st := fun H locs ls hP hS hl => by
  subst h1
  subst h2
  exact va_ldcS C.1 C.2.1 C.2.2.2.1 (C.2.2.2.2.2.2.2.2.2.1.2.1 i hi) hd (k H locs ls hP hS hl)
theorem wn_getS (C : Cn G B N0 qs cc nL own ret) {v : Nat} {idx ci k a : Nat} (hf : Fl own idx ci k) (ht : tg ci k = 2) (hv : sd.2.2.2 a k = v) (hvl : v ≠ 999999) (ha : a < sd.1) (hkd : sd.2.1 a = ci) (hd : decode cc pc = .ok (.getfield idx, 3)) (kk : Wn G sd B R nL Q cn sn S (pc + 3) lv (.ref (B + v) :: st)) : Wn G sd B R nL Q cn sn S pc lv (.ref (B + a) :: st) := fun H locs ls hP hS hl => by
  obtain ⟨q, h1, h2, h3, h4, h5, h6⟩ := hf
  refine va_get (v := .ref (B + v)) C.1 C.2.1 C.2.2.2.2.1 h5 C.2.2.2.1 C.2.2.2.2.2.1 hP a ((cells_get ha).trans (by rw [eC_obj hkd h4])) h1 k h2 (C.2.2.2.2.1 _ h6) (fun _ h9 => h9) ?_ hd (kk H locs ls hP hS hl)
  simp [List.getElem?_map, List.getElem?_range (show k < nsl ci by rw [h3]; exact h2), fv, ht, hv, hvl]
theorem wn_getD (C : Cn G B N0 qs cc nL own ret) {v : Nat} {idx ci k a : Nat} (hf : Fl own idx ci k) (ht : tg ci k = 3) (hv : S.2.2 a k = v) (hvl : v ≠ 999999) (ha : a < sd.1) (hkd : sd.2.1 a = ci) (hd : decode cc pc = .ok (.getfield idx, 3)) (kk : Wn G sd B R nL Q cn sn S (pc + 3) lv (.ref (B + v) :: st)) : Wn G sd B R nL Q cn sn S pc lv (.ref (B + a) :: st) := fun H locs ls hP hS hl => by
  obtain ⟨q, h1, h2, h3, h4, h5, h6⟩ := hf
  refine va_get (v := .ref (B + v)) C.1 C.2.1 C.2.2.2.2.1 h5 C.2.2.2.1 C.2.2.2.2.2.1 hP a ((cells_get ha).trans (by rw [eC_obj hkd h4])) h1 k h2 (C.2.2.2.2.1 _ h6) (fun _ h9 => h9) ?_ hd (kk H locs ls hP hS hl)
  simp [List.getElem?_map, List.getElem?_range (show k < nsl ci by rw [h3]; exact h2), fv, ht, hv, hvl]
def Ff (own : String) (ci k : Nat) (ty : FieldType) : Prop := ∃ (q : vw_C) (ty0 : Nat → FieldType), vwCl[ci]? = some q ∧ (∀ k, k < q.2.2 → parseFieldDescriptor (q.2.1 k).2.2.1 = some (ty0 k)) ∧ (∀ a, a < q.2.2 → ∀ b, b < q.2.2 → a ≠ b → (q.2.1 a).2.1 ≠ (q.2.1 b).2.1) ∧ (q.2.1 k).2.2.2 = true ∧ parseFieldDescriptor (q.2.1 k).2.2.1 = some ty ∧ (q.2.1 k).1 = own
theorem wn_putI (C : Cn G B N0 qs cc nL own ret) {idx ci k a : Nat} {x : Int32} (hf : Fl own idx ci k) (hp : Fp ci k .int) (ht : tg ci k = 0) (ha : a < sd.1) (hkd : sd.2.1 a = ci) (hb : sd.1 ≤ 999999) (hd : decode cc pc = .ok (.putfield idx, 3)) (kk : Wn G sd B R nL Q cn sn (sI S a k x) (pc + 3) lv st) : Wn G sd B R nL Q cn sn S pc lv (.int x :: .ref (B + a) :: st) := fun H locs ls hP hS hl => by
  obtain ⟨q, h1, h2, h3, h4, h5, h6⟩ := hf
  obtain ⟨q', ty0, g1, g2, g3, g4, g5⟩ := hp
  cases h1.symm.trans g1
  have hA : ∀ (k : Nat) (q : Nat × va_E), (cells sd (gY G) (adB B) S)[k]? = some q → Aof sd (adB B) q.1 → AB B q.1 := fun _ _ _ h => by obtain ⟨i, _, e⟩ := h; rw [e]; exact Nat.le_add_right _ _
  refine va_put (ty := .int) (v := .int x) C.1 C.2.1 C.2.2.2.2.1 h5 ty0 g2 g3 C.2.2.2.1 C.2.2.2.2.2.1 hP ((cells_D (inj_B hb)).weaken hA) hS a ((cells_get ha).trans (by rw [eC_obj hkd h4])) h1 k h2 (C.2.2.2.2.1 _ h6) (fun _ h9 => h9) g4 g5 rfl rfl (by simp; rw [h3]; exact h2) hd (fun H1 locs1 hP1 _ hS1 => ?_)
  have e1 := set_I (cy := gY G) (ad := adB B) (S := S) (v := x) ha hkd h4 (by rw [h3]; exact h2) ht
  exact kk H1 locs1 ls (e1 ▸ hP1) hS1 hl
theorem wn_putZ (C : Cn G B N0 qs cc nL own ret) {idx ci k a : Nat} {x : Int32} (hz : x = 0 ∨ x = 1) (hf : Fl own idx ci k) (hp : Fp ci k .boolean) (ht : tg ci k = 0) (ha : a < sd.1) (hkd : sd.2.1 a = ci) (hb : sd.1 ≤ 999999) (hd : decode cc pc = .ok (.putfield idx, 3)) (kk : Wn G sd B R nL Q cn sn (sI S a k x) (pc + 3) lv st) : Wn G sd B R nL Q cn sn S pc lv (.int x :: .ref (B + a) :: st) := fun H locs ls hP hS hl => by
  obtain ⟨q, h1, h2, h3, h4, h5, h6⟩ := hf
  obtain ⟨q', ty0, g1, g2, g3, g4, g5⟩ := hp
  cases h1.symm.trans g1
  have hA : ∀ (k : Nat) (q : Nat × va_E), (cells sd (gY G) (adB B) S)[k]? = some q → Aof sd (adB B) q.1 → AB B q.1 := fun _ _ _ h => by obtain ⟨i, _, e⟩ := h; rw [e]; exact Nat.le_add_right _ _
  refine va_put (ty := .boolean) (v := .int x) C.1 C.2.1 C.2.2.2.2.1 h5 ty0 g2 g3 C.2.2.2.1 C.2.2.2.2.2.1 hP ((cells_D (inj_B hb)).weaken hA) hS a ((cells_get ha).trans (by rw [eC_obj hkd h4])) h1 k h2 (C.2.2.2.2.1 _ h6) (fun _ h9 => h9) g4 g5 (by rcases hz with rfl | rfl <;> decide) (by rcases hz with rfl | rfl <;> decide) (by simp; rw [h3]; exact h2) hd (fun H1 locs1 hP1 _ hS1 => ?_)
  have e1 := set_I (cy := gY G) (ad := adB B) (S := S) (v := x) ha hkd h4 (by rw [h3]; exact h2) ht
  exact kk H1 locs1 ls (e1 ▸ hP1) hS1 hl
theorem wn_putFI (C : Cn G B N0 qs cc nL own ret) {idx ci k a : Nat} {x : Int32} (hf : Fl own idx ci k) (hp : Ff own ci k .int) (ht : tg ci k = 0) (ha : a < sd.1) (hkd : sd.2.1 a = ci) (hb : sd.1 ≤ 999999) (hd : decode cc pc = .ok (.putfield idx, 3)) (kk : Wn G sd B R nL Q cn sn (sI S a k x) (pc + 3) lv st) : Wn G sd B R nL Q cn sn S pc lv (.int x :: .ref (B + a) :: st) := fun H locs ls hP hS hl => by
  obtain ⟨q, h1, h2, h3, h4, h5, h6⟩ := hf
  obtain ⟨q', ty0, g1, g2, g3, g4, g5, g6⟩ := hp
  cases h1.symm.trans g1
  have hA : ∀ (k : Nat) (q : Nat × va_E), (cells sd (gY G) (adB B) S)[k]? = some q → Aof sd (adB B) q.1 → AB B q.1 := fun _ _ _ h => by obtain ⟨i, _, e⟩ := h; rw [e]; exact Nat.le_add_right _ _
  refine va_putF (ty := .int) (v := .int x) C.1 C.2.1 C.2.2.2.2.1 h5 ty0 g2 g3 C.2.2.2.1 C.2.2.2.2.2.1 hP ((cells_D (inj_B hb)).weaken hA) hS a ((cells_get ha).trans (by rw [eC_obj hkd h4])) h1 k h2 (C.2.2.2.2.1 _ h6) (fun _ h9 => h9) g4 C.2.2.2.2.2.2.2.2.2.2 g6 g5 rfl rfl (by simp; rw [h3]; exact h2) hd (fun H1 locs1 hP1 _ hS1 => ?_)
  have e1 := set_I (cy := gY G) (ad := adB B) (S := S) (v := x) ha hkd h4 (by rw [h3]; exact h2) ht
  exact kk H1 locs1 ls (e1 ▸ hP1) hS1 hl
theorem wn_putD (C : Cn G B N0 qs cc nL own ret) {E : FieldType} {idx ci k a : Nat} {x : Nat} (hE : (∃ n, E = .object n) ∨ ∃ t, E = .array t) (hx9 : x ≠ 999999) (hf : Fl own idx ci k) (hp : Fp ci k E) (ht : tg ci k = 3) (ha : a < sd.1) (hkd : sd.2.1 a = ci) (hb : sd.1 ≤ 999999) (hd : decode cc pc = .ok (.putfield idx, 3)) (kk : Wn G sd B R nL Q cn sn (sR S a k x) (pc + 3) lv st) : Wn G sd B R nL Q cn sn S pc lv (.ref (B + x) :: .ref (B + a) :: st) := fun H locs ls hP hS hl => by
  obtain ⟨q, h1, h2, h3, h4, h5, h6⟩ := hf
  obtain ⟨q', ty0, g1, g2, g3, g4, g5⟩ := hp
  cases h1.symm.trans g1
  have hA : ∀ (k : Nat) (q : Nat × va_E), (cells sd (gY G) (adB B) S)[k]? = some q → Aof sd (adB B) q.1 → AB B q.1 := fun _ _ _ h => by obtain ⟨i, _, e⟩ := h; rw [e]; exact Nat.le_add_right _ _
  refine va_put (ty := E) (v := .ref (B + x)) C.1 C.2.1 C.2.2.2.2.1 h5 ty0 g2 g3 C.2.2.2.1 C.2.2.2.2.2.1 hP ((cells_D (inj_B hb)).weaken hA) hS a ((cells_get ha).trans (by rw [eC_obj hkd h4])) h1 k h2 (C.2.2.2.2.1 _ h6) (fun _ h9 => h9) g4 g5 (by rcases hE with ⟨n, rfl⟩ | ⟨n, rfl⟩ <;> rfl) (by rcases hE with ⟨n, rfl⟩ | ⟨n, rfl⟩ <;> rfl) (by simp; rw [h3]; exact h2) hd (fun H1 locs1 hP1 _ hS1 => ?_)
  have e1 := set_R hx9 (cy := gY G) (ad := adB B) (S := S) (v := x) ha hkd h4 (by rw [h3]; exact h2) ht
  exact kk H1 locs1 ls (e1 ▸ hP1) hS1 hl
theorem wn_putS (C : Cn G B N0 qs cc nL own ret) {E : FieldType} {idx ci k a : Nat} {x : Nat} (hE : (∃ n, E = .object n) ∨ ∃ t, E = .array t) (hx9 : x ≠ 999999) (hf : Fl own idx ci k) (hp : Ff own ci k E) (ht : tg ci k = 2) (ha : a < sd.1) (hkd : sd.2.1 a = ci) (hb : sd.1 ≤ 999999) (hd : decode cc pc = .ok (.putfield idx, 3)) (kk : Wn G (sdP sd a k x) B R nL Q cn sn (S) (pc + 3) lv st) : Wn G sd B R nL Q cn sn S pc lv (.ref (B + x) :: .ref (B + a) :: st) := fun H locs ls hP hS hl => by
  obtain ⟨q, h1, h2, h3, h4, h5, h6⟩ := hf
  obtain ⟨q', ty0, g1, g2, g3, g4, g5, g6⟩ := hp
  cases h1.symm.trans g1
  have hA : ∀ (k : Nat) (q : Nat × va_E), (cells sd (gY G) (adB B) S)[k]? = some q → Aof sd (adB B) q.1 → AB B q.1 := fun _ _ _ h => by obtain ⟨i, _, e⟩ := h; rw [e]; exact Nat.le_add_right _ _
  refine va_putF (ty := E) (v := .ref (B + x)) C.1 C.2.1 C.2.2.2.2.1 h5 ty0 g2 g3 C.2.2.2.1 C.2.2.2.2.2.1 hP ((cells_D (inj_B hb)).weaken hA) hS a ((cells_get ha).trans (by rw [eC_obj hkd h4])) h1 k h2 (C.2.2.2.2.1 _ h6) (fun _ h9 => h9) g4 C.2.2.2.2.2.2.2.2.2.2 g6 g5 (by rcases hE with ⟨n, rfl⟩ | ⟨n, rfl⟩ <;> rfl) (by rcases hE with ⟨n, rfl⟩ | ⟨n, rfl⟩ <;> rfl) (by simp; rw [h3]; exact h2) hd (fun H1 locs1 hP1 _ hS1 => ?_)
  have e1 := set_S hx9 (cy := gY G) (ad := adB B) (S := S) (v := x) ha hkd h4 (by rw [h3]; exact h2) ht
  exact kk H1 locs1 ls (e1 ▸ hP1) hS1 hl
theorem wn_newB (C : Cn G B N0 qs cc nL own ret) {x : Int32} (L : Nat) (hN : sd.1 = N0 + cn) (hL : x.toNatClampNeg = L) (hpos : ¬ x < 0) (hkd : sd.2.1 sd.1 = 12) (hln : sd.2.2.1 sd.1 = L) (hbytes : L * componentBytes .byte ≤ 536870912) (hw : Cond.arrayClass .byte ∈ lw_g) (hcells : cn + 1 ≤ R.cells) (hslots : sn + L ≤ R.slots) (hd : decode cc pc = .ok (.newarray .byte, 2)) (k : Wn G (sdA sd) B R nL Q (cn + 1) (sn + L) (aI S sd.1) (pc + 2) lv (.ref (B + sd.1) :: st)) : Wn G sd B R nL Q cn sn S pc lv (.int x :: st) := fun H locs ls hP hS hl => by
  refine wn_size C hN hP hS (fun hsz => ?_)
  refine va_newaK (atype := .byte) C.1 C.2.1 (C.2.2.2.2.1 _ hw) rfl hd rfl hpos hL hbytes hcells hslots hsz (fun H' cA e1 z1 o1 hAr hNm => ?_)
  have hcy : cA = gY G 12 := Option.some.inj (hNm.symm.trans (C.2.2.2.2.2.1.2 0 _ rfl).2)
  subst hcy
  refine k H' locs ls (ext_P hP (fun a ha => ?_) (fun x hx => o1 x (by omega)) (fun a h1 h2 => ?_)) ⟨Nat.le_trans hS.1 (by omega), fun x h1 h2 => (o1 x (by have := hS.1; omega)).trans (hS.2.1 x h1 h2), hS.2.2⟩ hl
  · have hne : a ≠ sd.1 := by omega
    exact eC_congr (up_other _ _ hne) rfl rfl
  · have h2 : a < sd.1 + 1 := h2
    have ha : a = sd.1 := by omega
    subst ha
    have e2 : eC (sdA sd) (gY G) (adB B) (aI S sd.1) sd.1 = .inl (gY G 12, L, .inl (fun _ => 0)) := by
      have e3 := eC_int (sd := sdA sd) (cy := gY G) (ad := adB B) (S := aI S sd.1) (a := sd.1) hkd (by decide)
      rw [e3]
      simp only [aI, up_same]
      have e4 : (sdA sd).2.2.1 sd.1 = L := hln
      rw [e4]
    rw [e2]
    exact e1
theorem wn_newI (C : Cn G B N0 qs cc nL own ret) {x : Int32} (L : Nat) (hN : sd.1 = N0 + cn) (hL : x.toNatClampNeg = L) (hpos : ¬ x < 0) (hkd : sd.2.1 sd.1 = 13) (hln : sd.2.2.1 sd.1 = L) (hbytes : L * componentBytes .int ≤ 536870912) (hw : Cond.arrayClass .int ∈ lw_g) (hcells : cn + 1 ≤ R.cells) (hslots : sn + L ≤ R.slots) (hd : decode cc pc = .ok (.newarray .int, 2)) (k : Wn G (sdA sd) B R nL Q (cn + 1) (sn + L) (aI S sd.1) (pc + 2) lv (.ref (B + sd.1) :: st)) : Wn G sd B R nL Q cn sn S pc lv (.int x :: st) := fun H locs ls hP hS hl => by
  refine wn_size C hN hP hS (fun hsz => ?_)
  refine va_newaK (atype := .int) C.1 C.2.1 (C.2.2.2.2.1 _ hw) rfl hd rfl hpos hL hbytes hcells hslots hsz (fun H' cA e1 z1 o1 hAr hNm => ?_)
  have hcy : cA = gY G 13 := Option.some.inj (hNm.symm.trans (C.2.2.2.2.2.1.2 1 _ rfl).2)
  subst hcy
  refine k H' locs ls (ext_P hP (fun a ha => ?_) (fun x hx => o1 x (by omega)) (fun a h1 h2 => ?_)) ⟨Nat.le_trans hS.1 (by omega), fun x h1 h2 => (o1 x (by have := hS.1; omega)).trans (hS.2.1 x h1 h2), hS.2.2⟩ hl
  · have hne : a ≠ sd.1 := by omega
    exact eC_congr (up_other _ _ hne) rfl rfl
  · have h2 : a < sd.1 + 1 := h2
    have ha : a = sd.1 := by omega
    subst ha
    have e2 : eC (sdA sd) (gY G) (adB B) (aI S sd.1) sd.1 = .inl (gY G 13, L, .inl (fun _ => 0)) := by
      have e3 := eC_int (sd := sdA sd) (cy := gY G) (ad := adB B) (S := aI S sd.1) (a := sd.1) hkd (by decide)
      rw [e3]
      simp only [aI, up_same]
      have e4 : (sdA sd).2.2.1 sd.1 = L := hln
      rw [e4]
    rw [e2]
    exact e1
theorem wn_newZ (C : Cn G B N0 qs cc nL own ret) {x : Int32} (L : Nat) (hN : sd.1 = N0 + cn) (hL : x.toNatClampNeg = L) (hpos : ¬ x < 0) (hkd : sd.2.1 sd.1 = 15) (hln : sd.2.2.1 sd.1 = L) (hbytes : L * componentBytes .boolean ≤ 536870912) (hw : Cond.arrayClass .boolean ∈ lw_g) (hcells : cn + 1 ≤ R.cells) (hslots : sn + L ≤ R.slots) (hd : decode cc pc = .ok (.newarray .boolean, 2)) (k : Wn G (sdA sd) B R nL Q (cn + 1) (sn + L) (aI S sd.1) (pc + 2) lv (.ref (B + sd.1) :: st)) : Wn G sd B R nL Q cn sn S pc lv (.int x :: st) := fun H locs ls hP hS hl => by
  refine wn_size C hN hP hS (fun hsz => ?_)
  refine va_newaK (atype := .boolean) C.1 C.2.1 (C.2.2.2.2.1 _ hw) rfl hd rfl hpos hL hbytes hcells hslots hsz (fun H' cA e1 z1 o1 hAr hNm => ?_)
  have hcy : cA = gY G 15 := Option.some.inj (hNm.symm.trans (C.2.2.2.2.2.1.2 3 _ rfl).2)
  subst hcy
  refine k H' locs ls (ext_P hP (fun a ha => ?_) (fun x hx => o1 x (by omega)) (fun a h1 h2 => ?_)) ⟨Nat.le_trans hS.1 (by omega), fun x h1 h2 => (o1 x (by have := hS.1; omega)).trans (hS.2.1 x h1 h2), hS.2.2⟩ hl
  · have hne : a ≠ sd.1 := by omega
    exact eC_congr (up_other _ _ hne) rfl rfl
  · have h2 : a < sd.1 + 1 := h2
    have ha : a = sd.1 := by omega
    subst ha
    have e2 : eC (sdA sd) (gY G) (adB B) (aI S sd.1) sd.1 = .inl (gY G 15, L, .inl (fun _ => 0)) := by
      have e3 := eC_int (sd := sdA sd) (cy := gY G) (ad := adB B) (S := aI S sd.1) (a := sd.1) hkd (by decide)
      rw [e3]
      simp only [aI, up_same]
      have e4 : (sdA sd).2.2.1 sd.1 = L := hln
      rw [e4]
    rw [e2]
    exact e1
theorem wn_newL (C : Cn G B N0 qs cc nL own ret) {x : Int32} (L : Nat) (hN : sd.1 = N0 + cn) (hL : x.toNatClampNeg = L) (hpos : ¬ x < 0) (hkd : sd.2.1 sd.1 = 14) (hln : sd.2.2.1 sd.1 = L) (hbytes : L * componentBytes .long ≤ 536870912) (hw : Cond.arrayClass .long ∈ lw_g) (hcells : cn + 1 ≤ R.cells) (hslots : sn + L ≤ R.slots) (hd : decode cc pc = .ok (.newarray .long, 2)) (k : Wn G (sdA sd) B R nL Q (cn + 1) (sn + L) (aL S sd.1) (pc + 2) lv (.ref (B + sd.1) :: st)) : Wn G sd B R nL Q cn sn S pc lv (.int x :: st) := fun H locs ls hP hS hl => by
  refine wn_size C hN hP hS (fun hsz => ?_)
  refine va_newaK (atype := .long) C.1 C.2.1 (C.2.2.2.2.1 _ hw) rfl hd rfl hpos hL hbytes hcells hslots hsz (fun H' cA e1 z1 o1 hAr hNm => ?_)
  have hcy : cA = gY G 14 := Option.some.inj (hNm.symm.trans (C.2.2.2.2.2.1.2 2 _ rfl).2)
  subst hcy
  refine k H' locs ls (ext_P hP (fun a ha => ?_) (fun x hx => o1 x (by omega)) (fun a h1 h2 => ?_)) ⟨Nat.le_trans hS.1 (by omega), fun x h1 h2 => (o1 x (by have := hS.1; omega)).trans (hS.2.1 x h1 h2), hS.2.2⟩ hl
  · have hne : a ≠ sd.1 := by omega
    exact eC_congr rfl (up_other _ _ hne) rfl
  · have h2 : a < sd.1 + 1 := h2
    have ha : a = sd.1 := by omega
    subst ha
    have e2 : eC (sdA sd) (gY G) (adB B) (aL S sd.1) sd.1 = .inl (gY G 14, L, .inr (.inl (fun _ => 0))) := by
      have e3 := eC_long (sd := sdA sd) (cy := gY G) (ad := adB B) (S := aL S sd.1) (a := sd.1) hkd
      rw [e3]
      simp only [aL, up_same]
      have e4 : (sdA sd).2.2.1 sd.1 = L := hln
      rw [e4]
    rw [e2]
    exact e1

theorem wn_new (C : Cn G B N0 qs cc nL own ret) {idx ci : Nat} {q : vw_C} {ty0 : Nat → FieldType} (hN : sd.1 = N0 + cn) (hq : vwCl[ci]? = some q) (hci : ci < 12) (hns : nsl ci = q.2.2) (hlay : ∀ w ∈ u_ws q.1 q.2.1 q.2.2, w ∈ lw_g) (hty : ∀ k, k < q.2.2 → parseFieldDescriptor (q.2.1 k).2.2.1 = some (ty0 k)) (hdf : ∀ j, j < q.2.2 → defaultValue (ty0 j) = (if tg ci j = 0 then .int 0 else if tg ci j = 1 then .long 0 else .null)) (hcl : Cond.classLink own idx q.1 ∈ lw_g) (hinst : Cond.instantiable q.1 q.2.2 ∈ lw_g) (hini : Cond.initialized q.1 ∈ lw_g) (hkd : sd.2.1 sd.1 = ci)
    (hcells : cn + 1 ≤ R.cells) (hslots : sn + q.2.2 ≤ R.slots) (hd : decode cc pc = .ok (.new idx, 3)) (k : Wn G (sdO sd) B R nL Q (cn + 1) (sn + q.2.2) (aO S sd.1) (pc + 3) lv (.ref (B + sd.1) :: st)) : Wn G sd B R nL Q cn sn S pc lv st := fun H locs ls hP hS hl => by
  refine wn_size C hN hP hS (fun hsz => ?_)
  have hKn := C.2.2.2.2.2.1.1 ci q hq
  refine W.newcK C.1 C.2.1 C.2.2.2.1 (C.2.2.2.2.1 _ hcl) (C.2.2.2.2.1 _ hinst) (C.2.2.2.2.1 _ hini) rfl hd hcells hslots hKn.2.1 hsz (fun H1 kC hkC e1 z1 o1 => ?_)
  refine k H1 locs ls (ext_P hP (fun a ha => ?_) (fun x hx => o1 x (by omega)) (fun a h1 h2 => ?_)) ⟨Nat.le_trans hS.1 (by omega), fun x h1 h2 => (o1 x (by have := hS.1; omega)).trans (hS.2.1 x h1 h2), hS.2.2⟩ hl
  · have hne : a ≠ sd.1 := by omega
    exact (eC_congr (up_other _ _ hne) (up_other _ _ hne) (up_other _ _ hne)).trans (eC_sr rfl rfl (up_other _ _ hne))
  · have h2 : a < sd.1 + 1 := h2
    have ha : a = sd.1 := by omega
    subst ha
    have e3 := eC_obj (sd := sdO sd) (cy := gY G) (ad := adB B) (S := aO S sd.1) (a := sd.1) hkd hci
    rw [e3]
    refine ⟨_, hq, (u_born ty0 C.2.2.2.2.1 hlay hKn hkC e1 hty).to (fun j hj => ?_)⟩
    rw [hdf j hj]
    show _ = (List.map _ _).getD j Value.null
    rw [List.getD_eq_getElem?_getD, List.getElem?_map, List.getElem?_range (by rw [hns]; exact hj)]
    show _ = fv (adB B) (sdO sd).2.2.2 ci (aO S sd.1) sd.1 j
    unfold fv
    have a1 : (aO S sd.1).1 sd.1 j = 0 := by simp only [aO, up_same]
    have a2 : (aO S sd.1).2.1 sd.1 j = 0 := by simp only [aO, up_same]
    have a3 : (aO S sd.1).2.2 sd.1 j = 999999 := by simp only [aO, up_same]
    have a4 : (sdO sd).2.2.2 sd.1 j = 999999 := by simp only [sdO, up_same]
    rw [a1, a2, a3, a4]
    simp
/-- anewarray of Vats: all null -/
theorem wn_newQ (C : Cn G B N0 qs cc nL own ret) {x : Int32} {idx : Nat} (L : Nat) (hN : sd.1 = N0 + cn) (hL : x.toNatClampNeg = L) (hpos : ¬ x < 0) (hkd : sd.2.1 sd.1 = 16) (hln : sd.2.2.1 sd.1 = L) (hbytes : L * 4 ≤ 536870912) (hcl : Cond.classLink own idx "DyeLamps$Vat" ∈ lw_g) (hcells : cn + 1 ≤ R.cells) (hslots : sn + L ≤ R.slots) (hd : decode cc pc = .ok (.anewarray idx, 3)) (k : Wn G (sdO sd) B R nL Q (cn + 1) (sn + L) S (pc + 3) lv (.ref (B + sd.1) :: st)) : Wn G sd B R nL Q cn sn S pc lv (.int x :: st) := fun H locs ls hP hS hl => by
  refine wn_size C hN hP hS (fun hsz => ?_)
  subst hL
  refine W.anew C.1 C.2.1 C.2.2.2.1 (C.2.2.2.2.1 _ hcl) C.2.2.2.2.2.2.2.2.2.1.2.2.2.2.1.use rfl hd rfl hpos hbytes hcells hslots (fun cA kA comp h1 h2 h3 h4 => ?_)
  have hcy : cA = gY G 16 := by
    obtain ⟨kA', comp', b1, b2, b3, b4⟩ := (C.2.2.2.2.2.1.2 4 _ rfl).2
    exact Option.some.inj (h1.symm.trans b4)
  subst hcy
  have o1 : ∀ y : Nat, y < H.size → (H.push ({ cls := gY G 16, slots := Array.replicate x.toNatClampNeg .null, vm := .none } : Cell))[y]? = H[y]? := fun y hy => by rw [Array.getElem?_push, if_neg (Nat.ne_of_lt hy)]
  show W _ _ _ _ _ _ _ _ _ _ _ _ _ _ _ (F0 _ _ _ (.ref H.size :: st))
  rw [hsz]
  refine k _ locs ls (ext_P hP (fun a ha => ?_) o1 (fun a h1 h2 => ?_)) ⟨Nat.le_trans hS.1 (by simp), fun y h1 h2 => (o1 y (by have := hS.1; omega)).trans (hS.2.1 y h1 h2), hS.2.2⟩ hl
  · have hne : a ≠ sd.1 := by omega
    exact eC_sr rfl rfl (up_other _ _ hne)
  · have h2 : a < sd.1 + 1 := h2
    have ha : a = sd.1 := by omega
    subst ha
    have e3 := eC_ref (sd := sdO sd) (cy := gY G) (ad := adB B) (S := S) (a := sd.1) hkd (by decide)
    rw [e3]
    have e4 : (sdO sd).2.2.1 sd.1 = x.toNatClampNeg := hln
    rw [e4]
    show (H.push _)[B + sd.1]? = some _
    rw [← hsz]
    simp only [sdO, up_same, if_true]
    rw [show vp_cell (gY G 16) (x.toNatClampNeg, Sum.inr (Sum.inr (Sum.inr (Sum.inr (fun _ => (none : Option Nat)))))) = arrV (gY G 16) x.toNatClampNeg (fun _ => .null) from rfl, ← arrV_new]
    simp
/-- new int[n][k] -/
theorem wn_newM (C : Cn G B N0 qs cc nL own ret) {x y : Int32} {idx : Nat} (L K : Nat) (hN : sd.1 = N0 + cn) (hL : x.toNatClampNeg = L) (hK : y.toNatClampNeg = K) (hpx : ¬ x < 0) (hpy : ¬ y < 0) (hkd : sd.2.1 sd.1 = 17) (hln : sd.2.2.1 sd.1 = L) (hb9 : sd.1 + 1 + L < 999999) (hrows : ∀ i, i < L → sd.2.1 (sd.1 + 1 + i) = 13 ∧ sd.2.2.1 (sd.1 + 1 + i) = K) (hb1 : L * 4 ≤ 536870912) (hb2 : K * 4 ≤ 536870912) (hcl : Cond.classLink own idx "[[I" ∈ lw_g) (hw : Cond.arrayClass .int ∈ lw_g) (hcells : cn + (1 + L) ≤ R.cells) (hslots : sn + (L + L * K) ≤ R.slots) (hd : decode cc pc = .ok (.multianewarray idx 2, 4)) (k : Wn G (sdM2 sd L) B R nL Q (cn + 1 + L) (sn + L + L * K) (aM S sd.1 L) (pc + 4) lv (.ref (B + sd.1) :: st)) : Wn G sd B R nL Q cn sn S pc lv (.int y :: .int x :: st) := fun H locs ls hP hS hl => by
  refine wn_size C hN hP hS (fun hsz => ?_)
  subst hL
  subst hK
  intro T hT X
  obtain ⟨vm₁, cA, comp, -, fA, fC, hO, -, X', step⟩ := X.multianewarray2F C.1 C.2.2.2.1 (C.2.2.2.2.1 _ hcl) C.2.2.2.2.2.2.2.2.2.1.2.2.2.2.2 (C.2.2.2.2.1 _ hw) (g := F0 (gM G) pc ls (.int y :: .int x :: st)) rfl (by rw [C.2.1]; exact hd) rfl hpx hpy hb1 hb2 (by omega) rfl rfl hcells hslots
  have hcy : cA = gY G 17 := Option.some.inj (fA.symm.trans (C.2.2.2.2.2.1.2 5 _ rfl).2)
  have hcc : comp = gY G 13 := Option.some.inj (fC.symm.trans (C.2.2.2.2.2.1.2 1 _ rfl).2)
  subst hcy
  subst hcc
  generalize hF : Jvm.Free.Multi.fill (T.setVm vm₁) (gY G 17) (gY G 13) x.toNatClampNeg y.toNatClampNeg (defaultValue .int) x.toNatClampNeg = F at X' step
  have hTh : (T.setVm vm₁).heap = H := hT
  obtain ⟨f1, f2, -, -⟩ := Jvm.Free.Multi.fill_facts (T.setVm vm₁) (gY G 17) (gY G 13) x.toNatClampNeg y.toNatClampNeg (defaultValue .int) x.toNatClampNeg
  rw [hF, hTh] at f1 f2
  have hold : ∀ z : Nat, z < H.size → F.heap[z]? = H[z]? := fun z hz => by
    have := Jvm.Free.Multi.fill_old (T.setVm vm₁) (gY G 17) (gY G 13) x.toNatClampNeg y.toNatClampNeg (defaultValue .int) (a := z) (by rw [hTh]; exact hz) x.toNatClampNeg
    rw [hF, hTh] at this
    exact this
  have hrow : ∀ j : Nat, j < x.toNatClampNeg → F.heap[H.size + 1 + j]? = some (Jvm.Free.Multi.innerC (gY G 13) y.toNatClampNeg (defaultValue .int)) := fun j hj => by
    have := Jvm.Free.Multi.fill_inner (T.setVm vm₁) (gY G 17) (gY G 13) x.toNatClampNeg y.toNatClampNeg (defaultValue .int) x.toNatClampNeg j hj
    rw [hF, hTh] at this
    exact this
  have hinn : Jvm.Free.Multi.innerC (gY G 13) y.toNatClampNeg (defaultValue .int) = arrV (gY G 13) y.toNatClampNeg (fun _ => .int 0) := by
    show ({ cls := gY G 13, slots := Array.replicate y.toNatClampNeg (.int 0), vm := .none } : Cell) = _
    rw [arrV_new]
  have hres := k F.heap locs ls (ext_P hP (fun a ha => ?_) hold (fun a h1 h2 => ?_)) ⟨by rw [f1]; have := hS.1; omega, fun z h1 h2 => (hold z (by have := hS.1; omega)).trans (hS.2.1 z h1 h2), hS.2.2⟩ hl
  · obtain ⟨t, a1, b1⟩ := hres F rfl X'
    refine ⟨t, step t ?_, b1⟩
    rw [show T.heap.size = B + sd.1 by rw [hT]; exact hsz]
    exact a1
  · have hne : a ≠ sd.1 := by omega
    have hn2 : ¬ (sd.1 < a ∧ a ≤ sd.1 + x.toNatClampNeg) := by omega
    have e6 : (aM S sd.1 x.toNatClampNeg).1 a = S.1 a := by simp only [aM, if_neg hn2]
    exact (eC_congr (S := S) (sd := sdM2 sd x.toNatClampNeg) e6 rfl rfl).trans (eC_sr (sd := sd) rfl rfl (up_other _ _ hne))
  · have h2 : a < sd.1 + 1 + x.toNatClampNeg := h2
    by_cases ha : a = sd.1
    · subst ha
      have e3 := eC_ref (sd := sdM2 sd x.toNatClampNeg) (cy := gY G) (ad := adB B) (S := aM S sd.1 x.toNatClampNeg) (a := sd.1) hkd (by decide)
      rw [e3]
      have e4 : (sdM2 sd x.toNatClampNeg).2.2.1 sd.1 = x.toNatClampNeg := hln
      rw [e4]
      show F.heap[B + sd.1]? = some _
      rw [← hsz, f2, vz_outer]
      refine congrArg some ?_
      refine Eq.trans (arrV_ext (g := fun j => va_rf ((fun i => if (sdM2 sd x.toNatClampNeg).2.2.2 sd.1 i = 999999 then none else some (adB B ((sdM2 sd x.toNatClampNeg).2.2.2 sd.1 i))) j)) (fun j hj => ?_)) rfl
      have h9 : ¬ sd.1 + 1 + j = 999999 := by omega
      simp only [sdM2, up_same, if_neg h9, if_pos hj, va_rf, hsz]
      congr 1
      show B + sd.1 + 1 + j = B + (sd.1 + 1 + j)
      omega
    · obtain ⟨i, hi, rfl⟩ : ∃ i, i < x.toNatClampNeg ∧ a = sd.1 + 1 + i := ⟨a - sd.1 - 1, by omega, by omega⟩
      obtain ⟨r1, r2⟩ := hrows i hi
      have e3 := eC_int (sd := sdM2 sd x.toNatClampNeg) (cy := gY G) (ad := adB B) (S := aM S sd.1 x.toNatClampNeg) (a := sd.1 + 1 + i) r1 (by decide)
      rw [e3]
      have e4 : (sdM2 sd x.toNatClampNeg).2.2.1 (sd.1 + 1 + i) = y.toNatClampNeg := r2
      rw [e4]
      have hy : sd.1 < sd.1 + 1 + i ∧ sd.1 + 1 + i ≤ sd.1 + x.toNatClampNeg := by omega
      have e5 : (aM S sd.1 x.toNatClampNeg).1 (sd.1 + 1 + i) = fun _ => 0 := by simp only [aM, if_pos hy]
      rw [e5]
      show F.heap[B + (sd.1 + 1 + i)]? = some _
      rw [show B + (sd.1 + 1 + i) = H.size + 1 + i by omega, hrow i hi, hinn]
      rfl

end
