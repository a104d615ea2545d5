
/-- the state of one side: int, long and reference places, by (virtual) address and place -/
abbrev St : Type := (Nat → Nat → Int32) × (Nat → Nat → Int64) × (Nat → Nat → Nat)
def sI (S : St) (a k : Nat) (v : Int32) : St := (va_up S.1 a (upd (S.1 a) k v), S.2)
def sL (S : St) (a k : Nat) (v : Int64) : St := (S.1, va_up S.2.1 a (vp_updL (S.2.1 a) k v), S.2.2)
def sR (S : St) (a k : Nat) (v : Nat) : St := (S.1, S.2.1, va_up S.2.2 a (va_up (S.2.2 a) k v))
/-- arraycopy -/
def cI (S : St) (a b sp dp n : Nat) : St := (va_up S.1 b (va_cpy (S.1 a) (S.1 b) sp dp n), S.2)
def cL (S : St) (a b sp dp n : Nat) : St := (S.1, va_up S.2.1 b (va_cpy (S.2.1 a) (S.2.1 b) sp dp n), S.2.2)
/-- a side: how many cells; the kind of each; lengths; what its fixed references are -/
abbrev Sd : Type := Nat × (Nat → Nat) × (Nat → Nat) × (Nat → Nat → Nat)
def fv (ad : Nat → Nat) (sr : Nat → Nat → Nat) (ci : Nat) (S : St) (a k : Nat) : Value := if tg ci k = 0 then .int (S.1 a k) else if tg ci k = 1 then .long (S.2.1 a k) else if tg ci k = 2 then (if sr a k = 999999 then .null else .ref (ad (sr a k))) else (if S.2.2 a k = 999999 then .null else .ref (ad (S.2.2 a k)))
def eC (sd : Sd) (cy : Nat → ClassId) (ad : Nat → Nat) (S : St) (a : Nat) : va_E :=
  if sd.2.1 a < 12 then .inr (sd.2.1 a, (List.range (nsl (sd.2.1 a))).map (fv ad sd.2.2.2 (sd.2.1 a) S a))
  else if sd.2.1 a = 14 then .inl (cy 14, sd.2.2.1 a, .inr (.inl (S.2.1 a)))
  else if 16 ≤ sd.2.1 a then .inl (cy (sd.2.1 a), sd.2.2.1 a, .inr (.inr (.inr (.inr (fun i => if sd.2.2.2 a i = 999999 then none else some (ad (sd.2.2.2 a i)))))))
  else .inl (cy (sd.2.1 a), sd.2.2.1 a, .inl (S.1 a))
def cells (sd : Sd) (cy : Nat → ClassId) (ad : Nat → Nat) (S : St) : va_W := (List.range sd.1).map (fun a => (ad a, eC sd cy ad S a))
def tysOf (cy : Nat → ClassId) : List (ClassId × FieldType) := [(cy 12, .byte), (cy 13, .int), (cy 14, .long), (cy 15, .boolean), (cy 16, .object "DyeLamps$Vat"), (cy 17, .array .int)]
def Inj (sd : Sd) (ad : Nat → Nat) : Prop := sd.1 ≤ 999999 ∧ ∀ i j : Nat, i < sd.1 → j < sd.1 → ad i = ad j → i = j
def Aof (sd : Sd) (ad : Nat → Nat) : Nat → Prop := fun q => ∃ i, i < sd.1 ∧ q = ad i
theorem cells_len (sd : Sd) (cy : Nat → ClassId) (ad : Nat → Nat) (S : St) : (cells sd cy ad S).length = sd.1 := by simp [cells]
theorem cells_get {sd : Sd} {cy : Nat → ClassId} {ad : Nat → Nat} {S : St} {a : Nat} (h : a < sd.1) : (cells sd cy ad S)[a]? = some (ad a, eC sd cy ad S a) := by
  simp [cells, List.getElem?_map, List.getElem?_range h]
theorem cells_at {sd : Sd} {cy : Nat → ClassId} {ad : Nat → Nat} {S : St} {k : Nat} {q : Nat × va_E} (h : (cells sd cy ad S)[k]? = some q) : k < sd.1 ∧ q = (ad k, eC sd cy ad S k) := by
  have hk : k < sd.1 := by
    rw [← cells_len sd cy ad S]
    exact (List.getElem?_eq_some_iff.mp h).1
  rw [cells_get hk] at h
  exact ⟨hk, (Option.some.inj h).symm⟩
theorem cells_D {sd : Sd} {cy : Nat → ClassId} {ad : Nat → Nat} {S : St} (hi : Inj sd ad) : va_D (Aof sd ad) (cells sd cy ad S) := by
  refine ⟨fun i j p q h1 h2 h3 => ?_, fun k q h => ?_⟩
  · obtain ⟨a1, rfl⟩ := cells_at h1
    obtain ⟨a2, rfl⟩ := cells_at h2
    exact hi.2 i j a1 a2 h3
  · obtain ⟨a1, rfl⟩ := cells_at h
    exact ⟨k, a1, rfl⟩
theorem cells_set {sd : Sd} {cy : Nat → ClassId} {ad : Nat → Nat} {S S' : St} {a : Nat} {e : va_E} (h : a < sd.1) (he : eC sd cy ad S' a = e) (ho : ∀ b, b ≠ a → eC sd cy ad S' b = eC sd cy ad S b) : (cells sd cy ad S).set a (ad a, e) = cells sd cy ad S' := by
  apply List.ext_getElem?
  intro k
  by_cases hk : k < sd.1
  · rw [cells_get hk]
    by_cases hka : a = k
    · subst hka
      rw [List.getElem?_set_self (by rw [cells_len]; exact hk), he]
    · rw [List.getElem?_set_ne hka, cells_get hk, ho k (fun q => hka q.symm)]
  · rw [List.getElem?_eq_none (by rw [List.length_set, cells_len]; omega), List.getElem?_eq_none (by rw [cells_len]; omega)]
theorem map_set {α : Type} {g g' : Nat → α} {n k : Nat} (h : k < n) (ho : ∀ j, j ≠ k → g' j = g j) : ((List.range n).map g).set k (g' k) = (List.range n).map g' := by
  apply List.ext_getElem?
  intro j
  by_cases hj : j < n
  · by_cases hk : k = j
    · subst hk
      rw [List.getElem?_set_self (by simp; exact hj)]
      simp [List.getElem?_map, List.getElem?_range hj]
    · rw [List.getElem?_set_ne hk]
      simp [List.getElem?_map, List.getElem?_range hj, ho j (fun q => hk q.symm)]
  · rw [List.getElem?_eq_none (by simp; omega), List.getElem?_eq_none (by simp; omega)]
theorem eC_obj {sd : Sd} {cy : Nat → ClassId} {ad : Nat → Nat} {S : St} {a ci : Nat} (h : sd.2.1 a = ci) (hc : ci < 12) : eC sd cy ad S a = .inr (ci, (List.range (nsl ci)).map (fv ad sd.2.2.2 ci S a)) := by
  subst h; simp only [eC, if_pos hc]
theorem eC_int {sd : Sd} {cy : Nat → ClassId} {ad : Nat → Nat} {S : St} {a ci : Nat} (h : sd.2.1 a = ci) (hc : ci = 12 ∨ ci = 13 ∨ ci = 15) : eC sd cy ad S a = .inl (cy ci, sd.2.2.1 a, .inl (S.1 a)) := by
  subst h
  have h1 : ¬ sd.2.1 a < 12 := by omega
  have h2 : ¬ sd.2.1 a = 14 := by omega
  have h3 : ¬ 16 ≤ sd.2.1 a := by omega
  simp only [eC, if_neg h1, if_neg h2, if_neg h3]
theorem eC_long {sd : Sd} {cy : Nat → ClassId} {ad : Nat → Nat} {S : St} {a : Nat} (h : sd.2.1 a = 14) : eC sd cy ad S a = .inl (cy 14, sd.2.2.1 a, .inr (.inl (S.2.1 a))) := by
  have h1 : ¬ sd.2.1 a < 12 := by omega
  simp only [eC, if_neg h1, if_pos h]
theorem eC_ref {sd : Sd} {cy : Nat → ClassId} {ad : Nat → Nat} {S : St} {a ci : Nat} (h : sd.2.1 a = ci) (hc : 16 ≤ ci) : eC sd cy ad S a = .inl (cy ci, sd.2.2.1 a, .inr (.inr (.inr (.inr (fun i => if sd.2.2.2 a i = 999999 then none else some (ad (sd.2.2.2 a i))))))) := by
  subst h
  have h1 : ¬ sd.2.1 a < 12 := by omega
  have h2 : ¬ sd.2.1 a = 14 := by omega
  simp only [eC, if_neg h1, if_neg h2, if_pos hc]
/-- two states that agree at an address hold the same cell there -/
theorem eC_congr {sd : Sd} {cy : Nat → ClassId} {ad : Nat → Nat} {S S' : St} {a : Nat} (h1 : S'.1 a = S.1 a) (h2 : S'.2.1 a = S.2.1 a) (h3 : S'.2.2 a = S.2.2 a) : eC sd cy ad S' a = eC sd cy ad S a := by
  have : fv ad sd.2.2.2 (sd.2.1 a) S' a = fv ad sd.2.2.2 (sd.2.1 a) S a := by
    funext k
    simp only [fv, h1, h2, h3]
  simp only [eC, h1, h2, this]
theorem up_same {α : Type} (f : Nat → α) (a : Nat) (v : α) : va_up f a v a = v := if_pos rfl
theorem up_other {α : Type} (f : Nat → α) {a b : Nat} (v : α) (h : b ≠ a) : va_up f a v b = f b := if_neg h
theorem set_I {sd : Sd} {cy : Nat → ClassId} {ad : Nat → Nat} {S : St} {a k ci : Nat} {v : Int32} (ha : a < sd.1) (hkd : sd.2.1 a = ci) (hc : ci < 12) (hk : k < nsl ci) (ht : tg ci k = 0) :
    (cells sd cy ad S).set a (ad a, .inr (ci, ((List.range (nsl ci)).map (fv ad sd.2.2.2 ci S a)).set k (.int v))) = cells sd cy ad (sI S a k v) := by
  refine cells_set ha ?_ (fun b hb => eC_congr (up_other _ _ hb) rfl rfl)
  rw [eC_obj hkd hc]
  have hv : Value.int v = fv ad sd.2.2.2 ci (sI S a k v) a k := by
    simp only [fv, ht, if_pos, sI, up_same, upd]
  rw [hv, map_set hk]
  intro j hj
  have e1 : (sI S a k v).1 a j = S.1 a j := by simp only [sI, up_same, upd, if_neg hj]
  unfold fv
  rw [e1]
  rfl
theorem set_L {sd : Sd} {cy : Nat → ClassId} {ad : Nat → Nat} {S : St} {a k ci : Nat} {v : Int64} (ha : a < sd.1) (hkd : sd.2.1 a = ci) (hc : ci < 12) (hk : k < nsl ci) (ht : tg ci k = 1) :
    (cells sd cy ad S).set a (ad a, .inr (ci, ((List.range (nsl ci)).map (fv ad sd.2.2.2 ci S a)).set k (.long v))) = cells sd cy ad (sL S a k v) := by
  refine cells_set ha ?_ (fun b hb => eC_congr rfl (up_other _ _ hb) rfl)
  rw [eC_obj hkd hc]
  have hv : Value.long v = fv ad sd.2.2.2 ci (sL S a k v) a k := by
    simp [fv, ht, sL, up_same, vp_updL]
  rw [hv, map_set hk]
  intro j hj
  have e1 : (sL S a k v).2.1 a j = S.2.1 a j := by simp only [sL, up_same, vp_updL, if_neg hj]
  unfold fv
  rw [e1]
  rfl
theorem set_R {sd : Sd} {cy : Nat → ClassId} {ad : Nat → Nat} {S : St} {a k ci : Nat} {v : Nat} (hv9 : v ≠ 999999) (ha : a < sd.1) (hkd : sd.2.1 a = ci) (hc : ci < 12) (hk : k < nsl ci) (ht : tg ci k = 3) :
    (cells sd cy ad S).set a (ad a, .inr (ci, ((List.range (nsl ci)).map (fv ad sd.2.2.2 ci S a)).set k (.ref (ad v)))) = cells sd cy ad (sR S a k v) := by
  refine cells_set ha ?_ (fun b hb => eC_congr rfl rfl (up_other _ _ hb))
  rw [eC_obj hkd hc]
  have hv : Value.ref (ad v) = fv ad sd.2.2.2 ci (sR S a k v) a k := by
    simp [fv, ht, sR, up_same, hv9]
  rw [hv, map_set hk]
  intro j hj
  have e1 : (sR S a k v).2.2 a j = S.2.2 a j := by simp only [sR, up_same, up_other _ _ hj]
  unfold fv
  rw [e1]
  rfl
theorem set_aI {sd : Sd} {cy : Nat → ClassId} {ad : Nat → Nat} {S : St} {a ci : Nat} {f : Nat → Int32} (ha : a < sd.1) (hkd : sd.2.1 a = ci) (hc : ci = 12 ∨ ci = 13 ∨ ci = 15) :
    (cells sd cy ad S).set a (ad a, .inl (cy ci, sd.2.2.1 a, .inl f)) = cells sd cy ad (va_up S.1 a f, S.2) := by
  refine cells_set ha ?_ (fun b hb => eC_congr (up_other _ _ hb) rfl rfl)
  rw [eC_int hkd hc]
  simp only [up_same]
theorem set_aL {sd : Sd} {cy : Nat → ClassId} {ad : Nat → Nat} {S : St} {a : Nat} {f : Nat → Int64} (ha : a < sd.1) (hkd : sd.2.1 a = 14) :
    (cells sd cy ad S).set a (ad a, .inl (cy 14, sd.2.2.1 a, .inr (.inl f))) = cells sd cy ad (S.1, va_up S.2.1 a f, S.2.2) := by
  refine cells_set ha ?_ (fun b hb => eC_congr rfl (up_other _ _ hb) rfl)
  rw [eC_long hkd]
  simp only [up_same]
/-- all that a method's walk is about: program, launch, environment, state at the entry, method, arguments, the frames below, its code; array classes, addresses, class numbers -/
abbrev Gx : Type := Program × Launch × Env × State × MethodId × Array Value × List Frame × Method × Code × (Nat → ClassId) × (Nat → Nat) × va_G
abbrev gP (G : Gx) : Program := G.1
abbrev gL (G : Gx) : Launch := G.2.1
abbrev gE (G : Gx) : Env := G.2.2.1
abbrev gS (G : Gx) : State := G.2.2.2.1
abbrev gM (G : Gx) : MethodId := G.2.2.2.2.1
abbrev gV (G : Gx) : Array Value := G.2.2.2.2.2.1
abbrev gB (G : Gx) : List Frame := G.2.2.2.2.2.2.1
abbrev gT (G : Gx) : Method := G.2.2.2.2.2.2.2.1
abbrev gC (G : Gx) : Code := G.2.2.2.2.2.2.2.2.1
abbrev gY (G : Gx) : Nat → ClassId := G.2.2.2.2.2.2.2.2.2.1
abbrev gA (G : Gx) : Nat → Nat := G.2.2.2.2.2.2.2.2.2.2.1
abbrev gD (G : Gx) : va_G := G.2.2.2.2.2.2.2.2.2.2.2
def Cx (G : Gx) (sd : Sd) (cc : ByteArray) (nL : Nat) (own : String) (ret : Option FieldType) : Prop :=
  (gP G).tables.exec = Jvm.exec ∧ (gC G).code = cc ∧ (gC G).maxLocals = nL ∧ (gS G).vm.findClass own = some (gM G).cls ∧ (∀ w ∈ lw_g, w.before (gV G) (gS G) = true) ∧ va_K (gD G) vwCl (tysOf (gY G)) (gS G) ∧ Inj sd (gA G) ∧ (gT G).locks = false ∧ (gT G).sig.returnType = ret
/-- the machine, at this place of the method's code, with the side in state S, comes to Q -/
def Wp (G : Gx) (sd : Sd) (R : Room) (nL : Nat) (Q : State → Prop) (S : St) (pc : Nat) (lv : List (Nat × Value)) (st : List Value) : Prop :=
  ∀ (H : Heap) (locs : List Loc) (ls : Array Slot), va_P (gD G) vwCl (cells sd (gY G) (gA G) S) H → va_S (Aof sd (gA G)) (gS G).heap H locs → lv_has ls nL lv → W (gP G) (gL G) (gE G) R (gS G) (gM G) (gV G) (gB G) (gT G) (gC G) H locs 0 0 Q (F0 (gM G) pc ls st)
def Pre (sd : Sd) (cy : Nat → ClassId) (ad : Nat → Nat) (D : va_G) (S : St) (U : State) : Prop := Inj sd ad ∧ va_P D vwCl (cells sd cy ad S) U.heap ∧ va_K D vwCl (tysOf cy) U
def Qo (sd : Sd) (cy : Nat → ClassId) (ad : Nat → Nat) (D : va_G) (v : Option Value) (S : St) : Array Value → State → Outcome → State → Prop := fun _ st oc t => oc = .returned v ∧ va_P D vwCl (cells sd cy ad S) t.heap ∧ va_F (Aof sd ad) st t
abbrev rmOf (fr lo : Nat) : Room := { frames := fr, cells := 0, slots := 0, locals := lo }
/-- a method's contract: with these arguments and the side in state S it gives v and leaves S' -/
def Ct (l : Launch) (sd : Sd) (cy : Nat → ClassId) (ad : Nat → Nat) (D : va_G) (y : MethodName) (cc : ByteArray) (nL : Nat) (ret : Option FieldType) (fr lo : Nat) (av : List Value) (S : St) (v : Option Value) (S' : St) : Prop :=
  Met l y (Cond.code y cc nL ret :: lw_g) (rmOf fr lo) (va_Pc av (Pre sd cy ad D S)) (Qo sd cy ad D v S') 0 0 (Aof sd ad)
def Qm (G : Gx) (sd : Sd) (v : Option Value) (S : St) : State → Prop := MQ (gB G) (Qo sd (gY G) (gA G) (gD G) v S) (gV G) (gS G) 0 0 (Aof sd (gA G))
/-- what the tables say of a field: own class's entry idx is the place k of class ci -/
def Fl (own : String) (idx ci k : Nat) : Prop := ∃ q : vw_C, vwCl[ci]? = some q ∧ k < q.2.2 ∧ nsl ci = q.2.2 ∧ ci < 12 ∧ (∀ w ∈ u_ws q.1 q.2.1 q.2.2, w ∈ lw_g) ∧ Cond.fieldLink own idx (q.2.1 k).1 (q.2.1 k).2.1 (q.2.1 k).2.2.1 ∈ lw_g
def Fp (ci k : Nat) (ty : FieldType) : Prop := ∃ (q : vw_C) (ty0 : Nat → FieldType), vwCl[ci]? = some q ∧ (∀ k, k < q.2.2 → parseFieldDescriptor (q.2.1 k).2.2.1 = some (ty0 k)) ∧ (∀ a, a < q.2.2 → ∀ b, b < q.2.2 → a ≠ b → (q.2.1 a).2.1 ≠ (q.2.1 b).2.1) ∧ (q.2.1 k).2.2.2 = false ∧ parseFieldDescriptor (q.2.1 k).2.2.1 = some ty
-- the steps of a decompiled method
def gd {ρ : Type} (P : Prop) [Decidable P] (k : Option ρ) : Option ρ := if P then k else none
def bn {α ρ : Type} (x : α) (k : α → Option ρ) : Option ρ := k x
def bd {α ρ : Type} (x : Option (St × α)) (k : St → α → Option ρ) : Option ρ := match x with
  | none => none
  | some q => k q.1 q.2
def bq {ρ : Type} (x : Option (St × Option Nat)) (k0 : St → Option ρ) (k : St → Nat → Option ρ) : Option ρ := match x with
  | none => none
  | some (S, none) => k0 S
  | some (S, some a) => k S a
theorem gd_some {ρ : Type} {P : Prop} [Decidable P] {k : Option ρ} {r : ρ} (h : gd P k = some r) : P ∧ k = some r := by
  unfold gd at h
  by_cases q : P
  · rw [if_pos q] at h
    exact ⟨q, h⟩
  · rw [if_neg q] at h
    cases h
theorem bn_some {α ρ : Type} {x : α} {k : α → Option ρ} {r : ρ} (h : bn x k = some r) : ∃ y, y = x ∧ k y = some r := ⟨x, rfl, h⟩
theorem bd_some {α ρ : Type} {x : Option (St × α)} {k : St → α → Option ρ} {r : ρ} (h : bd x k = some r) : ∃ S a, x = some (S, a) ∧ k S a = some r := by
  unfold bd at h
  split at h
  · cases h
  · rename_i q
    exact ⟨q.1, q.2, rfl, h⟩
theorem bq_some {ρ : Type} {x : Option (St × Option Nat)} {k0 : St → Option ρ} {k : St → Nat → Option ρ} {r : ρ} (h : bq x k0 k = some r) : (∃ S, x = some (S, none) ∧ k0 S = some r) ∨ ∃ S a, x = some (S, some a) ∧ k S a = some r := by
  unfold bq at h
  split at h
  · cases h
  · rename_i S
    exact Or.inl ⟨S, rfl, h⟩
  · rename_i S a
    exact Or.inr ⟨S, a, rfl, h⟩
theorem it_pos {ρ : Type} {P : Prop} {d : Decidable P} {a b : Option ρ} {r : ρ} (hc : P) (h : (@ite _ P d a b) = some r) : a = some r := by rwa [if_pos hc] at h
theorem it_neg {ρ : Type} {P : Prop} {d : Decidable P} {a b : Option ρ} {r : ρ} (hc : ¬ P) (h : (@ite _ P d a b) = some r) : b = some r := by rwa [if_neg hc] at h
section
variable {G : Gx} {sd : Sd} {R : Room} {cc : ByteArray} {nL : Nat} {own : String} {ret : Option FieldType} {Q : State → Prop} {S : St} {pc : Nat} {lv lv' : List (Nat × Value)} {st : List Value}

theorem wp_iadd (C : Cx G sd cc nL own ret) {x y : Int32} (hd : decode cc pc = .ok (.iadd, 1)) (k : Wp G sd R nL Q S (pc + 1) lv (.int (x + y) :: st)) : Wp G sd R nL Q S pc lv (.int y :: .int x :: st) := fun H locs ls hP hS hl => lv_iadd C.1 C.2.1 hd (k H locs ls hP hS hl)
theorem wp_isub (C : Cx G sd cc nL own ret) {x y : Int32} (hd : decode cc pc = .ok (.isub, 1)) (k : Wp G sd R nL Q S (pc + 1) lv (.int (x - y) :: st)) : Wp G sd R nL Q S pc lv (.int y :: .int x :: st) := fun H locs ls hP hS hl => lv_isub C.1 C.2.1 hd (k H locs ls hP hS hl)
theorem wp_imul (C : Cx G sd cc nL own ret) {x y : Int32} (hd : decode cc pc = .ok (.imul, 1)) (k : Wp G sd R nL Q S (pc + 1) lv (.int (x * y) :: st)) : Wp G sd R nL Q S pc lv (.int y :: .int x :: st) := fun H locs ls hP hS hl => lv_imul C.1 C.2.1 hd (k H locs ls hP hS hl)
theorem wp_iand (C : Cx G sd cc nL own ret) {x y : Int32} (hd : decode cc pc = .ok (.iand, 1)) (k : Wp G sd R nL Q S (pc + 1) lv (.int (x &&& y) :: st)) : Wp G sd R nL Q S pc lv (.int y :: .int x :: st) := fun H locs ls hP hS hl => lv_iand C.1 C.2.1 hd (k H locs ls hP hS hl)
theorem wp_ior (C : Cx G sd cc nL own ret) {x y : Int32} (hd : decode cc pc = .ok (.ior, 1)) (k : Wp G sd R nL Q S (pc + 1) lv (.int (x ||| y) :: st)) : Wp G sd R nL Q S pc lv (.int y :: .int x :: st) := fun H locs ls hP hS hl => lv_ior C.1 C.2.1 hd (k H locs ls hP hS hl)
theorem wp_ishl (C : Cx G sd cc nL own ret) {x y : Int32} (hd : decode cc pc = .ok (.ishl, 1)) (k : Wp G sd R nL Q S (pc + 1) lv (.int (x <<< (y &&& 31)) :: st)) : Wp G sd R nL Q S pc lv (.int y :: .int x :: st) := fun H locs ls hP hS hl => lv_ishl C.1 C.2.1 hd (k H locs ls hP hS hl)
theorem wp_ishr (C : Cx G sd cc nL own ret) {x y : Int32} (hd : decode cc pc = .ok (.ishr, 1)) (k : Wp G sd R nL Q S (pc + 1) lv (.int (x >>> (y &&& 31)) :: st)) : Wp G sd R nL Q S pc lv (.int y :: .int x :: st) := fun H locs ls hP hS hl => lv_ishr C.1 C.2.1 hd (k H locs ls hP hS hl)
theorem wp_ladd (C : Cx G sd cc nL own ret) {x y : Int64} (hd : decode cc pc = .ok (.ladd, 1)) (k : Wp G sd R nL Q S (pc + 1) lv (.long (x + y) :: st)) : Wp G sd R nL Q S pc lv (.long y :: .long x :: st) := fun H locs ls hP hS hl => lv_ladd C.1 C.2.1 hd (k H locs ls hP hS hl)
theorem wp_lsub (C : Cx G sd cc nL own ret) {x y : Int64} (hd : decode cc pc = .ok (.lsub, 1)) (k : Wp G sd R nL Q S (pc + 1) lv (.long (x - y) :: st)) : Wp G sd R nL Q S pc lv (.long y :: .long x :: st) := fun H locs ls hP hS hl => lv_lsub C.1 C.2.1 hd (k H locs ls hP hS hl)
theorem wp_lmul (C : Cx G sd cc nL own ret) {x y : Int64} (hd : decode cc pc = .ok (.lmul, 1)) (k : Wp G sd R nL Q S (pc + 1) lv (.long (x * y) :: st)) : Wp G sd R nL Q S pc lv (.long y :: .long x :: st) := fun H locs ls hP hS hl => lv_lmul C.1 C.2.1 hd (k H locs ls hP hS hl)
theorem wp_land (C : Cx G sd cc nL own ret) {x y : Int64} (hd : decode cc pc = .ok (.land, 1)) (k : Wp G sd R nL Q S (pc + 1) lv (.long (x &&& y) :: st)) : Wp G sd R nL Q S pc lv (.long y :: .long x :: st) := fun H locs ls hP hS hl => lv_land C.1 C.2.1 hd (k H locs ls hP hS hl)
theorem wp_lor (C : Cx G sd cc nL own ret) {x y : Int64} (hd : decode cc pc = .ok (.lor, 1)) (k : Wp G sd R nL Q S (pc + 1) lv (.long (x ||| y) :: st)) : Wp G sd R nL Q S pc lv (.long y :: .long x :: st) := fun H locs ls hP hS hl => lv_lor C.1 C.2.1 hd (k H locs ls hP hS hl)
theorem wp_lneg (C : Cx G sd cc nL own ret) {x : Int64} (hd : decode cc pc = .ok (.lneg, 1)) (k : Wp G sd R nL Q S (pc + 1) lv (.long (-x) :: st)) : Wp G sd R nL Q S pc lv (.long x :: st) := fun H locs ls hP hS hl => lv_lneg C.1 C.2.1 hd (k H locs ls hP hS hl)
theorem wp_idiv (C : Cx G sd cc nL own ret) {x y : Int32} (hd : decode cc pc = .ok (.idiv, 1)) (hne : ¬ y = 0) (k : Wp G sd R nL Q S (pc + 1) lv (.int (x / y) :: st)) : Wp G sd R nL Q S pc lv (.int y :: .int x :: st) := fun H locs ls hP hS hl => lv_idiv C.1 C.2.1 hd hne (k H locs ls hP hS hl)
theorem wp_irem (C : Cx G sd cc nL own ret) {x y : Int32} (hd : decode cc pc = .ok (.irem, 1)) (hne : ¬ y = 0) (k : Wp G sd R nL Q S (pc + 1) lv (.int (x - x / y * y) :: st)) : Wp G sd R nL Q S pc lv (.int y :: .int x :: st) := fun H locs ls hP hS hl => lv_irem C.1 C.2.1 hd hne (k H locs ls hP hS hl)
theorem wp_ldiv (C : Cx G sd cc nL own ret) {x y : Int64} (hd : decode cc pc = .ok (.ldiv, 1)) (hne : ¬ y = 0) (k : Wp G sd R nL Q S (pc + 1) lv (.long (x / y) :: st)) : Wp G sd R nL Q S pc lv (.long y :: .long x :: st) := fun H locs ls hP hS hl => lv_ldiv C.1 C.2.1 hd hne (k H locs ls hP hS hl)
theorem wp_iushr (C : Cx G sd cc nL own ret) {x y : Int32} (hd : decode cc pc = .ok (.iushr, 1)) (k : Wp G sd R nL Q S (pc + 1) lv (.int ((x.toUInt32 >>> (y.toUInt32 &&& Int32.toUInt32 31)).toInt32) :: st)) : Wp G sd R nL Q S pc lv (.int y :: .int x :: st) := fun H locs ls hP hS hl => lv_iushr C.1 C.2.1 hd rfl (k H locs ls hP hS hl)
theorem wp_lshl (C : Cx G sd cc nL own ret) {x : Int64} {y : Int32} (hd : decode cc pc = .ok (.lshl, 1)) (k : Wp G sd R nL Q S (pc + 1) lv (.long (x <<< (y.toInt64 &&& 63)) :: st)) : Wp G sd R nL Q S pc lv (.int y :: .long x :: st) := fun H locs ls hP hS hl => lv_lshl C.1 C.2.1 hd rfl (k H locs ls hP hS hl)
theorem wp_lshr (C : Cx G sd cc nL own ret) {x : Int64} {y : Int32} (hd : decode cc pc = .ok (.lshr, 1)) (k : Wp G sd R nL Q S (pc + 1) lv (.long (x >>> (y.toInt64 &&& 63)) :: st)) : Wp G sd R nL Q S pc lv (.int y :: .long x :: st) := fun H locs ls hP hS hl => lv_lshr C.1 C.2.1 hd rfl (k H locs ls hP hS hl)
theorem wp_i2l (C : Cx G sd cc nL own ret) {x : Int32} (hd : decode cc pc = .ok (.i2l, 1)) (k : Wp G sd R nL Q S (pc + 1) lv (.long (x.toInt64) :: st)) : Wp G sd R nL Q S pc lv (.int x :: st) := fun H locs ls hP hS hl => lv_i2l C.1 C.2.1 hd rfl (k H locs ls hP hS hl)
theorem wp_l2i (C : Cx G sd cc nL own ret) {x : Int64} (hd : decode cc pc = .ok (.l2i, 1)) (k : Wp G sd R nL Q S (pc + 1) lv (.int (x.toInt32) :: st)) : Wp G sd R nL Q S pc lv (.long x :: st) := fun H locs ls hP hS hl => lv_l2i C.1 C.2.1 hd rfl (k H locs ls hP hS hl)
theorem wp_i2b (C : Cx G sd cc nL own ret) {x : Int32} (hd : decode cc pc = .ok (.i2b, 1)) (k : Wp G sd R nL Q S (pc + 1) lv (.int (x.toInt8.toInt32) :: st)) : Wp G sd R nL Q S pc lv (.int x :: st) := fun H locs ls hP hS hl => lv_i2b C.1 C.2.1 hd rfl (k H locs ls hP hS hl)
theorem wp_i2c (C : Cx G sd cc nL own ret) {x : Int32} (hd : decode cc pc = .ok (.i2c, 1)) (k : Wp G sd R nL Q S (pc + 1) lv (.int ((x.toUInt32 % 65536).toInt32) :: st)) : Wp G sd R nL Q S pc lv (.int x :: st) := fun H locs ls hP hS hl => lv_i2c C.1 C.2.1 hd rfl (k H locs ls hP hS hl)
theorem wp_lcmp (C : Cx G sd cc nL own ret) {x y : Int64} (hd : decode cc pc = .ok (.lcmp, 1)) (k : Wp G sd R nL Q S (pc + 1) lv (.int (lg_cmp x y) :: st)) : Wp G sd R nL Q S pc lv (.long y :: .long x :: st) := fun H locs ls hP hS hl => W.lcmp C.1 C.2.1 hd (k H locs ls hP hS hl)
theorem wp_iconst (C : Cx G sd cc nL own ret) {n : Int} {v : Int32} (hd : decode cc pc = .ok (.iconst n, 1)) (hv : Int32.ofInt n = v) (k : Wp G sd R nL Q S (pc + 1) lv (.int v :: st)) : Wp G sd R nL Q S pc lv (st) := fun H locs ls hP hS hl => lv_iconst C.1 C.2.1 hd hv (k H locs ls hP hS hl)
theorem wp_bipush (C : Cx G sd cc nL own ret) {n : Int} {v : Int32} (hd : decode cc pc = .ok (.bipush n, 2)) (hv : (Int8.ofInt n).toInt32 = v) (k : Wp G sd R nL Q S (pc + 2) lv (.int v :: st)) : Wp G sd R nL Q S pc lv (st) := fun H locs ls hP hS hl => lv_bipush C.1 C.2.1 hd hv (k H locs ls hP hS hl)
theorem wp_sipush (C : Cx G sd cc nL own ret) {n : Int} {v : Int32} (hd : decode cc pc = .ok (.sipush n, 3)) (hv : (Int16.ofInt n).toInt32 = v) (k : Wp G sd R nL Q S (pc + 3) lv (.int v :: st)) : Wp G sd R nL Q S pc lv (st) := fun H locs ls hP hS hl => lv_sipush C.1 C.2.1 hd hv (k H locs ls hP hS hl)
theorem wp_lconst (C : Cx G sd cc nL own ret) {n : Fin 2} {v : Int64} (hd : decode cc pc = .ok (.lconst n, 1)) (hv : Int64.ofNat (n : Nat) = v) (k : Wp G sd R nL Q S (pc + 1) lv (.long v :: st)) : Wp G sd R nL Q S pc lv (st) := fun H locs ls hP hS hl => lv_lconst C.1 C.2.1 hd hv (k H locs ls hP hS hl)
theorem wp_null (C : Cx G sd cc nL own ret) (hd : decode cc pc = .ok (.aconst_null, 1)) (k : Wp G sd R nL Q S (pc + 1) lv (.null :: st)) : Wp G sd R nL Q S pc lv (st) := fun H locs ls hP hS hl => lv_null C.1 C.2.1 hd (k H locs ls hP hS hl)
theorem wp_dup (C : Cx G sd cc nL own ret) {va : Value} (hd : decode cc pc = .ok (.dup, 1)) (hv : va.category = 1) (k : Wp G sd R nL Q S (pc + 1) lv (va :: va :: st)) : Wp G sd R nL Q S pc lv (va :: st) := fun H locs ls hP hS hl => lv_dup C.1 C.2.1 hd hv (k H locs ls hP hS hl)
theorem wp_pop (C : Cx G sd cc nL own ret) {va : Value} (hd : decode cc pc = .ok (.pop, 1)) (hv : va.category = 1) (k : Wp G sd R nL Q S (pc + 1) lv (st)) : Wp G sd R nL Q S pc lv (va :: st) := fun H locs ls hP hS hl => lv_pop C.1 C.2.1 hd hv (k H locs ls hP hS hl)
theorem wp_dup2_11 (C : Cx G sd cc nL own ret) {va vb : Value} (hd : decode cc pc = .ok (.dup2, 1)) (h1 : va.category = 1) (h2 : vb.category = 1) (k : Wp G sd R nL Q S (pc + 1) lv (va :: vb :: va :: vb :: st)) : Wp G sd R nL Q S pc lv (va :: vb :: st) := fun H locs ls hP hS hl => lv_dup2_11 C.1 C.2.1 hd h1 h2 (k H locs ls hP hS hl)
theorem wp_ldc (C : Cx G sd cc nL own ret) {idx : Nat} {v : Int32} (hq : Cond.constant own idx v ∈ lw_g) (hd : decode cc pc = .ok (.ldc idx, 2)) (k : Wp G sd R nL Q S (pc + 2) lv (.int v :: st)) : Wp G sd R nL Q S pc lv st := fun H locs ls hP hS hl => lv_ldc C.1 C.2.1 C.2.2.2.1 (C.2.2.2.2.1 _ hq) hd (k H locs ls hP hS hl)
theorem wp_ldcw (C : Cx G sd cc nL own ret) {idx : Nat} {v : Int32} (hq : Cond.constant own idx v ∈ lw_g) (hd : decode cc pc = .ok (.ldc_w idx, 3)) (k : Wp G sd R nL Q S (pc + 3) lv (.int v :: st)) : Wp G sd R nL Q S pc lv st := fun H locs ls hP hS hl => lv_ldcw C.1 C.2.1 C.2.2.2.1 (C.2.2.2.2.1 _ hq) hd (k H locs ls hP hS hl)
theorem wp_ldc2 (C : Cx G sd cc nL own ret) {idx : Nat} {v : Int64} (hq : Cond.constantLong own idx v ∈ lw_g) (hd : decode cc pc = .ok (.ldc2_w idx, 3)) (k : Wp G sd R nL Q S (pc + 3) lv (.long v :: st)) : Wp G sd R nL Q S pc lv st := fun H locs ls hP hS hl => lv_ldc2 C.1 C.2.1 C.2.2.2.1 (C.2.2.2.2.1 _ hq) hd (k H locs ls hP hS hl)
theorem wp_iload_n (C : Cx G sd cc nL own ret) {j : Fin 4} {i : Nat} {x : Int32} (q : Nat) (hd : decode cc pc = .ok (.iload_n j, 1)) (hi : (j : Nat) = i) (hq : lv[q]? = some (i, .int x)) (k : Wp G sd R nL Q S (pc + 1) lv (.int x :: st)) : Wp G sd R nL Q S pc lv st := fun H locs ls hP hS hl => lv_iload_n C.1 C.2.1 hd hi (lv_at hl q hq) (k H locs ls hP hS hl)
theorem wp_iload (C : Cx G sd cc nL own ret) {i : Nat} {x : Int32} (q : Nat) (hd : decode cc pc = .ok (.iload i, 2)) (hq : lv[q]? = some (i, .int x)) (k : Wp G sd R nL Q S (pc + 2) lv (.int x :: st)) : Wp G sd R nL Q S pc lv st := fun H locs ls hP hS hl => lv_iload C.1 C.2.1 hd (lv_at hl q hq) (k H locs ls hP hS hl)
theorem wp_istore_n (C : Cx G sd cc nL own ret) {j : Fin 4} {i : Nat} {x y : Int32} (e : y = x) (lv' : List (Nat × Value)) (hd : decode cc pc = .ok (.istore_n j, 1)) (hi : (j : Nat) = i) (hn : i < nL) (hf : (i, Value.int y) :: lv.filter (fun q => !(q.1 == i) && !(q.1 + 1 == i && q.2.category == 2)) = lv') (k : Wp G sd R nL Q S (pc + 1) lv' st) : Wp G sd R nL Q S pc lv (.int x :: st) := by
  subst e
  exact fun H locs ls hP hS hl => lv_istore_n C.1 C.2.1 hd hi hl hn hf (fun ls hl => k H locs ls hP hS hl)
theorem wp_istore (C : Cx G sd cc nL own ret) {i : Nat} {x y : Int32} (e : y = x) (lv' : List (Nat × Value)) (hd : decode cc pc = .ok (.istore i, 2)) (hn : i < nL) (hf : (i, Value.int y) :: lv.filter (fun q => !(q.1 == i) && !(q.1 + 1 == i && q.2.category == 2)) = lv') (k : Wp G sd R nL Q S (pc + 2) lv' st) : Wp G sd R nL Q S pc lv (.int x :: st) := by
  subst e
  exact fun H locs ls hP hS hl => lv_istore C.1 C.2.1 hd hl hn hf (fun ls hl => k H locs ls hP hS hl)
theorem wp_lload_n (C : Cx G sd cc nL own ret) {j : Fin 4} {i : Nat} {x : Int64} (q : Nat) (hd : decode cc pc = .ok (.lload_n j, 1)) (hi : (j : Nat) = i) (hq : lv[q]? = some (i, .long x)) (k : Wp G sd R nL Q S (pc + 1) lv (.long x :: st)) : Wp G sd R nL Q S pc lv st := fun H locs ls hP hS hl => lv_lload_n C.1 C.2.1 hd hi (lv_at hl q hq) (k H locs ls hP hS hl)
theorem wp_lload (C : Cx G sd cc nL own ret) {i : Nat} {x : Int64} (q : Nat) (hd : decode cc pc = .ok (.lload i, 2)) (hq : lv[q]? = some (i, .long x)) (k : Wp G sd R nL Q S (pc + 2) lv (.long x :: st)) : Wp G sd R nL Q S pc lv st := fun H locs ls hP hS hl => lv_lload C.1 C.2.1 hd (lv_at hl q hq) (k H locs ls hP hS hl)
theorem wp_lstore_n (C : Cx G sd cc nL own ret) {j : Fin 4} {i : Nat} {x y : Int64} (e : y = x) (lv' : List (Nat × Value)) (hd : decode cc pc = .ok (.lstore_n j, 1)) (hi : (j : Nat) = i) (hn : i + 1 < nL) (hf : (i, Value.long y) :: lv.filter (fun q => !(q.1 == i) && (!(q.1 == i + 1) && !(q.1 + 1 == i && q.2.category == 2))) = lv') (k : Wp G sd R nL Q S (pc + 1) lv' st) : Wp G sd R nL Q S pc lv (.long x :: st) := by
  subst e
  exact fun H locs ls hP hS hl => lv_lstore_n C.1 C.2.1 hd hi hl hn hf (fun ls hl => k H locs ls hP hS hl)
theorem wp_lstore (C : Cx G sd cc nL own ret) {i : Nat} {x y : Int64} (e : y = x) (lv' : List (Nat × Value)) (hd : decode cc pc = .ok (.lstore i, 2)) (hn : i + 1 < nL) (hf : (i, Value.long y) :: lv.filter (fun q => !(q.1 == i) && (!(q.1 == i + 1) && !(q.1 + 1 == i && q.2.category == 2))) = lv') (k : Wp G sd R nL Q S (pc + 2) lv' st) : Wp G sd R nL Q S pc lv (.long x :: st) := by
  subst e
  exact fun H locs ls hP hS hl => lv_lstore C.1 C.2.1 hd hl hn hf (fun ls hl => k H locs ls hP hS hl)
theorem wp_aload_n (C : Cx G sd cc nL own ret) {j : Fin 4} {i : Nat} {x : Nat} (q : Nat) (hd : decode cc pc = .ok (.aload_n j, 1)) (hi : (j : Nat) = i) (hq : lv[q]? = some (i, .ref x)) (k : Wp G sd R nL Q S (pc + 1) lv (.ref x :: st)) : Wp G sd R nL Q S pc lv st := fun H locs ls hP hS hl => lv_aload_n C.1 C.2.1 hd hi (lv_at hl q hq) (k H locs ls hP hS hl)
theorem wp_aload (C : Cx G sd cc nL own ret) {i : Nat} {x : Nat} (q : Nat) (hd : decode cc pc = .ok (.aload i, 2)) (hq : lv[q]? = some (i, .ref x)) (k : Wp G sd R nL Q S (pc + 2) lv (.ref x :: st)) : Wp G sd R nL Q S pc lv st := fun H locs ls hP hS hl => lv_aload C.1 C.2.1 hd (lv_at hl q hq) (k H locs ls hP hS hl)
theorem wp_astore_n (C : Cx G sd cc nL own ret) {j : Fin 4} {i : Nat} {x y : Nat} (e : y = x) (lv' : List (Nat × Value)) (hd : decode cc pc = .ok (.astore_n j, 1)) (hi : (j : Nat) = i) (hn : i < nL) (hf : (i, Value.ref y) :: lv.filter (fun q => !(q.1 == i) && !(q.1 + 1 == i && q.2.category == 2)) = lv') (k : Wp G sd R nL Q S (pc + 1) lv' st) : Wp G sd R nL Q S pc lv (.ref x :: st) := by
  subst e
  exact fun H locs ls hP hS hl => lv_astore_n C.1 C.2.1 hd hi hl hn hf (fun ls hl => k H locs ls hP hS hl)
theorem wp_astore (C : Cx G sd cc nL own ret) {i : Nat} {x y : Nat} (e : y = x) (lv' : List (Nat × Value)) (hd : decode cc pc = .ok (.astore i, 2)) (hn : i < nL) (hf : (i, Value.ref y) :: lv.filter (fun q => !(q.1 == i) && !(q.1 + 1 == i && q.2.category == 2)) = lv') (k : Wp G sd R nL Q S (pc + 2) lv' st) : Wp G sd R nL Q S pc lv (.ref x :: st) := by
  subst e
  exact fun H locs ls hP hS hl => lv_astore C.1 C.2.1 hd hl hn hf (fun ls hl => k H locs ls hP hS hl)
theorem wp_astoreN (C : Cx G sd cc nL own ret) {i : Nat} (lv' : List (Nat × Value)) (hd : decode cc pc = .ok (.astore i, 2)) (hn : i < nL) (hf : (i, Value.null) :: lv.filter (fun q => !(q.1 == i) && !(q.1 + 1 == i && q.2.category == 2)) = lv') (k : Wp G sd R nL Q S (pc + 2) lv' st) : Wp G sd R nL Q S pc lv (.null :: st) := fun H locs ls hP hS hl => lv_astoreN C.1 C.2.1 hd hl hn hf (fun ls hl => k H locs ls hP hS hl)
theorem wp_astore_nN (C : Cx G sd cc nL own ret) {j : Fin 4} {i : Nat} (lv' : List (Nat × Value)) (hd : decode cc pc = .ok (.astore_n j, 1)) (hi : (j : Nat) = i) (hn : i < nL) (hf : (i, Value.null) :: lv.filter (fun q => !(q.1 == i) && !(q.1 + 1 == i && q.2.category == 2)) = lv') (k : Wp G sd R nL Q S (pc + 1) lv' st) : Wp G sd R nL Q S pc lv (.null :: st) := fun H locs ls hP hS hl => lv_astore_nN C.1 C.2.1 hd hi hl hn hf (fun ls hl => k H locs ls hP hS hl)
theorem wp_aloadN (C : Cx G sd cc nL own ret) {i : Nat} (q : Nat) (hd : decode cc pc = .ok (.aload i, 2)) (hq : lv[q]? = some (i, .null)) (k : Wp G sd R nL Q S (pc + 2) lv (.null :: st)) : Wp G sd R nL Q S pc lv st := fun H locs ls hP hS hl => lv_aloadN C.1 C.2.1 hd (lv_at hl q hq) (k H locs ls hP hS hl)
theorem wp_aload_nN (C : Cx G sd cc nL own ret) {j : Fin 4} {i : Nat} (q : Nat) (hd : decode cc pc = .ok (.aload_n j, 1)) (hi : (j : Nat) = i) (hq : lv[q]? = some (i, .null)) (k : Wp G sd R nL Q S (pc + 1) lv (.null :: st)) : Wp G sd R nL Q S pc lv st := fun H locs ls hP hS hl => lv_aload_nN C.1 C.2.1 hd hi (lv_at hl q hq) (k H locs ls hP hS hl)
theorem wp_iinc (C : Cx G sd cc nL own ret) {i q : Nat} {n : Int} {x v kk : Int32} (hkk : Int32.ofInt n = kk) (e : v = x + kk) (lv' : List (Nat × Value)) (hd : decode cc pc = .ok (.iinc i n, 3)) (hq : lv[q]? = some (i, .int x)) (hn : i < nL) (hf : (i, Value.int v) :: lv.filter (fun q => !(q.1 == i) && !(q.1 + 1 == i && q.2.category == 2)) = lv') (k : Wp G sd R nL Q S (pc + 3) lv' st) : Wp G sd R nL Q S pc lv st := fun H locs ls hP hS hl => lv_iinc C.1 C.2.1 hd hl hq (by rw [hkk]; exact e.symm) hn hf (fun ls hl => k H locs ls hP hS hl)
theorem wp_goto (C : Cx G sd cc nL own ret) {off : Int} (tgt : Nat) (hd : decode cc pc = .ok (.goto off, 3)) (ht : (pc : Int) + off = (tgt : Int)) (k : Wp G sd R nL Q S tgt lv st) : Wp G sd R nL Q S pc lv st := fun H locs ls hP hS hl => lv_goto C.1 C.2.1 hd ht (k H locs ls hP hS hl)
theorem wp_if_eq (C : Cx G sd cc nL own ret) {x : Int32} {off : Int} (tgt : Nat) (hd : decode cc pc = .ok (.ifCond .eq off, 3)) (ht : (pc : Int) + off = (tgt : Int)) (kt : x = 0 → Wp G sd R nL Q S tgt lv st) (kf : ¬ x = 0 → Wp G sd R nL Q S (pc + 3) lv st) : Wp G sd R nL Q S pc lv (.int x :: st) := fun H locs ls hP hS hl => lv_if_eq C.1 C.2.1 hd ht (fun q => kt q H locs ls hP hS hl) (fun q => kf q H locs ls hP hS hl)
theorem wp_if_ne (C : Cx G sd cc nL own ret) {x : Int32} {off : Int} (tgt : Nat) (hd : decode cc pc = .ok (.ifCond .ne off, 3)) (ht : (pc : Int) + off = (tgt : Int)) (kt : ¬ x = 0 → Wp G sd R nL Q S tgt lv st) (kf : x = 0 → Wp G sd R nL Q S (pc + 3) lv st) : Wp G sd R nL Q S pc lv (.int x :: st) := fun H locs ls hP hS hl => lv_if_ne C.1 C.2.1 hd ht (fun q => kt q H locs ls hP hS hl) (fun q => kf q H locs ls hP hS hl)
theorem wp_if_lt (C : Cx G sd cc nL own ret) {x : Int32} {off : Int} (tgt : Nat) (hd : decode cc pc = .ok (.ifCond .lt off, 3)) (ht : (pc : Int) + off = (tgt : Int)) (kt : x < 0 → Wp G sd R nL Q S tgt lv st) (kf : ¬ x < 0 → Wp G sd R nL Q S (pc + 3) lv st) : Wp G sd R nL Q S pc lv (.int x :: st) := fun H locs ls hP hS hl => lv_if_lt C.1 C.2.1 hd ht (fun q => kt q H locs ls hP hS hl) (fun q => kf q H locs ls hP hS hl)
theorem wp_if_ge (C : Cx G sd cc nL own ret) {x : Int32} {off : Int} (tgt : Nat) (hd : decode cc pc = .ok (.ifCond .ge off, 3)) (ht : (pc : Int) + off = (tgt : Int)) (kt : 0 ≤ x → Wp G sd R nL Q S tgt lv st) (kf : ¬ 0 ≤ x → Wp G sd R nL Q S (pc + 3) lv st) : Wp G sd R nL Q S pc lv (.int x :: st) := fun H locs ls hP hS hl => lv_if_ge C.1 C.2.1 hd ht (fun q => kt q H locs ls hP hS hl) (fun q => kf q H locs ls hP hS hl)
theorem wp_if_gt (C : Cx G sd cc nL own ret) {x : Int32} {off : Int} (tgt : Nat) (hd : decode cc pc = .ok (.ifCond .gt off, 3)) (ht : (pc : Int) + off = (tgt : Int)) (kt : 0 < x → Wp G sd R nL Q S tgt lv st) (kf : ¬ 0 < x → Wp G sd R nL Q S (pc + 3) lv st) : Wp G sd R nL Q S pc lv (.int x :: st) := fun H locs ls hP hS hl => lv_if_gt C.1 C.2.1 hd ht (fun q => kt q H locs ls hP hS hl) (fun q => kf q H locs ls hP hS hl)
theorem wp_if_le (C : Cx G sd cc nL own ret) {x : Int32} {off : Int} (tgt : Nat) (hd : decode cc pc = .ok (.ifCond .le off, 3)) (ht : (pc : Int) + off = (tgt : Int)) (kt : x ≤ 0 → Wp G sd R nL Q S tgt lv st) (kf : ¬ x ≤ 0 → Wp G sd R nL Q S (pc + 3) lv st) : Wp G sd R nL Q S pc lv (.int x :: st) := fun H locs ls hP hS hl => lv_if_le C.1 C.2.1 hd ht (fun q => kt q H locs ls hP hS hl) (fun q => kf q H locs ls hP hS hl)
theorem wp_icmp_eq (C : Cx G sd cc nL own ret) {x y : Int32} {off : Int} (tgt : Nat) (hd : decode cc pc = .ok (.if_icmp .eq off, 3)) (ht : (pc : Int) + off = (tgt : Int)) (kt : x = y → Wp G sd R nL Q S tgt lv st) (kf : ¬ x = y → Wp G sd R nL Q S (pc + 3) lv st) : Wp G sd R nL Q S pc lv (.int y :: .int x :: st) := fun H locs ls hP hS hl => lv_icmp_eq C.1 C.2.1 hd ht (fun q => kt q H locs ls hP hS hl) (fun q => kf q H locs ls hP hS hl)
theorem wp_icmp_ne (C : Cx G sd cc nL own ret) {x y : Int32} {off : Int} (tgt : Nat) (hd : decode cc pc = .ok (.if_icmp .ne off, 3)) (ht : (pc : Int) + off = (tgt : Int)) (kt : ¬ x = y → Wp G sd R nL Q S tgt lv st) (kf : x = y → Wp G sd R nL Q S (pc + 3) lv st) : Wp G sd R nL Q S pc lv (.int y :: .int x :: st) := fun H locs ls hP hS hl => lv_icmp_ne C.1 C.2.1 hd ht (fun q => kt q H locs ls hP hS hl) (fun q => kf q H locs ls hP hS hl)
theorem wp_icmp_lt (C : Cx G sd cc nL own ret) {x y : Int32} {off : Int} (tgt : Nat) (hd : decode cc pc = .ok (.if_icmp .lt off, 3)) (ht : (pc : Int) + off = (tgt : Int)) (kt : x < y → Wp G sd R nL Q S tgt lv st) (kf : ¬ x < y → Wp G sd R nL Q S (pc + 3) lv st) : Wp G sd R nL Q S pc lv (.int y :: .int x :: st) := fun H locs ls hP hS hl => lv_icmp_lt C.1 C.2.1 hd ht (fun q => kt q H locs ls hP hS hl) (fun q => kf q H locs ls hP hS hl)
theorem wp_icmp_ge (C : Cx G sd cc nL own ret) {x y : Int32} {off : Int} (tgt : Nat) (hd : decode cc pc = .ok (.if_icmp .ge off, 3)) (ht : (pc : Int) + off = (tgt : Int)) (kt : y ≤ x → Wp G sd R nL Q S tgt lv st) (kf : ¬ y ≤ x → Wp G sd R nL Q S (pc + 3) lv st) : Wp G sd R nL Q S pc lv (.int y :: .int x :: st) := fun H locs ls hP hS hl => lv_icmp_ge C.1 C.2.1 hd ht (fun q => kt q H locs ls hP hS hl) (fun q => kf q H locs ls hP hS hl)
theorem wp_icmp_gt (C : Cx G sd cc nL own ret) {x y : Int32} {off : Int} (tgt : Nat) (hd : decode cc pc = .ok (.if_icmp .gt off, 3)) (ht : (pc : Int) + off = (tgt : Int)) (kt : y < x → Wp G sd R nL Q S tgt lv st) (kf : ¬ y < x → Wp G sd R nL Q S (pc + 3) lv st) : Wp G sd R nL Q S pc lv (.int y :: .int x :: st) := fun H locs ls hP hS hl => lv_icmp_gt C.1 C.2.1 hd ht (fun q => kt q H locs ls hP hS hl) (fun q => kf q H locs ls hP hS hl)
theorem wp_icmp_le (C : Cx G sd cc nL own ret) {x y : Int32} {off : Int} (tgt : Nat) (hd : decode cc pc = .ok (.if_icmp .le off, 3)) (ht : (pc : Int) + off = (tgt : Int)) (kt : x ≤ y → Wp G sd R nL Q S tgt lv st) (kf : ¬ x ≤ y → Wp G sd R nL Q S (pc + 3) lv st) : Wp G sd R nL Q S pc lv (.int y :: .int x :: st) := fun H locs ls hP hS hl => lv_icmp_le C.1 C.2.1 hd ht (fun q => kt q H locs ls hP hS hl) (fun q => kf q H locs ls hP hS hl)
theorem wp_ifnonnull (C : Cx G sd cc nL own ret) {x : Nat} {off : Int} (tgt : Nat) (hd : decode cc pc = .ok (.ifnonnull off, 3)) (ht : (pc : Int) + off = (tgt : Int)) (k : Wp G sd R nL Q S tgt lv st) : Wp G sd R nL Q S pc lv (.ref x :: st) := fun H locs ls hP hS hl => lv_ifnonnull C.1 C.2.1 hd ht (k H locs ls hP hS hl)
theorem wp_ifnull (C : Cx G sd cc nL own ret) {x : Nat} {off : Int} (hd : decode cc pc = .ok (.ifnull off, 3)) (k : Wp G sd R nL Q S (pc + 3) lv st) : Wp G sd R nL Q S pc lv (.ref x :: st) := fun H locs ls hP hS hl => lv_ifnull C.1 C.2.1 hd (k H locs ls hP hS hl)
theorem wp_ifnullN (C : Cx G sd cc nL own ret) {off : Int} (tgt : Nat) (hd : decode cc pc = .ok (.ifnull off, 3)) (ht : (pc : Int) + off = (tgt : Int)) (k : Wp G sd R nL Q S tgt lv st) : Wp G sd R nL Q S pc lv (.null :: st) := fun H locs ls hP hS hl => lv_ifnullN C.1 C.2.1 hd ht (k H locs ls hP hS hl)
theorem wp_ifnonnullN (C : Cx G sd cc nL own ret) {off : Int} (hd : decode cc pc = .ok (.ifnonnull off, 3)) (k : Wp G sd R nL Q S (pc + 3) lv st) : Wp G sd R nL Q S pc lv (.null :: st) := fun H locs ls hP hS hl => lv_ifnonnullN C.1 C.2.1 hd (k H locs ls hP hS hl)
theorem wp_lookup (C : Cx G sd cc nL own ret) {dflt : Int} {ps : Array (Int × Int)} {len : Nat} {x : Int32} {off : Int} (tgt : Nat) (hd : decode cc pc = .ok (.lookupswitch dflt ps, len)) (hp : (ps.toList.zip (ps.toList.drop 1)).all (fun (a, next) => a.1 < next.1) = true) (ho : Op.lookupswitch.offset ps.toList dflt x.toInt = off) (ht : (pc : Int) + off = (tgt : Int)) (k : Wp G sd R nL Q S tgt lv st) : Wp G sd R nL Q S pc lv (.int x :: st) := fun H locs ls hP hS hl => lv_lookup C.1 C.2.1 hd hp ho ht (k H locs ls hP hS hl)
theorem wp_tableOut (C : Cx G sd cc nL own ret) {dflt lo hi : Int} {offs : Array Int} {len : Nat} {x : Int32} (tgt : Nat) (hd : decode cc pc = .ok (.tableswitch dflt lo hi offs, len)) (h : x.toInt < lo ∨ hi < x.toInt) (ht : (pc : Int) + dflt = (tgt : Int)) (k : Wp G sd R nL Q S tgt lv st) : Wp G sd R nL Q S pc lv (.int x :: st) := fun H locs ls hP hS hl => lv_tableOut C.1 C.2.1 hd h ht (k H locs ls hP hS hl)
theorem wp_tableIn (C : Cx G sd cc nL own ret) {dflt lo hi : Int} {offs : Array Int} {len : Nat} {x : Int32} {off : Int} (tgt : Nat) (hd : decode cc pc = .ok (.tableswitch dflt lo hi offs, len)) (h1 : ¬ x.toInt < lo) (h2 : ¬ hi < x.toInt) (ho : offs[(x.toInt - lo).toNat]? = some off) (ht : (pc : Int) + off = (tgt : Int)) (k : Wp G sd R nL Q S tgt lv st) : Wp G sd R nL Q S pc lv (.int x :: st) := fun H locs ls hP hS hl => lv_tableIn C.1 C.2.1 hd h1 h2 ho ht (k H locs ls hP hS hl)
theorem wp_sub (C : Cx G sd cc nL own ret) (ks : List Nat) (hk : lv_pick lv ks = lv') (k : Wp G sd R nL Q S pc lv' st) : Wp G sd R nL Q S pc lv st := fun H locs ls hP hS hl => k H locs ls hP hS (lv_sub hl ks hk)
theorem wp_getI (C : Cx G sd cc nL own ret) {idx ci k a : Nat} (hf : Fl own idx ci k) (ht : tg ci k = 0) (ha : a < sd.1) (hkd : sd.2.1 a = ci) (hd : decode cc pc = .ok (.getfield idx, 3)) (kk : Wp G sd R nL Q S (pc + 3) lv (.int (S.1 a k) :: st)) : Wp G sd R nL Q S pc lv (.ref (gA G a) :: st) := fun H locs ls hP hS hl => by
  obtain ⟨q, h1, h2, h3, h4, h5, h6⟩ := hf
  skip
  refine va_get (v := .int (S.1 a k)) C.1 C.2.1 C.2.2.2.2.1 h5 C.2.2.2.1 C.2.2.2.2.2.1 hP a ((cells_get ha).trans (by rw [eC_obj hkd h4])) h1 k h2 (C.2.2.2.2.1 _ h6) (fun _ h9 => h9) ?_ hd (kk H locs ls hP hS hl)
  simp [List.getElem?_map, List.getElem?_range (show k < nsl ci by rw [h3]; exact h2), fv, ht]
theorem wp_getL (C : Cx G sd cc nL own ret) {idx ci k a : Nat} (hf : Fl own idx ci k) (ht : tg ci k = 1) (ha : a < sd.1) (hkd : sd.2.1 a = ci) (hd : decode cc pc = .ok (.getfield idx, 3)) (kk : Wp G sd R nL Q S (pc + 3) lv (.long (S.2.1 a k) :: st)) : Wp G sd R nL Q S pc lv (.ref (gA G a) :: st) := fun H locs ls hP hS hl => by
  obtain ⟨q, h1, h2, h3, h4, h5, h6⟩ := hf
  skip
  refine va_get (v := .long (S.2.1 a k)) C.1 C.2.1 C.2.2.2.2.1 h5 C.2.2.2.1 C.2.2.2.2.2.1 hP a ((cells_get ha).trans (by rw [eC_obj hkd h4])) h1 k h2 (C.2.2.2.2.1 _ h6) (fun _ h9 => h9) ?_ hd (kk H locs ls hP hS hl)
  simp [List.getElem?_map, List.getElem?_range (show k < nsl ci by rw [h3]; exact h2), fv, ht]
theorem wp_getS (C : Cx G sd cc nL own ret) {v : Nat} {idx ci k a : Nat} (hf : Fl own idx ci k) (ht : tg ci k = 2) (hv : sd.2.2.2 a k = v) (hvl : v < sd.1) (ha : a < sd.1) (hkd : sd.2.1 a = ci) (hd : decode cc pc = .ok (.getfield idx, 3)) (kk : Wp G sd R nL Q S (pc + 3) lv (.ref (gA G v) :: st)) : Wp G sd R nL Q S pc lv (.ref (gA G a) :: st) := fun H locs ls hP hS hl => by
  obtain ⟨q, h1, h2, h3, h4, h5, h6⟩ := hf
  have h99 : v ≠ 999999 := by have := C.2.2.2.2.2.2.1.1; omega
  refine va_get (v := .ref (gA G v)) C.1 C.2.1 C.2.2.2.2.1 h5 C.2.2.2.1 C.2.2.2.2.2.1 hP a ((cells_get ha).trans (by rw [eC_obj hkd h4])) h1 k h2 (C.2.2.2.2.1 _ h6) (fun _ h9 => h9) ?_ hd (kk H locs ls hP hS hl)
  simp [List.getElem?_map, List.getElem?_range (show k < nsl ci by rw [h3]; exact h2), fv, ht, hv, h99]
theorem wp_getD (C : Cx G sd cc nL own ret) {idx ci k a : Nat} (hf : Fl own idx ci k) (ht : tg ci k = 3) (hvl : S.2.2 a k < sd.1) (ha : a < sd.1) (hkd : sd.2.1 a = ci) (hd : decode cc pc = .ok (.getfield idx, 3)) (kk : Wp G sd R nL Q S (pc + 3) lv (.ref (gA G (S.2.2 a k)) :: st)) : Wp G sd R nL Q S pc lv (.ref (gA G a) :: st) := fun H locs ls hP hS hl => by
  obtain ⟨q, h1, h2, h3, h4, h5, h6⟩ := hf
  have h99 : S.2.2 a k ≠ 999999 := by have := C.2.2.2.2.2.2.1.1; omega
  refine va_get (v := .ref (gA G (S.2.2 a k))) C.1 C.2.1 C.2.2.2.2.1 h5 C.2.2.2.1 C.2.2.2.2.2.1 hP a ((cells_get ha).trans (by rw [eC_obj hkd h4])) h1 k h2 (C.2.2.2.2.1 _ h6) (fun _ h9 => h9) ?_ hd (kk H locs ls hP hS hl)
  simp [List.getElem?_map, List.getElem?_range (show k < nsl ci by rw [h3]; exact h2), fv, ht, h99]
theorem wp_putI (C : Cx G sd cc nL own ret) {idx ci k a : Nat} {x : Int32} {S1 : St} (e : S1 = sI S a k x) (hf : Fl own idx ci k) (hp : Fp ci k .int) (ht : tg ci k = 0) (ha : a < sd.1) (hkd : sd.2.1 a = ci) (hd : decode cc pc = .ok (.putfield idx, 3)) (kk : Wp G sd R nL Q S1 (pc + 3) lv st) : Wp G sd R nL Q S pc lv (.int x :: .ref (gA G a) :: st) := fun H locs ls hP hS hl => by
  obtain ⟨q, h1, h2, h3, h4, h5, h6⟩ := hf
  obtain ⟨q', ty0, g1, g2, g3, g4, g5⟩ := hp
  cases h1.symm.trans g1
  subst e
  refine va_put (ty := .int) (v := .int x) C.1 C.2.1 C.2.2.2.2.1 h5 ty0 g2 g3 C.2.2.2.1 C.2.2.2.2.2.1 hP (cells_D C.2.2.2.2.2.2.1) hS a ((cells_get ha).trans (by rw [eC_obj hkd h4])) h1 k h2 (C.2.2.2.2.1 _ h6) (fun _ h9 => h9) g4 g5 rfl rfl (by simp; rw [h3]; exact h2) hd (fun H1 locs1 hP1 _ hS1 => ?_)
  rw [set_I ha hkd h4 (by rw [h3]; exact h2) ht] at hP1
  exact kk H1 locs1 ls hP1 hS1 hl
theorem wp_putZ (C : Cx G sd cc nL own ret) {idx ci k a : Nat} {x : Int32} {S1 : St} (hz : x = 0 ∨ x = 1) (e : S1 = sI S a k x) (hf : Fl own idx ci k) (hp : Fp ci k .boolean) (ht : tg ci k = 0) (ha : a < sd.1) (hkd : sd.2.1 a = ci) (hd : decode cc pc = .ok (.putfield idx, 3)) (kk : Wp G sd R nL Q S1 (pc + 3) lv st) : Wp G sd R nL Q S pc lv (.int x :: .ref (gA G a) :: st) := fun H locs ls hP hS hl => by
  obtain ⟨q, h1, h2, h3, h4, h5, h6⟩ := hf
  obtain ⟨q', ty0, g1, g2, g3, g4, g5⟩ := hp
  cases h1.symm.trans g1
  subst e
  refine va_put (ty := .boolean) (v := .int x) C.1 C.2.1 C.2.2.2.2.1 h5 ty0 g2 g3 C.2.2.2.1 C.2.2.2.2.2.1 hP (cells_D C.2.2.2.2.2.2.1) hS a ((cells_get ha).trans (by rw [eC_obj hkd h4])) h1 k h2 (C.2.2.2.2.1 _ h6) (fun _ h9 => h9) g4 g5 (by rcases hz with rfl | rfl <;> decide) (by rcases hz with rfl | rfl <;> decide) (by simp; rw [h3]; exact h2) hd (fun H1 locs1 hP1 _ hS1 => ?_)
  rw [set_I ha hkd h4 (by rw [h3]; exact h2) ht] at hP1
  exact kk H1 locs1 ls hP1 hS1 hl
theorem wp_putL (C : Cx G sd cc nL own ret) {idx ci k a : Nat} {x : Int64} {S1 : St} (e : S1 = sL S a k x) (hf : Fl own idx ci k) (hp : Fp ci k .long) (ht : tg ci k = 1) (ha : a < sd.1) (hkd : sd.2.1 a = ci) (hd : decode cc pc = .ok (.putfield idx, 3)) (kk : Wp G sd R nL Q S1 (pc + 3) lv st) : Wp G sd R nL Q S pc lv (.long x :: .ref (gA G a) :: st) := fun H locs ls hP hS hl => by
  obtain ⟨q, h1, h2, h3, h4, h5, h6⟩ := hf
  obtain ⟨q', ty0, g1, g2, g3, g4, g5⟩ := hp
  cases h1.symm.trans g1
  subst e
  refine va_put (ty := .long) (v := .long x) C.1 C.2.1 C.2.2.2.2.1 h5 ty0 g2 g3 C.2.2.2.1 C.2.2.2.2.2.1 hP (cells_D C.2.2.2.2.2.2.1) hS a ((cells_get ha).trans (by rw [eC_obj hkd h4])) h1 k h2 (C.2.2.2.2.1 _ h6) (fun _ h9 => h9) g4 g5 rfl rfl (by simp; rw [h3]; exact h2) hd (fun H1 locs1 hP1 _ hS1 => ?_)
  rw [set_L ha hkd h4 (by rw [h3]; exact h2) ht] at hP1
  exact kk H1 locs1 ls hP1 hS1 hl
theorem wp_putD (C : Cx G sd cc nL own ret) {E : String} {idx ci k a : Nat} {x : Nat} {S1 : St} (hxl : x < sd.1) (e : S1 = sR S a k x) (hf : Fl own idx ci k) (hp : Fp ci k (.object E)) (ht : tg ci k = 3) (ha : a < sd.1) (hkd : sd.2.1 a = ci) (hd : decode cc pc = .ok (.putfield idx, 3)) (kk : Wp G sd R nL Q S1 (pc + 3) lv st) : Wp G sd R nL Q S pc lv (.ref (gA G x) :: .ref (gA G a) :: st) := fun H locs ls hP hS hl => by
  obtain ⟨q, h1, h2, h3, h4, h5, h6⟩ := hf
  obtain ⟨q', ty0, g1, g2, g3, g4, g5⟩ := hp
  cases h1.symm.trans g1
  subst e
  refine va_put (ty := (.object E)) (v := .ref (gA G x)) C.1 C.2.1 C.2.2.2.2.1 h5 ty0 g2 g3 C.2.2.2.1 C.2.2.2.2.2.1 hP (cells_D C.2.2.2.2.2.2.1) hS a ((cells_get ha).trans (by rw [eC_obj hkd h4])) h1 k h2 (C.2.2.2.2.1 _ h6) (fun _ h9 => h9) g4 g5 rfl rfl (by simp; rw [h3]; exact h2) hd (fun H1 locs1 hP1 _ hS1 => ?_)
  rw [set_R (by have := C.2.2.2.2.2.2.1.1; omega) ha hkd h4 (by rw [h3]; exact h2) ht] at hP1
  exact kk H1 locs1 ls hP1 hS1 hl
theorem wp_iald (C : Cx G sd cc nL own ret) {a : Nat} {i : Int32} (ha : a < sd.1) (hkd : sd.2.1 a = 13) (hin : vp_in i (sd.2.2.1 a)) (hd : decode cc pc = .ok (.iaload, 1)) (kk : Wp G sd R nL Q S (pc + 1) lv (.int (S.1 a i.toNatClampNeg) :: st)) : Wp G sd R nL Q S pc lv (.int i :: .ref (gA G a) :: st) := fun H locs ls hP hS hl =>
  va_iald C.1 C.2.1 C.2.2.2.2.2.1 hP a 1 ((cells_get ha).trans (by rw [eC_int hkd (by decide)])) rfl hin hd (kk H locs ls hP hS hl)
theorem wp_bald (C : Cx G sd cc nL own ret) {a : Nat} {i : Int32} (ha : a < sd.1) (hkd : sd.2.1 a = 12) (hin : vp_in i (sd.2.2.1 a)) (hd : decode cc pc = .ok (.baload, 1)) (kk : Wp G sd R nL Q S (pc + 1) lv (.int (S.1 a i.toNatClampNeg) :: st)) : Wp G sd R nL Q S pc lv (.int i :: .ref (gA G a) :: st) := fun H locs ls hP hS hl =>
  va_bald C.1 C.2.1 C.2.2.2.2.2.1 hP a 0 ((cells_get ha).trans (by rw [eC_int hkd (by decide)])) rfl hin hd (kk H locs ls hP hS hl)
theorem wp_zald (C : Cx G sd cc nL own ret) {a : Nat} {i : Int32} (ha : a < sd.1) (hkd : sd.2.1 a = 15) (hin : vp_in i (sd.2.2.1 a)) (hd : decode cc pc = .ok (.baload, 1)) (kk : Wp G sd R nL Q S (pc + 1) lv (.int (S.1 a i.toNatClampNeg) :: st)) : Wp G sd R nL Q S pc lv (.int i :: .ref (gA G a) :: st) := fun H locs ls hP hS hl =>
  va_zald C.1 C.2.1 C.2.2.2.2.2.1 hP a 3 ((cells_get ha).trans (by rw [eC_int hkd (by decide)])) rfl hin hd (kk H locs ls hP hS hl)
theorem wp_lald (C : Cx G sd cc nL own ret) {a : Nat} {i : Int32} (ha : a < sd.1) (hkd : sd.2.1 a = 14) (hin : vp_in i (sd.2.2.1 a)) (hd : decode cc pc = .ok (.laload, 1)) (kk : Wp G sd R nL Q S (pc + 1) lv (.long (S.2.1 a i.toNatClampNeg) :: st)) : Wp G sd R nL Q S pc lv (.int i :: .ref (gA G a) :: st) := fun H locs ls hP hS hl =>
  va_lald C.1 C.2.1 C.2.2.2.2.2.1 hP a 2 ((cells_get ha).trans (by rw [eC_long hkd])) rfl hin hd (kk H locs ls hP hS hl)
theorem wp_iast (C : Cx G sd cc nL own ret) {a : Nat} {i x : Int32} {S1 : St} (e : S1 = sI S a i.toNatClampNeg (x)) (ha : a < sd.1) (hkd : sd.2.1 a = 13) (hin : vp_in i (sd.2.2.1 a)) (hd : decode cc pc = .ok (.iastore, 1)) (kk : Wp G sd R nL Q S1 (pc + 1) lv st) : Wp G sd R nL Q S pc lv (.int x :: .int i :: .ref (gA G a) :: st) := fun H locs ls hP hS hl => by
  subst e
  refine va_iast C.1 C.2.1 C.2.2.2.2.2.1 hP (cells_D C.2.2.2.2.2.2.1) hS a 1 ((cells_get ha).trans (by rw [eC_int hkd (by decide)])) rfl hin hd (fun H1 locs1 hP1 _ hS1 => ?_)
  rw [set_aI ha hkd (by decide)] at hP1
  exact kk H1 locs1 ls hP1 hS1 hl
theorem wp_bast (C : Cx G sd cc nL own ret) {a : Nat} {i x : Int32} {S1 : St} (e : S1 = sI S a i.toNatClampNeg (vp_nar .byte x)) (ha : a < sd.1) (hkd : sd.2.1 a = 12) (hin : vp_in i (sd.2.2.1 a)) (hd : decode cc pc = .ok (.bastore, 1)) (kk : Wp G sd R nL Q S1 (pc + 1) lv st) : Wp G sd R nL Q S pc lv (.int x :: .int i :: .ref (gA G a) :: st) := fun H locs ls hP hS hl => by
  subst e
  refine va_bast C.1 C.2.1 C.2.2.2.2.2.1 hP (cells_D C.2.2.2.2.2.2.1) hS a 0 ((cells_get ha).trans (by rw [eC_int hkd (by decide)])) rfl hin hd (fun H1 locs1 hP1 _ hS1 => ?_)
  rw [set_aI ha hkd (by decide)] at hP1
  exact kk H1 locs1 ls hP1 hS1 hl
theorem wp_zast (C : Cx G sd cc nL own ret) {a : Nat} {i x : Int32} {S1 : St} (e : S1 = sI S a i.toNatClampNeg (vp_nar .boolean x)) (ha : a < sd.1) (hkd : sd.2.1 a = 15) (hin : vp_in i (sd.2.2.1 a)) (hd : decode cc pc = .ok (.bastore, 1)) (kk : Wp G sd R nL Q S1 (pc + 1) lv st) : Wp G sd R nL Q S pc lv (.int x :: .int i :: .ref (gA G a) :: st) := fun H locs ls hP hS hl => by
  subst e
  refine va_zast C.1 C.2.1 C.2.2.2.2.2.1 hP (cells_D C.2.2.2.2.2.2.1) hS a 3 ((cells_get ha).trans (by rw [eC_int hkd (by decide)])) rfl hin hd (fun H1 locs1 hP1 _ hS1 => ?_)
  rw [set_aI ha hkd (by decide)] at hP1
  exact kk H1 locs1 ls hP1 hS1 hl
theorem wp_last (C : Cx G sd cc nL own ret) {a : Nat} {i : Int32} {x : Int64} {S1 : St} (e : S1 = sL S a i.toNatClampNeg x) (ha : a < sd.1) (hkd : sd.2.1 a = 14) (hin : vp_in i (sd.2.2.1 a)) (hd : decode cc pc = .ok (.lastore, 1)) (kk : Wp G sd R nL Q S1 (pc + 1) lv st) : Wp G sd R nL Q S pc lv (.long x :: .int i :: .ref (gA G a) :: st) := fun H locs ls hP hS hl => by
  subst e
  refine va_last C.1 C.2.1 C.2.2.2.2.2.1 hP (cells_D C.2.2.2.2.2.2.1) hS a 2 ((cells_get ha).trans (by rw [eC_long hkd])) rfl hin hd (fun H1 locs1 hP1 _ hS1 => ?_)
  rw [set_aL ha hkd] at hP1
  exact kk H1 locs1 ls hP1 hS1 hl
theorem wp_aald (C : Cx G sd cc nL own ret) {a ci t0 : Nat} {i : Int32} {ty : FieldType} (ha : a < sd.1) (hkd : sd.2.1 a = ci) (hc : 16 ≤ ci) (ht0 : (tysOf (gY G))[t0]? = some (gY G ci, ty)) (hty : ty.isReference = true) (hin : vp_in i (sd.2.2.1 a)) (hvl : sd.2.2.2 a i.toNatClampNeg < sd.1) (hd : decode cc pc = .ok (.aaload, 1)) (kk : Wp G sd R nL Q S (pc + 1) lv (.ref (gA G (sd.2.2.2 a i.toNatClampNeg)) :: st)) : Wp G sd R nL Q S pc lv (.int i :: .ref (gA G a) :: st) := fun H locs ls hP hS hl => by
  have hlt : i.toNatClampNeg < sd.2.2.1 a := Nat.not_le.mp fun q => hin (Or.inr q)
  have hcell := hP a _ ((cells_get ha).trans (by rw [eC_ref hkd hc]))
  refine W.aald (v := .ref (gA G (sd.2.2.2 a i.toNatClampNeg))) C.1 C.2.1 hcell ((C.2.2.2.2.2.1.2 t0 _ ht0).1 _ _) hty (fun q => by cases q) ?_ ?_ rfl rfl hd (kk H locs ls hP hS hl)
  · show ¬ (i < 0 ∨ (arrV _ _ _).slots.size ≤ _)
    rw [arrV_size]
    exact hin
  · have h99 : sd.2.2.2 a i.toNatClampNeg ≠ 999999 := by have := C.2.2.2.2.2.2.1.1; omega
    refine (arrV_read _ _ hlt).trans ?_
    simp [h99, va_rf]
theorem wp_alen (C : Cx G sd cc nL own ret) {a ci t0 : Nat} {ty : FieldType} {v : Int32} (ha : a < sd.1) (hkd : sd.2.1 a = ci) (hc : 12 ≤ ci) (ht0 : (tysOf (gY G))[t0]? = some (gY G ci, ty)) (hv : Int32.ofNat (sd.2.2.1 a) = v) (hd : decode cc pc = .ok (.arraylength, 1)) (kk : Wp G sd R nL Q S (pc + 1) lv (.int v :: st)) : Wp G sd R nL Q S pc lv (.ref (gA G a) :: st) := fun H locs ls hP hS hl => by
  have h0 : ¬ sd.2.1 a < 12 := by omega
  have hx : ∃ x : vp_A, x.1 = sd.2.2.1 a ∧ eC sd (gY G) (gA G) S a = .inl (gY G ci, x) := by
    subst hkd
    unfold eC
    rw [if_neg h0]
    by_cases h1 : sd.2.1 a = 14
    · rw [if_pos h1, h1]; exact ⟨_, rfl, rfl⟩
    · rw [if_neg h1]
      by_cases h2 : 16 ≤ sd.2.1 a
      · rw [if_pos h2]; exact ⟨_, rfl, rfl⟩
      · rw [if_neg h2]; exact ⟨_, rfl, rfl⟩
  obtain ⟨x, e1, e2⟩ := hx
  exact va_alen C.1 C.2.1 C.2.2.2.2.2.1 hP a t0 ((cells_get ha).trans (by rw [e2])) ht0 (by rw [e1]; exact hv) hd (kk H locs ls hP hS hl)
theorem wp_copyI (C : Cx G sd cc nL own ret) {idx a b : Nat} {sp dp n : Int32} {S1 : St} (e : S1 = cI S a b sp.toNatClampNeg dp.toNatClampNeg n.toNatClampNeg) (hlk : Cond.methodLink own idx arraycopyName ∈ lw_g) (hnat : Cond.native arraycopyName ∈ lw_g) (hsta : Cond.static arraycopyName ∈ lw_g) (hini : Cond.initialized "java/lang/System" ∈ lw_g) (ha : a < sd.1) (hk1 : sd.2.1 a = 13) (hb : b < sd.1) (hk2 : sd.2.1 b = 13) (h1 : ¬ sp < 0) (h2 : ¬ dp < 0) (h3 : ¬ n < 0) (h4 : sp.toNatClampNeg + n.toNatClampNeg ≤ sd.2.2.1 a) (h5 : dp.toNatClampNeg + n.toNatClampNeg ≤ sd.2.2.1 b) (hfr : 1 ≤ R.frames) (hlo : (st.map fun v => v.category).sum + (nativeFrameWords "java/lang/System" "arraycopy" 5 + 11) ≤ R.locals) (hd : decode cc pc = .ok (.invokestatic idx, 3)) (kk : Wp G sd R nL Q S1 (pc + 3) lv st) : Wp G sd R nL Q S pc lv (.int n :: .int dp :: .ref (gA G b) :: .int sp :: .ref (gA G a) :: st) := fun H locs ls hP hS hl => by
  subst e
  refine va_copyi C.1 C.2.1 (C.2.2.1.trans hl.1.symm) C.2.2.2.1 (C.2.2.2.2.1 _ hlk) (C.2.2.2.2.1 _ hnat) (C.2.2.2.2.1 _ hsta) (C.2.2.2.2.1 _ hini) C.2.2.2.2.2.1 hP (cells_D C.2.2.2.2.2.2.1) hS a b 1 1 ((cells_get ha).trans (by rw [eC_int hk1 (by decide)])) ((cells_get hb).trans (by rw [eC_int hk2 (by decide)])) rfl rfl rfl h1 h2 h3 h4 h5 (fun _ _ => rfl) hfr hlo hd (fun H1 locs1 hP1 _ hS1 => ?_)
  rw [set_aI hb hk2 (by decide)] at hP1
  exact kk H1 locs1 ls hP1 hS1 hl
theorem wp_copyL (C : Cx G sd cc nL own ret) {idx a b : Nat} {sp dp n : Int32} {S1 : St} (e : S1 = cL S a b sp.toNatClampNeg dp.toNatClampNeg n.toNatClampNeg) (hlk : Cond.methodLink own idx arraycopyName ∈ lw_g) (hnat : Cond.native arraycopyName ∈ lw_g) (hsta : Cond.static arraycopyName ∈ lw_g) (hini : Cond.initialized "java/lang/System" ∈ lw_g) (ha : a < sd.1) (hk1 : sd.2.1 a = 14) (hb : b < sd.1) (hk2 : sd.2.1 b = 14) (h1 : ¬ sp < 0) (h2 : ¬ dp < 0) (h3 : ¬ n < 0) (h4 : sp.toNatClampNeg + n.toNatClampNeg ≤ sd.2.2.1 a) (h5 : dp.toNatClampNeg + n.toNatClampNeg ≤ sd.2.2.1 b) (hfr : 1 ≤ R.frames) (hlo : (st.map fun v => v.category).sum + (nativeFrameWords "java/lang/System" "arraycopy" 5 + 11) ≤ R.locals) (hd : decode cc pc = .ok (.invokestatic idx, 3)) (kk : Wp G sd R nL Q S1 (pc + 3) lv st) : Wp G sd R nL Q S pc lv (.int n :: .int dp :: .ref (gA G b) :: .int sp :: .ref (gA G a) :: st) := fun H locs ls hP hS hl => by
  subst e
  refine va_copyl C.1 C.2.1 (C.2.2.1.trans hl.1.symm) C.2.2.2.1 (C.2.2.2.2.1 _ hlk) (C.2.2.2.2.1 _ hnat) (C.2.2.2.2.1 _ hsta) (C.2.2.2.2.1 _ hini) C.2.2.2.2.2.1 hP (cells_D C.2.2.2.2.2.2.1) hS a b 2 2 ((cells_get ha).trans (by rw [eC_long hk1])) ((cells_get hb).trans (by rw [eC_long hk2])) rfl rfl rfl h1 h2 h3 h4 h5 (fun _ _ => rfl) hfr hlo hd (fun H1 locs1 hP1 _ hS1 => ?_)
  rw [set_aL hb hk2] at hP1
  exact kk H1 locs1 ls hP1 hS1 hl
theorem wp_maxI0 (C : Cx G sd cc nL own ret) {idx : Nat} {x y : Int32} (hlk : Cond.methodLink own idx Lib.Math.max.name ∈ lw_g) (hs : Cond.static Lib.Math.max.name ∈ lw_g) (hi : Cond.initialized "java/lang/Math" ∈ lw_g) (hc : Cond.code Lib.Math.max.name Lib.Math.max.code 2 (some .int) ∈ lw_g) (hfr : 1 ≤ R.frames) (hlo : (st.map fun v => v.category).sum + 15 ≤ R.locals) (hd : decode cc pc = .ok (.invokestatic idx, 3)) (k : Wp G sd R nL Q S (pc + 3) lv (.int (if x < y then y else x) :: st)) : Wp G sd R nL Q S pc lv (.int y :: .int x :: st) := fun H locs ls hP hS hl => va_mmax C.1 C.2.1 (C.2.2.1.trans hl.1.symm) C.2.2.2.1 (C.2.2.2.2.1 _ hlk) (C.2.2.2.2.1 _ hs) (C.2.2.2.2.1 _ hi) (C.2.2.2.2.1 _ hc) hfr (by omega) (Nat.zero_le _) (Nat.zero_le _) hd (k H locs ls hP hS hl)
theorem wp_minI0 (C : Cx G sd cc nL own ret) {idx : Nat} {x y : Int32} (hlk : Cond.methodLink own idx Lib.Math.min.name ∈ lw_g) (hs : Cond.static Lib.Math.min.name ∈ lw_g) (hi : Cond.initialized "java/lang/Math" ∈ lw_g) (hc : Cond.code Lib.Math.min.name Lib.Math.min.code 2 (some .int) ∈ lw_g) (hfr : 1 ≤ R.frames) (hlo : (st.map fun v => v.category).sum + 15 ≤ R.locals) (hd : decode cc pc = .ok (.invokestatic idx, 3)) (k : Wp G sd R nL Q S (pc + 3) lv (.int (if y < x then y else x) :: st)) : Wp G sd R nL Q S pc lv (.int y :: .int x :: st) := fun H locs ls hP hS hl => va_mmin C.1 C.2.1 (C.2.2.1.trans hl.1.symm) C.2.2.2.1 (C.2.2.2.2.1 _ hlk) (C.2.2.2.2.1 _ hs) (C.2.2.2.2.1 _ hi) (C.2.2.2.2.1 _ hc) hfr (by omega) (Nat.zero_le _) (Nat.zero_le _) hd (k H locs ls hP hS hl)
theorem wp_maxL0 (C : Cx G sd cc nL own ret) {idx : Nat} {x y : Int64} (hlk : Cond.methodLink own idx Lib.MathLoose.max_long.x ∈ lw_g) (hs : Cond.static Lib.MathLoose.max_long.x ∈ lw_g) (hi : Cond.initialized "java/lang/Math" ∈ lw_g) (hc : Cond.code Lib.MathLoose.max_long.x Lib.MathLoose.max_long.code 4 (some .long) ∈ lw_g) (hfr : 1 ≤ R.frames) (hlo : (st.map fun v => v.category).sum + 15 ≤ R.locals) (hd : decode cc pc = .ok (.invokestatic idx, 3)) (k : Wp G sd R nL Q S (pc + 3) lv (.long (if y < x then x else y) :: st)) : Wp G sd R nL Q S pc lv (.long y :: .long x :: st) := fun H locs ls hP hS hl => va_mmax_long C.1 C.2.1 (C.2.2.1.trans hl.1.symm) C.2.2.2.1 (C.2.2.2.2.1 _ hlk) (C.2.2.2.2.1 _ hs) (C.2.2.2.2.1 _ hi) (C.2.2.2.2.1 _ hc) hfr (by omega) (Nat.zero_le _) (Nat.zero_le _) hd (k H locs ls hP hS hl)
theorem wp_absL0 (C : Cx G sd cc nL own ret) {idx : Nat} {x : Int64} (hlk : Cond.methodLink own idx Lib.MathLoose.abs_long.x ∈ lw_g) (hs : Cond.static Lib.MathLoose.abs_long.x ∈ lw_g) (hi : Cond.initialized "java/lang/Math" ∈ lw_g) (hc : Cond.code Lib.MathLoose.abs_long.x Lib.MathLoose.abs_long.code 2 (some .long) ∈ lw_g) (hfr : 1 ≤ R.frames) (hlo : (st.map fun v => v.category).sum + 15 ≤ R.locals) (hd : decode cc pc = .ok (.invokestatic idx, 3)) (k : Wp G sd R nL Q S (pc + 3) lv (.long (if 0 < x then x else -x) :: st)) : Wp G sd R nL Q S pc lv (.long x :: st) := fun H locs ls hP hS hl => va_mabs_long C.1 C.2.1 (C.2.2.1.trans hl.1.symm) C.2.2.2.1 (C.2.2.2.2.1 _ hlk) (C.2.2.2.2.1 _ hs) (C.2.2.2.2.1 _ hi) (C.2.2.2.2.1 _ hc) hfr (by omega) (Nat.zero_le _) (Nat.zero_le _) hd (k H locs ls hP hS hl)
theorem wp_iret (C : Cx G sd cc nL own ret) {v : Int32} {fr lo : Nat} (hr : ret = some .int) (hd : decode cc pc = .ok (.ireturn, 1)) : Wp G sd (rmOf fr lo) nL (Qm G sd (some (.int v)) S) S pc lv [.int v] := fun H locs ls hP hS hl =>
  W.iret (Qc := Qo sd (gY G) (gA G) (gD G) (some (.int v)) S) C.1 C.2.1 (C.2.2.2.2.2.2.2.2.trans hr) (fun t ht hW => ⟨rfl, by rw [ht]; exact hP, hS.F ht⟩) hS.2.2 hd C.2.2.2.2.2.2.2.1
theorem wp_zret (C : Cx G sd cc nL own ret) {v : Int32} {fr lo : Nat} (hz : v = 0 ∨ v = 1) (hr : ret = some .boolean) (hd : decode cc pc = .ok (.ireturn, 1)) : Wp G sd (rmOf fr lo) nL (Qm G sd (some (.int v)) S) S pc lv [.int v] := fun H locs ls hP hS hl =>
  W.zret (Qc := Qo sd (gY G) (gA G) (gD G) (some (.int v)) S) C.1 C.2.1 (C.2.2.2.2.2.2.2.2.trans hr) (by rcases hz with rfl | rfl <;> rfl) (fun t ht hW => ⟨rfl, by rw [ht]; exact hP, hS.F ht⟩) hS.2.2 hd C.2.2.2.2.2.2.2.1
theorem wp_lret (C : Cx G sd cc nL own ret) {v : Int64} {fr lo : Nat} (hr : ret = some .long) (hd : decode cc pc = .ok (.lreturn, 1)) : Wp G sd (rmOf fr lo) nL (Qm G sd (some (.long v)) S) S pc lv [.long v] := fun H locs ls hP hS hl =>
  W.lret (Qc := Qo sd (gY G) (gA G) (gD G) (some (.long v)) S) C.1 C.2.1 (C.2.2.2.2.2.2.2.2.trans hr) (fun t ht hW => ⟨rfl, by rw [ht]; exact hP, hS.F ht⟩) hS.2.2 hd C.2.2.2.2.2.2.2.1
theorem wp_vret (C : Cx G sd cc nL own ret) {fr lo : Nat} (hr : ret = none) (hd : decode cc pc = .ok (.return_, 1)) : Wp G sd (rmOf fr lo) nL (Qm G sd none S) S pc lv [] := fun H locs ls hP hS hl =>
  W.vret (Qc := Qo sd (gY G) (gA G) (gD G) none S) C.1 C.2.1 (C.2.2.2.2.2.2.2.2.trans hr) (fun t ht hW => ⟨rfl, by rw [ht]; exact hP, hS.F ht⟩) hS.2.2 hd C.2.2.2.2.2.2.2.1
theorem wp_aret (C : Cx G sd cc nL own ret) {v : Value} {fr lo : Nat} {ty : FieldType} (hr : ret = some (.array ty)) (hv : v = .null ∨ ∃ a, v = .ref a) (hd : decode cc pc = .ok (.areturn, 1)) : Wp G sd (rmOf fr lo) nL (Qm G sd (some v) S) S pc lv [v] := fun H locs ls hP hS hl =>
  W.aret (Qc := Qo sd (gY G) (gA G) (gD G) (some v) S) C.1 C.2.1 (C.2.2.2.2.2.2.2.2.trans hr) (Or.inr ⟨_, rfl⟩) hv (fun t ht hW => ⟨rfl, by rw [ht]; exact hP, hS.F ht⟩) hS.2.2 hd C.2.2.2.2.2.2.2.1

theorem Pre_blind {sd : Sd} {cy : Nat → ClassId} {ad : Nat → Nat} {D : va_G} {S : St} {av : List Value} : FrameBlind (va_Pc av (Pre sd cy ad D S)) := fun a U g mk q => by
  obtain ⟨q0, q1, q2, q3⟩ := q
  exact ⟨q0, q1, q2, va_K.moved (u := U) (U := U.calling g mk a) (Vm.Alike.refl U.vm) q3⟩
theorem run_go {p : Program} {l : Launch} {e : Env} {R : Room} {s : State} {m : MethodId} {args : Array Value} {below : List Frame} {meth : Method} {c : Code} {H : Heap} {locs : List Loc} {ls : Array Slot} {pc : Nat} {st0 rest : List Value} {Q : State → Prop} {sd : Sd} {cy : Nat → ClassId} {ad : Nat → Nat} {D : va_G} {v : Option Value} {S' : St} {a : Array Value}
    (hr : va_Run p l e R s m args below meth c H locs 0 0 0 0 (F0 m pc ls st0) rest (Qo sd cy ad D v S' a) (Aof sd ad)) (hS : va_S (Aof sd ad) s.heap H locs)
    (kk : ∀ (H1 : Heap) (locs1 : List Loc), va_P D vwCl (cells sd cy ad S') H1 → va_S (Aof sd ad) s.heap H1 locs1 → W p l e R s m args below meth c H1 locs1 0 0 Q (F0 m (pc + 3) ls (v.toList ++ rest))) : W p l e R s m args below meth c H locs 0 0 Q (F0 m pc ls st0) := by
  intro T hT X
  obtain ⟨w, st₀, t, T', L, h0, X', hL, e1, e2, ⟨hv, hP, hz, hk⟩, st⟩ := hr T hT X
  cases hv
  rw [h0] at hz hk
  obtain ⟨t2, a1, b1⟩ := kk T'.heap (locs ++ L) (by rw [e1]; exact hP)
    ⟨Nat.le_trans hS.1 (by rw [e1]; exact hz), fun q h1 h2 => by rw [e1, hk q (Nat.lt_of_lt_of_le h1 hS.1) h2]; exact hS.2.1 q h1 h2, fun q hq => by
      rcases List.mem_append.mp hq with h | h
      · exact hS.2.2 q h
      · exact hL q h⟩ T' rfl X'
  exact ⟨t2, st t2 a1, b1⟩
theorem callB_g {R : Room} {s : State} {args : Array Value} {own : String} {index : Nat} {y : MethodName} {bytes : ByteArray} {maxL n fr lo : Nat} {ret : Option FieldType} (hts : ∀ w ∈ lw_g, w.before args s = true) (hm : Mok y bytes maxL ret n) (hlk : Cond.methodLink own index y ∈ lw_g) (hR : fr + 1 ≤ R.frames ∧ 8 + (maxL + 11) + lo ≤ R.locals) : CallB R s args own index y bytes maxL ret (Cond.code y bytes maxL ret :: lw_g) (rmOf fr lo) 0 0 n := by
  obtain ⟨h1, h2, h3, h4, h5⟩ := hm
  refine ⟨rfl, rfl, hR.1, hR.2, ?_, List.mem_cons_self, hts _ h1, hts _ h2, h3, ?_, hts _ hlk⟩
  · intro w hw a' U hW
    have hg : w ∈ lw_g := by
      rcases List.mem_cons.mp hw with rfl | h
      · exact h1
      · exact h
    exact word_at hW (lw_g_good hg) (hts _ hg)
  · intro sig hs
    rw [hs] at h5
    exact (Option.some.inj h5).symm

theorem wp_callV (C : Cx G sd cc nL own ret) {y : MethodName} {cc' : ByteArray} {nL' n fr lo idx b ci : Nat} {ret' : Option FieldType} {As : List Value} {v : Option Value} {S' : St} {st0 : List Value} {q : vw_C} (hct : Ct (gL G) sd (gY G) (gA G) (gD G) y cc' nL' ret' fr lo (.ref (gA G b) :: As) S v S') (hm : Mok y cc' nL' ret' n) (hi : Iok y) (hlk : Cond.methodLink own idx y ∈ lw_g) (ha : b < sd.1) (hkd : sd.2.1 b = ci) (hci : ci < 12) (hq : vwCl[ci]? = some q) (hqc : q.1 = y.cls) (hn : As.length = n) (hst : st0 = As.reverse ++ .ref (gA G b) :: st) (hcat : (st.map fun v => v.category).sum ≤ 8) (hR : fr + 1 ≤ R.frames ∧ 8 + (nL' + 11) + lo ≤ R.locals) (hd : decode cc pc = .ok (.invokevirtual idx, 3)) (kk : Wp G sd R nL Q S' (pc + 3) lv (v.toList ++ st)) : Wp G sd R nL Q S pc lv st0 := fun H locs ls hP hS hl => by
  have hrv := va_recv C.2.2.2.2.2.1 hP hq ((cells_get ha).trans (by rw [eC_obj hkd hci]))
  rw [hqc] at hrv
  refine run_go (va_runV (As := As) (rest := st) ⟨C.1, C.2.1, C.2.2.1, C.2.2.2.1, C.2.2.2.2.1⟩ hct ⟨callB_g C.2.2.2.2.1 hm hlk hR, C.2.2.2.2.1 _ hi.1, C.2.2.2.2.1 _ hi.2⟩ ⟨Pre_blind, hrv, fun U hU hW => ⟨rfl, C.2.2.2.2.2.2.1, by rw [hU]; exact hP, va_K.moved hW.alike C.2.2.2.2.2.1⟩⟩ rfl hn hl.1 hst (lv_room (m := gM G) (pc := pc) (ls := ls) (rest := st0) hcat) hd ⟨Nat.zero_le _, Nat.zero_le _⟩) hS (fun H1 locs1 hP1 hS1 => kk H1 locs1 ls hP1 hS1 hl)
theorem wp_callS (C : Cx G sd cc nL own ret) {y : MethodName} {cc' : ByteArray} {nL' n fr lo idx : Nat} {ret' : Option FieldType} {As : List Value} {v : Option Value} {S' : St} {st0 : List Value} (hct : Ct (gL G) sd (gY G) (gA G) (gD G) y cc' nL' ret' fr lo As S v S') (hm : Mok y cc' nL' ret' n) (hs : Cond.static y ∈ lw_g) (hlk : Cond.methodLink own idx y ∈ lw_g) (hn : As.length = n) (hst : st0 = As.reverse ++ st) (hcat : (st.map fun v => v.category).sum ≤ 8) (hR : fr + 1 ≤ R.frames ∧ 8 + (nL' + 11) + lo ≤ R.locals) (hd : decode cc pc = .ok (.invokestatic idx, 3)) (kk : Wp G sd R nL Q S' (pc + 3) lv (v.toList ++ st)) : Wp G sd R nL Q S pc lv st0 := fun H locs ls hP hS hl => by
  refine run_go (va_runS (As := As) (rest := st) ⟨C.1, C.2.1, C.2.2.1, C.2.2.2.1, C.2.2.2.2.1⟩ hct ⟨callB_g C.2.2.2.2.1 hm hlk hR, C.2.2.2.2.1 _ hs⟩ ⟨Pre_blind, fun U hU hW => ⟨rfl, C.2.2.2.2.2.2.1, by rw [hU]; exact hP, va_K.moved hW.alike C.2.2.2.2.2.1⟩⟩ rfl hn hl.1 hst (lv_room (m := gM G) (pc := pc) (ls := ls) (rest := st0) hcat) hd ⟨Nat.zero_le _, Nat.zero_le _⟩) hS (fun H1 locs1 hP1 hS1 => kk H1 locs1 ls hP1 hS1 hl)

def rvv (ad : Nat → Nat) (r : Option Nat) : Value := match r with
  | none => .null
  | some a => .ref (ad a)

theorem wp_callVi (C : Cx G sd cc nL own ret) {y : MethodName} {cc' : ByteArray} {n fr lo idx b ci nL' : Nat} {ret' : Option FieldType} {As : List Value} {r : Int32} {S' : St} {st0 : List Value} {q : vw_C} (hct : Ct (gL G) sd (gY G) (gA G) (gD G) y cc' nL' ret' fr lo (.ref (gA G b) :: As) S (some (.int r)) S') (hm : Mok y cc' nL' ret' n) (hi : Iok y) (hlk : Cond.methodLink own idx y ∈ lw_g) (ha : b < sd.1) (hkd : sd.2.1 b = ci) (hci : ci < 12) (hq : vwCl[ci]? = some q) (hqc : q.1 = y.cls) (hn : As.length = n) (hst : st0 = As.reverse ++ .ref (gA G b) :: st) (hcat : (st.map fun v => v.category).sum ≤ 8) (hR : fr + 1 ≤ R.frames ∧ 8 + (nL' + 11) + lo ≤ R.locals) (hd : decode cc pc = .ok (.invokevirtual idx, 3)) (kk : Wp G sd R nL Q S' (pc + 3) lv (.int r :: st)) : Wp G sd R nL Q S pc lv st0 := wp_callV C hct hm hi hlk ha hkd hci hq hqc hn hst hcat hR hd kk
theorem wp_callVl (C : Cx G sd cc nL own ret) {y : MethodName} {cc' : ByteArray} {n fr lo idx b ci nL' : Nat} {ret' : Option FieldType} {As : List Value} {r : Int64} {S' : St} {st0 : List Value} {q : vw_C} (hct : Ct (gL G) sd (gY G) (gA G) (gD G) y cc' nL' ret' fr lo (.ref (gA G b) :: As) S (some (.long r)) S') (hm : Mok y cc' nL' ret' n) (hi : Iok y) (hlk : Cond.methodLink own idx y ∈ lw_g) (ha : b < sd.1) (hkd : sd.2.1 b = ci) (hci : ci < 12) (hq : vwCl[ci]? = some q) (hqc : q.1 = y.cls) (hn : As.length = n) (hst : st0 = As.reverse ++ .ref (gA G b) :: st) (hcat : (st.map fun v => v.category).sum ≤ 8) (hR : fr + 1 ≤ R.frames ∧ 8 + (nL' + 11) + lo ≤ R.locals) (hd : decode cc pc = .ok (.invokevirtual idx, 3)) (kk : Wp G sd R nL Q S' (pc + 3) lv (.long r :: st)) : Wp G sd R nL Q S pc lv st0 := wp_callV C hct hm hi hlk ha hkd hci hq hqc hn hst hcat hR hd kk
theorem wp_callVv (C : Cx G sd cc nL own ret) {y : MethodName} {cc' : ByteArray} {n fr lo idx b ci nL' : Nat} {ret' : Option FieldType} {As : List Value} {S' : St} {st0 : List Value} {q : vw_C} (hct : Ct (gL G) sd (gY G) (gA G) (gD G) y cc' nL' ret' fr lo (.ref (gA G b) :: As) S none S') (hm : Mok y cc' nL' ret' n) (hi : Iok y) (hlk : Cond.methodLink own idx y ∈ lw_g) (ha : b < sd.1) (hkd : sd.2.1 b = ci) (hci : ci < 12) (hq : vwCl[ci]? = some q) (hqc : q.1 = y.cls) (hn : As.length = n) (hst : st0 = As.reverse ++ .ref (gA G b) :: st) (hcat : (st.map fun v => v.category).sum ≤ 8) (hR : fr + 1 ≤ R.frames ∧ 8 + (nL' + 11) + lo ≤ R.locals) (hd : decode cc pc = .ok (.invokevirtual idx, 3)) (kk : Wp G sd R nL Q S' (pc + 3) lv (st)) : Wp G sd R nL Q S pc lv st0 := wp_callV C hct hm hi hlk ha hkd hci hq hqc hn hst hcat hR hd kk
theorem wp_callVrN (C : Cx G sd cc nL own ret) {y : MethodName} {cc' : ByteArray} {n fr lo idx b ci nL' : Nat} {ret' : Option FieldType} {As : List Value} {S' : St} {st0 : List Value} {q : vw_C} (hct : Ct (gL G) sd (gY G) (gA G) (gD G) y cc' nL' ret' fr lo (.ref (gA G b) :: As) S (some (rvv (gA G) none)) S') (hm : Mok y cc' nL' ret' n) (hi : Iok y) (hlk : Cond.methodLink own idx y ∈ lw_g) (ha : b < sd.1) (hkd : sd.2.1 b = ci) (hci : ci < 12) (hq : vwCl[ci]? = some q) (hqc : q.1 = y.cls) (hn : As.length = n) (hst : st0 = As.reverse ++ .ref (gA G b) :: st) (hcat : (st.map fun v => v.category).sum ≤ 8) (hR : fr + 1 ≤ R.frames ∧ 8 + (nL' + 11) + lo ≤ R.locals) (hd : decode cc pc = .ok (.invokevirtual idx, 3)) (kk : Wp G sd R nL Q S' (pc + 3) lv (.null :: st)) : Wp G sd R nL Q S pc lv st0 := wp_callV C hct hm hi hlk ha hkd hci hq hqc hn hst hcat hR hd kk
theorem wp_callVrR (C : Cx G sd cc nL own ret) {y : MethodName} {cc' : ByteArray} {n fr lo idx b ci nL' : Nat} {ret' : Option FieldType} {As : List Value} {r : Nat} {S' : St} {st0 : List Value} {q : vw_C} (hct : Ct (gL G) sd (gY G) (gA G) (gD G) y cc' nL' ret' fr lo (.ref (gA G b) :: As) S (some (rvv (gA G) (some r))) S') (hm : Mok y cc' nL' ret' n) (hi : Iok y) (hlk : Cond.methodLink own idx y ∈ lw_g) (ha : b < sd.1) (hkd : sd.2.1 b = ci) (hci : ci < 12) (hq : vwCl[ci]? = some q) (hqc : q.1 = y.cls) (hn : As.length = n) (hst : st0 = As.reverse ++ .ref (gA G b) :: st) (hcat : (st.map fun v => v.category).sum ≤ 8) (hR : fr + 1 ≤ R.frames ∧ 8 + (nL' + 11) + lo ≤ R.locals) (hd : decode cc pc = .ok (.invokevirtual idx, 3)) (kk : Wp G sd R nL Q S' (pc + 3) lv (.ref (gA G r) :: st)) : Wp G sd R nL Q S pc lv st0 := wp_callV C hct hm hi hlk ha hkd hci hq hqc hn hst hcat hR hd kk
theorem wp_callSi (C : Cx G sd cc nL own ret) {y : MethodName} {cc' : ByteArray} {n fr lo idx nL' : Nat} {ret' : Option FieldType} {As : List Value} {r : Int32} {S' : St} {st0 : List Value} (hct : Ct (gL G) sd (gY G) (gA G) (gD G) y cc' nL' ret' fr lo (As) S (some (.int r)) S') (hm : Mok y cc' nL' ret' n) (hs : Cond.static y ∈ lw_g) (hlk : Cond.methodLink own idx y ∈ lw_g) (hn : As.length = n) (hst : st0 = As.reverse ++ st) (hcat : (st.map fun v => v.category).sum ≤ 8) (hR : fr + 1 ≤ R.frames ∧ 8 + (nL' + 11) + lo ≤ R.locals) (hd : decode cc pc = .ok (.invokestatic idx, 3)) (kk : Wp G sd R nL Q S' (pc + 3) lv (.int r :: st)) : Wp G sd R nL Q S pc lv st0 := wp_callS C hct hm hs hlk hn hst hcat hR hd kk
theorem wp_callSl (C : Cx G sd cc nL own ret) {y : MethodName} {cc' : ByteArray} {n fr lo idx nL' : Nat} {ret' : Option FieldType} {As : List Value} {r : Int64} {S' : St} {st0 : List Value} (hct : Ct (gL G) sd (gY G) (gA G) (gD G) y cc' nL' ret' fr lo (As) S (some (.long r)) S') (hm : Mok y cc' nL' ret' n) (hs : Cond.static y ∈ lw_g) (hlk : Cond.methodLink own idx y ∈ lw_g) (hn : As.length = n) (hst : st0 = As.reverse ++ st) (hcat : (st.map fun v => v.category).sum ≤ 8) (hR : fr + 1 ≤ R.frames ∧ 8 + (nL' + 11) + lo ≤ R.locals) (hd : decode cc pc = .ok (.invokestatic idx, 3)) (kk : Wp G sd R nL Q S' (pc + 3) lv (.long r :: st)) : Wp G sd R nL Q S pc lv st0 := wp_callS C hct hm hs hlk hn hst hcat hR hd kk
theorem wp_callSv (C : Cx G sd cc nL own ret) {y : MethodName} {cc' : ByteArray} {n fr lo idx nL' : Nat} {ret' : Option FieldType} {As : List Value} {S' : St} {st0 : List Value} (hct : Ct (gL G) sd (gY G) (gA G) (gD G) y cc' nL' ret' fr lo (As) S none S') (hm : Mok y cc' nL' ret' n) (hs : Cond.static y ∈ lw_g) (hlk : Cond.methodLink own idx y ∈ lw_g) (hn : As.length = n) (hst : st0 = As.reverse ++ st) (hcat : (st.map fun v => v.category).sum ≤ 8) (hR : fr + 1 ≤ R.frames ∧ 8 + (nL' + 11) + lo ≤ R.locals) (hd : decode cc pc = .ok (.invokestatic idx, 3)) (kk : Wp G sd R nL Q S' (pc + 3) lv (st)) : Wp G sd R nL Q S pc lv st0 := wp_callS C hct hm hs hlk hn hst hcat hR hd kk
theorem wp_callSrN (C : Cx G sd cc nL own ret) {y : MethodName} {cc' : ByteArray} {n fr lo idx nL' : Nat} {ret' : Option FieldType} {As : List Value} {S' : St} {st0 : List Value} (hct : Ct (gL G) sd (gY G) (gA G) (gD G) y cc' nL' ret' fr lo (As) S (some (rvv (gA G) none)) S') (hm : Mok y cc' nL' ret' n) (hs : Cond.static y ∈ lw_g) (hlk : Cond.methodLink own idx y ∈ lw_g) (hn : As.length = n) (hst : st0 = As.reverse ++ st) (hcat : (st.map fun v => v.category).sum ≤ 8) (hR : fr + 1 ≤ R.frames ∧ 8 + (nL' + 11) + lo ≤ R.locals) (hd : decode cc pc = .ok (.invokestatic idx, 3)) (kk : Wp G sd R nL Q S' (pc + 3) lv (.null :: st)) : Wp G sd R nL Q S pc lv st0 := wp_callS C hct hm hs hlk hn hst hcat hR hd kk
theorem wp_callSrR (C : Cx G sd cc nL own ret) {y : MethodName} {cc' : ByteArray} {n fr lo idx nL' : Nat} {ret' : Option FieldType} {As : List Value} {r : Nat} {S' : St} {st0 : List Value} (hct : Ct (gL G) sd (gY G) (gA G) (gD G) y cc' nL' ret' fr lo (As) S (some (rvv (gA G) (some r))) S') (hm : Mok y cc' nL' ret' n) (hs : Cond.static y ∈ lw_g) (hlk : Cond.methodLink own idx y ∈ lw_g) (hn : As.length = n) (hst : st0 = As.reverse ++ st) (hcat : (st.map fun v => v.category).sum ≤ 8) (hR : fr + 1 ≤ R.frames ∧ 8 + (nL' + 11) + lo ≤ R.locals) (hd : decode cc pc = .ok (.invokestatic idx, 3)) (kk : Wp G sd R nL Q S' (pc + 3) lv (.ref (gA G r) :: st)) : Wp G sd R nL Q S pc lv st0 := wp_callS C hct hm hs hlk hn hst hcat hR hd kk
theorem rt_i (C : Cx G sd cc nL own ret) {v r : Int32} {fr lo : Nat} {S' : St} (hr : ret = some .int) (h : some (S, v) = some (S', r)) (hd : decode cc pc = .ok (.ireturn, 1)) : Wp G sd (rmOf fr lo) nL (Qm G sd (some (.int r)) S') S pc lv [.int v] := by
  cases h
  exact wp_iret C hr hd
theorem rt_l (C : Cx G sd cc nL own ret) {v r : Int64} {fr lo : Nat} {S' : St} (hr : ret = some .long) (h : some (S, v) = some (S', r)) (hd : decode cc pc = .ok (.lreturn, 1)) : Wp G sd (rmOf fr lo) nL (Qm G sd (some (.long r)) S') S pc lv [.long v] := by
  cases h
  exact wp_lret C hr hd
theorem rt_z (C : Cx G sd cc nL own ret) {v r : Int32} {fr lo : Nat} {S' : St} (hz : v = 0 ∨ v = 1) (hr : ret = some .boolean) (h : some (S, v) = some (S', r)) (hd : decode cc pc = .ok (.ireturn, 1)) : Wp G sd (rmOf fr lo) nL (Qm G sd (some (.int r)) S') S pc lv [.int v] := by
  cases h
  exact wp_zret C hz hr hd
theorem rt_v (C : Cx G sd cc nL own ret) {r : Unit} {fr lo : Nat} {S' : St} (hr : ret = none) (h : some (S, ()) = some (S', r)) (hd : decode cc pc = .ok (.return_, 1)) : Wp G sd (rmOf fr lo) nL (Qm G sd none S') S pc lv [] := by
  cases h
  exact wp_vret C hr hd
theorem rt_a (C : Cx G sd cc nL own ret) {a : Nat} {r : Option Nat} {fr lo : Nat} {S' : St} {ty : FieldType} (hr : ret = some (.array ty)) (h : some (S, some a) = some (S', r)) (hd : decode cc pc = .ok (.areturn, 1)) : Wp G sd (rmOf fr lo) nL (Qm G sd (some (rvv (gA G) r)) S') S pc lv [.ref (gA G a)] := by
  cases h
  exact wp_aret C hr (Or.inr ⟨_, rfl⟩) hd
theorem rt_aN (C : Cx G sd cc nL own ret) {r : Option Nat} {fr lo : Nat} {S' : St} {ty : FieldType} (hr : ret = some (.array ty)) (h : some (S, none) = some (S', r)) (hd : decode cc pc = .ok (.areturn, 1)) : Wp G sd (rmOf fr lo) nL (Qm G sd (some (rvv (gA G) r)) S') S pc lv [.null] := by
  cases h
  exact wp_aret C hr (Or.inl rfl) hd
theorem rt_r (C : Cx G sd cc nL own ret) {a r : Nat} {fr lo : Nat} {S' : St} {ty : FieldType} (hr : ret = some (.array ty)) (h : some (S, a) = some (S', r)) (hd : decode cc pc = .ok (.areturn, 1)) : Wp G sd (rmOf fr lo) nL (Qm G sd (some (.ref (gA G r))) S') S pc lv [.ref (gA G a)] := by
  cases h
  exact wp_aret C hr (Or.inr ⟨_, rfl⟩) hd
theorem ne_toInt {x c : Int32} {v : Int} (hv : c.toInt = v) (h : ¬ x = c) : x.toInt ≠ v := fun q => h (Int32.toInt_inj.mp (q.trans hv.symm))

/-- a contract out of a walk from the entry -/
theorem Ct_of {l : Launch} {sd : Sd} {cy : Nat → ClassId} {ad : Nat → Nat} {D : va_G} {y : MethodName} {cc : ByteArray} {nL fr lo n : Nat} {ret : Option FieldType} {av : List Value} {S S' : St} {v : Option Value} {own : String} (hm : Mok y cc nL ret n) (hown : y.cls = own) (hlen : (lg_sl av).length ≤ nL)
    (k : ∀ G : Gx, gL G = l → gY G = cy → gA G = ad → gD G = D → Cx G sd cc nL own ret → Wp G sd (rmOf fr lo) nL (Qm G sd v S') S 0 (lv_args 0 av) []) : Ct l sd cy ad D y cc nL ret fr lo av S v S' := by
  refine Met.ofW (cc := cc) (maxL := nL) (ret := ret) hm.2.2.2.1 rfl ?_
  intro p e s m args below meth c s₁ B hml hv
  obtain ⟨rfl, hi, hP, hK⟩ := hv
  have hts := atoms_spec (ws := Cond.code y cc nL ret :: lw_g) B.pre
  have hcl : s.vm.findClass own = some m.cls := hown ▸ findClass_of_methodNamed B.named
  have hl := lv_entry av (n := nL) hlen
  rw [lg_entry_eq]
  exact k (p, l, e, s, m, av.toArray, below, meth, c, cy, ad, D) rfl rfl rfl rfl ⟨B.exec, B.bytes, hml, hcl, fun w hw => hts w (List.mem_cons_of_mem _ hw), hK, hi, B.notSynchronized, B.returns⟩ s.heap [] _ hP va_S.rf hl
end

