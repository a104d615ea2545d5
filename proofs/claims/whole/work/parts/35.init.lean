
def NF : Nat := 1000000
def S0 : St := (fun _ _ => 0, fun _ _ => 0, fun _ _ => 999999)
def sd0X : Sd := (0, kdX, lnX, fun _ _ => 999999)
def sd0M : Sd := (0, kdM, lnM, fun _ _ => 999999)
def iniX : Option (Sd × St) := nX10_init 1000000 (sdO sd0X) (aO S0 0) 0
def iniM : Option (Sd × St) := nX11_init 1000000 (sdO sd0M) (aO S0 0) 0
set_option maxRecDepth 1000000 in
theorem iniX_some : iniX.isSome = true := by decide +kernel
set_option maxRecDepth 1000000 in
theorem iniM_some : iniM.isSome = true := by decide +kernel
def sdXF : Sd := (iniX.get iniX_some).1
def SXF : St := (iniX.get iniX_some).2
def sdMF : Sd := (iniM.get iniM_some).1
def SMF : St := (iniM.get iniM_some).2
theorem get_eq {α β : Type} (o : Option (α × β)) (h : o.isSome = true) : o = some ((o.get h).1, (o.get h).2) := by
  cases o with
  | none => cases h
  | some q => rfl
theorem iniX_eq : iniX = some (sdXF, SXF) := get_eq iniX iniX_some
theorem iniM_eq : iniM = some (sdMF, SMF) := get_eq iniM iniM_some
def okSr (sd1 sd2 : Sd) (m : Nat) : Bool := (List.range sd2.1).all (fun a => sd1.2.1 a == sd2.2.1 a && sd1.2.2.1 a == sd2.2.2.1 a && (List.range m).all (fun k => (sd2.2.1 a < 12 && (nsl (sd2.2.1 a) ≤ k || tg (sd2.2.1 a) k != 2)) || (12 ≤ sd2.2.1 a && (sd2.2.1 a < 16 || sd2.2.2.1 a ≤ k)) || sd1.2.2.2 a k == sd2.2.2.2 a k))
set_option maxRecDepth 1000000 in
theorem sdXF_1 : sdXF.1 = 272 := by decide +kernel
set_option maxRecDepth 1000000 in
theorem sdMF_1 : sdMF.1 = 47 := by decide +kernel
set_option maxRecDepth 1000000 in
theorem sdXF_ok : okSr sdXF sdX 87 = true := by decide +kernel
set_option maxRecDepth 1000000 in
theorem sdMF_ok : okSr sdMF sdM 87 = true := by decide +kernel
theorem sdX_lim : ∀ a, a < 272 → nsl (kdX a) ≤ 87 ∧ (16 ≤ kdX a → lnX a ≤ 87) := by decide +kernel
theorem sdM_lim : ∀ a, a < 47 → nsl (kdM a) ≤ 87 ∧ (16 ≤ kdM a → lnM a ≤ 87) := by decide +kernel
theorem conv_P {sd1 sd2 : Sd} {m : Nat} {cy : Nat → ClassId} {ad : Nat → Nat} {S : St} {D : va_G} {H : Heap} (hN : sd1.1 = sd2.1) (hok : okSr sd1 sd2 m = true) (hlim : ∀ a, a < sd2.1 → nsl (sd2.2.1 a) ≤ m ∧ (16 ≤ sd2.2.1 a → sd2.2.2.1 a ≤ m)) (hP : va_P D vwCl (cells sd1 cy ad S) H) : va_P D vwCl (cells sd2 cy ad S) H := by
  intro k x hx
  obtain ⟨hk, rfl⟩ := cells_at hx
  have h0 := hP k _ (cells_get (by rw [hN]; exact hk))
  have h1 := List.all_eq_true.mp hok k (List.mem_range.mpr hk)
  simp only [Bool.and_eq_true, beq_iff_eq, List.all_eq_true, List.mem_range, Bool.or_eq_true, decide_eq_true_eq, bne_iff_ne] at h1
  obtain ⟨⟨e1, e2⟩, e3⟩ := h1
  obtain ⟨l1, l2⟩ := hlim k hk
  by_cases hc : sd2.2.1 k < 12
  · have q : eC sd1 cy ad S k = eC sd2 cy ad S k := by
      rw [eC_obj e1 hc, eC_obj rfl hc]
      refine congrArg (fun z => (.inr (sd2.2.1 k, z) : va_E)) (List.map_congr_left fun j hj => ?_)
      have hj := List.mem_range.mp hj
      unfold fv
      by_cases ht : tg (sd2.2.1 k) j = 2
      · have e4 : sd1.2.2.2 k j = sd2.2.2.2 k j := by
          rcases e3 j (by omega) with (h | h) | h
          · exact absurd h.2 (by omega)
          · omega
          · exact h
        rw [e4]
      · simp only [if_neg ht]
    rw [← q]
    exact h0
  · by_cases hr : 16 ≤ sd2.2.1 k
    · rw [eC_ref e1 hr] at h0
      rw [eC_ref rfl hr]
      have h0 : H[ad k]? = some (arrV (cy (sd2.2.1 k)) (sd1.2.2.1 k) (fun j => va_rf ((fun i => if sd1.2.2.2 k i = 999999 then none else some (ad (sd1.2.2.2 k i))) j))) := h0
      show H[ad k]? = some (arrV (cy (sd2.2.1 k)) (sd2.2.2.1 k) (fun j => va_rf ((fun i => if sd2.2.2.2 k i = 999999 then none else some (ad (sd2.2.2.2 k i))) j)))
      rw [h0, e2]
      refine congrArg some (arrV_ext fun j hj => ?_)
      have e4 : sd1.2.2.2 k j = sd2.2.2.2 k j := by
        rcases e3 j (by have := l2 hr; omega) with (h | h) | h
        · omega
        · rcases h.2 with h | h <;> omega
        · exact h
      simp only [e4]
    · have q : eC sd1 cy ad S k = eC sd2 cy ad S k := by
        by_cases hl : sd2.2.1 k = 14
        · rw [eC_long (e1.trans hl), eC_long hl, e2]
        · rw [eC_int e1 (by omega), eC_int rfl (by omega), e2]
      rw [← q]
      exact h0
