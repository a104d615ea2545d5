/-- the class's walk begins, once nothing is refused -/
def stO (n : Nat) (S : St) : Option (St × Unit) := gd (isK sdX (S.2.2 243 0) 0) (bd (fX9_start n S (S.2.2 243 0) (S.1 243 4) (S.1 243 5) (S.1 243 6)) (fun S3 _ => some (S3, ())))
/-- a search begins or is refused, whatever comes behind -/
theorem st_bd {ρ : Type} {n : Nat} {S : St} {x1 x2 : Int32} {k : St → Int32 → Option ρ} : bd (fX4_start n S x1 x2) k = bn (sI S 243 15 0) (fun S1 : St => if S1.1 243 13 = 0 then k S1 (-1) else if x1 = 0 then k S1 (-1) else if S1.1 243 14 ≤ x2 then bd (stO n S1) (fun S3 _ => k S3 0) else k S1 (-2)) := by
  unfold fX4_start stO
  rw [bn_go, bn_go]
  by_cases c1 : (sI S 243 15 0).1 243 13 = 0
  · rw [if_pos c1, if_pos c1, bd_go]
  rw [if_neg c1, if_neg c1]
  by_cases c2 : x1 = 0
  · rw [if_pos c2, if_pos c2, bd_go]
  rw [if_neg c2, if_neg c2]
  by_cases c3 : (sI S 243 15 0).1 243 14 ≤ x2
  · rw [if_pos c3, if_pos c3]
    by_cases c4 : isK sdX ((sI S 243 15 0).2.2 243 0) 0
    · rw [gd_pos c4, gd_pos c4]
      generalize fX9_start n (sI S 243 15 0) ((sI S 243 15 0).2.2 243 0) ((sI S 243 15 0).1 243 4) ((sI S 243 15 0).1 243 5) ((sI S 243 15 0).1 243 6) = z
      cases z with
      | none => rfl
      | some z => obtain ⟨s, a⟩ := z; rfl
    · unfold gd
      rw [if_neg c4, if_neg c4]
      rfl
  · rw [if_neg c3, if_neg c3, bd_go]
theorem mo_ne : ¬ (-1 : Int32) = 0 := by decide
theorem mt_ne : ¬ (-2 : Int32) = 0 := by decide
theorem mo_l : Int32.toInt64 (-1) = -1 := by decide
theorem mt_l : Int32.toInt64 (-2) = -2 := by decide
