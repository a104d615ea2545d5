/-! a bench is read: both sides -/
theorem sR_f {S : St} {a k j v : Nat} (h : j ≠ k) : (sR S a k v).2.2 a j = S.2.2 a j := by
  show va_up S.2.2 a (va_up (S.2.2 a) k v) a j = _
  rw [up_same, up_other _ _ h]
section
variable {n : Nat}
theorem copies_M {M : St} (hn : 200000 ≤ n) (h40 : M.1 0 40 = 0 ∨ M.1 0 40 = 1) : ∃ M', fX11_bench_l15 n n M 0 = fX11_bench_j281 n M' ∧
    ((∀ i, i < 5 → M'.1 4 i = M.1 3 i) ∧ (∀ i, i < 128 → M'.1 13 i = M.1 5 i) ∧ (∀ i, i < 64 → M'.1 14 i = M.1 6 i) ∧ (∀ i, i < 96 → M'.1 15 i = M.1 7 i) ∧ (∀ i, i < 64 → M'.1 16 i = M.1 8 i) ∧ (∀ i, i < 8 → M'.1 17 i = M.1 9 i) ∧ (∀ i, i < 8 → M'.1 18 i = M.1 10 i) ∧ (∀ i, i < 8 → M'.1 19 i = M.1 11 i) ∧ (∀ i, i < 64 → M'.1 20 i = M.1 12 i)) ∧
    (∀ k, M'.1 0 k = if k = 63 then 0 else if k = 52 then 0 else if k = 58 then 0 else if k = 50 then 0 else if k = 77 then 0 else if k = 66 then 0 else if k = 65 then 0 else if k = 42 then M.1 0 40 else if k = 36 then M.1 0 32 else if k = 35 then M.1 0 31 else if k = 34 then M.1 0 30 else if k = 33 then M.1 0 29 else M.1 0 k) ∧
    (∀ i, i < 8 → M'.1 31 i = 0) ∧ (∀ i, i < 3 → M'.1 42 i = 0) := by
  obtain ⟨M1, a1, a2, a3, a4⟩ := cp_l15 (n := n) 5 0 n M (by omega) (by omega)
  obtain ⟨M2, b1, b2, b3, b4⟩ := cp_l40 (n := n) 128 0 n M1 (by omega) (by omega)
  obtain ⟨M3, c1, c2, c3, c4⟩ := cp_l67 (n := n) 96 0 n M2 (by omega) (by omega)
  obtain ⟨M4, d1, d2, d3, d4, d5, d6⟩ := cp_l93 (n := n) 64 0 n M3 (by omega) (by omega)
  obtain ⟨M5, e1, e2, e3, e4, e5, e6⟩ := cp_l143 (n := n) 8 0 n M4 (by omega) (by omega)
  have z0 : M5.1 0 = M.1 0 := by rw [e2 0 (by decide) (by decide) (by decide), d2 0 (by decide) (by decide) (by decide), c2 0 (by decide), b2 0 (by decide), a2 0 (by decide)]
  generalize hS : sI (sI (sI (sI (sI M5 0 33 (M5.1 0 29)) 0 34 ((sI M5 0 33 (M5.1 0 29)).1 0 30)) 0 35 ((sI (sI M5 0 33 (M5.1 0 29)) 0 34 ((sI M5 0 33 (M5.1 0 29)).1 0 30)).1 0 31)) 0 36 ((sI (sI (sI M5 0 33 (M5.1 0 29)) 0 34 ((sI M5 0 33 (M5.1 0 29)).1 0 30)) 0 35 ((sI (sI M5 0 33 (M5.1 0 29)) 0 34 ((sI M5 0 33 (M5.1 0 29)).1 0 30)).1 0 31)).1 0 32)) 0 42 ((sI (sI (sI (sI M5 0 33 (M5.1 0 29)) 0 34 ((sI M5 0 33 (M5.1 0 29)).1 0 30)) 0 35 ((sI (sI M5 0 33 (M5.1 0 29)) 0 34 ((sI M5 0 33 (M5.1 0 29)).1 0 30)).1 0 31)) 0 36 ((sI (sI (sI M5 0 33 (M5.1 0 29)) 0 34 ((sI M5 0 33 (M5.1 0 29)).1 0 30)) 0 35 ((sI (sI M5 0 33 (M5.1 0 29)) 0 34 ((sI M5 0 33 (M5.1 0 29)).1 0 30)).1 0 31)).1 0 32)).1 0 40) = S6
  have y0 : ∀ k, S6.1 0 k = if k = 42 then M.1 0 40 else if k = 36 then M.1 0 32 else if k = 35 then M.1 0 31 else if k = 34 then M.1 0 30 else if k = 33 then M.1 0 29 else M.1 0 k := fun k => by
    have q30 : (sI M5 0 33 (M5.1 0 29)).1 0 30 = M.1 0 30 := by rw [sI_f (by decide), z0]
    have q31 : ∀ v, (sI (sI M5 0 33 (M5.1 0 29)) 0 34 v).1 0 31 = M.1 0 31 := fun v => by rw [sI_f (by decide), sI_f (by decide), z0]
    have q32 : ∀ v w, (sI (sI (sI M5 0 33 (M5.1 0 29)) 0 34 v) 0 35 w).1 0 32 = M.1 0 32 := fun v w => by rw [sI_f (by decide), sI_f (by decide), sI_f (by decide), z0]
    have q40 : ∀ v w x, (sI (sI (sI (sI M5 0 33 (M5.1 0 29)) 0 34 v) 0 35 w) 0 36 x).1 0 40 = M.1 0 40 := fun v w x => by rw [sI_f (by decide), sI_f (by decide), sI_f (by decide), sI_f (by decide), z0]
    rw [← hS, q40, q32, q31, q30, sI_at, sI_at, sI_at, sI_at, sI_at, z0]
    simp only [true_and]
  have y1 : ∀ a, a ≠ 0 → S6.1 a = M5.1 a := fun a q => by rw [← hS, sI_ne q, sI_ne q, sI_ne q, sI_ne q, sI_ne q]
  obtain ⟨M', f1, f2, f3, f4⟩ := boxM_loop (n := n) 3 0 n (sI (sI (sI (sI (sI (sI (sI (rI S6 31 (fun i => if i < 8 then 0 else S6.1 31 i)) 0 65 0) 0 66 0) 0 77 0) 0 50 0) 0 58 0) 0 52 0) 0 63 0) (by omega) (by omega)
  have w1 : ∀ a, a ≠ 0 → a ≠ 31 → a ≠ 42 → M'.1 a = M5.1 a := fun a q1 q2 q3 => by rw [f2 a q3, sI_ne q1, sI_ne q1, sI_ne q1, sI_ne q1, sI_ne q1, sI_ne q1, sI_ne q1, rI_ne q2, y1 a q1]
  have w0 : ∀ k, M'.1 0 k = if k = 63 then 0 else if k = 52 then 0 else if k = 58 then 0 else if k = 50 then 0 else if k = 77 then 0 else if k = 66 then 0 else if k = 65 then 0 else S6.1 0 k := fun k => by
    rw [f2 0 (by decide), sI_at, sI_at, sI_at, sI_at, sI_at, sI_at, sI_at, rI_ne (by decide)]
    simp only [true_and]
  refine ⟨M', ?_, ⟨fun i hi => ?_, fun i hi => ?_, fun i hi => ?_, fun i hi => ?_, fun i hi => ?_, fun i hi => ?_, fun i hi => ?_, fun i hi => ?_, fun i hi => ?_⟩, fun k => ?_, fun i hi => ?_, fun i hi => ?_⟩
  · have a1 : fX11_bench_l15 n n M 0 = _ := a1
    have b1 : fX11_bench_l40 n n M1 0 = _ := b1
    have c1 : fX11_bench_l67 n n M2 0 = _ := c1
    have d1 : fX11_bench_l93 n n M3 0 = _ := d1
    have e1 : fX11_bench_l143 n n M4 0 = _ := e1
    have f1 : fX11_bench_l263 n n _ 0 = _ := f1
    rw [a1]
    unfold fX11_bench_j38
    rw [b1]
    unfold fX11_bench_j65
    rw [c1]
    unfold fX11_bench_j91
    rw [d1]
    unfold fX11_bench_j141
    rw [e1]
    unfold fX11_bench_j191
    rw [bn_go, bn_go, bn_go, bn_go, gd_pos (by rw [sI_f (by decide), sI_f (by decide), sI_f (by decide), sI_f (by decide), z0]; exact h40), bn_go, hS, setVat_spec hn, bd_go, bn_go, bn_go, bn_go, bn_go, bn_go]
    exact f1
  · rw [w1 4 (by decide) (by decide) (by decide), e2 4 (by decide) (by decide) (by decide), d2 4 (by decide) (by decide) (by decide), c2 4 (by decide), b2 4 (by decide), a4, if_pos (by omega)]
  · rw [w1 13 (by decide) (by decide) (by decide), e2 13 (by decide) (by decide) (by decide), d2 13 (by decide) (by decide) (by decide), c2 13 (by decide), b4, if_pos (by omega), a2 5 (by decide)]
  · rw [w1 14 (by decide) (by decide) (by decide), e2 14 (by decide) (by decide) (by decide), d4, if_pos (by omega), c2 6 (by decide), b2 6 (by decide), a2 6 (by decide)]
  · rw [w1 15 (by decide) (by decide) (by decide), e2 15 (by decide) (by decide) (by decide), d2 15 (by decide) (by decide) (by decide), c4, if_pos (by omega), b2 7 (by decide), a2 7 (by decide)]
  · rw [w1 16 (by decide) (by decide) (by decide), e2 16 (by decide) (by decide) (by decide), d5, if_pos (by omega), c2 8 (by decide), b2 8 (by decide), a2 8 (by decide)]
  · rw [w1 17 (by decide) (by decide) (by decide), e4, if_pos (by omega), d2 9 (by decide) (by decide) (by decide), c2 9 (by decide), b2 9 (by decide), a2 9 (by decide)]
  · rw [w1 18 (by decide) (by decide) (by decide), e5, if_pos (by omega), d2 10 (by decide) (by decide) (by decide), c2 10 (by decide), b2 10 (by decide), a2 10 (by decide)]
  · rw [w1 19 (by decide) (by decide) (by decide), e6, if_pos (by omega), d2 11 (by decide) (by decide) (by decide), c2 11 (by decide), b2 11 (by decide), a2 11 (by decide)]
  · rw [w1 20 (by decide) (by decide) (by decide), e2 20 (by decide) (by decide) (by decide), d6, if_pos (by omega), c2 12 (by decide), b2 12 (by decide), a2 12 (by decide)]
  · rw [w0, y0]
  · rw [f2 31 (by decide), sI_ne (by decide), sI_ne (by decide), sI_ne (by decide), sI_ne (by decide), sI_ne (by decide), sI_ne (by decide), sI_ne (by decide), rI_row]
    exact if_pos hi
  · rw [f4, if_pos (by omega)]
theorem anew_X {Y Y1 : St} {s : Nat} (hn : 200000 ≤ n) (hn2 : n < 2 ^ 31) (hs : s = 3 ∨ s = 77) (hr : Y.2.2 0 2 = s) (hf : fX2_fill n Y s = some (Y1, ())) (h2 : Y1.2 = Y.2) : ∃ Y', fX10_startAnew n Y = some (Y', ()) ∧
    (∀ a, a ≠ 0 → a ≠ 234 → a ≠ 243 → a ≠ 261 → a ≠ 262 → (a < 264 ∨ 269 < a) → Y'.1 a = Y1.1 a) ∧ (∀ k, Y'.1 0 k = if k = 11 then 0 else Y1.1 0 k) ∧ Y'.1 234 9 = 0 ∧ (Y'.1 243 13 = 0 ∧ Y'.1 243 15 = 0 ∧ Y'.1 243 17 = 0) ∧ (Y'.1 261 1 = 0 ∧ Y'.1 261 2 = 0 ∧ Y'.1 261 3 = Y1.1 261 3) ∧ (∀ d, d < 8 → Y'.1 262 d = 0) ∧ (∀ i, i < 3 → Y'.1 (264 + 2 * i) 4 = 0) ∧ Y'.2.1 = Y.2.1 ∧ Y'.2.2 243 0 = s ∧ (∀ a, a ≠ 243 → Y'.2.2 a = Y.2.2 a) := by
  obtain ⟨kk, -⟩ := bk hs
  generalize hZ : sI (sI (sI (sI (sR (sI Y1 234 9 0) 243 0 s) 243 13 0) 243 14 0) 243 15 0) 243 17 0 = Z
  have z1 : ∀ a k, Z.1 a k = if a = 243 ∧ k = 17 then 0 else if a = 243 ∧ k = 15 then 0 else if a = 243 ∧ k = 14 then 0 else if a = 243 ∧ k = 13 then 0 else if a = 234 ∧ k = 9 then 0 else Y1.1 a k := fun a k => by
    rw [← hZ, sI_at, sI_at, sI_at, sI_at]
    show (if a = 243 ∧ k = 17 then 0 else if a = 243 ∧ k = 15 then 0 else if a = 243 ∧ k = 14 then 0 else if a = 243 ∧ k = 13 then 0 else (sI Y1 234 9 0).1 a k) = _
    rw [sI_at]
  have z2 : Z.2.1 = Y1.2.1 := by rw [← hZ]; rfl
  have z3 : Z.2.2 = (sR Y1 243 0 s).2.2 := by rw [← hZ]; rfl
  obtain ⟨X', f1, f2, f3, f4, -⟩ := boxX_loop (n := n) 3 0 n (rI (sI (sI Z 261 1 0) 261 2 0) 262 (fun i => if i < 8 then 0 else Z.1 262 i)) (by omega) (by omega)
  have f1 : fX10_startAnew_l40 n n _ 0 = _ := f1
  have f3' : X'.2 = Z.2 := f3
  have w1 : ∀ a, a ≠ 0 → a ≠ 261 → a ≠ 262 → (a < 264 ∨ 269 < a) → ∀ k, (sI X' 0 11 0).1 a k = Z.1 a k := fun a q0 q1 q2 q3 k => by
    rw [sI_ne q0, f2 a k (by omega), rI_ne q2, sI_ne q1, sI_ne q1]
  refine ⟨sI X' 0 11 0, ?_, fun a q0 q1 q2 q3 q4 q5 => ?_, fun k => ?_, ?_, ⟨?_, ?_, ?_⟩, ⟨?_, ?_, ?_⟩, fun d hd => ?_, fun i hi => ?_, ?_, ?_, fun a q => ?_⟩
  · unfold fX10_startAnew
    have r1 : (sI Y1 234 9 0).2.2 0 2 = s := by show Y1.2.2 0 2 = s; rw [h2]; exact hr
    rw [hr, gd_pos kk, hf, bd_go, bn_go, r1, gd_pos kk]
    unfold fX4_forget
    rw [gd_pos kk, bn_go, bn_go, bn_go, bn_go, bn_go, bd_go, hZ, putOn_spec hn hn2, bd_go, f1]
    unfold fX10_startAnew_j61
    rw [bn_go]
  · funext k
    rw [w1 a q0 q3 q4 q5, z1, if_neg (by omega), if_neg (by omega), if_neg (by omega), if_neg (by omega), if_neg (by omega)]
  · rw [sI_at, f2 0 k (by omega), rI_ne (by decide), sI_ne (by decide), sI_ne (by decide), z1, if_neg (show ¬ (0 = 243 ∧ k = 17) by omega), if_neg (show ¬ (0 = 243 ∧ k = 15) by omega), if_neg (show ¬ (0 = 243 ∧ k = 14) by omega), if_neg (show ¬ (0 = 243 ∧ k = 13) by omega), if_neg (show ¬ (0 = 234 ∧ k = 9) by omega)]
    simp only [true_and]
  · rw [w1 234 (by decide) (by decide) (by decide) (by omega), z1, if_neg (by omega), if_neg (by omega), if_neg (by omega), if_neg (by omega), if_pos (by omega)]
  · rw [w1 243 (by decide) (by decide) (by decide) (by omega), z1, if_neg (by omega), if_neg (by omega), if_neg (by omega), if_pos (by omega)]
  · rw [w1 243 (by decide) (by decide) (by decide) (by omega), z1, if_neg (by omega), if_pos (by omega)]
  · rw [w1 243 (by decide) (by decide) (by decide) (by omega), z1, if_pos (by omega)]
  · rw [sI_ne (by decide), f2 261 1 (by omega), rI_ne (by decide), sI_f (by decide), sI_at, if_pos (by omega)]
  · rw [sI_ne (by decide), f2 261 2 (by omega), rI_ne (by decide), sI_at, if_pos (by omega)]
  · rw [sI_ne (by decide), f2 261 3 (by omega), rI_ne (by decide), sI_f (by decide), sI_f (by decide), z1, if_neg (by omega), if_neg (by omega), if_neg (by omega), if_neg (by omega), if_neg (by omega)]
  · rw [sI_ne (by decide), f2 262 d (by omega), rI_row]
    exact if_pos hd
  · rw [sI_ne (by omega)]
    exact f4 i (Nat.zero_le _) hi
  · show X'.2.1 = _
    rw [f3', z2, h2]
  · show X'.2.2 243 0 = _
    rw [f3', z3]
    exact sR_at
  · show X'.2.2 a = _
    rw [f3', z3, sR_ne q, h2]
end
