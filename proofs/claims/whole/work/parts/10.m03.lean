section
variable {G : Gx} {l : Launch} {cy : Nat → ClassId} {ad : Nat → Nat} {D : va_G}
def fX11_bench_j281 (n : Nat) (S : St) : Option (St × Int32) :=
  bd (fX11_layOld n S) (fun S1 r2 =>
  gd (ib 4 5) (
  some (S1, S1.1 4 (Int32.toNatClampNeg 4))))
set_option maxRecDepth 100000 in
set_option maxHeartbeats 4000000 in
theorem wX11_bench_j281 (C : Cx G sdM cX11_bench 2 RX11 (some .int)) {n : Nat} {S S' : St} {r : Int32} (h : fX11_bench_j281 n S = some (S', r)) : Wp G sdM (rmOf 7 154) 2 (Qm G sdM (some (.int r)) S') S 281 [(0, .ref (gA G 0))] [] := by
  unfold fX11_bench_j281 at h
  refine wp_aload_n (pc := 281) C 0 dX11_bench_281 rfl rfl ?_
  obtain ⟨S1, r2, cS1, h⟩ := bd_some h
  refine wp_callVv (As := []) (st := []) (pc := 282) C (CtX11_layOld cS1) mX11_layOld iX11_layOld kX11_354 (Nat.le_of_ble_eq_true rfl) rfl (by decide) rfl rfl rfl rfl (Nat.le_of_ble_eq_true rfl) ⟨Nat.le_of_ble_eq_true rfl, Nat.le_of_ble_eq_true rfl⟩ dX11_bench_282 ?_
  refine wp_aload_n (pc := 285) C 0 dX11_bench_285 rfl rfl ?_
  refine wp_getS (v := 4) (pc := 286) C flX11_24 rfl rfl (Nat.le_of_ble_eq_true rfl) (Nat.le_of_ble_eq_true rfl) rfl dX11_bench_286 ?_
  refine wp_iconst (v := 4) (pc := 289) C dX11_bench_289 (by decide) ?_
  obtain ⟨g3, h⟩ := gd_some h
  refine wp_iald (pc := 290) C (Nat.le_of_ble_eq_true rfl) rfl g3 dX11_bench_290 ?_
  exact rt_i C rfl h dX11_bench_291
def fX11_bench_l263 (n : Nat) : Nat → St → Int32 → Option (St × Int32)
  | 0, _, _ => none
  | j + 1, S, x1 =>
    if 3 ≤ x1 then
      fX11_bench_j281 n S
    else
      gd (ib x1 3) (
      bn (sI S 42 (Int32.toNatClampNeg x1) (vp_nar .boolean 0)) (fun S2 : St =>
      bn (x1 + 1) (fun z3 : Int32 =>
      fX11_bench_l263 n j S2 z3)))
set_option maxRecDepth 100000 in
set_option maxHeartbeats 4000000 in
theorem wX11_bench_l263 (C : Cx G sdM cX11_bench 2 RX11 (some .int)) {n : Nat} {S' : St} {r : Int32} : ∀ (j : Nat) (S : St) (x1 : Int32), fX11_bench_l263 n j S x1 = some (S', r) → Wp G sdM (rmOf 7 154) 2 (Qm G sdM (some (.int r)) S') S 263 [(0, .ref (gA G 0)), (1, .int x1)] [] := by
  intro j
  induction j with
  | zero =>
    intro S x1 h
    exact nomatch (show (none : Option (St × Int32)) = some _ from h)
  | succ j ih =>
    intro S x1 h
    rw [fX11_bench_l263] at h
    refine wp_iload_n (pc := 263) C 1 dX11_bench_263 rfl rfl ?_
    refine wp_iconst (v := 3) (pc := 264) C dX11_bench_264 (by decide) ?_
    refine wp_icmp_ge (pc := 265) C 281 dX11_bench_265 (by decide) (fun q => ?_) (fun q => ?_)
    · have h := it_pos q h
      exact wp_sub C [0] rfl (wX11_bench_j281 C h)
    · have h := it_neg q h
      refine wp_aload_n (pc := 268) C 0 dX11_bench_268 rfl rfl ?_
      refine wp_getS (v := 42) (pc := 269) C flX11_142 rfl rfl (Nat.le_of_ble_eq_true rfl) (Nat.le_of_ble_eq_true rfl) rfl dX11_bench_269 ?_
      refine wp_iload_n (pc := 272) C 1 dX11_bench_272 rfl rfl ?_
      refine wp_iconst (v := 0) (pc := 273) C dX11_bench_273 (by decide) ?_
      obtain ⟨g1, h⟩ := gd_some h
      obtain ⟨S2, eS2, h⟩ := bn_some h
      refine wp_zast (pc := 274) C eS2 (Nat.le_of_ble_eq_true rfl) rfl g1 dX11_bench_274 ?_
      obtain ⟨z3, ez3, h⟩ := bn_some h
      refine wp_iinc (q := 1) (pc := 275) C (by decide) ez3 [(1, .int z3), (0, .ref (gA G 0))] dX11_bench_275 rfl (Nat.le_of_ble_eq_true rfl) rfl ?_
      refine wp_goto (pc := 278) C 263 dX11_bench_278 (by decide) ?_
      exact wp_sub C [1, 0] rfl (ih _ _ h)
def fX11_bench_j191 (n : Nat) (S : St) : Option (St × Int32) :=
  bn (sI S 0 33 (S.1 0 29)) (fun S1 : St =>
  bn (sI S1 0 34 (S1.1 0 30)) (fun S2 : St =>
  bn (sI S2 0 35 (S2.1 0 31)) (fun S3 : St =>
  bn (sI S3 0 36 (S3.1 0 32)) (fun S4 : St =>
  gd ((S4.1 0 40) = 0 ∨ (S4.1 0 40) = 1) (
  bn (sI S4 0 42 (S4.1 0 40)) (fun S6 : St =>
  bd (fX11_setVat n S6 0) (fun S7 r8 =>
  bn (sI S7 0 77 0) (fun S9 : St =>
  bn (sI S9 0 50 0) (fun S10 : St =>
  bn (sI S10 0 58 0) (fun S11 : St =>
  bn (sI S11 0 52 0) (fun S12 : St =>
  bn (sI S12 0 63 0) (fun S13 : St =>
  fX11_bench_l263 n n S13 0))))))))))))
set_option maxRecDepth 100000 in
set_option maxHeartbeats 4000000 in
theorem wX11_bench_j191 (C : Cx G sdM cX11_bench 2 RX11 (some .int)) {n : Nat} {S S' : St} {r : Int32} (h : fX11_bench_j191 n S = some (S', r)) : Wp G sdM (rmOf 7 154) 2 (Qm G sdM (some (.int r)) S') S 191 [(0, .ref (gA G 0))] [] := by
  unfold fX11_bench_j191 at h
  refine wp_aload_n (pc := 191) C 0 dX11_bench_191 rfl rfl ?_
  refine wp_aload_n (pc := 192) C 0 dX11_bench_192 rfl rfl ?_
  refine wp_getI (pc := 193) C flX11_260 rfl (Nat.le_of_ble_eq_true rfl) rfl dX11_bench_193 ?_
  obtain ⟨S1, eS1, h⟩ := bn_some h
  refine wp_putI (pc := 196) C eS1 flX11_158 fpX11_33 rfl (Nat.le_of_ble_eq_true rfl) rfl dX11_bench_196 ?_
  refine wp_aload_n (pc := 199) C 0 dX11_bench_199 rfl rfl ?_
  refine wp_aload_n (pc := 200) C 0 dX11_bench_200 rfl rfl ?_
  refine wp_getI (pc := 201) C flX11_274 rfl (Nat.le_of_ble_eq_true rfl) rfl dX11_bench_201 ?_
  obtain ⟨S2, eS2, h⟩ := bn_some h
  refine wp_putI (pc := 204) C eS2 flX11_161 fpX11_34 rfl (Nat.le_of_ble_eq_true rfl) rfl dX11_bench_204 ?_
  refine wp_aload_n (pc := 207) C 0 dX11_bench_207 rfl rfl ?_
  refine wp_aload_n (pc := 208) C 0 dX11_bench_208 rfl rfl ?_
  refine wp_getI (pc := 209) C flX11_299 rfl (Nat.le_of_ble_eq_true rfl) rfl dX11_bench_209 ?_
  obtain ⟨S3, eS3, h⟩ := bn_some h
  refine wp_putI (pc := 212) C eS3 flX11_164 fpX11_35 rfl (Nat.le_of_ble_eq_true rfl) rfl dX11_bench_212 ?_
  refine wp_aload_n (pc := 215) C 0 dX11_bench_215 rfl rfl ?_
  refine wp_aload_n (pc := 216) C 0 dX11_bench_216 rfl rfl ?_
  refine wp_getI (pc := 217) C flX11_302 rfl (Nat.le_of_ble_eq_true rfl) rfl dX11_bench_217 ?_
  obtain ⟨S4, eS4, h⟩ := bn_some h
  refine wp_putI (pc := 220) C eS4 flX11_330 fpX11_36 rfl (Nat.le_of_ble_eq_true rfl) rfl dX11_bench_220 ?_
  refine wp_aload_n (pc := 223) C 0 dX11_bench_223 rfl rfl ?_
  refine wp_aload_n (pc := 224) C 0 dX11_bench_224 rfl rfl ?_
  refine wp_getI (pc := 225) C flX11_277 rfl (Nat.le_of_ble_eq_true rfl) rfl dX11_bench_225 ?_
  obtain ⟨g5, h⟩ := gd_some h
  obtain ⟨S6, eS6, h⟩ := bn_some h
  refine wp_putZ (pc := 228) C g5 eS6 flX11_333 fpX11_42 rfl (Nat.le_of_ble_eq_true rfl) rfl dX11_bench_228 ?_
  refine wp_aload_n (pc := 231) C 0 dX11_bench_231 rfl rfl ?_
  refine wp_iconst (v := 0) (pc := 232) C dX11_bench_232 (by decide) ?_
  obtain ⟨S7, r8, cS7, h⟩ := bd_some h
  refine wp_callVv (As := [.int 0]) (st := []) (pc := 233) C (CtX11_setVat cS7) mX11_setVat iX11_setVat kX11_336 (Nat.le_of_ble_eq_true rfl) rfl (by decide) rfl rfl rfl rfl (Nat.le_of_ble_eq_true rfl) ⟨Nat.le_of_ble_eq_true rfl, Nat.le_of_ble_eq_true rfl⟩ dX11_bench_233 ?_
  refine wp_aload_n (pc := 236) C 0 dX11_bench_236 rfl rfl ?_
  refine wp_iconst (v := 0) (pc := 237) C dX11_bench_237 (by decide) ?_
  obtain ⟨S9, eS9, h⟩ := bn_some h
  refine wp_putI (pc := 238) C eS9 flX11_339 fpX11_77 rfl (Nat.le_of_ble_eq_true rfl) rfl dX11_bench_238 ?_
  refine wp_aload_n (pc := 241) C 0 dX11_bench_241 rfl rfl ?_
  refine wp_iconst (v := 0) (pc := 242) C dX11_bench_242 (by decide) ?_
  obtain ⟨S10, eS10, h⟩ := bn_some h
  refine wp_putZ (pc := 243) C (Or.inl rfl) eS10 flX11_342 fpX11_50 rfl (Nat.le_of_ble_eq_true rfl) rfl dX11_bench_243 ?_
  refine wp_aload_n (pc := 246) C 0 dX11_bench_246 rfl rfl ?_
  refine wp_iconst (v := 0) (pc := 247) C dX11_bench_247 (by decide) ?_
  obtain ⟨S11, eS11, h⟩ := bn_some h
  refine wp_putI (pc := 248) C eS11 flX11_345 fpX11_58 rfl (Nat.le_of_ble_eq_true rfl) rfl dX11_bench_248 ?_
  refine wp_aload_n (pc := 251) C 0 dX11_bench_251 rfl rfl ?_
  refine wp_iconst (v := 0) (pc := 252) C dX11_bench_252 (by decide) ?_
  obtain ⟨S12, eS12, h⟩ := bn_some h
  refine wp_putZ (pc := 253) C (Or.inl rfl) eS12 flX11_348 fpX11_52 rfl (Nat.le_of_ble_eq_true rfl) rfl dX11_bench_253 ?_
  refine wp_aload_n (pc := 256) C 0 dX11_bench_256 rfl rfl ?_
  refine wp_iconst (v := 0) (pc := 257) C dX11_bench_257 (by decide) ?_
  obtain ⟨S13, eS13, h⟩ := bn_some h
  refine wp_putZ (pc := 258) C (Or.inl rfl) eS13 flX11_351 fpX11_63 rfl (Nat.le_of_ble_eq_true rfl) rfl dX11_bench_258 ?_
  refine wp_iconst (v := 0) (pc := 261) C dX11_bench_261 (by decide) ?_
  refine wp_istore_n (pc := 262) C rfl [(1, .int 0), (0, .ref (gA G 0))] dX11_bench_262 rfl (Nat.le_of_ble_eq_true rfl) rfl ?_
  exact wp_sub C [1, 0] rfl (wX11_bench_l263 C _ _ _ h)
def fX11_bench_l143 (n : Nat) : Nat → St → Int32 → Option (St × Int32)
  | 0, _, _ => none
  | j + 1, S, x1 =>
    if 8 ≤ x1 then
      fX11_bench_j191 n S
    else
      gd (ib x1 8) (
      gd (ib x1 8) (
      bn (sI S 17 (Int32.toNatClampNeg x1) (S.1 9 (Int32.toNatClampNeg x1))) (fun S3 : St =>
      gd (ib x1 8) (
      gd (ib x1 8) (
      bn (sI S3 18 (Int32.toNatClampNeg x1) (S3.1 10 (Int32.toNatClampNeg x1))) (fun S6 : St =>
      gd (ib x1 8) (
      gd (ib x1 8) (
      bn (sI S6 19 (Int32.toNatClampNeg x1) (S6.1 11 (Int32.toNatClampNeg x1))) (fun S9 : St =>
      bn (x1 + 1) (fun z10 : Int32 =>
      fX11_bench_l143 n j S9 z10))))))))))
set_option maxRecDepth 100000 in
set_option maxHeartbeats 4000000 in
theorem wX11_bench_l143 (C : Cx G sdM cX11_bench 2 RX11 (some .int)) {n : Nat} {S' : St} {r : Int32} : ∀ (j : Nat) (S : St) (x1 : Int32), fX11_bench_l143 n j S x1 = some (S', r) → Wp G sdM (rmOf 7 154) 2 (Qm G sdM (some (.int r)) S') S 143 [(0, .ref (gA G 0)), (1, .int x1)] [] := by
  intro j
  induction j with
  | zero =>
    intro S x1 h
    exact nomatch (show (none : Option (St × Int32)) = some _ from h)
  | succ j ih =>
    intro S x1 h
    rw [fX11_bench_l143] at h
    refine wp_iload_n (pc := 143) C 1 dX11_bench_143 rfl rfl ?_
    refine wp_bipush (v := 8) (pc := 144) C dX11_bench_144 (by decide) ?_
    refine wp_icmp_ge (pc := 146) C 191 dX11_bench_146 (by decide) (fun q => ?_) (fun q => ?_)
    · have h := it_pos q h
      exact wp_sub C [0] rfl (wX11_bench_j191 C h)
    · have h := it_neg q h
      refine wp_aload_n (pc := 149) C 0 dX11_bench_149 rfl rfl ?_
      refine wp_getS (v := 17) (pc := 150) C flX11_63 rfl rfl (Nat.le_of_ble_eq_true rfl) (Nat.le_of_ble_eq_true rfl) rfl dX11_bench_150 ?_
      refine wp_iload_n (pc := 153) C 1 dX11_bench_153 rfl rfl ?_
      refine wp_aload_n (pc := 154) C 0 dX11_bench_154 rfl rfl ?_
      refine wp_getS (v := 9) (pc := 155) C flX11_39 rfl rfl (Nat.le_of_ble_eq_true rfl) (Nat.le_of_ble_eq_true rfl) rfl dX11_bench_155 ?_
      refine wp_iload_n (pc := 158) C 1 dX11_bench_158 rfl rfl ?_
      obtain ⟨g1, h⟩ := gd_some h
      refine wp_iald (pc := 159) C (Nat.le_of_ble_eq_true rfl) rfl g1 dX11_bench_159 ?_
      obtain ⟨g2, h⟩ := gd_some h
      obtain ⟨S3, eS3, h⟩ := bn_some h
      refine wp_iast (pc := 160) C eS3 (Nat.le_of_ble_eq_true rfl) rfl g2 dX11_bench_160 ?_
      refine wp_aload_n (pc := 161) C 0 dX11_bench_161 rfl rfl ?_
      refine wp_getS (v := 18) (pc := 162) C flX11_66 rfl rfl (Nat.le_of_ble_eq_true rfl) (Nat.le_of_ble_eq_true rfl) rfl dX11_bench_162 ?_
      refine wp_iload_n (pc := 165) C 1 dX11_bench_165 rfl rfl ?_
      refine wp_aload_n (pc := 166) C 0 dX11_bench_166 rfl rfl ?_
      refine wp_getS (v := 10) (pc := 167) C flX11_42 rfl rfl (Nat.le_of_ble_eq_true rfl) (Nat.le_of_ble_eq_true rfl) rfl dX11_bench_167 ?_
      refine wp_iload_n (pc := 170) C 1 dX11_bench_170 rfl rfl ?_
      obtain ⟨g4, h⟩ := gd_some h
      refine wp_iald (pc := 171) C (Nat.le_of_ble_eq_true rfl) rfl g4 dX11_bench_171 ?_
      obtain ⟨g5, h⟩ := gd_some h
      obtain ⟨S6, eS6, h⟩ := bn_some h
      refine wp_iast (pc := 172) C eS6 (Nat.le_of_ble_eq_true rfl) rfl g5 dX11_bench_172 ?_
      refine wp_aload_n (pc := 173) C 0 dX11_bench_173 rfl rfl ?_
      refine wp_getS (v := 19) (pc := 174) C flX11_69 rfl rfl (Nat.le_of_ble_eq_true rfl) (Nat.le_of_ble_eq_true rfl) rfl dX11_bench_174 ?_
      refine wp_iload_n (pc := 177) C 1 dX11_bench_177 rfl rfl ?_
      refine wp_aload_n (pc := 178) C 0 dX11_bench_178 rfl rfl ?_
      refine wp_getS (v := 11) (pc := 179) C flX11_45 rfl rfl (Nat.le_of_ble_eq_true rfl) (Nat.le_of_ble_eq_true rfl) rfl dX11_bench_179 ?_
      refine wp_iload_n (pc := 182) C 1 dX11_bench_182 rfl rfl ?_
      obtain ⟨g7, h⟩ := gd_some h
      refine wp_iald (pc := 183) C (Nat.le_of_ble_eq_true rfl) rfl g7 dX11_bench_183 ?_
      obtain ⟨g8, h⟩ := gd_some h
      obtain ⟨S9, eS9, h⟩ := bn_some h
      refine wp_iast (pc := 184) C eS9 (Nat.le_of_ble_eq_true rfl) rfl g8 dX11_bench_184 ?_
      obtain ⟨z10, ez10, h⟩ := bn_some h
      refine wp_iinc (q := 1) (pc := 185) C (by decide) ez10 [(1, .int z10), (0, .ref (gA G 0))] dX11_bench_185 rfl (Nat.le_of_ble_eq_true rfl) rfl ?_
      refine wp_goto (pc := 188) C 143 dX11_bench_188 (by decide) ?_
      exact wp_sub C [1, 0] rfl (ih _ _ h)
def fX11_bench_j141 (n : Nat) (S : St) : Option (St × Int32) :=
  fX11_bench_l143 n n S 0
set_option maxRecDepth 100000 in
set_option maxHeartbeats 4000000 in
theorem wX11_bench_j141 (C : Cx G sdM cX11_bench 2 RX11 (some .int)) {n : Nat} {S S' : St} {r : Int32} (h : fX11_bench_j141 n S = some (S', r)) : Wp G sdM (rmOf 7 154) 2 (Qm G sdM (some (.int r)) S') S 141 [(0, .ref (gA G 0))] [] := by
  unfold fX11_bench_j141 at h
  refine wp_iconst (v := 0) (pc := 141) C dX11_bench_141 (by decide) ?_
  refine wp_istore_n (pc := 142) C rfl [(1, .int 0), (0, .ref (gA G 0))] dX11_bench_142 rfl (Nat.le_of_ble_eq_true rfl) rfl ?_
  exact wp_sub C [1, 0] rfl (wX11_bench_l143 C _ _ _ h)
def fX11_bench_l93 (n : Nat) : Nat → St → Int32 → Option (St × Int32)
  | 0, _, _ => none
  | j + 1, S, x1 =>
    if 64 ≤ x1 then
      fX11_bench_j141 n S
    else
      gd (ib x1 64) (
      gd (ib x1 64) (
      bn (sI S 14 (Int32.toNatClampNeg x1) (S.1 6 (Int32.toNatClampNeg x1))) (fun S3 : St =>
      gd (ib x1 64) (
      gd (ib x1 64) (
      bn (sI S3 16 (Int32.toNatClampNeg x1) (S3.1 8 (Int32.toNatClampNeg x1))) (fun S6 : St =>
      gd (ib x1 64) (
      gd (ib x1 64) (
      bn (sI S6 20 (Int32.toNatClampNeg x1) (S6.1 12 (Int32.toNatClampNeg x1))) (fun S9 : St =>
      bn (x1 + 1) (fun z10 : Int32 =>
      fX11_bench_l93 n j S9 z10))))))))))
set_option maxRecDepth 100000 in
set_option maxHeartbeats 4000000 in
theorem wX11_bench_l93 (C : Cx G sdM cX11_bench 2 RX11 (some .int)) {n : Nat} {S' : St} {r : Int32} : ∀ (j : Nat) (S : St) (x1 : Int32), fX11_bench_l93 n j S x1 = some (S', r) → Wp G sdM (rmOf 7 154) 2 (Qm G sdM (some (.int r)) S') S 93 [(0, .ref (gA G 0)), (1, .int x1)] [] := by
  intro j
  induction j with
  | zero =>
    intro S x1 h
    exact nomatch (show (none : Option (St × Int32)) = some _ from h)
  | succ j ih =>
    intro S x1 h
    rw [fX11_bench_l93] at h
    refine wp_iload_n (pc := 93) C 1 dX11_bench_93 rfl rfl ?_
    refine wp_bipush (v := 64) (pc := 94) C dX11_bench_94 (by decide) ?_
    refine wp_icmp_ge (pc := 96) C 141 dX11_bench_96 (by decide) (fun q => ?_) (fun q => ?_)
    · have h := it_pos q h
      exact wp_sub C [0] rfl (wX11_bench_j141 C h)
    · have h := it_neg q h
      refine wp_aload_n (pc := 99) C 0 dX11_bench_99 rfl rfl ?_
      refine wp_getS (v := 14) (pc := 100) C flX11_54 rfl rfl (Nat.le_of_ble_eq_true rfl) (Nat.le_of_ble_eq_true rfl) rfl dX11_bench_100 ?_
      refine wp_iload_n (pc := 103) C 1 dX11_bench_103 rfl rfl ?_
      refine wp_aload_n (pc := 104) C 0 dX11_bench_104 rfl rfl ?_
      refine wp_getS (v := 6) (pc := 105) C flX11_30 rfl rfl (Nat.le_of_ble_eq_true rfl) (Nat.le_of_ble_eq_true rfl) rfl dX11_bench_105 ?_
      refine wp_iload_n (pc := 108) C 1 dX11_bench_108 rfl rfl ?_
      obtain ⟨g1, h⟩ := gd_some h
      refine wp_iald (pc := 109) C (Nat.le_of_ble_eq_true rfl) rfl g1 dX11_bench_109 ?_
      obtain ⟨g2, h⟩ := gd_some h
      obtain ⟨S3, eS3, h⟩ := bn_some h
      refine wp_iast (pc := 110) C eS3 (Nat.le_of_ble_eq_true rfl) rfl g2 dX11_bench_110 ?_
      refine wp_aload_n (pc := 111) C 0 dX11_bench_111 rfl rfl ?_
      refine wp_getS (v := 16) (pc := 112) C flX11_60 rfl rfl (Nat.le_of_ble_eq_true rfl) (Nat.le_of_ble_eq_true rfl) rfl dX11_bench_112 ?_
      refine wp_iload_n (pc := 115) C 1 dX11_bench_115 rfl rfl ?_
      refine wp_aload_n (pc := 116) C 0 dX11_bench_116 rfl rfl ?_
      refine wp_getS (v := 8) (pc := 117) C flX11_36 rfl rfl (Nat.le_of_ble_eq_true rfl) (Nat.le_of_ble_eq_true rfl) rfl dX11_bench_117 ?_
      refine wp_iload_n (pc := 120) C 1 dX11_bench_120 rfl rfl ?_
      obtain ⟨g4, h⟩ := gd_some h
      refine wp_iald (pc := 121) C (Nat.le_of_ble_eq_true rfl) rfl g4 dX11_bench_121 ?_
      obtain ⟨g5, h⟩ := gd_some h
      obtain ⟨S6, eS6, h⟩ := bn_some h
      refine wp_iast (pc := 122) C eS6 (Nat.le_of_ble_eq_true rfl) rfl g5 dX11_bench_122 ?_
      refine wp_aload_n (pc := 123) C 0 dX11_bench_123 rfl rfl ?_
      refine wp_getS (v := 20) (pc := 124) C flX11_72 rfl rfl (Nat.le_of_ble_eq_true rfl) (Nat.le_of_ble_eq_true rfl) rfl dX11_bench_124 ?_
      refine wp_iload_n (pc := 127) C 1 dX11_bench_127 rfl rfl ?_
      refine wp_aload_n (pc := 128) C 0 dX11_bench_128 rfl rfl ?_
      refine wp_getS (v := 12) (pc := 129) C flX11_48 rfl rfl (Nat.le_of_ble_eq_true rfl) (Nat.le_of_ble_eq_true rfl) rfl dX11_bench_129 ?_
      refine wp_iload_n (pc := 132) C 1 dX11_bench_132 rfl rfl ?_
      obtain ⟨g7, h⟩ := gd_some h
      refine wp_iald (pc := 133) C (Nat.le_of_ble_eq_true rfl) rfl g7 dX11_bench_133 ?_
      obtain ⟨g8, h⟩ := gd_some h
      obtain ⟨S9, eS9, h⟩ := bn_some h
      refine wp_iast (pc := 134) C eS9 (Nat.le_of_ble_eq_true rfl) rfl g8 dX11_bench_134 ?_
      obtain ⟨z10, ez10, h⟩ := bn_some h
      refine wp_iinc (q := 1) (pc := 135) C (by decide) ez10 [(1, .int z10), (0, .ref (gA G 0))] dX11_bench_135 rfl (Nat.le_of_ble_eq_true rfl) rfl ?_
      refine wp_goto (pc := 138) C 93 dX11_bench_138 (by decide) ?_
      exact wp_sub C [1, 0] rfl (ih _ _ h)
def fX11_bench_j91 (n : Nat) (S : St) : Option (St × Int32) :=
  fX11_bench_l93 n n S 0
set_option maxRecDepth 100000 in
set_option maxHeartbeats 4000000 in
theorem wX11_bench_j91 (C : Cx G sdM cX11_bench 2 RX11 (some .int)) {n : Nat} {S S' : St} {r : Int32} (h : fX11_bench_j91 n S = some (S', r)) : Wp G sdM (rmOf 7 154) 2 (Qm G sdM (some (.int r)) S') S 91 [(0, .ref (gA G 0))] [] := by
  unfold fX11_bench_j91 at h
  refine wp_iconst (v := 0) (pc := 91) C dX11_bench_91 (by decide) ?_
  refine wp_istore_n (pc := 92) C rfl [(1, .int 0), (0, .ref (gA G 0))] dX11_bench_92 rfl (Nat.le_of_ble_eq_true rfl) rfl ?_
  exact wp_sub C [1, 0] rfl (wX11_bench_l93 C _ _ _ h)
def fX11_bench_l67 (n : Nat) : Nat → St → Int32 → Option (St × Int32)
  | 0, _, _ => none
  | j + 1, S, x1 =>
    if 96 ≤ x1 then
      fX11_bench_j91 n S
    else
      gd (ib x1 96) (
      gd (ib x1 96) (
      bn (sI S 15 (Int32.toNatClampNeg x1) (S.1 7 (Int32.toNatClampNeg x1))) (fun S3 : St =>
      bn (x1 + 1) (fun z4 : Int32 =>
      fX11_bench_l67 n j S3 z4))))
set_option maxRecDepth 100000 in
set_option maxHeartbeats 4000000 in
theorem wX11_bench_l67 (C : Cx G sdM cX11_bench 2 RX11 (some .int)) {n : Nat} {S' : St} {r : Int32} : ∀ (j : Nat) (S : St) (x1 : Int32), fX11_bench_l67 n j S x1 = some (S', r) → Wp G sdM (rmOf 7 154) 2 (Qm G sdM (some (.int r)) S') S 67 [(0, .ref (gA G 0)), (1, .int x1)] [] := by
  intro j
  induction j with
  | zero =>
    intro S x1 h
    exact nomatch (show (none : Option (St × Int32)) = some _ from h)
  | succ j ih =>
    intro S x1 h
    rw [fX11_bench_l67] at h
    refine wp_iload_n (pc := 67) C 1 dX11_bench_67 rfl rfl ?_
    refine wp_bipush (v := 96) (pc := 68) C dX11_bench_68 (by decide) ?_
    refine wp_icmp_ge (pc := 70) C 91 dX11_bench_70 (by decide) (fun q => ?_) (fun q => ?_)
    · have h := it_pos q h
      exact wp_sub C [0] rfl (wX11_bench_j91 C h)
    · have h := it_neg q h
      refine wp_aload_n (pc := 73) C 0 dX11_bench_73 rfl rfl ?_
      refine wp_getS (v := 15) (pc := 74) C flX11_57 rfl rfl (Nat.le_of_ble_eq_true rfl) (Nat.le_of_ble_eq_true rfl) rfl dX11_bench_74 ?_
      refine wp_iload_n (pc := 77) C 1 dX11_bench_77 rfl rfl ?_
      refine wp_aload_n (pc := 78) C 0 dX11_bench_78 rfl rfl ?_
      refine wp_getS (v := 7) (pc := 79) C flX11_33 rfl rfl (Nat.le_of_ble_eq_true rfl) (Nat.le_of_ble_eq_true rfl) rfl dX11_bench_79 ?_
      refine wp_iload_n (pc := 82) C 1 dX11_bench_82 rfl rfl ?_
      obtain ⟨g1, h⟩ := gd_some h
      refine wp_iald (pc := 83) C (Nat.le_of_ble_eq_true rfl) rfl g1 dX11_bench_83 ?_
      obtain ⟨g2, h⟩ := gd_some h
      obtain ⟨S3, eS3, h⟩ := bn_some h
      refine wp_iast (pc := 84) C eS3 (Nat.le_of_ble_eq_true rfl) rfl g2 dX11_bench_84 ?_
      obtain ⟨z4, ez4, h⟩ := bn_some h
      refine wp_iinc (q := 1) (pc := 85) C (by decide) ez4 [(1, .int z4), (0, .ref (gA G 0))] dX11_bench_85 rfl (Nat.le_of_ble_eq_true rfl) rfl ?_
      refine wp_goto (pc := 88) C 67 dX11_bench_88 (by decide) ?_
      exact wp_sub C [1, 0] rfl (ih _ _ h)
def fX11_bench_j65 (n : Nat) (S : St) : Option (St × Int32) :=
  fX11_bench_l67 n n S 0
set_option maxRecDepth 100000 in
set_option maxHeartbeats 4000000 in
theorem wX11_bench_j65 (C : Cx G sdM cX11_bench 2 RX11 (some .int)) {n : Nat} {S S' : St} {r : Int32} (h : fX11_bench_j65 n S = some (S', r)) : Wp G sdM (rmOf 7 154) 2 (Qm G sdM (some (.int r)) S') S 65 [(0, .ref (gA G 0))] [] := by
  unfold fX11_bench_j65 at h
  refine wp_iconst (v := 0) (pc := 65) C dX11_bench_65 (by decide) ?_
  refine wp_istore_n (pc := 66) C rfl [(1, .int 0), (0, .ref (gA G 0))] dX11_bench_66 rfl (Nat.le_of_ble_eq_true rfl) rfl ?_
  exact wp_sub C [1, 0] rfl (wX11_bench_l67 C _ _ _ h)
def fX11_bench_l40 (n : Nat) : Nat → St → Int32 → Option (St × Int32)
  | 0, _, _ => none
  | j + 1, S, x1 =>
    if 128 ≤ x1 then
      fX11_bench_j65 n S
    else
      gd (ib x1 128) (
      gd (ib x1 128) (
      bn (sI S 13 (Int32.toNatClampNeg x1) (S.1 5 (Int32.toNatClampNeg x1))) (fun S3 : St =>
      bn (x1 + 1) (fun z4 : Int32 =>
      fX11_bench_l40 n j S3 z4))))
set_option maxRecDepth 100000 in
set_option maxHeartbeats 4000000 in
theorem wX11_bench_l40 (C : Cx G sdM cX11_bench 2 RX11 (some .int)) {n : Nat} {S' : St} {r : Int32} : ∀ (j : Nat) (S : St) (x1 : Int32), fX11_bench_l40 n j S x1 = some (S', r) → Wp G sdM (rmOf 7 154) 2 (Qm G sdM (some (.int r)) S') S 40 [(0, .ref (gA G 0)), (1, .int x1)] [] := by
  intro j
  induction j with
  | zero =>
    intro S x1 h
    exact nomatch (show (none : Option (St × Int32)) = some _ from h)
  | succ j ih =>
    intro S x1 h
    rw [fX11_bench_l40] at h
    refine wp_iload_n (pc := 40) C 1 dX11_bench_40 rfl rfl ?_
    refine wp_sipush (v := 128) (pc := 41) C dX11_bench_41 (by decide) ?_
    refine wp_icmp_ge (pc := 44) C 65 dX11_bench_44 (by decide) (fun q => ?_) (fun q => ?_)
    · have h := it_pos q h
      exact wp_sub C [0] rfl (wX11_bench_j65 C h)
    · have h := it_neg q h
      refine wp_aload_n (pc := 47) C 0 dX11_bench_47 rfl rfl ?_
      refine wp_getS (v := 13) (pc := 48) C flX11_51 rfl rfl (Nat.le_of_ble_eq_true rfl) (Nat.le_of_ble_eq_true rfl) rfl dX11_bench_48 ?_
      refine wp_iload_n (pc := 51) C 1 dX11_bench_51 rfl rfl ?_
      refine wp_aload_n (pc := 52) C 0 dX11_bench_52 rfl rfl ?_
      refine wp_getS (v := 5) (pc := 53) C flX11_27 rfl rfl (Nat.le_of_ble_eq_true rfl) (Nat.le_of_ble_eq_true rfl) rfl dX11_bench_53 ?_
      refine wp_iload_n (pc := 56) C 1 dX11_bench_56 rfl rfl ?_
      obtain ⟨g1, h⟩ := gd_some h
      refine wp_iald (pc := 57) C (Nat.le_of_ble_eq_true rfl) rfl g1 dX11_bench_57 ?_
      obtain ⟨g2, h⟩ := gd_some h
      obtain ⟨S3, eS3, h⟩ := bn_some h
      refine wp_iast (pc := 58) C eS3 (Nat.le_of_ble_eq_true rfl) rfl g2 dX11_bench_58 ?_
      obtain ⟨z4, ez4, h⟩ := bn_some h
      refine wp_iinc (q := 1) (pc := 59) C (by decide) ez4 [(1, .int z4), (0, .ref (gA G 0))] dX11_bench_59 rfl (Nat.le_of_ble_eq_true rfl) rfl ?_
      refine wp_goto (pc := 62) C 40 dX11_bench_62 (by decide) ?_
      exact wp_sub C [1, 0] rfl (ih _ _ h)
def fX11_bench_j38 (n : Nat) (S : St) : Option (St × Int32) :=
  fX11_bench_l40 n n S 0
set_option maxRecDepth 100000 in
set_option maxHeartbeats 4000000 in
theorem wX11_bench_j38 (C : Cx G sdM cX11_bench 2 RX11 (some .int)) {n : Nat} {S S' : St} {r : Int32} (h : fX11_bench_j38 n S = some (S', r)) : Wp G sdM (rmOf 7 154) 2 (Qm G sdM (some (.int r)) S') S 38 [(0, .ref (gA G 0))] [] := by
  unfold fX11_bench_j38 at h
  refine wp_iconst (v := 0) (pc := 38) C dX11_bench_38 (by decide) ?_
  refine wp_istore_n (pc := 39) C rfl [(1, .int 0), (0, .ref (gA G 0))] dX11_bench_39 rfl (Nat.le_of_ble_eq_true rfl) rfl ?_
  exact wp_sub C [1, 0] rfl (wX11_bench_l40 C _ _ _ h)
def fX11_bench_l15 (n : Nat) : Nat → St → Int32 → Option (St × Int32)
  | 0, _, _ => none
  | j + 1, S, x1 =>
    if 5 ≤ x1 then
      fX11_bench_j38 n S
    else
      gd (ib x1 5) (
      gd (ib x1 5) (
      bn (sI S 4 (Int32.toNatClampNeg x1) (S.1 3 (Int32.toNatClampNeg x1))) (fun S3 : St =>
      bn (x1 + 1) (fun z4 : Int32 =>
      fX11_bench_l15 n j S3 z4))))
set_option maxRecDepth 100000 in
set_option maxHeartbeats 4000000 in
theorem wX11_bench_l15 (C : Cx G sdM cX11_bench 2 RX11 (some .int)) {n : Nat} {S' : St} {r : Int32} : ∀ (j : Nat) (S : St) (x1 : Int32), fX11_bench_l15 n j S x1 = some (S', r) → Wp G sdM (rmOf 7 154) 2 (Qm G sdM (some (.int r)) S') S 15 [(0, .ref (gA G 0)), (1, .int x1)] [] := by
  intro j
  induction j with
  | zero =>
    intro S x1 h
    exact nomatch (show (none : Option (St × Int32)) = some _ from h)
  | succ j ih =>
    intro S x1 h
    rw [fX11_bench_l15] at h
    refine wp_iload_n (pc := 15) C 1 dX11_bench_15 rfl rfl ?_
    refine wp_iconst (v := 5) (pc := 16) C dX11_bench_16 (by decide) ?_
    refine wp_icmp_ge (pc := 17) C 38 dX11_bench_17 (by decide) (fun q => ?_) (fun q => ?_)
    · have h := it_pos q h
      exact wp_sub C [0] rfl (wX11_bench_j38 C h)
    · have h := it_neg q h
      refine wp_aload_n (pc := 20) C 0 dX11_bench_20 rfl rfl ?_
      refine wp_getS (v := 4) (pc := 21) C flX11_24 rfl rfl (Nat.le_of_ble_eq_true rfl) (Nat.le_of_ble_eq_true rfl) rfl dX11_bench_21 ?_
      refine wp_iload_n (pc := 24) C 1 dX11_bench_24 rfl rfl ?_
      refine wp_aload_n (pc := 25) C 0 dX11_bench_25 rfl rfl ?_
      refine wp_getS (v := 3) (pc := 26) C flX11_21 rfl rfl (Nat.le_of_ble_eq_true rfl) (Nat.le_of_ble_eq_true rfl) rfl dX11_bench_26 ?_
      refine wp_iload_n (pc := 29) C 1 dX11_bench_29 rfl rfl ?_
      obtain ⟨g1, h⟩ := gd_some h
      refine wp_iald (pc := 30) C (Nat.le_of_ble_eq_true rfl) rfl g1 dX11_bench_30 ?_
      obtain ⟨g2, h⟩ := gd_some h
      obtain ⟨S3, eS3, h⟩ := bn_some h
      refine wp_iast (pc := 31) C eS3 (Nat.le_of_ble_eq_true rfl) rfl g2 dX11_bench_31 ?_
      obtain ⟨z4, ez4, h⟩ := bn_some h
      refine wp_iinc (q := 1) (pc := 32) C (by decide) ez4 [(1, .int z4), (0, .ref (gA G 0))] dX11_bench_32 rfl (Nat.le_of_ble_eq_true rfl) rfl ?_
      refine wp_goto (pc := 35) C 15 dX11_bench_35 (by decide) ?_
      exact wp_sub C [1, 0] rfl (ih _ _ h)
def fX11_bench (n : Nat) (S : St) : Option (St × Int32) :=
  bd (fX11_readAll n S) (fun S1 r2 =>
  if (S1.1 0 2) ≤ 0 then
    fX11_bench_l15 n n S1 0
  else
    some (S1, (-1)))
set_option maxRecDepth 100000 in
set_option maxHeartbeats 4000000 in
theorem wX11_bench (C : Cx G sdM cX11_bench 2 RX11 (some .int)) {n : Nat} {S S' : St} {r : Int32} (h : fX11_bench n S = some (S', r)) : Wp G sdM (rmOf 7 154) 2 (Qm G sdM (some (.int r)) S') S 0 [(0, .ref (gA G 0))] [] := by
  unfold fX11_bench at h
  refine wp_aload_n (pc := 0) C 0 dX11_bench_0 rfl rfl ?_
  obtain ⟨S1, r2, cS1, h⟩ := bd_some h
  refine wp_callVv (As := []) (st := []) (pc := 1) C (CtX11_readAll cS1) mX11_readAll iX11_readAll kX11_327 (Nat.le_of_ble_eq_true rfl) rfl (by decide) rfl rfl rfl rfl (Nat.le_of_ble_eq_true rfl) ⟨Nat.le_of_ble_eq_true rfl, Nat.le_of_ble_eq_true rfl⟩ dX11_bench_1 ?_
  refine wp_aload_n (pc := 4) C 0 dX11_bench_4 rfl rfl ?_
  refine wp_getI (pc := 5) C flX11_204 rfl (Nat.le_of_ble_eq_true rfl) rfl dX11_bench_5 ?_
  refine wp_if_le (pc := 8) C 13 dX11_bench_8 (by decide) (fun q => ?_) (fun q => ?_)
  · have h := it_pos q h
    refine wp_iconst (v := 0) (pc := 13) C dX11_bench_13 (by decide) ?_
    refine wp_istore_n (pc := 14) C rfl [(1, .int 0), (0, .ref (gA G 0))] dX11_bench_14 rfl (Nat.le_of_ble_eq_true rfl) rfl ?_
    exact wp_sub C [1, 0] rfl (wX11_bench_l15 C _ _ _ h)
  · have h := it_neg q h
    refine wp_iconst (v := (-1)) (pc := 11) C dX11_bench_11 (by decide) ?_
    exact rt_i C rfl h dX11_bench_12
theorem CtX11_bench {n : Nat} {S S' : St} {r : Int32} (h : fX11_bench n S = some (S', r)) : Ct l sdM cy ad D yX11_bench cX11_bench 2 (some .int) 7 154 [.ref (ad 0)] S (some (.int r)) S' :=
  Ct_of (own := RX11) mX11_bench rfl (Nat.le_of_ble_eq_true rfl) (fun G e1 e2 e3 e4 C => by subst e1 e2 e3 e4; exact wX11_bench C h)
def fX11_fault (n : Nat) (S : St) (x1 : Int32) : Option (St × Int32) :=
  if x1 = 0 then
    some (S, S.1 0 2)
  else
    if x1 = 1 then
      some (S, S.1 0 3)
    else
      some (S, (-1))
set_option maxRecDepth 100000 in
set_option maxHeartbeats 4000000 in
theorem wX11_fault (C : Cx G sdM cX11_fault 2 RX11 (some .int)) {n : Nat} {S S' : St} {r : Int32} {x1 : Int32} (h : fX11_fault n S x1 = some (S', r)) : Wp G sdM (rmOf 0 0) 2 (Qm G sdM (some (.int r)) S') S 0 [(0, .ref (gA G 0)), (1, .int x1)] [] := by
  unfold fX11_fault at h
  refine wp_iload_n (pc := 0) C 1 dX11_fault_0 rfl rfl ?_
  refine wp_if_ne (pc := 1) C 11 dX11_fault_1 (by decide) (fun q => ?_) (fun q => ?_)
  · have h := it_neg q h
    refine wp_iload_n (pc := 11) C 1 dX11_fault_11 rfl rfl ?_
    refine wp_iconst (v := 1) (pc := 12) C dX11_fault_12 (by decide) ?_
    refine wp_icmp_ne (pc := 13) C 23 dX11_fault_13 (by decide) (fun q => ?_) (fun q => ?_)
    · have h := it_neg q h
      refine wp_iconst (v := (-1)) (pc := 23) C dX11_fault_23 (by decide) ?_
      exact rt_i C rfl h dX11_fault_24
    · have h := it_pos q h
      refine wp_aload_n (pc := 16) C 0 dX11_fault_16 rfl rfl ?_
      refine wp_getI (pc := 17) C flX11_13 rfl (Nat.le_of_ble_eq_true rfl) rfl dX11_fault_17 ?_
      refine wp_goto (pc := 20) C 24 dX11_fault_20 (by decide) ?_
      exact rt_i C rfl h dX11_fault_24
  · have h := it_pos q h
    refine wp_aload_n (pc := 4) C 0 dX11_fault_4 rfl rfl ?_
    refine wp_getI (pc := 5) C flX11_204 rfl (Nat.le_of_ble_eq_true rfl) rfl dX11_fault_5 ?_
    refine wp_goto (pc := 8) C 24 dX11_fault_8 (by decide) ?_
    exact rt_i C rfl h dX11_fault_24
theorem CtX11_fault {n : Nat} {S S' : St} {r : Int32} {x1 : Int32} (h : fX11_fault n S x1 = some (S', r)) : Ct l sdM cy ad D yX11_fault cX11_fault 2 (some .int) 0 0 [.ref (ad 0), .int x1] S (some (.int r)) S' :=
  Ct_of (own := RX11) mX11_fault rfl (Nat.le_of_ble_eq_true rfl) (fun G e1 e2 e3 e4 C => by subst e1 e2 e3 e4; exact wX11_fault C h)
def fX11_lamps (n : Nat) (S : St) : Option (St × Int32) :=
  gd (ib 2 5) (
  some (S, S.1 4 (Int32.toNatClampNeg 2)))
set_option maxRecDepth 100000 in
set_option maxHeartbeats 4000000 in
theorem wX11_lamps (C : Cx G sdM cX11_lamps 1 RX11 (some .int)) {n : Nat} {S S' : St} {r : Int32} (h : fX11_lamps n S = some (S', r)) : Wp G sdM (rmOf 0 0) 1 (Qm G sdM (some (.int r)) S') S 0 [(0, .ref (gA G 0))] [] := by
  unfold fX11_lamps at h
  refine wp_aload_n (pc := 0) C 0 dX11_lamps_0 rfl rfl ?_
  refine wp_getS (v := 4) (pc := 1) C flX11_24 rfl rfl (Nat.le_of_ble_eq_true rfl) (Nat.le_of_ble_eq_true rfl) rfl dX11_lamps_1 ?_
  refine wp_iconst (v := 2) (pc := 4) C dX11_lamps_4 (by decide) ?_
  obtain ⟨g1, h⟩ := gd_some h
  refine wp_iald (pc := 5) C (Nat.le_of_ble_eq_true rfl) rfl g1 dX11_lamps_5 ?_
  exact rt_i C rfl h dX11_lamps_6
theorem CtX11_lamps {n : Nat} {S S' : St} {r : Int32} (h : fX11_lamps n S = some (S', r)) : Ct l sdM cy ad D yX11_lamps cX11_lamps 1 (some .int) 0 0 [.ref (ad 0)] S (some (.int r)) S' :=
  Ct_of (own := RX11) mX11_lamps rfl (Nat.le_of_ble_eq_true rfl) (fun G e1 e2 e3 e4 C => by subst e1 e2 e3 e4; exact wX11_lamps C h)
def fX11_eyes (n : Nat) (S : St) : Option (St × Int32) :=
  gd (ib 3 5) (
  some (S, S.1 4 (Int32.toNatClampNeg 3)))
set_option maxRecDepth 100000 in
set_option maxHeartbeats 4000000 in
theorem wX11_eyes (C : Cx G sdM cX11_eyes 1 RX11 (some .int)) {n : Nat} {S S' : St} {r : Int32} (h : fX11_eyes n S = some (S', r)) : Wp G sdM (rmOf 0 0) 1 (Qm G sdM (some (.int r)) S') S 0 [(0, .ref (gA G 0))] [] := by
  unfold fX11_eyes at h
  refine wp_aload_n (pc := 0) C 0 dX11_eyes_0 rfl rfl ?_
  refine wp_getS (v := 4) (pc := 1) C flX11_24 rfl rfl (Nat.le_of_ble_eq_true rfl) (Nat.le_of_ble_eq_true rfl) rfl dX11_eyes_1 ?_
  refine wp_iconst (v := 3) (pc := 4) C dX11_eyes_4 (by decide) ?_
  obtain ⟨g1, h⟩ := gd_some h
  refine wp_iald (pc := 5) C (Nat.le_of_ble_eq_true rfl) rfl g1 dX11_eyes_5 ?_
  exact rt_i C rfl h dX11_eyes_6
theorem CtX11_eyes {n : Nat} {S S' : St} {r : Int32} (h : fX11_eyes n S = some (S', r)) : Ct l sdM cy ad D yX11_eyes cX11_eyes 1 (some .int) 0 0 [.ref (ad 0)] S (some (.int r)) S' :=
  Ct_of (own := RX11) mX11_eyes rfl (Nat.le_of_ble_eq_true rfl) (fun G e1 e2 e3 e4 C => by subst e1 e2 e3 e4; exact wX11_eyes C h)
def fX11_isIn (n : Nat) (S : St) (x0 : Int32) (x1 : Int32) (x2 : Int32) : Option (St × Int32) :=
  if x0 < x1 then
    some (S, 0)
  else
    if x2 < x0 then
      some (S, 0)
    else
      some (S, 1)
set_option maxRecDepth 100000 in
set_option maxHeartbeats 4000000 in
theorem wX11_isIn (C : Cx G sdM cX11_isIn 3 RX11 (some .boolean)) {n : Nat} {S S' : St} {r : Int32} {x0 : Int32} {x1 : Int32} {x2 : Int32} (h : fX11_isIn n S x0 x1 x2 = some (S', r)) : Wp G sdM (rmOf 0 0) 3 (Qm G sdM (some (.int r)) S') S 0 [(0, .int x0), (1, .int x1), (2, .int x2)] [] := by
  unfold fX11_isIn at h
  refine wp_iload_n (pc := 0) C 0 dX11_isIn_0 rfl rfl ?_
  refine wp_iload_n (pc := 1) C 1 dX11_isIn_1 rfl rfl ?_
  refine wp_icmp_lt (pc := 2) C 14 dX11_isIn_2 (by decide) (fun q => ?_) (fun q => ?_)
  · have h := it_pos q h
    refine wp_iconst (v := 0) (pc := 14) C dX11_isIn_14 (by decide) ?_
    exact rt_z C (Or.inl rfl) rfl h dX11_isIn_15
  · have h := it_neg q h
    refine wp_iload_n (pc := 5) C 0 dX11_isIn_5 rfl rfl ?_
    refine wp_iload_n (pc := 6) C 2 dX11_isIn_6 rfl rfl ?_
    refine wp_icmp_gt (pc := 7) C 14 dX11_isIn_7 (by decide) (fun q => ?_) (fun q => ?_)
    · have h := it_pos q h
      refine wp_iconst (v := 0) (pc := 14) C dX11_isIn_14 (by decide) ?_
      exact rt_z C (Or.inl rfl) rfl h dX11_isIn_15
    · have h := it_neg q h
      refine wp_iconst (v := 1) (pc := 10) C dX11_isIn_10 (by decide) ?_
      refine wp_goto (pc := 11) C 15 dX11_isIn_11 (by decide) ?_
      exact rt_z C (Or.inr rfl) rfl h dX11_isIn_15
theorem CtX11_isIn {n : Nat} {S S' : St} {r : Int32} {x0 : Int32} {x1 : Int32} {x2 : Int32} (h : fX11_isIn n S x0 x1 x2 = some (S', r)) : Ct l sdM cy ad D yX11_isIn cX11_isIn 3 (some .boolean) 0 0 [.int x0, .int x1, .int x2] S (some (.int r)) S' :=
  Ct_of (own := RX11) mX11_isIn rfl (Nat.le_of_ble_eq_true rfl) (fun G e1 e2 e3 e4 C => by subst e1 e2 e3 e4; exact wX11_isIn C h)
def fX11_isDye (n : Nat) (S : St) (x1 : Int32) : Option (St × Int32) :=
  bd (fX11_dyes n S) (fun S1 r2 =>
  bd (fX11_isIn n S1 x1 0 (r2 - 1)) (fun S3 r4 =>
  gd (r4 = 0 ∨ r4 = 1) (
  some (S3, r4))))
set_option maxRecDepth 100000 in
set_option maxHeartbeats 4000000 in
theorem wX11_isDye (C : Cx G sdM cX11_isDye 2 RX11 (some .boolean)) {n : Nat} {S S' : St} {r : Int32} {x1 : Int32} (h : fX11_isDye n S x1 = some (S', r)) : Wp G sdM (rmOf 1 22) 2 (Qm G sdM (some (.int r)) S') S 0 [(0, .ref (gA G 0)), (1, .int x1)] [] := by
  unfold fX11_isDye at h
  refine wp_iload_n (pc := 0) C 1 dX11_isDye_0 rfl rfl ?_
  refine wp_iconst (v := 0) (pc := 1) C dX11_isDye_1 (by decide) ?_
  refine wp_aload_n (pc := 2) C 0 dX11_isDye_2 rfl rfl ?_
  obtain ⟨S1, r2, cS1, h⟩ := bd_some h
  refine wp_callVi (As := []) (st := [.int 0, .int x1]) (pc := 3) C (CtX11_dyes cS1) mX11_dyes iX11_dyes kX11_357 (Nat.le_of_ble_eq_true rfl) rfl (by decide) rfl rfl rfl rfl (Nat.le_of_ble_eq_true rfl) ⟨Nat.le_of_ble_eq_true rfl, Nat.le_of_ble_eq_true rfl⟩ dX11_isDye_3 ?_
  refine wp_iconst (v := 1) (pc := 6) C dX11_isDye_6 (by decide) ?_
  refine wp_isub (pc := 7) C dX11_isDye_7 ?_
  obtain ⟨S3, r4, cS3, h⟩ := bd_some h
  refine wp_callSi (As := [.int x1, .int 0, .int (r2 - 1)]) (st := []) (pc := 8) C (CtX11_isIn cS3) mX11_isIn sX11_isIn kX11_361 rfl rfl (Nat.le_of_ble_eq_true rfl) ⟨Nat.le_of_ble_eq_true rfl, Nat.le_of_ble_eq_true rfl⟩ dX11_isDye_8 ?_
  obtain ⟨g5, h⟩ := gd_some h
  exact rt_z C g5 rfl h dX11_isDye_11
theorem CtX11_isDye {n : Nat} {S S' : St} {r : Int32} {x1 : Int32} (h : fX11_isDye n S x1 = some (S', r)) : Ct l sdM cy ad D yX11_isDye cX11_isDye 2 (some .boolean) 1 22 [.ref (ad 0), .int x1] S (some (.int r)) S' :=
  Ct_of (own := RX11) mX11_isDye rfl (Nat.le_of_ble_eq_true rfl) (fun G e1 e2 e3 e4 C => by subst e1 e2 e3 e4; exact wX11_isDye C h)
def fX11_isLamp (n : Nat) (S : St) (x1 : Int32) : Option (St × Int32) :=
  bd (fX11_lamps n S) (fun S1 r2 =>
  bd (fX11_isIn n S1 x1 0 (r2 - 1)) (fun S3 r4 =>
  gd (r4 = 0 ∨ r4 = 1) (
  some (S3, r4))))
set_option maxRecDepth 100000 in
set_option maxHeartbeats 4000000 in
theorem wX11_isLamp (C : Cx G sdM cX11_isLamp 2 RX11 (some .boolean)) {n : Nat} {S S' : St} {r : Int32} {x1 : Int32} (h : fX11_isLamp n S x1 = some (S', r)) : Wp G sdM (rmOf 1 22) 2 (Qm G sdM (some (.int r)) S') S 0 [(0, .ref (gA G 0)), (1, .int x1)] [] := by
  unfold fX11_isLamp at h
  refine wp_iload_n (pc := 0) C 1 dX11_isLamp_0 rfl rfl ?_
  refine wp_iconst (v := 0) (pc := 1) C dX11_isLamp_1 (by decide) ?_
  refine wp_aload_n (pc := 2) C 0 dX11_isLamp_2 rfl rfl ?_
  obtain ⟨S1, r2, cS1, h⟩ := bd_some h
  refine wp_callVi (As := []) (st := [.int 0, .int x1]) (pc := 3) C (CtX11_lamps cS1) mX11_lamps iX11_lamps kX11_365 (Nat.le_of_ble_eq_true rfl) rfl (by decide) rfl rfl rfl rfl (Nat.le_of_ble_eq_true rfl) ⟨Nat.le_of_ble_eq_true rfl, Nat.le_of_ble_eq_true rfl⟩ dX11_isLamp_3 ?_
  refine wp_iconst (v := 1) (pc := 6) C dX11_isLamp_6 (by decide) ?_
  refine wp_isub (pc := 7) C dX11_isLamp_7 ?_
  obtain ⟨S3, r4, cS3, h⟩ := bd_some h
  refine wp_callSi (As := [.int x1, .int 0, .int (r2 - 1)]) (st := []) (pc := 8) C (CtX11_isIn cS3) mX11_isIn sX11_isIn kX11_361 rfl rfl (Nat.le_of_ble_eq_true rfl) ⟨Nat.le_of_ble_eq_true rfl, Nat.le_of_ble_eq_true rfl⟩ dX11_isLamp_8 ?_
  obtain ⟨g5, h⟩ := gd_some h
  exact rt_z C g5 rfl h dX11_isLamp_11
theorem CtX11_isLamp {n : Nat} {S S' : St} {r : Int32} {x1 : Int32} (h : fX11_isLamp n S x1 = some (S', r)) : Ct l sdM cy ad D yX11_isLamp cX11_isLamp 2 (some .boolean) 1 22 [.ref (ad 0), .int x1] S (some (.int r)) S' :=
  Ct_of (own := RX11) mX11_isLamp rfl (Nat.le_of_ble_eq_true rfl) (fun G e1 e2 e3 e4 C => by subst e1 e2 e3 e4; exact wX11_isLamp C h)
def fX11_isEye (n : Nat) (S : St) (x1 : Int32) : Option (St × Int32) :=
  bd (fX11_eyes n S) (fun S1 r2 =>
  bd (fX11_isIn n S1 x1 0 (r2 - 1)) (fun S3 r4 =>
  gd (r4 = 0 ∨ r4 = 1) (
  some (S3, r4))))
set_option maxRecDepth 100000 in
set_option maxHeartbeats 4000000 in
theorem wX11_isEye (C : Cx G sdM cX11_isEye 2 RX11 (some .boolean)) {n : Nat} {S S' : St} {r : Int32} {x1 : Int32} (h : fX11_isEye n S x1 = some (S', r)) : Wp G sdM (rmOf 1 22) 2 (Qm G sdM (some (.int r)) S') S 0 [(0, .ref (gA G 0)), (1, .int x1)] [] := by
  unfold fX11_isEye at h
  refine wp_iload_n (pc := 0) C 1 dX11_isEye_0 rfl rfl ?_
  refine wp_iconst (v := 0) (pc := 1) C dX11_isEye_1 (by decide) ?_
  refine wp_aload_n (pc := 2) C 0 dX11_isEye_2 rfl rfl ?_
  obtain ⟨S1, r2, cS1, h⟩ := bd_some h
  refine wp_callVi (As := []) (st := [.int 0, .int x1]) (pc := 3) C (CtX11_eyes cS1) mX11_eyes iX11_eyes kX11_368 (Nat.le_of_ble_eq_true rfl) rfl (by decide) rfl rfl rfl rfl (Nat.le_of_ble_eq_true rfl) ⟨Nat.le_of_ble_eq_true rfl, Nat.le_of_ble_eq_true rfl⟩ dX11_isEye_3 ?_
  refine wp_iconst (v := 1) (pc := 6) C dX11_isEye_6 (by decide) ?_
  refine wp_isub (pc := 7) C dX11_isEye_7 ?_
  obtain ⟨S3, r4, cS3, h⟩ := bd_some h
  refine wp_callSi (As := [.int x1, .int 0, .int (r2 - 1)]) (st := []) (pc := 8) C (CtX11_isIn cS3) mX11_isIn sX11_isIn kX11_361 rfl rfl (Nat.le_of_ble_eq_true rfl) ⟨Nat.le_of_ble_eq_true rfl, Nat.le_of_ble_eq_true rfl⟩ dX11_isEye_8 ?_
  obtain ⟨g5, h⟩ := gd_some h
  exact rt_z C g5 rfl h dX11_isEye_11
theorem CtX11_isEye {n : Nat} {S S' : St} {r : Int32} {x1 : Int32} (h : fX11_isEye n S x1 = some (S', r)) : Ct l sdM cy ad D yX11_isEye cX11_isEye 2 (some .boolean) 1 22 [.ref (ad 0), .int x1] S (some (.int r)) S' :=
  Ct_of (own := RX11) mX11_isEye rfl (Nat.le_of_ble_eq_true rfl) (fun G e1 e2 e3 e4 C => by subst e1 e2 e3 e4; exact wX11_isEye C h)
def fX11_isGround (n : Nat) (S : St) (x1 : Int32) : Option (St × Int32) :=
  gd (ib 1 5) (
  bd (fX11_isIn n S x1 0 ((S.1 4 (Int32.toNatClampNeg 1)) - 1)) (fun S2 r3 =>
  gd (r3 = 0 ∨ r3 = 1) (
  some (S2, r3))))
set_option maxRecDepth 100000 in
set_option maxHeartbeats 4000000 in
theorem wX11_isGround (C : Cx G sdM cX11_isGround 2 RX11 (some .boolean)) {n : Nat} {S S' : St} {r : Int32} {x1 : Int32} (h : fX11_isGround n S x1 = some (S', r)) : Wp G sdM (rmOf 1 22) 2 (Qm G sdM (some (.int r)) S') S 0 [(0, .ref (gA G 0)), (1, .int x1)] [] := by
  unfold fX11_isGround at h
  refine wp_iload_n (pc := 0) C 1 dX11_isGround_0 rfl rfl ?_
  refine wp_iconst (v := 0) (pc := 1) C dX11_isGround_1 (by decide) ?_
  refine wp_aload_n (pc := 2) C 0 dX11_isGround_2 rfl rfl ?_
  refine wp_getS (v := 4) (pc := 3) C flX11_24 rfl rfl (Nat.le_of_ble_eq_true rfl) (Nat.le_of_ble_eq_true rfl) rfl dX11_isGround_3 ?_
  refine wp_iconst (v := 1) (pc := 6) C dX11_isGround_6 (by decide) ?_
  obtain ⟨g1, h⟩ := gd_some h
  refine wp_iald (pc := 7) C (Nat.le_of_ble_eq_true rfl) rfl g1 dX11_isGround_7 ?_
  refine wp_iconst (v := 1) (pc := 8) C dX11_isGround_8 (by decide) ?_
  refine wp_isub (pc := 9) C dX11_isGround_9 ?_
  obtain ⟨S2, r3, cS2, h⟩ := bd_some h
  refine wp_callSi (As := [.int x1, .int 0, .int ((S.1 4 (Int32.toNatClampNeg 1)) - 1)]) (st := []) (pc := 10) C (CtX11_isIn cS2) mX11_isIn sX11_isIn kX11_361 rfl rfl (Nat.le_of_ble_eq_true rfl) ⟨Nat.le_of_ble_eq_true rfl, Nat.le_of_ble_eq_true rfl⟩ dX11_isGround_10 ?_
  obtain ⟨g4, h⟩ := gd_some h
  exact rt_z C g4 rfl h dX11_isGround_13
theorem CtX11_isGround {n : Nat} {S S' : St} {r : Int32} {x1 : Int32} (h : fX11_isGround n S x1 = some (S', r)) : Ct l sdM cy ad D yX11_isGround cX11_isGround 2 (some .boolean) 1 22 [.ref (ad 0), .int x1] S (some (.int r)) S' :=
  Ct_of (own := RX11) mX11_isGround rfl (Nat.le_of_ble_eq_true rfl) (fun G e1 e2 e3 e4 C => by subst e1 e2 e3 e4; exact wX11_isGround C h)
def fX11_isGood (n : Nat) (S : St) (x1 : Int32) : Option (St × Int32) :=
  if x1 = (-1) then
    gd (ib 1 5) (
    if (S.1 4 (Int32.toNatClampNeg 1)) ≤ 0 then
      some (S, 0)
    else
      some (S, 1))
  else
    gd (ib 4 5) (
    bd (fX11_isIn n S x1 0 ((S.1 4 (Int32.toNatClampNeg 4)) - 1)) (fun S2 r3 =>
    gd (r3 = 0 ∨ r3 = 1) (
    some (S2, r3))))
set_option maxRecDepth 100000 in
set_option maxHeartbeats 4000000 in
theorem wX11_isGood (C : Cx G sdM cX11_isGood 2 RX11 (some .boolean)) {n : Nat} {S S' : St} {r : Int32} {x1 : Int32} (h : fX11_isGood n S x1 = some (S', r)) : Wp G sdM (rmOf 1 22) 2 (Qm G sdM (some (.int r)) S') S 0 [(0, .ref (gA G 0)), (1, .int x1)] [] := by
  unfold fX11_isGood at h
  refine wp_iload_n (pc := 0) C 1 dX11_isGood_0 rfl rfl ?_
  refine wp_iconst (v := (-1)) (pc := 1) C dX11_isGood_1 (by decide) ?_
  refine wp_icmp_ne (pc := 2) C 22 dX11_isGood_2 (by decide) (fun q => ?_) (fun q => ?_)
  · have h := it_neg q h
    refine wp_iload_n (pc := 22) C 1 dX11_isGood_22 rfl rfl ?_
    refine wp_iconst (v := 0) (pc := 23) C dX11_isGood_23 (by decide) ?_
    refine wp_aload_n (pc := 24) C 0 dX11_isGood_24 rfl rfl ?_
    refine wp_getS (v := 4) (pc := 25) C flX11_24 rfl rfl (Nat.le_of_ble_eq_true rfl) (Nat.le_of_ble_eq_true rfl) rfl dX11_isGood_25 ?_
    refine wp_iconst (v := 4) (pc := 28) C dX11_isGood_28 (by decide) ?_
    obtain ⟨g1, h⟩ := gd_some h
    refine wp_iald (pc := 29) C (Nat.le_of_ble_eq_true rfl) rfl g1 dX11_isGood_29 ?_
    refine wp_iconst (v := 1) (pc := 30) C dX11_isGood_30 (by decide) ?_
    refine wp_isub (pc := 31) C dX11_isGood_31 ?_
    obtain ⟨S2, r3, cS2, h⟩ := bd_some h
    refine wp_callSi (As := [.int x1, .int 0, .int ((S.1 4 (Int32.toNatClampNeg 4)) - 1)]) (st := []) (pc := 32) C (CtX11_isIn cS2) mX11_isIn sX11_isIn kX11_361 rfl rfl (Nat.le_of_ble_eq_true rfl) ⟨Nat.le_of_ble_eq_true rfl, Nat.le_of_ble_eq_true rfl⟩ dX11_isGood_32 ?_
    obtain ⟨g4, h⟩ := gd_some h
    exact rt_z C g4 rfl h dX11_isGood_35
  · have h := it_pos q h
    refine wp_aload_n (pc := 5) C 0 dX11_isGood_5 rfl rfl ?_
    refine wp_getS (v := 4) (pc := 6) C flX11_24 rfl rfl (Nat.le_of_ble_eq_true rfl) (Nat.le_of_ble_eq_true rfl) rfl dX11_isGood_6 ?_
    refine wp_iconst (v := 1) (pc := 9) C dX11_isGood_9 (by decide) ?_
    obtain ⟨g5, h⟩ := gd_some h
    refine wp_iald (pc := 10) C (Nat.le_of_ble_eq_true rfl) rfl g5 dX11_isGood_10 ?_
    refine wp_if_le (pc := 11) C 18 dX11_isGood_11 (by decide) (fun q => ?_) (fun q => ?_)
    · have h := it_pos q h
      refine wp_iconst (v := 0) (pc := 18) C dX11_isGood_18 (by decide) ?_
      refine wp_goto (pc := 19) C 35 dX11_isGood_19 (by decide) ?_
      exact rt_z C (Or.inl rfl) rfl h dX11_isGood_35
    · have h := it_neg q h
      refine wp_iconst (v := 1) (pc := 14) C dX11_isGood_14 (by decide) ?_
      refine wp_goto (pc := 15) C 35 dX11_isGood_15 (by decide) ?_
      exact rt_z C (Or.inr rfl) rfl h dX11_isGood_35
theorem CtX11_isGood {n : Nat} {S S' : St} {r : Int32} {x1 : Int32} (h : fX11_isGood n S x1 = some (S', r)) : Ct l sdM cy ad D yX11_isGood cX11_isGood 2 (some .boolean) 1 22 [.ref (ad 0), .int x1] S (some (.int r)) S' :=
  Ct_of (own := RX11) mX11_isGood rfl (Nat.le_of_ble_eq_true rfl) (fun G e1 e2 e3 e4 C => by subst e1 e2 e3 e4; exact wX11_isGood C h)
def fX11_laidBeside_j68 (n : Nat) (S : St) (x4 : Int32) : Option (St × Int64) :=
  gd (¬ (S.1 0 34) = 0) (
  some (S, (((x4 * 1000) / (S.1 0 34)) : Int32).toInt64))
set_option maxRecDepth 100000 in
set_option maxHeartbeats 4000000 in
theorem wX11_laidBeside_j68 (C : Cx G sdM cX11_laidBeside 6 RX11 (some .long)) {n : Nat} {S S' : St} {r : Int64} {x4 : Int32} (h : fX11_laidBeside_j68 n S x4 = some (S', r)) : Wp G sdM (rmOf 1 20) 6 (Qm G sdM (some (.long r)) S') S 68 [(0, .ref (gA G 0)), (4, .int x4)] [] := by
  unfold fX11_laidBeside_j68 at h
  refine wp_iload (pc := 68) C 1 dX11_laidBeside_68 rfl ?_
  refine wp_sipush (v := 1000) (pc := 70) C dX11_laidBeside_70 (by decide) ?_
  refine wp_imul (pc := 73) C dX11_laidBeside_73 ?_
  refine wp_aload_n (pc := 74) C 0 dX11_laidBeside_74 rfl rfl ?_
  refine wp_getI (pc := 75) C flX11_161 rfl (Nat.le_of_ble_eq_true rfl) rfl dX11_laidBeside_75 ?_
  obtain ⟨g1, h⟩ := gd_some h
  refine wp_idiv (pc := 78) C dX11_laidBeside_78 g1 ?_
  refine wp_i2l (pc := 79) C dX11_laidBeside_79 ?_
  exact rt_l C rfl h dX11_laidBeside_80
def fX11_laidBeside_l23 (n : Nat) : Nat → St → Int32 → Int32 → Int32 → Int32 → Option (St × Int64)
  | 0, _, _, _, _, _ => none
  | j + 1, S, x1, x2, x4, x5 =>
    bd (fX11_dyes n S) (fun S1 r2 =>
    if r2 ≤ x5 then
      fX11_laidBeside_j68 n S1 x4
    else
      gd (ib ((8 * x1) + x5) 16) (
      gd (ib ((16 * x5) + x2) 128) (
      bn (x4 + ((S1.1 21 (Int32.toNatClampNeg ((8 * x1) + x5))) * (S1.1 13 (Int32.toNatClampNeg ((16 * x5) + x2))))) (fun z5 : Int32 =>
      bn (x5 + 1) (fun z6 : Int32 =>
      fX11_laidBeside_l23 n j S1 x1 x2 z5 z6)))))
set_option maxRecDepth 100000 in
set_option maxHeartbeats 4000000 in
theorem wX11_laidBeside_l23 (C : Cx G sdM cX11_laidBeside 6 RX11 (some .long)) {n : Nat} {S' : St} {r : Int64} : ∀ (j : Nat) (S : St) (x1 : Int32) (x2 : Int32) (x4 : Int32) (x5 : Int32), fX11_laidBeside_l23 n j S x1 x2 x4 x5 = some (S', r) → Wp G sdM (rmOf 1 20) 6 (Qm G sdM (some (.long r)) S') S 23 [(0, .ref (gA G 0)), (1, .int x1), (2, .int x2), (4, .int x4), (5, .int x5)] [] := by
  intro j
  induction j with
  | zero =>
    intro S x1 x2 x4 x5 h
    exact nomatch (show (none : Option (St × Int64)) = some _ from h)
  | succ j ih =>
    intro S x1 x2 x4 x5 h
    rw [fX11_laidBeside_l23] at h
    refine wp_iload (pc := 23) C 4 dX11_laidBeside_23 rfl ?_
    refine wp_aload_n (pc := 25) C 0 dX11_laidBeside_25 rfl rfl ?_
    obtain ⟨S1, r2, cS1, h⟩ := bd_some h
    refine wp_callVi (As := []) (st := [.int x5]) (pc := 26) C (CtX11_dyes cS1) mX11_dyes iX11_dyes kX11_357 (Nat.le_of_ble_eq_true rfl) rfl (by decide) rfl rfl rfl rfl (Nat.le_of_ble_eq_true rfl) ⟨Nat.le_of_ble_eq_true rfl, Nat.le_of_ble_eq_true rfl⟩ dX11_laidBeside_26 ?_
    refine wp_icmp_ge (pc := 29) C 68 dX11_laidBeside_29 (by decide) (fun q => ?_) (fun q => ?_)
    · have h := it_pos q h
      exact wp_sub C [0, 3] rfl (wX11_laidBeside_j68 C h)
    · have h := it_neg q h
      refine wp_iload (pc := 32) C 3 dX11_laidBeside_32 rfl ?_
      refine wp_aload_n (pc := 34) C 0 dX11_laidBeside_34 rfl rfl ?_
      refine wp_getS (v := 21) (pc := 35) C flX11_75 rfl rfl (Nat.le_of_ble_eq_true rfl) (Nat.le_of_ble_eq_true rfl) rfl dX11_laidBeside_35 ?_
      refine wp_bipush (v := 8) (pc := 38) C dX11_laidBeside_38 (by decide) ?_
      refine wp_iload_n (pc := 40) C 1 dX11_laidBeside_40 rfl rfl ?_
      refine wp_imul (pc := 41) C dX11_laidBeside_41 ?_
      refine wp_iload (pc := 42) C 4 dX11_laidBeside_42 rfl ?_
      refine wp_iadd (pc := 44) C dX11_laidBeside_44 ?_
      obtain ⟨g3, h⟩ := gd_some h
      refine wp_iald (pc := 45) C (Nat.le_of_ble_eq_true rfl) rfl g3 dX11_laidBeside_45 ?_
      refine wp_aload_n (pc := 46) C 0 dX11_laidBeside_46 rfl rfl ?_
      refine wp_getS (v := 13) (pc := 47) C flX11_51 rfl rfl (Nat.le_of_ble_eq_true rfl) (Nat.le_of_ble_eq_true rfl) rfl dX11_laidBeside_47 ?_
      refine wp_bipush (v := 16) (pc := 50) C dX11_laidBeside_50 (by decide) ?_
      refine wp_iload (pc := 52) C 4 dX11_laidBeside_52 rfl ?_
      refine wp_imul (pc := 54) C dX11_laidBeside_54 ?_
      refine wp_iload_n (pc := 55) C 2 dX11_laidBeside_55 rfl rfl ?_
      refine wp_iadd (pc := 56) C dX11_laidBeside_56 ?_
      obtain ⟨g4, h⟩ := gd_some h
      refine wp_iald (pc := 57) C (Nat.le_of_ble_eq_true rfl) rfl g4 dX11_laidBeside_57 ?_
      refine wp_imul (pc := 58) C dX11_laidBeside_58 ?_
      refine wp_iadd (pc := 59) C dX11_laidBeside_59 ?_
      obtain ⟨z5, ez5, h⟩ := bn_some h
      refine wp_istore (pc := 60) C ez5 [(4, .int z5), (0, .ref (gA G 0)), (1, .int x1), (2, .int x2), (5, .int x5)] dX11_laidBeside_60 (Nat.le_of_ble_eq_true rfl) rfl ?_
      obtain ⟨z6, ez6, h⟩ := bn_some h
      refine wp_iinc (q := 4) (pc := 62) C (by decide) ez6 [(5, .int z6), (4, .int z5), (0, .ref (gA G 0)), (1, .int x1), (2, .int x2)] dX11_laidBeside_62 rfl (Nat.le_of_ble_eq_true rfl) rfl ?_
      refine wp_goto (pc := 65) C 23 dX11_laidBeside_65 (by decide) ?_
      exact wp_sub C [2, 3, 4, 1, 0] rfl (ih _ _ _ _ _ h)
def fX11_laidBeside (n : Nat) (S : St) (x1 : Int32) (x2 : Int32) (x3 : Int32) : Option (St × Int64) :=
  gd (ib x1 2) (
  gd (ib ((16 * (S.1 22 (Int32.toNatClampNeg x1))) + x2) 64) (
  bn (x3 * (S.1 14 (Int32.toNatClampNeg ((16 * (S.1 22 (Int32.toNatClampNeg x1))) + x2)))) (fun z3 : Int32 =>
  fX11_laidBeside_l23 n n S x1 x2 z3 0)))
set_option maxRecDepth 100000 in
set_option maxHeartbeats 4000000 in
theorem wX11_laidBeside (C : Cx G sdM cX11_laidBeside 6 RX11 (some .long)) {n : Nat} {S S' : St} {r : Int64} {x1 : Int32} {x2 : Int32} {x3 : Int32} (h : fX11_laidBeside n S x1 x2 x3 = some (S', r)) : Wp G sdM (rmOf 1 20) 6 (Qm G sdM (some (.long r)) S') S 0 [(0, .ref (gA G 0)), (1, .int x1), (2, .int x2), (3, .int x3)] [] := by
  unfold fX11_laidBeside at h
  refine wp_iload_n (pc := 0) C 3 dX11_laidBeside_0 rfl rfl ?_
  refine wp_aload_n (pc := 1) C 0 dX11_laidBeside_1 rfl rfl ?_
  refine wp_getS (v := 14) (pc := 2) C flX11_54 rfl rfl (Nat.le_of_ble_eq_true rfl) (Nat.le_of_ble_eq_true rfl) rfl dX11_laidBeside_2 ?_
  refine wp_bipush (v := 16) (pc := 5) C dX11_laidBeside_5 (by decide) ?_
  refine wp_aload_n (pc := 7) C 0 dX11_laidBeside_7 rfl rfl ?_
  refine wp_getS (v := 22) (pc := 8) C flX11_78 rfl rfl (Nat.le_of_ble_eq_true rfl) (Nat.le_of_ble_eq_true rfl) rfl dX11_laidBeside_8 ?_
  refine wp_iload_n (pc := 11) C 1 dX11_laidBeside_11 rfl rfl ?_
  obtain ⟨g1, h⟩ := gd_some h
  refine wp_iald (pc := 12) C (Nat.le_of_ble_eq_true rfl) rfl g1 dX11_laidBeside_12 ?_
  refine wp_imul (pc := 13) C dX11_laidBeside_13 ?_
  refine wp_iload_n (pc := 14) C 2 dX11_laidBeside_14 rfl rfl ?_
  refine wp_iadd (pc := 15) C dX11_laidBeside_15 ?_
  obtain ⟨g2, h⟩ := gd_some h
  refine wp_iald (pc := 16) C (Nat.le_of_ble_eq_true rfl) rfl g2 dX11_laidBeside_16 ?_
  refine wp_imul (pc := 17) C dX11_laidBeside_17 ?_
  obtain ⟨z3, ez3, h⟩ := bn_some h
  refine wp_istore (pc := 18) C ez3 [(4, .int z3), (0, .ref (gA G 0)), (1, .int x1), (2, .int x2), (3, .int x3)] dX11_laidBeside_18 (Nat.le_of_ble_eq_true rfl) rfl ?_
  refine wp_iconst (v := 0) (pc := 20) C dX11_laidBeside_20 (by decide) ?_
  refine wp_istore (pc := 21) C rfl [(5, .int 0), (4, .int z3), (0, .ref (gA G 0)), (1, .int x1), (2, .int x2), (3, .int x3)] dX11_laidBeside_21 (Nat.le_of_ble_eq_true rfl) rfl ?_
  exact wp_sub C [2, 3, 4, 1, 0] rfl (wX11_laidBeside_l23 C _ _ _ _ _ _ h)
theorem CtX11_laidBeside {n : Nat} {S S' : St} {r : Int64} {x1 : Int32} {x2 : Int32} {x3 : Int32} (h : fX11_laidBeside n S x1 x2 x3 = some (S', r)) : Ct l sdM cy ad D yX11_laidBeside cX11_laidBeside 6 (some .long) 1 20 [.ref (ad 0), .int x1, .int x2, .int x3] S (some (.long r)) S' :=
  Ct_of (own := RX11) mX11_laidBeside rfl (Nat.le_of_ble_eq_true rfl) (fun G e1 e2 e3 e4 C => by subst e1 e2 e3 e4; exact wX11_laidBeside C h)
def fX11_laidOver_j77 (n : Nat) (k24 : St → Int32 → Int32 → Int32 → Int32 → Option (St × Int64)) (S : St) (x1 : Int32) (x2 : Int32) (x3 : Int32) (x4 : Int32) : Option (St × Int64) :=
  bn (x4 + 1) (fun z1 : Int32 =>
  k24 S x1 x2 x3 z1)
set_option maxRecDepth 100000 in
set_option maxHeartbeats 4000000 in
theorem wX11_laidOver_j77 (C : Cx G sdM cX11_laidOver 6 RX11 (some .long)) {n : Nat} {k24 : St → Int32 → Int32 → Int32 → Int32 → Option (St × Int64)} {S S' : St} {r : Int64} {x1 : Int32} {x2 : Int32} {x3 : Int32} {x4 : Int32} (hk24 : ∀ (S : St) (x1 : Int32) (x2 : Int32) (x3 : Int32) (x4 : Int32), k24 S x1 x2 x3 x4 = some (S', r) → Wp G sdM (rmOf 1 20) 6 (Qm G sdM (some (.long r)) S') S 24 [(0, .ref (gA G 0)), (1, .int x1), (2, .int x2), (3, .int x3), (4, .int x4)] []) (h : fX11_laidOver_j77 n k24 S x1 x2 x3 x4 = some (S', r)) : Wp G sdM (rmOf 1 20) 6 (Qm G sdM (some (.long r)) S') S 77 [(0, .ref (gA G 0)), (1, .int x1), (2, .int x2), (3, .int x3), (4, .int x4)] [] := by
  unfold fX11_laidOver_j77 at h
  obtain ⟨z1, ez1, h⟩ := bn_some h
  refine wp_iinc (q := 4) (pc := 77) C (by decide) ez1 [(4, .int z1), (0, .ref (gA G 0)), (1, .int x1), (2, .int x2), (3, .int x3)] dX11_laidOver_77 rfl (Nat.le_of_ble_eq_true rfl) rfl ?_
  refine wp_goto (pc := 80) C 24 dX11_laidOver_80 (by decide) ?_
  exact wp_sub C [1, 2, 3, 4, 0] rfl (hk24 _ _ _ _ _ h)
def fX11_laidOver_l36 (n : Nat) (k24 : St → Int32 → Int32 → Int32 → Int32 → Option (St × Int64)) : Nat → St → Int32 → Int32 → Int32 → Int32 → Int32 → Option (St × Int64)
  | 0, _, _, _, _, _, _ => none
  | j + 1, S, x1, x2, x3, x4, x5 =>
    gd (ib ((8 * x1) + x4) 16) (
    if (S.1 21 (Int32.toNatClampNeg ((8 * x1) + x4))) ≤ x5 then
      fX11_laidOver_j77 n k24 S x1 x2 x3 x4
    else
      gd (ib ((16 * x4) + x2) 128) (
      bn ((x3 * (S.1 13 (Int32.toNatClampNeg ((16 * x4) + x2)))) / 100) (fun z3 : Int32 =>
      bn (x5 + 1) (fun z4 : Int32 =>
      fX11_laidOver_l36 n k24 j S x1 x2 z3 x4 z4))))
set_option maxRecDepth 100000 in
set_option maxHeartbeats 4000000 in
theorem wX11_laidOver_l36 (C : Cx G sdM cX11_laidOver 6 RX11 (some .long)) {n : Nat} {k24 : St → Int32 → Int32 → Int32 → Int32 → Option (St × Int64)} {S' : St} {r : Int64} (hk24 : ∀ (S : St) (x1 : Int32) (x2 : Int32) (x3 : Int32) (x4 : Int32), k24 S x1 x2 x3 x4 = some (S', r) → Wp G sdM (rmOf 1 20) 6 (Qm G sdM (some (.long r)) S') S 24 [(0, .ref (gA G 0)), (1, .int x1), (2, .int x2), (3, .int x3), (4, .int x4)] []) : ∀ (j : Nat) (S : St) (x1 : Int32) (x2 : Int32) (x3 : Int32) (x4 : Int32) (x5 : Int32), fX11_laidOver_l36 n k24 j S x1 x2 x3 x4 x5 = some (S', r) → Wp G sdM (rmOf 1 20) 6 (Qm G sdM (some (.long r)) S') S 36 [(0, .ref (gA G 0)), (1, .int x1), (2, .int x2), (3, .int x3), (4, .int x4), (5, .int x5)] [] := by
  intro j
  induction j with
  | zero =>
    intro S x1 x2 x3 x4 x5 h
    exact nomatch (show (none : Option (St × Int64)) = some _ from h)
  | succ j ih =>
    intro S x1 x2 x3 x4 x5 h
    rw [fX11_laidOver_l36] at h
    refine wp_iload (pc := 36) C 5 dX11_laidOver_36 rfl ?_
    refine wp_aload_n (pc := 38) C 0 dX11_laidOver_38 rfl rfl ?_
    refine wp_getS (v := 21) (pc := 39) C flX11_75 rfl rfl (Nat.le_of_ble_eq_true rfl) (Nat.le_of_ble_eq_true rfl) rfl dX11_laidOver_39 ?_
    refine wp_bipush (v := 8) (pc := 42) C dX11_laidOver_42 (by decide) ?_
    refine wp_iload_n (pc := 44) C 1 dX11_laidOver_44 rfl rfl ?_
    refine wp_imul (pc := 45) C dX11_laidOver_45 ?_
    refine wp_iload (pc := 46) C 4 dX11_laidOver_46 rfl ?_
    refine wp_iadd (pc := 48) C dX11_laidOver_48 ?_
    obtain ⟨g1, h⟩ := gd_some h
    refine wp_iald (pc := 49) C (Nat.le_of_ble_eq_true rfl) rfl g1 dX11_laidOver_49 ?_
    refine wp_icmp_ge (pc := 50) C 77 dX11_laidOver_50 (by decide) (fun q => ?_) (fun q => ?_)
    · have h := it_pos q h
      exact wp_sub C [0, 1, 2, 3, 4] rfl (wX11_laidOver_j77 C hk24 h)
    · have h := it_neg q h
      refine wp_iload_n (pc := 53) C 3 dX11_laidOver_53 rfl rfl ?_
      refine wp_aload_n (pc := 54) C 0 dX11_laidOver_54 rfl rfl ?_
      refine wp_getS (v := 13) (pc := 55) C flX11_51 rfl rfl (Nat.le_of_ble_eq_true rfl) (Nat.le_of_ble_eq_true rfl) rfl dX11_laidOver_55 ?_
      refine wp_bipush (v := 16) (pc := 58) C dX11_laidOver_58 (by decide) ?_
      refine wp_iload (pc := 60) C 4 dX11_laidOver_60 rfl ?_
      refine wp_imul (pc := 62) C dX11_laidOver_62 ?_
      refine wp_iload_n (pc := 63) C 2 dX11_laidOver_63 rfl rfl ?_
      refine wp_iadd (pc := 64) C dX11_laidOver_64 ?_
      obtain ⟨g2, h⟩ := gd_some h
      refine wp_iald (pc := 65) C (Nat.le_of_ble_eq_true rfl) rfl g2 dX11_laidOver_65 ?_
      refine wp_imul (pc := 66) C dX11_laidOver_66 ?_
      refine wp_bipush (v := 100) (pc := 67) C dX11_laidOver_67 (by decide) ?_
      refine wp_idiv (pc := 69) C dX11_laidOver_69 (by decide) ?_
      obtain ⟨z3, ez3, h⟩ := bn_some h
      refine wp_istore_n (pc := 70) C ez3 [(3, .int z3), (0, .ref (gA G 0)), (1, .int x1), (2, .int x2), (4, .int x4), (5, .int x5)] dX11_laidOver_70 rfl (Nat.le_of_ble_eq_true rfl) rfl ?_
      obtain ⟨z4, ez4, h⟩ := bn_some h
      refine wp_iinc (q := 5) (pc := 71) C (by decide) ez4 [(5, .int z4), (3, .int z3), (0, .ref (gA G 0)), (1, .int x1), (2, .int x2), (4, .int x4)] dX11_laidOver_71 rfl (Nat.le_of_ble_eq_true rfl) rfl ?_
      refine wp_goto (pc := 74) C 36 dX11_laidOver_74 (by decide) ?_
      exact wp_sub C [2, 3, 4, 1, 5, 0] rfl (ih _ _ _ _ _ _ h)
def fX11_laidOver_l24 (n : Nat) : Nat → St → Int32 → Int32 → Int32 → Int32 → Option (St × Int64)
  | 0, _, _, _, _, _ => none
  | j + 1, S, x1, x2, x3, x4 =>
    bd (fX11_dyes n S) (fun S1 r2 =>
    if r2 ≤ x4 then
      some (S1, (x3 : Int32).toInt64)
    else
      fX11_laidOver_l36 n (fX11_laidOver_l24 n j) n S1 x1 x2 x3 x4 0)
set_option maxRecDepth 100000 in
set_option maxHeartbeats 4000000 in
theorem wX11_laidOver_l24 (C : Cx G sdM cX11_laidOver 6 RX11 (some .long)) {n : Nat} {S' : St} {r : Int64} : ∀ (j : Nat) (S : St) (x1 : Int32) (x2 : Int32) (x3 : Int32) (x4 : Int32), fX11_laidOver_l24 n j S x1 x2 x3 x4 = some (S', r) → Wp G sdM (rmOf 1 20) 6 (Qm G sdM (some (.long r)) S') S 24 [(0, .ref (gA G 0)), (1, .int x1), (2, .int x2), (3, .int x3), (4, .int x4)] [] := by
  intro j
  induction j with
  | zero =>
    intro S x1 x2 x3 x4 h
    exact nomatch (show (none : Option (St × Int64)) = some _ from h)
  | succ j ih =>
    intro S x1 x2 x3 x4 h
    rw [fX11_laidOver_l24] at h
    refine wp_iload (pc := 24) C 4 dX11_laidOver_24 rfl ?_
    refine wp_aload_n (pc := 26) C 0 dX11_laidOver_26 rfl rfl ?_
    obtain ⟨S1, r2, cS1, h⟩ := bd_some h
    refine wp_callVi (As := []) (st := [.int x4]) (pc := 27) C (CtX11_dyes cS1) mX11_dyes iX11_dyes kX11_357 (Nat.le_of_ble_eq_true rfl) rfl (by decide) rfl rfl rfl rfl (Nat.le_of_ble_eq_true rfl) ⟨Nat.le_of_ble_eq_true rfl, Nat.le_of_ble_eq_true rfl⟩ dX11_laidOver_27 ?_
    refine wp_icmp_ge (pc := 30) C 83 dX11_laidOver_30 (by decide) (fun q => ?_) (fun q => ?_)
    · have h := it_pos q h
      refine wp_iload_n (pc := 83) C 3 dX11_laidOver_83 rfl rfl ?_
      refine wp_i2l (pc := 84) C dX11_laidOver_84 ?_
      exact rt_l C rfl h dX11_laidOver_85
    · have h := it_neg q h
      refine wp_iconst (v := 0) (pc := 33) C dX11_laidOver_33 (by decide) ?_
      refine wp_istore (pc := 34) C rfl [(5, .int 0), (0, .ref (gA G 0)), (1, .int x1), (2, .int x2), (3, .int x3), (4, .int x4)] dX11_laidOver_34 (Nat.le_of_ble_eq_true rfl) rfl ?_
      exact wp_sub C [1, 2, 3, 4, 5, 0] rfl (wX11_laidOver_l36 C ih _ _ _ _ _ _ _ h)
def fX11_laidOver (n : Nat) (S : St) (x1 : Int32) (x2 : Int32) : Option (St × Int64) :=
  gd (ib x1 2) (
  gd (ib ((16 * (S.1 22 (Int32.toNatClampNeg x1))) + x2) 64) (
  bn (1000 * (S.1 14 (Int32.toNatClampNeg ((16 * (S.1 22 (Int32.toNatClampNeg x1))) + x2)))) (fun z3 : Int32 =>
  fX11_laidOver_l24 n n S x1 x2 z3 0)))
set_option maxRecDepth 100000 in
set_option maxHeartbeats 4000000 in
theorem wX11_laidOver (C : Cx G sdM cX11_laidOver 6 RX11 (some .long)) {n : Nat} {S S' : St} {r : Int64} {x1 : Int32} {x2 : Int32} (h : fX11_laidOver n S x1 x2 = some (S', r)) : Wp G sdM (rmOf 1 20) 6 (Qm G sdM (some (.long r)) S') S 0 [(0, .ref (gA G 0)), (1, .int x1), (2, .int x2)] [] := by
  unfold fX11_laidOver at h
  refine wp_sipush (v := 1000) (pc := 0) C dX11_laidOver_0 (by decide) ?_
  refine wp_aload_n (pc := 3) C 0 dX11_laidOver_3 rfl rfl ?_
  refine wp_getS (v := 14) (pc := 4) C flX11_54 rfl rfl (Nat.le_of_ble_eq_true rfl) (Nat.le_of_ble_eq_true rfl) rfl dX11_laidOver_4 ?_
  refine wp_bipush (v := 16) (pc := 7) C dX11_laidOver_7 (by decide) ?_
  refine wp_aload_n (pc := 9) C 0 dX11_laidOver_9 rfl rfl ?_
  refine wp_getS (v := 22) (pc := 10) C flX11_78 rfl rfl (Nat.le_of_ble_eq_true rfl) (Nat.le_of_ble_eq_true rfl) rfl dX11_laidOver_10 ?_
  refine wp_iload_n (pc := 13) C 1 dX11_laidOver_13 rfl rfl ?_
  obtain ⟨g1, h⟩ := gd_some h
  refine wp_iald (pc := 14) C (Nat.le_of_ble_eq_true rfl) rfl g1 dX11_laidOver_14 ?_
  refine wp_imul (pc := 15) C dX11_laidOver_15 ?_
  refine wp_iload_n (pc := 16) C 2 dX11_laidOver_16 rfl rfl ?_
  refine wp_iadd (pc := 17) C dX11_laidOver_17 ?_
  obtain ⟨g2, h⟩ := gd_some h
  refine wp_iald (pc := 18) C (Nat.le_of_ble_eq_true rfl) rfl g2 dX11_laidOver_18 ?_
  refine wp_imul (pc := 19) C dX11_laidOver_19 ?_
  obtain ⟨z3, ez3, h⟩ := bn_some h
  refine wp_istore_n (pc := 20) C ez3 [(3, .int z3), (0, .ref (gA G 0)), (1, .int x1), (2, .int x2)] dX11_laidOver_20 rfl (Nat.le_of_ble_eq_true rfl) rfl ?_
  refine wp_iconst (v := 0) (pc := 21) C dX11_laidOver_21 (by decide) ?_
  refine wp_istore (pc := 22) C rfl [(4, .int 0), (3, .int z3), (0, .ref (gA G 0)), (1, .int x1), (2, .int x2)] dX11_laidOver_22 (Nat.le_of_ble_eq_true rfl) rfl ?_
  exact wp_sub C [2, 3, 4, 1, 0] rfl (wX11_laidOver_l24 C _ _ _ _ _ _ h)
theorem CtX11_laidOver {n : Nat} {S S' : St} {r : Int64} {x1 : Int32} {x2 : Int32} (h : fX11_laidOver n S x1 x2 = some (S', r)) : Ct l sdM cy ad D yX11_laidOver cX11_laidOver 6 (some .long) 1 20 [.ref (ad 0), .int x1, .int x2] S (some (.long r)) S' :=
  Ct_of (own := RX11) mX11_laidOver rfl (Nat.le_of_ble_eq_true rfl) (fun G e1 e2 e3 e4 C => by subst e1 e2 e3 e4; exact wX11_laidOver C h)
def fX11_lay_j80 (n : Nat) (k34 : St → Int32 → Int32 → Int32 → Option (St × Unit)) (S : St) (x1 : Int32) (x2 : Int32) (x3 : Int32) (y1 : Int32) (y2 : Int64) : Option (St × Unit) :=
  gd (ib y1 32) (
  bn (sL S 23 (Int32.toNatClampNeg y1) y2) (fun S2 : St =>
  bn (x3 + 1) (fun z3 : Int32 =>
  k34 S2 x1 x2 z3)))
set_option maxRecDepth 100000 in
set_option maxHeartbeats 4000000 in
theorem wX11_lay_j80 (C : Cx G sdM cX11_lay 4 RX11 none) {n : Nat} {k34 : St → Int32 → Int32 → Int32 → Option (St × Unit)} {S S' : St} {r : Unit} {x1 : Int32} {x2 : Int32} {x3 : Int32} {y1 : Int32} {y2 : Int64} (hk34 : ∀ (S : St) (x1 : Int32) (x2 : Int32) (x3 : Int32), k34 S x1 x2 x3 = some (S', r) → Wp G sdM (rmOf 2 45) 4 (Qm G sdM none S') S 34 [(0, .ref (gA G 0)), (1, .int x1), (2, .int x2), (3, .int x3)] []) (h : fX11_lay_j80 n k34 S x1 x2 x3 y1 y2 = some (S', r)) : Wp G sdM (rmOf 2 45) 4 (Qm G sdM none S') S 80 [(0, .ref (gA G 0)), (1, .int x1), (2, .int x2), (3, .int x3)] [.long y2, .int y1, .ref (gA G 23)] := by
  unfold fX11_lay_j80 at h
  obtain ⟨g1, h⟩ := gd_some h
  obtain ⟨S2, eS2, h⟩ := bn_some h
  refine wp_last (pc := 80) C eS2 (Nat.le_of_ble_eq_true rfl) rfl g1 dX11_lay_80 ?_
  obtain ⟨z3, ez3, h⟩ := bn_some h
  refine wp_iinc (q := 3) (pc := 81) C (by decide) ez3 [(3, .int z3), (0, .ref (gA G 0)), (1, .int x1), (2, .int x2)] dX11_lay_81 rfl (Nat.le_of_ble_eq_true rfl) rfl ?_
  refine wp_goto (pc := 84) C 34 dX11_lay_84 (by decide) ?_
  exact wp_sub C [1, 2, 3, 0] rfl (hk34 _ _ _ _ h)
def fX11_lay_l34 (n : Nat) : Nat → St → Int32 → Int32 → Int32 → Option (St × Unit)
  | 0, _, _, _, _ => none
  | j + 1, S, x1, x2, x3 =>
    if (S.1 0 33) ≤ x3 then
      some (S, ())
    else
      if (S.1 0 42) = 0 then
        bd (fX11_laidBeside n S x1 x3 ((S.1 0 34) - x2)) (fun S1 r2 =>
        fX11_lay_j80 n (fX11_lay_l34 n j) S1 x1 x2 x3 ((16 * x1) + x3) r2)
      else
        bd (fX11_laidOver n S x1 x3) (fun S3 r4 =>
        fX11_lay_j80 n (fX11_lay_l34 n j) S3 x1 x2 x3 ((16 * x1) + x3) r4)
set_option maxRecDepth 100000 in
set_option maxHeartbeats 4000000 in
theorem wX11_lay_l34 (C : Cx G sdM cX11_lay 4 RX11 none) {n : Nat} {S' : St} {r : Unit} : ∀ (j : Nat) (S : St) (x1 : Int32) (x2 : Int32) (x3 : Int32), fX11_lay_l34 n j S x1 x2 x3 = some (S', r) → Wp G sdM (rmOf 2 45) 4 (Qm G sdM none S') S 34 [(0, .ref (gA G 0)), (1, .int x1), (2, .int x2), (3, .int x3)] [] := by
  intro j
  induction j with
  | zero =>
    intro S x1 x2 x3 h
    exact nomatch (show (none : Option (St × Unit)) = some _ from h)
  | succ j ih =>
    intro S x1 x2 x3 h
    rw [fX11_lay_l34] at h
    refine wp_iload_n (pc := 34) C 3 dX11_lay_34 rfl rfl ?_
    refine wp_aload_n (pc := 35) C 0 dX11_lay_35 rfl rfl ?_
    refine wp_getI (pc := 36) C flX11_158 rfl (Nat.le_of_ble_eq_true rfl) rfl dX11_lay_36 ?_
    refine wp_icmp_ge (pc := 39) C 87 dX11_lay_39 (by decide) (fun q => ?_) (fun q => ?_)
    · have h := it_pos q h
      exact rt_v C rfl h dX11_lay_87
    · have h := it_neg q h
      refine wp_aload_n (pc := 42) C 0 dX11_lay_42 rfl rfl ?_
      refine wp_getS (v := 23) (pc := 43) C flX11_81 rfl rfl (Nat.le_of_ble_eq_true rfl) (Nat.le_of_ble_eq_true rfl) rfl dX11_lay_43 ?_
      refine wp_bipush (v := 16) (pc := 46) C dX11_lay_46 (by decide) ?_
      refine wp_iload_n (pc := 48) C 1 dX11_lay_48 rfl rfl ?_
      refine wp_imul (pc := 49) C dX11_lay_49 ?_
      refine wp_iload_n (pc := 50) C 3 dX11_lay_50 rfl rfl ?_
      refine wp_iadd (pc := 51) C dX11_lay_51 ?_
      refine wp_aload_n (pc := 52) C 0 dX11_lay_52 rfl rfl ?_
      refine wp_getI (pc := 53) C flX11_333 rfl (Nat.le_of_ble_eq_true rfl) rfl dX11_lay_53 ?_
      refine wp_if_eq (pc := 56) C 68 dX11_lay_56 (by decide) (fun q => ?_) (fun q => ?_)
      · have h := it_pos q h
        refine wp_aload_n (pc := 68) C 0 dX11_lay_68 rfl rfl ?_
        refine wp_iload_n (pc := 69) C 1 dX11_lay_69 rfl rfl ?_
        refine wp_iload_n (pc := 70) C 3 dX11_lay_70 rfl rfl ?_
        refine wp_aload_n (pc := 71) C 0 dX11_lay_71 rfl rfl ?_
        refine wp_getI (pc := 72) C flX11_161 rfl (Nat.le_of_ble_eq_true rfl) rfl dX11_lay_72 ?_
        refine wp_iload_n (pc := 75) C 2 dX11_lay_75 rfl rfl ?_
        refine wp_isub (pc := 76) C dX11_lay_76 ?_
        obtain ⟨S1, r2, cS1, h⟩ := bd_some h
        refine wp_callVl (As := [.int x1, .int x3, .int ((S.1 0 34) - x2)]) (st := [.int ((16 * x1) + x3), .ref (gA G 23)]) (pc := 77) C (CtX11_laidBeside cS1) mX11_laidBeside iX11_laidBeside kX11_375 (Nat.le_of_ble_eq_true rfl) rfl (by decide) rfl rfl rfl rfl (Nat.le_of_ble_eq_true rfl) ⟨Nat.le_of_ble_eq_true rfl, Nat.le_of_ble_eq_true rfl⟩ dX11_lay_77 ?_
        exact (wX11_lay_j80 C ih h)
      · have h := it_neg q h
        refine wp_aload_n (pc := 59) C 0 dX11_lay_59 rfl rfl ?_
        refine wp_iload_n (pc := 60) C 1 dX11_lay_60 rfl rfl ?_
        refine wp_iload_n (pc := 61) C 3 dX11_lay_61 rfl rfl ?_
        obtain ⟨S3, r4, cS3, h⟩ := bd_some h
        refine wp_callVl (As := [.int x1, .int x3]) (st := [.int ((16 * x1) + x3), .ref (gA G 23)]) (pc := 62) C (CtX11_laidOver cS3) mX11_laidOver iX11_laidOver kX11_371 (Nat.le_of_ble_eq_true rfl) rfl (by decide) rfl rfl rfl rfl (Nat.le_of_ble_eq_true rfl) ⟨Nat.le_of_ble_eq_true rfl, Nat.le_of_ble_eq_true rfl⟩ dX11_lay_62 ?_
        refine wp_goto (pc := 65) C 80 dX11_lay_65 (by decide) ?_
        exact (wX11_lay_j80 C ih h)
def fX11_lay_j32 (n : Nat) (S : St) (x1 : Int32) (x2 : Int32) : Option (St × Unit) :=
  fX11_lay_l34 n n S x1 x2 0
set_option maxRecDepth 100000 in
set_option maxHeartbeats 4000000 in
theorem wX11_lay_j32 (C : Cx G sdM cX11_lay 4 RX11 none) {n : Nat} {S S' : St} {r : Unit} {x1 : Int32} {x2 : Int32} (h : fX11_lay_j32 n S x1 x2 = some (S', r)) : Wp G sdM (rmOf 2 45) 4 (Qm G sdM none S') S 32 [(0, .ref (gA G 0)), (1, .int x1), (2, .int x2)] [] := by
  unfold fX11_lay_j32 at h
  refine wp_iconst (v := 0) (pc := 32) C dX11_lay_32 (by decide) ?_
  refine wp_istore_n (pc := 33) C rfl [(3, .int 0), (0, .ref (gA G 0)), (1, .int x1), (2, .int x2)] dX11_lay_33 rfl (Nat.le_of_ble_eq_true rfl) rfl ?_
  exact wp_sub C [1, 2, 3, 0] rfl (wX11_lay_l34 C _ _ _ _ _ h)
def fX11_lay_l4 (n : Nat) : Nat → St → Int32 → Int32 → Int32 → Option (St × Unit)
  | 0, _, _, _, _ => none
  | j + 1, S, x1, x2, x3 =>
    bd (fX11_dyes n S) (fun S1 r2 =>
    if r2 ≤ x3 then
      fX11_lay_j32 n S1 x1 x2
    else
      gd (ib ((8 * x1) + x3) 16) (
      bn (x2 + (S1.1 21 (Int32.toNatClampNeg ((8 * x1) + x3)))) (fun z4 : Int32 =>
      bn (x3 + 1) (fun z5 : Int32 =>
      fX11_lay_l4 n j S1 x1 z4 z5))))
set_option maxRecDepth 100000 in
set_option maxHeartbeats 4000000 in
theorem wX11_lay_l4 (C : Cx G sdM cX11_lay 4 RX11 none) {n : Nat} {S' : St} {r : Unit} : ∀ (j : Nat) (S : St) (x1 : Int32) (x2 : Int32) (x3 : Int32), fX11_lay_l4 n j S x1 x2 x3 = some (S', r) → Wp G sdM (rmOf 2 45) 4 (Qm G sdM none S') S 4 [(0, .ref (gA G 0)), (1, .int x1), (2, .int x2), (3, .int x3)] [] := by
  intro j
  induction j with
  | zero =>
    intro S x1 x2 x3 h
    exact nomatch (show (none : Option (St × Unit)) = some _ from h)
  | succ j ih =>
    intro S x1 x2 x3 h
    rw [fX11_lay_l4] at h
    refine wp_iload_n (pc := 4) C 3 dX11_lay_4 rfl rfl ?_
    refine wp_aload_n (pc := 5) C 0 dX11_lay_5 rfl rfl ?_
    obtain ⟨S1, r2, cS1, h⟩ := bd_some h
    refine wp_callVi (As := []) (st := [.int x3]) (pc := 6) C (CtX11_dyes cS1) mX11_dyes iX11_dyes kX11_357 (Nat.le_of_ble_eq_true rfl) rfl (by decide) rfl rfl rfl rfl (Nat.le_of_ble_eq_true rfl) ⟨Nat.le_of_ble_eq_true rfl, Nat.le_of_ble_eq_true rfl⟩ dX11_lay_6 ?_
    refine wp_icmp_ge (pc := 9) C 32 dX11_lay_9 (by decide) (fun q => ?_) (fun q => ?_)
    · have h := it_pos q h
      exact wp_sub C [0, 1, 2] rfl (wX11_lay_j32 C h)
    · have h := it_neg q h
      refine wp_iload_n (pc := 12) C 2 dX11_lay_12 rfl rfl ?_
      refine wp_aload_n (pc := 13) C 0 dX11_lay_13 rfl rfl ?_
      refine wp_getS (v := 21) (pc := 14) C flX11_75 rfl rfl (Nat.le_of_ble_eq_true rfl) (Nat.le_of_ble_eq_true rfl) rfl dX11_lay_14 ?_
      refine wp_bipush (v := 8) (pc := 17) C dX11_lay_17 (by decide) ?_
      refine wp_iload_n (pc := 19) C 1 dX11_lay_19 rfl rfl ?_
      refine wp_imul (pc := 20) C dX11_lay_20 ?_
      refine wp_iload_n (pc := 21) C 3 dX11_lay_21 rfl rfl ?_
      refine wp_iadd (pc := 22) C dX11_lay_22 ?_
      obtain ⟨g3, h⟩ := gd_some h
      refine wp_iald (pc := 23) C (Nat.le_of_ble_eq_true rfl) rfl g3 dX11_lay_23 ?_
      refine wp_iadd (pc := 24) C dX11_lay_24 ?_
      obtain ⟨z4, ez4, h⟩ := bn_some h
      refine wp_istore_n (pc := 25) C ez4 [(2, .int z4), (0, .ref (gA G 0)), (1, .int x1), (3, .int x3)] dX11_lay_25 rfl (Nat.le_of_ble_eq_true rfl) rfl ?_
      obtain ⟨z5, ez5, h⟩ := bn_some h
      refine wp_iinc (q := 3) (pc := 26) C (by decide) ez5 [(3, .int z5), (2, .int z4), (0, .ref (gA G 0)), (1, .int x1)] dX11_lay_26 rfl (Nat.le_of_ble_eq_true rfl) rfl ?_
      refine wp_goto (pc := 29) C 4 dX11_lay_29 (by decide) ?_
      exact wp_sub C [2, 3, 1, 0] rfl (ih _ _ _ _ h)
def fX11_lay (n : Nat) (S : St) (x1 : Int32) : Option (St × Unit) :=
  fX11_lay_l4 n n S x1 0 0
set_option maxRecDepth 100000 in
set_option maxHeartbeats 4000000 in
theorem wX11_lay (C : Cx G sdM cX11_lay 4 RX11 none) {n : Nat} {S S' : St} {r : Unit} {x1 : Int32} (h : fX11_lay n S x1 = some (S', r)) : Wp G sdM (rmOf 2 45) 4 (Qm G sdM none S') S 0 [(0, .ref (gA G 0)), (1, .int x1)] [] := by
  unfold fX11_lay at h
  refine wp_iconst (v := 0) (pc := 0) C dX11_lay_0 (by decide) ?_
  refine wp_istore_n (pc := 1) C rfl [(2, .int 0), (0, .ref (gA G 0)), (1, .int x1)] dX11_lay_1 rfl (Nat.le_of_ble_eq_true rfl) rfl ?_
  refine wp_iconst (v := 0) (pc := 2) C dX11_lay_2 (by decide) ?_
  refine wp_istore_n (pc := 3) C rfl [(3, .int 0), (2, .int 0), (0, .ref (gA G 0)), (1, .int x1)] dX11_lay_3 rfl (Nat.le_of_ble_eq_true rfl) rfl ?_
  exact wp_sub C [2, 3, 1, 0] rfl (wX11_lay_l4 C _ _ _ _ _ h)
theorem CtX11_lay {n : Nat} {S S' : St} {r : Unit} {x1 : Int32} (h : fX11_lay n S x1 = some (S', r)) : Ct l sdM cy ad D yX11_lay cX11_lay 4 none 2 45 [.ref (ad 0), .int x1] S none S' :=
  Ct_of (own := RX11) mX11_lay rfl (Nat.le_of_ble_eq_true rfl) (fun G e1 e2 e3 e4 C => by subst e1 e2 e3 e4; exact wX11_lay C h)
def fX11_become_j96 (n : Nat) (S : St) (x1 : Int32) : Option (St × Unit) :=
  bd (fX11_lay n S x1) (fun S1 r2 =>
  some (S1, ()))
set_option maxRecDepth 100000 in
set_option maxHeartbeats 4000000 in
theorem wX11_become_j96 (C : Cx G sdM cX11_become 5 RX11 none) {n : Nat} {S S' : St} {r : Unit} {x1 : Int32} (h : fX11_become_j96 n S x1 = some (S', r)) : Wp G sdM (rmOf 3 68) 5 (Qm G sdM none S') S 96 [(0, .ref (gA G 0)), (1, .int x1)] [] := by
  unfold fX11_become_j96 at h
  refine wp_aload_n (pc := 96) C 0 dX11_become_96 rfl rfl ?_
  refine wp_iload_n (pc := 97) C 1 dX11_become_97 rfl rfl ?_
  obtain ⟨S1, r2, cS1, h⟩ := bd_some h
  refine wp_callVv (As := [.int x1]) (st := []) (pc := 98) C (CtX11_lay cS1) mX11_lay iX11_lay kX11_382 (Nat.le_of_ble_eq_true rfl) rfl (by decide) rfl rfl rfl rfl (Nat.le_of_ble_eq_true rfl) ⟨Nat.le_of_ble_eq_true rfl, Nat.le_of_ble_eq_true rfl⟩ dX11_become_98 ?_
  exact rt_v C rfl h dX11_become_101
def fX11_become_j89 (n : Nat) (k26 : St → Int32 → Int32 → Int32 → Int32 → Option (St × Unit)) (S : St) (x1 : Int32) (x2 : Int32) (x3 : Int32) (x4 : Int32) (y1 : Int32) (y2 : Int32) : Option (St × Unit) :=
  gd (ib y1 16) (
  bn (sI S 21 (Int32.toNatClampNeg y1) y2) (fun S2 : St =>
  bn (x4 + 1) (fun z3 : Int32 =>
  k26 S2 x1 x2 x3 z3)))
set_option maxRecDepth 100000 in
set_option maxHeartbeats 4000000 in
theorem wX11_become_j89 (C : Cx G sdM cX11_become 5 RX11 none) {n : Nat} {k26 : St → Int32 → Int32 → Int32 → Int32 → Option (St × Unit)} {S S' : St} {r : Unit} {x1 : Int32} {x2 : Int32} {x3 : Int32} {x4 : Int32} {y1 : Int32} {y2 : Int32} (hk26 : ∀ (S : St) (x1 : Int32) (x2 : Int32) (x3 : Int32) (x4 : Int32), k26 S x1 x2 x3 x4 = some (S', r) → Wp G sdM (rmOf 3 68) 5 (Qm G sdM none S') S 26 [(0, .ref (gA G 0)), (1, .int x1), (2, .int x2), (3, .int x3), (4, .int x4)] []) (h : fX11_become_j89 n k26 S x1 x2 x3 x4 y1 y2 = some (S', r)) : Wp G sdM (rmOf 3 68) 5 (Qm G sdM none S') S 89 [(0, .ref (gA G 0)), (1, .int x1), (2, .int x2), (3, .int x3), (4, .int x4)] [.int y2, .int y1, .ref (gA G 21)] := by
  unfold fX11_become_j89 at h
  obtain ⟨g1, h⟩ := gd_some h
  obtain ⟨S2, eS2, h⟩ := bn_some h
  refine wp_iast (pc := 89) C eS2 (Nat.le_of_ble_eq_true rfl) rfl g1 dX11_become_89 ?_
  obtain ⟨z3, ez3, h⟩ := bn_some h
  refine wp_iinc (q := 4) (pc := 90) C (by decide) ez3 [(4, .int z3), (0, .ref (gA G 0)), (1, .int x1), (2, .int x2), (3, .int x3)] dX11_become_90 rfl (Nat.le_of_ble_eq_true rfl) rfl ?_
  refine wp_goto (pc := 93) C 26 dX11_become_93 (by decide) ?_
  exact wp_sub C [1, 2, 3, 4, 0] rfl (hk26 _ _ _ _ _ h)
def fX11_become_j59 (n : Nat) (k26 : St → Int32 → Int32 → Int32 → Int32 → Option (St × Unit)) (S : St) (x1 : Int32) (x2 : Int32) (x3 : Int32) (x4 : Int32) (y1 : Int32) : Option (St × Unit) :=
  fX11_become_j89 n k26 S x1 x2 x3 x4 y1 0
set_option maxRecDepth 100000 in
set_option maxHeartbeats 4000000 in
theorem wX11_become_j59 (C : Cx G sdM cX11_become 5 RX11 none) {n : Nat} {k26 : St → Int32 → Int32 → Int32 → Int32 → Option (St × Unit)} {S S' : St} {r : Unit} {x1 : Int32} {x2 : Int32} {x3 : Int32} {x4 : Int32} {y1 : Int32} (hk26 : ∀ (S : St) (x1 : Int32) (x2 : Int32) (x3 : Int32) (x4 : Int32), k26 S x1 x2 x3 x4 = some (S', r) → Wp G sdM (rmOf 3 68) 5 (Qm G sdM none S') S 26 [(0, .ref (gA G 0)), (1, .int x1), (2, .int x2), (3, .int x3), (4, .int x4)] []) (h : fX11_become_j59 n k26 S x1 x2 x3 x4 y1 = some (S', r)) : Wp G sdM (rmOf 3 68) 5 (Qm G sdM none S') S 59 [(0, .ref (gA G 0)), (1, .int x1), (2, .int x2), (3, .int x3), (4, .int x4)] [.int y1, .ref (gA G 21)] := by
  unfold fX11_become_j59 at h
  refine wp_iconst (v := 0) (pc := 59) C dX11_become_59 (by decide) ?_
  refine wp_goto (pc := 60) C 89 dX11_become_60 (by decide) ?_
  exact (wX11_become_j89 C hk26 h)
def fX11_become_l26 (n : Nat) : Nat → St → Int32 → Int32 → Int32 → Int32 → Option (St × Unit)
  | 0, _, _, _, _, _ => none
  | j + 1, S, x1, x2, x3, x4 =>
    if 8 ≤ x4 then
      fX11_become_j96 n S x1
    else
      bd (fX11_dyes n S) (fun S1 r2 =>
      if r2 ≤ x4 then
        fX11_become_j59 n (fX11_become_l26 n j) S1 x1 x2 x3 x4 ((8 * x1) + x4)
      else
        if x4 = x3 then
          fX11_become_j59 n (fX11_become_l26 n j) S1 x1 x2 x3 x4 ((8 * x1) + x4)
        else
          if 0 ≤ x2 then
            gd (ib ((8 * x2) + x4) 64) (
            fX11_become_j89 n (fX11_become_l26 n j) S1 x1 x2 x3 x4 ((8 * x1) + x4) (S1.1 20 (Int32.toNatClampNeg ((8 * x2) + x4))))
          else
            gd (ib x4 8) (
            fX11_become_j89 n (fX11_become_l26 n j) S1 x1 x2 x3 x4 ((8 * x1) + x4) (S1.1 31 (Int32.toNatClampNeg x4))))
set_option maxRecDepth 100000 in
set_option maxHeartbeats 4000000 in
theorem wX11_become_l26 (C : Cx G sdM cX11_become 5 RX11 none) {n : Nat} {S' : St} {r : Unit} : ∀ (j : Nat) (S : St) (x1 : Int32) (x2 : Int32) (x3 : Int32) (x4 : Int32), fX11_become_l26 n j S x1 x2 x3 x4 = some (S', r) → Wp G sdM (rmOf 3 68) 5 (Qm G sdM none S') S 26 [(0, .ref (gA G 0)), (1, .int x1), (2, .int x2), (3, .int x3), (4, .int x4)] [] := by
  intro j
  induction j with
  | zero =>
    intro S x1 x2 x3 x4 h
    exact nomatch (show (none : Option (St × Unit)) = some _ from h)
  | succ j ih =>
    intro S x1 x2 x3 x4 h
    rw [fX11_become_l26] at h
    refine wp_iload (pc := 26) C 4 dX11_become_26 rfl ?_
    refine wp_bipush (v := 8) (pc := 28) C dX11_become_28 (by decide) ?_
    refine wp_icmp_ge (pc := 30) C 96 dX11_become_30 (by decide) (fun q => ?_) (fun q => ?_)
    · have h := it_pos q h
      exact wp_sub C [0, 1] rfl (wX11_become_j96 C h)
    · have h := it_neg q h
      refine wp_aload_n (pc := 33) C 0 dX11_become_33 rfl rfl ?_
      refine wp_getS (v := 21) (pc := 34) C flX11_75 rfl rfl (Nat.le_of_ble_eq_true rfl) (Nat.le_of_ble_eq_true rfl) rfl dX11_become_34 ?_
      refine wp_bipush (v := 8) (pc := 37) C dX11_become_37 (by decide) ?_
      refine wp_iload_n (pc := 39) C 1 dX11_become_39 rfl rfl ?_
      refine wp_imul (pc := 40) C dX11_become_40 ?_
      refine wp_iload (pc := 41) C 4 dX11_become_41 rfl ?_
      refine wp_iadd (pc := 43) C dX11_become_43 ?_
      refine wp_iload (pc := 44) C 4 dX11_become_44 rfl ?_
      refine wp_aload_n (pc := 46) C 0 dX11_become_46 rfl rfl ?_
      obtain ⟨S1, r2, cS1, h⟩ := bd_some h
      refine wp_callVi (As := []) (st := [.int x4, .int ((8 * x1) + x4), .ref (gA G 21)]) (pc := 47) C (CtX11_dyes cS1) mX11_dyes iX11_dyes kX11_357 (Nat.le_of_ble_eq_true rfl) rfl (by decide) rfl rfl rfl rfl (Nat.le_of_ble_eq_true rfl) ⟨Nat.le_of_ble_eq_true rfl, Nat.le_of_ble_eq_true rfl⟩ dX11_become_47 ?_
      refine wp_icmp_ge (pc := 50) C 59 dX11_become_50 (by decide) (fun q => ?_) (fun q => ?_)
      · have h := it_pos q h
        exact (wX11_become_j59 C ih h)
      · have h := it_neg q h
        refine wp_iload (pc := 53) C 4 dX11_become_53 rfl ?_
        refine wp_iload_n (pc := 55) C 3 dX11_become_55 rfl rfl ?_
        refine wp_icmp_ne (pc := 56) C 63 dX11_become_56 (by decide) (fun q => ?_) (fun q => ?_)
        · have h := it_neg q h
          refine wp_iload_n (pc := 63) C 2 dX11_become_63 rfl rfl ?_
          refine wp_if_ge (pc := 64) C 77 dX11_become_64 (by decide) (fun q => ?_) (fun q => ?_)
          · have h := it_pos q h
            refine wp_aload_n (pc := 77) C 0 dX11_become_77 rfl rfl ?_
            refine wp_getS (v := 20) (pc := 78) C flX11_72 rfl rfl (Nat.le_of_ble_eq_true rfl) (Nat.le_of_ble_eq_true rfl) rfl dX11_become_78 ?_
            refine wp_bipush (v := 8) (pc := 81) C dX11_become_81 (by decide) ?_
            refine wp_iload_n (pc := 83) C 2 dX11_become_83 rfl rfl ?_
            refine wp_imul (pc := 84) C dX11_become_84 ?_
            refine wp_iload (pc := 85) C 4 dX11_become_85 rfl ?_
            refine wp_iadd (pc := 87) C dX11_become_87 ?_
            obtain ⟨g3, h⟩ := gd_some h
            refine wp_iald (pc := 88) C (Nat.le_of_ble_eq_true rfl) rfl g3 dX11_become_88 ?_
            exact (wX11_become_j89 C ih h)
          · have h := it_neg q h
            refine wp_aload_n (pc := 67) C 0 dX11_become_67 rfl rfl ?_
            refine wp_getS (v := 31) (pc := 68) C flX11_106 rfl rfl (Nat.le_of_ble_eq_true rfl) (Nat.le_of_ble_eq_true rfl) rfl dX11_become_68 ?_
            refine wp_iload (pc := 71) C 4 dX11_become_71 rfl ?_
            obtain ⟨g4, h⟩ := gd_some h
            refine wp_iald (pc := 73) C (Nat.le_of_ble_eq_true rfl) rfl g4 dX11_become_73 ?_
            refine wp_goto (pc := 74) C 89 dX11_become_74 (by decide) ?_
            exact (wX11_become_j89 C ih h)
        · have h := it_pos q h
          exact (wX11_become_j59 C ih h)
def fX11_become_j22 (n : Nat) (S : St) (x1 : Int32) (x2 : Int32) (x3 : Int32) (y1 : Int32) (y2 : Int32) : Option (St × Unit) :=
  gd (ib y1 2) (
  bn (sI S 22 (Int32.toNatClampNeg y1) y2) (fun S2 : St =>
  fX11_become_l26 n n S2 x1 x2 x3 0))
set_option maxRecDepth 100000 in
set_option maxHeartbeats 4000000 in
theorem wX11_become_j22 (C : Cx G sdM cX11_become 5 RX11 none) {n : Nat} {S S' : St} {r : Unit} {x1 : Int32} {x2 : Int32} {x3 : Int32} {y1 : Int32} {y2 : Int32} (h : fX11_become_j22 n S x1 x2 x3 y1 y2 = some (S', r)) : Wp G sdM (rmOf 3 68) 5 (Qm G sdM none S') S 22 [(0, .ref (gA G 0)), (1, .int x1), (2, .int x2), (3, .int x3)] [.int y2, .int y1, .ref (gA G 22)] := by
  unfold fX11_become_j22 at h
  obtain ⟨g1, h⟩ := gd_some h
  obtain ⟨S2, eS2, h⟩ := bn_some h
  refine wp_iast (pc := 22) C eS2 (Nat.le_of_ble_eq_true rfl) rfl g1 dX11_become_22 ?_
  refine wp_iconst (v := 0) (pc := 23) C dX11_become_23 (by decide) ?_
  refine wp_istore (pc := 24) C rfl [(4, .int 0), (0, .ref (gA G 0)), (1, .int x1), (2, .int x2), (3, .int x3)] dX11_become_24 (Nat.le_of_ble_eq_true rfl) rfl ?_
  exact wp_sub C [1, 2, 3, 4, 0] rfl (wX11_become_l26 C _ _ _ _ _ _ h)
def fX11_become (n : Nat) (S : St) (x1 : Int32) (x2 : Int32) (x3 : Int32) : Option (St × Unit) :=
  if 0 ≤ x2 then
    gd (ib x2 8) (
    fX11_become_j22 n S x1 x2 x3 x1 (S.1 19 (Int32.toNatClampNeg x2)))
  else
    fX11_become_j22 n S x1 x2 x3 x1 (S.1 0 65)
set_option maxRecDepth 100000 in
set_option maxHeartbeats 4000000 in
theorem wX11_become (C : Cx G sdM cX11_become 5 RX11 none) {n : Nat} {S S' : St} {r : Unit} {x1 : Int32} {x2 : Int32} {x3 : Int32} (h : fX11_become n S x1 x2 x3 = some (S', r)) : Wp G sdM (rmOf 3 68) 5 (Qm G sdM none S') S 0 [(0, .ref (gA G 0)), (1, .int x1), (2, .int x2), (3, .int x3)] [] := by
  unfold fX11_become at h
  refine wp_aload_n (pc := 0) C 0 dX11_become_0 rfl rfl ?_
  refine wp_getS (v := 22) (pc := 1) C flX11_78 rfl rfl (Nat.le_of_ble_eq_true rfl) (Nat.le_of_ble_eq_true rfl) rfl dX11_become_1 ?_
  refine wp_iload_n (pc := 4) C 1 dX11_become_4 rfl rfl ?_
  refine wp_iload_n (pc := 5) C 2 dX11_become_5 rfl rfl ?_
  refine wp_if_ge (pc := 6) C 16 dX11_become_6 (by decide) (fun q => ?_) (fun q => ?_)
  · have h := it_pos q h
    refine wp_aload_n (pc := 16) C 0 dX11_become_16 rfl rfl ?_
    refine wp_getS (v := 19) (pc := 17) C flX11_69 rfl rfl (Nat.le_of_ble_eq_true rfl) (Nat.le_of_ble_eq_true rfl) rfl dX11_become_17 ?_
    refine wp_iload_n (pc := 20) C 2 dX11_become_20 rfl rfl ?_
    obtain ⟨g1, h⟩ := gd_some h
    refine wp_iald (pc := 21) C (Nat.le_of_ble_eq_true rfl) rfl g1 dX11_become_21 ?_
    exact (wX11_become_j22 C h)
  · have h := it_neg q h
    refine wp_aload_n (pc := 9) C 0 dX11_become_9 rfl rfl ?_
    refine wp_getI (pc := 10) C flX11_379 rfl (Nat.le_of_ble_eq_true rfl) rfl dX11_become_10 ?_
    refine wp_goto (pc := 13) C 22 dX11_become_13 (by decide) ?_
    exact (wX11_become_j22 C h)
theorem CtX11_become {n : Nat} {S S' : St} {r : Unit} {x1 : Int32} {x2 : Int32} {x3 : Int32} (h : fX11_become n S x1 x2 x3 = some (S', r)) : Ct l sdM cy ad D yX11_become cX11_become 5 none 3 68 [.ref (ad 0), .int x1, .int x2, .int x3] S none S' :=
  Ct_of (own := RX11) mX11_become rfl (Nat.le_of_ble_eq_true rfl) (fun G e1 e2 e3 e4 C => by subst e1 e2 e3 e4; exact wX11_become C h)
def fX11_seenBy_l6 (n : Nat) : Nat → St → Int32 → Int32 → Int32 → Int64 → Int32 → Option (St × Int64)
  | 0, _, _, _, _, _, _ => none
  | j + 1, S, x1, x2, x3, x4, x6 =>
    if (S.1 0 33) ≤ x6 then
      some (S, x4)
    else
      gd (ib ((16 * x1) + x6) 32) (
      gd (ib ((16 * x2) + x6) 96) (
      gd (ib ((16 * x3) + x6) 64) (
      bn (x4 + (((S.2.1 23 (Int32.toNatClampNeg ((16 * x1) + x6))) * (((S.1 15 (Int32.toNatClampNeg ((16 * x2) + x6))) : Int32).toInt64)) * (((S.1 16 (Int32.toNatClampNeg ((16 * x3) + x6))) : Int32).toInt64))) (fun z4 : Int64 =>
      bn (x6 + 1) (fun z5 : Int32 =>
      fX11_seenBy_l6 n j S x1 x2 x3 z4 z5)))))
set_option maxRecDepth 100000 in
set_option maxHeartbeats 4000000 in
theorem wX11_seenBy_l6 (C : Cx G sdM cX11_seenBy 7 RX11 (some .long)) {n : Nat} {S' : St} {r : Int64} : ∀ (j : Nat) (S : St) (x1 : Int32) (x2 : Int32) (x3 : Int32) (x4 : Int64) (x6 : Int32), fX11_seenBy_l6 n j S x1 x2 x3 x4 x6 = some (S', r) → Wp G sdM (rmOf 0 0) 7 (Qm G sdM (some (.long r)) S') S 6 [(0, .ref (gA G 0)), (1, .int x1), (2, .int x2), (3, .int x3), (4, .long x4), (6, .int x6)] [] := by
  intro j
  induction j with
  | zero =>
    intro S x1 x2 x3 x4 x6 h
    exact nomatch (show (none : Option (St × Int64)) = some _ from h)
  | succ j ih =>
    intro S x1 x2 x3 x4 x6 h
    rw [fX11_seenBy_l6] at h
    refine wp_iload (pc := 6) C 5 dX11_seenBy_6 rfl ?_
    refine wp_aload_n (pc := 8) C 0 dX11_seenBy_8 rfl rfl ?_
    refine wp_getI (pc := 9) C flX11_158 rfl (Nat.le_of_ble_eq_true rfl) rfl dX11_seenBy_9 ?_
    refine wp_icmp_ge (pc := 12) C 66 dX11_seenBy_12 (by decide) (fun q => ?_) (fun q => ?_)
    · have h := it_pos q h
      refine wp_lload (pc := 66) C 4 dX11_seenBy_66 rfl ?_
      exact rt_l C rfl h dX11_seenBy_68
    · have h := it_neg q h
      refine wp_lload (pc := 15) C 4 dX11_seenBy_15 rfl ?_
      refine wp_aload_n (pc := 17) C 0 dX11_seenBy_17 rfl rfl ?_
      refine wp_getS (v := 23) (pc := 18) C flX11_81 rfl rfl (Nat.le_of_ble_eq_true rfl) (Nat.le_of_ble_eq_true rfl) rfl dX11_seenBy_18 ?_
      refine wp_bipush (v := 16) (pc := 21) C dX11_seenBy_21 (by decide) ?_
      refine wp_iload_n (pc := 23) C 1 dX11_seenBy_23 rfl rfl ?_
      refine wp_imul (pc := 24) C dX11_seenBy_24 ?_
      refine wp_iload (pc := 25) C 5 dX11_seenBy_25 rfl ?_
      refine wp_iadd (pc := 27) C dX11_seenBy_27 ?_
      obtain ⟨g1, h⟩ := gd_some h
      refine wp_lald (pc := 28) C (Nat.le_of_ble_eq_true rfl) rfl g1 dX11_seenBy_28 ?_
      refine wp_aload_n (pc := 29) C 0 dX11_seenBy_29 rfl rfl ?_
      refine wp_getS (v := 15) (pc := 30) C flX11_57 rfl rfl (Nat.le_of_ble_eq_true rfl) (Nat.le_of_ble_eq_true rfl) rfl dX11_seenBy_30 ?_
      refine wp_bipush (v := 16) (pc := 33) C dX11_seenBy_33 (by decide) ?_
      refine wp_iload_n (pc := 35) C 2 dX11_seenBy_35 rfl rfl ?_
      refine wp_imul (pc := 36) C dX11_seenBy_36 ?_
      refine wp_iload (pc := 37) C 5 dX11_seenBy_37 rfl ?_
      refine wp_iadd (pc := 39) C dX11_seenBy_39 ?_
      obtain ⟨g2, h⟩ := gd_some h
      refine wp_iald (pc := 40) C (Nat.le_of_ble_eq_true rfl) rfl g2 dX11_seenBy_40 ?_
      refine wp_i2l (pc := 41) C dX11_seenBy_41 ?_
      refine wp_lmul (pc := 42) C dX11_seenBy_42 ?_
      refine wp_aload_n (pc := 43) C 0 dX11_seenBy_43 rfl rfl ?_
      refine wp_getS (v := 16) (pc := 44) C flX11_60 rfl rfl (Nat.le_of_ble_eq_true rfl) (Nat.le_of_ble_eq_true rfl) rfl dX11_seenBy_44 ?_
      refine wp_bipush (v := 16) (pc := 47) C dX11_seenBy_47 (by decide) ?_
      refine wp_iload_n (pc := 49) C 3 dX11_seenBy_49 rfl rfl ?_
      refine wp_imul (pc := 50) C dX11_seenBy_50 ?_
      refine wp_iload (pc := 51) C 5 dX11_seenBy_51 rfl ?_
      refine wp_iadd (pc := 53) C dX11_seenBy_53 ?_
      obtain ⟨g3, h⟩ := gd_some h
      refine wp_iald (pc := 54) C (Nat.le_of_ble_eq_true rfl) rfl g3 dX11_seenBy_54 ?_
      refine wp_i2l (pc := 55) C dX11_seenBy_55 ?_
      refine wp_lmul (pc := 56) C dX11_seenBy_56 ?_
      refine wp_ladd (pc := 57) C dX11_seenBy_57 ?_
      obtain ⟨z4, ez4, h⟩ := bn_some h
      refine wp_lstore (pc := 58) C ez4 [(4, .long z4), (0, .ref (gA G 0)), (1, .int x1), (2, .int x2), (3, .int x3), (6, .int x6)] dX11_seenBy_58 (Nat.le_of_ble_eq_true rfl) rfl ?_
      obtain ⟨z5, ez5, h⟩ := bn_some h
      refine wp_iinc (q := 5) (pc := 60) C (by decide) ez5 [(6, .int z5), (4, .long z4), (0, .ref (gA G 0)), (1, .int x1), (2, .int x2), (3, .int x3)] dX11_seenBy_60 rfl (Nat.le_of_ble_eq_true rfl) rfl ?_
      refine wp_goto (pc := 63) C 6 dX11_seenBy_63 (by decide) ?_
      exact wp_sub C [2, 3, 4, 5, 1, 0] rfl (ih _ _ _ _ _ _ h)
def fX11_seenBy (n : Nat) (S : St) (x1 : Int32) (x2 : Int32) (x3 : Int32) : Option (St × Int64) :=
  fX11_seenBy_l6 n n S x1 x2 x3 0 0
set_option maxRecDepth 100000 in
set_option maxHeartbeats 4000000 in
theorem wX11_seenBy (C : Cx G sdM cX11_seenBy 7 RX11 (some .long)) {n : Nat} {S S' : St} {r : Int64} {x1 : Int32} {x2 : Int32} {x3 : Int32} (h : fX11_seenBy n S x1 x2 x3 = some (S', r)) : Wp G sdM (rmOf 0 0) 7 (Qm G sdM (some (.long r)) S') S 0 [(0, .ref (gA G 0)), (1, .int x1), (2, .int x2), (3, .int x3)] [] := by
  unfold fX11_seenBy at h
  refine wp_lconst (v := 0) (pc := 0) C dX11_seenBy_0 (by decide) ?_
  refine wp_lstore (pc := 1) C rfl [(4, .long 0), (0, .ref (gA G 0)), (1, .int x1), (2, .int x2), (3, .int x3)] dX11_seenBy_1 (Nat.le_of_ble_eq_true rfl) rfl ?_
  refine wp_iconst (v := 0) (pc := 3) C dX11_seenBy_3 (by decide) ?_
  refine wp_istore (pc := 4) C rfl [(6, .int 0), (4, .long 0), (0, .ref (gA G 0)), (1, .int x1), (2, .int x2), (3, .int x3)] dX11_seenBy_4 (Nat.le_of_ble_eq_true rfl) rfl ?_
  exact wp_sub C [2, 3, 4, 5, 1, 0] rfl (wX11_seenBy_l6 C _ _ _ _ _ _ _ h)
theorem CtX11_seenBy {n : Nat} {S S' : St} {r : Int64} {x1 : Int32} {x2 : Int32} {x3 : Int32} (h : fX11_seenBy n S x1 x2 x3 = some (S', r)) : Ct l sdM cy ad D yX11_seenBy cX11_seenBy 7 (some .long) 0 0 [.ref (ad 0), .int x1, .int x2, .int x3] S (some (.long r)) S' :=
  Ct_of (own := RX11) mX11_seenBy rfl (Nat.le_of_ble_eq_true rfl) (fun G e1 e2 e3 e4 C => by subst e1 e2 e3 e4; exact wX11_seenBy C h)
def fX11_doesSee_j26 (n : Nat) (S : St) : Option (St × Int32) :=
  some (S, 1)
set_option maxRecDepth 100000 in
set_option maxHeartbeats 4000000 in
theorem wX11_doesSee_j26 (C : Cx G sdM cX11_doesSee 3 RX11 (some .boolean)) {n : Nat} {S S' : St} {r : Int32} (h : fX11_doesSee_j26 n S = some (S', r)) : Wp G sdM (rmOf 1 20) 3 (Qm G sdM (some (.int r)) S') S 26 [] [] := by
  unfold fX11_doesSee_j26 at h
  refine wp_iconst (v := 1) (pc := 26) C dX11_doesSee_26 (by decide) ?_
  refine wp_goto (pc := 27) C 31 dX11_doesSee_27 (by decide) ?_
  exact rt_z C (Or.inr rfl) rfl h dX11_doesSee_31
def fX11_doesSee_j23 (n : Nat) (S : St) (y0 : Int32) (y1 : Int32) : Option (St × Int32) :=
  if y0 = y1 then
    fX11_doesSee_j26 n S
  else
    some (S, 0)
set_option maxRecDepth 100000 in
set_option maxHeartbeats 4000000 in
theorem wX11_doesSee_j23 (C : Cx G sdM cX11_doesSee 3 RX11 (some .boolean)) {n : Nat} {S S' : St} {r : Int32} {y0 : Int32} {y1 : Int32} (h : fX11_doesSee_j23 n S y0 y1 = some (S', r)) : Wp G sdM (rmOf 1 20) 3 (Qm G sdM (some (.int r)) S') S 23 [] [.int y1, .int y0] := by
  unfold fX11_doesSee_j23 at h
  refine wp_icmp_ne (pc := 23) C 30 dX11_doesSee_23 (by decide) (fun q => ?_) (fun q => ?_)
  · have h := it_neg q h
    refine wp_iconst (v := 0) (pc := 30) C dX11_doesSee_30 (by decide) ?_
    exact rt_z C (Or.inl rfl) rfl h dX11_doesSee_31
  · have h := it_pos q h
    exact (wX11_doesSee_j26 C h)
def fX11_doesSee (n : Nat) (S : St) (x1 : Int32) (x2 : Int32) : Option (St × Int32) :=
  bd (fX11_eyes n S) (fun S1 r2 =>
  if r2 ≤ x1 then
    some (S1, 0)
  else
    if x1 < 2 then
      fX11_doesSee_j26 n S1
    else
      if x2 = 0 then
        fX11_doesSee_j23 n S1 x1 2
      else
        fX11_doesSee_j23 n S1 x1 3)
set_option maxRecDepth 100000 in
set_option maxHeartbeats 4000000 in
theorem wX11_doesSee (C : Cx G sdM cX11_doesSee 3 RX11 (some .boolean)) {n : Nat} {S S' : St} {r : Int32} {x1 : Int32} {x2 : Int32} (h : fX11_doesSee n S x1 x2 = some (S', r)) : Wp G sdM (rmOf 1 20) 3 (Qm G sdM (some (.int r)) S') S 0 [(0, .ref (gA G 0)), (1, .int x1), (2, .int x2)] [] := by
  unfold fX11_doesSee at h
  refine wp_iload_n (pc := 0) C 1 dX11_doesSee_0 rfl rfl ?_
  refine wp_aload_n (pc := 1) C 0 dX11_doesSee_1 rfl rfl ?_
  obtain ⟨S1, r2, cS1, h⟩ := bd_some h
  refine wp_callVi (As := []) (st := [.int x1]) (pc := 2) C (CtX11_eyes cS1) mX11_eyes iX11_eyes kX11_368 (Nat.le_of_ble_eq_true rfl) rfl (by decide) rfl rfl rfl rfl (Nat.le_of_ble_eq_true rfl) ⟨Nat.le_of_ble_eq_true rfl, Nat.le_of_ble_eq_true rfl⟩ dX11_doesSee_2 ?_
  refine wp_icmp_ge (pc := 5) C 30 dX11_doesSee_5 (by decide) (fun q => ?_) (fun q => ?_)
  · have h := it_pos q h
    refine wp_iconst (v := 0) (pc := 30) C dX11_doesSee_30 (by decide) ?_
    exact rt_z C (Or.inl rfl) rfl h dX11_doesSee_31
  · have h := it_neg q h
    refine wp_iload_n (pc := 8) C 1 dX11_doesSee_8 rfl rfl ?_
    refine wp_iconst (v := 2) (pc := 9) C dX11_doesSee_9 (by decide) ?_
    refine wp_icmp_lt (pc := 10) C 26 dX11_doesSee_10 (by decide) (fun q => ?_) (fun q => ?_)
    · have h := it_pos q h
      exact wp_sub C [] rfl (wX11_doesSee_j26 C h)
    · have h := it_neg q h
      refine wp_iload_n (pc := 13) C 1 dX11_doesSee_13 rfl rfl ?_
      refine wp_iload_n (pc := 14) C 2 dX11_doesSee_14 rfl rfl ?_
      refine wp_if_eq (pc := 15) C 22 dX11_doesSee_15 (by decide) (fun q => ?_) (fun q => ?_)
      · have h := it_pos q h
        refine wp_iconst (v := 2) (pc := 22) C dX11_doesSee_22 (by decide) ?_
        exact wp_sub C [] rfl (wX11_doesSee_j23 C h)
      · have h := it_neg q h
        refine wp_iconst (v := 3) (pc := 18) C dX11_doesSee_18 (by decide) ?_
        refine wp_goto (pc := 19) C 23 dX11_doesSee_19 (by decide) ?_
        exact wp_sub C [] rfl (wX11_doesSee_j23 C h)
theorem CtX11_doesSee {n : Nat} {S S' : St} {r : Int32} {x1 : Int32} {x2 : Int32} (h : fX11_doesSee n S x1 x2 = some (S', r)) : Ct l sdM cy ad D yX11_doesSee cX11_doesSee 3 (some .boolean) 1 20 [.ref (ad 0), .int x1, .int x2] S (some (.int r)) S' :=
  Ct_of (own := RX11) mX11_doesSee rfl (Nat.le_of_ble_eq_true rfl) (fun G e1 e2 e3 e4 C => by subst e1 e2 e3 e4; exact wX11_doesSee C h)
def fX11_apartBy_j74 (n : Nat) (k5 : St → Int32 → Int32 → Int64 → Int32 → Option (St × Int64)) (S : St) (x1 : Int32) (x2 : Int32) (x3 : Int64) (x5 : Int32) : Option (St × Int64) :=
  bn (x5 + 1) (fun z1 : Int32 =>
  k5 S x1 x2 x3 z1)
set_option maxRecDepth 100000 in
set_option maxHeartbeats 4000000 in
theorem wX11_apartBy_j74 (C : Cx G sdM cX11_apartBy 8 RX11 (some .long)) {n : Nat} {k5 : St → Int32 → Int32 → Int64 → Int32 → Option (St × Int64)} {S S' : St} {r : Int64} {x1 : Int32} {x2 : Int32} {x3 : Int64} {x5 : Int32} (hk5 : ∀ (S : St) (x1 : Int32) (x2 : Int32) (x3 : Int64) (x5 : Int32), k5 S x1 x2 x3 x5 = some (S', r) → Wp G sdM (rmOf 2 42) 8 (Qm G sdM (some (.long r)) S') S 5 [(0, .ref (gA G 0)), (1, .int x1), (2, .int x2), (3, .long x3), (5, .int x5)] []) (h : fX11_apartBy_j74 n k5 S x1 x2 x3 x5 = some (S', r)) : Wp G sdM (rmOf 2 42) 8 (Qm G sdM (some (.long r)) S') S 74 [(0, .ref (gA G 0)), (1, .int x1), (2, .int x2), (3, .long x3), (5, .int x5)] [] := by
  unfold fX11_apartBy_j74 at h
  obtain ⟨z1, ez1, h⟩ := bn_some h
  refine wp_iinc (q := 4) (pc := 74) C (by decide) ez1 [(5, .int z1), (0, .ref (gA G 0)), (1, .int x1), (2, .int x2), (3, .long x3)] dX11_apartBy_74 rfl (Nat.le_of_ble_eq_true rfl) rfl ?_
  refine wp_goto (pc := 77) C 5 dX11_apartBy_77 (by decide) ?_
  exact wp_sub C [1, 2, 3, 4, 0] rfl (hk5 _ _ _ _ _ h)
def fX11_apartBy_j73 (n : Nat) (k5 : St → Int32 → Int32 → Int64 → Int32 → Option (St × Int64)) (S : St) (x1 : Int32) (x2 : Int32) (x5 : Int32) (y0 : Int64) : Option (St × Int64) :=
  fX11_apartBy_j74 n k5 S x1 x2 y0 x5
set_option maxRecDepth 100000 in
set_option maxHeartbeats 4000000 in
theorem wX11_apartBy_j73 (C : Cx G sdM cX11_apartBy 8 RX11 (some .long)) {n : Nat} {k5 : St → Int32 → Int32 → Int64 → Int32 → Option (St × Int64)} {S S' : St} {r : Int64} {x1 : Int32} {x2 : Int32} {x5 : Int32} {y0 : Int64} (hk5 : ∀ (S : St) (x1 : Int32) (x2 : Int32) (x3 : Int64) (x5 : Int32), k5 S x1 x2 x3 x5 = some (S', r) → Wp G sdM (rmOf 2 42) 8 (Qm G sdM (some (.long r)) S') S 5 [(0, .ref (gA G 0)), (1, .int x1), (2, .int x2), (3, .long x3), (5, .int x5)] []) (h : fX11_apartBy_j73 n k5 S x1 x2 x5 y0 = some (S', r)) : Wp G sdM (rmOf 2 42) 8 (Qm G sdM (some (.long r)) S') S 73 [(0, .ref (gA G 0)), (1, .int x1), (2, .int x2), (5, .int x5)] [.long y0] := by
  unfold fX11_apartBy_j73 at h
  refine wp_lstore_n (pc := 73) C rfl [(3, .long y0), (0, .ref (gA G 0)), (1, .int x1), (2, .int x2), (5, .int x5)] dX11_apartBy_73 rfl (Nat.le_of_ble_eq_true rfl) rfl ?_
  exact wp_sub C [1, 2, 3, 0, 4] rfl (wX11_apartBy_j74 C hk5 h)
def fX11_apartBy_j58 (n : Nat) (k5 : St → Int32 → Int32 → Int64 → Int32 → Option (St × Int64)) (S : St) (x1 : Int32) (x2 : Int32) (x3 : Int64) (x5 : Int32) (y0 : Int64) : Option (St × Int64) :=
  if (lg_cmp y0 x3) ≤ 0 then
    fX11_apartBy_j73 n k5 S x1 x2 x5 x3
  else
    fX11_apartBy_j73 n k5 S x1 x2 x5 y0
set_option maxRecDepth 100000 in
set_option maxHeartbeats 4000000 in
theorem wX11_apartBy_j58 (C : Cx G sdM cX11_apartBy 8 RX11 (some .long)) {n : Nat} {k5 : St → Int32 → Int32 → Int64 → Int32 → Option (St × Int64)} {S S' : St} {r : Int64} {x1 : Int32} {x2 : Int32} {x3 : Int64} {x5 : Int32} {y0 : Int64} (hk5 : ∀ (S : St) (x1 : Int32) (x2 : Int32) (x3 : Int64) (x5 : Int32), k5 S x1 x2 x3 x5 = some (S', r) → Wp G sdM (rmOf 2 42) 8 (Qm G sdM (some (.long r)) S') S 5 [(0, .ref (gA G 0)), (1, .int x1), (2, .int x2), (3, .long x3), (5, .int x5)] []) (h : fX11_apartBy_j58 n k5 S x1 x2 x3 x5 y0 = some (S', r)) : Wp G sdM (rmOf 2 42) 8 (Qm G sdM (some (.long r)) S') S 58 [(0, .ref (gA G 0)), (1, .int x1), (2, .int x2), (3, .long x3), (5, .int x5)] [.long y0] := by
  unfold fX11_apartBy_j58 at h
  refine wp_lstore (pc := 58) C rfl [(6, .long y0), (0, .ref (gA G 0)), (1, .int x1), (2, .int x2), (3, .long x3), (5, .int x5)] dX11_apartBy_58 (Nat.le_of_ble_eq_true rfl) rfl ?_
  refine wp_lload (pc := 60) C 0 dX11_apartBy_60 rfl ?_
  refine wp_lload_n (pc := 62) C 4 dX11_apartBy_62 rfl rfl ?_
  refine wp_lcmp (pc := 63) C dX11_apartBy_63 ?_
  refine wp_if_le (pc := 64) C 72 dX11_apartBy_64 (by decide) (fun q => ?_) (fun q => ?_)
  · have h := it_pos q h
    refine wp_lload_n (pc := 72) C 4 dX11_apartBy_72 rfl rfl ?_
    exact wp_sub C [1, 2, 3, 5] rfl (wX11_apartBy_j73 C hk5 h)
  · have h := it_neg q h
    refine wp_lload (pc := 67) C 0 dX11_apartBy_67 rfl ?_
    refine wp_goto (pc := 69) C 73 dX11_apartBy_69 (by decide) ?_
    exact wp_sub C [1, 2, 3, 5] rfl (wX11_apartBy_j73 C hk5 h)
def fX11_apartBy_l5 (n : Nat) : Nat → St → Int32 → Int32 → Int64 → Int32 → Option (St × Int64)
  | 0, _, _, _, _, _ => none
  | j + 1, S, x1, x2, x3, x5 =>
    if 4 ≤ x5 then
      some (S, x3)
    else
      bd (fX11_doesSee n S x5 x2) (fun S1 r2 =>
      if r2 = 0 then
        fX11_apartBy_j74 n (fX11_apartBy_l5 n j) S1 x1 x2 x3 x5
      else
        bd (fX11_seenBy n S1 0 x1 x5) (fun S3 r4 =>
        bd (fX11_seenBy n S3 1 x1 x5) (fun S5 r6 =>
        bn (r4 - r6) (fun z7 : Int64 =>
        if 0 ≤ (lg_cmp z7 0) then
          fX11_apartBy_j58 n (fX11_apartBy_l5 n j) S5 x1 x2 x3 x5 z7
        else
          fX11_apartBy_j58 n (fX11_apartBy_l5 n j) S5 x1 x2 x3 x5 (-z7)))))
set_option maxRecDepth 100000 in
set_option maxHeartbeats 4000000 in
theorem wX11_apartBy_l5 (C : Cx G sdM cX11_apartBy 8 RX11 (some .long)) {n : Nat} {S' : St} {r : Int64} : ∀ (j : Nat) (S : St) (x1 : Int32) (x2 : Int32) (x3 : Int64) (x5 : Int32), fX11_apartBy_l5 n j S x1 x2 x3 x5 = some (S', r) → Wp G sdM (rmOf 2 42) 8 (Qm G sdM (some (.long r)) S') S 5 [(0, .ref (gA G 0)), (1, .int x1), (2, .int x2), (3, .long x3), (5, .int x5)] [] := by
  intro j
  induction j with
  | zero =>
    intro S x1 x2 x3 x5 h
    exact nomatch (show (none : Option (St × Int64)) = some _ from h)
  | succ j ih =>
    intro S x1 x2 x3 x5 h
    rw [fX11_apartBy_l5] at h
    refine wp_iload (pc := 5) C 4 dX11_apartBy_5 rfl ?_
    refine wp_iconst (v := 4) (pc := 7) C dX11_apartBy_7 (by decide) ?_
    refine wp_icmp_ge (pc := 8) C 80 dX11_apartBy_8 (by decide) (fun q => ?_) (fun q => ?_)
    · have h := it_pos q h
      refine wp_lload_n (pc := 80) C 3 dX11_apartBy_80 rfl rfl ?_
      exact rt_l C rfl h dX11_apartBy_81
    · have h := it_neg q h
      refine wp_aload_n (pc := 11) C 0 dX11_apartBy_11 rfl rfl ?_
      refine wp_iload (pc := 12) C 4 dX11_apartBy_12 rfl ?_
      refine wp_iload_n (pc := 14) C 2 dX11_apartBy_14 rfl rfl ?_
      obtain ⟨S1, r2, cS1, h⟩ := bd_some h
      refine wp_callVi (As := [.int x5, .int x2]) (st := []) (pc := 15) C (CtX11_doesSee cS1) mX11_doesSee iX11_doesSee kX11_385 (Nat.le_of_ble_eq_true rfl) rfl (by decide) rfl rfl rfl rfl (Nat.le_of_ble_eq_true rfl) ⟨Nat.le_of_ble_eq_true rfl, Nat.le_of_ble_eq_true rfl⟩ dX11_apartBy_15 ?_
      refine wp_if_ne (pc := 18) C 24 dX11_apartBy_18 (by decide) (fun q => ?_) (fun q => ?_)
      · have h := it_neg q h
        refine wp_aload_n (pc := 24) C 0 dX11_apartBy_24 rfl rfl ?_
        refine wp_iconst (v := 0) (pc := 25) C dX11_apartBy_25 (by decide) ?_
        refine wp_iload_n (pc := 26) C 1 dX11_apartBy_26 rfl rfl ?_
        refine wp_iload (pc := 27) C 4 dX11_apartBy_27 rfl ?_
        obtain ⟨S3, r4, cS3, h⟩ := bd_some h
        refine wp_callVl (As := [.int 0, .int x1, .int x5]) (st := []) (pc := 29) C (CtX11_seenBy cS3) mX11_seenBy iX11_seenBy kX11_389 (Nat.le_of_ble_eq_true rfl) rfl (by decide) rfl rfl rfl rfl (Nat.le_of_ble_eq_true rfl) ⟨Nat.le_of_ble_eq_true rfl, Nat.le_of_ble_eq_true rfl⟩ dX11_apartBy_29 ?_
        refine wp_aload_n (pc := 32) C 0 dX11_apartBy_32 rfl rfl ?_
        refine wp_iconst (v := 1) (pc := 33) C dX11_apartBy_33 (by decide) ?_
        refine wp_iload_n (pc := 34) C 1 dX11_apartBy_34 rfl rfl ?_
        refine wp_iload (pc := 35) C 4 dX11_apartBy_35 rfl ?_
        obtain ⟨S5, r6, cS5, h⟩ := bd_some h
        refine wp_callVl (As := [.int 1, .int x1, .int x5]) (st := [.long r4]) (pc := 37) C (CtX11_seenBy cS5) mX11_seenBy iX11_seenBy kX11_389 (Nat.le_of_ble_eq_true rfl) rfl (by decide) rfl rfl rfl rfl (Nat.le_of_ble_eq_true rfl) ⟨Nat.le_of_ble_eq_true rfl, Nat.le_of_ble_eq_true rfl⟩ dX11_apartBy_37 ?_
        refine wp_lsub (pc := 40) C dX11_apartBy_40 ?_
        obtain ⟨z7, ez7, h⟩ := bn_some h
        refine wp_lstore (pc := 41) C ez7 [(6, .long z7), (0, .ref (gA G 0)), (1, .int x1), (2, .int x2), (3, .long x3), (5, .int x5)] dX11_apartBy_41 (Nat.le_of_ble_eq_true rfl) rfl ?_
        refine wp_lload (pc := 43) C 0 dX11_apartBy_43 rfl ?_
        refine wp_lconst (v := 0) (pc := 45) C dX11_apartBy_45 (by decide) ?_
        refine wp_lcmp (pc := 46) C dX11_apartBy_46 ?_
        refine wp_if_ge (pc := 47) C 56 dX11_apartBy_47 (by decide) (fun q => ?_) (fun q => ?_)
        · have h := it_pos q h
          refine wp_lload (pc := 56) C 0 dX11_apartBy_56 rfl ?_
          exact wp_sub C [1, 2, 3, 4, 5] rfl (wX11_apartBy_j58 C ih h)
        · have h := it_neg q h
          refine wp_lload (pc := 50) C 0 dX11_apartBy_50 rfl ?_
          refine wp_lneg (pc := 52) C dX11_apartBy_52 ?_
          refine wp_goto (pc := 53) C 58 dX11_apartBy_53 (by decide) ?_
          exact wp_sub C [1, 2, 3, 4, 5] rfl (wX11_apartBy_j58 C ih h)
      · have h := it_pos q h
        refine wp_goto (pc := 21) C 74 dX11_apartBy_21 (by decide) ?_
        exact (wX11_apartBy_j74 C ih h)
def fX11_apartBy (n : Nat) (S : St) (x1 : Int32) (x2 : Int32) : Option (St × Int64) :=
  fX11_apartBy_l5 n n S x1 x2 0 0
set_option maxRecDepth 100000 in
set_option maxHeartbeats 4000000 in
theorem wX11_apartBy (C : Cx G sdM cX11_apartBy 8 RX11 (some .long)) {n : Nat} {S S' : St} {r : Int64} {x1 : Int32} {x2 : Int32} (h : fX11_apartBy n S x1 x2 = some (S', r)) : Wp G sdM (rmOf 2 42) 8 (Qm G sdM (some (.long r)) S') S 0 [(0, .ref (gA G 0)), (1, .int x1), (2, .int x2)] [] := by
  unfold fX11_apartBy at h
  refine wp_lconst (v := 0) (pc := 0) C dX11_apartBy_0 (by decide) ?_
  refine wp_lstore_n (pc := 1) C rfl [(3, .long 0), (0, .ref (gA G 0)), (1, .int x1), (2, .int x2)] dX11_apartBy_1 rfl (Nat.le_of_ble_eq_true rfl) rfl ?_
  refine wp_iconst (v := 0) (pc := 2) C dX11_apartBy_2 (by decide) ?_
  refine wp_istore (pc := 3) C rfl [(5, .int 0), (3, .long 0), (0, .ref (gA G 0)), (1, .int x1), (2, .int x2)] dX11_apartBy_3 (Nat.le_of_ble_eq_true rfl) rfl ?_
  exact wp_sub C [2, 3, 4, 1, 0] rfl (wX11_apartBy_l5 C _ _ _ _ _ _ h)
theorem CtX11_apartBy {n : Nat} {S S' : St} {r : Int64} {x1 : Int32} {x2 : Int32} (h : fX11_apartBy n S x1 x2 = some (S', r)) : Ct l sdM cy ad D yX11_apartBy cX11_apartBy 8 (some .long) 2 42 [.ref (ad 0), .int x1, .int x2] S (some (.long r)) S' :=
  Ct_of (own := RX11) mX11_apartBy rfl (Nat.le_of_ble_eq_true rfl) (fun G e1 e2 e3 e4 C => by subst e1 e2 e3 e4; exact wX11_apartBy C h)
def fX11_isAlike (n : Nat) (S : St) (x1 : Int32) (x2 : Int32) : Option (St × Int32) :=
  bd (fX11_apartBy n S x1 x2) (fun S1 r2 =>
  if 0 < (lg_cmp r2 ((((S1.1 0 35) : Int32).toInt64) * 1000)) then
    some (S1, 0)
  else
    some (S1, 1))
set_option maxRecDepth 100000 in
set_option maxHeartbeats 4000000 in
theorem wX11_isAlike (C : Cx G sdM cX11_isAlike 3 RX11 (some .boolean)) {n : Nat} {S S' : St} {r : Int32} {x1 : Int32} {x2 : Int32} (h : fX11_isAlike n S x1 x2 = some (S', r)) : Wp G sdM (rmOf 3 69) 3 (Qm G sdM (some (.int r)) S') S 0 [(0, .ref (gA G 0)), (1, .int x1), (2, .int x2)] [] := by
  unfold fX11_isAlike at h
  refine wp_aload_n (pc := 0) C 0 dX11_isAlike_0 rfl rfl ?_
  refine wp_iload_n (pc := 1) C 1 dX11_isAlike_1 rfl rfl ?_
  refine wp_iload_n (pc := 2) C 2 dX11_isAlike_2 rfl rfl ?_
  obtain ⟨S1, r2, cS1, h⟩ := bd_some h
  refine wp_callVl (As := [.int x1, .int x2]) (st := []) (pc := 3) C (CtX11_apartBy cS1) mX11_apartBy iX11_apartBy kX11_392 (Nat.le_of_ble_eq_true rfl) rfl (by decide) rfl rfl rfl rfl (Nat.le_of_ble_eq_true rfl) ⟨Nat.le_of_ble_eq_true rfl, Nat.le_of_ble_eq_true rfl⟩ dX11_isAlike_3 ?_
  refine wp_aload_n (pc := 6) C 0 dX11_isAlike_6 rfl rfl ?_
  refine wp_getI (pc := 7) C flX11_164 rfl (Nat.le_of_ble_eq_true rfl) rfl dX11_isAlike_7 ?_
  refine wp_i2l (pc := 10) C dX11_isAlike_10 ?_
  refine wp_ldc2 (pc := 11) C qX11_396 dX11_isAlike_11 ?_
  refine wp_lmul (pc := 14) C dX11_isAlike_14 ?_
  refine wp_lcmp (pc := 15) C dX11_isAlike_15 ?_
  refine wp_if_gt (pc := 16) C 23 dX11_isAlike_16 (by decide) (fun q => ?_) (fun q => ?_)
  · have h := it_pos q h
    refine wp_iconst (v := 0) (pc := 23) C dX11_isAlike_23 (by decide) ?_
    exact rt_z C (Or.inl rfl) rfl h dX11_isAlike_24
  · have h := it_neg q h
    refine wp_iconst (v := 1) (pc := 19) C dX11_isAlike_19 (by decide) ?_
    refine wp_goto (pc := 20) C 24 dX11_isAlike_20 (by decide) ?_
    exact rt_z C (Or.inr rfl) rfl h dX11_isAlike_24
theorem CtX11_isAlike {n : Nat} {S S' : St} {r : Int32} {x1 : Int32} {x2 : Int32} (h : fX11_isAlike n S x1 x2 = some (S', r)) : Ct l sdM cy ad D yX11_isAlike cX11_isAlike 3 (some .boolean) 3 69 [.ref (ad 0), .int x1, .int x2] S (some (.int r)) S' :=
  Ct_of (own := RX11) mX11_isAlike rfl (Nat.le_of_ble_eq_true rfl) (fun G e1 e2 e3 e4 C => by subst e1 e2 e3 e4; exact wX11_isAlike C h)
end
