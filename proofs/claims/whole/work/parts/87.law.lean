/-! the law's loop (wip/whole/gen/mk87.py) -/
/-- the script: its cell is the id 300 -/
def SC (Γ : Cxt) (Ls : Nat) (xs : Nat → Int32) : Prop :=
  match Γ with
  | (p, l, e, R, s, m, args, below, meth, c, D, ad, cA, Q, nc, ns) => va_X (ad 300) Ls xs s s.heap ∧ ad 300 < s.heap.size ∧ ¬ Aw ad s.heap.size (ad 300)
section LW
variable {Γ : Cxt} {own : String} {cc : ByteArray} {nL fr lo pc : Nat} {rt : Option FieldType} {L : List (Option Value)} {st : List Value} {σ : St} {Ls : Nat} {xs : Nat → Int32}
theorem s_sld (G : OK Γ own cc nL rt fr lo) (hC : SC Γ Ls xs) (h2 : Ls ≤ 2560) {i : Int32} {k : Nat} (hi : i = nI k) (hk : k < Ls) (hd : decode cc pc = .ok (.iaload, 1)) (kk : WW Γ (pc + 1) L (.int (xs k) :: st) σ) : WW Γ pc L (.int i :: .ref 300 :: st) σ := by
  obtain ⟨p, l, e, R, s, m, args, below, meth, c, D, ad, cA, Q, nc, ns⟩ := Γ
  obtain ⟨hx, hb, hr, hml, hown, hts, hN, hK, hKA, hI, hlk, hStr, hR⟩ := G
  obtain ⟨c1, c2, c3⟩ := hC
  intro H locs ls hP hS hL
  have e1 : i.toNatClampNeg = k := by rw [hi]; exact nI_clamp (by omega)
  have h9 := kk H locs ls hP hS hL
  rw [← e1] at h9
  refine va_sld hx hb c1 c2 c3 hS ?_ hd h9
  rw [hi]
  exact nI_in hk (by omega)
theorem s_scl (G : OK Γ own cc nL rt fr lo) (hC : SC Γ Ls xs) (hd : decode cc pc = .ok (.arraylength, 1)) (kk : WW Γ (pc + 1) L (.int (Int32.ofNat Ls) :: st) σ) : WW Γ pc L (.ref 300 :: st) σ := by
  obtain ⟨p, l, e, R, s, m, args, below, meth, c, D, ad, cA, Q, nc, ns⟩ := Γ
  obtain ⟨hx, hb, hr, hml, hown, hts, hN, hK, hKA, hI, hlk, hStr, hR⟩ := G
  obtain ⟨c1, c2, c3⟩ := hC
  intro H locs ls hP hS hL
  exact va_slen hx hb c1 c2 c3 hS hd (kk H locs ls hP hS hL)
abbrev LL (i : Nat) : List (Option Value) := [some (.ref 300), some (.ref 0), some (.ref 87), some (.int (nI i))]

set_option maxRecDepth 100000 in
theorem lw_begins (G : OK Γ RL cL_law 4 rt 12 444) (hC : SC Γ Ls xs) (h2 : Ls ≤ 2560) {i : Nat} (hi : i + 5 ≤ Ls) {N : Net} (h : IN N σ 0 0 0) (cont : ∀ (N : Net) (τ : St), IN N τ 0 0 0 → WW Γ 946 (LL i) [] τ) : WW Γ 156 (LL i) [] σ := by
  obtain ⟨q, hq, r, hr, e, N2, h9⟩ := op_begins h (xs (i + 1))
  refine s_aload_n G dL_law_156 rfl ?_
  refine s_aload_n G dL_law_157 rfl ?_
  refine s_iload_n G dL_law_158 rfl ?_
  refine s_iconst (v := 1) G dL_law_159 rfl ?_
  refine s_iadd G dL_law_160 ?_
  refine s_sld G hC h2 (k := i + 1) (nI_add i 1) (by omega) dL_law_161 ?_
  refine s_callV G dL_law_162 (c_X5_begins hq) lkM_L_13 yk_X5_begins yv_X5_begins (by decide) rfl rfl _ [] rfl rfl rfl (Nat.le_of_ble_eq_true rfl) (by decide) ?_
  refine s_aload_n G dL_law_165 rfl ?_
  refine s_aload_n G dL_law_166 rfl ?_
  refine s_iload_n G dL_law_167 rfl ?_
  refine s_iconst (v := 1) G dL_law_168 rfl ?_
  refine s_iadd G dL_law_169 ?_
  refine s_sld G hC h2 (k := i + 1) (nI_add i 1) (by omega) dL_law_170 ?_
  refine s_callV G dL_law_171 (c_X6_begins hr) lkM_L_17 yk_X6_begins yv_X6_begins (by decide) rfl rfl _ [.int q.1] rfl rfl rfl (Nat.le_of_ble_eq_true rfl) (by decide) ?_
  exact s_icmp_eq (tgt := 946) G dL_law_174 (by decide) (fun _ => cont N2 _ h9) (fun c => absurd e.symm c)
set_option maxRecDepth 100000 in
theorem lw_feeds (G : OK Γ RL cL_law 4 rt 12 444) (hC : SC Γ Ls xs) (h2 : Ls ≤ 2560) {i : Nat} (hi : i + 5 ≤ Ls) {N : Net} (h : IN N σ 0 0 0) (cont : ∀ (N : Net) (τ : St), IN N τ 0 0 0 → WW Γ 946 (LL i) [] τ) : WW Γ 179 (LL i) [] σ := by
  obtain ⟨q, hq, r, hr, e, N2, h9⟩ := op_feeds h (xs (i + 1)) (xs (i + 2))
  refine s_aload_n G dL_law_179 rfl ?_
  refine s_aload_n G dL_law_180 rfl ?_
  refine s_iload_n G dL_law_181 rfl ?_
  refine s_iconst (v := 1) G dL_law_182 rfl ?_
  refine s_iadd G dL_law_183 ?_
  refine s_sld G hC h2 (k := i + 1) (nI_add i 1) (by omega) dL_law_184 ?_
  refine s_aload_n G dL_law_185 rfl ?_
  refine s_iload_n G dL_law_186 rfl ?_
  refine s_iconst (v := 2) G dL_law_187 rfl ?_
  refine s_iadd G dL_law_188 ?_
  refine s_sld G hC h2 (k := i + 2) (nI_add i 2) (by omega) dL_law_189 ?_
  refine s_callV G dL_law_190 (c_X5_feeds hq) lkM_L_18 yk_X5_feeds yv_X5_feeds (by decide) rfl rfl _ [] rfl rfl rfl (Nat.le_of_ble_eq_true rfl) (by decide) ?_
  refine s_aload_n G dL_law_193 rfl ?_
  refine s_aload_n G dL_law_194 rfl ?_
  refine s_iload_n G dL_law_195 rfl ?_
  refine s_iconst (v := 1) G dL_law_196 rfl ?_
  refine s_iadd G dL_law_197 ?_
  refine s_sld G hC h2 (k := i + 1) (nI_add i 1) (by omega) dL_law_198 ?_
  refine s_aload_n G dL_law_199 rfl ?_
  refine s_iload_n G dL_law_200 rfl ?_
  refine s_iconst (v := 2) G dL_law_201 rfl ?_
  refine s_iadd G dL_law_202 ?_
  refine s_sld G hC h2 (k := i + 2) (nI_add i 2) (by omega) dL_law_203 ?_
  refine s_callV G dL_law_204 (c_X6_feeds hr) lkM_L_22 yk_X6_feeds yv_X6_feeds (by decide) rfl rfl _ [.int q.1] rfl rfl rfl (Nat.le_of_ble_eq_true rfl) (by decide) ?_
  exact s_icmp_eq (tgt := 946) G dL_law_207 (by decide) (fun _ => cont N2 _ h9) (fun c => absurd e.symm c)
set_option maxRecDepth 100000 in
theorem lw_line (G : OK Γ RL cL_law 4 rt 12 444) (hC : SC Γ Ls xs) (h2 : Ls ≤ 2560) {i : Nat} (hi : i + 5 ≤ Ls) {N : Net} (h : IN N σ 0 0 0) (cont : ∀ (N : Net) (τ : St), IN N τ 0 0 0 → WW Γ 946 (LL i) [] τ) : WW Γ 212 (LL i) [] σ := by
  obtain ⟨q, hq, r, hr, e, N2, h9⟩ := op_line h (xs (i + 1)) (xs (i + 2)) (xs (i + 3)) (xs (i + 4))
  refine s_aload_n G dL_law_212 rfl ?_
  refine s_aload_n G dL_law_213 rfl ?_
  refine s_iload_n G dL_law_214 rfl ?_
  refine s_iconst (v := 1) G dL_law_215 rfl ?_
  refine s_iadd G dL_law_216 ?_
  refine s_sld G hC h2 (k := i + 1) (nI_add i 1) (by omega) dL_law_217 ?_
  refine s_aload_n G dL_law_218 rfl ?_
  refine s_iload_n G dL_law_219 rfl ?_
  refine s_iconst (v := 2) G dL_law_220 rfl ?_
  refine s_iadd G dL_law_221 ?_
  refine s_sld G hC h2 (k := i + 2) (nI_add i 2) (by omega) dL_law_222 ?_
  refine s_aload_n G dL_law_223 rfl ?_
  refine s_iload_n G dL_law_224 rfl ?_
  refine s_iconst (v := 3) G dL_law_225 rfl ?_
  refine s_iadd G dL_law_226 ?_
  refine s_sld G hC h2 (k := i + 3) (nI_add i 3) (by omega) dL_law_227 ?_
  refine s_aload_n G dL_law_228 rfl ?_
  refine s_iload_n G dL_law_229 rfl ?_
  refine s_iconst (v := 4) G dL_law_230 rfl ?_
  refine s_iadd G dL_law_231 ?_
  refine s_sld G hC h2 (k := i + 4) (nI_add i 4) (by omega) dL_law_232 ?_
  refine s_callV G dL_law_233 (c_X5_line hq) lkM_L_23 yk_X5_line yv_X5_line (by decide) rfl rfl _ [] rfl rfl rfl (Nat.le_of_ble_eq_true rfl) (by decide) ?_
  refine s_aload_n G dL_law_236 rfl ?_
  refine s_aload_n G dL_law_237 rfl ?_
  refine s_iload_n G dL_law_238 rfl ?_
  refine s_iconst (v := 1) G dL_law_239 rfl ?_
  refine s_iadd G dL_law_240 ?_
  refine s_sld G hC h2 (k := i + 1) (nI_add i 1) (by omega) dL_law_241 ?_
  refine s_aload_n G dL_law_242 rfl ?_
  refine s_iload_n G dL_law_243 rfl ?_
  refine s_iconst (v := 2) G dL_law_244 rfl ?_
  refine s_iadd G dL_law_245 ?_
  refine s_sld G hC h2 (k := i + 2) (nI_add i 2) (by omega) dL_law_246 ?_
  refine s_aload_n G dL_law_247 rfl ?_
  refine s_iload_n G dL_law_248 rfl ?_
  refine s_iconst (v := 3) G dL_law_249 rfl ?_
  refine s_iadd G dL_law_250 ?_
  refine s_sld G hC h2 (k := i + 3) (nI_add i 3) (by omega) dL_law_251 ?_
  refine s_aload_n G dL_law_252 rfl ?_
  refine s_iload_n G dL_law_253 rfl ?_
  refine s_iconst (v := 4) G dL_law_254 rfl ?_
  refine s_iadd G dL_law_255 ?_
  refine s_sld G hC h2 (k := i + 4) (nI_add i 4) (by omega) dL_law_256 ?_
  refine s_callV G dL_law_257 (c_X6_line hr) lkM_L_27 yk_X6_line yv_X6_line (by decide) rfl rfl _ [.int q.1] rfl rfl rfl (Nat.le_of_ble_eq_true rfl) (by decide) ?_
  exact s_icmp_eq (tgt := 946) G dL_law_260 (by decide) (fun _ => cont N2 _ h9) (fun c => absurd e.symm c)
set_option maxRecDepth 100000 in
theorem lw_drops (G : OK Γ RL cL_law 4 rt 12 444) (hC : SC Γ Ls xs) (h2 : Ls ≤ 2560) {i : Nat} (hi : i + 5 ≤ Ls) {N : Net} (h : IN N σ 0 0 0) (cont : ∀ (N : Net) (τ : St), IN N τ 0 0 0 → WW Γ 946 (LL i) [] τ) : WW Γ 265 (LL i) [] σ := by
  obtain ⟨q, hq, r, hr, e, N2, h9⟩ := op_drops h (xs (i + 1))
  refine s_aload_n G dL_law_265 rfl ?_
  refine s_aload_n G dL_law_266 rfl ?_
  refine s_iload_n G dL_law_267 rfl ?_
  refine s_iconst (v := 1) G dL_law_268 rfl ?_
  refine s_iadd G dL_law_269 ?_
  refine s_sld G hC h2 (k := i + 1) (nI_add i 1) (by omega) dL_law_270 ?_
  refine s_callV G dL_law_271 (c_X5_drops hq) lkM_L_28 yk_X5_drops yv_X5_drops (by decide) rfl rfl _ [] rfl rfl rfl (Nat.le_of_ble_eq_true rfl) (by decide) ?_
  refine s_aload_n G dL_law_274 rfl ?_
  refine s_aload_n G dL_law_275 rfl ?_
  refine s_iload_n G dL_law_276 rfl ?_
  refine s_iconst (v := 1) G dL_law_277 rfl ?_
  refine s_iadd G dL_law_278 ?_
  refine s_sld G hC h2 (k := i + 1) (nI_add i 1) (by omega) dL_law_279 ?_
  refine s_callV G dL_law_280 (c_X6_drops hr) lkM_L_31 yk_X6_drops yv_X6_drops (by decide) rfl rfl _ [.int q.1] rfl rfl rfl (Nat.le_of_ble_eq_true rfl) (by decide) ?_
  exact s_icmp_eq (tgt := 946) G dL_law_283 (by decide) (fun _ => cont N2 _ h9) (fun c => absurd e.symm c)
set_option maxRecDepth 100000 in
theorem lw_switches (G : OK Γ RL cL_law 4 rt 12 444) (hC : SC Γ Ls xs) (h2 : Ls ≤ 2560) {i : Nat} (hi : i + 5 ≤ Ls) {N : Net} (h : IN N σ 0 0 0) (cont : ∀ (N : Net) (τ : St), IN N τ 0 0 0 → WW Γ 946 (LL i) [] τ) : WW Γ 288 (LL i) [] σ := by
  obtain ⟨q, hq, r, hr, e, N2, h9⟩ := op_switches h (xs (i + 1)) (xs (i + 2))
  refine s_aload_n G dL_law_288 rfl ?_
  refine s_aload_n G dL_law_289 rfl ?_
  refine s_iload_n G dL_law_290 rfl ?_
  refine s_iconst (v := 1) G dL_law_291 rfl ?_
  refine s_iadd G dL_law_292 ?_
  refine s_sld G hC h2 (k := i + 1) (nI_add i 1) (by omega) dL_law_293 ?_
  refine s_aload_n G dL_law_294 rfl ?_
  refine s_iload_n G dL_law_295 rfl ?_
  refine s_iconst (v := 2) G dL_law_296 rfl ?_
  refine s_iadd G dL_law_297 ?_
  refine s_sld G hC h2 (k := i + 2) (nI_add i 2) (by omega) dL_law_298 ?_
  refine s_callV G dL_law_299 (c_X5_switches hq) lkM_L_32 yk_X5_switches yv_X5_switches (by decide) rfl rfl _ [] rfl rfl rfl (Nat.le_of_ble_eq_true rfl) (by decide) ?_
  refine s_aload_n G dL_law_302 rfl ?_
  refine s_aload_n G dL_law_303 rfl ?_
  refine s_iload_n G dL_law_304 rfl ?_
  refine s_iconst (v := 1) G dL_law_305 rfl ?_
  refine s_iadd G dL_law_306 ?_
  refine s_sld G hC h2 (k := i + 1) (nI_add i 1) (by omega) dL_law_307 ?_
  refine s_aload_n G dL_law_308 rfl ?_
  refine s_iload_n G dL_law_309 rfl ?_
  refine s_iconst (v := 2) G dL_law_310 rfl ?_
  refine s_iadd G dL_law_311 ?_
  refine s_sld G hC h2 (k := i + 2) (nI_add i 2) (by omega) dL_law_312 ?_
  refine s_callV G dL_law_313 (c_X6_switches hr) lkM_L_35 yk_X6_switches yv_X6_switches (by decide) rfl rfl _ [.int q.1] rfl rfl rfl (Nat.le_of_ble_eq_true rfl) (by decide) ?_
  exact s_icmp_eq (tgt := 946) G dL_law_316 (by decide) (fun _ => cont N2 _ h9) (fun c => absurd e.symm c)
set_option maxRecDepth 100000 in
theorem lw_sets (G : OK Γ RL cL_law 4 rt 12 444) (hC : SC Γ Ls xs) (h2 : Ls ≤ 2560) {i : Nat} (hi : i + 5 ≤ Ls) {N : Net} (h : IN N σ 0 0 0) (cont : ∀ (N : Net) (τ : St), IN N τ 0 0 0 → WW Γ 946 (LL i) [] τ) : WW Γ 321 (LL i) [] σ := by
  obtain ⟨q, hq, r, hr, e, N2, h9⟩ := op_sets h (xs (i + 1)) (xs (i + 2)) (xs (i + 3))
  refine s_aload_n G dL_law_321 rfl ?_
  refine s_aload_n G dL_law_322 rfl ?_
  refine s_iload_n G dL_law_323 rfl ?_
  refine s_iconst (v := 1) G dL_law_324 rfl ?_
  refine s_iadd G dL_law_325 ?_
  refine s_sld G hC h2 (k := i + 1) (nI_add i 1) (by omega) dL_law_326 ?_
  refine s_aload_n G dL_law_327 rfl ?_
  refine s_iload_n G dL_law_328 rfl ?_
  refine s_iconst (v := 2) G dL_law_329 rfl ?_
  refine s_iadd G dL_law_330 ?_
  refine s_sld G hC h2 (k := i + 2) (nI_add i 2) (by omega) dL_law_331 ?_
  refine s_aload_n G dL_law_332 rfl ?_
  refine s_iload_n G dL_law_333 rfl ?_
  refine s_iconst (v := 3) G dL_law_334 rfl ?_
  refine s_iadd G dL_law_335 ?_
  refine s_sld G hC h2 (k := i + 3) (nI_add i 3) (by omega) dL_law_336 ?_
  refine s_callV G dL_law_337 (c_X5_sets hq) lkM_L_36 yk_X5_sets yv_X5_sets (by decide) rfl rfl _ [] rfl rfl rfl (Nat.le_of_ble_eq_true rfl) (by decide) ?_
  refine s_aload_n G dL_law_340 rfl ?_
  refine s_aload_n G dL_law_341 rfl ?_
  refine s_iload_n G dL_law_342 rfl ?_
  refine s_iconst (v := 1) G dL_law_343 rfl ?_
  refine s_iadd G dL_law_344 ?_
  refine s_sld G hC h2 (k := i + 1) (nI_add i 1) (by omega) dL_law_345 ?_
  refine s_aload_n G dL_law_346 rfl ?_
  refine s_iload_n G dL_law_347 rfl ?_
  refine s_iconst (v := 2) G dL_law_348 rfl ?_
  refine s_iadd G dL_law_349 ?_
  refine s_sld G hC h2 (k := i + 2) (nI_add i 2) (by omega) dL_law_350 ?_
  refine s_aload_n G dL_law_351 rfl ?_
  refine s_iload_n G dL_law_352 rfl ?_
  refine s_iconst (v := 3) G dL_law_353 rfl ?_
  refine s_iadd G dL_law_354 ?_
  refine s_sld G hC h2 (k := i + 3) (nI_add i 3) (by omega) dL_law_355 ?_
  refine s_callV G dL_law_356 (c_X6_sets hr) lkM_L_40 yk_X6_sets yv_X6_sets (by decide) rfl rfl _ [.int q.1] rfl rfl rfl (Nat.le_of_ble_eq_true rfl) (by decide) ?_
  exact s_icmp_eq (tgt := 946) G dL_law_359 (by decide) (fun _ => cont N2 _ h9) (fun c => absurd e.symm c)
set_option maxRecDepth 100000 in
theorem lw_of (G : OK Γ RL cL_law 4 rt 12 444) (hC : SC Γ Ls xs) (h2 : Ls ≤ 2560) {i : Nat} (hi : i + 5 ≤ Ls) {N : Net} (h : IN N σ 0 0 0) (cont : ∀ (N : Net) (τ : St), IN N τ 0 0 0 → WW Γ 946 (LL i) [] τ) : WW Γ 364 (LL i) [] σ := by
  obtain ⟨q, hq, r, hr, e, N2, h9⟩ := op_of h (xs (i + 1)) (xs (i + 2))
  refine s_aload_n G dL_law_364 rfl ?_
  refine s_aload_n G dL_law_365 rfl ?_
  refine s_iload_n G dL_law_366 rfl ?_
  refine s_iconst (v := 1) G dL_law_367 rfl ?_
  refine s_iadd G dL_law_368 ?_
  refine s_sld G hC h2 (k := i + 1) (nI_add i 1) (by omega) dL_law_369 ?_
  refine s_aload_n G dL_law_370 rfl ?_
  refine s_iload_n G dL_law_371 rfl ?_
  refine s_iconst (v := 2) G dL_law_372 rfl ?_
  refine s_iadd G dL_law_373 ?_
  refine s_sld G hC h2 (k := i + 2) (nI_add i 2) (by omega) dL_law_374 ?_
  refine s_callV G dL_law_375 (c_X5_of hq) lkM_L_41 yk_X5_of yv_X5_of (by decide) rfl rfl _ [] rfl rfl rfl (Nat.le_of_ble_eq_true rfl) (by decide) ?_
  refine s_aload_n G dL_law_378 rfl ?_
  refine s_aload_n G dL_law_379 rfl ?_
  refine s_iload_n G dL_law_380 rfl ?_
  refine s_iconst (v := 1) G dL_law_381 rfl ?_
  refine s_iadd G dL_law_382 ?_
  refine s_sld G hC h2 (k := i + 1) (nI_add i 1) (by omega) dL_law_383 ?_
  refine s_aload_n G dL_law_384 rfl ?_
  refine s_iload_n G dL_law_385 rfl ?_
  refine s_iconst (v := 2) G dL_law_386 rfl ?_
  refine s_iadd G dL_law_387 ?_
  refine s_sld G hC h2 (k := i + 2) (nI_add i 2) (by omega) dL_law_388 ?_
  refine s_callV G dL_law_389 (c_X6_of hr) lkM_L_44 yk_X6_of yv_X6_of (by decide) rfl rfl _ [.int q.1] rfl rfl rfl (Nat.le_of_ble_eq_true rfl) (by decide) ?_
  exact s_icmp_eq (tgt := 946) G dL_law_392 (by decide) (fun _ => cont N2 _ h9) (fun c => absurd e.symm c)
set_option maxRecDepth 100000 in
theorem lw_flow (G : OK Γ RL cL_law 4 rt 12 444) (hC : SC Γ Ls xs) (h2 : Ls ≤ 2560) {i : Nat} (hi : i + 5 ≤ Ls) {N : Net} (h : IN N σ 0 0 0) (cont : ∀ (N : Net) (τ : St), IN N τ 0 0 0 → WW Γ 946 (LL i) [] τ) : WW Γ 397 (LL i) [] σ := by
  obtain ⟨q, hq, r, hr, e, N2, h9⟩ := op_flow h (xs (i + 1)) (xs (i + 2))
  refine s_aload_n G dL_law_397 rfl ?_
  refine s_aload_n G dL_law_398 rfl ?_
  refine s_iload_n G dL_law_399 rfl ?_
  refine s_iconst (v := 1) G dL_law_400 rfl ?_
  refine s_iadd G dL_law_401 ?_
  refine s_sld G hC h2 (k := i + 1) (nI_add i 1) (by omega) dL_law_402 ?_
  refine s_aload_n G dL_law_403 rfl ?_
  refine s_iload_n G dL_law_404 rfl ?_
  refine s_iconst (v := 2) G dL_law_405 rfl ?_
  refine s_iadd G dL_law_406 ?_
  refine s_sld G hC h2 (k := i + 2) (nI_add i 2) (by omega) dL_law_407 ?_
  refine s_callV G dL_law_408 (c_X5_flow hq) lkM_L_45 yk_X5_flow yv_X5_flow (by decide) rfl rfl _ [] rfl rfl rfl (Nat.le_of_ble_eq_true rfl) (by decide) ?_
  refine s_aload_n G dL_law_411 rfl ?_
  refine s_aload_n G dL_law_412 rfl ?_
  refine s_iload_n G dL_law_413 rfl ?_
  refine s_iconst (v := 1) G dL_law_414 rfl ?_
  refine s_iadd G dL_law_415 ?_
  refine s_sld G hC h2 (k := i + 1) (nI_add i 1) (by omega) dL_law_416 ?_
  refine s_aload_n G dL_law_417 rfl ?_
  refine s_iload_n G dL_law_418 rfl ?_
  refine s_iconst (v := 2) G dL_law_419 rfl ?_
  refine s_iadd G dL_law_420 ?_
  refine s_sld G hC h2 (k := i + 2) (nI_add i 2) (by omega) dL_law_421 ?_
  refine s_callV G dL_law_422 (c_X6_flow hr) lkM_L_49 yk_X6_flow yv_X6_flow (by decide) rfl rfl _ [.long q.1] rfl rfl rfl (Nat.le_of_ble_eq_true rfl) (by decide) ?_
  exact s_lif_eq (pc2 := 0) (tgt := 946) G dL_law_425 dL_law_426 (by decide) (fun _ => cont N2 _ h9) (fun c => absurd e.symm c)
set_option maxRecDepth 100000 in
theorem lw_angle (G : OK Γ RL cL_law 4 rt 12 444) (hC : SC Γ Ls xs) (h2 : Ls ≤ 2560) {i : Nat} (hi : i + 5 ≤ Ls) {N : Net} (h : IN N σ 0 0 0) (cont : ∀ (N : Net) (τ : St), IN N τ 0 0 0 → WW Γ 946 (LL i) [] τ) : WW Γ 431 (LL i) [] σ := by
  obtain ⟨q, hq, r, hr, e, N2, h9⟩ := op_angle h (xs (i + 1)) (xs (i + 2))
  refine s_aload_n G dL_law_431 rfl ?_
  refine s_aload_n G dL_law_432 rfl ?_
  refine s_iload_n G dL_law_433 rfl ?_
  refine s_iconst (v := 1) G dL_law_434 rfl ?_
  refine s_iadd G dL_law_435 ?_
  refine s_sld G hC h2 (k := i + 1) (nI_add i 1) (by omega) dL_law_436 ?_
  refine s_aload_n G dL_law_437 rfl ?_
  refine s_iload_n G dL_law_438 rfl ?_
  refine s_iconst (v := 2) G dL_law_439 rfl ?_
  refine s_iadd G dL_law_440 ?_
  refine s_sld G hC h2 (k := i + 2) (nI_add i 2) (by omega) dL_law_441 ?_
  refine s_callV G dL_law_442 (c_X5_angle hq) lkM_L_50 yk_X5_angle yv_X5_angle (by decide) rfl rfl _ [] rfl rfl rfl (Nat.le_of_ble_eq_true rfl) (by decide) ?_
  refine s_aload_n G dL_law_445 rfl ?_
  refine s_aload_n G dL_law_446 rfl ?_
  refine s_iload_n G dL_law_447 rfl ?_
  refine s_iconst (v := 1) G dL_law_448 rfl ?_
  refine s_iadd G dL_law_449 ?_
  refine s_sld G hC h2 (k := i + 1) (nI_add i 1) (by omega) dL_law_450 ?_
  refine s_aload_n G dL_law_451 rfl ?_
  refine s_iload_n G dL_law_452 rfl ?_
  refine s_iconst (v := 2) G dL_law_453 rfl ?_
  refine s_iadd G dL_law_454 ?_
  refine s_sld G hC h2 (k := i + 2) (nI_add i 2) (by omega) dL_law_455 ?_
  refine s_callV G dL_law_456 (c_X6_angle hr) lkM_L_53 yk_X6_angle yv_X6_angle (by decide) rfl rfl _ [.long q.1] rfl rfl rfl (Nat.le_of_ble_eq_true rfl) (by decide) ?_
  exact s_lif_eq (pc2 := 0) (tgt := 946) G dL_law_459 dL_law_460 (by decide) (fun _ => cont N2 _ h9) (fun c => absurd e.symm c)
set_option maxRecDepth 100000 in
theorem lw_factor (G : OK Γ RL cL_law 4 rt 12 444) (hC : SC Γ Ls xs) (h2 : Ls ≤ 2560) {i : Nat} (hi : i + 5 ≤ Ls) {N : Net} (h : IN N σ 0 0 0) (cont : ∀ (N : Net) (τ : St), IN N τ 0 0 0 → WW Γ 946 (LL i) [] τ) : WW Γ 465 (LL i) [] σ := by
  obtain ⟨q, hq, r, hr, e, N2, h9⟩ := op_factor h (xs (i + 1)) (xs (i + 2)) (xs (i + 3))
  refine s_aload_n G dL_law_465 rfl ?_
  refine s_aload_n G dL_law_466 rfl ?_
  refine s_iload_n G dL_law_467 rfl ?_
  refine s_iconst (v := 1) G dL_law_468 rfl ?_
  refine s_iadd G dL_law_469 ?_
  refine s_sld G hC h2 (k := i + 1) (nI_add i 1) (by omega) dL_law_470 ?_
  refine s_aload_n G dL_law_471 rfl ?_
  refine s_iload_n G dL_law_472 rfl ?_
  refine s_iconst (v := 2) G dL_law_473 rfl ?_
  refine s_iadd G dL_law_474 ?_
  refine s_sld G hC h2 (k := i + 2) (nI_add i 2) (by omega) dL_law_475 ?_
  refine s_aload_n G dL_law_476 rfl ?_
  refine s_iload_n G dL_law_477 rfl ?_
  refine s_iconst (v := 3) G dL_law_478 rfl ?_
  refine s_iadd G dL_law_479 ?_
  refine s_sld G hC h2 (k := i + 3) (nI_add i 3) (by omega) dL_law_480 ?_
  refine s_callV G dL_law_481 (c_X5_factor hq) lkM_L_54 yk_X5_factor yv_X5_factor (by decide) rfl rfl _ [] rfl rfl rfl (Nat.le_of_ble_eq_true rfl) (by decide) ?_
  refine s_aload_n G dL_law_484 rfl ?_
  refine s_aload_n G dL_law_485 rfl ?_
  refine s_iload_n G dL_law_486 rfl ?_
  refine s_iconst (v := 1) G dL_law_487 rfl ?_
  refine s_iadd G dL_law_488 ?_
  refine s_sld G hC h2 (k := i + 1) (nI_add i 1) (by omega) dL_law_489 ?_
  refine s_aload_n G dL_law_490 rfl ?_
  refine s_iload_n G dL_law_491 rfl ?_
  refine s_iconst (v := 2) G dL_law_492 rfl ?_
  refine s_iadd G dL_law_493 ?_
  refine s_sld G hC h2 (k := i + 2) (nI_add i 2) (by omega) dL_law_494 ?_
  refine s_aload_n G dL_law_495 rfl ?_
  refine s_iload_n G dL_law_496 rfl ?_
  refine s_iconst (v := 3) G dL_law_497 rfl ?_
  refine s_iadd G dL_law_498 ?_
  refine s_sld G hC h2 (k := i + 3) (nI_add i 3) (by omega) dL_law_499 ?_
  refine s_callV G dL_law_500 (c_X6_factor hr) lkM_L_58 yk_X6_factor yv_X6_factor (by decide) rfl rfl _ [.long q.1] rfl rfl rfl (Nat.le_of_ble_eq_true rfl) (by decide) ?_
  exact s_lif_eq (pc2 := 0) (tgt := 946) G dL_law_503 dL_law_504 (by decide) (fun _ => cont N2 _ h9) (fun c => absurd e.symm c)
set_option maxRecDepth 100000 in
theorem lw_island (G : OK Γ RL cL_law 4 rt 12 444) (hC : SC Γ Ls xs) (h2 : Ls ≤ 2560) {i : Nat} (hi : i + 5 ≤ Ls) {N : Net} (h : IN N σ 0 0 0) (cont : ∀ (N : Net) (τ : St), IN N τ 0 0 0 → WW Γ 946 (LL i) [] τ) : WW Γ 509 (LL i) [] σ := by
  obtain ⟨q, hq, r, hr, e, N2, h9⟩ := op_island h (xs (i + 1))
  refine s_aload_n G dL_law_509 rfl ?_
  refine s_aload_n G dL_law_510 rfl ?_
  refine s_iload_n G dL_law_511 rfl ?_
  refine s_iconst (v := 1) G dL_law_512 rfl ?_
  refine s_iadd G dL_law_513 ?_
  refine s_sld G hC h2 (k := i + 1) (nI_add i 1) (by omega) dL_law_514 ?_
  refine s_callV G dL_law_515 (c_X5_island hq) lkM_L_59 yk_X5_island yv_X5_island (by decide) rfl rfl _ [] rfl rfl rfl (Nat.le_of_ble_eq_true rfl) (by decide) ?_
  refine s_aload_n G dL_law_518 rfl ?_
  refine s_aload_n G dL_law_519 rfl ?_
  refine s_iload_n G dL_law_520 rfl ?_
  refine s_iconst (v := 1) G dL_law_521 rfl ?_
  refine s_iadd G dL_law_522 ?_
  refine s_sld G hC h2 (k := i + 1) (nI_add i 1) (by omega) dL_law_523 ?_
  refine s_callV G dL_law_524 (c_X6_island hr) lkM_L_62 yk_X6_island yv_X6_island (by decide) rfl rfl _ [.int q.1] rfl rfl rfl (Nat.le_of_ble_eq_true rfl) (by decide) ?_
  exact s_icmp_eq (tgt := 946) G dL_law_527 (by decide) (fun _ => cont N2 _ h9) (fun c => absurd e.symm c)
set_option maxRecDepth 100000 in
theorem lw_trees (G : OK Γ RL cL_law 4 rt 12 444) (hC : SC Γ Ls xs) (h2 : Ls ≤ 2560) {i : Nat} (hi : i + 5 ≤ Ls) {N : Net} (h : IN N σ 0 0 0) (cont : ∀ (N : Net) (τ : St), IN N τ 0 0 0 → WW Γ 946 (LL i) [] τ) : WW Γ 532 (LL i) [] σ := by
  obtain ⟨q, hq, r, hr, e, N2, h9⟩ := op_trees h (xs (i + 1))
  refine s_aload_n G dL_law_532 rfl ?_
  refine s_aload_n G dL_law_533 rfl ?_
  refine s_iload_n G dL_law_534 rfl ?_
  refine s_iconst (v := 1) G dL_law_535 rfl ?_
  refine s_iadd G dL_law_536 ?_
  refine s_sld G hC h2 (k := i + 1) (nI_add i 1) (by omega) dL_law_537 ?_
  refine s_callV G dL_law_538 (c_X5_trees hq) lkM_L_63 yk_X5_trees yv_X5_trees (by decide) rfl rfl _ [] rfl rfl rfl (Nat.le_of_ble_eq_true rfl) (by decide) ?_
  refine s_aload_n G dL_law_541 rfl ?_
  refine s_aload_n G dL_law_542 rfl ?_
  refine s_iload_n G dL_law_543 rfl ?_
  refine s_iconst (v := 1) G dL_law_544 rfl ?_
  refine s_iadd G dL_law_545 ?_
  refine s_sld G hC h2 (k := i + 1) (nI_add i 1) (by omega) dL_law_546 ?_
  refine s_callV G dL_law_547 (c_X6_trees hr) lkM_L_67 yk_X6_trees yv_X6_trees (by decide) rfl rfl _ [.long q.1] rfl rfl rfl (Nat.le_of_ble_eq_true rfl) (by decide) ?_
  exact s_lif_eq (pc2 := 0) (tgt := 946) G dL_law_550 dL_law_551 (by decide) (fun _ => cont N2 _ h9) (fun c => absurd e.symm c)
set_option maxRecDepth 100000 in
theorem lw_fed (G : OK Γ RL cL_law 4 rt 12 444) (hC : SC Γ Ls xs) (h2 : Ls ≤ 2560) {i : Nat} (hi : i + 5 ≤ Ls) {N : Net} (h : IN N σ 0 0 0) (cont : ∀ (N : Net) (τ : St), IN N τ 0 0 0 → WW Γ 946 (LL i) [] τ) : WW Γ 556 (LL i) [] σ := by
  obtain ⟨q, hq, r, hr, e, N2, h9⟩ := op_fed h (xs (i + 1))
  refine s_aload_n G dL_law_556 rfl ?_
  refine s_aload_n G dL_law_557 rfl ?_
  refine s_iload_n G dL_law_558 rfl ?_
  refine s_iconst (v := 1) G dL_law_559 rfl ?_
  refine s_iadd G dL_law_560 ?_
  refine s_sld G hC h2 (k := i + 1) (nI_add i 1) (by omega) dL_law_561 ?_
  refine s_callV G dL_law_562 (c_X5_fed hq) lkM_L_68 yk_X5_fed yv_X5_fed (by decide) rfl rfl _ [] rfl rfl rfl (Nat.le_of_ble_eq_true rfl) (by decide) ?_
  refine s_aload_n G dL_law_565 rfl ?_
  refine s_aload_n G dL_law_566 rfl ?_
  refine s_iload_n G dL_law_567 rfl ?_
  refine s_iconst (v := 1) G dL_law_568 rfl ?_
  refine s_iadd G dL_law_569 ?_
  refine s_sld G hC h2 (k := i + 1) (nI_add i 1) (by omega) dL_law_570 ?_
  refine s_callV G dL_law_571 (c_X6_fed hr) lkM_L_71 yk_X6_fed yv_X6_fed (by decide) rfl rfl _ [.int q.1] rfl rfl rfl (Nat.le_of_ble_eq_true rfl) (by decide) ?_
  exact s_icmp_eq (tgt := 946) G dL_law_574 (by decide) (fun _ => cont N2 _ h9) (fun c => absurd e.symm c)
set_option maxRecDepth 100000 in
theorem lw_outage (G : OK Γ RL cL_law 4 rt 12 444) (hC : SC Γ Ls xs) (h2 : Ls ≤ 2560) {i : Nat} (hi : i + 5 ≤ Ls) {N : Net} (h : IN N σ 0 0 0) (cont : ∀ (N : Net) (τ : St), IN N τ 0 0 0 → WW Γ 946 (LL i) [] τ) : WW Γ 579 (LL i) [] σ := by
  obtain ⟨q, hq, r, hr, e, N2, h9⟩ := op_outage h (xs (i + 1)) (xs (i + 2)) (xs (i + 3))
  refine s_aload_n G dL_law_579 rfl ?_
  refine s_aload_n G dL_law_580 rfl ?_
  refine s_iload_n G dL_law_581 rfl ?_
  refine s_iconst (v := 1) G dL_law_582 rfl ?_
  refine s_iadd G dL_law_583 ?_
  refine s_sld G hC h2 (k := i + 1) (nI_add i 1) (by omega) dL_law_584 ?_
  refine s_aload_n G dL_law_585 rfl ?_
  refine s_iload_n G dL_law_586 rfl ?_
  refine s_iconst (v := 2) G dL_law_587 rfl ?_
  refine s_iadd G dL_law_588 ?_
  refine s_sld G hC h2 (k := i + 2) (nI_add i 2) (by omega) dL_law_589 ?_
  refine s_aload_n G dL_law_590 rfl ?_
  refine s_iload_n G dL_law_591 rfl ?_
  refine s_iconst (v := 3) G dL_law_592 rfl ?_
  refine s_iadd G dL_law_593 ?_
  refine s_sld G hC h2 (k := i + 3) (nI_add i 3) (by omega) dL_law_594 ?_
  refine s_callV G dL_law_595 (c_X5_outage hq) lkM_L_72 yk_X5_outage yv_X5_outage (by decide) rfl rfl _ [] rfl rfl rfl (Nat.le_of_ble_eq_true rfl) (by decide) ?_
  refine s_aload_n G dL_law_598 rfl ?_
  refine s_aload_n G dL_law_599 rfl ?_
  refine s_iload_n G dL_law_600 rfl ?_
  refine s_iconst (v := 1) G dL_law_601 rfl ?_
  refine s_iadd G dL_law_602 ?_
  refine s_sld G hC h2 (k := i + 1) (nI_add i 1) (by omega) dL_law_603 ?_
  refine s_aload_n G dL_law_604 rfl ?_
  refine s_iload_n G dL_law_605 rfl ?_
  refine s_iconst (v := 2) G dL_law_606 rfl ?_
  refine s_iadd G dL_law_607 ?_
  refine s_sld G hC h2 (k := i + 2) (nI_add i 2) (by omega) dL_law_608 ?_
  refine s_aload_n G dL_law_609 rfl ?_
  refine s_iload_n G dL_law_610 rfl ?_
  refine s_iconst (v := 3) G dL_law_611 rfl ?_
  refine s_iadd G dL_law_612 ?_
  refine s_sld G hC h2 (k := i + 3) (nI_add i 3) (by omega) dL_law_613 ?_
  refine s_callV G dL_law_614 (c_X6_outage hr) lkM_L_75 yk_X6_outage yv_X6_outage (by decide) rfl rfl _ [.long q.1] rfl rfl rfl (Nat.le_of_ble_eq_true rfl) (by decide) ?_
  exact s_lif_eq (pc2 := 0) (tgt := 946) G dL_law_617 dL_law_618 (by decide) (fun _ => cont N2 _ h9) (fun c => absurd e.symm c)
set_option maxRecDepth 100000 in
theorem lw_spread (G : OK Γ RL cL_law 4 rt 12 444) (hC : SC Γ Ls xs) (h2 : Ls ≤ 2560) {i : Nat} (hi : i + 5 ≤ Ls) {N : Net} (h : IN N σ 0 0 0) (cont : ∀ (N : Net) (τ : St), IN N τ 0 0 0 → WW Γ 946 (LL i) [] τ) : WW Γ 623 (LL i) [] σ := by
  obtain ⟨q, hq, r, hr, e, N2, h9⟩ := op_spread h (xs (i + 1)) (xs (i + 2)) (xs (i + 3))
  refine s_aload_n G dL_law_623 rfl ?_
  refine s_aload_n G dL_law_624 rfl ?_
  refine s_iload_n G dL_law_625 rfl ?_
  refine s_iconst (v := 1) G dL_law_626 rfl ?_
  refine s_iadd G dL_law_627 ?_
  refine s_sld G hC h2 (k := i + 1) (nI_add i 1) (by omega) dL_law_628 ?_
  refine s_aload_n G dL_law_629 rfl ?_
  refine s_iload_n G dL_law_630 rfl ?_
  refine s_iconst (v := 2) G dL_law_631 rfl ?_
  refine s_iadd G dL_law_632 ?_
  refine s_sld G hC h2 (k := i + 2) (nI_add i 2) (by omega) dL_law_633 ?_
  refine s_aload_n G dL_law_634 rfl ?_
  refine s_iload_n G dL_law_635 rfl ?_
  refine s_iconst (v := 3) G dL_law_636 rfl ?_
  refine s_iadd G dL_law_637 ?_
  refine s_sld G hC h2 (k := i + 3) (nI_add i 3) (by omega) dL_law_638 ?_
  refine s_callV G dL_law_639 (c_X5_spread hq) lkM_L_76 yk_X5_spread yv_X5_spread (by decide) rfl rfl _ [] rfl rfl rfl (Nat.le_of_ble_eq_true rfl) (by decide) ?_
  refine s_aload_n G dL_law_642 rfl ?_
  refine s_aload_n G dL_law_643 rfl ?_
  refine s_iload_n G dL_law_644 rfl ?_
  refine s_iconst (v := 1) G dL_law_645 rfl ?_
  refine s_iadd G dL_law_646 ?_
  refine s_sld G hC h2 (k := i + 1) (nI_add i 1) (by omega) dL_law_647 ?_
  refine s_aload_n G dL_law_648 rfl ?_
  refine s_iload_n G dL_law_649 rfl ?_
  refine s_iconst (v := 2) G dL_law_650 rfl ?_
  refine s_iadd G dL_law_651 ?_
  refine s_sld G hC h2 (k := i + 2) (nI_add i 2) (by omega) dL_law_652 ?_
  refine s_aload_n G dL_law_653 rfl ?_
  refine s_iload_n G dL_law_654 rfl ?_
  refine s_iconst (v := 3) G dL_law_655 rfl ?_
  refine s_iadd G dL_law_656 ?_
  refine s_sld G hC h2 (k := i + 3) (nI_add i 3) (by omega) dL_law_657 ?_
  refine s_callV G dL_law_658 (c_X6_spread hr) lkM_L_79 yk_X6_spread yv_X6_spread (by decide) rfl rfl _ [.long q.1] rfl rfl rfl (Nat.le_of_ble_eq_true rfl) (by decide) ?_
  exact s_lif_eq (pc2 := 0) (tgt := 946) G dL_law_661 dL_law_662 (by decide) (fun _ => cont N2 _ h9) (fun c => absurd e.symm c)
set_option maxRecDepth 100000 in
theorem lw_worst (G : OK Γ RL cL_law 4 rt 12 444) (hC : SC Γ Ls xs) (h2 : Ls ≤ 2560) {i : Nat} (hi : i + 5 ≤ Ls) {N : Net} (h : IN N σ 0 0 0) (cont : ∀ (N : Net) (τ : St), IN N τ 0 0 0 → WW Γ 946 (LL i) [] τ) : WW Γ 667 (LL i) [] σ := by
  obtain ⟨q, hq, r, hr, e, N2, h9⟩ := op_worst h (xs (i + 1)) (xs (i + 2))
  refine s_aload_n G dL_law_667 rfl ?_
  refine s_aload_n G dL_law_668 rfl ?_
  refine s_iload_n G dL_law_669 rfl ?_
  refine s_iconst (v := 1) G dL_law_670 rfl ?_
  refine s_iadd G dL_law_671 ?_
  refine s_sld G hC h2 (k := i + 1) (nI_add i 1) (by omega) dL_law_672 ?_
  refine s_aload_n G dL_law_673 rfl ?_
  refine s_iload_n G dL_law_674 rfl ?_
  refine s_iconst (v := 2) G dL_law_675 rfl ?_
  refine s_iadd G dL_law_676 ?_
  refine s_sld G hC h2 (k := i + 2) (nI_add i 2) (by omega) dL_law_677 ?_
  refine s_callV G dL_law_678 (c_X5_worst hq) lkM_L_80 yk_X5_worst yv_X5_worst (by decide) rfl rfl _ [] rfl rfl rfl (Nat.le_of_ble_eq_true rfl) (by decide) ?_
  refine s_aload_n G dL_law_681 rfl ?_
  refine s_aload_n G dL_law_682 rfl ?_
  refine s_iload_n G dL_law_683 rfl ?_
  refine s_iconst (v := 1) G dL_law_684 rfl ?_
  refine s_iadd G dL_law_685 ?_
  refine s_sld G hC h2 (k := i + 1) (nI_add i 1) (by omega) dL_law_686 ?_
  refine s_aload_n G dL_law_687 rfl ?_
  refine s_iload_n G dL_law_688 rfl ?_
  refine s_iconst (v := 2) G dL_law_689 rfl ?_
  refine s_iadd G dL_law_690 ?_
  refine s_sld G hC h2 (k := i + 2) (nI_add i 2) (by omega) dL_law_691 ?_
  refine s_callV G dL_law_692 (c_X6_worst hr) lkM_L_83 yk_X6_worst yv_X6_worst (by decide) rfl rfl _ [.long q.1] rfl rfl rfl (Nat.le_of_ble_eq_true rfl) (by decide) ?_
  exact s_lif_eq (pc2 := 0) (tgt := 946) G dL_law_695 dL_law_696 (by decide) (fun _ => cont N2 _ h9) (fun c => absurd e.symm c)
set_option maxRecDepth 100000 in
theorem lw_ranked (G : OK Γ RL cL_law 4 rt 12 444) (hC : SC Γ Ls xs) (h2 : Ls ≤ 2560) {i : Nat} (hi : i + 5 ≤ Ls) {N : Net} (h : IN N σ 0 0 0) (cont : ∀ (N : Net) (τ : St), IN N τ 0 0 0 → WW Γ 946 (LL i) [] τ) : WW Γ 701 (LL i) [] σ := by
  obtain ⟨q, hq, r, hr, e, N2, h9⟩ := op_ranked h (xs (i + 1))
  refine s_aload_n G dL_law_701 rfl ?_
  refine s_aload_n G dL_law_702 rfl ?_
  refine s_iload_n G dL_law_703 rfl ?_
  refine s_iconst (v := 1) G dL_law_704 rfl ?_
  refine s_iadd G dL_law_705 ?_
  refine s_sld G hC h2 (k := i + 1) (nI_add i 1) (by omega) dL_law_706 ?_
  refine s_callV G dL_law_707 (c_X5_ranked hq) lkM_L_84 yk_X5_ranked yv_X5_ranked (by decide) rfl rfl _ [] rfl rfl rfl (Nat.le_of_ble_eq_true rfl) (by decide) ?_
  refine s_aload_n G dL_law_710 rfl ?_
  refine s_aload_n G dL_law_711 rfl ?_
  refine s_iload_n G dL_law_712 rfl ?_
  refine s_iconst (v := 1) G dL_law_713 rfl ?_
  refine s_iadd G dL_law_714 ?_
  refine s_sld G hC h2 (k := i + 1) (nI_add i 1) (by omega) dL_law_715 ?_
  refine s_callV G dL_law_716 (c_X6_ranked hr) lkM_L_87 yk_X6_ranked yv_X6_ranked (by decide) rfl rfl _ [.int q.1] rfl rfl rfl (Nat.le_of_ble_eq_true rfl) (by decide) ?_
  exact s_icmp_eq (tgt := 946) G dL_law_719 (by decide) (fun _ => cont N2 _ h9) (fun c => absurd e.symm c)
set_option maxRecDepth 100000 in
theorem lw_pair (G : OK Γ RL cL_law 4 rt 12 444) (hC : SC Γ Ls xs) (h2 : Ls ≤ 2560) {i : Nat} (hi : i + 5 ≤ Ls) {N : Net} (h : IN N σ 0 0 0) (cont : ∀ (N : Net) (τ : St), IN N τ 0 0 0 → WW Γ 946 (LL i) [] τ) : WW Γ 724 (LL i) [] σ := by
  obtain ⟨q, hq, r, hr, e, N2, h9⟩ := op_pair h (xs (i + 1)) (xs (i + 2))
  refine s_aload_n G dL_law_724 rfl ?_
  refine s_aload_n G dL_law_725 rfl ?_
  refine s_iload_n G dL_law_726 rfl ?_
  refine s_iconst (v := 1) G dL_law_727 rfl ?_
  refine s_iadd G dL_law_728 ?_
  refine s_sld G hC h2 (k := i + 1) (nI_add i 1) (by omega) dL_law_729 ?_
  refine s_aload_n G dL_law_730 rfl ?_
  refine s_iload_n G dL_law_731 rfl ?_
  refine s_iconst (v := 2) G dL_law_732 rfl ?_
  refine s_iadd G dL_law_733 ?_
  refine s_sld G hC h2 (k := i + 2) (nI_add i 2) (by omega) dL_law_734 ?_
  refine s_callV G dL_law_735 (c_X5_pair hq) lkM_L_88 yk_X5_pair yv_X5_pair (by decide) rfl rfl _ [] rfl rfl rfl (Nat.le_of_ble_eq_true rfl) (by decide) ?_
  refine s_aload_n G dL_law_738 rfl ?_
  refine s_aload_n G dL_law_739 rfl ?_
  refine s_iload_n G dL_law_740 rfl ?_
  refine s_iconst (v := 1) G dL_law_741 rfl ?_
  refine s_iadd G dL_law_742 ?_
  refine s_sld G hC h2 (k := i + 1) (nI_add i 1) (by omega) dL_law_743 ?_
  refine s_aload_n G dL_law_744 rfl ?_
  refine s_iload_n G dL_law_745 rfl ?_
  refine s_iconst (v := 2) G dL_law_746 rfl ?_
  refine s_iadd G dL_law_747 ?_
  refine s_sld G hC h2 (k := i + 2) (nI_add i 2) (by omega) dL_law_748 ?_
  refine s_callV G dL_law_749 (c_X6_pair hr) lkM_L_91 yk_X6_pair yv_X6_pair (by decide) rfl rfl _ [.long q.1] rfl rfl rfl (Nat.le_of_ble_eq_true rfl) (by decide) ?_
  exact s_lif_eq (pc2 := 0) (tgt := 946) G dL_law_752 dL_law_753 (by decide) (fun _ => cont N2 _ h9) (fun c => absurd e.symm c)
set_option maxRecDepth 100000 in
theorem lw_shift (G : OK Γ RL cL_law 4 rt 12 444) (hC : SC Γ Ls xs) (h2 : Ls ≤ 2560) {i : Nat} (hi : i + 5 ≤ Ls) {N : Net} (h : IN N σ 0 0 0) (cont : ∀ (N : Net) (τ : St), IN N τ 0 0 0 → WW Γ 946 (LL i) [] τ) : WW Γ 758 (LL i) [] σ := by
  obtain ⟨q, hq, r, hr, e, N2, h9⟩ := op_shift h (xs (i + 1))
  refine s_aload_n G dL_law_758 rfl ?_
  refine s_aload_n G dL_law_759 rfl ?_
  refine s_iload_n G dL_law_760 rfl ?_
  refine s_iconst (v := 1) G dL_law_761 rfl ?_
  refine s_iadd G dL_law_762 ?_
  refine s_sld G hC h2 (k := i + 1) (nI_add i 1) (by omega) dL_law_763 ?_
  refine s_callV G dL_law_764 (c_X5_shift hq) lkM_L_92 yk_X5_shift yv_X5_shift (by decide) rfl rfl _ [] rfl rfl rfl (Nat.le_of_ble_eq_true rfl) (by decide) ?_
  refine s_aload_n G dL_law_767 rfl ?_
  refine s_aload_n G dL_law_768 rfl ?_
  refine s_iload_n G dL_law_769 rfl ?_
  refine s_iconst (v := 1) G dL_law_770 rfl ?_
  refine s_iadd G dL_law_771 ?_
  refine s_sld G hC h2 (k := i + 1) (nI_add i 1) (by omega) dL_law_772 ?_
  refine s_callV G dL_law_773 (c_X6_shift hr) lkM_L_95 yk_X6_shift yv_X6_shift (by decide) rfl rfl _ [.int q.1] rfl rfl rfl (Nat.le_of_ble_eq_true rfl) (by decide) ?_
  exact s_icmp_eq (tgt := 946) G dL_law_776 (by decide) (fun _ => cont N2 _ h9) (fun c => absurd e.symm c)
set_option maxRecDepth 100000 in
theorem lw_transfer (G : OK Γ RL cL_law 4 rt 12 444) (hC : SC Γ Ls xs) (h2 : Ls ≤ 2560) {i : Nat} (hi : i + 5 ≤ Ls) {N : Net} (h : IN N σ 0 0 0) (cont : ∀ (N : Net) (τ : St), IN N τ 0 0 0 → WW Γ 946 (LL i) [] τ) : WW Γ 781 (LL i) [] σ := by
  obtain ⟨q, hq, r, hr, e, N2, h9⟩ := op_transfer h (xs (i + 1)) (xs (i + 2)) (xs (i + 3))
  refine s_aload_n G dL_law_781 rfl ?_
  refine s_aload_n G dL_law_782 rfl ?_
  refine s_iload_n G dL_law_783 rfl ?_
  refine s_iconst (v := 1) G dL_law_784 rfl ?_
  refine s_iadd G dL_law_785 ?_
  refine s_sld G hC h2 (k := i + 1) (nI_add i 1) (by omega) dL_law_786 ?_
  refine s_aload_n G dL_law_787 rfl ?_
  refine s_iload_n G dL_law_788 rfl ?_
  refine s_iconst (v := 2) G dL_law_789 rfl ?_
  refine s_iadd G dL_law_790 ?_
  refine s_sld G hC h2 (k := i + 2) (nI_add i 2) (by omega) dL_law_791 ?_
  refine s_aload_n G dL_law_792 rfl ?_
  refine s_iload_n G dL_law_793 rfl ?_
  refine s_iconst (v := 3) G dL_law_794 rfl ?_
  refine s_iadd G dL_law_795 ?_
  refine s_sld G hC h2 (k := i + 3) (nI_add i 3) (by omega) dL_law_796 ?_
  refine s_callV G dL_law_797 (c_X5_transfer hq) lkM_L_96 yk_X5_transfer yv_X5_transfer (by decide) rfl rfl _ [] rfl rfl rfl (Nat.le_of_ble_eq_true rfl) (by decide) ?_
  refine s_aload_n G dL_law_800 rfl ?_
  refine s_aload_n G dL_law_801 rfl ?_
  refine s_iload_n G dL_law_802 rfl ?_
  refine s_iconst (v := 1) G dL_law_803 rfl ?_
  refine s_iadd G dL_law_804 ?_
  refine s_sld G hC h2 (k := i + 1) (nI_add i 1) (by omega) dL_law_805 ?_
  refine s_aload_n G dL_law_806 rfl ?_
  refine s_iload_n G dL_law_807 rfl ?_
  refine s_iconst (v := 2) G dL_law_808 rfl ?_
  refine s_iadd G dL_law_809 ?_
  refine s_sld G hC h2 (k := i + 2) (nI_add i 2) (by omega) dL_law_810 ?_
  refine s_aload_n G dL_law_811 rfl ?_
  refine s_iload_n G dL_law_812 rfl ?_
  refine s_iconst (v := 3) G dL_law_813 rfl ?_
  refine s_iadd G dL_law_814 ?_
  refine s_sld G hC h2 (k := i + 3) (nI_add i 3) (by omega) dL_law_815 ?_
  refine s_callV G dL_law_816 (c_X6_transfer hr) lkM_L_99 yk_X6_transfer yv_X6_transfer (by decide) rfl rfl _ [.int q.1] rfl rfl rfl (Nat.le_of_ble_eq_true rfl) (by decide) ?_
  exact s_icmp_eq (tgt := 946) G dL_law_819 (by decide) (fun _ => cont N2 _ h9) (fun c => absurd e.symm c)
set_option maxRecDepth 100000 in
theorem lw_count (G : OK Γ RL cL_law 4 rt 12 444) (hC : SC Γ Ls xs) (h2 : Ls ≤ 2560) {i : Nat} (hi : i + 5 ≤ Ls) {N : Net} (h : IN N σ 0 0 0) (cont : ∀ (N : Net) (τ : St), IN N τ 0 0 0 → WW Γ 946 (LL i) [] τ) : WW Γ 824 (LL i) [] σ := by
  obtain ⟨q, hq, r, hr, e, N2, h9⟩ := op_count h (xs (i + 1))
  refine s_aload_n G dL_law_824 rfl ?_
  refine s_aload_n G dL_law_825 rfl ?_
  refine s_iload_n G dL_law_826 rfl ?_
  refine s_iconst (v := 1) G dL_law_827 rfl ?_
  refine s_iadd G dL_law_828 ?_
  refine s_sld G hC h2 (k := i + 1) (nI_add i 1) (by omega) dL_law_829 ?_
  refine s_callV G dL_law_830 (c_X5_count hq) lkM_L_100 yk_X5_count yv_X5_count (by decide) rfl rfl _ [] rfl rfl rfl (Nat.le_of_ble_eq_true rfl) (by decide) ?_
  refine s_aload_n G dL_law_833 rfl ?_
  refine s_aload_n G dL_law_834 rfl ?_
  refine s_iload_n G dL_law_835 rfl ?_
  refine s_iconst (v := 1) G dL_law_836 rfl ?_
  refine s_iadd G dL_law_837 ?_
  refine s_sld G hC h2 (k := i + 1) (nI_add i 1) (by omega) dL_law_838 ?_
  refine s_callV G dL_law_839 (c_X6_count hr) lkM_L_103 yk_X6_count yv_X6_count (by decide) rfl rfl _ [.int q.1] rfl rfl rfl (Nat.le_of_ble_eq_true rfl) (by decide) ?_
  exact s_icmp_eq (tgt := 946) G dL_law_842 (by decide) (fun _ => cont N2 _ h9) (fun c => absurd e.symm c)
set_option maxRecDepth 100000 in
theorem lw_type (G : OK Γ RL cL_law 4 rt 12 444) (hC : SC Γ Ls xs) (h2 : Ls ≤ 2560) {i : Nat} (hi : i + 5 ≤ Ls) {N : Net} (h : IN N σ 0 0 0) (cont : ∀ (N : Net) (τ : St), IN N τ 0 0 0 → WW Γ 946 (LL i) [] τ) : WW Γ 847 (LL i) [] σ := by
  obtain ⟨q, hq, r, hr, e, N2, h9⟩ := op_type h (xs (i + 1))
  refine s_aload_n G dL_law_847 rfl ?_
  refine s_aload_n G dL_law_848 rfl ?_
  refine s_iload_n G dL_law_849 rfl ?_
  refine s_iconst (v := 1) G dL_law_850 rfl ?_
  refine s_iadd G dL_law_851 ?_
  refine s_sld G hC h2 (k := i + 1) (nI_add i 1) (by omega) dL_law_852 ?_
  refine s_callV G dL_law_853 (c_X5_type hq) lkM_L_104 yk_X5_type yv_X5_type (by decide) rfl rfl _ [] rfl rfl rfl (Nat.le_of_ble_eq_true rfl) (by decide) ?_
  refine s_aload_n G dL_law_856 rfl ?_
  refine s_aload_n G dL_law_857 rfl ?_
  refine s_iload_n G dL_law_858 rfl ?_
  refine s_iconst (v := 1) G dL_law_859 rfl ?_
  refine s_iadd G dL_law_860 ?_
  refine s_sld G hC h2 (k := i + 1) (nI_add i 1) (by omega) dL_law_861 ?_
  refine s_callV G dL_law_862 (c_X6_type hr) lkM_L_107 yk_X6_type yv_X6_type (by decide) rfl rfl _ [.int q.1] rfl rfl rfl (Nat.le_of_ble_eq_true rfl) (by decide) ?_
  exact s_icmp_eq (tgt := 946) G dL_law_865 (by decide) (fun _ => cont N2 _ h9) (fun c => absurd e.symm c)
set_option maxRecDepth 100000 in
theorem lw_clear (G : OK Γ RL cL_law 4 rt 12 444) (hC : SC Γ Ls xs) (h2 : Ls ≤ 2560) {i : Nat} (hi : i + 5 ≤ Ls) {N : Net} (h : IN N σ 0 0 0) (cont : ∀ (N : Net) (τ : St), IN N τ 0 0 0 → WW Γ 946 (LL i) [] τ) : WW Γ 870 (LL i) [] σ := by
  obtain ⟨q, hq, r, hr, e, N2, h9⟩ := op_clear h
  refine s_aload_n G dL_law_870 rfl ?_
  refine s_callV G dL_law_871 (c_X5_clear hq) lkM_L_108 yk_X5_clear yv_X5_clear (by decide) rfl rfl _ [] rfl rfl rfl (Nat.le_of_ble_eq_true rfl) (by decide) ?_
  refine s_aload_n G dL_law_874 rfl ?_
  refine s_callV G dL_law_875 (c_X6_clear hr) lkM_L_112 yk_X6_clear yv_X6_clear (by decide) rfl rfl _ [.int q.1] rfl rfl rfl (Nat.le_of_ble_eq_true rfl) (by decide) ?_
  exact s_icmp_eq (tgt := 946) G dL_law_878 (by decide) (fun _ => cont N2 _ h9) (fun c => absurd e.symm c)
set_option maxRecDepth 100000 in
theorem lw_does (G : OK Γ RL cL_law 4 rt 12 444) (hC : SC Γ Ls xs) (h2 : Ls ≤ 2560) {i : Nat} (hi : i + 5 ≤ Ls) {N : Net} (h : IN N σ 0 0 0) (cont : ∀ (N : Net) (τ : St), IN N τ 0 0 0 → WW Γ 946 (LL i) [] τ) : WW Γ 883 (LL i) [] σ := by
  obtain ⟨q, hq, r, hr, e, N2, h9⟩ := op_does h
  refine s_aload_n G dL_law_883 rfl ?_
  refine s_callV G dL_law_884 (c_X5_does hq) lkM_L_113 yk_X5_does yv_X5_does (by decide) rfl rfl _ [] rfl rfl rfl (Nat.le_of_ble_eq_true rfl) (by decide) ?_
  refine s_aload_n G dL_law_887 rfl ?_
  refine s_callV G dL_law_888 (c_X6_does hr) lkM_L_116 yk_X6_does yv_X6_does (by decide) rfl rfl _ [.int q.1] rfl rfl rfl (Nat.le_of_ble_eq_true rfl) (by decide) ?_
  exact s_icmp_eq (tgt := 946) G dL_law_891 (by decide) (fun _ => cont N2 _ h9) (fun c => absurd e.symm c)
set_option maxRecDepth 100000 in
theorem lw_back (G : OK Γ RL cL_law 4 rt 12 444) (hC : SC Γ Ls xs) (h2 : Ls ≤ 2560) {i : Nat} (hi : i + 5 ≤ Ls) {N : Net} (h : IN N σ 0 0 0) (cont : ∀ (N : Net) (τ : St), IN N τ 0 0 0 → WW Γ 946 (LL i) [] τ) : WW Γ 896 (LL i) [] σ := by
  obtain ⟨q, hq, r, hr, e, N2, h9⟩ := op_back h
  refine s_aload_n G dL_law_896 rfl ?_
  refine s_callV G dL_law_897 (c_X5_back hq) lkM_L_117 yk_X5_back yv_X5_back (by decide) rfl rfl _ [] rfl rfl rfl (Nat.le_of_ble_eq_true rfl) (by decide) ?_
  refine s_aload_n G dL_law_900 rfl ?_
  refine s_callV G dL_law_901 (c_X6_back hr) lkM_L_120 yk_X6_back yv_X6_back (by decide) rfl rfl _ [.int q.1] rfl rfl rfl (Nat.le_of_ble_eq_true rfl) (by decide) ?_
  exact s_icmp_eq (tgt := 946) G dL_law_904 (by decide) (fun _ => cont N2 _ h9) (fun c => absurd e.symm c)
set_option maxRecDepth 100000 in
theorem lw_told (G : OK Γ RL cL_law 4 rt 12 444) (hC : SC Γ Ls xs) (h2 : Ls ≤ 2560) {i : Nat} (hi : i + 5 ≤ Ls) {N : Net} (h : IN N σ 0 0 0) (cont : ∀ (N : Net) (τ : St), IN N τ 0 0 0 → WW Γ 946 (LL i) [] τ) : WW Γ 909 (LL i) [] σ := by
  obtain ⟨q, hq, r, hr, e, N2, h9⟩ := op_told h (xs (i + 1))
  refine s_aload_n G dL_law_909 rfl ?_
  refine s_aload_n G dL_law_910 rfl ?_
  refine s_iload_n G dL_law_911 rfl ?_
  refine s_iconst (v := 1) G dL_law_912 rfl ?_
  refine s_iadd G dL_law_913 ?_
  refine s_sld G hC h2 (k := i + 1) (nI_add i 1) (by omega) dL_law_914 ?_
  refine s_callV G dL_law_915 (c_X5_told hq) lkM_L_121 yk_X5_told yv_X5_told (by decide) rfl rfl _ [] rfl rfl rfl (Nat.le_of_ble_eq_true rfl) (by decide) ?_
  refine s_aload_n G dL_law_918 rfl ?_
  refine s_aload_n G dL_law_919 rfl ?_
  refine s_iload_n G dL_law_920 rfl ?_
  refine s_iconst (v := 1) G dL_law_921 rfl ?_
  refine s_iadd G dL_law_922 ?_
  refine s_sld G hC h2 (k := i + 1) (nI_add i 1) (by omega) dL_law_923 ?_
  refine s_callV G dL_law_924 (c_X6_told hr) lkM_L_124 yk_X6_told yv_X6_told (by decide) rfl rfl _ [.int q.1] rfl rfl rfl (Nat.le_of_ble_eq_true rfl) (by decide) ?_
  exact s_icmp_eq (tgt := 946) G dL_law_927 (by decide) (fun _ => cont N2 _ h9) (fun c => absurd e.symm c)
set_option maxRecDepth 100000 in
theorem lw_digest (G : OK Γ RL cL_law 4 rt 12 444) (hC : SC Γ Ls xs) (h2 : Ls ≤ 2560) {i : Nat} (hi : i + 5 ≤ Ls) {N : Net} (h : IN N σ 0 0 0) (cont : ∀ (N : Net) (τ : St), IN N τ 0 0 0 → WW Γ 946 (LL i) [] τ) : WW Γ 932 (LL i) [] σ := by
  obtain ⟨q, hq, r, hr, e, N2, h9⟩ := op_digest h
  refine s_aload_n G dL_law_932 rfl ?_
  refine s_callV G dL_law_933 (c_X5_digest hq) lkM_L_125 yk_X5_digest yv_X5_digest (by decide) rfl rfl _ [] rfl rfl rfl (Nat.le_of_ble_eq_true rfl) (by decide) ?_
  refine s_aload_n G dL_law_936 rfl ?_
  refine s_callV G dL_law_937 (c_X6_digest hr) lkM_L_129 yk_X6_digest yv_X6_digest (by decide) rfl rfl _ [.long q.1] rfl rfl rfl (Nat.le_of_ble_eq_true rfl) (by decide) ?_
  exact s_lif_eq (pc2 := 0) (tgt := 946) G dL_law_940 dL_law_941 (by decide) (fun _ => cont N2 _ h9) (fun c => absurd e.symm c)
theorem and31 (x : Int32) : ∃ v, v < 32 ∧ x &&& 31 = nI v := by
  have h : 0 ≤ (x &&& 31).toInt ∧ (x &&& 31).toInt ≤ 31 := by
    have e : (x &&& 31).toBitVec.toNat ≤ 31 := by
      rw [Int32.toBitVec_and, BitVec.toNat_and]
      exact Nat.and_le_right
    have e2 : (x &&& 31).toInt = (x &&& 31).toBitVec.toInt := rfl
    rw [e2, BitVec.toInt_eq_toNat_of_lt (by omega)]
    omega
  exact ⟨(x &&& 31).toInt.toNat, by omega, nI_ofN h.1⟩
set_option maxRecDepth 100000 in
/-- the loop of the law, from its head -/
theorem lw_loop (G : OK Γ RL cL_law 4 rt 12 444) (hC : SC Γ Ls xs) (h2 : Ls ≤ 2560) (fin : ∀ (i : Nat) (τ : St), WW Γ 952 (LL i) [] τ) : ∀ (d i : Nat) (N : Net) (σ : St), Ls < i + d → i ≤ 2560 → IN N σ 0 0 0 → WW Γ 18 (LL i) [] σ := by
  intro d
  induction d with
  | zero =>
    intro i N σ hd hi h
    have e5 : (5 : Int32).toInt = 5 := rfl
    have eL : (Int32.ofNat Ls).toInt = (Ls : Int) := nI_toInt (by omega)
    have eI : (nI i).toInt = (i : Int) := nI_toInt (by omega)
    have es : (Int32.ofNat Ls - (5 : Int32)).toInt = (Ls : Int) - 5 := by rw [fb_subI (by rw [eL, e5]; omega) (by rw [eL, e5]; omega), eL, e5]
    refine s_iload_n G dL_law_18 rfl ?_
    refine s_aload_n G dL_law_19 rfl ?_
    refine s_scl G hC dL_law_20 ?_
    refine s_iconst (v := 5) G dL_law_21 rfl ?_
    refine s_isub G dL_law_22 ?_
    refine s_icmp_gt (tgt := 952) G dL_law_23 (by decide) (fun _ => fin i σ) (fun c => ?_)
    have c' : ¬ (Int32.ofNat Ls - (5 : Int32)).toInt < (nI i).toInt := fun w => c (i_lt.mpr w)
    omega
  | succ d ih =>
    intro i N σ hd hi h
    have e5 : (5 : Int32).toInt = 5 := rfl
    have eL : (Int32.ofNat Ls).toInt = (Ls : Int) := nI_toInt (by omega)
    have eI : (nI i).toInt = (i : Int) := nI_toInt (by omega)
    have es : (Int32.ofNat Ls - (5 : Int32)).toInt = (Ls : Int) - 5 := by rw [fb_subI (by rw [eL, e5]; omega) (by rw [eL, e5]; omega), eL, e5]
    refine s_iload_n G dL_law_18 rfl ?_
    refine s_aload_n G dL_law_19 rfl ?_
    refine s_scl G hC dL_law_20 ?_
    refine s_iconst (v := 5) G dL_law_21 rfl ?_
    refine s_isub G dL_law_22 ?_
    refine s_icmp_gt (tgt := 952) G dL_law_23 (by decide) (fun _ => fin i σ) (fun c => ?_)
    have c' : ¬ (Int32.ofNat Ls - (5 : Int32)).toInt < (nI i).toInt := fun w => c (i_lt.mpr w)
    have hi5 : i + 5 ≤ Ls := by omega
    refine s_aload_n G dL_law_26 rfl ?_
    refine s_iload_n G dL_law_27 rfl ?_
    refine s_sld G hC h2 (k := i) rfl (by omega) dL_law_28 ?_
    refine s_bipush (v := 31) G dL_law_29 rfl ?_
    refine s_iand G dL_law_31 ?_
    have cont : ∀ (N : Net) (τ : St), IN N τ 0 0 0 → WW Γ 946 (LL i) [] τ := by
      intro N τ h
      refine s_iinc (v := nI (i + 5)) (L' := LL (i + 5)) G dL_law_946 rfl (nI_add i 5) (by decide) rfl rfl ?_
      exact s_goto (tgt := 18) G dL_law_949 (by decide) (ih (i + 5) N τ (by omega) (by omega) h)
    obtain ⟨v, hv, ev⟩ := and31 (xs i)
    rw [ev]
    have : v = 0 ∨ v = 1 ∨ v = 2 ∨ v = 3 ∨ v = 4 ∨ v = 5 ∨ v = 6 ∨ v = 7 ∨ v = 8 ∨ v = 9 ∨ v = 10 ∨ v = 11 ∨ v = 12 ∨ v = 13 ∨ v = 14 ∨ v = 15 ∨ v = 16 ∨ v = 17 ∨ v = 18 ∨ v = 19 ∨ v = 20 ∨ v = 21 ∨ v = 22 ∨ v = 23 ∨ v = 24 ∨ v = 25 ∨ v = 26 ∨ 27 ≤ v := by omega
    rcases this with e | e | e | e | e | e | e | e | e | e | e | e | e | e | e | e | e | e | e | e | e | e | e | e | e | e | e | e
    · subst e
      exact s_tabIn (off := 124) (tgt := 156) G dL_law_32 (by decide) (by decide) (by decide) (by decide) (lw_begins G hC h2 hi5 h cont)
    · subst e
      exact s_tabIn (off := 147) (tgt := 179) G dL_law_32 (by decide) (by decide) (by decide) (by decide) (lw_feeds G hC h2 hi5 h cont)
    · subst e
      exact s_tabIn (off := 180) (tgt := 212) G dL_law_32 (by decide) (by decide) (by decide) (by decide) (lw_line G hC h2 hi5 h cont)
    · subst e
      exact s_tabIn (off := 233) (tgt := 265) G dL_law_32 (by decide) (by decide) (by decide) (by decide) (lw_drops G hC h2 hi5 h cont)
    · subst e
      exact s_tabIn (off := 256) (tgt := 288) G dL_law_32 (by decide) (by decide) (by decide) (by decide) (lw_switches G hC h2 hi5 h cont)
    · subst e
      exact s_tabIn (off := 289) (tgt := 321) G dL_law_32 (by decide) (by decide) (by decide) (by decide) (lw_sets G hC h2 hi5 h cont)
    · subst e
      exact s_tabIn (off := 332) (tgt := 364) G dL_law_32 (by decide) (by decide) (by decide) (by decide) (lw_of G hC h2 hi5 h cont)
    · subst e
      exact s_tabIn (off := 365) (tgt := 397) G dL_law_32 (by decide) (by decide) (by decide) (by decide) (lw_flow G hC h2 hi5 h cont)
    · subst e
      exact s_tabIn (off := 399) (tgt := 431) G dL_law_32 (by decide) (by decide) (by decide) (by decide) (lw_angle G hC h2 hi5 h cont)
    · subst e
      exact s_tabIn (off := 433) (tgt := 465) G dL_law_32 (by decide) (by decide) (by decide) (by decide) (lw_factor G hC h2 hi5 h cont)
    · subst e
      exact s_tabIn (off := 477) (tgt := 509) G dL_law_32 (by decide) (by decide) (by decide) (by decide) (lw_island G hC h2 hi5 h cont)
    · subst e
      exact s_tabIn (off := 500) (tgt := 532) G dL_law_32 (by decide) (by decide) (by decide) (by decide) (lw_trees G hC h2 hi5 h cont)
    · subst e
      exact s_tabIn (off := 524) (tgt := 556) G dL_law_32 (by decide) (by decide) (by decide) (by decide) (lw_fed G hC h2 hi5 h cont)
    · subst e
      exact s_tabIn (off := 547) (tgt := 579) G dL_law_32 (by decide) (by decide) (by decide) (by decide) (lw_outage G hC h2 hi5 h cont)
    · subst e
      exact s_tabIn (off := 591) (tgt := 623) G dL_law_32 (by decide) (by decide) (by decide) (by decide) (lw_spread G hC h2 hi5 h cont)
    · subst e
      exact s_tabIn (off := 635) (tgt := 667) G dL_law_32 (by decide) (by decide) (by decide) (by decide) (lw_worst G hC h2 hi5 h cont)
    · subst e
      exact s_tabIn (off := 669) (tgt := 701) G dL_law_32 (by decide) (by decide) (by decide) (by decide) (lw_ranked G hC h2 hi5 h cont)
    · subst e
      exact s_tabIn (off := 692) (tgt := 724) G dL_law_32 (by decide) (by decide) (by decide) (by decide) (lw_pair G hC h2 hi5 h cont)
    · subst e
      exact s_tabIn (off := 726) (tgt := 758) G dL_law_32 (by decide) (by decide) (by decide) (by decide) (lw_shift G hC h2 hi5 h cont)
    · subst e
      exact s_tabIn (off := 749) (tgt := 781) G dL_law_32 (by decide) (by decide) (by decide) (by decide) (lw_transfer G hC h2 hi5 h cont)
    · subst e
      exact s_tabIn (off := 792) (tgt := 824) G dL_law_32 (by decide) (by decide) (by decide) (by decide) (lw_count G hC h2 hi5 h cont)
    · subst e
      exact s_tabIn (off := 815) (tgt := 847) G dL_law_32 (by decide) (by decide) (by decide) (by decide) (lw_type G hC h2 hi5 h cont)
    · subst e
      exact s_tabIn (off := 838) (tgt := 870) G dL_law_32 (by decide) (by decide) (by decide) (by decide) (lw_clear G hC h2 hi5 h cont)
    · subst e
      exact s_tabIn (off := 851) (tgt := 883) G dL_law_32 (by decide) (by decide) (by decide) (by decide) (lw_does G hC h2 hi5 h cont)
    · subst e
      exact s_tabIn (off := 864) (tgt := 896) G dL_law_32 (by decide) (by decide) (by decide) (by decide) (lw_back G hC h2 hi5 h cont)
    · subst e
      exact s_tabIn (off := 877) (tgt := 909) G dL_law_32 (by decide) (by decide) (by decide) (by decide) (lw_told G hC h2 hi5 h cont)
    · subst e
      exact s_tabIn (off := 900) (tgt := 932) G dL_law_32 (by decide) (by decide) (by decide) (by decide) (lw_digest G hC h2 hi5 h cont)
    · refine s_tabOut (tgt := 946) G dL_law_32 (Or.inr ?_) (by decide) (cont N σ h)
      rw [nI_t (by omega)]
      omega
end LW
