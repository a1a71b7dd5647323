/-! ===== the law's cases: a call of the one, the same call of the other, the same answer ===== -/
section LC
variable {l : Launch} {D : DD} {σ : Hp} {c o k B kc ks kc' ks' : Nat}
theorem law_feed (h : Iv σ c o B) (hk : 6 * k + 6 ≤ d_L D) (hL : d_L D ≤ 3072) (hB : B < 2 ^ 29) (hc : kc + 484 ≤ kc') (hs : ks + 11700 ≤ ks') (nx : ∀ τ, Iv τ c o (B + 200) → GL l D 970 (lsL D c o k) [] τ kc ks) : GL l D 152 (lsL D c o k) [] σ kc' ks' := by
  obtain ⟨ow, ad, S, g, gm, ge, hz, h0⟩ := h
  have kx : h_K σ c = 11 := g.2.1.2.1 (0, 11) (by decide)
  refine r_aload_n lf_152 rfl ?_
  refine r_aload_n lf_153 rfl ?_
  refine r_iload_n lf_154 rfl ?_
  refine r_iconst (v := nI 1) lf_155 (by decide) ?_
  refine r_iaddN lf_156 ?_
  refine r_sld lf_157 rfl (by omega) (by omega) ?_
  refine r_aload_n lf_158 rfl ?_
  refine r_iload_n lf_159 rfl ?_
  refine r_iconst (v := nI 2) lf_160 (by decide) ?_
  refine r_iaddN lf_161 ?_
  refine r_sld lf_162 rfl (by omega) (by omega) ?_
  refine r_aload_n lf_163 rfl ?_
  refine r_iload_n lf_164 rfl ?_
  refine r_iconst (v := nI 3) lf_165 (by decide) ?_
  refine r_iaddN lf_166 ?_
  refine r_sld lf_167 rfl (by omega) (by omega) ?_
  refine r_aload_n lf_168 rfl ?_
  refine r_iload_n lf_169 rfl ?_
  refine r_iconst (v := nI 4) lf_170 (by decide) ?_
  refine r_iaddN lf_171 ?_
  refine r_sld lf_172 rfl (by omega) (by omega) ?_
  refine r_aload_n lf_173 rfl ?_
  refine r_iload_n lf_174 rfl ?_
  refine r_iconst (v := nI 5) lf_175 (by decide) ?_
  refine r_iaddN lf_176 ?_
  refine r_sld lf_177 rfl (by omega) (by omega) ?_
  refine r_callV (As := [_, _, _, _, _]) lf_178 (by decide) rfl kx rfl rfl (Nat.le_of_ble_eq_true rfl) ⟨Nat.le_of_ble_eq_true rfl, Nat.le_of_ble_eq_true rfl⟩ (c_NK_feed g) (kc' := kc) (ks' := ks) (by omega) (by omega) (by decide) ?_
  rintro r σ1 ⟨rfl, ow1, ad1, g1, f1⟩
  have gm1 := gm.cm f1 hz h0
  have ko : h_K σ1 o = 12 := gm1.1.1
  refine r_aload_n lf_181 rfl ?_
  refine r_aload_n lf_182 rfl ?_
  refine r_iload_n lf_183 rfl ?_
  refine r_iconst (v := nI 1) lf_184 (by decide) ?_
  refine r_iaddN lf_185 ?_
  refine r_sld lf_186 rfl (by omega) (by omega) ?_
  refine r_aload_n lf_187 rfl ?_
  refine r_iload_n lf_188 rfl ?_
  refine r_iconst (v := nI 2) lf_189 (by decide) ?_
  refine r_iaddN lf_190 ?_
  refine r_sld lf_191 rfl (by omega) (by omega) ?_
  refine r_aload_n lf_192 rfl ?_
  refine r_iload_n lf_193 rfl ?_
  refine r_iconst (v := nI 3) lf_194 (by decide) ?_
  refine r_iaddN lf_195 ?_
  refine r_sld lf_196 rfl (by omega) (by omega) ?_
  refine r_aload_n lf_197 rfl ?_
  refine r_iload_n lf_198 rfl ?_
  refine r_iconst (v := nI 4) lf_199 (by decide) ?_
  refine r_iaddN lf_200 ?_
  refine r_sld lf_201 rfl (by omega) (by omega) ?_
  refine r_aload_n lf_202 rfl ?_
  refine r_iload_n lf_203 rfl ?_
  refine r_iconst (v := nI 5) lf_204 (by decide) ?_
  refine r_iaddN lf_205 ?_
  refine r_sld lf_206 rfl (by omega) (by omega) ?_
  refine r_callV (As := [_, _, _, _, _]) lf_207 (by decide) rfl ko rfl rfl (Nat.le_of_ble_eq_true rfl) ⟨Nat.le_of_ble_eq_true rfl, Nat.le_of_ble_eq_true rfl⟩ (c_M_feedS gm1) (kc' := kc) (ks' := ks) (by omega) (by omega) (by decide) ?_
  rintro r σ2 ⟨rfl, gm2, fr⟩
  have h01 : ∀ j, j < 40 → ow1 (o + 1 + j) = 0 := fun j hj => (f1.2 _ (by omega)).trans (h0 j hj)
  have g2 := g1.ref fr h01
  refine r_icmp_eq lf_210 (fun _ => ?_) (fun q => absurd rfl q)
  exact nx σ2 ⟨ow1, ad1, _, g2, gm2, ge.of se_feed, by rw [fr.1]; have := f1.1.1; omega, h01⟩
theorem law_end (h : Iv σ c o B) (hk : 6 * k + 6 ≤ d_L D) (hL : d_L D ≤ 3072) (hB : B < 2 ^ 29) (hc : kc + 484 ≤ kc') (hs : ks + 11700 ≤ ks') (nx : ∀ τ, Iv τ c o (B + 200) → GL l D 970 (lsL D c o k) [] τ kc ks) : GL l D 215 (lsL D c o k) [] σ kc' ks' := by
  obtain ⟨ow, ad, S, g, gm, ge, hz, h0⟩ := h
  have kx : h_K σ c = 11 := g.2.1.2.1 (0, 11) (by decide)
  refine r_aload_n lf_215 rfl ?_
  refine r_aload_n lf_216 rfl ?_
  refine r_iload_n lf_217 rfl ?_
  refine r_iconst (v := nI 1) lf_218 (by decide) ?_
  refine r_iaddN lf_219 ?_
  refine r_sld lf_220 rfl (by omega) (by omega) ?_
  refine r_callV (As := [_]) lf_221 (by decide) rfl kx rfl rfl (Nat.le_of_ble_eq_true rfl) ⟨Nat.le_of_ble_eq_true rfl, Nat.le_of_ble_eq_true rfl⟩ (c_NK_end g) (kc' := kc) (ks' := ks) (by omega) (by omega) (by decide) ?_
  rintro r σ1 ⟨rfl, ow1, ad1, g1, f1⟩
  have gm1 := gm.cm f1 hz h0
  have ko : h_K σ1 o = 12 := gm1.1.1
  refine r_aload_n lf_224 rfl ?_
  refine r_aload_n lf_225 rfl ?_
  refine r_iload_n lf_226 rfl ?_
  refine r_iconst (v := nI 1) lf_227 (by decide) ?_
  refine r_iaddN lf_228 ?_
  refine r_sld lf_229 rfl (by omega) (by omega) ?_
  refine r_callV (As := [_]) lf_230 (by decide) rfl ko rfl rfl (Nat.le_of_ble_eq_true rfl) ⟨Nat.le_of_ble_eq_true rfl, Nat.le_of_ble_eq_true rfl⟩ (c_M_endS gm1) (kc' := kc) (ks' := ks) (by omega) (by omega) (by decide) ?_
  rintro r σ2 ⟨rfl, gm2, fr⟩
  have h01 : ∀ j, j < 40 → ow1 (o + 1 + j) = 0 := fun j hj => (f1.2 _ (by omega)).trans (h0 j hj)
  have g2 := g1.ref fr h01
  refine r_icmp_eq lf_233 (fun _ => ?_) (fun q => absurd rfl q)
  exact nx σ2 ⟨ow1, ad1, _, g2, gm2, ge.of se_end, by rw [fr.1]; have := f1.1.1; omega, h01⟩
theorem law_word (h : Iv σ c o B) (hk : 6 * k + 6 ≤ d_L D) (hL : d_L D ≤ 3072) (hB : B < 2 ^ 29) (hc : kc + 484 ≤ kc') (hs : ks + 11700 ≤ ks') (nx : ∀ τ, Iv τ c o (B + 200) → GL l D 970 (lsL D c o k) [] τ kc ks) : GL l D 238 (lsL D c o k) [] σ kc' ks' := by
  obtain ⟨ow, ad, S, g, gm, ge, hz, h0⟩ := h
  have kx : h_K σ c = 11 := g.2.1.2.1 (0, 11) (by decide)
  refine r_aload_n lf_238 rfl ?_
  refine r_aload_n lf_239 rfl ?_
  refine r_iload_n lf_240 rfl ?_
  refine r_iconst (v := nI 1) lf_241 (by decide) ?_
  refine r_iaddN lf_242 ?_
  refine r_sld lf_243 rfl (by omega) (by omega) ?_
  refine r_callV (As := [_]) lf_244 (by decide) rfl kx rfl rfl (Nat.le_of_ble_eq_true rfl) ⟨Nat.le_of_ble_eq_true rfl, Nat.le_of_ble_eq_true rfl⟩ (c_NK_word g) (kc' := kc) (ks' := ks) (by omega) (by omega) (by decide) ?_
  rintro r σ1 ⟨rfl, ow1, ad1, g1, f1⟩
  have gm1 := gm.cm f1 hz h0
  have ko : h_K σ1 o = 12 := gm1.1.1
  refine r_aload_n lf_247 rfl ?_
  refine r_aload_n lf_248 rfl ?_
  refine r_iload_n lf_249 rfl ?_
  refine r_iconst (v := nI 1) lf_250 (by decide) ?_
  refine r_iaddN lf_251 ?_
  refine r_sld lf_252 rfl (by omega) (by omega) ?_
  refine r_callV (As := [_]) lf_253 (by decide) rfl ko rfl rfl (Nat.le_of_ble_eq_true rfl) ⟨Nat.le_of_ble_eq_true rfl, Nat.le_of_ble_eq_true rfl⟩ (c_M_wordS gm1) (kc' := kc) (ks' := ks) (by omega) (by omega) (by decide) ?_
  rintro r σ2 ⟨rfl, gm2, fr⟩
  have h01 : ∀ j, j < 40 → ow1 (o + 1 + j) = 0 := fun j hj => (f1.2 _ (by omega)).trans (h0 j hj)
  have g2 := g1.ref fr h01
  refine r_icmp_eq lf_256 (fun _ => ?_) (fun q => absurd rfl q)
  exact nx σ2 ⟨ow1, ad1, _, g2, gm2, ge.of se_word, by rw [fr.1]; have := f1.1.1; omega, h01⟩
theorem law_form (h : Iv σ c o B) (hk : 6 * k + 6 ≤ d_L D) (hL : d_L D ≤ 3072) (hB : B < 2 ^ 29) (hc : kc + 484 ≤ kc') (hs : ks + 11700 ≤ ks') (nx : ∀ τ, Iv τ c o (B + 200) → GL l D 970 (lsL D c o k) [] τ kc ks) : GL l D 261 (lsL D c o k) [] σ kc' ks' := by
  obtain ⟨ow, ad, S, g, gm, ge, hz, h0⟩ := h
  have kx : h_K σ c = 11 := g.2.1.2.1 (0, 11) (by decide)
  refine r_aload_n lf_261 rfl ?_
  refine r_aload_n lf_262 rfl ?_
  refine r_iload_n lf_263 rfl ?_
  refine r_iconst (v := nI 1) lf_264 (by decide) ?_
  refine r_iaddN lf_265 ?_
  refine r_sld lf_266 rfl (by omega) (by omega) ?_
  refine r_aload_n lf_267 rfl ?_
  refine r_iload_n lf_268 rfl ?_
  refine r_iconst (v := nI 2) lf_269 (by decide) ?_
  refine r_iaddN lf_270 ?_
  refine r_sld lf_271 rfl (by omega) (by omega) ?_
  refine r_aload_n lf_272 rfl ?_
  refine r_iload_n lf_273 rfl ?_
  refine r_iconst (v := nI 3) lf_274 (by decide) ?_
  refine r_iaddN lf_275 ?_
  refine r_sld lf_276 rfl (by omega) (by omega) ?_
  refine r_aload_n lf_277 rfl ?_
  refine r_iload_n lf_278 rfl ?_
  refine r_iconst (v := nI 4) lf_279 (by decide) ?_
  refine r_iaddN lf_280 ?_
  refine r_sld lf_281 rfl (by omega) (by omega) ?_
  refine r_callV (As := [_, _, _, _]) lf_282 (by decide) rfl kx rfl rfl (Nat.le_of_ble_eq_true rfl) ⟨Nat.le_of_ble_eq_true rfl, Nat.le_of_ble_eq_true rfl⟩ (c_NK_form g) (kc' := kc) (ks' := ks) (by omega) (by omega) (by decide) ?_
  rintro r σ1 ⟨rfl, ow1, ad1, g1, f1⟩
  have gm1 := gm.cm f1 hz h0
  have ko : h_K σ1 o = 12 := gm1.1.1
  refine r_aload_n lf_285 rfl ?_
  refine r_aload_n lf_286 rfl ?_
  refine r_iload_n lf_287 rfl ?_
  refine r_iconst (v := nI 1) lf_288 (by decide) ?_
  refine r_iaddN lf_289 ?_
  refine r_sld lf_290 rfl (by omega) (by omega) ?_
  refine r_aload_n lf_291 rfl ?_
  refine r_iload_n lf_292 rfl ?_
  refine r_iconst (v := nI 2) lf_293 (by decide) ?_
  refine r_iaddN lf_294 ?_
  refine r_sld lf_295 rfl (by omega) (by omega) ?_
  refine r_aload_n lf_296 rfl ?_
  refine r_iload_n lf_297 rfl ?_
  refine r_iconst (v := nI 3) lf_298 (by decide) ?_
  refine r_iaddN lf_299 ?_
  refine r_sld lf_300 rfl (by omega) (by omega) ?_
  refine r_aload_n lf_301 rfl ?_
  refine r_iload_n lf_302 rfl ?_
  refine r_iconst (v := nI 4) lf_303 (by decide) ?_
  refine r_iaddN lf_304 ?_
  refine r_sld lf_305 rfl (by omega) (by omega) ?_
  refine r_callV (As := [_, _, _, _]) lf_306 (by decide) rfl ko rfl rfl (Nat.le_of_ble_eq_true rfl) ⟨Nat.le_of_ble_eq_true rfl, Nat.le_of_ble_eq_true rfl⟩ (c_M_formS gm1) (kc' := kc) (ks' := ks) (by omega) (by omega) (by decide) ?_
  rintro r σ2 ⟨rfl, gm2, fr⟩
  have h01 : ∀ j, j < 40 → ow1 (o + 1 + j) = 0 := fun j hj => (f1.2 _ (by omega)).trans (h0 j hj)
  have g2 := g1.ref fr h01
  refine r_icmp_eq lf_309 (fun _ => ?_) (fun q => absurd rfl q)
  exact nx σ2 ⟨ow1, ad1, _, g2, gm2, ge.of se_form, by rw [fr.1]; have := f1.1.1; omega, h01⟩
theorem law_add (h : Iv σ c o B) (hk : 6 * k + 6 ≤ d_L D) (hL : d_L D ≤ 3072) (hB : B < 2 ^ 29) (hc : kc + 484 ≤ kc') (hs : ks + 11700 ≤ ks') (nx : ∀ τ, Iv τ c o (B + 200) → GL l D 970 (lsL D c o k) [] τ kc ks) : GL l D 314 (lsL D c o k) [] σ kc' ks' := by
  obtain ⟨ow, ad, S, g, gm, ge, hz, h0⟩ := h
  have kx : h_K σ c = 11 := g.2.1.2.1 (0, 11) (by decide)
  refine r_aload_n lf_314 rfl ?_
  refine r_aload_n lf_315 rfl ?_
  refine r_iload_n lf_316 rfl ?_
  refine r_iconst (v := nI 1) lf_317 (by decide) ?_
  refine r_iaddN lf_318 ?_
  refine r_sld lf_319 rfl (by omega) (by omega) ?_
  refine r_aload_n lf_320 rfl ?_
  refine r_iload_n lf_321 rfl ?_
  refine r_iconst (v := nI 2) lf_322 (by decide) ?_
  refine r_iaddN lf_323 ?_
  refine r_sld lf_324 rfl (by omega) (by omega) ?_
  refine r_aload_n lf_325 rfl ?_
  refine r_iload_n lf_326 rfl ?_
  refine r_iconst (v := nI 3) lf_327 (by decide) ?_
  refine r_iaddN lf_328 ?_
  refine r_sld lf_329 rfl (by omega) (by omega) ?_
  refine r_callV (As := [_, _, _]) lf_330 (by decide) rfl kx rfl rfl (Nat.le_of_ble_eq_true rfl) ⟨Nat.le_of_ble_eq_true rfl, Nat.le_of_ble_eq_true rfl⟩ (c_NK_add g) (kc' := kc) (ks' := ks) (by omega) (by omega) (by decide) ?_
  rintro r σ1 ⟨rfl, ow1, ad1, g1, f1⟩
  have gm1 := gm.cm f1 hz h0
  have ko : h_K σ1 o = 12 := gm1.1.1
  refine r_aload_n lf_333 rfl ?_
  refine r_aload_n lf_334 rfl ?_
  refine r_iload_n lf_335 rfl ?_
  refine r_iconst (v := nI 1) lf_336 (by decide) ?_
  refine r_iaddN lf_337 ?_
  refine r_sld lf_338 rfl (by omega) (by omega) ?_
  refine r_aload_n lf_339 rfl ?_
  refine r_iload_n lf_340 rfl ?_
  refine r_iconst (v := nI 2) lf_341 (by decide) ?_
  refine r_iaddN lf_342 ?_
  refine r_sld lf_343 rfl (by omega) (by omega) ?_
  refine r_aload_n lf_344 rfl ?_
  refine r_iload_n lf_345 rfl ?_
  refine r_iconst (v := nI 3) lf_346 (by decide) ?_
  refine r_iaddN lf_347 ?_
  refine r_sld lf_348 rfl (by omega) (by omega) ?_
  refine r_callV (As := [_, _, _]) lf_349 (by decide) rfl ko rfl rfl (Nat.le_of_ble_eq_true rfl) ⟨Nat.le_of_ble_eq_true rfl, Nat.le_of_ble_eq_true rfl⟩ (c_M_addS gm1) (kc' := kc) (ks' := ks) (by omega) (by omega) (by decide) ?_
  rintro r σ2 ⟨rfl, gm2, fr⟩
  have h01 : ∀ j, j < 40 → ow1 (o + 1 + j) = 0 := fun j hj => (f1.2 _ (by omega)).trans (h0 j hj)
  have g2 := g1.ref fr h01
  refine r_icmp_eq lf_352 (fun _ => ?_) (fun q => absurd rfl q)
  exact nx σ2 ⟨ow1, ad1, _, g2, gm2, ge.of se_add, by rw [fr.1]; have := f1.1.1; omega, h01⟩
theorem law_move (h : Iv σ c o B) (hk : 6 * k + 6 ≤ d_L D) (hL : d_L D ≤ 3072) (hB : B < 2 ^ 29) (hc : kc + 484 ≤ kc') (hs : ks + 11700 ≤ ks') (nx : ∀ τ, Iv τ c o (B + 200) → GL l D 970 (lsL D c o k) [] τ kc ks) : GL l D 357 (lsL D c o k) [] σ kc' ks' := by
  obtain ⟨ow, ad, S, g, gm, ge, hz, h0⟩ := h
  have kx : h_K σ c = 11 := g.2.1.2.1 (0, 11) (by decide)
  refine r_aload_n lf_357 rfl ?_
  refine r_aload_n lf_358 rfl ?_
  refine r_iload_n lf_359 rfl ?_
  refine r_iconst (v := nI 1) lf_360 (by decide) ?_
  refine r_iaddN lf_361 ?_
  refine r_sld lf_362 rfl (by omega) (by omega) ?_
  refine r_aload_n lf_363 rfl ?_
  refine r_iload_n lf_364 rfl ?_
  refine r_iconst (v := nI 2) lf_365 (by decide) ?_
  refine r_iaddN lf_366 ?_
  refine r_sld lf_367 rfl (by omega) (by omega) ?_
  refine r_aload_n lf_368 rfl ?_
  refine r_iload_n lf_369 rfl ?_
  refine r_iconst (v := nI 3) lf_370 (by decide) ?_
  refine r_iaddN lf_371 ?_
  refine r_sld lf_372 rfl (by omega) (by omega) ?_
  refine r_callV (As := [_, _, _]) lf_373 (by decide) rfl kx rfl rfl (Nat.le_of_ble_eq_true rfl) ⟨Nat.le_of_ble_eq_true rfl, Nat.le_of_ble_eq_true rfl⟩ (c_NK_move g) (kc' := kc) (ks' := ks) (by omega) (by omega) (by decide) ?_
  rintro r σ1 ⟨rfl, ow1, ad1, g1, f1⟩
  have gm1 := gm.cm f1 hz h0
  have ko : h_K σ1 o = 12 := gm1.1.1
  refine r_aload_n lf_376 rfl ?_
  refine r_aload_n lf_377 rfl ?_
  refine r_iload_n lf_378 rfl ?_
  refine r_iconst (v := nI 1) lf_379 (by decide) ?_
  refine r_iaddN lf_380 ?_
  refine r_sld lf_381 rfl (by omega) (by omega) ?_
  refine r_aload_n lf_382 rfl ?_
  refine r_iload_n lf_383 rfl ?_
  refine r_iconst (v := nI 2) lf_384 (by decide) ?_
  refine r_iaddN lf_385 ?_
  refine r_sld lf_386 rfl (by omega) (by omega) ?_
  refine r_aload_n lf_387 rfl ?_
  refine r_iload_n lf_388 rfl ?_
  refine r_iconst (v := nI 3) lf_389 (by decide) ?_
  refine r_iaddN lf_390 ?_
  refine r_sld lf_391 rfl (by omega) (by omega) ?_
  refine r_callV (As := [_, _, _]) lf_392 (by decide) rfl ko rfl rfl (Nat.le_of_ble_eq_true rfl) ⟨Nat.le_of_ble_eq_true rfl, Nat.le_of_ble_eq_true rfl⟩ (c_M_moveS gm1) (kc' := kc) (ks' := ks) (by omega) (by omega) (by decide) ?_
  rintro r σ2 ⟨rfl, gm2, fr⟩
  have h01 : ∀ j, j < 40 → ow1 (o + 1 + j) = 0 := fun j hj => (f1.2 _ (by omega)).trans (h0 j hj)
  have g2 := g1.ref fr h01
  refine r_icmp_eq lf_395 (fun _ => ?_) (fun q => absurd rfl q)
  exact nx σ2 ⟨ow1, ad1, _, g2, gm2, ge.of se_move, by rw [fr.1]; have := f1.1.1; omega, h01⟩
theorem law_cut (h : Iv σ c o B) (hk : 6 * k + 6 ≤ d_L D) (hL : d_L D ≤ 3072) (hB : B < 2 ^ 29) (hc : kc + 484 ≤ kc') (hs : ks + 11700 ≤ ks') (nx : ∀ τ, Iv τ c o (B + 200) → GL l D 970 (lsL D c o k) [] τ kc ks) : GL l D 400 (lsL D c o k) [] σ kc' ks' := by
  obtain ⟨ow, ad, S, g, gm, ge, hz, h0⟩ := h
  have kx : h_K σ c = 11 := g.2.1.2.1 (0, 11) (by decide)
  refine r_aload_n lf_400 rfl ?_
  refine r_aload_n lf_401 rfl ?_
  refine r_iload_n lf_402 rfl ?_
  refine r_iconst (v := nI 1) lf_403 (by decide) ?_
  refine r_iaddN lf_404 ?_
  refine r_sld lf_405 rfl (by omega) (by omega) ?_
  refine r_callV (As := [_]) lf_406 (by decide) rfl kx rfl rfl (Nat.le_of_ble_eq_true rfl) ⟨Nat.le_of_ble_eq_true rfl, Nat.le_of_ble_eq_true rfl⟩ (c_NK_cut g) (kc' := kc) (ks' := ks) (by omega) (by omega) (by decide) ?_
  rintro r σ1 ⟨rfl, ow1, ad1, g1, f1⟩
  have gm1 := gm.cm f1 hz h0
  have ko : h_K σ1 o = 12 := gm1.1.1
  refine r_aload_n lf_409 rfl ?_
  refine r_aload_n lf_410 rfl ?_
  refine r_iload_n lf_411 rfl ?_
  refine r_iconst (v := nI 1) lf_412 (by decide) ?_
  refine r_iaddN lf_413 ?_
  refine r_sld lf_414 rfl (by omega) (by omega) ?_
  refine r_callV (As := [_]) lf_415 (by decide) rfl ko rfl rfl (Nat.le_of_ble_eq_true rfl) ⟨Nat.le_of_ble_eq_true rfl, Nat.le_of_ble_eq_true rfl⟩ (c_M_cutS gm1) (kc' := kc) (ks' := ks) (by omega) (by omega) (by decide) ?_
  rintro r σ2 ⟨rfl, gm2, fr⟩
  have h01 : ∀ j, j < 40 → ow1 (o + 1 + j) = 0 := fun j hj => (f1.2 _ (by omega)).trans (h0 j hj)
  have g2 := g1.ref fr h01
  refine r_icmp_eq lf_418 (fun _ => ?_) (fun q => absurd rfl q)
  exact nx σ2 ⟨ow1, ad1, _, g2, gm2, ge.of se_cut, by rw [fr.1]; have := f1.1.1; omega, h01⟩
theorem law_join (h : Iv σ c o B) (hk : 6 * k + 6 ≤ d_L D) (hL : d_L D ≤ 3072) (hB : B < 2 ^ 29) (hc : kc + 484 ≤ kc') (hs : ks + 11700 ≤ ks') (nx : ∀ τ, Iv τ c o (B + 200) → GL l D 970 (lsL D c o k) [] τ kc ks) : GL l D 423 (lsL D c o k) [] σ kc' ks' := by
  obtain ⟨ow, ad, S, g, gm, ge, hz, h0⟩ := h
  have kx : h_K σ c = 11 := g.2.1.2.1 (0, 11) (by decide)
  refine r_aload_n lf_423 rfl ?_
  refine r_aload_n lf_424 rfl ?_
  refine r_iload_n lf_425 rfl ?_
  refine r_iconst (v := nI 1) lf_426 (by decide) ?_
  refine r_iaddN lf_427 ?_
  refine r_sld lf_428 rfl (by omega) (by omega) ?_
  refine r_aload_n lf_429 rfl ?_
  refine r_iload_n lf_430 rfl ?_
  refine r_iconst (v := nI 2) lf_431 (by decide) ?_
  refine r_iaddN lf_432 ?_
  refine r_sld lf_433 rfl (by omega) (by omega) ?_
  refine r_callV (As := [_, _]) lf_434 (by decide) rfl kx rfl rfl (Nat.le_of_ble_eq_true rfl) ⟨Nat.le_of_ble_eq_true rfl, Nat.le_of_ble_eq_true rfl⟩ (c_NK_join g) (kc' := kc) (ks' := ks) (by omega) (by omega) (by decide) ?_
  rintro r σ1 ⟨rfl, ow1, ad1, g1, f1⟩
  have gm1 := gm.cm f1 hz h0
  have ko : h_K σ1 o = 12 := gm1.1.1
  refine r_aload_n lf_437 rfl ?_
  refine r_aload_n lf_438 rfl ?_
  refine r_iload_n lf_439 rfl ?_
  refine r_iconst (v := nI 1) lf_440 (by decide) ?_
  refine r_iaddN lf_441 ?_
  refine r_sld lf_442 rfl (by omega) (by omega) ?_
  refine r_aload_n lf_443 rfl ?_
  refine r_iload_n lf_444 rfl ?_
  refine r_iconst (v := nI 2) lf_445 (by decide) ?_
  refine r_iaddN lf_446 ?_
  refine r_sld lf_447 rfl (by omega) (by omega) ?_
  refine r_callV (As := [_, _]) lf_448 (by decide) rfl ko rfl rfl (Nat.le_of_ble_eq_true rfl) ⟨Nat.le_of_ble_eq_true rfl, Nat.le_of_ble_eq_true rfl⟩ (c_M_joinS gm1) (kc' := kc) (ks' := ks) (by omega) (by omega) (by decide) ?_
  rintro r σ2 ⟨rfl, gm2, fr⟩
  have h01 : ∀ j, j < 40 → ow1 (o + 1 + j) = 0 := fun j hj => (f1.2 _ (by omega)).trans (h0 j hj)
  have g2 := g1.ref fr h01
  refine r_icmp_eq lf_451 (fun _ => ?_) (fun q => absurd rfl q)
  exact nx σ2 ⟨ow1, ad1, _, g2, gm2, ge.of se_join, by rw [fr.1]; have := f1.1.1; omega, h01⟩
theorem law_undo (h : Iv σ c o B) (hk : 6 * k + 6 ≤ d_L D) (hL : d_L D ≤ 3072) (hB : B < 2 ^ 29) (hc : kc + 484 ≤ kc') (hs : ks + 11700 ≤ ks') (nx : ∀ τ, Iv τ c o (B + 200) → GL l D 970 (lsL D c o k) [] τ kc ks) : GL l D 456 (lsL D c o k) [] σ kc' ks' := by
  obtain ⟨ow, ad, S, g, gm, ge, hz, h0⟩ := h
  have kx : h_K σ c = 11 := g.2.1.2.1 (0, 11) (by decide)
  refine r_aload_n lf_456 rfl ?_
  refine r_callV (As := []) lf_457 (by decide) rfl kx rfl rfl (Nat.le_of_ble_eq_true rfl) ⟨Nat.le_of_ble_eq_true rfl, Nat.le_of_ble_eq_true rfl⟩ (c_NK_undo g) (kc' := kc) (ks' := ks) (by omega) (by omega) (by decide) ?_
  rintro r σ1 ⟨rfl, ow1, ad1, g1, f1⟩
  have gm1 := gm.cm f1 hz h0
  have ko : h_K σ1 o = 12 := gm1.1.1
  refine r_aload_n lf_460 rfl ?_
  refine r_callV (As := []) lf_461 (by decide) rfl ko rfl rfl (Nat.le_of_ble_eq_true rfl) ⟨Nat.le_of_ble_eq_true rfl, Nat.le_of_ble_eq_true rfl⟩ (c_M_undoS gm1) (kc' := kc) (ks' := ks) (by omega) (by omega) (by decide) ?_
  rintro r σ2 ⟨rfl, gm2, fr⟩
  have h01 : ∀ j, j < 40 → ow1 (o + 1 + j) = 0 := fun j hj => (f1.2 _ (by omega)).trans (h0 j hj)
  have g2 := g1.ref fr h01
  refine r_icmp_eq lf_464 (fun _ => ?_) (fun q => absurd rfl q)
  exact nx σ2 ⟨ow1, ad1, _, g2, gm2, ge.of se_undo, by rw [fr.1]; have := f1.1.1; omega, h01⟩
theorem law_thing (h : Iv σ c o B) (hk : 6 * k + 6 ≤ d_L D) (hL : d_L D ≤ 3072) (hB : B < 2 ^ 29) (hc : kc + 484 ≤ kc') (hs : ks + 11700 ≤ ks') (nx : ∀ τ, Iv τ c o (B + 200) → GL l D 970 (lsL D c o k) [] τ kc ks) : GL l D 469 (lsL D c o k) [] σ kc' ks' := by
  obtain ⟨ow, ad, S, g, gm, ge, hz, h0⟩ := h
  have kx : h_K σ c = 11 := g.2.1.2.1 (0, 11) (by decide)
  refine r_aload_n lf_469 rfl ?_
  refine r_aload_n lf_470 rfl ?_
  refine r_iload_n lf_471 rfl ?_
  refine r_iconst (v := nI 1) lf_472 (by decide) ?_
  refine r_iaddN lf_473 ?_
  refine r_sld lf_474 rfl (by omega) (by omega) ?_
  refine r_aload_n lf_475 rfl ?_
  refine r_iload_n lf_476 rfl ?_
  refine r_iconst (v := nI 2) lf_477 (by decide) ?_
  refine r_iaddN lf_478 ?_
  refine r_sld lf_479 rfl (by omega) (by omega) ?_
  refine r_callV (As := [_, _]) lf_480 (by decide) rfl kx rfl rfl (Nat.le_of_ble_eq_true rfl) ⟨Nat.le_of_ble_eq_true rfl, Nat.le_of_ble_eq_true rfl⟩ (c_NK_thing g) (kc' := kc) (ks' := ks) (by omega) (by omega) (by decide) ?_
  rintro r σ1 ⟨rfl, ow1, ad1, g1, f1⟩
  have gm1 := gm.cm f1 hz h0
  have ko : h_K σ1 o = 12 := gm1.1.1
  refine r_aload_n lf_483 rfl ?_
  refine r_aload_n lf_484 rfl ?_
  refine r_iload_n lf_485 rfl ?_
  refine r_iconst (v := nI 1) lf_486 (by decide) ?_
  refine r_iaddN lf_487 ?_
  refine r_sld lf_488 rfl (by omega) (by omega) ?_
  refine r_aload_n lf_489 rfl ?_
  refine r_iload_n lf_490 rfl ?_
  refine r_iconst (v := nI 2) lf_491 (by decide) ?_
  refine r_iaddN lf_492 ?_
  refine r_sld lf_493 rfl (by omega) (by omega) ?_
  refine r_callV (As := [_, _]) lf_494 (by decide) rfl ko rfl rfl (Nat.le_of_ble_eq_true rfl) ⟨Nat.le_of_ble_eq_true rfl, Nat.le_of_ble_eq_true rfl⟩ (c_M_thingS gm1) (kc' := kc) (ks' := ks) (by omega) (by omega) (by decide) ?_
  rintro r σ2 ⟨rfl, gm2, fr⟩
  have h01 : ∀ j, j < 40 → ow1 (o + 1 + j) = 0 := fun j hj => (f1.2 _ (by omega)).trans (h0 j hj)
  have g2 := g1.ref fr h01
  refine r_icmp_eq lf_497 (fun _ => ?_) (fun q => absurd rfl q)
  exact nx σ2 ⟨ow1, ad1, _, g2, gm2, ge, by rw [fr.1]; have := f1.1.1; omega, h01⟩
theorem law_at (h : Iv σ c o B) (hk : 6 * k + 6 ≤ d_L D) (hL : d_L D ≤ 3072) (hB : B < 2 ^ 29) (hc : kc + 484 ≤ kc') (hs : ks + 11700 ≤ ks') (nx : ∀ τ, Iv τ c o (B + 200) → GL l D 970 (lsL D c o k) [] τ kc ks) : GL l D 502 (lsL D c o k) [] σ kc' ks' := by
  obtain ⟨ow, ad, S, g, gm, ge, hz, h0⟩ := h
  have kx : h_K σ c = 11 := g.2.1.2.1 (0, 11) (by decide)
  refine r_aload_n lf_502 rfl ?_
  refine r_aload_n lf_503 rfl ?_
  refine r_iload_n lf_504 rfl ?_
  refine r_iconst (v := nI 1) lf_505 (by decide) ?_
  refine r_iaddN lf_506 ?_
  refine r_sld lf_507 rfl (by omega) (by omega) ?_
  refine r_callV (As := [_]) lf_508 (by decide) rfl kx rfl rfl (Nat.le_of_ble_eq_true rfl) ⟨Nat.le_of_ble_eq_true rfl, Nat.le_of_ble_eq_true rfl⟩ (c_NK_at g) (kc' := kc) (ks' := ks) (by omega) (by omega) (by decide) ?_
  rintro r σ1 ⟨rfl, ow1, ad1, g1, f1⟩
  have gm1 := gm.cm f1 hz h0
  have ko : h_K σ1 o = 12 := gm1.1.1
  refine r_aload_n lf_511 rfl ?_
  refine r_aload_n lf_512 rfl ?_
  refine r_iload_n lf_513 rfl ?_
  refine r_iconst (v := nI 1) lf_514 (by decide) ?_
  refine r_iaddN lf_515 ?_
  refine r_sld lf_516 rfl (by omega) (by omega) ?_
  refine r_callV (As := [_]) lf_517 (by decide) rfl ko rfl rfl (Nat.le_of_ble_eq_true rfl) ⟨Nat.le_of_ble_eq_true rfl, Nat.le_of_ble_eq_true rfl⟩ (c_M_atS gm1) (kc' := kc) (ks' := ks) (by omega) (by omega) (by decide) ?_
  rintro r σ2 ⟨rfl, gm2, fr⟩
  have h01 : ∀ j, j < 40 → ow1 (o + 1 + j) = 0 := fun j hj => (f1.2 _ (by omega)).trans (h0 j hj)
  have g2 := g1.ref fr h01
  refine r_icmp_eq lf_520 (fun _ => ?_) (fun q => absurd rfl q)
  exact nx σ2 ⟨ow1, ad1, _, g2, gm2, ge, by rw [fr.1]; have := f1.1.1; omega, h01⟩
theorem law_told (h : Iv σ c o B) (hk : 6 * k + 6 ≤ d_L D) (hL : d_L D ≤ 3072) (hB : B < 2 ^ 29) (hc : kc + 484 ≤ kc') (hs : ks + 11700 ≤ ks') (nx : ∀ τ, Iv τ c o (B + 200) → GL l D 970 (lsL D c o k) [] τ kc ks) : GL l D 525 (lsL D c o k) [] σ kc' ks' := by
  obtain ⟨ow, ad, S, g, gm, ge, hz, h0⟩ := h
  have kx : h_K σ c = 11 := g.2.1.2.1 (0, 11) (by decide)
  refine r_aload_n lf_525 rfl ?_
  refine r_aload_n lf_526 rfl ?_
  refine r_iload_n lf_527 rfl ?_
  refine r_iconst (v := nI 1) lf_528 (by decide) ?_
  refine r_iaddN lf_529 ?_
  refine r_sld lf_530 rfl (by omega) (by omega) ?_
  refine r_aload_n lf_531 rfl ?_
  refine r_iload_n lf_532 rfl ?_
  refine r_iconst (v := nI 2) lf_533 (by decide) ?_
  refine r_iaddN lf_534 ?_
  refine r_sld lf_535 rfl (by omega) (by omega) ?_
  refine r_callV (As := [_, _]) lf_536 (by decide) rfl kx rfl rfl (Nat.le_of_ble_eq_true rfl) ⟨Nat.le_of_ble_eq_true rfl, Nat.le_of_ble_eq_true rfl⟩ (c_NK_told g) (kc' := kc) (ks' := ks) (by omega) (by omega) (by decide) ?_
  rintro r σ1 ⟨rfl, ow1, ad1, g1, f1⟩
  have gm1 := gm.cm f1 hz h0
  have ko : h_K σ1 o = 12 := gm1.1.1
  refine r_aload_n lf_539 rfl ?_
  refine r_aload_n lf_540 rfl ?_
  refine r_iload_n lf_541 rfl ?_
  refine r_iconst (v := nI 1) lf_542 (by decide) ?_
  refine r_iaddN lf_543 ?_
  refine r_sld lf_544 rfl (by omega) (by omega) ?_
  refine r_aload_n lf_545 rfl ?_
  refine r_iload_n lf_546 rfl ?_
  refine r_iconst (v := nI 2) lf_547 (by decide) ?_
  refine r_iaddN lf_548 ?_
  refine r_sld lf_549 rfl (by omega) (by omega) ?_
  refine r_callV (As := [_, _]) lf_550 (by decide) rfl ko rfl rfl (Nat.le_of_ble_eq_true rfl) ⟨Nat.le_of_ble_eq_true rfl, Nat.le_of_ble_eq_true rfl⟩ (c_M_toldS gm1) (kc' := kc) (ks' := ks) (by omega) (by omega) (by decide) ?_
  rintro r σ2 ⟨rfl, gm2, fr⟩
  have h01 : ∀ j, j < 40 → ow1 (o + 1 + j) = 0 := fun j hj => (f1.2 _ (by omega)).trans (h0 j hj)
  have g2 := g1.ref fr h01
  refine r_icmp_eq lf_553 (fun _ => ?_) (fun q => absurd rfl q)
  exact nx σ2 ⟨ow1, ad1, _, g2, gm2, ge, by rw [fr.1]; have := f1.1.1; omega, h01⟩
theorem law_twins (h : Iv σ c o B) (hk : 6 * k + 6 ≤ d_L D) (hL : d_L D ≤ 3072) (hB : B < 2 ^ 29) (hc : kc + 484 ≤ kc') (hs : ks + 11700 ≤ ks') (nx : ∀ τ, Iv τ c o (B + 200) → GL l D 970 (lsL D c o k) [] τ kc ks) : GL l D 558 (lsL D c o k) [] σ kc' ks' := by
  obtain ⟨ow, ad, S, g, gm, ge, hz, h0⟩ := h
  have kx : h_K σ c = 11 := g.2.1.2.1 (0, 11) (by decide)
  refine r_aload_n lf_558 rfl ?_
  refine r_callV (As := []) lf_559 (by decide) rfl kx rfl rfl (Nat.le_of_ble_eq_true rfl) ⟨Nat.le_of_ble_eq_true rfl, Nat.le_of_ble_eq_true rfl⟩ (c_NK_twins g) (kc' := kc) (ks' := ks) (by omega) (by omega) (by decide) ?_
  rintro r σ1 ⟨rfl, ow1, ad1, g1, f1⟩
  have gm1 := gm.cm f1 hz h0
  have ko : h_K σ1 o = 12 := gm1.1.1
  refine r_aload_n lf_562 rfl ?_
  refine r_callV (As := []) lf_563 (by decide) rfl ko rfl rfl (Nat.le_of_ble_eq_true rfl) ⟨Nat.le_of_ble_eq_true rfl, Nat.le_of_ble_eq_true rfl⟩ (c_M_twinsS gm1) (kc' := kc) (ks' := ks) (by omega) (by omega) (by decide) ?_
  rintro r σ2 ⟨rfl, gm2, fr⟩
  have h01 : ∀ j, j < 40 → ow1 (o + 1 + j) = 0 := fun j hj => (f1.2 _ (by omega)).trans (h0 j hj)
  have g2 := g1.ref fr h01
  refine r_icmp_eq lf_566 (fun _ => ?_) (fun q => absurd rfl q)
  exact nx σ2 ⟨ow1, ad1, _, g2, gm2, ge, by rw [fr.1]; have := f1.1.1; omega, h01⟩
theorem law_mention (h : Iv σ c o B) (hk : 6 * k + 6 ≤ d_L D) (hL : d_L D ≤ 3072) (hB : B < 2 ^ 29) (hc : kc + 484 ≤ kc') (hs : ks + 11700 ≤ ks') (nx : ∀ τ, Iv τ c o (B + 200) → GL l D 970 (lsL D c o k) [] τ kc ks) : GL l D 571 (lsL D c o k) [] σ kc' ks' := by
  obtain ⟨ow, ad, S, g, gm, ge, hz, h0⟩ := h
  have kx : h_K σ c = 11 := g.2.1.2.1 (0, 11) (by decide)
  refine r_aload_n lf_571 rfl ?_
  refine r_aload_n lf_572 rfl ?_
  refine r_iload_n lf_573 rfl ?_
  refine r_iconst (v := nI 1) lf_574 (by decide) ?_
  refine r_iaddN lf_575 ?_
  refine r_sld lf_576 rfl (by omega) (by omega) ?_
  refine r_aload_n lf_577 rfl ?_
  refine r_iload_n lf_578 rfl ?_
  refine r_iconst (v := nI 2) lf_579 (by decide) ?_
  refine r_iaddN lf_580 ?_
  refine r_sld lf_581 rfl (by omega) (by omega) ?_
  refine r_aload_n lf_582 rfl ?_
  refine r_iload_n lf_583 rfl ?_
  refine r_iconst (v := nI 3) lf_584 (by decide) ?_
  refine r_iaddN lf_585 ?_
  refine r_sld lf_586 rfl (by omega) (by omega) ?_
  refine r_callV (As := [_, _, _]) lf_587 (by decide) rfl kx rfl rfl (Nat.le_of_ble_eq_true rfl) ⟨Nat.le_of_ble_eq_true rfl, Nat.le_of_ble_eq_true rfl⟩ (c_NK_mention g) (kc' := kc) (ks' := ks) (by omega) (by omega) (by decide) ?_
  rintro r σ1 ⟨rfl, ow1, ad1, g1, f1⟩
  have gm1 := gm.cm f1 hz h0
  have ko : h_K σ1 o = 12 := gm1.1.1
  refine r_aload_n lf_590 rfl ?_
  refine r_aload_n lf_591 rfl ?_
  refine r_iload_n lf_592 rfl ?_
  refine r_iconst (v := nI 1) lf_593 (by decide) ?_
  refine r_iaddN lf_594 ?_
  refine r_sld lf_595 rfl (by omega) (by omega) ?_
  refine r_aload_n lf_596 rfl ?_
  refine r_iload_n lf_597 rfl ?_
  refine r_iconst (v := nI 2) lf_598 (by decide) ?_
  refine r_iaddN lf_599 ?_
  refine r_sld lf_600 rfl (by omega) (by omega) ?_
  refine r_aload_n lf_601 rfl ?_
  refine r_iload_n lf_602 rfl ?_
  refine r_iconst (v := nI 3) lf_603 (by decide) ?_
  refine r_iaddN lf_604 ?_
  refine r_sld lf_605 rfl (by omega) (by omega) ?_
  refine r_callV (As := [_, _, _]) lf_606 (by decide) rfl ko rfl rfl (Nat.le_of_ble_eq_true rfl) ⟨Nat.le_of_ble_eq_true rfl, Nat.le_of_ble_eq_true rfl⟩ (c_M_mentS gm1) (kc' := kc) (ks' := ks) (by omega) (by omega) (by decide) ?_
  rintro r σ2 ⟨rfl, gm2, fr⟩
  have h01 : ∀ j, j < 40 → ow1 (o + 1 + j) = 0 := fun j hj => (f1.2 _ (by omega)).trans (h0 j hj)
  have g2 := g1.ref fr h01
  refine r_icmp_eq lf_609 (fun _ => ?_) (fun q => absurd rfl q)
  exact nx σ2 ⟨ow1, ad1, _, g2, gm2, ge.of se_ment, by rw [fr.1]; have := f1.1.1; omega, h01⟩
theorem law_range (h : Iv σ c o B) (hk : 6 * k + 6 ≤ d_L D) (hL : d_L D ≤ 3072) (hB : B < 2 ^ 29) (hc : kc + 484 ≤ kc') (hs : ks + 11700 ≤ ks') (nx : ∀ τ, Iv τ c o (B + 200) → GL l D 970 (lsL D c o k) [] τ kc ks) : GL l D 614 (lsL D c o k) [] σ kc' ks' := by
  obtain ⟨ow, ad, S, g, gm, ge, hz, h0⟩ := h
  have kx : h_K σ c = 11 := g.2.1.2.1 (0, 11) (by decide)
  refine r_aload_n lf_614 rfl ?_
  refine r_aload_n lf_615 rfl ?_
  refine r_iload_n lf_616 rfl ?_
  refine r_iconst (v := nI 1) lf_617 (by decide) ?_
  refine r_iaddN lf_618 ?_
  refine r_sld lf_619 rfl (by omega) (by omega) ?_
  refine r_aload_n lf_620 rfl ?_
  refine r_iload_n lf_621 rfl ?_
  refine r_iconst (v := nI 2) lf_622 (by decide) ?_
  refine r_iaddN lf_623 ?_
  refine r_sld lf_624 rfl (by omega) (by omega) ?_
  refine r_aload_n lf_625 rfl ?_
  refine r_iload_n lf_626 rfl ?_
  refine r_iconst (v := nI 3) lf_627 (by decide) ?_
  refine r_iaddN lf_628 ?_
  refine r_sld lf_629 rfl (by omega) (by omega) ?_
  refine r_aload_n lf_630 rfl ?_
  refine r_iload_n lf_631 rfl ?_
  refine r_iconst (v := nI 4) lf_632 (by decide) ?_
  refine r_iaddN lf_633 ?_
  refine r_sld lf_634 rfl (by omega) (by omega) ?_
  refine r_callV (As := [_, _, _, _]) lf_635 (by decide) rfl kx rfl rfl (Nat.le_of_ble_eq_true rfl) ⟨Nat.le_of_ble_eq_true rfl, Nat.le_of_ble_eq_true rfl⟩ (c_NK_range g) (kc' := kc) (ks' := ks) (by omega) (by omega) (by decide) ?_
  rintro r σ1 ⟨rfl, ow1, ad1, g1, f1⟩
  have gm1 := gm.cm f1 hz h0
  have ko : h_K σ1 o = 12 := gm1.1.1
  refine r_aload_n lf_638 rfl ?_
  refine r_aload_n lf_639 rfl ?_
  refine r_iload_n lf_640 rfl ?_
  refine r_iconst (v := nI 1) lf_641 (by decide) ?_
  refine r_iaddN lf_642 ?_
  refine r_sld lf_643 rfl (by omega) (by omega) ?_
  refine r_aload_n lf_644 rfl ?_
  refine r_iload_n lf_645 rfl ?_
  refine r_iconst (v := nI 2) lf_646 (by decide) ?_
  refine r_iaddN lf_647 ?_
  refine r_sld lf_648 rfl (by omega) (by omega) ?_
  refine r_aload_n lf_649 rfl ?_
  refine r_iload_n lf_650 rfl ?_
  refine r_iconst (v := nI 3) lf_651 (by decide) ?_
  refine r_iaddN lf_652 ?_
  refine r_sld lf_653 rfl (by omega) (by omega) ?_
  refine r_aload_n lf_654 rfl ?_
  refine r_iload_n lf_655 rfl ?_
  refine r_iconst (v := nI 4) lf_656 (by decide) ?_
  refine r_iaddN lf_657 ?_
  refine r_sld lf_658 rfl (by omega) (by omega) ?_
  refine r_callV (As := [_, _, _, _]) lf_659 (by decide) rfl ko rfl rfl (Nat.le_of_ble_eq_true rfl) ⟨Nat.le_of_ble_eq_true rfl, Nat.le_of_ble_eq_true rfl⟩ (c_M_rangeS gm1) (kc' := kc) (ks' := ks) (by omega) (by omega) (by decide) ?_
  rintro r σ2 ⟨rfl, gm2, fr⟩
  have h01 : ∀ j, j < 40 → ow1 (o + 1 + j) = 0 := fun j hj => (f1.2 _ (by omega)).trans (h0 j hj)
  have g2 := g1.ref fr h01
  refine r_icmp_eq lf_662 (fun _ => ?_) (fun q => absurd rfl q)
  exact nx σ2 ⟨ow1, ad1, _, g2, gm2, ge.of se_range, by rw [fr.1]; have := f1.1.1; omega, h01⟩
theorem law_frozen (h : Iv σ c o B) (hk : 6 * k + 6 ≤ d_L D) (hL : d_L D ≤ 3072) (hB : B < 2 ^ 29) (hc : kc + 484 ≤ kc') (hs : ks + 11700 ≤ ks') (nx : ∀ τ, Iv τ c o (B + 200) → GL l D 970 (lsL D c o k) [] τ kc ks) : GL l D 667 (lsL D c o k) [] σ kc' ks' := by
  obtain ⟨ow, ad, S, g, gm, ge, hz, h0⟩ := h
  have kx : h_K σ c = 11 := g.2.1.2.1 (0, 11) (by decide)
  refine r_aload_n lf_667 rfl ?_
  refine r_aload_n lf_668 rfl ?_
  refine r_iload_n lf_669 rfl ?_
  refine r_iconst (v := nI 1) lf_670 (by decide) ?_
  refine r_iaddN lf_671 ?_
  refine r_sld lf_672 rfl (by omega) (by omega) ?_
  refine r_aload_n lf_673 rfl ?_
  refine r_iload_n lf_674 rfl ?_
  refine r_iconst (v := nI 2) lf_675 (by decide) ?_
  refine r_iaddN lf_676 ?_
  refine r_sld lf_677 rfl (by omega) (by omega) ?_
  refine r_aload_n lf_678 rfl ?_
  refine r_iload_n lf_679 rfl ?_
  refine r_iconst (v := nI 3) lf_680 (by decide) ?_
  refine r_iaddN lf_681 ?_
  refine r_sld lf_682 rfl (by omega) (by omega) ?_
  refine r_callV (As := [_, _, _]) lf_683 (by decide) rfl kx rfl rfl (Nat.le_of_ble_eq_true rfl) ⟨Nat.le_of_ble_eq_true rfl, Nat.le_of_ble_eq_true rfl⟩ (c_NK_frozen g) (kc' := kc) (ks' := ks) (by omega) (by omega) (by decide) ?_
  rintro r σ1 ⟨rfl, ow1, ad1, g1, f1⟩
  have gm1 := gm.cm f1 hz h0
  have ko : h_K σ1 o = 12 := gm1.1.1
  refine r_aload_n lf_686 rfl ?_
  refine r_aload_n lf_687 rfl ?_
  refine r_iload_n lf_688 rfl ?_
  refine r_iconst (v := nI 1) lf_689 (by decide) ?_
  refine r_iaddN lf_690 ?_
  refine r_sld lf_691 rfl (by omega) (by omega) ?_
  refine r_aload_n lf_692 rfl ?_
  refine r_iload_n lf_693 rfl ?_
  refine r_iconst (v := nI 2) lf_694 (by decide) ?_
  refine r_iaddN lf_695 ?_
  refine r_sld lf_696 rfl (by omega) (by omega) ?_
  refine r_aload_n lf_697 rfl ?_
  refine r_iload_n lf_698 rfl ?_
  refine r_iconst (v := nI 3) lf_699 (by decide) ?_
  refine r_iaddN lf_700 ?_
  refine r_sld lf_701 rfl (by omega) (by omega) ?_
  refine r_callV (As := [_, _, _]) lf_702 (by decide) rfl ko rfl rfl (Nat.le_of_ble_eq_true rfl) ⟨Nat.le_of_ble_eq_true rfl, Nat.le_of_ble_eq_true rfl⟩ (c_M_frozS gm1) (kc' := kc) (ks' := ks) (by omega) (by omega) (by decide) ?_
  rintro r σ2 ⟨rfl, gm2, fr⟩
  have h01 : ∀ j, j < 40 → ow1 (o + 1 + j) = 0 := fun j hj => (f1.2 _ (by omega)).trans (h0 j hj)
  have g2 := g1.ref fr h01
  refine r_icmp_eq lf_705 (fun _ => ?_) (fun q => absurd rfl q)
  exact nx σ2 ⟨ow1, ad1, _, g2, gm2, ge.of se_froz, by rw [fr.1]; have := f1.1.1; omega, h01⟩
theorem law_about (h : Iv σ c o B) (hk : 6 * k + 6 ≤ d_L D) (hL : d_L D ≤ 3072) (hB : B < 2 ^ 29) (hc : kc + 484 ≤ kc') (hs : ks + 11700 ≤ ks') (nx : ∀ τ, Iv τ c o (B + 200) → GL l D 970 (lsL D c o k) [] τ kc ks) : GL l D 710 (lsL D c o k) [] σ kc' ks' := by
  obtain ⟨ow, ad, S, g, gm, ge, hz, h0⟩ := h
  have kx : h_K σ c = 11 := g.2.1.2.1 (0, 11) (by decide)
  refine r_aload_n lf_710 rfl ?_
  refine r_aload_n lf_711 rfl ?_
  refine r_iload_n lf_712 rfl ?_
  refine r_iconst (v := nI 1) lf_713 (by decide) ?_
  refine r_iaddN lf_714 ?_
  refine r_sld lf_715 rfl (by omega) (by omega) ?_
  refine r_aload_n lf_716 rfl ?_
  refine r_iload_n lf_717 rfl ?_
  refine r_iconst (v := nI 2) lf_718 (by decide) ?_
  refine r_iaddN lf_719 ?_
  refine r_sld lf_720 rfl (by omega) (by omega) ?_
  refine r_callV (As := [_, _]) lf_721 (by decide) rfl kx rfl rfl (Nat.le_of_ble_eq_true rfl) ⟨Nat.le_of_ble_eq_true rfl, Nat.le_of_ble_eq_true rfl⟩ (c_NK_about g (by omega)) (kc' := kc) (ks' := ks) (by omega) (by omega) (by decide) ?_
  rintro r σ1 ⟨rfl, ow1, ad1, g1, f1⟩
  have gm1 := gm.cm f1 hz h0
  have ko : h_K σ1 o = 12 := gm1.1.1
  refine r_aload_n lf_724 rfl ?_
  refine r_aload_n lf_725 rfl ?_
  refine r_iload_n lf_726 rfl ?_
  refine r_iconst (v := nI 1) lf_727 (by decide) ?_
  refine r_iaddN lf_728 ?_
  refine r_sld lf_729 rfl (by omega) (by omega) ?_
  refine r_aload_n lf_730 rfl ?_
  refine r_iload_n lf_731 rfl ?_
  refine r_iconst (v := nI 2) lf_732 (by decide) ?_
  refine r_iaddN lf_733 ?_
  refine r_sld lf_734 rfl (by omega) (by omega) ?_
  refine r_callV (As := [_, _]) lf_735 (by decide) rfl ko rfl rfl (Nat.le_of_ble_eq_true rfl) ⟨Nat.le_of_ble_eq_true rfl, Nat.le_of_ble_eq_true rfl⟩ (c_M_aboutS gm1) (kc' := kc) (ks' := ks) (by omega) (by omega) (by decide) ?_
  rintro r σ2 ⟨rfl, gm2, fr⟩
  have h01 : ∀ j, j < 40 → ow1 (o + 1 + j) = 0 := fun j hj => (f1.2 _ (by omega)).trans (h0 j hj)
  have g2 := g1.ref fr h01
  refine r_icmp_eq lf_738 (fun _ => ?_) (fun q => absurd rfl q)
  exact nx σ2 ⟨ow1, ad1, _, g2, gm2, ge, by rw [fr.1]; have := f1.1.1; omega, h01⟩
theorem law_text (h : Iv σ c o B) (hk : 6 * k + 6 ≤ d_L D) (hL : d_L D ≤ 3072) (hB : B < 2 ^ 29) (hc : kc + 484 ≤ kc') (hs : ks + 11700 ≤ ks') (nx : ∀ τ, Iv τ c o (B + 200) → GL l D 970 (lsL D c o k) [] τ kc ks) : GL l D 743 (lsL D c o k) [] σ kc' ks' := by
  obtain ⟨ow, ad, S, g, gm, ge, hz, h0⟩ := h
  have kx : h_K σ c = 11 := g.2.1.2.1 (0, 11) (by decide)
  refine r_aload_n lf_743 rfl ?_
  refine r_aload_n lf_744 rfl ?_
  refine r_iload_n lf_745 rfl ?_
  refine r_iconst (v := nI 1) lf_746 (by decide) ?_
  refine r_iaddN lf_747 ?_
  refine r_sld lf_748 rfl (by omega) (by omega) ?_
  refine r_aload_n lf_749 rfl ?_
  refine r_iload_n lf_750 rfl ?_
  refine r_iconst (v := nI 2) lf_751 (by decide) ?_
  refine r_iaddN lf_752 ?_
  refine r_sld lf_753 rfl (by omega) (by omega) ?_
  refine r_callV (As := [_, _]) lf_754 (by decide) rfl kx rfl rfl (Nat.le_of_ble_eq_true rfl) ⟨Nat.le_of_ble_eq_true rfl, Nat.le_of_ble_eq_true rfl⟩ (c_NK_text g (by omega) ge) (kc' := kc) (ks' := ks) (by omega) (by omega) (by decide) ?_
  rintro r σ1 ⟨rfl, ow1, ad1, g1, f1⟩
  have gm1 := gm.cm f1 hz h0
  have ko : h_K σ1 o = 12 := gm1.1.1
  refine r_aload_n lf_757 rfl ?_
  refine r_aload_n lf_758 rfl ?_
  refine r_iload_n lf_759 rfl ?_
  refine r_iconst (v := nI 1) lf_760 (by decide) ?_
  refine r_iaddN lf_761 ?_
  refine r_sld lf_762 rfl (by omega) (by omega) ?_
  refine r_aload_n lf_763 rfl ?_
  refine r_iload_n lf_764 rfl ?_
  refine r_iconst (v := nI 2) lf_765 (by decide) ?_
  refine r_iaddN lf_766 ?_
  refine r_sld lf_767 rfl (by omega) (by omega) ?_
  refine r_callV (As := [_, _]) lf_768 (by decide) rfl ko rfl rfl (Nat.le_of_ble_eq_true rfl) ⟨Nat.le_of_ble_eq_true rfl, Nat.le_of_ble_eq_true rfl⟩ (c_M_textS gm1) (kc' := kc) (ks' := ks) (by omega) (by omega) (by decide) ?_
  rintro r σ2 ⟨rfl, gm2, fr⟩
  have h01 : ∀ j, j < 40 → ow1 (o + 1 + j) = 0 := fun j hj => (f1.2 _ (by omega)).trans (h0 j hj)
  have g2 := g1.ref fr h01
  refine r_icmp_eq lf_771 (fun _ => ?_) (fun q => absurd rfl q)
  exact nx σ2 ⟨ow1, ad1, _, g2, gm2, ge, by rw [fr.1]; have := f1.1.1; omega, h01⟩
theorem law_trouble (h : Iv σ c o B) (hk : 6 * k + 6 ≤ d_L D) (hL : d_L D ≤ 3072) (hB : B < 2 ^ 29) (hc : kc + 484 ≤ kc') (hs : ks + 11700 ≤ ks') (nx : ∀ τ, Iv τ c o (B + 200) → GL l D 970 (lsL D c o k) [] τ kc ks) : GL l D 776 (lsL D c o k) [] σ kc' ks' := by
  obtain ⟨ow, ad, S, g, gm, ge, hz, h0⟩ := h
  have kx : h_K σ c = 11 := g.2.1.2.1 (0, 11) (by decide)
  refine r_aload_n lf_776 rfl ?_
  refine r_callV (As := []) lf_777 (by decide) rfl kx rfl rfl (Nat.le_of_ble_eq_true rfl) ⟨Nat.le_of_ble_eq_true rfl, Nat.le_of_ble_eq_true rfl⟩ (c_NK_trouble g hB) (kc' := kc) (ks' := ks) (by omega) (by omega) (by decide) ?_
  rintro r σ1 ⟨rfl, ow1, ad1, g1, f1⟩
  have gm1 := gm.cm f1 hz h0
  have ko : h_K σ1 o = 12 := gm1.1.1
  refine r_aload_n lf_780 rfl ?_
  refine r_callV (As := []) lf_781 (by decide) rfl ko rfl rfl (Nat.le_of_ble_eq_true rfl) ⟨Nat.le_of_ble_eq_true rfl, Nat.le_of_ble_eq_true rfl⟩ (c_M_troubS gm1) (kc' := kc) (ks' := ks) (by omega) (by omega) (by decide) ?_
  rintro r σ2 ⟨rfl, gm2, fr⟩
  have h01 : ∀ j, j < 40 → ow1 (o + 1 + j) = 0 := fun j hj => (f1.2 _ (by omega)).trans (h0 j hj)
  have g2 := g1.ref fr h01
  refine r_icmp_eq lf_784 (fun _ => ?_) (fun q => absurd rfl q)
  exact nx σ2 ⟨ow1, ad1, _, g2, gm2, ge, by rw [fr.1]; have := f1.1.1; omega, h01⟩
theorem law_edition (h : Iv σ c o B) (hk : 6 * k + 6 ≤ d_L D) (hL : d_L D ≤ 3072) (hB : B < 2 ^ 29) (hc : kc + 484 ≤ kc') (hs : ks + 11700 ≤ ks') (nx : ∀ τ, Iv τ c o (B + 200) → GL l D 970 (lsL D c o k) [] τ kc ks) : GL l D 789 (lsL D c o k) [] σ kc' ks' := by
  obtain ⟨ow, ad, S, g, gm, ge, hz, h0⟩ := h
  have kx : h_K σ c = 11 := g.2.1.2.1 (0, 11) (by decide)
  refine r_aload_n lf_789 rfl ?_
  refine r_callV (As := []) lf_790 (by decide) rfl kx rfl rfl (Nat.le_of_ble_eq_true rfl) ⟨Nat.le_of_ble_eq_true rfl, Nat.le_of_ble_eq_true rfl⟩ (c_NK_edition g) (kc' := kc) (ks' := ks) (by omega) (by omega) (by decide) ?_
  rintro r σ1 ⟨rfl, ow1, ad1, g1, f1⟩
  have gm1 := gm.cm f1 hz h0
  have ko : h_K σ1 o = 12 := gm1.1.1
  refine r_aload_n lf_793 rfl ?_
  refine r_callV (As := []) lf_794 (by decide) rfl ko rfl rfl (Nat.le_of_ble_eq_true rfl) ⟨Nat.le_of_ble_eq_true rfl, Nat.le_of_ble_eq_true rfl⟩ (c_M_editS gm1) (kc' := kc) (ks' := ks) (by omega) (by omega) (by decide) ?_
  rintro r σ2 ⟨rfl, gm2, fr⟩
  have h01 : ∀ j, j < 40 → ow1 (o + 1 + j) = 0 := fun j hj => (f1.2 _ (by omega)).trans (h0 j hj)
  have g2 := g1.ref fr h01
  refine r_icmp_eq lf_797 (fun _ => ?_) (fun q => absurd rfl q)
  exact nx σ2 ⟨ow1, ad1, _, g2, gm2, EOk.edit g.1 ge, by rw [fr.1]; have := f1.1.1; omega, h01⟩
theorem law_old (h : Iv σ c o B) (hk : 6 * k + 6 ≤ d_L D) (hL : d_L D ≤ 3072) (hB : B < 2 ^ 29) (hc : kc + 484 ≤ kc') (hs : ks + 11700 ≤ ks') (nx : ∀ τ, Iv τ c o (B + 200) → GL l D 970 (lsL D c o k) [] τ kc ks) : GL l D 802 (lsL D c o k) [] σ kc' ks' := by
  obtain ⟨ow, ad, S, g, gm, ge, hz, h0⟩ := h
  have kx : h_K σ c = 11 := g.2.1.2.1 (0, 11) (by decide)
  refine r_aload_n lf_802 rfl ?_
  refine r_aload_n lf_803 rfl ?_
  refine r_iload_n lf_804 rfl ?_
  refine r_iconst (v := nI 1) lf_805 (by decide) ?_
  refine r_iaddN lf_806 ?_
  refine r_sld lf_807 rfl (by omega) (by omega) ?_
  refine r_aload_n lf_808 rfl ?_
  refine r_iload_n lf_809 rfl ?_
  refine r_iconst (v := nI 2) lf_810 (by decide) ?_
  refine r_iaddN lf_811 ?_
  refine r_sld lf_812 rfl (by omega) (by omega) ?_
  refine r_callV (As := [_, _]) lf_813 (by decide) rfl kx rfl rfl (Nat.le_of_ble_eq_true rfl) ⟨Nat.le_of_ble_eq_true rfl, Nat.le_of_ble_eq_true rfl⟩ (c_NK_old g) (kc' := kc) (ks' := ks) (by omega) (by omega) (by decide) ?_
  rintro r σ1 ⟨rfl, ow1, ad1, g1, f1⟩
  have gm1 := gm.cm f1 hz h0
  have ko : h_K σ1 o = 12 := gm1.1.1
  refine r_aload_n lf_816 rfl ?_
  refine r_aload_n lf_817 rfl ?_
  refine r_iload_n lf_818 rfl ?_
  refine r_iconst (v := nI 1) lf_819 (by decide) ?_
  refine r_iaddN lf_820 ?_
  refine r_sld lf_821 rfl (by omega) (by omega) ?_
  refine r_aload_n lf_822 rfl ?_
  refine r_iload_n lf_823 rfl ?_
  refine r_iconst (v := nI 2) lf_824 (by decide) ?_
  refine r_iaddN lf_825 ?_
  refine r_sld lf_826 rfl (by omega) (by omega) ?_
  refine r_callV (As := [_, _]) lf_827 (by decide) rfl ko rfl rfl (Nat.le_of_ble_eq_true rfl) ⟨Nat.le_of_ble_eq_true rfl, Nat.le_of_ble_eq_true rfl⟩ (c_M_oldS gm1) (kc' := kc) (ks' := ks) (by omega) (by omega) (by decide) ?_
  rintro r σ2 ⟨rfl, gm2, fr⟩
  have h01 : ∀ j, j < 40 → ow1 (o + 1 + j) = 0 := fun j hj => (f1.2 _ (by omega)).trans (h0 j hj)
  have g2 := g1.ref fr h01
  refine r_icmp_eq lf_830 (fun _ => ?_) (fun q => absurd rfl q)
  exact nx σ2 ⟨ow1, ad1, _, g2, gm2, ge.of se_old, by rw [fr.1]; have := f1.1.1; omega, h01⟩
theorem law_leads (h : Iv σ c o B) (hk : 6 * k + 6 ≤ d_L D) (hL : d_L D ≤ 3072) (hB : B < 2 ^ 29) (hc : kc + 484 ≤ kc') (hs : ks + 11700 ≤ ks') (nx : ∀ τ, Iv τ c o (B + 200) → GL l D 970 (lsL D c o k) [] τ kc ks) : GL l D 835 (lsL D c o k) [] σ kc' ks' := by
  obtain ⟨ow, ad, S, g, gm, ge, hz, h0⟩ := h
  have kx : h_K σ c = 11 := g.2.1.2.1 (0, 11) (by decide)
  refine r_aload_n lf_835 rfl ?_
  refine r_aload_n lf_836 rfl ?_
  refine r_iload_n lf_837 rfl ?_
  refine r_iconst (v := nI 1) lf_838 (by decide) ?_
  refine r_iaddN lf_839 ?_
  refine r_sld lf_840 rfl (by omega) (by omega) ?_
  refine r_aload_n lf_841 rfl ?_
  refine r_iload_n lf_842 rfl ?_
  refine r_iconst (v := nI 2) lf_843 (by decide) ?_
  refine r_iaddN lf_844 ?_
  refine r_sld lf_845 rfl (by omega) (by omega) ?_
  refine r_callV (As := [_, _]) lf_846 (by decide) rfl kx rfl rfl (Nat.le_of_ble_eq_true rfl) ⟨Nat.le_of_ble_eq_true rfl, Nat.le_of_ble_eq_true rfl⟩ (c_NK_leads g) (kc' := kc) (ks' := ks) (by omega) (by omega) (by decide) ?_
  rintro r σ1 ⟨rfl, ow1, ad1, g1, f1⟩
  have gm1 := gm.cm f1 hz h0
  have ko : h_K σ1 o = 12 := gm1.1.1
  refine r_aload_n lf_849 rfl ?_
  refine r_aload_n lf_850 rfl ?_
  refine r_iload_n lf_851 rfl ?_
  refine r_iconst (v := nI 1) lf_852 (by decide) ?_
  refine r_iaddN lf_853 ?_
  refine r_sld lf_854 rfl (by omega) (by omega) ?_
  refine r_aload_n lf_855 rfl ?_
  refine r_iload_n lf_856 rfl ?_
  refine r_iconst (v := nI 2) lf_857 (by decide) ?_
  refine r_iaddN lf_858 ?_
  refine r_sld lf_859 rfl (by omega) (by omega) ?_
  refine r_callV (As := [_, _]) lf_860 (by decide) rfl ko rfl rfl (Nat.le_of_ble_eq_true rfl) ⟨Nat.le_of_ble_eq_true rfl, Nat.le_of_ble_eq_true rfl⟩ (c_M_leadsS gm1) (kc' := kc) (ks' := ks) (by omega) (by omega) (by decide) ?_
  rintro r σ2 ⟨rfl, gm2, fr⟩
  have h01 : ∀ j, j < 40 → ow1 (o + 1 + j) = 0 := fun j hj => (f1.2 _ (by omega)).trans (h0 j hj)
  have g2 := g1.ref fr h01
  refine r_icmp_eq lf_863 (fun _ => ?_) (fun q => absurd rfl q)
  exact nx σ2 ⟨ow1, ad1, _, g2, gm2, ge, by rw [fr.1]; have := f1.1.1; omega, h01⟩
theorem law_changed (h : Iv σ c o B) (hk : 6 * k + 6 ≤ d_L D) (hL : d_L D ≤ 3072) (hB : B < 2 ^ 29) (hc : kc + 484 ≤ kc') (hs : ks + 11700 ≤ ks') (nx : ∀ τ, Iv τ c o (B + 200) → GL l D 970 (lsL D c o k) [] τ kc ks) : GL l D 868 (lsL D c o k) [] σ kc' ks' := by
  obtain ⟨ow, ad, S, g, gm, ge, hz, h0⟩ := h
  have kx : h_K σ c = 11 := g.2.1.2.1 (0, 11) (by decide)
  refine r_aload_n lf_868 rfl ?_
  refine r_aload_n lf_869 rfl ?_
  refine r_iload_n lf_870 rfl ?_
  refine r_iconst (v := nI 1) lf_871 (by decide) ?_
  refine r_iaddN lf_872 ?_
  refine r_sld lf_873 rfl (by omega) (by omega) ?_
  refine r_callV (As := [_]) lf_874 (by decide) rfl kx rfl rfl (Nat.le_of_ble_eq_true rfl) ⟨Nat.le_of_ble_eq_true rfl, Nat.le_of_ble_eq_true rfl⟩ (c_NK_changed g) (kc' := kc) (ks' := ks) (by omega) (by omega) (by decide) ?_
  rintro r σ1 ⟨rfl, ow1, ad1, g1, f1⟩
  have gm1 := gm.cm f1 hz h0
  have ko : h_K σ1 o = 12 := gm1.1.1
  refine r_aload_n lf_877 rfl ?_
  refine r_aload_n lf_878 rfl ?_
  refine r_iload_n lf_879 rfl ?_
  refine r_iconst (v := nI 1) lf_880 (by decide) ?_
  refine r_iaddN lf_881 ?_
  refine r_sld lf_882 rfl (by omega) (by omega) ?_
  refine r_callV (As := [_]) lf_883 (by decide) rfl ko rfl rfl (Nat.le_of_ble_eq_true rfl) ⟨Nat.le_of_ble_eq_true rfl, Nat.le_of_ble_eq_true rfl⟩ (c_M_chanS gm1) (kc' := kc) (ks' := ks) (by omega) (by omega) (by decide) ?_
  rintro r σ2 ⟨rfl, gm2, fr⟩
  have h01 : ∀ j, j < 40 → ow1 (o + 1 + j) = 0 := fun j hj => (f1.2 _ (by omega)).trans (h0 j hj)
  have g2 := g1.ref fr h01
  refine r_icmp_eq lf_886 (fun _ => ?_) (fun q => absurd rfl q)
  exact nx σ2 ⟨ow1, ad1, _, g2, gm2, ge, by rw [fr.1]; have := f1.1.1; omega, h01⟩
theorem law_read (h : Iv σ c o B) (hk : 6 * k + 6 ≤ d_L D) (hL : d_L D ≤ 3072) (hB : B < 2 ^ 29) (hc : kc + 484 ≤ kc') (hs : ks + 11700 ≤ ks') (nx : ∀ τ, Iv τ c o (B + 200) → GL l D 970 (lsL D c o k) [] τ kc ks) : GL l D 891 (lsL D c o k) [] σ kc' ks' := by
  obtain ⟨ow, ad, S, g, gm, ge, hz, h0⟩ := h
  have kx : h_K σ c = 11 := g.2.1.2.1 (0, 11) (by decide)
  refine r_aload_n lf_891 rfl ?_
  refine r_aload_n lf_892 rfl ?_
  refine r_iload_n lf_893 rfl ?_
  refine r_iconst (v := nI 1) lf_894 (by decide) ?_
  refine r_iaddN lf_895 ?_
  refine r_sld lf_896 rfl (by omega) (by omega) ?_
  refine r_callV (As := [_]) lf_897 (by decide) rfl kx rfl rfl (Nat.le_of_ble_eq_true rfl) ⟨Nat.le_of_ble_eq_true rfl, Nat.le_of_ble_eq_true rfl⟩ (c_NK_read g) (kc' := kc) (ks' := ks) (by omega) (by omega) (by decide) ?_
  rintro r σ1 ⟨rfl, ow1, ad1, g1, f1⟩
  have gm1 := gm.cm f1 hz h0
  have ko : h_K σ1 o = 12 := gm1.1.1
  refine r_aload_n lf_900 rfl ?_
  refine r_aload_n lf_901 rfl ?_
  refine r_iload_n lf_902 rfl ?_
  refine r_iconst (v := nI 1) lf_903 (by decide) ?_
  refine r_iaddN lf_904 ?_
  refine r_sld lf_905 rfl (by omega) (by omega) ?_
  refine r_callV (As := [_]) lf_906 (by decide) rfl ko rfl rfl (Nat.le_of_ble_eq_true rfl) ⟨Nat.le_of_ble_eq_true rfl, Nat.le_of_ble_eq_true rfl⟩ (c_M_readS gm1) (kc' := kc) (ks' := ks) (by omega) (by omega) (by decide) ?_
  rintro r σ2 ⟨rfl, gm2, fr⟩
  have h01 : ∀ j, j < 40 → ow1 (o + 1 + j) = 0 := fun j hj => (f1.2 _ (by omega)).trans (h0 j hj)
  have g2 := g1.ref fr h01
  refine r_icmp_eq lf_909 (fun _ => ?_) (fun q => absurd rfl q)
  exact nx σ2 ⟨ow1, ad1, _, g2, gm2, ge.of se_read, by rw [fr.1]; have := f1.1.1; omega, h01⟩
theorem law_finding (h : Iv σ c o B) (hk : 6 * k + 6 ≤ d_L D) (hL : d_L D ≤ 3072) (hB : B < 2 ^ 29) (hc : kc + 484 ≤ kc') (hs : ks + 11700 ≤ ks') (nx : ∀ τ, Iv τ c o (B + 200) → GL l D 970 (lsL D c o k) [] τ kc ks) : GL l D 914 (lsL D c o k) [] σ kc' ks' := by
  obtain ⟨ow, ad, S, g, gm, ge, hz, h0⟩ := h
  have kx : h_K σ c = 11 := g.2.1.2.1 (0, 11) (by decide)
  refine r_aload_n lf_914 rfl ?_
  refine r_aload_n lf_915 rfl ?_
  refine r_iload_n lf_916 rfl ?_
  refine r_iconst (v := nI 1) lf_917 (by decide) ?_
  refine r_iaddN lf_918 ?_
  refine r_sld lf_919 rfl (by omega) (by omega) ?_
  refine r_aload_n lf_920 rfl ?_
  refine r_iload_n lf_921 rfl ?_
  refine r_iconst (v := nI 2) lf_922 (by decide) ?_
  refine r_iaddN lf_923 ?_
  refine r_sld lf_924 rfl (by omega) (by omega) ?_
  refine r_callV (As := [_, _]) lf_925 (by decide) rfl kx rfl rfl (Nat.le_of_ble_eq_true rfl) ⟨Nat.le_of_ble_eq_true rfl, Nat.le_of_ble_eq_true rfl⟩ (c_NK_find g) (kc' := kc) (ks' := ks) (by omega) (by omega) (by decide) ?_
  rintro r σ1 ⟨rfl, ow1, ad1, g1, f1⟩
  have gm1 := gm.cm f1 hz h0
  have ko : h_K σ1 o = 12 := gm1.1.1
  refine r_aload_n lf_928 rfl ?_
  refine r_aload_n lf_929 rfl ?_
  refine r_iload_n lf_930 rfl ?_
  refine r_iconst (v := nI 1) lf_931 (by decide) ?_
  refine r_iaddN lf_932 ?_
  refine r_sld lf_933 rfl (by omega) (by omega) ?_
  refine r_aload_n lf_934 rfl ?_
  refine r_iload_n lf_935 rfl ?_
  refine r_iconst (v := nI 2) lf_936 (by decide) ?_
  refine r_iaddN lf_937 ?_
  refine r_sld lf_938 rfl (by omega) (by omega) ?_
  refine r_callV (As := [_, _]) lf_939 (by decide) rfl ko rfl rfl (Nat.le_of_ble_eq_true rfl) ⟨Nat.le_of_ble_eq_true rfl, Nat.le_of_ble_eq_true rfl⟩ (c_M_findS gm1) (kc' := kc) (ks' := ks) (by omega) (by omega) (by decide) ?_
  rintro r σ2 ⟨rfl, gm2, fr⟩
  have h01 : ∀ j, j < 40 → ow1 (o + 1 + j) = 0 := fun j hj => (f1.2 _ (by omega)).trans (h0 j hj)
  have g2 := g1.ref fr h01
  refine r_icmp_eq lf_942 (fun _ => ?_) (fun q => absurd rfl q)
  exact nx σ2 ⟨ow1, ad1, _, g2, gm2, ge, by rw [fr.1]; have := f1.1.1; omega, h01⟩
theorem law_count (h : Iv σ c o B) (hk : 6 * k + 6 ≤ d_L D) (hL : d_L D ≤ 3072) (hB : B < 2 ^ 29) (hc : kc + 484 ≤ kc') (hs : ks + 11700 ≤ ks') (nx : ∀ τ, Iv τ c o (B + 200) → GL l D 970 (lsL D c o k) [] τ kc ks) : GL l D 947 (lsL D c o k) [] σ kc' ks' := by
  obtain ⟨ow, ad, S, g, gm, ge, hz, h0⟩ := h
  have kx : h_K σ c = 11 := g.2.1.2.1 (0, 11) (by decide)
  refine r_aload_n lf_947 rfl ?_
  refine r_aload_n lf_948 rfl ?_
  refine r_iload_n lf_949 rfl ?_
  refine r_iconst (v := nI 1) lf_950 (by decide) ?_
  refine r_iaddN lf_951 ?_
  refine r_sld lf_952 rfl (by omega) (by omega) ?_
  refine r_callV (As := [_]) lf_953 (by decide) rfl kx rfl rfl (Nat.le_of_ble_eq_true rfl) ⟨Nat.le_of_ble_eq_true rfl, Nat.le_of_ble_eq_true rfl⟩ (c_NK_count g) (kc' := kc) (ks' := ks) (by omega) (by omega) (by decide) ?_
  rintro r σ1 ⟨rfl, ow1, ad1, g1, f1⟩
  have gm1 := gm.cm f1 hz h0
  have ko : h_K σ1 o = 12 := gm1.1.1
  refine r_aload_n lf_956 rfl ?_
  refine r_aload_n lf_957 rfl ?_
  refine r_iload_n lf_958 rfl ?_
  refine r_iconst (v := nI 1) lf_959 (by decide) ?_
  refine r_iaddN lf_960 ?_
  refine r_sld lf_961 rfl (by omega) (by omega) ?_
  refine r_callV (As := [_]) lf_962 (by decide) rfl ko rfl rfl (Nat.le_of_ble_eq_true rfl) ⟨Nat.le_of_ble_eq_true rfl, Nat.le_of_ble_eq_true rfl⟩ (c_M_countS gm1) (kc' := kc) (ks' := ks) (by omega) (by omega) (by decide) ?_
  rintro r σ2 ⟨rfl, gm2, fr⟩
  have h01 : ∀ j, j < 40 → ow1 (o + 1 + j) = 0 := fun j hj => (f1.2 _ (by omega)).trans (h0 j hj)
  have g2 := g1.ref fr h01
  refine r_icmp_eq lf_965 (fun _ => ?_) (fun q => absurd rfl q)
  exact nx σ2 ⟨ow1, ad1, _, g2, gm2, ge, by rw [fr.1]; have := f1.1.1; omega, h01⟩
end LC
