/-! PRINTED BY wip/whole/gen_law.py: the cases of the law -/
theorem SL_122 : am_SL 122 = 49471 := by decide +kernel
theorem fit_L {N : MI} {R : HR} (hs : Stat R) (hg : am_g R ≤ 600) (h1 : N.2.2.2.2.2.1 = 0) (h2 : N.2.2.2.2.2.2 = 0) : am_fit M_L_law N RZ R := by
  have e1 : M_L_law.2.2.2.2.2.1 = 601024 := rfl
  have e2 : M_L_law.2.2.2.2.2.2 = 7293034 := rfl
  have e3 := SL_122
  simp only [am_fit, h1, h2, am_cc, am_sc, hs.n, e1, e2, e3]
  omega
section LC
variable {L i : Nat} {xs : Nat → Int32} {Q : PQ} {K : KT} {I : HI} {J : HJ} {R : HR}
set_option maxHeartbeats 1000000 in
theorem lc_184 (hK : am_R M_L_law (am_W 64) (some (L, xs)) RZ Q K) (hL : L ≤ 3584) (hi : i + 7 ≤ L) (hs : Stat R) (hg : am_g R ≤ 600) (h : asks M_X11_feed M_X12_feed [.int (xs (i + 1)), .int (xs (i + 2)), .int (xs (i + 3)), .int (xs (i + 4)), .int (xs (i + 5))] I J R) (hn : ∀ I2 J2 R2, TOP I2 J2 R2 → am_g R2 = am_g R → K 1473 [(4, .int (nI i)), (3, .ref 121), (2, .ref 80), (1, .ref 0), (0, .ref 999)] [] I2 J2 R2) : K 184 [(4, .int (nI i)), (3, .ref 121), (2, .ref 80), (1, .ref 0), (0, .ref 999)] [] I J R := by
  refine k_ld hK 3 dL_law_184 rfl rfl rfl rfl ?_
  refine k_ld hK 4 dL_law_185 rfl rfl rfl rfl ?_
  refine k_ld hK 0 dL_law_186 rfl rfl rfl rfl ?_
  refine k_ic hK dL_law_188 (v := nI 1) rfl ?_
  refine k_op hK dL_law_189 rfl rfl ?_
  refine k_sld hK dL_law_190 rfl (by omega) (nI_add i 1) (by omega) ?_
  refine k_ld hK 4 dL_law_191 rfl rfl rfl rfl ?_
  refine k_ld hK 0 dL_law_192 rfl rfl rfl rfl ?_
  refine k_ic hK dL_law_194 (v := nI 2) rfl ?_
  refine k_op hK dL_law_195 rfl rfl ?_
  refine k_sld hK dL_law_196 rfl (by omega) (nI_add i 2) (by omega) ?_
  refine k_ld hK 4 dL_law_197 rfl rfl rfl rfl ?_
  refine k_ld hK 0 dL_law_198 rfl rfl rfl rfl ?_
  refine k_ic hK dL_law_200 (v := nI 3) rfl ?_
  refine k_op hK dL_law_201 rfl rfl ?_
  refine k_sld hK dL_law_202 rfl (by omega) (nI_add i 3) (by omega) ?_
  refine k_ld hK 4 dL_law_203 rfl rfl rfl rfl ?_
  refine k_ld hK 0 dL_law_204 rfl rfl rfl rfl ?_
  refine k_ic hK dL_law_206 (v := nI 4) rfl ?_
  refine k_op hK dL_law_207 rfl rfl ?_
  refine k_sld hK dL_law_208 rfl (by omega) (nI_add i 4) (by omega) ?_
  refine k_ld hK 4 dL_law_209 rfl rfl rfl rfl ?_
  refine k_ld hK 0 dL_law_210 rfl rfl rfl rfl ?_
  refine k_ic hK dL_law_212 (v := nI 5) rfl ?_
  refine k_op hK dL_law_213 rfl rfl ?_
  refine k_sld hK dL_law_214 rfl (by omega) (nI_add i 5) (by omega) ?_
  refine k_cV hK dL_law_215 (Or.inl lm_L_21) (As := [.int (xs (i + 1)), .int (xs (i + 2)), .int (xs (i + 3)), .int (xs (i + 4)), .int (xs (i + 5))]) (S := []) rfl (sc_0 hs) (by decide) (fit_L hs hg rfl rfl) rfl h ?_
  rintro r I1 J1 R1 ⟨V, rfl, hs1, hg1, h1⟩
  show K _ _ [.int V] I1 J1 R1
  refine k_ld hK 2 dL_law_218 rfl rfl rfl rfl ?_
  refine k_ld hK 4 dL_law_219 rfl rfl rfl rfl ?_
  refine k_ld hK 0 dL_law_220 rfl rfl rfl rfl ?_
  refine k_ic hK dL_law_222 (v := nI 1) rfl ?_
  refine k_op hK dL_law_223 rfl rfl ?_
  refine k_sld hK dL_law_224 rfl (by omega) (nI_add i 1) (by omega) ?_
  refine k_ld hK 4 dL_law_225 rfl rfl rfl rfl ?_
  refine k_ld hK 0 dL_law_226 rfl rfl rfl rfl ?_
  refine k_ic hK dL_law_228 (v := nI 2) rfl ?_
  refine k_op hK dL_law_229 rfl rfl ?_
  refine k_sld hK dL_law_230 rfl (by omega) (nI_add i 2) (by omega) ?_
  refine k_ld hK 4 dL_law_231 rfl rfl rfl rfl ?_
  refine k_ld hK 0 dL_law_232 rfl rfl rfl rfl ?_
  refine k_ic hK dL_law_234 (v := nI 3) rfl ?_
  refine k_op hK dL_law_235 rfl rfl ?_
  refine k_sld hK dL_law_236 rfl (by omega) (nI_add i 3) (by omega) ?_
  refine k_ld hK 4 dL_law_237 rfl rfl rfl rfl ?_
  refine k_ld hK 0 dL_law_238 rfl rfl rfl rfl ?_
  refine k_ic hK dL_law_240 (v := nI 4) rfl ?_
  refine k_op hK dL_law_241 rfl rfl ?_
  refine k_sld hK dL_law_242 rfl (by omega) (nI_add i 4) (by omega) ?_
  refine k_ld hK 4 dL_law_243 rfl rfl rfl rfl ?_
  refine k_ld hK 0 dL_law_244 rfl rfl rfl rfl ?_
  refine k_ic hK dL_law_246 (v := nI 5) rfl ?_
  refine k_op hK dL_law_247 rfl rfl ?_
  refine k_sld hK dL_law_248 rfl (by omega) (nI_add i 5) (by omega) ?_
  refine k_cV hK dL_law_249 (Or.inl lm_L_25) (As := [.int (xs (i + 1)), .int (xs (i + 2)), .int (xs (i + 3)), .int (xs (i + 4)), .int (xs (i + 5))]) (S := [.int V]) rfl (sc_80 hs1) (Nat.le_of_ble_eq_true rfl) (fit_L hs1 (by rw [hg1]; exact hg) rfl rfl) rfl h1 ?_
  rintro r2 I2 J2 R2 ⟨rfl, hg2, ht⟩
  show K _ _ [.int V, .int V] I2 J2 R2
  exact k_ceq hK dL_law_252 (tgt := 1473) rfl (fun _ => hn I2 J2 R2 ht hg2) (fun z => absurd rfl z)
set_option maxHeartbeats 1000000 in
theorem lc_257 (hK : am_R M_L_law (am_W 64) (some (L, xs)) RZ Q K) (hL : L ≤ 3584) (hi : i + 7 ≤ L) (hs : Stat R) (hg : am_g R ≤ 600) (h : asks M_X11_text M_X12_text [.int (xs (i + 1))] I J R) (hn : ∀ I2 J2 R2, TOP I2 J2 R2 → am_g R2 = am_g R → K 1473 [(4, .int (nI i)), (3, .ref 121), (2, .ref 80), (1, .ref 0), (0, .ref 999)] [] I2 J2 R2) : K 257 [(4, .int (nI i)), (3, .ref 121), (2, .ref 80), (1, .ref 0), (0, .ref 999)] [] I J R := by
  refine k_ld hK 3 dL_law_257 rfl rfl rfl rfl ?_
  refine k_ld hK 4 dL_law_258 rfl rfl rfl rfl ?_
  refine k_ld hK 0 dL_law_259 rfl rfl rfl rfl ?_
  refine k_ic hK dL_law_261 (v := nI 1) rfl ?_
  refine k_op hK dL_law_262 rfl rfl ?_
  refine k_sld hK dL_law_263 rfl (by omega) (nI_add i 1) (by omega) ?_
  refine k_cV hK dL_law_264 (Or.inl lm_L_26) (As := [.int (xs (i + 1))]) (S := []) rfl (sc_0 hs) (by decide) (fit_L hs hg rfl rfl) rfl h ?_
  rintro r I1 J1 R1 ⟨V, rfl, hs1, hg1, h1⟩
  show K _ _ [.int V] I1 J1 R1
  refine k_ld hK 2 dL_law_267 rfl rfl rfl rfl ?_
  refine k_ld hK 4 dL_law_268 rfl rfl rfl rfl ?_
  refine k_ld hK 0 dL_law_269 rfl rfl rfl rfl ?_
  refine k_ic hK dL_law_271 (v := nI 1) rfl ?_
  refine k_op hK dL_law_272 rfl rfl ?_
  refine k_sld hK dL_law_273 rfl (by omega) (nI_add i 1) (by omega) ?_
  refine k_cV hK dL_law_274 (Or.inl lm_L_30) (As := [.int (xs (i + 1))]) (S := [.int V]) rfl (sc_80 hs1) (Nat.le_of_ble_eq_true rfl) (fit_L hs1 (by rw [hg1]; exact hg) rfl rfl) rfl h1 ?_
  rintro r2 I2 J2 R2 ⟨rfl, hg2, ht⟩
  show K _ _ [.int V, .int V] I2 J2 R2
  exact k_ceq hK dL_law_277 (tgt := 1473) rfl (fun _ => hn I2 J2 R2 ht hg2) (fun z => absurd rfl z)
set_option maxHeartbeats 1000000 in
theorem lc_282 (hK : am_R M_L_law (am_W 64) (some (L, xs)) RZ Q K) (hL : L ≤ 3584) (hi : i + 7 ≤ L) (hs : Stat R) (hg : am_g R ≤ 600) (h : asks M_X11_fault M_X12_fault [.int (xs (i + 1))] I J R) (hn : ∀ I2 J2 R2, TOP I2 J2 R2 → am_g R2 = am_g R → K 1473 [(4, .int (nI i)), (3, .ref 121), (2, .ref 80), (1, .ref 0), (0, .ref 999)] [] I2 J2 R2) : K 282 [(4, .int (nI i)), (3, .ref 121), (2, .ref 80), (1, .ref 0), (0, .ref 999)] [] I J R := by
  refine k_ld hK 3 dL_law_282 rfl rfl rfl rfl ?_
  refine k_ld hK 4 dL_law_283 rfl rfl rfl rfl ?_
  refine k_ld hK 0 dL_law_284 rfl rfl rfl rfl ?_
  refine k_ic hK dL_law_286 (v := nI 1) rfl ?_
  refine k_op hK dL_law_287 rfl rfl ?_
  refine k_sld hK dL_law_288 rfl (by omega) (nI_add i 1) (by omega) ?_
  refine k_cV hK dL_law_289 (Or.inl lm_L_31) (As := [.int (xs (i + 1))]) (S := []) rfl (sc_0 hs) (by decide) (fit_L hs hg rfl rfl) rfl h ?_
  rintro r I1 J1 R1 ⟨V, rfl, hs1, hg1, h1⟩
  show K _ _ [.int V] I1 J1 R1
  refine k_ld hK 2 dL_law_292 rfl rfl rfl rfl ?_
  refine k_ld hK 4 dL_law_293 rfl rfl rfl rfl ?_
  refine k_ld hK 0 dL_law_294 rfl rfl rfl rfl ?_
  refine k_ic hK dL_law_296 (v := nI 1) rfl ?_
  refine k_op hK dL_law_297 rfl rfl ?_
  refine k_sld hK dL_law_298 rfl (by omega) (nI_add i 1) (by omega) ?_
  refine k_cV hK dL_law_299 (Or.inl lm_L_34) (As := [.int (xs (i + 1))]) (S := [.int V]) rfl (sc_80 hs1) (Nat.le_of_ble_eq_true rfl) (fit_L hs1 (by rw [hg1]; exact hg) rfl rfl) rfl h1 ?_
  rintro r2 I2 J2 R2 ⟨rfl, hg2, ht⟩
  show K _ _ [.int V, .int V] I2 J2 R2
  exact k_ceq hK dL_law_302 (tgt := 1473) rfl (fun _ => hn I2 J2 R2 ht hg2) (fun z => absurd rfl z)
set_option maxHeartbeats 1000000 in
theorem lc_307 (hK : am_R M_L_law (am_W 64) (some (L, xs)) RZ Q K) (hL : L ≤ 3584) (hi : i + 7 ≤ L) (hs : Stat R) (hg : am_g R ≤ 600) (h : asks M_X11_set M_X12_set [.int (xs (i + 1)), .int (xs (i + 2)), .int (xs (i + 3))] I J R) (hn : ∀ I2 J2 R2, TOP I2 J2 R2 → am_g R2 = am_g R → K 1473 [(4, .int (nI i)), (3, .ref 121), (2, .ref 80), (1, .ref 0), (0, .ref 999)] [] I2 J2 R2) : K 307 [(4, .int (nI i)), (3, .ref 121), (2, .ref 80), (1, .ref 0), (0, .ref 999)] [] I J R := by
  refine k_ld hK 3 dL_law_307 rfl rfl rfl rfl ?_
  refine k_ld hK 4 dL_law_308 rfl rfl rfl rfl ?_
  refine k_ld hK 0 dL_law_309 rfl rfl rfl rfl ?_
  refine k_ic hK dL_law_311 (v := nI 1) rfl ?_
  refine k_op hK dL_law_312 rfl rfl ?_
  refine k_sld hK dL_law_313 rfl (by omega) (nI_add i 1) (by omega) ?_
  refine k_ld hK 4 dL_law_314 rfl rfl rfl rfl ?_
  refine k_ld hK 0 dL_law_315 rfl rfl rfl rfl ?_
  refine k_ic hK dL_law_317 (v := nI 2) rfl ?_
  refine k_op hK dL_law_318 rfl rfl ?_
  refine k_sld hK dL_law_319 rfl (by omega) (nI_add i 2) (by omega) ?_
  refine k_ld hK 4 dL_law_320 rfl rfl rfl rfl ?_
  refine k_ld hK 0 dL_law_321 rfl rfl rfl rfl ?_
  refine k_ic hK dL_law_323 (v := nI 3) rfl ?_
  refine k_op hK dL_law_324 rfl rfl ?_
  refine k_sld hK dL_law_325 rfl (by omega) (nI_add i 3) (by omega) ?_
  refine k_cV hK dL_law_326 (Or.inl lm_L_35) (As := [.int (xs (i + 1)), .int (xs (i + 2)), .int (xs (i + 3))]) (S := []) rfl (sc_0 hs) (by decide) (fit_L hs hg rfl rfl) rfl h ?_
  rintro r I1 J1 R1 ⟨V, rfl, hs1, hg1, h1⟩
  show K _ _ [.int V] I1 J1 R1
  refine k_ld hK 2 dL_law_329 rfl rfl rfl rfl ?_
  refine k_ld hK 4 dL_law_330 rfl rfl rfl rfl ?_
  refine k_ld hK 0 dL_law_331 rfl rfl rfl rfl ?_
  refine k_ic hK dL_law_333 (v := nI 1) rfl ?_
  refine k_op hK dL_law_334 rfl rfl ?_
  refine k_sld hK dL_law_335 rfl (by omega) (nI_add i 1) (by omega) ?_
  refine k_ld hK 4 dL_law_336 rfl rfl rfl rfl ?_
  refine k_ld hK 0 dL_law_337 rfl rfl rfl rfl ?_
  refine k_ic hK dL_law_339 (v := nI 2) rfl ?_
  refine k_op hK dL_law_340 rfl rfl ?_
  refine k_sld hK dL_law_341 rfl (by omega) (nI_add i 2) (by omega) ?_
  refine k_ld hK 4 dL_law_342 rfl rfl rfl rfl ?_
  refine k_ld hK 0 dL_law_343 rfl rfl rfl rfl ?_
  refine k_ic hK dL_law_345 (v := nI 3) rfl ?_
  refine k_op hK dL_law_346 rfl rfl ?_
  refine k_sld hK dL_law_347 rfl (by omega) (nI_add i 3) (by omega) ?_
  refine k_cV hK dL_law_348 (Or.inl lm_L_39) (As := [.int (xs (i + 1)), .int (xs (i + 2)), .int (xs (i + 3))]) (S := [.int V]) rfl (sc_80 hs1) (Nat.le_of_ble_eq_true rfl) (fit_L hs1 (by rw [hg1]; exact hg) rfl rfl) rfl h1 ?_
  rintro r2 I2 J2 R2 ⟨rfl, hg2, ht⟩
  show K _ _ [.int V, .int V] I2 J2 R2
  exact k_ceq hK dL_law_351 (tgt := 1473) rfl (fun _ => hn I2 J2 R2 ht hg2) (fun z => absurd rfl z)
set_option maxHeartbeats 1000000 in
theorem lc_424 (hK : am_R M_L_law (am_W 64) (some (L, xs)) RZ Q K) (hL : L ≤ 3584) (hi : i + 7 ≤ L) (hs : Stat R) (hg : am_g R ≤ 600) (h : asks M_X11_row M_X12_row [.int (xs (i + 1)), .int (xs (i + 2))] I J R) (hn : ∀ I2 J2 R2, TOP I2 J2 R2 → am_g R2 = am_g R → K 1473 [(4, .int (nI i)), (3, .ref 121), (2, .ref 80), (1, .ref 0), (0, .ref 999)] [] I2 J2 R2) : K 424 [(4, .int (nI i)), (3, .ref 121), (2, .ref 80), (1, .ref 0), (0, .ref 999)] [] I J R := by
  refine k_ld hK 3 dL_law_424 rfl rfl rfl rfl ?_
  refine k_ld hK 4 dL_law_425 rfl rfl rfl rfl ?_
  refine k_ld hK 0 dL_law_426 rfl rfl rfl rfl ?_
  refine k_ic hK dL_law_428 (v := nI 1) rfl ?_
  refine k_op hK dL_law_429 rfl rfl ?_
  refine k_sld hK dL_law_430 rfl (by omega) (nI_add i 1) (by omega) ?_
  refine k_ld hK 4 dL_law_431 rfl rfl rfl rfl ?_
  refine k_ld hK 0 dL_law_432 rfl rfl rfl rfl ?_
  refine k_ic hK dL_law_434 (v := nI 2) rfl ?_
  refine k_op hK dL_law_435 rfl rfl ?_
  refine k_sld hK dL_law_436 rfl (by omega) (nI_add i 2) (by omega) ?_
  refine k_cV hK dL_law_437 (Or.inl lm_L_50) (As := [.int (xs (i + 1)), .int (xs (i + 2))]) (S := []) rfl (sc_0 hs) (by decide) (fit_L hs hg rfl rfl) rfl h ?_
  rintro r I1 J1 R1 ⟨V, rfl, hs1, hg1, h1⟩
  show K _ _ [.int V] I1 J1 R1
  refine k_ld hK 2 dL_law_440 rfl rfl rfl rfl ?_
  refine k_ld hK 4 dL_law_441 rfl rfl rfl rfl ?_
  refine k_ld hK 0 dL_law_442 rfl rfl rfl rfl ?_
  refine k_ic hK dL_law_444 (v := nI 1) rfl ?_
  refine k_op hK dL_law_445 rfl rfl ?_
  refine k_sld hK dL_law_446 rfl (by omega) (nI_add i 1) (by omega) ?_
  refine k_ld hK 4 dL_law_447 rfl rfl rfl rfl ?_
  refine k_ld hK 0 dL_law_448 rfl rfl rfl rfl ?_
  refine k_ic hK dL_law_450 (v := nI 2) rfl ?_
  refine k_op hK dL_law_451 rfl rfl ?_
  refine k_sld hK dL_law_452 rfl (by omega) (nI_add i 2) (by omega) ?_
  refine k_cV hK dL_law_453 (Or.inl lm_L_53) (As := [.int (xs (i + 1)), .int (xs (i + 2))]) (S := [.int V]) rfl (sc_80 hs1) (Nat.le_of_ble_eq_true rfl) (fit_L hs1 (by rw [hg1]; exact hg) rfl rfl) rfl h1 ?_
  rintro r2 I2 J2 R2 ⟨rfl, hg2, ht⟩
  show K _ _ [.int V, .int V] I2 J2 R2
  exact k_ceq hK dL_law_456 (tgt := 1473) rfl (fun _ => hn I2 J2 R2 ht hg2) (fun z => absurd rfl z)
set_option maxHeartbeats 1000000 in
theorem lc_461 (hK : am_R M_L_law (am_W 64) (some (L, xs)) RZ Q K) (hL : L ≤ 3584) (hi : i + 7 ≤ L) (hs : Stat R) (hg : am_g R ≤ 600) (h : asks M_X11_variable M_X12_variable [.int (xs (i + 1)), .int (xs (i + 2))] I J R) (hn : ∀ I2 J2 R2, TOP I2 J2 R2 → am_g R2 = am_g R → K 1473 [(4, .int (nI i)), (3, .ref 121), (2, .ref 80), (1, .ref 0), (0, .ref 999)] [] I2 J2 R2) : K 461 [(4, .int (nI i)), (3, .ref 121), (2, .ref 80), (1, .ref 0), (0, .ref 999)] [] I J R := by
  refine k_ld hK 3 dL_law_461 rfl rfl rfl rfl ?_
  refine k_ld hK 4 dL_law_462 rfl rfl rfl rfl ?_
  refine k_ld hK 0 dL_law_463 rfl rfl rfl rfl ?_
  refine k_ic hK dL_law_465 (v := nI 1) rfl ?_
  refine k_op hK dL_law_466 rfl rfl ?_
  refine k_sld hK dL_law_467 rfl (by omega) (nI_add i 1) (by omega) ?_
  refine k_ld hK 4 dL_law_468 rfl rfl rfl rfl ?_
  refine k_ld hK 0 dL_law_469 rfl rfl rfl rfl ?_
  refine k_ic hK dL_law_471 (v := nI 2) rfl ?_
  refine k_op hK dL_law_472 rfl rfl ?_
  refine k_sld hK dL_law_473 rfl (by omega) (nI_add i 2) (by omega) ?_
  refine k_cV hK dL_law_474 (Or.inl lm_L_54) (As := [.int (xs (i + 1)), .int (xs (i + 2))]) (S := []) rfl (sc_0 hs) (by decide) (fit_L hs hg rfl rfl) rfl h ?_
  rintro r I1 J1 R1 ⟨V, rfl, hs1, hg1, h1⟩
  show K _ _ [.int V] I1 J1 R1
  refine k_ld hK 2 dL_law_477 rfl rfl rfl rfl ?_
  refine k_ld hK 4 dL_law_478 rfl rfl rfl rfl ?_
  refine k_ld hK 0 dL_law_479 rfl rfl rfl rfl ?_
  refine k_ic hK dL_law_481 (v := nI 1) rfl ?_
  refine k_op hK dL_law_482 rfl rfl ?_
  refine k_sld hK dL_law_483 rfl (by omega) (nI_add i 1) (by omega) ?_
  refine k_ld hK 4 dL_law_484 rfl rfl rfl rfl ?_
  refine k_ld hK 0 dL_law_485 rfl rfl rfl rfl ?_
  refine k_ic hK dL_law_487 (v := nI 2) rfl ?_
  refine k_op hK dL_law_488 rfl rfl ?_
  refine k_sld hK dL_law_489 rfl (by omega) (nI_add i 2) (by omega) ?_
  refine k_cV hK dL_law_490 (Or.inl lm_L_57) (As := [.int (xs (i + 1)), .int (xs (i + 2))]) (S := [.int V]) rfl (sc_80 hs1) (Nat.le_of_ble_eq_true rfl) (fit_L hs1 (by rw [hg1]; exact hg) rfl rfl) rfl h1 ?_
  rintro r2 I2 J2 R2 ⟨rfl, hg2, ht⟩
  show K _ _ [.int V, .int V] I2 J2 R2
  exact k_ceq hK dL_law_493 (tgt := 1473) rfl (fun _ => hn I2 J2 R2 ht hg2) (fun z => absurd rfl z)
set_option maxHeartbeats 1000000 in
theorem lc_498 (hK : am_R M_L_law (am_W 64) (some (L, xs)) RZ Q K) (hL : L ≤ 3584) (hi : i + 7 ≤ L) (hs : Stat R) (hg : am_g R ≤ 600) (h : asks M_X11_cell M_X12_cell [.int (xs (i + 1)), .int (xs (i + 2))] I J R) (hn : ∀ I2 J2 R2, TOP I2 J2 R2 → am_g R2 = am_g R → K 1473 [(4, .int (nI i)), (3, .ref 121), (2, .ref 80), (1, .ref 0), (0, .ref 999)] [] I2 J2 R2) : K 498 [(4, .int (nI i)), (3, .ref 121), (2, .ref 80), (1, .ref 0), (0, .ref 999)] [] I J R := by
  refine k_ld hK 3 dL_law_498 rfl rfl rfl rfl ?_
  refine k_ld hK 4 dL_law_499 rfl rfl rfl rfl ?_
  refine k_ld hK 0 dL_law_500 rfl rfl rfl rfl ?_
  refine k_ic hK dL_law_502 (v := nI 1) rfl ?_
  refine k_op hK dL_law_503 rfl rfl ?_
  refine k_sld hK dL_law_504 rfl (by omega) (nI_add i 1) (by omega) ?_
  refine k_ld hK 4 dL_law_505 rfl rfl rfl rfl ?_
  refine k_ld hK 0 dL_law_506 rfl rfl rfl rfl ?_
  refine k_ic hK dL_law_508 (v := nI 2) rfl ?_
  refine k_op hK dL_law_509 rfl rfl ?_
  refine k_sld hK dL_law_510 rfl (by omega) (nI_add i 2) (by omega) ?_
  refine k_cV hK dL_law_511 (Or.inl lm_L_58) (As := [.int (xs (i + 1)), .int (xs (i + 2))]) (S := []) rfl (sc_0 hs) (by decide) (fit_L hs hg rfl rfl) rfl h ?_
  rintro r I1 J1 R1 ⟨V, rfl, hs1, hg1, h1⟩
  show K _ _ [.int V] I1 J1 R1
  refine k_ld hK 2 dL_law_514 rfl rfl rfl rfl ?_
  refine k_ld hK 4 dL_law_515 rfl rfl rfl rfl ?_
  refine k_ld hK 0 dL_law_516 rfl rfl rfl rfl ?_
  refine k_ic hK dL_law_518 (v := nI 1) rfl ?_
  refine k_op hK dL_law_519 rfl rfl ?_
  refine k_sld hK dL_law_520 rfl (by omega) (nI_add i 1) (by omega) ?_
  refine k_ld hK 4 dL_law_521 rfl rfl rfl rfl ?_
  refine k_ld hK 0 dL_law_522 rfl rfl rfl rfl ?_
  refine k_ic hK dL_law_524 (v := nI 2) rfl ?_
  refine k_op hK dL_law_525 rfl rfl ?_
  refine k_sld hK dL_law_526 rfl (by omega) (nI_add i 2) (by omega) ?_
  refine k_cV hK dL_law_527 (Or.inl lm_L_61) (As := [.int (xs (i + 1)), .int (xs (i + 2))]) (S := [.int V]) rfl (sc_80 hs1) (Nat.le_of_ble_eq_true rfl) (fit_L hs1 (by rw [hg1]; exact hg) rfl rfl) rfl h1 ?_
  rintro r2 I2 J2 R2 ⟨rfl, hg2, ht⟩
  show K _ _ [.int V, .int V] I2 J2 R2
  exact k_ceq hK dL_law_530 (tgt := 1473) rfl (fun _ => hn I2 J2 R2 ht hg2) (fun z => absurd rfl z)
set_option maxHeartbeats 1000000 in
theorem lc_535 (hK : am_R M_L_law (am_W 64) (some (L, xs)) RZ Q K) (hL : L ≤ 3584) (hi : i + 7 ≤ L) (hs : Stat R) (hg : am_g R ≤ 600) (h : asks M_X11_out M_X12_out [.int (xs (i + 1)), .int (xs (i + 2))] I J R) (hn : ∀ I2 J2 R2, TOP I2 J2 R2 → am_g R2 = am_g R → K 1473 [(4, .int (nI i)), (3, .ref 121), (2, .ref 80), (1, .ref 0), (0, .ref 999)] [] I2 J2 R2) : K 535 [(4, .int (nI i)), (3, .ref 121), (2, .ref 80), (1, .ref 0), (0, .ref 999)] [] I J R := by
  refine k_ld hK 3 dL_law_535 rfl rfl rfl rfl ?_
  refine k_ld hK 4 dL_law_536 rfl rfl rfl rfl ?_
  refine k_ld hK 0 dL_law_537 rfl rfl rfl rfl ?_
  refine k_ic hK dL_law_539 (v := nI 1) rfl ?_
  refine k_op hK dL_law_540 rfl rfl ?_
  refine k_sld hK dL_law_541 rfl (by omega) (nI_add i 1) (by omega) ?_
  refine k_ld hK 4 dL_law_542 rfl rfl rfl rfl ?_
  refine k_ld hK 0 dL_law_543 rfl rfl rfl rfl ?_
  refine k_ic hK dL_law_545 (v := nI 2) rfl ?_
  refine k_op hK dL_law_546 rfl rfl ?_
  refine k_sld hK dL_law_547 rfl (by omega) (nI_add i 2) (by omega) ?_
  refine k_cV hK dL_law_548 (Or.inl lm_L_62) (As := [.int (xs (i + 1)), .int (xs (i + 2))]) (S := []) rfl (sc_0 hs) (by decide) (fit_L hs hg rfl rfl) rfl h ?_
  rintro r I1 J1 R1 ⟨V, rfl, hs1, hg1, h1⟩
  show K _ _ [.int V] I1 J1 R1
  refine k_ld hK 2 dL_law_551 rfl rfl rfl rfl ?_
  refine k_ld hK 4 dL_law_552 rfl rfl rfl rfl ?_
  refine k_ld hK 0 dL_law_553 rfl rfl rfl rfl ?_
  refine k_ic hK dL_law_555 (v := nI 1) rfl ?_
  refine k_op hK dL_law_556 rfl rfl ?_
  refine k_sld hK dL_law_557 rfl (by omega) (nI_add i 1) (by omega) ?_
  refine k_ld hK 4 dL_law_558 rfl rfl rfl rfl ?_
  refine k_ld hK 0 dL_law_559 rfl rfl rfl rfl ?_
  refine k_ic hK dL_law_561 (v := nI 2) rfl ?_
  refine k_op hK dL_law_562 rfl rfl ?_
  refine k_sld hK dL_law_563 rfl (by omega) (nI_add i 2) (by omega) ?_
  refine k_cV hK dL_law_564 (Or.inl lm_L_65) (As := [.int (xs (i + 1)), .int (xs (i + 2))]) (S := [.int V]) rfl (sc_80 hs1) (Nat.le_of_ble_eq_true rfl) (fit_L hs1 (by rw [hg1]; exact hg) rfl rfl) rfl h1 ?_
  rintro r2 I2 J2 R2 ⟨rfl, hg2, ht⟩
  show K _ _ [.int V, .int V] I2 J2 R2
  exact k_ceq hK dL_law_567 (tgt := 1473) rfl (fun _ => hn I2 J2 R2 ht hg2) (fun z => absurd rfl z)
set_option maxHeartbeats 1000000 in
theorem lc_572 (hK : am_R M_L_law (am_W 64) (some (L, xs)) RZ Q K) (hL : L ≤ 3584) (hi : i + 7 ≤ L) (hs : Stat R) (hg : am_g R ≤ 600) (h : asks M_X11_run M_X12_run [.int (xs (i + 1))] I J R) (hn : ∀ I2 J2 R2, TOP I2 J2 R2 → am_g R2 = am_g R → K 1473 [(4, .int (nI i)), (3, .ref 121), (2, .ref 80), (1, .ref 0), (0, .ref 999)] [] I2 J2 R2) : K 572 [(4, .int (nI i)), (3, .ref 121), (2, .ref 80), (1, .ref 0), (0, .ref 999)] [] I J R := by
  refine k_ld hK 3 dL_law_572 rfl rfl rfl rfl ?_
  refine k_ld hK 4 dL_law_573 rfl rfl rfl rfl ?_
  refine k_ld hK 0 dL_law_574 rfl rfl rfl rfl ?_
  refine k_ic hK dL_law_576 (v := nI 1) rfl ?_
  refine k_op hK dL_law_577 rfl rfl ?_
  refine k_sld hK dL_law_578 rfl (by omega) (nI_add i 1) (by omega) ?_
  refine k_cV hK dL_law_579 (Or.inl lm_L_66) (As := [.int (xs (i + 1))]) (S := []) rfl (sc_0 hs) (by decide) (fit_L hs hg rfl rfl) rfl h ?_
  rintro r I1 J1 R1 ⟨V, rfl, hs1, hg1, h1⟩
  show K _ _ [.int V] I1 J1 R1
  refine k_ld hK 2 dL_law_582 rfl rfl rfl rfl ?_
  refine k_ld hK 4 dL_law_583 rfl rfl rfl rfl ?_
  refine k_ld hK 0 dL_law_584 rfl rfl rfl rfl ?_
  refine k_ic hK dL_law_586 (v := nI 1) rfl ?_
  refine k_op hK dL_law_587 rfl rfl ?_
  refine k_sld hK dL_law_588 rfl (by omega) (nI_add i 1) (by omega) ?_
  refine k_cV hK dL_law_589 (Or.inl lm_L_69) (As := [.int (xs (i + 1))]) (S := [.int V]) rfl (sc_80 hs1) (Nat.le_of_ble_eq_true rfl) (fit_L hs1 (by rw [hg1]; exact hg) rfl rfl) rfl h1 ?_
  rintro r2 I2 J2 R2 ⟨rfl, hg2, ht⟩
  show K _ _ [.int V, .int V] I2 J2 R2
  exact k_ceq hK dL_law_592 (tgt := 1473) rfl (fun _ => hn I2 J2 R2 ht hg2) (fun z => absurd rfl z)
set_option maxHeartbeats 1000000 in
theorem lc_597 (hK : am_R M_L_law (am_W 64) (some (L, xs)) RZ Q K) (hL : L ≤ 3584) (hi : i + 7 ≤ L) (hs : Stat R) (hg : am_g R ≤ 600) (h : asks M_X11_path M_X12_path [.int (xs (i + 1))] I J R) (hn : ∀ I2 J2 R2, TOP I2 J2 R2 → am_g R2 = am_g R → K 1473 [(4, .int (nI i)), (3, .ref 121), (2, .ref 80), (1, .ref 0), (0, .ref 999)] [] I2 J2 R2) : K 597 [(4, .int (nI i)), (3, .ref 121), (2, .ref 80), (1, .ref 0), (0, .ref 999)] [] I J R := by
  refine k_ld hK 3 dL_law_597 rfl rfl rfl rfl ?_
  refine k_ld hK 4 dL_law_598 rfl rfl rfl rfl ?_
  refine k_ld hK 0 dL_law_599 rfl rfl rfl rfl ?_
  refine k_ic hK dL_law_601 (v := nI 1) rfl ?_
  refine k_op hK dL_law_602 rfl rfl ?_
  refine k_sld hK dL_law_603 rfl (by omega) (nI_add i 1) (by omega) ?_
  refine k_cV hK dL_law_604 (Or.inl lm_L_70) (As := [.int (xs (i + 1))]) (S := []) rfl (sc_0 hs) (by decide) (fit_L hs hg rfl rfl) rfl h ?_
  rintro r I1 J1 R1 ⟨V, rfl, hs1, hg1, h1⟩
  show K _ _ [.int V] I1 J1 R1
  refine k_ld hK 2 dL_law_607 rfl rfl rfl rfl ?_
  refine k_ld hK 4 dL_law_608 rfl rfl rfl rfl ?_
  refine k_ld hK 0 dL_law_609 rfl rfl rfl rfl ?_
  refine k_ic hK dL_law_611 (v := nI 1) rfl ?_
  refine k_op hK dL_law_612 rfl rfl ?_
  refine k_sld hK dL_law_613 rfl (by omega) (nI_add i 1) (by omega) ?_
  refine k_cV hK dL_law_614 (Or.inl lm_L_73) (As := [.int (xs (i + 1))]) (S := [.int V]) rfl (sc_80 hs1) (Nat.le_of_ble_eq_true rfl) (fit_L hs1 (by rw [hg1]; exact hg) rfl rfl) rfl h1 ?_
  rintro r2 I2 J2 R2 ⟨rfl, hg2, ht⟩
  show K _ _ [.int V, .int V] I2 J2 R2
  exact k_ceq hK dL_law_617 (tgt := 1473) rfl (fun _ => hn I2 J2 R2 ht hg2) (fun z => absurd rfl z)
set_option maxHeartbeats 1000000 in
theorem lc_622 (hK : am_R M_L_law (am_W 64) (some (L, xs)) RZ Q K) (hL : L ≤ 3584) (hi : i + 7 ≤ L) (hs : Stat R) (hg : am_g R ≤ 600) (h : asks M_X11_entry M_X12_entry [.int (xs (i + 1)), .int (xs (i + 2))] I J R) (hn : ∀ I2 J2 R2, TOP I2 J2 R2 → am_g R2 = am_g R → K 1473 [(4, .int (nI i)), (3, .ref 121), (2, .ref 80), (1, .ref 0), (0, .ref 999)] [] I2 J2 R2) : K 622 [(4, .int (nI i)), (3, .ref 121), (2, .ref 80), (1, .ref 0), (0, .ref 999)] [] I J R := by
  refine k_ld hK 3 dL_law_622 rfl rfl rfl rfl ?_
  refine k_ld hK 4 dL_law_623 rfl rfl rfl rfl ?_
  refine k_ld hK 0 dL_law_624 rfl rfl rfl rfl ?_
  refine k_ic hK dL_law_626 (v := nI 1) rfl ?_
  refine k_op hK dL_law_627 rfl rfl ?_
  refine k_sld hK dL_law_628 rfl (by omega) (nI_add i 1) (by omega) ?_
  refine k_ld hK 4 dL_law_629 rfl rfl rfl rfl ?_
  refine k_ld hK 0 dL_law_630 rfl rfl rfl rfl ?_
  refine k_ic hK dL_law_632 (v := nI 2) rfl ?_
  refine k_op hK dL_law_633 rfl rfl ?_
  refine k_sld hK dL_law_634 rfl (by omega) (nI_add i 2) (by omega) ?_
  refine k_cV hK dL_law_635 (Or.inl lm_L_74) (As := [.int (xs (i + 1)), .int (xs (i + 2))]) (S := []) rfl (sc_0 hs) (by decide) (fit_L hs hg rfl rfl) rfl h ?_
  rintro r I1 J1 R1 ⟨V, rfl, hs1, hg1, h1⟩
  show K _ _ [.int V] I1 J1 R1
  refine k_ld hK 2 dL_law_638 rfl rfl rfl rfl ?_
  refine k_ld hK 4 dL_law_639 rfl rfl rfl rfl ?_
  refine k_ld hK 0 dL_law_640 rfl rfl rfl rfl ?_
  refine k_ic hK dL_law_642 (v := nI 1) rfl ?_
  refine k_op hK dL_law_643 rfl rfl ?_
  refine k_sld hK dL_law_644 rfl (by omega) (nI_add i 1) (by omega) ?_
  refine k_ld hK 4 dL_law_645 rfl rfl rfl rfl ?_
  refine k_ld hK 0 dL_law_646 rfl rfl rfl rfl ?_
  refine k_ic hK dL_law_648 (v := nI 2) rfl ?_
  refine k_op hK dL_law_649 rfl rfl ?_
  refine k_sld hK dL_law_650 rfl (by omega) (nI_add i 2) (by omega) ?_
  refine k_cV hK dL_law_651 (Or.inl lm_L_77) (As := [.int (xs (i + 1)), .int (xs (i + 2))]) (S := [.int V]) rfl (sc_80 hs1) (Nat.le_of_ble_eq_true rfl) (fit_L hs1 (by rw [hg1]; exact hg) rfl rfl) rfl h1 ?_
  rintro r2 I2 J2 R2 ⟨rfl, hg2, ht⟩
  show K _ _ [.int V, .int V] I2 J2 R2
  exact k_ceq hK dL_law_654 (tgt := 1473) rfl (fun _ => hn I2 J2 R2 ht hg2) (fun z => absurd rfl z)
set_option maxHeartbeats 1000000 in
theorem lc_659 (hK : am_R M_L_law (am_W 64) (some (L, xs)) RZ Q K) (hL : L ≤ 3584) (hi : i + 7 ≤ L) (hs : Stat R) (hg : am_g R ≤ 600) (h : asks M_X11_slope M_X12_slope [.int (xs (i + 1)), .int (xs (i + 2))] I J R) (hn : ∀ I2 J2 R2, TOP I2 J2 R2 → am_g R2 = am_g R → K 1473 [(4, .int (nI i)), (3, .ref 121), (2, .ref 80), (1, .ref 0), (0, .ref 999)] [] I2 J2 R2) : K 659 [(4, .int (nI i)), (3, .ref 121), (2, .ref 80), (1, .ref 0), (0, .ref 999)] [] I J R := by
  refine k_ld hK 3 dL_law_659 rfl rfl rfl rfl ?_
  refine k_ld hK 4 dL_law_660 rfl rfl rfl rfl ?_
  refine k_ld hK 0 dL_law_661 rfl rfl rfl rfl ?_
  refine k_ic hK dL_law_663 (v := nI 1) rfl ?_
  refine k_op hK dL_law_664 rfl rfl ?_
  refine k_sld hK dL_law_665 rfl (by omega) (nI_add i 1) (by omega) ?_
  refine k_ld hK 4 dL_law_666 rfl rfl rfl rfl ?_
  refine k_ld hK 0 dL_law_667 rfl rfl rfl rfl ?_
  refine k_ic hK dL_law_669 (v := nI 2) rfl ?_
  refine k_op hK dL_law_670 rfl rfl ?_
  refine k_sld hK dL_law_671 rfl (by omega) (nI_add i 2) (by omega) ?_
  refine k_cV hK dL_law_672 (Or.inl lm_L_78) (As := [.int (xs (i + 1)), .int (xs (i + 2))]) (S := []) rfl (sc_0 hs) (by decide) (fit_L hs hg rfl rfl) rfl h ?_
  rintro r I1 J1 R1 ⟨V, rfl, hs1, hg1, h1⟩
  show K _ _ [.int V] I1 J1 R1
  refine k_ld hK 2 dL_law_675 rfl rfl rfl rfl ?_
  refine k_ld hK 4 dL_law_676 rfl rfl rfl rfl ?_
  refine k_ld hK 0 dL_law_677 rfl rfl rfl rfl ?_
  refine k_ic hK dL_law_679 (v := nI 1) rfl ?_
  refine k_op hK dL_law_680 rfl rfl ?_
  refine k_sld hK dL_law_681 rfl (by omega) (nI_add i 1) (by omega) ?_
  refine k_ld hK 4 dL_law_682 rfl rfl rfl rfl ?_
  refine k_ld hK 0 dL_law_683 rfl rfl rfl rfl ?_
  refine k_ic hK dL_law_685 (v := nI 2) rfl ?_
  refine k_op hK dL_law_686 rfl rfl ?_
  refine k_sld hK dL_law_687 rfl (by omega) (nI_add i 2) (by omega) ?_
  refine k_cV hK dL_law_688 (Or.inl lm_L_81) (As := [.int (xs (i + 1)), .int (xs (i + 2))]) (S := [.int V]) rfl (sc_80 hs1) (Nat.le_of_ble_eq_true rfl) (fit_L hs1 (by rw [hg1]; exact hg) rfl rfl) rfl h1 ?_
  rintro r2 I2 J2 R2 ⟨rfl, hg2, ht⟩
  show K _ _ [.int V, .int V] I2 J2 R2
  exact k_ceq hK dL_law_691 (tgt := 1473) rfl (fun _ => hn I2 J2 R2 ht hg2) (fun z => absurd rfl z)
set_option maxHeartbeats 1000000 in
theorem lc_696 (hK : am_R M_L_law (am_W 64) (some (L, xs)) RZ Q K) (hL : L ≤ 3584) (hi : i + 7 ≤ L) (hs : Stat R) (hg : am_g R ≤ 600) (h : asks M_X11_bar M_X12_bar [.int (xs (i + 1)), .int (xs (i + 2))] I J R) (hn : ∀ I2 J2 R2, TOP I2 J2 R2 → am_g R2 = am_g R → K 1473 [(4, .int (nI i)), (3, .ref 121), (2, .ref 80), (1, .ref 0), (0, .ref 999)] [] I2 J2 R2) : K 696 [(4, .int (nI i)), (3, .ref 121), (2, .ref 80), (1, .ref 0), (0, .ref 999)] [] I J R := by
  refine k_ld hK 3 dL_law_696 rfl rfl rfl rfl ?_
  refine k_ld hK 4 dL_law_697 rfl rfl rfl rfl ?_
  refine k_ld hK 0 dL_law_698 rfl rfl rfl rfl ?_
  refine k_ic hK dL_law_700 (v := nI 1) rfl ?_
  refine k_op hK dL_law_701 rfl rfl ?_
  refine k_sld hK dL_law_702 rfl (by omega) (nI_add i 1) (by omega) ?_
  refine k_ld hK 4 dL_law_703 rfl rfl rfl rfl ?_
  refine k_ld hK 0 dL_law_704 rfl rfl rfl rfl ?_
  refine k_ic hK dL_law_706 (v := nI 2) rfl ?_
  refine k_op hK dL_law_707 rfl rfl ?_
  refine k_sld hK dL_law_708 rfl (by omega) (nI_add i 2) (by omega) ?_
  refine k_cV hK dL_law_709 (Or.inl lm_L_82) (As := [.int (xs (i + 1)), .int (xs (i + 2))]) (S := []) rfl (sc_0 hs) (by decide) (fit_L hs hg rfl rfl) rfl h ?_
  rintro r I1 J1 R1 ⟨V, rfl, hs1, hg1, h1⟩
  show K _ _ [.int V] I1 J1 R1
  refine k_ld hK 2 dL_law_712 rfl rfl rfl rfl ?_
  refine k_ld hK 4 dL_law_713 rfl rfl rfl rfl ?_
  refine k_ld hK 0 dL_law_714 rfl rfl rfl rfl ?_
  refine k_ic hK dL_law_716 (v := nI 1) rfl ?_
  refine k_op hK dL_law_717 rfl rfl ?_
  refine k_sld hK dL_law_718 rfl (by omega) (nI_add i 1) (by omega) ?_
  refine k_ld hK 4 dL_law_719 rfl rfl rfl rfl ?_
  refine k_ld hK 0 dL_law_720 rfl rfl rfl rfl ?_
  refine k_ic hK dL_law_722 (v := nI 2) rfl ?_
  refine k_op hK dL_law_723 rfl rfl ?_
  refine k_sld hK dL_law_724 rfl (by omega) (nI_add i 2) (by omega) ?_
  refine k_cV hK dL_law_725 (Or.inl lm_L_85) (As := [.int (xs (i + 1)), .int (xs (i + 2))]) (S := [.int V]) rfl (sc_80 hs1) (Nat.le_of_ble_eq_true rfl) (fit_L hs1 (by rw [hg1]; exact hg) rfl rfl) rfl h1 ?_
  rintro r2 I2 J2 R2 ⟨rfl, hg2, ht⟩
  show K _ _ [.int V, .int V] I2 J2 R2
  exact k_ceq hK dL_law_728 (tgt := 1473) rfl (fun _ => hn I2 J2 R2 ht hg2) (fun z => absurd rfl z)
set_option maxHeartbeats 1000000 in
theorem lc_733 (hK : am_R M_L_law (am_W 64) (some (L, xs)) RZ Q K) (hL : L ≤ 3584) (hi : i + 7 ≤ L) (hs : Stat R) (hg : am_g R ≤ 600) (h : asks M_X11_second M_X12_second [.int (xs (i + 1)), .int (xs (i + 2)), .int (xs (i + 3))] I J R) (hn : ∀ I2 J2 R2, TOP I2 J2 R2 → am_g R2 = am_g R → K 1473 [(4, .int (nI i)), (3, .ref 121), (2, .ref 80), (1, .ref 0), (0, .ref 999)] [] I2 J2 R2) : K 733 [(4, .int (nI i)), (3, .ref 121), (2, .ref 80), (1, .ref 0), (0, .ref 999)] [] I J R := by
  refine k_ld hK 3 dL_law_733 rfl rfl rfl rfl ?_
  refine k_ld hK 4 dL_law_734 rfl rfl rfl rfl ?_
  refine k_ld hK 0 dL_law_735 rfl rfl rfl rfl ?_
  refine k_ic hK dL_law_737 (v := nI 1) rfl ?_
  refine k_op hK dL_law_738 rfl rfl ?_
  refine k_sld hK dL_law_739 rfl (by omega) (nI_add i 1) (by omega) ?_
  refine k_ld hK 4 dL_law_740 rfl rfl rfl rfl ?_
  refine k_ld hK 0 dL_law_741 rfl rfl rfl rfl ?_
  refine k_ic hK dL_law_743 (v := nI 2) rfl ?_
  refine k_op hK dL_law_744 rfl rfl ?_
  refine k_sld hK dL_law_745 rfl (by omega) (nI_add i 2) (by omega) ?_
  refine k_ld hK 4 dL_law_746 rfl rfl rfl rfl ?_
  refine k_ld hK 0 dL_law_747 rfl rfl rfl rfl ?_
  refine k_ic hK dL_law_749 (v := nI 3) rfl ?_
  refine k_op hK dL_law_750 rfl rfl ?_
  refine k_sld hK dL_law_751 rfl (by omega) (nI_add i 3) (by omega) ?_
  refine k_cV hK dL_law_752 (Or.inl lm_L_86) (As := [.int (xs (i + 1)), .int (xs (i + 2)), .int (xs (i + 3))]) (S := []) rfl (sc_0 hs) (by decide) (fit_L hs hg rfl rfl) rfl h ?_
  rintro r I1 J1 R1 ⟨V, rfl, hs1, hg1, h1⟩
  show K _ _ [.int V] I1 J1 R1
  refine k_ld hK 2 dL_law_755 rfl rfl rfl rfl ?_
  refine k_ld hK 4 dL_law_756 rfl rfl rfl rfl ?_
  refine k_ld hK 0 dL_law_757 rfl rfl rfl rfl ?_
  refine k_ic hK dL_law_759 (v := nI 1) rfl ?_
  refine k_op hK dL_law_760 rfl rfl ?_
  refine k_sld hK dL_law_761 rfl (by omega) (nI_add i 1) (by omega) ?_
  refine k_ld hK 4 dL_law_762 rfl rfl rfl rfl ?_
  refine k_ld hK 0 dL_law_763 rfl rfl rfl rfl ?_
  refine k_ic hK dL_law_765 (v := nI 2) rfl ?_
  refine k_op hK dL_law_766 rfl rfl ?_
  refine k_sld hK dL_law_767 rfl (by omega) (nI_add i 2) (by omega) ?_
  refine k_ld hK 4 dL_law_768 rfl rfl rfl rfl ?_
  refine k_ld hK 0 dL_law_769 rfl rfl rfl rfl ?_
  refine k_ic hK dL_law_771 (v := nI 3) rfl ?_
  refine k_op hK dL_law_772 rfl rfl ?_
  refine k_sld hK dL_law_773 rfl (by omega) (nI_add i 3) (by omega) ?_
  refine k_cV hK dL_law_774 (Or.inl lm_L_89) (As := [.int (xs (i + 1)), .int (xs (i + 2)), .int (xs (i + 3))]) (S := [.int V]) rfl (sc_80 hs1) (Nat.le_of_ble_eq_true rfl) (fit_L hs1 (by rw [hg1]; exact hg) rfl rfl) rfl h1 ?_
  rintro r2 I2 J2 R2 ⟨rfl, hg2, ht⟩
  show K _ _ [.int V, .int V] I2 J2 R2
  exact k_ceq hK dL_law_777 (tgt := 1473) rfl (fun _ => hn I2 J2 R2 ht hg2) (fun z => absurd rfl z)
set_option maxHeartbeats 1000000 in
theorem lc_782 (hK : am_R M_L_law (am_W 64) (some (L, xs)) RZ Q K) (hL : L ≤ 3584) (hi : i + 7 ≤ L) (hs : Stat R) (hg : am_g R ≤ 600) (h : asks M_X11_turned M_X12_turned [.int (xs (i + 1)), .int (xs (i + 2)), .int (xs (i + 3)), .int (xs (i + 4)), .int (xs (i + 5)), .int (xs (i + 6))] I J R) (hn : ∀ I2 J2 R2, TOP I2 J2 R2 → am_g R2 = am_g R → K 1473 [(4, .int (nI i)), (3, .ref 121), (2, .ref 80), (1, .ref 0), (0, .ref 999)] [] I2 J2 R2) : K 782 [(4, .int (nI i)), (3, .ref 121), (2, .ref 80), (1, .ref 0), (0, .ref 999)] [] I J R := by
  refine k_ld hK 3 dL_law_782 rfl rfl rfl rfl ?_
  refine k_ld hK 4 dL_law_783 rfl rfl rfl rfl ?_
  refine k_ld hK 0 dL_law_784 rfl rfl rfl rfl ?_
  refine k_ic hK dL_law_786 (v := nI 1) rfl ?_
  refine k_op hK dL_law_787 rfl rfl ?_
  refine k_sld hK dL_law_788 rfl (by omega) (nI_add i 1) (by omega) ?_
  refine k_ld hK 4 dL_law_789 rfl rfl rfl rfl ?_
  refine k_ld hK 0 dL_law_790 rfl rfl rfl rfl ?_
  refine k_ic hK dL_law_792 (v := nI 2) rfl ?_
  refine k_op hK dL_law_793 rfl rfl ?_
  refine k_sld hK dL_law_794 rfl (by omega) (nI_add i 2) (by omega) ?_
  refine k_ld hK 4 dL_law_795 rfl rfl rfl rfl ?_
  refine k_ld hK 0 dL_law_796 rfl rfl rfl rfl ?_
  refine k_ic hK dL_law_798 (v := nI 3) rfl ?_
  refine k_op hK dL_law_799 rfl rfl ?_
  refine k_sld hK dL_law_800 rfl (by omega) (nI_add i 3) (by omega) ?_
  refine k_ld hK 4 dL_law_801 rfl rfl rfl rfl ?_
  refine k_ld hK 0 dL_law_802 rfl rfl rfl rfl ?_
  refine k_ic hK dL_law_804 (v := nI 4) rfl ?_
  refine k_op hK dL_law_805 rfl rfl ?_
  refine k_sld hK dL_law_806 rfl (by omega) (nI_add i 4) (by omega) ?_
  refine k_ld hK 4 dL_law_807 rfl rfl rfl rfl ?_
  refine k_ld hK 0 dL_law_808 rfl rfl rfl rfl ?_
  refine k_ic hK dL_law_810 (v := nI 5) rfl ?_
  refine k_op hK dL_law_811 rfl rfl ?_
  refine k_sld hK dL_law_812 rfl (by omega) (nI_add i 5) (by omega) ?_
  refine k_ld hK 4 dL_law_813 rfl rfl rfl rfl ?_
  refine k_ld hK 0 dL_law_814 rfl rfl rfl rfl ?_
  refine k_bi hK dL_law_816 (v := nI 6) rfl ?_
  refine k_op hK dL_law_818 rfl rfl ?_
  refine k_sld hK dL_law_819 rfl (by omega) (nI_add i 6) (by omega) ?_
  refine k_cV hK dL_law_820 (Or.inl lm_L_90) (As := [.int (xs (i + 1)), .int (xs (i + 2)), .int (xs (i + 3)), .int (xs (i + 4)), .int (xs (i + 5)), .int (xs (i + 6))]) (S := []) rfl (sc_0 hs) (by decide) (fit_L hs hg rfl rfl) rfl h ?_
  rintro r I1 J1 R1 ⟨V, rfl, hs1, hg1, h1⟩
  show K _ _ [.int V] I1 J1 R1
  refine k_ld hK 2 dL_law_823 rfl rfl rfl rfl ?_
  refine k_ld hK 4 dL_law_824 rfl rfl rfl rfl ?_
  refine k_ld hK 0 dL_law_825 rfl rfl rfl rfl ?_
  refine k_ic hK dL_law_827 (v := nI 1) rfl ?_
  refine k_op hK dL_law_828 rfl rfl ?_
  refine k_sld hK dL_law_829 rfl (by omega) (nI_add i 1) (by omega) ?_
  refine k_ld hK 4 dL_law_830 rfl rfl rfl rfl ?_
  refine k_ld hK 0 dL_law_831 rfl rfl rfl rfl ?_
  refine k_ic hK dL_law_833 (v := nI 2) rfl ?_
  refine k_op hK dL_law_834 rfl rfl ?_
  refine k_sld hK dL_law_835 rfl (by omega) (nI_add i 2) (by omega) ?_
  refine k_ld hK 4 dL_law_836 rfl rfl rfl rfl ?_
  refine k_ld hK 0 dL_law_837 rfl rfl rfl rfl ?_
  refine k_ic hK dL_law_839 (v := nI 3) rfl ?_
  refine k_op hK dL_law_840 rfl rfl ?_
  refine k_sld hK dL_law_841 rfl (by omega) (nI_add i 3) (by omega) ?_
  refine k_ld hK 4 dL_law_842 rfl rfl rfl rfl ?_
  refine k_ld hK 0 dL_law_843 rfl rfl rfl rfl ?_
  refine k_ic hK dL_law_845 (v := nI 4) rfl ?_
  refine k_op hK dL_law_846 rfl rfl ?_
  refine k_sld hK dL_law_847 rfl (by omega) (nI_add i 4) (by omega) ?_
  refine k_ld hK 4 dL_law_848 rfl rfl rfl rfl ?_
  refine k_ld hK 0 dL_law_849 rfl rfl rfl rfl ?_
  refine k_ic hK dL_law_851 (v := nI 5) rfl ?_
  refine k_op hK dL_law_852 rfl rfl ?_
  refine k_sld hK dL_law_853 rfl (by omega) (nI_add i 5) (by omega) ?_
  refine k_ld hK 4 dL_law_854 rfl rfl rfl rfl ?_
  refine k_ld hK 0 dL_law_855 rfl rfl rfl rfl ?_
  refine k_bi hK dL_law_857 (v := nI 6) rfl ?_
  refine k_op hK dL_law_859 rfl rfl ?_
  refine k_sld hK dL_law_860 rfl (by omega) (nI_add i 6) (by omega) ?_
  refine k_cV hK dL_law_861 (Or.inl lm_L_94) (As := [.int (xs (i + 1)), .int (xs (i + 2)), .int (xs (i + 3)), .int (xs (i + 4)), .int (xs (i + 5)), .int (xs (i + 6))]) (S := [.int V]) rfl (sc_80 hs1) (Nat.le_of_ble_eq_true rfl) (fit_L hs1 (by rw [hg1]; exact hg) rfl rfl) rfl h1 ?_
  rintro r2 I2 J2 R2 ⟨rfl, hg2, ht⟩
  show K _ _ [.int V, .int V] I2 J2 R2
  exact k_ceq hK dL_law_864 (tgt := 1473) rfl (fun _ => hn I2 J2 R2 ht hg2) (fun z => absurd rfl z)
set_option maxHeartbeats 1000000 in
theorem lc_869 (hK : am_R M_L_law (am_W 64) (some (L, xs)) RZ Q K) (hL : L ≤ 3584) (hi : i + 7 ≤ L) (hs : Stat R) (hg : am_g R ≤ 600) (h : asks M_X11_determinant M_X12_determinant [.int (xs (i + 1))] I J R) (hn : ∀ I2 J2 R2, TOP I2 J2 R2 → am_g R2 = am_g R → K 1473 [(4, .int (nI i)), (3, .ref 121), (2, .ref 80), (1, .ref 0), (0, .ref 999)] [] I2 J2 R2) : K 869 [(4, .int (nI i)), (3, .ref 121), (2, .ref 80), (1, .ref 0), (0, .ref 999)] [] I J R := by
  refine k_ld hK 3 dL_law_869 rfl rfl rfl rfl ?_
  refine k_ld hK 4 dL_law_870 rfl rfl rfl rfl ?_
  refine k_ld hK 0 dL_law_871 rfl rfl rfl rfl ?_
  refine k_ic hK dL_law_873 (v := nI 1) rfl ?_
  refine k_op hK dL_law_874 rfl rfl ?_
  refine k_sld hK dL_law_875 rfl (by omega) (nI_add i 1) (by omega) ?_
  refine k_cV hK dL_law_876 (Or.inl lm_L_95) (As := [.int (xs (i + 1))]) (S := []) rfl (sc_0 hs) (by decide) (fit_L hs hg rfl rfl) rfl h ?_
  rintro r I1 J1 R1 ⟨V, rfl, hs1, hg1, h1⟩
  show K _ _ [.int V] I1 J1 R1
  refine k_ld hK 2 dL_law_879 rfl rfl rfl rfl ?_
  refine k_ld hK 4 dL_law_880 rfl rfl rfl rfl ?_
  refine k_ld hK 0 dL_law_881 rfl rfl rfl rfl ?_
  refine k_ic hK dL_law_883 (v := nI 1) rfl ?_
  refine k_op hK dL_law_884 rfl rfl ?_
  refine k_sld hK dL_law_885 rfl (by omega) (nI_add i 1) (by omega) ?_
  refine k_cV hK dL_law_886 (Or.inl lm_L_98) (As := [.int (xs (i + 1))]) (S := [.int V]) rfl (sc_80 hs1) (Nat.le_of_ble_eq_true rfl) (fit_L hs1 (by rw [hg1]; exact hg) rfl rfl) rfl h1 ?_
  rintro r2 I2 J2 R2 ⟨rfl, hg2, ht⟩
  show K _ _ [.int V, .int V] I2 J2 R2
  exact k_ceq hK dL_law_889 (tgt := 1473) rfl (fun _ => hn I2 J2 R2 ht hg2) (fun z => absurd rfl z)
set_option maxHeartbeats 1000000 in
theorem lc_894 (hK : am_R M_L_law (am_W 64) (some (L, xs)) RZ Q K) (hL : L ≤ 3584) (hi : i + 7 ≤ L) (hs : Stat R) (hg : am_g R ≤ 600) (h : asks M_X11_rank M_X12_rank [] I J R) (hn : ∀ I2 J2 R2, TOP I2 J2 R2 → am_g R2 = am_g R → K 1473 [(4, .int (nI i)), (3, .ref 121), (2, .ref 80), (1, .ref 0), (0, .ref 999)] [] I2 J2 R2) : K 894 [(4, .int (nI i)), (3, .ref 121), (2, .ref 80), (1, .ref 0), (0, .ref 999)] [] I J R := by
  refine k_ld hK 3 dL_law_894 rfl rfl rfl rfl ?_
  refine k_cV hK dL_law_895 (Or.inl lm_L_99) (As := []) (S := []) rfl (sc_0 hs) (by decide) (fit_L hs hg rfl rfl) rfl h ?_
  rintro r I1 J1 R1 ⟨V, rfl, hs1, hg1, h1⟩
  show K _ _ [.int V] I1 J1 R1
  refine k_ld hK 2 dL_law_898 rfl rfl rfl rfl ?_
  refine k_cV hK dL_law_899 (Or.inl lm_L_102) (As := []) (S := [.int V]) rfl (sc_80 hs1) (Nat.le_of_ble_eq_true rfl) (fit_L hs1 (by rw [hg1]; exact hg) rfl rfl) rfl h1 ?_
  rintro r2 I2 J2 R2 ⟨rfl, hg2, ht⟩
  show K _ _ [.int V, .int V] I2 J2 R2
  exact k_ceq hK dL_law_902 (tgt := 1473) rfl (fun _ => hn I2 J2 R2 ht hg2) (fun z => absurd rfl z)
set_option maxHeartbeats 1000000 in
theorem lc_907 (hK : am_R M_L_law (am_W 64) (some (L, xs)) RZ Q K) (hL : L ≤ 3584) (hi : i + 7 ≤ L) (hs : Stat R) (hg : am_g R ≤ 600) (h : asks M_X11_newton M_X12_newton [.int (xs (i + 1)), .int (xs (i + 2)), .int (xs (i + 3))] I J R) (hn : ∀ I2 J2 R2, TOP I2 J2 R2 → am_g R2 = am_g R → K 1473 [(4, .int (nI i)), (3, .ref 121), (2, .ref 80), (1, .ref 0), (0, .ref 999)] [] I2 J2 R2) : K 907 [(4, .int (nI i)), (3, .ref 121), (2, .ref 80), (1, .ref 0), (0, .ref 999)] [] I J R := by
  refine k_ld hK 3 dL_law_907 rfl rfl rfl rfl ?_
  refine k_ld hK 4 dL_law_908 rfl rfl rfl rfl ?_
  refine k_ld hK 0 dL_law_909 rfl rfl rfl rfl ?_
  refine k_ic hK dL_law_911 (v := nI 1) rfl ?_
  refine k_op hK dL_law_912 rfl rfl ?_
  refine k_sld hK dL_law_913 rfl (by omega) (nI_add i 1) (by omega) ?_
  refine k_ld hK 4 dL_law_914 rfl rfl rfl rfl ?_
  refine k_ld hK 0 dL_law_915 rfl rfl rfl rfl ?_
  refine k_ic hK dL_law_917 (v := nI 2) rfl ?_
  refine k_op hK dL_law_918 rfl rfl ?_
  refine k_sld hK dL_law_919 rfl (by omega) (nI_add i 2) (by omega) ?_
  refine k_ld hK 4 dL_law_920 rfl rfl rfl rfl ?_
  refine k_ld hK 0 dL_law_921 rfl rfl rfl rfl ?_
  refine k_ic hK dL_law_923 (v := nI 3) rfl ?_
  refine k_op hK dL_law_924 rfl rfl ?_
  refine k_sld hK dL_law_925 rfl (by omega) (nI_add i 3) (by omega) ?_
  refine k_cV hK dL_law_926 (Or.inl lm_L_103) (As := [.int (xs (i + 1)), .int (xs (i + 2)), .int (xs (i + 3))]) (S := []) rfl (sc_0 hs) (by decide) (fit_L hs hg rfl rfl) rfl h ?_
  rintro r I1 J1 R1 ⟨V, rfl, hs1, hg1, h1⟩
  show K _ _ [.int V] I1 J1 R1
  refine k_ld hK 2 dL_law_929 rfl rfl rfl rfl ?_
  refine k_ld hK 4 dL_law_930 rfl rfl rfl rfl ?_
  refine k_ld hK 0 dL_law_931 rfl rfl rfl rfl ?_
  refine k_ic hK dL_law_933 (v := nI 1) rfl ?_
  refine k_op hK dL_law_934 rfl rfl ?_
  refine k_sld hK dL_law_935 rfl (by omega) (nI_add i 1) (by omega) ?_
  refine k_ld hK 4 dL_law_936 rfl rfl rfl rfl ?_
  refine k_ld hK 0 dL_law_937 rfl rfl rfl rfl ?_
  refine k_ic hK dL_law_939 (v := nI 2) rfl ?_
  refine k_op hK dL_law_940 rfl rfl ?_
  refine k_sld hK dL_law_941 rfl (by omega) (nI_add i 2) (by omega) ?_
  refine k_ld hK 4 dL_law_942 rfl rfl rfl rfl ?_
  refine k_ld hK 0 dL_law_943 rfl rfl rfl rfl ?_
  refine k_ic hK dL_law_945 (v := nI 3) rfl ?_
  refine k_op hK dL_law_946 rfl rfl ?_
  refine k_sld hK dL_law_947 rfl (by omega) (nI_add i 3) (by omega) ?_
  refine k_cV hK dL_law_948 (Or.inl lm_L_106) (As := [.int (xs (i + 1)), .int (xs (i + 2)), .int (xs (i + 3))]) (S := [.int V]) rfl (sc_80 hs1) (Nat.le_of_ble_eq_true rfl) (fit_L hs1 (by rw [hg1]; exact hg) rfl rfl) rfl h1 ?_
  rintro r2 I2 J2 R2 ⟨rfl, hg2, ht⟩
  show K _ _ [.int V, .int V] I2 J2 R2
  exact k_ceq hK dL_law_951 (tgt := 1473) rfl (fun _ => hn I2 J2 R2 ht hg2) (fun z => absurd rfl z)
set_option maxHeartbeats 1000000 in
theorem lc_956 (hK : am_R M_L_law (am_W 64) (some (L, xs)) RZ Q K) (hL : L ≤ 3584) (hi : i + 7 ≤ L) (hs : Stat R) (hg : am_g R ≤ 600) (h : asks M_X11_change M_X12_change [.int (xs (i + 1)), .int (xs (i + 2)), .int (xs (i + 3))] I J R) (hn : ∀ I2 J2 R2, TOP I2 J2 R2 → am_g R2 = am_g R → K 1473 [(4, .int (nI i)), (3, .ref 121), (2, .ref 80), (1, .ref 0), (0, .ref 999)] [] I2 J2 R2) : K 956 [(4, .int (nI i)), (3, .ref 121), (2, .ref 80), (1, .ref 0), (0, .ref 999)] [] I J R := by
  refine k_ld hK 3 dL_law_956 rfl rfl rfl rfl ?_
  refine k_ld hK 4 dL_law_957 rfl rfl rfl rfl ?_
  refine k_ld hK 0 dL_law_958 rfl rfl rfl rfl ?_
  refine k_ic hK dL_law_960 (v := nI 1) rfl ?_
  refine k_op hK dL_law_961 rfl rfl ?_
  refine k_sld hK dL_law_962 rfl (by omega) (nI_add i 1) (by omega) ?_
  refine k_ld hK 4 dL_law_963 rfl rfl rfl rfl ?_
  refine k_ld hK 0 dL_law_964 rfl rfl rfl rfl ?_
  refine k_ic hK dL_law_966 (v := nI 2) rfl ?_
  refine k_op hK dL_law_967 rfl rfl ?_
  refine k_sld hK dL_law_968 rfl (by omega) (nI_add i 2) (by omega) ?_
  refine k_ld hK 4 dL_law_969 rfl rfl rfl rfl ?_
  refine k_ld hK 0 dL_law_970 rfl rfl rfl rfl ?_
  refine k_ic hK dL_law_972 (v := nI 3) rfl ?_
  refine k_op hK dL_law_973 rfl rfl ?_
  refine k_sld hK dL_law_974 rfl (by omega) (nI_add i 3) (by omega) ?_
  refine k_cV hK dL_law_975 (Or.inl lm_L_107) (As := [.int (xs (i + 1)), .int (xs (i + 2)), .int (xs (i + 3))]) (S := []) rfl (sc_0 hs) (by decide) (fit_L hs hg rfl rfl) rfl h ?_
  rintro r I1 J1 R1 ⟨V, rfl, hs1, hg1, h1⟩
  show K _ _ [.int V] I1 J1 R1
  refine k_ld hK 2 dL_law_978 rfl rfl rfl rfl ?_
  refine k_ld hK 4 dL_law_979 rfl rfl rfl rfl ?_
  refine k_ld hK 0 dL_law_980 rfl rfl rfl rfl ?_
  refine k_ic hK dL_law_982 (v := nI 1) rfl ?_
  refine k_op hK dL_law_983 rfl rfl ?_
  refine k_sld hK dL_law_984 rfl (by omega) (nI_add i 1) (by omega) ?_
  refine k_ld hK 4 dL_law_985 rfl rfl rfl rfl ?_
  refine k_ld hK 0 dL_law_986 rfl rfl rfl rfl ?_
  refine k_ic hK dL_law_988 (v := nI 2) rfl ?_
  refine k_op hK dL_law_989 rfl rfl ?_
  refine k_sld hK dL_law_990 rfl (by omega) (nI_add i 2) (by omega) ?_
  refine k_ld hK 4 dL_law_991 rfl rfl rfl rfl ?_
  refine k_ld hK 0 dL_law_992 rfl rfl rfl rfl ?_
  refine k_ic hK dL_law_994 (v := nI 3) rfl ?_
  refine k_op hK dL_law_995 rfl rfl ?_
  refine k_sld hK dL_law_996 rfl (by omega) (nI_add i 3) (by omega) ?_
  refine k_cV hK dL_law_997 (Or.inl lm_L_110) (As := [.int (xs (i + 1)), .int (xs (i + 2)), .int (xs (i + 3))]) (S := [.int V]) rfl (sc_80 hs1) (Nat.le_of_ble_eq_true rfl) (fit_L hs1 (by rw [hg1]; exact hg) rfl rfl) rfl h1 ?_
  rintro r2 I2 J2 R2 ⟨rfl, hg2, ht⟩
  show K _ _ [.int V, .int V] I2 J2 R2
  exact k_ceq hK dL_law_1000 (tgt := 1473) rfl (fun _ => hn I2 J2 R2 ht hg2) (fun z => absurd rfl z)
set_option maxHeartbeats 1000000 in
theorem lc_1005 (hK : am_R M_L_law (am_W 64) (some (L, xs)) RZ Q K) (hL : L ≤ 3584) (hi : i + 7 ≤ L) (hs : Stat R) (hg : am_g R ≤ 600) (h : asks M_X11_degree M_X12_degree [.int (xs (i + 1)), .int (xs (i + 2))] I J R) (hn : ∀ I2 J2 R2, TOP I2 J2 R2 → am_g R2 = am_g R → K 1473 [(4, .int (nI i)), (3, .ref 121), (2, .ref 80), (1, .ref 0), (0, .ref 999)] [] I2 J2 R2) : K 1005 [(4, .int (nI i)), (3, .ref 121), (2, .ref 80), (1, .ref 0), (0, .ref 999)] [] I J R := by
  refine k_ld hK 3 dL_law_1005 rfl rfl rfl rfl ?_
  refine k_ld hK 4 dL_law_1006 rfl rfl rfl rfl ?_
  refine k_ld hK 0 dL_law_1007 rfl rfl rfl rfl ?_
  refine k_ic hK dL_law_1009 (v := nI 1) rfl ?_
  refine k_op hK dL_law_1010 rfl rfl ?_
  refine k_sld hK dL_law_1011 rfl (by omega) (nI_add i 1) (by omega) ?_
  refine k_ld hK 4 dL_law_1012 rfl rfl rfl rfl ?_
  refine k_ld hK 0 dL_law_1013 rfl rfl rfl rfl ?_
  refine k_ic hK dL_law_1015 (v := nI 2) rfl ?_
  refine k_op hK dL_law_1016 rfl rfl ?_
  refine k_sld hK dL_law_1017 rfl (by omega) (nI_add i 2) (by omega) ?_
  refine k_cV hK dL_law_1018 (Or.inl lm_L_111) (As := [.int (xs (i + 1)), .int (xs (i + 2))]) (S := []) rfl (sc_0 hs) (by decide) (fit_L hs hg rfl rfl) rfl h ?_
  rintro r I1 J1 R1 ⟨V, rfl, hs1, hg1, h1⟩
  show K _ _ [.int V] I1 J1 R1
  refine k_ld hK 2 dL_law_1021 rfl rfl rfl rfl ?_
  refine k_ld hK 4 dL_law_1022 rfl rfl rfl rfl ?_
  refine k_ld hK 0 dL_law_1023 rfl rfl rfl rfl ?_
  refine k_ic hK dL_law_1025 (v := nI 1) rfl ?_
  refine k_op hK dL_law_1026 rfl rfl ?_
  refine k_sld hK dL_law_1027 rfl (by omega) (nI_add i 1) (by omega) ?_
  refine k_ld hK 4 dL_law_1028 rfl rfl rfl rfl ?_
  refine k_ld hK 0 dL_law_1029 rfl rfl rfl rfl ?_
  refine k_ic hK dL_law_1031 (v := nI 2) rfl ?_
  refine k_op hK dL_law_1032 rfl rfl ?_
  refine k_sld hK dL_law_1033 rfl (by omega) (nI_add i 2) (by omega) ?_
  refine k_cV hK dL_law_1034 (Or.inl lm_L_114) (As := [.int (xs (i + 1)), .int (xs (i + 2))]) (S := [.int V]) rfl (sc_80 hs1) (Nat.le_of_ble_eq_true rfl) (fit_L hs1 (by rw [hg1]; exact hg) rfl rfl) rfl h1 ?_
  rintro r2 I2 J2 R2 ⟨rfl, hg2, ht⟩
  show K _ _ [.int V, .int V] I2 J2 R2
  exact k_ceq hK dL_law_1037 (tgt := 1473) rfl (fun _ => hn I2 J2 R2 ht hg2) (fun z => absurd rfl z)
set_option maxHeartbeats 1000000 in
theorem lc_1042 (hK : am_R M_L_law (am_W 64) (some (L, xs)) RZ Q K) (hL : L ≤ 3584) (hi : i + 7 ≤ L) (hs : Stat R) (hg : am_g R ≤ 600) (h : asks M_X11_bends M_X12_bends [.int (xs (i + 1))] I J R) (hn : ∀ I2 J2 R2, TOP I2 J2 R2 → am_g R2 = am_g R → K 1473 [(4, .int (nI i)), (3, .ref 121), (2, .ref 80), (1, .ref 0), (0, .ref 999)] [] I2 J2 R2) : K 1042 [(4, .int (nI i)), (3, .ref 121), (2, .ref 80), (1, .ref 0), (0, .ref 999)] [] I J R := by
  refine k_ld hK 3 dL_law_1042 rfl rfl rfl rfl ?_
  refine k_ld hK 4 dL_law_1043 rfl rfl rfl rfl ?_
  refine k_ld hK 0 dL_law_1044 rfl rfl rfl rfl ?_
  refine k_ic hK dL_law_1046 (v := nI 1) rfl ?_
  refine k_op hK dL_law_1047 rfl rfl ?_
  refine k_sld hK dL_law_1048 rfl (by omega) (nI_add i 1) (by omega) ?_
  refine k_cV hK dL_law_1049 (Or.inl lm_L_115) (As := [.int (xs (i + 1))]) (S := []) rfl (sc_0 hs) (by decide) (fit_L hs hg rfl rfl) rfl h ?_
  rintro r I1 J1 R1 ⟨V, rfl, hs1, hg1, h1⟩
  show K _ _ [.int V] I1 J1 R1
  refine k_ld hK 2 dL_law_1052 rfl rfl rfl rfl ?_
  refine k_ld hK 4 dL_law_1053 rfl rfl rfl rfl ?_
  refine k_ld hK 0 dL_law_1054 rfl rfl rfl rfl ?_
  refine k_ic hK dL_law_1056 (v := nI 1) rfl ?_
  refine k_op hK dL_law_1057 rfl rfl ?_
  refine k_sld hK dL_law_1058 rfl (by omega) (nI_add i 1) (by omega) ?_
  refine k_cV hK dL_law_1059 (Or.inl lm_L_118) (As := [.int (xs (i + 1))]) (S := [.int V]) rfl (sc_80 hs1) (Nat.le_of_ble_eq_true rfl) (fit_L hs1 (by rw [hg1]; exact hg) rfl rfl) rfl h1 ?_
  rintro r2 I2 J2 R2 ⟨rfl, hg2, ht⟩
  show K _ _ [.int V, .int V] I2 J2 R2
  exact k_ceq hK dL_law_1062 (tgt := 1473) rfl (fun _ => hn I2 J2 R2 ht hg2) (fun z => absurd rfl z)
set_option maxHeartbeats 1000000 in
theorem lc_1067 (hK : am_R M_L_law (am_W 64) (some (L, xs)) RZ Q K) (hL : L ≤ 3584) (hi : i + 7 ≤ L) (hs : Stat R) (hg : am_g R ≤ 600) (h : asks M_X11_hangs M_X12_hangs [.int (xs (i + 1)), .int (xs (i + 2)), .int (xs (i + 3))] I J R) (hn : ∀ I2 J2 R2, TOP I2 J2 R2 → am_g R2 = am_g R → K 1473 [(4, .int (nI i)), (3, .ref 121), (2, .ref 80), (1, .ref 0), (0, .ref 999)] [] I2 J2 R2) : K 1067 [(4, .int (nI i)), (3, .ref 121), (2, .ref 80), (1, .ref 0), (0, .ref 999)] [] I J R := by
  refine k_ld hK 3 dL_law_1067 rfl rfl rfl rfl ?_
  refine k_ld hK 4 dL_law_1068 rfl rfl rfl rfl ?_
  refine k_ld hK 0 dL_law_1069 rfl rfl rfl rfl ?_
  refine k_ic hK dL_law_1071 (v := nI 1) rfl ?_
  refine k_op hK dL_law_1072 rfl rfl ?_
  refine k_sld hK dL_law_1073 rfl (by omega) (nI_add i 1) (by omega) ?_
  refine k_ld hK 4 dL_law_1074 rfl rfl rfl rfl ?_
  refine k_ld hK 0 dL_law_1075 rfl rfl rfl rfl ?_
  refine k_ic hK dL_law_1077 (v := nI 2) rfl ?_
  refine k_op hK dL_law_1078 rfl rfl ?_
  refine k_sld hK dL_law_1079 rfl (by omega) (nI_add i 2) (by omega) ?_
  refine k_ld hK 4 dL_law_1080 rfl rfl rfl rfl ?_
  refine k_ld hK 0 dL_law_1081 rfl rfl rfl rfl ?_
  refine k_ic hK dL_law_1083 (v := nI 3) rfl ?_
  refine k_op hK dL_law_1084 rfl rfl ?_
  refine k_sld hK dL_law_1085 rfl (by omega) (nI_add i 3) (by omega) ?_
  refine k_cV hK dL_law_1086 (Or.inl lm_L_119) (As := [.int (xs (i + 1)), .int (xs (i + 2)), .int (xs (i + 3))]) (S := []) rfl (sc_0 hs) (by decide) (fit_L hs hg rfl rfl) rfl h ?_
  rintro r I1 J1 R1 ⟨V, rfl, hs1, hg1, h1⟩
  show K _ _ [.int V] I1 J1 R1
  refine k_ld hK 2 dL_law_1089 rfl rfl rfl rfl ?_
  refine k_ld hK 4 dL_law_1090 rfl rfl rfl rfl ?_
  refine k_ld hK 0 dL_law_1091 rfl rfl rfl rfl ?_
  refine k_ic hK dL_law_1093 (v := nI 1) rfl ?_
  refine k_op hK dL_law_1094 rfl rfl ?_
  refine k_sld hK dL_law_1095 rfl (by omega) (nI_add i 1) (by omega) ?_
  refine k_ld hK 4 dL_law_1096 rfl rfl rfl rfl ?_
  refine k_ld hK 0 dL_law_1097 rfl rfl rfl rfl ?_
  refine k_ic hK dL_law_1099 (v := nI 2) rfl ?_
  refine k_op hK dL_law_1100 rfl rfl ?_
  refine k_sld hK dL_law_1101 rfl (by omega) (nI_add i 2) (by omega) ?_
  refine k_ld hK 4 dL_law_1102 rfl rfl rfl rfl ?_
  refine k_ld hK 0 dL_law_1103 rfl rfl rfl rfl ?_
  refine k_ic hK dL_law_1105 (v := nI 3) rfl ?_
  refine k_op hK dL_law_1106 rfl rfl ?_
  refine k_sld hK dL_law_1107 rfl (by omega) (nI_add i 3) (by omega) ?_
  refine k_cV hK dL_law_1108 (Or.inl lm_L_122) (As := [.int (xs (i + 1)), .int (xs (i + 2)), .int (xs (i + 3))]) (S := [.int V]) rfl (sc_80 hs1) (Nat.le_of_ble_eq_true rfl) (fit_L hs1 (by rw [hg1]; exact hg) rfl rfl) rfl h1 ?_
  rintro r2 I2 J2 R2 ⟨rfl, hg2, ht⟩
  show K _ _ [.int V, .int V] I2 J2 R2
  exact k_ceq hK dL_law_1111 (tgt := 1473) rfl (fun _ => hn I2 J2 R2 ht hg2) (fun z => absurd rfl z)
set_option maxHeartbeats 1000000 in
theorem lc_1116 (hK : am_R M_L_law (am_W 64) (some (L, xs)) RZ Q K) (hL : L ≤ 3584) (hi : i + 7 ≤ L) (hs : Stat R) (hg : am_g R ≤ 600) (h : asks M_X11_back M_X12_back [.int (xs (i + 1)), .int (xs (i + 2))] I J R) (hn : ∀ I2 J2 R2, TOP I2 J2 R2 → am_g R2 = am_g R → K 1473 [(4, .int (nI i)), (3, .ref 121), (2, .ref 80), (1, .ref 0), (0, .ref 999)] [] I2 J2 R2) : K 1116 [(4, .int (nI i)), (3, .ref 121), (2, .ref 80), (1, .ref 0), (0, .ref 999)] [] I J R := by
  refine k_ld hK 3 dL_law_1116 rfl rfl rfl rfl ?_
  refine k_ld hK 4 dL_law_1117 rfl rfl rfl rfl ?_
  refine k_ld hK 0 dL_law_1118 rfl rfl rfl rfl ?_
  refine k_ic hK dL_law_1120 (v := nI 1) rfl ?_
  refine k_op hK dL_law_1121 rfl rfl ?_
  refine k_sld hK dL_law_1122 rfl (by omega) (nI_add i 1) (by omega) ?_
  refine k_ld hK 4 dL_law_1123 rfl rfl rfl rfl ?_
  refine k_ld hK 0 dL_law_1124 rfl rfl rfl rfl ?_
  refine k_ic hK dL_law_1126 (v := nI 2) rfl ?_
  refine k_op hK dL_law_1127 rfl rfl ?_
  refine k_sld hK dL_law_1128 rfl (by omega) (nI_add i 2) (by omega) ?_
  refine k_cV hK dL_law_1129 (Or.inl lm_L_123) (As := [.int (xs (i + 1)), .int (xs (i + 2))]) (S := []) rfl (sc_0 hs) (by decide) (fit_L hs hg rfl rfl) rfl h ?_
  rintro r I1 J1 R1 ⟨V, rfl, hs1, hg1, h1⟩
  show K _ _ [.int V] I1 J1 R1
  refine k_ld hK 2 dL_law_1132 rfl rfl rfl rfl ?_
  refine k_ld hK 4 dL_law_1133 rfl rfl rfl rfl ?_
  refine k_ld hK 0 dL_law_1134 rfl rfl rfl rfl ?_
  refine k_ic hK dL_law_1136 (v := nI 1) rfl ?_
  refine k_op hK dL_law_1137 rfl rfl ?_
  refine k_sld hK dL_law_1138 rfl (by omega) (nI_add i 1) (by omega) ?_
  refine k_ld hK 4 dL_law_1139 rfl rfl rfl rfl ?_
  refine k_ld hK 0 dL_law_1140 rfl rfl rfl rfl ?_
  refine k_ic hK dL_law_1142 (v := nI 2) rfl ?_
  refine k_op hK dL_law_1143 rfl rfl ?_
  refine k_sld hK dL_law_1144 rfl (by omega) (nI_add i 2) (by omega) ?_
  refine k_cV hK dL_law_1145 (Or.inl lm_L_126) (As := [.int (xs (i + 1)), .int (xs (i + 2))]) (S := [.int V]) rfl (sc_80 hs1) (Nat.le_of_ble_eq_true rfl) (fit_L hs1 (by rw [hg1]; exact hg) rfl rfl) rfl h1 ?_
  rintro r2 I2 J2 R2 ⟨rfl, hg2, ht⟩
  show K _ _ [.int V, .int V] I2 J2 R2
  exact k_ceq hK dL_law_1148 (tgt := 1473) rfl (fun _ => hn I2 J2 R2 ht hg2) (fun z => absurd rfl z)
set_option maxHeartbeats 1000000 in
theorem lc_1153 (hK : am_R M_L_law (am_W 64) (some (L, xs)) RZ Q K) (hL : L ≤ 3584) (hi : i + 7 ≤ L) (hs : Stat R) (hg : am_g R ≤ 600) (h : asks M_X11_cost M_X12_cost [.int (xs (i + 1)), .int (xs (i + 2))] I J R) (hn : ∀ I2 J2 R2, TOP I2 J2 R2 → am_g R2 = am_g R → K 1473 [(4, .int (nI i)), (3, .ref 121), (2, .ref 80), (1, .ref 0), (0, .ref 999)] [] I2 J2 R2) : K 1153 [(4, .int (nI i)), (3, .ref 121), (2, .ref 80), (1, .ref 0), (0, .ref 999)] [] I J R := by
  refine k_ld hK 3 dL_law_1153 rfl rfl rfl rfl ?_
  refine k_ld hK 4 dL_law_1154 rfl rfl rfl rfl ?_
  refine k_ld hK 0 dL_law_1155 rfl rfl rfl rfl ?_
  refine k_ic hK dL_law_1157 (v := nI 1) rfl ?_
  refine k_op hK dL_law_1158 rfl rfl ?_
  refine k_sld hK dL_law_1159 rfl (by omega) (nI_add i 1) (by omega) ?_
  refine k_ld hK 4 dL_law_1160 rfl rfl rfl rfl ?_
  refine k_ld hK 0 dL_law_1161 rfl rfl rfl rfl ?_
  refine k_ic hK dL_law_1163 (v := nI 2) rfl ?_
  refine k_op hK dL_law_1164 rfl rfl ?_
  refine k_sld hK dL_law_1165 rfl (by omega) (nI_add i 2) (by omega) ?_
  refine k_cV hK dL_law_1166 (Or.inl lm_L_127) (As := [.int (xs (i + 1)), .int (xs (i + 2))]) (S := []) rfl (sc_0 hs) (by decide) (fit_L hs hg rfl rfl) rfl h ?_
  rintro r I1 J1 R1 ⟨V, rfl, hs1, hg1, h1⟩
  show K _ _ [.int V] I1 J1 R1
  refine k_ld hK 2 dL_law_1169 rfl rfl rfl rfl ?_
  refine k_ld hK 4 dL_law_1170 rfl rfl rfl rfl ?_
  refine k_ld hK 0 dL_law_1171 rfl rfl rfl rfl ?_
  refine k_ic hK dL_law_1173 (v := nI 1) rfl ?_
  refine k_op hK dL_law_1174 rfl rfl ?_
  refine k_sld hK dL_law_1175 rfl (by omega) (nI_add i 1) (by omega) ?_
  refine k_ld hK 4 dL_law_1176 rfl rfl rfl rfl ?_
  refine k_ld hK 0 dL_law_1177 rfl rfl rfl rfl ?_
  refine k_ic hK dL_law_1179 (v := nI 2) rfl ?_
  refine k_op hK dL_law_1180 rfl rfl ?_
  refine k_sld hK dL_law_1181 rfl (by omega) (nI_add i 2) (by omega) ?_
  refine k_cV hK dL_law_1182 (Or.inl lm_L_130) (As := [.int (xs (i + 1)), .int (xs (i + 2))]) (S := [.int V]) rfl (sc_80 hs1) (Nat.le_of_ble_eq_true rfl) (fit_L hs1 (by rw [hg1]; exact hg) rfl rfl) rfl h1 ?_
  rintro r2 I2 J2 R2 ⟨rfl, hg2, ht⟩
  show K _ _ [.int V, .int V] I2 J2 R2
  exact k_ceq hK dL_law_1185 (tgt := 1473) rfl (fun _ => hn I2 J2 R2 ht hg2) (fun z => absurd rfl z)
set_option maxHeartbeats 1000000 in
theorem lc_1190 (hK : am_R M_L_law (am_W 64) (some (L, xs)) RZ Q K) (hL : L ≤ 3584) (hi : i + 7 ≤ L) (hs : Stat R) (hg : am_g R ≤ 600) (h : asks M_X11_few M_X12_few [.int (xs (i + 1)), .int (xs (i + 2))] I J R) (hn : ∀ I2 J2 R2, TOP I2 J2 R2 → am_g R2 = am_g R → K 1473 [(4, .int (nI i)), (3, .ref 121), (2, .ref 80), (1, .ref 0), (0, .ref 999)] [] I2 J2 R2) : K 1190 [(4, .int (nI i)), (3, .ref 121), (2, .ref 80), (1, .ref 0), (0, .ref 999)] [] I J R := by
  refine k_ld hK 3 dL_law_1190 rfl rfl rfl rfl ?_
  refine k_ld hK 4 dL_law_1191 rfl rfl rfl rfl ?_
  refine k_ld hK 0 dL_law_1192 rfl rfl rfl rfl ?_
  refine k_ic hK dL_law_1194 (v := nI 1) rfl ?_
  refine k_op hK dL_law_1195 rfl rfl ?_
  refine k_sld hK dL_law_1196 rfl (by omega) (nI_add i 1) (by omega) ?_
  refine k_ld hK 4 dL_law_1197 rfl rfl rfl rfl ?_
  refine k_ld hK 0 dL_law_1198 rfl rfl rfl rfl ?_
  refine k_ic hK dL_law_1200 (v := nI 2) rfl ?_
  refine k_op hK dL_law_1201 rfl rfl ?_
  refine k_sld hK dL_law_1202 rfl (by omega) (nI_add i 2) (by omega) ?_
  refine k_cV hK dL_law_1203 (Or.inl lm_L_131) (As := [.int (xs (i + 1)), .int (xs (i + 2))]) (S := []) rfl (sc_0 hs) (by decide) (fit_L hs hg rfl rfl) rfl h ?_
  rintro r I1 J1 R1 ⟨V, rfl, hs1, hg1, h1⟩
  show K _ _ [.int V] I1 J1 R1
  refine k_ld hK 2 dL_law_1206 rfl rfl rfl rfl ?_
  refine k_ld hK 4 dL_law_1207 rfl rfl rfl rfl ?_
  refine k_ld hK 0 dL_law_1208 rfl rfl rfl rfl ?_
  refine k_ic hK dL_law_1210 (v := nI 1) rfl ?_
  refine k_op hK dL_law_1211 rfl rfl ?_
  refine k_sld hK dL_law_1212 rfl (by omega) (nI_add i 1) (by omega) ?_
  refine k_ld hK 4 dL_law_1213 rfl rfl rfl rfl ?_
  refine k_ld hK 0 dL_law_1214 rfl rfl rfl rfl ?_
  refine k_ic hK dL_law_1216 (v := nI 2) rfl ?_
  refine k_op hK dL_law_1217 rfl rfl ?_
  refine k_sld hK dL_law_1218 rfl (by omega) (nI_add i 2) (by omega) ?_
  refine k_cV hK dL_law_1219 (Or.inl lm_L_134) (As := [.int (xs (i + 1)), .int (xs (i + 2))]) (S := [.int V]) rfl (sc_80 hs1) (Nat.le_of_ble_eq_true rfl) (fit_L hs1 (by rw [hg1]; exact hg) rfl rfl) rfl h1 ?_
  rintro r2 I2 J2 R2 ⟨rfl, hg2, ht⟩
  show K _ _ [.int V, .int V] I2 J2 R2
  exact k_ceq hK dL_law_1222 (tgt := 1473) rfl (fun _ => hn I2 J2 R2 ht hg2) (fun z => absurd rfl z)
set_option maxHeartbeats 1000000 in
theorem lc_1227 (hK : am_R M_L_law (am_W 64) (some (L, xs)) RZ Q K) (hL : L ≤ 3584) (hi : i + 7 ≤ L) (hs : Stat R) (hg : am_g R ≤ 600) (h : asks M_X11_split M_X12_split [.int (xs (i + 1)), .int (xs (i + 2))] I J R) (hn : ∀ I2 J2 R2, TOP I2 J2 R2 → am_g R2 = am_g R → K 1473 [(4, .int (nI i)), (3, .ref 121), (2, .ref 80), (1, .ref 0), (0, .ref 999)] [] I2 J2 R2) : K 1227 [(4, .int (nI i)), (3, .ref 121), (2, .ref 80), (1, .ref 0), (0, .ref 999)] [] I J R := by
  refine k_ld hK 3 dL_law_1227 rfl rfl rfl rfl ?_
  refine k_ld hK 4 dL_law_1228 rfl rfl rfl rfl ?_
  refine k_ld hK 0 dL_law_1229 rfl rfl rfl rfl ?_
  refine k_ic hK dL_law_1231 (v := nI 1) rfl ?_
  refine k_op hK dL_law_1232 rfl rfl ?_
  refine k_sld hK dL_law_1233 rfl (by omega) (nI_add i 1) (by omega) ?_
  refine k_ld hK 4 dL_law_1234 rfl rfl rfl rfl ?_
  refine k_ld hK 0 dL_law_1235 rfl rfl rfl rfl ?_
  refine k_ic hK dL_law_1237 (v := nI 2) rfl ?_
  refine k_op hK dL_law_1238 rfl rfl ?_
  refine k_sld hK dL_law_1239 rfl (by omega) (nI_add i 2) (by omega) ?_
  refine k_cV hK dL_law_1240 (Or.inl lm_L_135) (As := [.int (xs (i + 1)), .int (xs (i + 2))]) (S := []) rfl (sc_0 hs) (by decide) (fit_L hs hg rfl rfl) rfl h ?_
  rintro r I1 J1 R1 ⟨V, rfl, hs1, hg1, h1⟩
  show K _ _ [.int V] I1 J1 R1
  refine k_ld hK 2 dL_law_1243 rfl rfl rfl rfl ?_
  refine k_ld hK 4 dL_law_1244 rfl rfl rfl rfl ?_
  refine k_ld hK 0 dL_law_1245 rfl rfl rfl rfl ?_
  refine k_ic hK dL_law_1247 (v := nI 1) rfl ?_
  refine k_op hK dL_law_1248 rfl rfl ?_
  refine k_sld hK dL_law_1249 rfl (by omega) (nI_add i 1) (by omega) ?_
  refine k_ld hK 4 dL_law_1250 rfl rfl rfl rfl ?_
  refine k_ld hK 0 dL_law_1251 rfl rfl rfl rfl ?_
  refine k_ic hK dL_law_1253 (v := nI 2) rfl ?_
  refine k_op hK dL_law_1254 rfl rfl ?_
  refine k_sld hK dL_law_1255 rfl (by omega) (nI_add i 2) (by omega) ?_
  refine k_cV hK dL_law_1256 (Or.inl lm_L_138) (As := [.int (xs (i + 1)), .int (xs (i + 2))]) (S := [.int V]) rfl (sc_80 hs1) (Nat.le_of_ble_eq_true rfl) (fit_L hs1 (by rw [hg1]; exact hg) rfl rfl) rfl h1 ?_
  rintro r2 I2 J2 R2 ⟨rfl, hg2, ht⟩
  show K _ _ [.int V, .int V] I2 J2 R2
  exact k_ceq hK dL_law_1259 (tgt := 1473) rfl (fun _ => hn I2 J2 R2 ht hg2) (fun z => absurd rfl z)
set_option maxHeartbeats 1000000 in
theorem lc_1264 (hK : am_R M_L_law (am_W 64) (some (L, xs)) RZ Q K) (hL : L ≤ 3584) (hi : i + 7 ≤ L) (hs : Stat R) (hg : am_g R ≤ 600) (h : asks M_X11_states M_X12_states [.int (xs (i + 1)), .int (xs (i + 2))] I J R) (hn : ∀ I2 J2 R2, TOP I2 J2 R2 → am_g R2 = am_g R → K 1473 [(4, .int (nI i)), (3, .ref 121), (2, .ref 80), (1, .ref 0), (0, .ref 999)] [] I2 J2 R2) : K 1264 [(4, .int (nI i)), (3, .ref 121), (2, .ref 80), (1, .ref 0), (0, .ref 999)] [] I J R := by
  refine k_ld hK 3 dL_law_1264 rfl rfl rfl rfl ?_
  refine k_ld hK 4 dL_law_1265 rfl rfl rfl rfl ?_
  refine k_ld hK 0 dL_law_1266 rfl rfl rfl rfl ?_
  refine k_ic hK dL_law_1268 (v := nI 1) rfl ?_
  refine k_op hK dL_law_1269 rfl rfl ?_
  refine k_sld hK dL_law_1270 rfl (by omega) (nI_add i 1) (by omega) ?_
  refine k_ld hK 4 dL_law_1271 rfl rfl rfl rfl ?_
  refine k_ld hK 0 dL_law_1272 rfl rfl rfl rfl ?_
  refine k_ic hK dL_law_1274 (v := nI 2) rfl ?_
  refine k_op hK dL_law_1275 rfl rfl ?_
  refine k_sld hK dL_law_1276 rfl (by omega) (nI_add i 2) (by omega) ?_
  refine k_cV hK dL_law_1277 (Or.inl lm_L_139) (As := [.int (xs (i + 1)), .int (xs (i + 2))]) (S := []) rfl (sc_0 hs) (by decide) (fit_L hs hg rfl rfl) rfl h ?_
  rintro r I1 J1 R1 ⟨V, rfl, hs1, hg1, h1⟩
  show K _ _ [.int V] I1 J1 R1
  refine k_ld hK 2 dL_law_1280 rfl rfl rfl rfl ?_
  refine k_ld hK 4 dL_law_1281 rfl rfl rfl rfl ?_
  refine k_ld hK 0 dL_law_1282 rfl rfl rfl rfl ?_
  refine k_ic hK dL_law_1284 (v := nI 1) rfl ?_
  refine k_op hK dL_law_1285 rfl rfl ?_
  refine k_sld hK dL_law_1286 rfl (by omega) (nI_add i 1) (by omega) ?_
  refine k_ld hK 4 dL_law_1287 rfl rfl rfl rfl ?_
  refine k_ld hK 0 dL_law_1288 rfl rfl rfl rfl ?_
  refine k_ic hK dL_law_1290 (v := nI 2) rfl ?_
  refine k_op hK dL_law_1291 rfl rfl ?_
  refine k_sld hK dL_law_1292 rfl (by omega) (nI_add i 2) (by omega) ?_
  refine k_cV hK dL_law_1293 (Or.inl lm_L_142) (As := [.int (xs (i + 1)), .int (xs (i + 2))]) (S := [.int V]) rfl (sc_80 hs1) (Nat.le_of_ble_eq_true rfl) (fit_L hs1 (by rw [hg1]; exact hg) rfl rfl) rfl h1 ?_
  rintro r2 I2 J2 R2 ⟨rfl, hg2, ht⟩
  show K _ _ [.int V, .int V] I2 J2 R2
  exact k_ceq hK dL_law_1296 (tgt := 1473) rfl (fun _ => hn I2 J2 R2 ht hg2) (fun z => absurd rfl z)
set_option maxHeartbeats 1000000 in
theorem lc_1301 (hK : am_R M_L_law (am_W 64) (some (L, xs)) RZ Q K) (hL : L ≤ 3584) (hi : i + 7 ≤ L) (hs : Stat R) (hg : am_g R ≤ 600) (h : asks M_X11_action M_X12_action [.int (xs (i + 1)), .int (xs (i + 2)), .int (xs (i + 3)), .int (xs (i + 4))] I J R) (hn : ∀ I2 J2 R2, TOP I2 J2 R2 → am_g R2 = am_g R → K 1473 [(4, .int (nI i)), (3, .ref 121), (2, .ref 80), (1, .ref 0), (0, .ref 999)] [] I2 J2 R2) : K 1301 [(4, .int (nI i)), (3, .ref 121), (2, .ref 80), (1, .ref 0), (0, .ref 999)] [] I J R := by
  refine k_ld hK 3 dL_law_1301 rfl rfl rfl rfl ?_
  refine k_ld hK 4 dL_law_1302 rfl rfl rfl rfl ?_
  refine k_ld hK 0 dL_law_1303 rfl rfl rfl rfl ?_
  refine k_ic hK dL_law_1305 (v := nI 1) rfl ?_
  refine k_op hK dL_law_1306 rfl rfl ?_
  refine k_sld hK dL_law_1307 rfl (by omega) (nI_add i 1) (by omega) ?_
  refine k_ld hK 4 dL_law_1308 rfl rfl rfl rfl ?_
  refine k_ld hK 0 dL_law_1309 rfl rfl rfl rfl ?_
  refine k_ic hK dL_law_1311 (v := nI 2) rfl ?_
  refine k_op hK dL_law_1312 rfl rfl ?_
  refine k_sld hK dL_law_1313 rfl (by omega) (nI_add i 2) (by omega) ?_
  refine k_ld hK 4 dL_law_1314 rfl rfl rfl rfl ?_
  refine k_ld hK 0 dL_law_1315 rfl rfl rfl rfl ?_
  refine k_ic hK dL_law_1317 (v := nI 3) rfl ?_
  refine k_op hK dL_law_1318 rfl rfl ?_
  refine k_sld hK dL_law_1319 rfl (by omega) (nI_add i 3) (by omega) ?_
  refine k_ld hK 4 dL_law_1320 rfl rfl rfl rfl ?_
  refine k_ld hK 0 dL_law_1321 rfl rfl rfl rfl ?_
  refine k_ic hK dL_law_1323 (v := nI 4) rfl ?_
  refine k_op hK dL_law_1324 rfl rfl ?_
  refine k_sld hK dL_law_1325 rfl (by omega) (nI_add i 4) (by omega) ?_
  refine k_cV hK dL_law_1326 (Or.inl lm_L_143) (As := [.int (xs (i + 1)), .int (xs (i + 2)), .int (xs (i + 3)), .int (xs (i + 4))]) (S := []) rfl (sc_0 hs) (by decide) (fit_L hs hg rfl rfl) rfl h ?_
  rintro r I1 J1 R1 ⟨V, rfl, hs1, hg1, h1⟩
  show K _ _ [.int V] I1 J1 R1
  refine k_ld hK 2 dL_law_1329 rfl rfl rfl rfl ?_
  refine k_ld hK 4 dL_law_1330 rfl rfl rfl rfl ?_
  refine k_ld hK 0 dL_law_1331 rfl rfl rfl rfl ?_
  refine k_ic hK dL_law_1333 (v := nI 1) rfl ?_
  refine k_op hK dL_law_1334 rfl rfl ?_
  refine k_sld hK dL_law_1335 rfl (by omega) (nI_add i 1) (by omega) ?_
  refine k_ld hK 4 dL_law_1336 rfl rfl rfl rfl ?_
  refine k_ld hK 0 dL_law_1337 rfl rfl rfl rfl ?_
  refine k_ic hK dL_law_1339 (v := nI 2) rfl ?_
  refine k_op hK dL_law_1340 rfl rfl ?_
  refine k_sld hK dL_law_1341 rfl (by omega) (nI_add i 2) (by omega) ?_
  refine k_ld hK 4 dL_law_1342 rfl rfl rfl rfl ?_
  refine k_ld hK 0 dL_law_1343 rfl rfl rfl rfl ?_
  refine k_ic hK dL_law_1345 (v := nI 3) rfl ?_
  refine k_op hK dL_law_1346 rfl rfl ?_
  refine k_sld hK dL_law_1347 rfl (by omega) (nI_add i 3) (by omega) ?_
  refine k_ld hK 4 dL_law_1348 rfl rfl rfl rfl ?_
  refine k_ld hK 0 dL_law_1349 rfl rfl rfl rfl ?_
  refine k_ic hK dL_law_1351 (v := nI 4) rfl ?_
  refine k_op hK dL_law_1352 rfl rfl ?_
  refine k_sld hK dL_law_1353 rfl (by omega) (nI_add i 4) (by omega) ?_
  refine k_cV hK dL_law_1354 (Or.inl lm_L_147) (As := [.int (xs (i + 1)), .int (xs (i + 2)), .int (xs (i + 3)), .int (xs (i + 4))]) (S := [.int V]) rfl (sc_80 hs1) (Nat.le_of_ble_eq_true rfl) (fit_L hs1 (by rw [hg1]; exact hg) rfl rfl) rfl h1 ?_
  rintro r2 I2 J2 R2 ⟨rfl, hg2, ht⟩
  show K _ _ [.int V, .int V] I2 J2 R2
  exact k_ceq hK dL_law_1357 (tgt := 1473) rfl (fun _ => hn I2 J2 R2 ht hg2) (fun z => absurd rfl z)
set_option maxHeartbeats 1000000 in
theorem lc_1362 (hK : am_R M_L_law (am_W 64) (some (L, xs)) RZ Q K) (hL : L ≤ 3584) (hi : i + 7 ≤ L) (hs : Stat R) (hg : am_g R ≤ 600) (h : asks M_X11_actions M_X12_actions [.int (xs (i + 1)), .int (xs (i + 2)), .int (xs (i + 3))] I J R) (hn : ∀ I2 J2 R2, TOP I2 J2 R2 → am_g R2 = am_g R → K 1473 [(4, .int (nI i)), (3, .ref 121), (2, .ref 80), (1, .ref 0), (0, .ref 999)] [] I2 J2 R2) : K 1362 [(4, .int (nI i)), (3, .ref 121), (2, .ref 80), (1, .ref 0), (0, .ref 999)] [] I J R := by
  refine k_ld hK 3 dL_law_1362 rfl rfl rfl rfl ?_
  refine k_ld hK 4 dL_law_1363 rfl rfl rfl rfl ?_
  refine k_ld hK 0 dL_law_1364 rfl rfl rfl rfl ?_
  refine k_ic hK dL_law_1366 (v := nI 1) rfl ?_
  refine k_op hK dL_law_1367 rfl rfl ?_
  refine k_sld hK dL_law_1368 rfl (by omega) (nI_add i 1) (by omega) ?_
  refine k_ld hK 4 dL_law_1369 rfl rfl rfl rfl ?_
  refine k_ld hK 0 dL_law_1370 rfl rfl rfl rfl ?_
  refine k_ic hK dL_law_1372 (v := nI 2) rfl ?_
  refine k_op hK dL_law_1373 rfl rfl ?_
  refine k_sld hK dL_law_1374 rfl (by omega) (nI_add i 2) (by omega) ?_
  refine k_ld hK 4 dL_law_1375 rfl rfl rfl rfl ?_
  refine k_ld hK 0 dL_law_1376 rfl rfl rfl rfl ?_
  refine k_ic hK dL_law_1378 (v := nI 3) rfl ?_
  refine k_op hK dL_law_1379 rfl rfl ?_
  refine k_sld hK dL_law_1380 rfl (by omega) (nI_add i 3) (by omega) ?_
  refine k_cV hK dL_law_1381 (Or.inl lm_L_148) (As := [.int (xs (i + 1)), .int (xs (i + 2)), .int (xs (i + 3))]) (S := []) rfl (sc_0 hs) (by decide) (fit_L hs hg rfl rfl) rfl h ?_
  rintro r I1 J1 R1 ⟨V, rfl, hs1, hg1, h1⟩
  show K _ _ [.int V] I1 J1 R1
  refine k_ld hK 2 dL_law_1384 rfl rfl rfl rfl ?_
  refine k_ld hK 4 dL_law_1385 rfl rfl rfl rfl ?_
  refine k_ld hK 0 dL_law_1386 rfl rfl rfl rfl ?_
  refine k_ic hK dL_law_1388 (v := nI 1) rfl ?_
  refine k_op hK dL_law_1389 rfl rfl ?_
  refine k_sld hK dL_law_1390 rfl (by omega) (nI_add i 1) (by omega) ?_
  refine k_ld hK 4 dL_law_1391 rfl rfl rfl rfl ?_
  refine k_ld hK 0 dL_law_1392 rfl rfl rfl rfl ?_
  refine k_ic hK dL_law_1394 (v := nI 2) rfl ?_
  refine k_op hK dL_law_1395 rfl rfl ?_
  refine k_sld hK dL_law_1396 rfl (by omega) (nI_add i 2) (by omega) ?_
  refine k_ld hK 4 dL_law_1397 rfl rfl rfl rfl ?_
  refine k_ld hK 0 dL_law_1398 rfl rfl rfl rfl ?_
  refine k_ic hK dL_law_1400 (v := nI 3) rfl ?_
  refine k_op hK dL_law_1401 rfl rfl ?_
  refine k_sld hK dL_law_1402 rfl (by omega) (nI_add i 3) (by omega) ?_
  refine k_cV hK dL_law_1403 (Or.inl lm_L_151) (As := [.int (xs (i + 1)), .int (xs (i + 2)), .int (xs (i + 3))]) (S := [.int V]) rfl (sc_80 hs1) (Nat.le_of_ble_eq_true rfl) (fit_L hs1 (by rw [hg1]; exact hg) rfl rfl) rfl h1 ?_
  rintro r2 I2 J2 R2 ⟨rfl, hg2, ht⟩
  show K _ _ [.int V, .int V] I2 J2 R2
  exact k_ceq hK dL_law_1406 (tgt := 1473) rfl (fun _ => hn I2 J2 R2 ht hg2) (fun z => absurd rfl z)
set_option maxHeartbeats 1000000 in
theorem lc_1411 (hK : am_R M_L_law (am_W 64) (some (L, xs)) RZ Q K) (hL : L ≤ 3584) (hi : i + 7 ≤ L) (hs : Stat R) (hg : am_g R ≤ 600) (h : asks M_X11_fraction M_X12_fraction [.int (xs (i + 1)), .int (xs (i + 2))] I J R) (hn : ∀ I2 J2 R2, TOP I2 J2 R2 → am_g R2 = am_g R → K 1473 [(4, .int (nI i)), (3, .ref 121), (2, .ref 80), (1, .ref 0), (0, .ref 999)] [] I2 J2 R2) : K 1411 [(4, .int (nI i)), (3, .ref 121), (2, .ref 80), (1, .ref 0), (0, .ref 999)] [] I J R := by
  refine k_ld hK 3 dL_law_1411 rfl rfl rfl rfl ?_
  refine k_ld hK 4 dL_law_1412 rfl rfl rfl rfl ?_
  refine k_ld hK 0 dL_law_1413 rfl rfl rfl rfl ?_
  refine k_ic hK dL_law_1415 (v := nI 1) rfl ?_
  refine k_op hK dL_law_1416 rfl rfl ?_
  refine k_sld hK dL_law_1417 rfl (by omega) (nI_add i 1) (by omega) ?_
  refine k_ld hK 4 dL_law_1418 rfl rfl rfl rfl ?_
  refine k_ld hK 0 dL_law_1419 rfl rfl rfl rfl ?_
  refine k_ic hK dL_law_1421 (v := nI 2) rfl ?_
  refine k_op hK dL_law_1422 rfl rfl ?_
  refine k_sld hK dL_law_1423 rfl (by omega) (nI_add i 2) (by omega) ?_
  refine k_cV hK dL_law_1424 (Or.inl lm_L_152) (As := [.int (xs (i + 1)), .int (xs (i + 2))]) (S := []) rfl (sc_0 hs) (by decide) (fit_L hs hg rfl rfl) rfl h ?_
  rintro r I1 J1 R1 ⟨V, rfl, hs1, hg1, h1⟩
  show K _ _ [.int V] I1 J1 R1
  refine k_ld hK 2 dL_law_1427 rfl rfl rfl rfl ?_
  refine k_ld hK 4 dL_law_1428 rfl rfl rfl rfl ?_
  refine k_ld hK 0 dL_law_1429 rfl rfl rfl rfl ?_
  refine k_ic hK dL_law_1431 (v := nI 1) rfl ?_
  refine k_op hK dL_law_1432 rfl rfl ?_
  refine k_sld hK dL_law_1433 rfl (by omega) (nI_add i 1) (by omega) ?_
  refine k_ld hK 4 dL_law_1434 rfl rfl rfl rfl ?_
  refine k_ld hK 0 dL_law_1435 rfl rfl rfl rfl ?_
  refine k_ic hK dL_law_1437 (v := nI 2) rfl ?_
  refine k_op hK dL_law_1438 rfl rfl ?_
  refine k_sld hK dL_law_1439 rfl (by omega) (nI_add i 2) (by omega) ?_
  refine k_cV hK dL_law_1440 (Or.inl lm_L_155) (As := [.int (xs (i + 1)), .int (xs (i + 2))]) (S := [.int V]) rfl (sc_80 hs1) (Nat.le_of_ble_eq_true rfl) (fit_L hs1 (by rw [hg1]; exact hg) rfl rfl) rfl h1 ?_
  rintro r2 I2 J2 R2 ⟨rfl, hg2, ht⟩
  show K _ _ [.int V, .int V] I2 J2 R2
  exact k_ceq hK dL_law_1443 (tgt := 1473) rfl (fun _ => hn I2 J2 R2 ht hg2) (fun z => absurd rfl z)
set_option maxHeartbeats 1000000 in
theorem lc_1448 (hK : am_R M_L_law (am_W 64) (some (L, xs)) RZ Q K) (hL : L ≤ 3584) (hi : i + 7 ≤ L) (hs : Stat R) (hg : am_g R ≤ 600) (h : asks M_X11_count M_X12_count [.int (xs (i + 1))] I J R) (hn : ∀ I2 J2 R2, TOP I2 J2 R2 → am_g R2 = am_g R → K 1473 [(4, .int (nI i)), (3, .ref 121), (2, .ref 80), (1, .ref 0), (0, .ref 999)] [] I2 J2 R2) : K 1448 [(4, .int (nI i)), (3, .ref 121), (2, .ref 80), (1, .ref 0), (0, .ref 999)] [] I J R := by
  refine k_ld hK 3 dL_law_1448 rfl rfl rfl rfl ?_
  refine k_ld hK 4 dL_law_1449 rfl rfl rfl rfl ?_
  refine k_ld hK 0 dL_law_1450 rfl rfl rfl rfl ?_
  refine k_ic hK dL_law_1452 (v := nI 1) rfl ?_
  refine k_op hK dL_law_1453 rfl rfl ?_
  refine k_sld hK dL_law_1454 rfl (by omega) (nI_add i 1) (by omega) ?_
  refine k_cV hK dL_law_1455 (Or.inl lm_L_156) (As := [.int (xs (i + 1))]) (S := []) rfl (sc_0 hs) (by decide) (fit_L hs hg rfl rfl) rfl h ?_
  rintro r I1 J1 R1 ⟨V, rfl, hs1, hg1, h1⟩
  show K _ _ [.int V] I1 J1 R1
  refine k_ld hK 2 dL_law_1458 rfl rfl rfl rfl ?_
  refine k_ld hK 4 dL_law_1459 rfl rfl rfl rfl ?_
  refine k_ld hK 0 dL_law_1460 rfl rfl rfl rfl ?_
  refine k_ic hK dL_law_1462 (v := nI 1) rfl ?_
  refine k_op hK dL_law_1463 rfl rfl ?_
  refine k_sld hK dL_law_1464 rfl (by omega) (nI_add i 1) (by omega) ?_
  refine k_cV hK dL_law_1465 (Or.inl lm_L_159) (As := [.int (xs (i + 1))]) (S := [.int V]) rfl (sc_80 hs1) (Nat.le_of_ble_eq_true rfl) (fit_L hs1 (by rw [hg1]; exact hg) rfl rfl) rfl h1 ?_
  rintro r2 I2 J2 R2 ⟨rfl, hg2, ht⟩
  show K _ _ [.int V, .int V] I2 J2 R2
  exact k_ceq hK dL_law_1468 (tgt := 1473) rfl (fun _ => hn I2 J2 R2 ht hg2) (fun z => absurd rfl z)
end LC
