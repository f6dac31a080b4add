/-! the law's calls, one by one -/
section LW
variable {E : hE} {p : Program} {l : Launch} {e : Env} {s : State} {m : MethodId} {below : List Frame} {meth : Method} {c : Code} {b L : Nat} {xs : Nat → Int32} {G : hG} {n : Nat}
theorem lc_0 (C : LC E p s m meth c b L xs) (hn : n + 6 ≤ L) (hI : Inv G) (hF : Frz G) (kk : ∀ G2, Inv G2 → Frz G2 → LG E p l e s m below meth c b (lvI E b (nI n)) 1256 [] G2) : LG E p l e s m below meth c b (lvI E b (nI n)) 212 [] G := by
  obtain ⟨r, g1, g2, hX, hY, hI2⟩ := sp_cell hI (xs (n + 1)) (xs (n + 2))
  obtain ⟨hr1, hF1⟩ := tm104 (d := 200) (by omega) hF r g1 hX
  obtain ⟨hr2, hF2⟩ := tm184 (d := 200) (by omega) hF1 r g2 hY
  refine lg_x C d_law_212 ?_
  refine lg_k C (j := 1) (k := 1) rfl (by omega) d_law_213 d_law_214 d_law_215 d_law_216 d_law_217 ?_
  refine lg_k C (j := 2) (k := 2) rfl (by omega) d_law_218 d_law_219 d_law_220 d_law_221 d_law_222 ?_
  refine lg_cI C (k := 2) (M := 104) (a := 0) wl_13 wi_104 ws_104 wn_RX11 wc_104 cf_X11 (by decide +kernel) d_law_223 [.int (xs (n + 1)), .int (xs (n + 2))] [] rfl rfl rfl (Nat.zero_le 8) (by omega) (Nat.le_of_ble_eq_true rfl) hF hF1 hr1 ?_
  refine lg_m C d_law_226 ?_
  refine lg_k C (j := 1) (k := 1) rfl (by omega) d_law_227 d_law_228 d_law_229 d_law_230 d_law_231 ?_
  refine lg_k C (j := 2) (k := 2) rfl (by omega) d_law_232 d_law_233 d_law_234 d_law_235 d_law_236 ?_
  refine lg_cI C (k := 2) (M := 184) (a := 367) wl_17 wi_184 ws_184 wn_RX12 wc_184 cf_X12 (by decide +kernel) d_law_237 [.int (xs (n + 1)), .int (xs (n + 2))] [.int r] rfl rfl (by decide +kernel) (Nat.le_of_ble_eq_true rfl) (by omega) (Nat.le_of_ble_eq_true rfl) hF1 hF2 hr2 ?_
  exact lg_eq C d_law_240 (by decide) (kk g2 hI2 hF2)
theorem lc_1 (C : LC E p s m meth c b L xs) (hn : n + 6 ≤ L) (hI : Inv G) (hF : Frz G) (kk : ∀ G2, Inv G2 → Frz G2 → LG E p l e s m below meth c b (lvI E b (nI n)) 1256 [] G2) : LG E p l e s m below meth c b (lvI E b (nI n)) 245 [] G := by
  obtain ⟨r, g1, g2, hX, hY, hI2⟩ := sp_door hI (xs (n + 1)) (xs (n + 2))
  obtain ⟨hr1, hF1⟩ := tm105 (d := 200) (by omega) hF r g1 hX
  obtain ⟨hr2, hF2⟩ := tm186 (d := 200) (by omega) hF1 r g2 hY
  refine lg_x C d_law_245 ?_
  refine lg_k C (j := 1) (k := 1) rfl (by omega) d_law_246 d_law_247 d_law_248 d_law_249 d_law_250 ?_
  refine lg_k C (j := 2) (k := 2) rfl (by omega) d_law_251 d_law_252 d_law_253 d_law_254 d_law_255 ?_
  refine lg_cI C (k := 2) (M := 105) (a := 0) wl_18 wi_105 ws_105 wn_RX11 wc_105 cf_X11 (by decide +kernel) d_law_256 [.int (xs (n + 1)), .int (xs (n + 2))] [] rfl rfl rfl (Nat.zero_le 8) (by omega) (Nat.le_of_ble_eq_true rfl) hF hF1 hr1 ?_
  refine lg_m C d_law_259 ?_
  refine lg_k C (j := 1) (k := 1) rfl (by omega) d_law_260 d_law_261 d_law_262 d_law_263 d_law_264 ?_
  refine lg_k C (j := 2) (k := 2) rfl (by omega) d_law_265 d_law_266 d_law_267 d_law_268 d_law_269 ?_
  refine lg_cI C (k := 2) (M := 186) (a := 367) wl_21 wi_186 ws_186 wn_RX12 wc_186 cf_X12 (by decide +kernel) d_law_270 [.int (xs (n + 1)), .int (xs (n + 2))] [.int r] rfl rfl (by decide +kernel) (Nat.le_of_ble_eq_true rfl) (by omega) (Nat.le_of_ble_eq_true rfl) hF1 hF2 hr2 ?_
  exact lg_eq C d_law_273 (by decide) (kk g2 hI2 hF2)
theorem lc_2 (C : LC E p s m meth c b L xs) (hn : n + 6 ≤ L) (hI : Inv G) (hF : Frz G) (kk : ∀ G2, Inv G2 → Frz G2 → LG E p l e s m below meth c b (lvI E b (nI n)) 1256 [] G2) : LG E p l e s m below meth c b (lvI E b (nI n)) 278 [] G := by
  obtain ⟨r, g1, g2, hX, hY, hI2⟩ := sp_letter hI (xs (n + 1)) (xs (n + 2))
  obtain ⟨hr1, hF1⟩ := tm106 (d := 200) (by omega) hF r g1 hX
  obtain ⟨hr2, hF2⟩ := tm187 (d := 200) (by omega) hF1 r g2 hY
  refine lg_x C d_law_278 ?_
  refine lg_k C (j := 1) (k := 1) rfl (by omega) d_law_279 d_law_280 d_law_281 d_law_282 d_law_283 ?_
  refine lg_k C (j := 2) (k := 2) rfl (by omega) d_law_284 d_law_285 d_law_286 d_law_287 d_law_288 ?_
  refine lg_cI C (k := 2) (M := 106) (a := 0) wl_22 wi_106 ws_106 wn_RX11 wc_106 cf_X11 (by decide +kernel) d_law_289 [.int (xs (n + 1)), .int (xs (n + 2))] [] rfl rfl rfl (Nat.zero_le 8) (by omega) (Nat.le_of_ble_eq_true rfl) hF hF1 hr1 ?_
  refine lg_m C d_law_292 ?_
  refine lg_k C (j := 1) (k := 1) rfl (by omega) d_law_293 d_law_294 d_law_295 d_law_296 d_law_297 ?_
  refine lg_k C (j := 2) (k := 2) rfl (by omega) d_law_298 d_law_299 d_law_300 d_law_301 d_law_302 ?_
  refine lg_cI C (k := 2) (M := 187) (a := 367) wl_25 wi_187 ws_187 wn_RX12 wc_187 cf_X12 (by decide +kernel) d_law_303 [.int (xs (n + 1)), .int (xs (n + 2))] [.int r] rfl rfl (by decide +kernel) (Nat.le_of_ble_eq_true rfl) (by omega) (Nat.le_of_ble_eq_true rfl) hF1 hF2 hr2 ?_
  exact lg_eq C d_law_306 (by decide) (kk g2 hI2 hF2)
theorem lc_3 (C : LC E p s m meth c b L xs) (hn : n + 6 ≤ L) (hI : Inv G) (hF : Frz G) (kk : ∀ G2, Inv G2 → Frz G2 → LG E p l e s m below meth c b (lvI E b (nI n)) 1256 [] G2) : LG E p l e s m below meth c b (lvI E b (nI n)) 311 [] G := by
  obtain ⟨r, g1, g2, hX, hY, hI2⟩ := sp_terms hI (xs (n + 1)) (xs (n + 2))
  obtain ⟨hr1, hF1⟩ := tm107 (d := 200) (by omega) hF r g1 hX
  obtain ⟨hr2, hF2⟩ := tm188 (d := 200) (by omega) hF1 r g2 hY
  refine lg_x C d_law_311 ?_
  refine lg_k C (j := 1) (k := 1) rfl (by omega) d_law_312 d_law_313 d_law_314 d_law_315 d_law_316 ?_
  refine lg_k C (j := 2) (k := 2) rfl (by omega) d_law_317 d_law_318 d_law_319 d_law_320 d_law_321 ?_
  refine lg_cI C (k := 2) (M := 107) (a := 0) wl_26 wi_107 ws_107 wn_RX11 wc_107 cf_X11 (by decide +kernel) d_law_322 [.int (xs (n + 1)), .int (xs (n + 2))] [] rfl rfl rfl (Nat.zero_le 8) (by omega) (Nat.le_of_ble_eq_true rfl) hF hF1 hr1 ?_
  refine lg_m C d_law_325 ?_
  refine lg_k C (j := 1) (k := 1) rfl (by omega) d_law_326 d_law_327 d_law_328 d_law_329 d_law_330 ?_
  refine lg_k C (j := 2) (k := 2) rfl (by omega) d_law_331 d_law_332 d_law_333 d_law_334 d_law_335 ?_
  refine lg_cI C (k := 2) (M := 188) (a := 367) wl_29 wi_188 ws_188 wn_RX12 wc_188 cf_X12 (by decide +kernel) d_law_336 [.int (xs (n + 1)), .int (xs (n + 2))] [.int r] rfl rfl (by decide +kernel) (Nat.le_of_ble_eq_true rfl) (by omega) (Nat.le_of_ble_eq_true rfl) hF1 hF2 hr2 ?_
  exact lg_eq C d_law_339 (by decide) (kk g2 hI2 hF2)
theorem lc_4 (C : LC E p s m meth c b L xs) (hn : n + 6 ≤ L) (hI : Inv G) (hF : Frz G) (kk : ∀ G2, Inv G2 → Frz G2 → LG E p l e s m below meth c b (lvI E b (nI n)) 1256 [] G2) : LG E p l e s m below meth c b (lvI E b (nI n)) 344 [] G := by
  obtain ⟨r, g1, g2, hX, hY, hI2⟩ := sp_feed hI (xs (n + 1)) (xs (n + 2)) (xs (n + 3)) (xs (n + 4)) (xs (n + 5))
  obtain ⟨hr1, hF1⟩ := tm109 (d := 200) (by omega) hF r g1 hX
  obtain ⟨hr2, hF2⟩ := tm192 (d := 200) (by omega) hF1 r g2 hY
  refine lg_x C d_law_344 ?_
  refine lg_k C (j := 1) (k := 1) rfl (by omega) d_law_345 d_law_346 d_law_347 d_law_348 d_law_349 ?_
  refine lg_k C (j := 2) (k := 2) rfl (by omega) d_law_350 d_law_351 d_law_352 d_law_353 d_law_354 ?_
  refine lg_k C (j := 3) (k := 3) rfl (by omega) d_law_355 d_law_356 d_law_357 d_law_358 d_law_359 ?_
  refine lg_k C (j := 4) (k := 4) rfl (by omega) d_law_360 d_law_361 d_law_362 d_law_363 d_law_364 ?_
  refine lg_k C (j := 5) (k := 5) rfl (by omega) d_law_365 d_law_366 d_law_367 d_law_368 d_law_369 ?_
  refine lg_cI C (k := 5) (M := 109) (a := 0) wl_30 wi_109 ws_109 wn_RX11 wc_109 cf_X11 (by decide +kernel) d_law_370 [.int (xs (n + 1)), .int (xs (n + 2)), .int (xs (n + 3)), .int (xs (n + 4)), .int (xs (n + 5))] [] rfl rfl rfl (Nat.zero_le 8) (by omega) (Nat.le_of_ble_eq_true rfl) hF hF1 hr1 ?_
  refine lg_m C d_law_373 ?_
  refine lg_k C (j := 1) (k := 1) rfl (by omega) d_law_374 d_law_375 d_law_376 d_law_377 d_law_378 ?_
  refine lg_k C (j := 2) (k := 2) rfl (by omega) d_law_379 d_law_380 d_law_381 d_law_382 d_law_383 ?_
  refine lg_k C (j := 3) (k := 3) rfl (by omega) d_law_384 d_law_385 d_law_386 d_law_387 d_law_388 ?_
  refine lg_k C (j := 4) (k := 4) rfl (by omega) d_law_389 d_law_390 d_law_391 d_law_392 d_law_393 ?_
  refine lg_k C (j := 5) (k := 5) rfl (by omega) d_law_394 d_law_395 d_law_396 d_law_397 d_law_398 ?_
  refine lg_cI C (k := 5) (M := 192) (a := 367) wl_34 wi_192 ws_192 wn_RX12 wc_192 cf_X12 (by decide +kernel) d_law_399 [.int (xs (n + 1)), .int (xs (n + 2)), .int (xs (n + 3)), .int (xs (n + 4)), .int (xs (n + 5))] [.int r] rfl rfl (by decide +kernel) (Nat.le_of_ble_eq_true rfl) (by omega) (Nat.le_of_ble_eq_true rfl) hF1 hF2 hr2 ?_
  exact lg_eq C d_law_402 (by decide) (kk g2 hI2 hF2)
theorem lc_5 (C : LC E p s m meth c b L xs) (hn : n + 6 ≤ L) (hI : Inv G) (hF : Frz G) (kk : ∀ G2, Inv G2 → Frz G2 → LG E p l e s m below meth c b (lvI E b (nI n)) 1256 [] G2) : LG E p l e s m below meth c b (lvI E b (nI n)) 407 [] G := by
  obtain ⟨r, g1, g2, hX, hY, hI2⟩ := sp_end hI (xs (n + 1))
  obtain ⟨hr1, hF1⟩ := tm110 (d := 200) hF r g1 hX
  obtain ⟨hr2, hF2⟩ := tm193 (d := 200) hF1 r g2 hY
  refine lg_x C d_law_407 ?_
  refine lg_k C (j := 1) (k := 1) rfl (by omega) d_law_408 d_law_409 d_law_410 d_law_411 d_law_412 ?_
  refine lg_cI C (k := 1) (M := 110) (a := 0) wl_35 wi_110 ws_110 wn_RX11 wc_110 cf_X11 (by decide +kernel) d_law_413 [.int (xs (n + 1))] [] rfl rfl rfl (Nat.zero_le 8) (by omega) (Nat.le_of_ble_eq_true rfl) hF hF1 hr1 ?_
  refine lg_m C d_law_416 ?_
  refine lg_k C (j := 1) (k := 1) rfl (by omega) d_law_417 d_law_418 d_law_419 d_law_420 d_law_421 ?_
  refine lg_cI C (k := 1) (M := 193) (a := 367) wl_39 wi_193 ws_193 wn_RX12 wc_193 cf_X12 (by decide +kernel) d_law_422 [.int (xs (n + 1))] [.int r] rfl rfl (by decide +kernel) (Nat.le_of_ble_eq_true rfl) (by omega) (Nat.le_of_ble_eq_true rfl) hF1 hF2 hr2 ?_
  exact lg_eq C d_law_425 (by decide) (kk g2 hI2 hF2)
theorem lc_6 (C : LC E p s m meth c b L xs) (hn : n + 6 ≤ L) (hI : Inv G) (hF : Frz G) (kk : ∀ G2, Inv G2 → Frz G2 → LG E p l e s m below meth c b (lvI E b (nI n)) 1256 [] G2) : LG E p l e s m below meth c b (lvI E b (nI n)) 430 [] G := by
  obtain ⟨r, g1, g2, hX, hY, hI2⟩ := sp_row hI 
  obtain ⟨hr1, hF1⟩ := tm111 (d := 200) (by omega) hF r g1 hX
  obtain ⟨hr2, hF2⟩ := tm189 (d := 200) (by omega) hF1 r g2 hY
  refine lg_x C d_law_430 ?_
  refine lg_cI C (k := 0) (M := 111) (a := 0) wl_40 wi_111 ws_111 wn_RX11 wc_111 cf_X11 (by decide +kernel) d_law_431 [] [] rfl rfl rfl (Nat.zero_le 8) (by omega) (Nat.le_of_ble_eq_true rfl) hF hF1 hr1 ?_
  refine lg_m C d_law_434 ?_
  refine lg_cI C (k := 0) (M := 189) (a := 367) wl_44 wi_189 ws_189 wn_RX12 wc_189 cf_X12 (by decide +kernel) d_law_435 [] [.int r] rfl rfl (by decide +kernel) (Nat.le_of_ble_eq_true rfl) (by omega) (Nat.le_of_ble_eq_true rfl) hF1 hF2 hr2 ?_
  exact lg_eq C d_law_438 (by decide) (kk g2 hI2 hF2)
theorem lc_7 (C : LC E p s m meth c b L xs) (hn : n + 6 ≤ L) (hI : Inv G) (hF : Frz G) (kk : ∀ G2, Inv G2 → Frz G2 → LG E p l e s m below meth c b (lvI E b (nI n)) 1256 [] G2) : LG E p l e s m below meth c b (lvI E b (nI n)) 443 [] G := by
  obtain ⟨r, g1, g2, hX, hY, hI2⟩ := sp_beads hI 
  obtain ⟨hr1, hF1⟩ := tm113 (d := 200) hF r g1 hX
  obtain ⟨hr2, hF2⟩ := tm190 (d := 200) hF1 r g2 hY
  refine lg_x C d_law_443 ?_
  refine lg_cI C (k := 0) (M := 113) (a := 0) wl_45 wi_113 ws_113 wn_RX11 wc_113 cf_X11 (by decide +kernel) d_law_444 [] [] rfl rfl rfl (Nat.zero_le 8) (by omega) (Nat.le_of_ble_eq_true rfl) hF hF1 hr1 ?_
  refine lg_m C d_law_447 ?_
  refine lg_cI C (k := 0) (M := 190) (a := 367) wl_48 wi_190 ws_190 wn_RX12 wc_190 cf_X12 (by decide +kernel) d_law_448 [] [.int r] rfl rfl (by decide +kernel) (Nat.le_of_ble_eq_true rfl) (by omega) (Nat.le_of_ble_eq_true rfl) hF1 hF2 hr2 ?_
  exact lg_eq C d_law_451 (by decide) (kk g2 hI2 hF2)
theorem lc_8 (C : LC E p s m meth c b L xs) (hn : n + 6 ≤ L) (hI : Inv G) (hF : Frz G) (kk : ∀ G2, Inv G2 → Frz G2 → LG E p l e s m below meth c b (lvI E b (nI n)) 1256 [] G2) : LG E p l e s m below meth c b (lvI E b (nI n)) 456 [] G := by
  obtain ⟨r, g1, g2, hX, hY, hI2⟩ := sp_law hI 
  obtain ⟨hr1, hF1⟩ := tm114 (d := 200) (by omega) hF r g1 hX
  obtain ⟨hr2, hF2⟩ := tm221 (d := 200) (by omega) hF1 r g2 hY
  refine lg_x C d_law_456 ?_
  refine lg_cI C (k := 0) (M := 114) (a := 0) wl_49 wi_114 ws_114 wn_RX11 wc_114 cf_X11 (by decide +kernel) d_law_457 [] [] rfl rfl rfl (Nat.zero_le 8) (by omega) (Nat.le_of_ble_eq_true rfl) hF hF1 hr1 ?_
  refine lg_m C d_law_460 ?_
  refine lg_cI C (k := 0) (M := 221) (a := 367) wl_52 wi_221 ws_221 wn_RX12 wc_221 cf_X12 (by decide +kernel) d_law_461 [] [.int r] rfl rfl (by decide +kernel) (Nat.le_of_ble_eq_true rfl) (by omega) (Nat.le_of_ble_eq_true rfl) hF1 hF2 hr2 ?_
  exact lg_eq C d_law_464 (by decide) (kk g2 hI2 hF2)
theorem lc_9 (C : LC E p s m meth c b L xs) (hn : n + 6 ≤ L) (hI : Inv G) (hF : Frz G) (kk : ∀ G2, Inv G2 → Frz G2 → LG E p l e s m below meth c b (lvI E b (nI n)) 1256 [] G2) : LG E p l e s m below meth c b (lvI E b (nI n)) 469 [] G := by
  obtain ⟨r, g1, g2, hX, hY, hI2⟩ := sp_orders hI 
  obtain ⟨hr1, hF1⟩ := tm115 (d := 200) (by omega) hF r g1 hX
  obtain ⟨hr2, hF2⟩ := tm278 (d := 200) (by omega) hF1 r g2 hY
  refine lg_x C d_law_469 ?_
  refine lg_cI C (k := 0) (M := 115) (a := 0) wl_53 wi_115 ws_115 wn_RX11 wc_115 cf_X11 (by decide +kernel) d_law_470 [] [] rfl rfl rfl (Nat.zero_le 8) (by omega) (Nat.le_of_ble_eq_true rfl) hF hF1 hr1 ?_
  refine lg_m C d_law_473 ?_
  refine lg_cI C (k := 0) (M := 278) (a := 367) wl_56 wi_278 ws_278 wn_RX12 wc_278 cf_X12 (by decide +kernel) d_law_474 [] [.int r] rfl rfl (by decide +kernel) (Nat.le_of_ble_eq_true rfl) (by omega) (Nat.le_of_ble_eq_true rfl) hF1 hF2 hr2 ?_
  exact lg_eq C d_law_477 (by decide) (kk g2 hI2 hF2)
theorem lc_10 (C : LC E p s m meth c b L xs) (hn : n + 6 ≤ L) (hI : Inv G) (hF : Frz G) (kk : ∀ G2, Inv G2 → Frz G2 → LG E p l e s m below meth c b (lvI E b (nI n)) 1256 [] G2) : LG E p l e s m below meth c b (lvI E b (nI n)) 482 [] G := by
  obtain ⟨r, g1, g2, hX, hY, hI2⟩ := sp_fault hI 
  obtain ⟨hr1, hF1⟩ := tm118 (d := 200) hF r g1 hX
  obtain ⟨hr2, hF2⟩ := tm202 (d := 200) hF1 r g2 hY
  refine lg_x C d_law_482 ?_
  refine lg_cI C (k := 0) (M := 118) (a := 0) wl_57 wi_118 ws_118 wn_RX11 wc_118 cf_X11 (by decide +kernel) d_law_483 [] [] rfl rfl rfl (Nat.zero_le 8) (by omega) (Nat.le_of_ble_eq_true rfl) hF hF1 hr1 ?_
  refine lg_m C d_law_486 ?_
  refine lg_cI C (k := 0) (M := 202) (a := 367) wl_60 wi_202 ws_202 wn_RX12 wc_202 cf_X12 (by decide +kernel) d_law_487 [] [.int r] rfl rfl (by decide +kernel) (Nat.le_of_ble_eq_true rfl) (by omega) (Nat.le_of_ble_eq_true rfl) hF1 hF2 hr2 ?_
  exact lg_eq C d_law_490 (by decide) (kk g2 hI2 hF2)
theorem lc_11 (C : LC E p s m meth c b L xs) (hn : n + 6 ≤ L) (hI : Inv G) (hF : Frz G) (kk : ∀ G2, Inv G2 → Frz G2 → LG E p l e s m below meth c b (lvI E b (nI n)) 1256 [] G2) : LG E p l e s m below meth c b (lvI E b (nI n)) 495 [] G := by
  obtain ⟨r, g1, g2, hX, hY, hI2⟩ := sp_stopped hI 
  obtain ⟨hr1, hF1⟩ := tm119 (d := 200) hF r g1 hX
  obtain ⟨hr2, hF2⟩ := tm280 (d := 200) hF1 r g2 hY
  refine lg_x C d_law_495 ?_
  refine lg_cI C (k := 0) (M := 119) (a := 0) wl_61 wi_119 ws_119 wn_RX11 wc_119 cf_X11 (by decide +kernel) d_law_496 [] [] rfl rfl rfl (Nat.zero_le 8) (by omega) (Nat.le_of_ble_eq_true rfl) hF hF1 hr1 ?_
  refine lg_m C d_law_499 ?_
  refine lg_cI C (k := 0) (M := 280) (a := 367) wl_64 wi_280 ws_280 wn_RX12 wc_280 cf_X12 (by decide +kernel) d_law_500 [] [.int r] rfl rfl (by decide +kernel) (Nat.le_of_ble_eq_true rfl) (by omega) (Nat.le_of_ble_eq_true rfl) hF1 hF2 hr2 ?_
  exact lg_eq C d_law_503 (by decide) (kk g2 hI2 hF2)
theorem lc_12 (C : LC E p s m meth c b L xs) (hn : n + 6 ≤ L) (hI : Inv G) (hF : Frz G) (kk : ∀ G2, Inv G2 → Frz G2 → LG E p l e s m below meth c b (lvI E b (nI n)) 1256 [] G2) : LG E p l e s m below meth c b (lvI E b (nI n)) 508 [] G := by
  obtain ⟨r, g1, g2, hX, hY, hI2⟩ := sp_force hI (xs (n + 1))
  obtain ⟨hr1, hF1⟩ := tm120 (d := 200) (by omega) hF r g1 hX
  obtain ⟨hr2, hF2⟩ := tm223 (d := 200) (by omega) hF1 r g2 hY
  refine lg_x C d_law_508 ?_
  refine lg_k C (j := 1) (k := 1) rfl (by omega) d_law_509 d_law_510 d_law_511 d_law_512 d_law_513 ?_
  refine lg_cI C (k := 1) (M := 120) (a := 0) wl_65 wi_120 ws_120 wn_RX11 wc_120 cf_X11 (by decide +kernel) d_law_514 [.int (xs (n + 1))] [] rfl rfl rfl (Nat.zero_le 8) (by omega) (Nat.le_of_ble_eq_true rfl) hF hF1 hr1 ?_
  refine lg_m C d_law_517 ?_
  refine lg_k C (j := 1) (k := 1) rfl (by omega) d_law_518 d_law_519 d_law_520 d_law_521 d_law_522 ?_
  refine lg_cI C (k := 1) (M := 223) (a := 367) wl_68 wi_223 ws_223 wn_RX12 wc_223 cf_X12 (by decide +kernel) d_law_523 [.int (xs (n + 1))] [.int r] rfl rfl (by decide +kernel) (Nat.le_of_ble_eq_true rfl) (by omega) (Nat.le_of_ble_eq_true rfl) hF1 hF2 hr2 ?_
  exact lg_eq C d_law_526 (by decide) (kk g2 hI2 hF2)
theorem lc_13 (C : LC E p s m meth c b L xs) (hn : n + 6 ≤ L) (hI : Inv G) (hF : Frz G) (kk : ∀ G2, Inv G2 → Frz G2 → LG E p l e s m below meth c b (lvI E b (nI n)) 1256 [] G2) : LG E p l e s m below meth c b (lvI E b (nI n)) 531 [] G := by
  obtain ⟨r, g1, g2, hX, hY, hI2⟩ := sp_spill hI (xs (n + 1)) (xs (n + 2))
  obtain ⟨hr1, hF1⟩ := tm122 (d := 200) (by omega) hF r g1 hX
  obtain ⟨hr2, hF2⟩ := tm232 (d := 200) (by omega) hF1 r g2 hY
  refine lg_x C d_law_531 ?_
  refine lg_k C (j := 1) (k := 1) rfl (by omega) d_law_532 d_law_533 d_law_534 d_law_535 d_law_536 ?_
  refine lg_k C (j := 2) (k := 2) rfl (by omega) d_law_537 d_law_538 d_law_539 d_law_540 d_law_541 ?_
  refine lg_cI C (k := 2) (M := 122) (a := 0) wl_69 wi_122 ws_122 wn_RX11 wc_122 cf_X11 (by decide +kernel) d_law_542 [.int (xs (n + 1)), .int (xs (n + 2))] [] rfl rfl rfl (Nat.zero_le 8) (by omega) (Nat.le_of_ble_eq_true rfl) hF hF1 hr1 ?_
  refine lg_m C d_law_545 ?_
  refine lg_k C (j := 1) (k := 1) rfl (by omega) d_law_546 d_law_547 d_law_548 d_law_549 d_law_550 ?_
  refine lg_k C (j := 2) (k := 2) rfl (by omega) d_law_551 d_law_552 d_law_553 d_law_554 d_law_555 ?_
  refine lg_cI C (k := 2) (M := 232) (a := 367) wl_72 wi_232 ws_232 wn_RX12 wc_232 cf_X12 (by decide +kernel) d_law_556 [.int (xs (n + 1)), .int (xs (n + 2))] [.int r] rfl rfl (by decide +kernel) (Nat.le_of_ble_eq_true rfl) (by omega) (Nat.le_of_ble_eq_true rfl) hF1 hF2 hr2 ?_
  exact lg_eq C d_law_559 (by decide) (kk g2 hI2 hF2)
theorem lc_14 (C : LC E p s m meth c b L xs) (hn : n + 6 ≤ L) (hI : Inv G) (hF : Frz G) (kk : ∀ G2, Inv G2 → Frz G2 → LG E p l e s m below meth c b (lvI E b (nI n)) 1256 [] G2) : LG E p l e s m below meth c b (lvI E b (nI n)) 564 [] G := by
  obtain ⟨r, g1, g2, hX, hY, hI2⟩ := sp_raise hI (xs (n + 1)) (xs (n + 2))
  obtain ⟨hr1, hF1⟩ := tm123 (d := 200) (by omega) hF r g1 hX
  obtain ⟨hr2, hF2⟩ := tm234 (d := 200) (by omega) hF1 r g2 hY
  refine lg_x C d_law_564 ?_
  refine lg_k C (j := 1) (k := 1) rfl (by omega) d_law_565 d_law_566 d_law_567 d_law_568 d_law_569 ?_
  refine lg_k C (j := 2) (k := 2) rfl (by omega) d_law_570 d_law_571 d_law_572 d_law_573 d_law_574 ?_
  refine lg_cI C (k := 2) (M := 123) (a := 0) wl_73 wi_123 ws_123 wn_RX11 wc_123 cf_X11 (by decide +kernel) d_law_575 [.int (xs (n + 1)), .int (xs (n + 2))] [] rfl rfl rfl (Nat.zero_le 8) (by omega) (Nat.le_of_ble_eq_true rfl) hF hF1 hr1 ?_
  refine lg_m C d_law_578 ?_
  refine lg_k C (j := 1) (k := 1) rfl (by omega) d_law_579 d_law_580 d_law_581 d_law_582 d_law_583 ?_
  refine lg_k C (j := 2) (k := 2) rfl (by omega) d_law_584 d_law_585 d_law_586 d_law_587 d_law_588 ?_
  refine lg_cI C (k := 2) (M := 234) (a := 367) wl_76 wi_234 ws_234 wn_RX12 wc_234 cf_X12 (by decide +kernel) d_law_589 [.int (xs (n + 1)), .int (xs (n + 2))] [.int r] rfl rfl (by decide +kernel) (Nat.le_of_ble_eq_true rfl) (by omega) (Nat.le_of_ble_eq_true rfl) hF1 hF2 hr2 ?_
  exact lg_eq C d_law_592 (by decide) (kk g2 hI2 hF2)
theorem lc_15 (C : LC E p s m meth c b L xs) (hn : n + 6 ≤ L) (hI : Inv G) (hF : Frz G) (kk : ∀ G2, Inv G2 → Frz G2 → LG E p l e s m below meth c b (lvI E b (nI n)) 1256 [] G2) : LG E p l e s m below meth c b (lvI E b (nI n)) 597 [] G := by
  obtain ⟨r, g1, g2, hX, hY, hI2⟩ := sp_split hI (xs (n + 1)) (xs (n + 2))
  obtain ⟨hr1, hF1⟩ := tm124 (d := 200) (by omega) hF r g1 hX
  obtain ⟨hr2, hF2⟩ := tm237 (d := 200) (by omega) hF1 r g2 hY
  refine lg_x C d_law_597 ?_
  refine lg_k C (j := 1) (k := 1) rfl (by omega) d_law_598 d_law_599 d_law_600 d_law_601 d_law_602 ?_
  refine lg_k C (j := 2) (k := 2) rfl (by omega) d_law_603 d_law_604 d_law_605 d_law_606 d_law_607 ?_
  refine lg_cI C (k := 2) (M := 124) (a := 0) wl_77 wi_124 ws_124 wn_RX11 wc_124 cf_X11 (by decide +kernel) d_law_608 [.int (xs (n + 1)), .int (xs (n + 2))] [] rfl rfl rfl (Nat.zero_le 8) (by omega) (Nat.le_of_ble_eq_true rfl) hF hF1 hr1 ?_
  refine lg_m C d_law_611 ?_
  refine lg_k C (j := 1) (k := 1) rfl (by omega) d_law_612 d_law_613 d_law_614 d_law_615 d_law_616 ?_
  refine lg_k C (j := 2) (k := 2) rfl (by omega) d_law_617 d_law_618 d_law_619 d_law_620 d_law_621 ?_
  refine lg_cI C (k := 2) (M := 237) (a := 367) wl_80 wi_237 ws_237 wn_RX12 wc_237 cf_X12 (by decide +kernel) d_law_622 [.int (xs (n + 1)), .int (xs (n + 2))] [.int r] rfl rfl (by decide +kernel) (Nat.le_of_ble_eq_true rfl) (by omega) (Nat.le_of_ble_eq_true rfl) hF1 hF2 hr2 ?_
  exact lg_eq C d_law_625 (by decide) (kk g2 hI2 hF2)
theorem lc_16 (C : LC E p s m meth c b L xs) (hn : n + 6 ≤ L) (hI : Inv G) (hF : Frz G) (kk : ∀ G2, Inv G2 → Frz G2 → LG E p l e s m below meth c b (lvI E b (nI n)) 1256 [] G2) : LG E p l e s m below meth c b (lvI E b (nI n)) 630 [] G := by
  obtain ⟨r, g1, g2, hX, hY, hI2⟩ := sp_pass hI 
  obtain ⟨hr1, hF1⟩ := tm125 (d := 200) (by omega) hF r g1 hX
  obtain ⟨hr2, hF2⟩ := tm240 (d := 200) (by omega) hF1 r g2 hY
  refine lg_x C d_law_630 ?_
  refine lg_cI C (k := 0) (M := 125) (a := 0) wl_81 wi_125 ws_125 wn_RX11 wc_125 cf_X11 (by decide +kernel) d_law_631 [] [] rfl rfl rfl (Nat.zero_le 8) (by omega) (Nat.le_of_ble_eq_true rfl) hF hF1 hr1 ?_
  refine lg_m C d_law_634 ?_
  refine lg_cI C (k := 0) (M := 240) (a := 367) wl_84 wi_240 ws_240 wn_RX12 wc_240 cf_X12 (by decide +kernel) d_law_635 [] [.int r] rfl rfl (by decide +kernel) (Nat.le_of_ble_eq_true rfl) (by omega) (Nat.le_of_ble_eq_true rfl) hF1 hF2 hr2 ?_
  exact lg_eq C d_law_638 (by decide) (kk g2 hI2 hF2)
theorem lc_17 (C : LC E p s m meth c b L xs) (hn : n + 6 ≤ L) (hI : Inv G) (hF : Frz G) (kk : ∀ G2, Inv G2 → Frz G2 → LG E p l e s m below meth c b (lvI E b (nI n)) 1256 [] G2) : LG E p l e s m below meth c b (lvI E b (nI n)) 643 [] G := by
  obtain ⟨r, g1, g2, hX, hY, hI2⟩ := sp_undo hI 
  obtain ⟨hr1, hF1⟩ := tm127 (d := 200) (by omega) hF r g1 hX
  obtain ⟨hr2, hF2⟩ := tm175 (d := 200) (by omega) hF1 r g2 hY
  refine lg_x C d_law_643 ?_
  refine lg_cI C (k := 0) (M := 127) (a := 0) wl_85 wi_127 ws_127 wn_RX11 wc_127 cf_X11 (by decide +kernel) d_law_644 [] [] rfl rfl rfl (Nat.zero_le 8) (by omega) (Nat.le_of_ble_eq_true rfl) hF hF1 hr1 ?_
  refine lg_m C d_law_647 ?_
  refine lg_cI C (k := 0) (M := 175) (a := 367) wl_88 wi_175 ws_175 wn_RX12 wc_175 cf_X12 (by decide +kernel) d_law_648 [] [.int r] rfl rfl (by decide +kernel) (Nat.le_of_ble_eq_true rfl) (by omega) (Nat.le_of_ble_eq_true rfl) hF1 hF2 hr2 ?_
  exact lg_eq C d_law_651 (by decide) (kk g2 hI2 hF2)
theorem lc_18 (C : LC E p s m meth c b L xs) (hn : n + 6 ≤ L) (hI : Inv G) (hF : Frz G) (kk : ∀ G2, Inv G2 → Frz G2 → LG E p l e s m below meth c b (lvI E b (nI n)) 1256 [] G2) : LG E p l e s m below meth c b (lvI E b (nI n)) 656 [] G := by
  obtain ⟨r, g1, g2, hX, hY, hI2⟩ := sp_later hI (xs (n + 1)) (xs (n + 2))
  obtain ⟨hr1, hF1⟩ := tm128 (d := 200) (by omega) hF r g1 hX
  obtain ⟨hr2, hF2⟩ := tm241 (d := 200) (by omega) hF1 r g2 hY
  refine lg_x C d_law_656 ?_
  refine lg_k C (j := 1) (k := 1) rfl (by omega) d_law_657 d_law_658 d_law_659 d_law_660 d_law_661 ?_
  refine lg_k C (j := 2) (k := 2) rfl (by omega) d_law_662 d_law_663 d_law_664 d_law_665 d_law_666 ?_
  refine lg_cI C (k := 2) (M := 128) (a := 0) wl_89 wi_128 ws_128 wn_RX11 wc_128 cf_X11 (by decide +kernel) d_law_667 [.int (xs (n + 1)), .int (xs (n + 2))] [] rfl rfl rfl (Nat.zero_le 8) (by omega) (Nat.le_of_ble_eq_true rfl) hF hF1 hr1 ?_
  refine lg_m C d_law_670 ?_
  refine lg_k C (j := 1) (k := 1) rfl (by omega) d_law_671 d_law_672 d_law_673 d_law_674 d_law_675 ?_
  refine lg_k C (j := 2) (k := 2) rfl (by omega) d_law_676 d_law_677 d_law_678 d_law_679 d_law_680 ?_
  refine lg_cI C (k := 2) (M := 241) (a := 367) wl_92 wi_241 ws_241 wn_RX12 wc_241 cf_X12 (by decide +kernel) d_law_681 [.int (xs (n + 1)), .int (xs (n + 2))] [.int r] rfl rfl (by decide +kernel) (Nat.le_of_ble_eq_true rfl) (by omega) (Nat.le_of_ble_eq_true rfl) hF1 hF2 hr2 ?_
  exact lg_eq C d_law_684 (by decide) (kk g2 hI2 hF2)
theorem lc_19 (C : LC E p s m meth c b L xs) (hn : n + 6 ≤ L) (hI : Inv G) (hF : Frz G) (kk : ∀ G2, Inv G2 → Frz G2 → LG E p l e s m below meth c b (lvI E b (nI n)) 1256 [] G2) : LG E p l e s m below meth c b (lvI E b (nI n)) 689 [] G := by
  obtain ⟨r, g1, g2, hX, hY, hI2⟩ := sp_readWith hI (xs (n + 1))
  obtain ⟨hr1, hF1⟩ := tm129 (d := 200) (by omega) hF r g1 hX
  obtain ⟨hr2, hF2⟩ := tm242 (d := 200) (by omega) hF1 r g2 hY
  refine lg_x C d_law_689 ?_
  refine lg_k C (j := 1) (k := 1) rfl (by omega) d_law_690 d_law_691 d_law_692 d_law_693 d_law_694 ?_
  refine lg_cI C (k := 1) (M := 129) (a := 0) wl_93 wi_129 ws_129 wn_RX11 wc_129 cf_X11 (by decide +kernel) d_law_695 [.int (xs (n + 1))] [] rfl rfl rfl (Nat.zero_le 8) (by omega) (Nat.le_of_ble_eq_true rfl) hF hF1 hr1 ?_
  refine lg_m C d_law_698 ?_
  refine lg_k C (j := 1) (k := 1) rfl (by omega) d_law_699 d_law_700 d_law_701 d_law_702 d_law_703 ?_
  refine lg_cI C (k := 1) (M := 242) (a := 367) wl_96 wi_242 ws_242 wn_RX12 wc_242 cf_X12 (by decide +kernel) d_law_704 [.int (xs (n + 1))] [.int r] rfl rfl (by decide +kernel) (Nat.le_of_ble_eq_true rfl) (by omega) (Nat.le_of_ble_eq_true rfl) hF1 hF2 hr2 ?_
  exact lg_eq C d_law_707 (by decide) (kk g2 hI2 hF2)
theorem lc_20 (C : LC E p s m meth c b L xs) (hn : n + 6 ≤ L) (hI : Inv G) (hF : Frz G) (kk : ∀ G2, Inv G2 → Frz G2 → LG E p l e s m below meth c b (lvI E b (nI n)) 1256 [] G2) : LG E p l e s m below meth c b (lvI E b (nI n)) 712 [] G := by
  obtain ⟨r, g1, g2, hX, hY, hI2⟩ := sp_run hI (xs (n + 1)) (xs (n + 2))
  obtain ⟨hr1, hF1⟩ := tm132 (d := 200) (by omega) hF r g1 hX
  obtain ⟨hr2, hF2⟩ := tm246 (d := 200) (by omega) hF1 r g2 hY
  refine lg_x C d_law_712 ?_
  refine lg_k C (j := 1) (k := 1) rfl (by omega) d_law_713 d_law_714 d_law_715 d_law_716 d_law_717 ?_
  refine lg_k C (j := 2) (k := 2) rfl (by omega) d_law_718 d_law_719 d_law_720 d_law_721 d_law_722 ?_
  refine lg_cI C (k := 2) (M := 132) (a := 0) wl_97 wi_132 ws_132 wn_RX11 wc_132 cf_X11 (by decide +kernel) d_law_723 [.int (xs (n + 1)), .int (xs (n + 2))] [] rfl rfl rfl (Nat.zero_le 8) (by omega) (Nat.le_of_ble_eq_true rfl) hF hF1 hr1 ?_
  refine lg_m C d_law_726 ?_
  refine lg_k C (j := 1) (k := 1) rfl (by omega) d_law_727 d_law_728 d_law_729 d_law_730 d_law_731 ?_
  refine lg_k C (j := 2) (k := 2) rfl (by omega) d_law_732 d_law_733 d_law_734 d_law_735 d_law_736 ?_
  refine lg_cI C (k := 2) (M := 246) (a := 367) wl_100 wi_246 ws_246 wn_RX12 wc_246 cf_X12 (by decide +kernel) d_law_737 [.int (xs (n + 1)), .int (xs (n + 2))] [.int r] rfl rfl (by decide +kernel) (Nat.le_of_ble_eq_true rfl) (by omega) (Nat.le_of_ble_eq_true rfl) hF1 hF2 hr2 ?_
  exact lg_eq C d_law_740 (by decide) (kk g2 hI2 hF2)
theorem lc_21 (C : LC E p s m meth c b L xs) (hn : n + 6 ≤ L) (hI : Inv G) (hF : Frz G) (kk : ∀ G2, Inv G2 → Frz G2 → LG E p l e s m below meth c b (lvI E b (nI n)) 1256 [] G2) : LG E p l e s m below meth c b (lvI E b (nI n)) 745 [] G := by
  obtain ⟨r, g1, g2, hX, hY, hI2⟩ := sp_basin hI (xs (n + 1))
  obtain ⟨hr1, hF1⟩ := tm133 (d := 200) (by omega) hF r g1 hX
  obtain ⟨hr2, hF2⟩ := tm247 (d := 200) (by omega) hF1 r g2 hY
  refine lg_x C d_law_745 ?_
  refine lg_k C (j := 1) (k := 1) rfl (by omega) d_law_746 d_law_747 d_law_748 d_law_749 d_law_750 ?_
  refine lg_cI C (k := 1) (M := 133) (a := 0) wl_101 wi_133 ws_133 wn_RX11 wc_133 cf_X11 (by decide +kernel) d_law_751 [.int (xs (n + 1))] [] rfl rfl rfl (Nat.zero_le 8) (by omega) (Nat.le_of_ble_eq_true rfl) hF hF1 hr1 ?_
  refine lg_m C d_law_754 ?_
  refine lg_k C (j := 1) (k := 1) rfl (by omega) d_law_755 d_law_756 d_law_757 d_law_758 d_law_759 ?_
  refine lg_cI C (k := 1) (M := 247) (a := 367) wl_104 wi_247 ws_247 wn_RX12 wc_247 cf_X12 (by decide +kernel) d_law_760 [.int (xs (n + 1))] [.int r] rfl rfl (by decide +kernel) (Nat.le_of_ble_eq_true rfl) (by omega) (Nat.le_of_ble_eq_true rfl) hF1 hF2 hr2 ?_
  exact lg_eq C d_law_763 (by decide) (kk g2 hI2 hF2)
theorem lc_22 (C : LC E p s m meth c b L xs) (hn : n + 6 ≤ L) (hI : Inv G) (hF : Frz G) (kk : ∀ G2, Inv G2 → Frz G2 → LG E p l e s m below meth c b (lvI E b (nI n)) 1256 [] G2) : LG E p l e s m below meth c b (lvI E b (nI n)) 768 [] G := by
  obtain ⟨r, g1, g2, hX, hY, hI2⟩ := sp_meeting hI (xs (n + 1)) (xs (n + 2))
  obtain ⟨hr1, hF1⟩ := tm134 (d := 200) (by omega) hF r g1 hX
  obtain ⟨hr2, hF2⟩ := tm249 (d := 200) (by omega) hF1 r g2 hY
  refine lg_x C d_law_768 ?_
  refine lg_k C (j := 1) (k := 1) rfl (by omega) d_law_769 d_law_770 d_law_771 d_law_772 d_law_773 ?_
  refine lg_k C (j := 2) (k := 2) rfl (by omega) d_law_774 d_law_775 d_law_776 d_law_777 d_law_778 ?_
  refine lg_cI C (k := 2) (M := 134) (a := 0) wl_105 wi_134 ws_134 wn_RX11 wc_134 cf_X11 (by decide +kernel) d_law_779 [.int (xs (n + 1)), .int (xs (n + 2))] [] rfl rfl rfl (Nat.zero_le 8) (by omega) (Nat.le_of_ble_eq_true rfl) hF hF1 hr1 ?_
  refine lg_m C d_law_782 ?_
  refine lg_k C (j := 1) (k := 1) rfl (by omega) d_law_783 d_law_784 d_law_785 d_law_786 d_law_787 ?_
  refine lg_k C (j := 2) (k := 2) rfl (by omega) d_law_788 d_law_789 d_law_790 d_law_791 d_law_792 ?_
  refine lg_cI C (k := 2) (M := 249) (a := 367) wl_108 wi_249 ws_249 wn_RX12 wc_249 cf_X12 (by decide +kernel) d_law_793 [.int (xs (n + 1)), .int (xs (n + 2))] [.int r] rfl rfl (by decide +kernel) (Nat.le_of_ble_eq_true rfl) (by omega) (Nat.le_of_ble_eq_true rfl) hF1 hF2 hr2 ?_
  exact lg_eq C d_law_796 (by decide) (kk g2 hI2 hF2)
theorem lc_23 (C : LC E p s m meth c b L xs) (hn : n + 6 ≤ L) (hI : Inv G) (hF : Frz G) (kk : ∀ G2, Inv G2 → Frz G2 → LG E p l e s m below meth c b (lvI E b (nI n)) 1256 [] G2) : LG E p l e s m below meth c b (lvI E b (nI n)) 801 [] G := by
  obtain ⟨r, g1, g2, hX, hY, hI2⟩ := sp_delay hI (xs (n + 1)) (xs (n + 2))
  obtain ⟨hr1, hF1⟩ := tm135 (d := 200) (by omega) hF r g1 hX
  obtain ⟨hr2, hF2⟩ := tm252 (d := 200) (by omega) hF1 r g2 hY
  refine lg_x C d_law_801 ?_
  refine lg_k C (j := 1) (k := 1) rfl (by omega) d_law_802 d_law_803 d_law_804 d_law_805 d_law_806 ?_
  refine lg_k C (j := 2) (k := 2) rfl (by omega) d_law_807 d_law_808 d_law_809 d_law_810 d_law_811 ?_
  refine lg_cI C (k := 2) (M := 135) (a := 0) wl_109 wi_135 ws_135 wn_RX11 wc_135 cf_X11 (by decide +kernel) d_law_812 [.int (xs (n + 1)), .int (xs (n + 2))] [] rfl rfl rfl (Nat.zero_le 8) (by omega) (Nat.le_of_ble_eq_true rfl) hF hF1 hr1 ?_
  refine lg_m C d_law_815 ?_
  refine lg_k C (j := 1) (k := 1) rfl (by omega) d_law_816 d_law_817 d_law_818 d_law_819 d_law_820 ?_
  refine lg_k C (j := 2) (k := 2) rfl (by omega) d_law_821 d_law_822 d_law_823 d_law_824 d_law_825 ?_
  refine lg_cI C (k := 2) (M := 252) (a := 367) wl_112 wi_252 ws_252 wn_RX12 wc_252 cf_X12 (by decide +kernel) d_law_826 [.int (xs (n + 1)), .int (xs (n + 2))] [.int r] rfl rfl (by decide +kernel) (Nat.le_of_ble_eq_true rfl) (by omega) (Nat.le_of_ble_eq_true rfl) hF1 hF2 hr2 ?_
  exact lg_eq C d_law_829 (by decide) (kk g2 hI2 hF2)
theorem lc_24 (C : LC E p s m meth c b L xs) (hn : n + 6 ≤ L) (hI : Inv G) (hF : Frz G) (kk : ∀ G2, Inv G2 → Frz G2 → LG E p l e s m below meth c b (lvI E b (nI n)) 1256 [] G2) : LG E p l e s m below meth c b (lvI E b (nI n)) 834 [] G := by
  obtain ⟨r, g1, g2, hX, hY, hI2⟩ := sp_apart hI (xs (n + 1)) (xs (n + 2))
  obtain ⟨hr1, hF1⟩ := tm136 (d := 200) (by omega) hF r g1 hX
  obtain ⟨hr2, hF2⟩ := tm256 (d := 200) (by omega) hF1 r g2 hY
  refine lg_x C d_law_834 ?_
  refine lg_k C (j := 1) (k := 1) rfl (by omega) d_law_835 d_law_836 d_law_837 d_law_838 d_law_839 ?_
  refine lg_k C (j := 2) (k := 2) rfl (by omega) d_law_840 d_law_841 d_law_842 d_law_843 d_law_844 ?_
  refine lg_cI C (k := 2) (M := 136) (a := 0) wl_113 wi_136 ws_136 wn_RX11 wc_136 cf_X11 (by decide +kernel) d_law_845 [.int (xs (n + 1)), .int (xs (n + 2))] [] rfl rfl rfl (Nat.zero_le 8) (by omega) (Nat.le_of_ble_eq_true rfl) hF hF1 hr1 ?_
  refine lg_m C d_law_848 ?_
  refine lg_k C (j := 1) (k := 1) rfl (by omega) d_law_849 d_law_850 d_law_851 d_law_852 d_law_853 ?_
  refine lg_k C (j := 2) (k := 2) rfl (by omega) d_law_854 d_law_855 d_law_856 d_law_857 d_law_858 ?_
  refine lg_cI C (k := 2) (M := 256) (a := 367) wl_116 wi_256 ws_256 wn_RX12 wc_256 cf_X12 (by decide +kernel) d_law_859 [.int (xs (n + 1)), .int (xs (n + 2))] [.int r] rfl rfl (by decide +kernel) (Nat.le_of_ble_eq_true rfl) (by omega) (Nat.le_of_ble_eq_true rfl) hF1 hF2 hr2 ?_
  exact lg_eq C d_law_862 (by decide) (kk g2 hI2 hF2)
theorem lc_25 (C : LC E p s m meth c b L xs) (hn : n + 6 ≤ L) (hI : Inv G) (hF : Frz G) (kk : ∀ G2, Inv G2 → Frz G2 → LG E p l e s m below meth c b (lvI E b (nI n)) 1256 [] G2) : LG E p l e s m below meth c b (lvI E b (nI n)) 867 [] G := by
  obtain ⟨r, g1, g2, hX, hY, hI2⟩ := sp_kerbs hI (xs (n + 1)) (xs (n + 2)) (xs (n + 3))
  obtain ⟨hr1, hF1⟩ := tm137 (d := 200) (by omega) hF r g1 hX
  obtain ⟨hr2, hF2⟩ := tm260 (d := 200) (by omega) hF1 r g2 hY
  refine lg_x C d_law_867 ?_
  refine lg_k C (j := 1) (k := 1) rfl (by omega) d_law_868 d_law_869 d_law_870 d_law_871 d_law_872 ?_
  refine lg_k C (j := 2) (k := 2) rfl (by omega) d_law_873 d_law_874 d_law_875 d_law_876 d_law_877 ?_
  refine lg_k C (j := 3) (k := 3) rfl (by omega) d_law_878 d_law_879 d_law_880 d_law_881 d_law_882 ?_
  refine lg_cI C (k := 3) (M := 137) (a := 0) wl_117 wi_137 ws_137 wn_RX11 wc_137 cf_X11 (by decide +kernel) d_law_883 [.int (xs (n + 1)), .int (xs (n + 2)), .int (xs (n + 3))] [] rfl rfl rfl (Nat.zero_le 8) (by omega) (Nat.le_of_ble_eq_true rfl) hF hF1 hr1 ?_
  refine lg_m C d_law_886 ?_
  refine lg_k C (j := 1) (k := 1) rfl (by omega) d_law_887 d_law_888 d_law_889 d_law_890 d_law_891 ?_
  refine lg_k C (j := 2) (k := 2) rfl (by omega) d_law_892 d_law_893 d_law_894 d_law_895 d_law_896 ?_
  refine lg_k C (j := 3) (k := 3) rfl (by omega) d_law_897 d_law_898 d_law_899 d_law_900 d_law_901 ?_
  refine lg_cI C (k := 3) (M := 260) (a := 367) wl_121 wi_260 ws_260 wn_RX12 wc_260 cf_X12 (by decide +kernel) d_law_902 [.int (xs (n + 1)), .int (xs (n + 2)), .int (xs (n + 3))] [.int r] rfl rfl (by decide +kernel) (Nat.le_of_ble_eq_true rfl) (by omega) (Nat.le_of_ble_eq_true rfl) hF1 hF2 hr2 ?_
  exact lg_eq C d_law_905 (by decide) (kk g2 hI2 hF2)
theorem lc_26 (C : LC E p s m meth c b L xs) (hn : n + 6 ≤ L) (hI : Inv G) (hF : Frz G) (kk : ∀ G2, Inv G2 → Frz G2 → LG E p l e s m below meth c b (lvI E b (nI n)) 1256 [] G2) : LG E p l e s m below meth c b (lvI E b (nI n)) 910 [] G := by
  obtain ⟨r, g1, g2, hX, hY, hI2⟩ := sp_springs hI 
  obtain ⟨hr1, hF1⟩ := tm140 (d := 200) (by omega) hF r g1 hX
  obtain ⟨hr2, hF2⟩ := tm261 (d := 200) (by omega) hF1 r g2 hY
  refine lg_x C d_law_910 ?_
  refine lg_cI C (k := 0) (M := 140) (a := 0) wl_122 wi_140 ws_140 wn_RX11 wc_140 cf_X11 (by decide +kernel) d_law_911 [] [] rfl rfl rfl (Nat.zero_le 8) (by omega) (Nat.le_of_ble_eq_true rfl) hF hF1 hr1 ?_
  refine lg_m C d_law_914 ?_
  refine lg_cI C (k := 0) (M := 261) (a := 367) wl_125 wi_261 ws_261 wn_RX12 wc_261 cf_X12 (by decide +kernel) d_law_915 [] [.int r] rfl rfl (by decide +kernel) (Nat.le_of_ble_eq_true rfl) (by omega) (Nat.le_of_ble_eq_true rfl) hF1 hF2 hr2 ?_
  exact lg_eq C d_law_918 (by decide) (kk g2 hI2 hF2)
theorem lc_27 (C : LC E p s m meth c b L xs) (hn : n + 6 ≤ L) (hI : Inv G) (hF : Frz G) (kk : ∀ G2, Inv G2 → Frz G2 → LG E p l e s m below meth c b (lvI E b (nI n)) 1256 [] G2) : LG E p l e s m below meth c b (lvI E b (nI n)) 923 [] G := by
  obtain ⟨r, g1, g2, hX, hY, hI2⟩ := sp_pools hI 
  obtain ⟨hr1, hF1⟩ := tm141 (d := 200) (by omega) hF r g1 hX
  obtain ⟨hr2, hF2⟩ := tm262 (d := 200) (by omega) hF1 r g2 hY
  refine lg_x C d_law_923 ?_
  refine lg_cI C (k := 0) (M := 141) (a := 0) wl_126 wi_141 ws_141 wn_RX11 wc_141 cf_X11 (by decide +kernel) d_law_924 [] [] rfl rfl rfl (Nat.zero_le 8) (by omega) (Nat.le_of_ble_eq_true rfl) hF hF1 hr1 ?_
  refine lg_m C d_law_927 ?_
  refine lg_cI C (k := 0) (M := 262) (a := 367) wl_129 wi_262 ws_262 wn_RX12 wc_262 cf_X12 (by decide +kernel) d_law_928 [] [.int r] rfl rfl (by decide +kernel) (Nat.le_of_ble_eq_true rfl) (by omega) (Nat.le_of_ble_eq_true rfl) hF1 hF2 hr2 ?_
  exact lg_eq C d_law_931 (by decide) (kk g2 hI2 hF2)
theorem lc_28 (C : LC E p s m meth c b L xs) (hn : n + 6 ≤ L) (hI : Inv G) (hF : Frz G) (kk : ∀ G2, Inv G2 → Frz G2 → LG E p l e s m below meth c b (lvI E b (nI n)) 1256 [] G2) : LG E p l e s m below meth c b (lvI E b (nI n)) 936 [] G := by
  obtain ⟨r, g1, g2, hX, hY, hI2⟩ := sp_longest hI (xs (n + 1))
  obtain ⟨hr1, hF1⟩ := tm142 (d := 200) (by omega) hF r g1 hX
  obtain ⟨hr2, hF2⟩ := tm263 (d := 200) (by omega) hF1 r g2 hY
  refine lg_x C d_law_936 ?_
  refine lg_k C (j := 1) (k := 1) rfl (by omega) d_law_937 d_law_938 d_law_939 d_law_940 d_law_941 ?_
  refine lg_cI C (k := 1) (M := 142) (a := 0) wl_130 wi_142 ws_142 wn_RX11 wc_142 cf_X11 (by decide +kernel) d_law_942 [.int (xs (n + 1))] [] rfl rfl rfl (Nat.zero_le 8) (by omega) (Nat.le_of_ble_eq_true rfl) hF hF1 hr1 ?_
  refine lg_m C d_law_945 ?_
  refine lg_k C (j := 1) (k := 1) rfl (by omega) d_law_946 d_law_947 d_law_948 d_law_949 d_law_950 ?_
  refine lg_cI C (k := 1) (M := 263) (a := 367) wl_133 wi_263 ws_263 wn_RX12 wc_263 cf_X12 (by decide +kernel) d_law_951 [.int (xs (n + 1))] [.int r] rfl rfl (by decide +kernel) (Nat.le_of_ble_eq_true rfl) (by omega) (Nat.le_of_ble_eq_true rfl) hF1 hF2 hr2 ?_
  exact lg_eq C d_law_954 (by decide) (kk g2 hI2 hF2)
theorem lc_29 (C : LC E p s m meth c b L xs) (hn : n + 6 ≤ L) (hI : Inv G) (hF : Frz G) (kk : ∀ G2, Inv G2 → Frz G2 → LG E p l e s m below meth c b (lvI E b (nI n)) 1256 [] G2) : LG E p l e s m below meth c b (lvI E b (nI n)) 959 [] G := by
  obtain ⟨r, g1, g2, hX, hY, hI2⟩ := sp_seen hI (xs (n + 1)) (xs (n + 2))
  obtain ⟨hr1, hF1⟩ := tm143 (d := 200) (by omega) hF r g1 hX
  obtain ⟨hr2, hF2⟩ := tm265 (d := 200) (by omega) hF1 r g2 hY
  refine lg_x C d_law_959 ?_
  refine lg_k C (j := 1) (k := 1) rfl (by omega) d_law_960 d_law_961 d_law_962 d_law_963 d_law_964 ?_
  refine lg_k C (j := 2) (k := 2) rfl (by omega) d_law_965 d_law_966 d_law_967 d_law_968 d_law_969 ?_
  refine lg_cI C (k := 2) (M := 143) (a := 0) wl_134 wi_143 ws_143 wn_RX11 wc_143 cf_X11 (by decide +kernel) d_law_970 [.int (xs (n + 1)), .int (xs (n + 2))] [] rfl rfl rfl (Nat.zero_le 8) (by omega) (Nat.le_of_ble_eq_true rfl) hF hF1 hr1 ?_
  refine lg_m C d_law_973 ?_
  refine lg_k C (j := 1) (k := 1) rfl (by omega) d_law_974 d_law_975 d_law_976 d_law_977 d_law_978 ?_
  refine lg_k C (j := 2) (k := 2) rfl (by omega) d_law_979 d_law_980 d_law_981 d_law_982 d_law_983 ?_
  refine lg_cI C (k := 2) (M := 265) (a := 367) wl_137 wi_265 ws_265 wn_RX12 wc_265 cf_X12 (by decide +kernel) d_law_984 [.int (xs (n + 1)), .int (xs (n + 2))] [.int r] rfl rfl (by decide +kernel) (Nat.le_of_ble_eq_true rfl) (by omega) (Nat.le_of_ble_eq_true rfl) hF1 hF2 hr2 ?_
  exact lg_eq C d_law_987 (by decide) (kk g2 hI2 hF2)
theorem lc_30 (C : LC E p s m meth c b L xs) (hn : n + 6 ≤ L) (hI : Inv G) (hF : Frz G) (kk : ∀ G2, Inv G2 → Frz G2 → LG E p l e s m below meth c b (lvI E b (nI n)) 1256 [] G2) : LG E p l e s m below meth c b (lvI E b (nI n)) 992 [] G := by
  obtain ⟨r, g1, g2, hX, hY, hI2⟩ := sp_forget hI 
  obtain ⟨hr1, hF1⟩ := tm144 (d := 200) hF r g1 hX
  obtain ⟨hr2, hF2⟩ := tm266 (d := 200) hF1 r g2 hY
  refine lg_x C d_law_992 ?_
  refine lg_cI C (k := 0) (M := 144) (a := 0) wl_138 wi_144 ws_144 wn_RX11 wc_144 cf_X11 (by decide +kernel) d_law_993 [] [] rfl rfl rfl (Nat.zero_le 8) (by omega) (Nat.le_of_ble_eq_true rfl) hF hF1 hr1 ?_
  refine lg_m C d_law_996 ?_
  refine lg_cI C (k := 0) (M := 266) (a := 367) wl_141 wi_266 ws_266 wn_RX12 wc_266 cf_X12 (by decide +kernel) d_law_997 [] [.int r] rfl rfl (by decide +kernel) (Nat.le_of_ble_eq_true rfl) (by omega) (Nat.le_of_ble_eq_true rfl) hF1 hF2 hr2 ?_
  exact lg_eq C d_law_1000 (by decide) (kk g2 hI2 hF2)
theorem lc_31 (C : LC E p s m meth c b L xs) (hn : n + 6 ≤ L) (hI : Inv G) (hF : Frz G) (kk : ∀ G2, Inv G2 → Frz G2 → LG E p l e s m below meth c b (lvI E b (nI n)) 1256 [] G2) : LG E p l e s m below meth c b (lvI E b (nI n)) 1005 [] G := by
  obtain ⟨r, g1, g2, hX, hY, hI2⟩ := sp_canBe hI 
  obtain ⟨hr1, hF1⟩ := tm145 (d := 200) (by omega) hF r g1 hX
  obtain ⟨hr2, hF2⟩ := tm269 (d := 200) (by omega) hF1 r g2 hY
  refine lg_x C d_law_1005 ?_
  refine lg_cI C (k := 0) (M := 145) (a := 0) wl_142 wi_145 ws_145 wn_RX11 wc_145 cf_X11 (by decide +kernel) d_law_1006 [] [] rfl rfl rfl (Nat.zero_le 8) (by omega) (Nat.le_of_ble_eq_true rfl) hF hF1 hr1 ?_
  refine lg_m C d_law_1009 ?_
  refine lg_cI C (k := 0) (M := 269) (a := 367) wl_145 wi_269 ws_269 wn_RX12 wc_269 cf_X12 (by decide +kernel) d_law_1010 [] [.int r] rfl rfl (by decide +kernel) (Nat.le_of_ble_eq_true rfl) (by omega) (Nat.le_of_ble_eq_true rfl) hF1 hF2 hr2 ?_
  exact lg_eq C d_law_1013 (by decide) (kk g2 hI2 hF2)
theorem lc_32 (C : LC E p s m meth c b L xs) (hn : n + 6 ≤ L) (hI : Inv G) (hF : Frz G) (kk : ∀ G2, Inv G2 → Frz G2 → LG E p l e s m below meth c b (lvI E b (nI n)) 1256 [] G2) : LG E p l e s m below meth c b (lvI E b (nI n)) 1018 [] G := by
  obtain ⟨r, g1, g2, hX, hY, hI2⟩ := sp_look hI (xs (n + 1))
  obtain ⟨hr1, hF1⟩ := tm146 (d := 200) (by omega) hF r g1 hX
  obtain ⟨hr2, hF2⟩ := tm271 (d := 200) (by omega) hF1 r g2 hY
  refine lg_x C d_law_1018 ?_
  refine lg_k C (j := 1) (k := 1) rfl (by omega) d_law_1019 d_law_1020 d_law_1021 d_law_1022 d_law_1023 ?_
  refine lg_cI C (k := 1) (M := 146) (a := 0) wl_146 wi_146 ws_146 wn_RX11 wc_146 cf_X11 (by decide +kernel) d_law_1024 [.int (xs (n + 1))] [] rfl rfl rfl (Nat.zero_le 8) (by omega) (Nat.le_of_ble_eq_true rfl) hF hF1 hr1 ?_
  refine lg_m C d_law_1027 ?_
  refine lg_k C (j := 1) (k := 1) rfl (by omega) d_law_1028 d_law_1029 d_law_1030 d_law_1031 d_law_1032 ?_
  refine lg_cI C (k := 1) (M := 271) (a := 367) wl_149 wi_271 ws_271 wn_RX12 wc_271 cf_X12 (by decide +kernel) d_law_1033 [.int (xs (n + 1))] [.int r] rfl rfl (by decide +kernel) (Nat.le_of_ble_eq_true rfl) (by omega) (Nat.le_of_ble_eq_true rfl) hF1 hF2 hr2 ?_
  exact lg_eq C d_law_1036 (by decide) (kk g2 hI2 hF2)
theorem lc_33 (C : LC E p s m meth c b L xs) (hn : n + 6 ≤ L) (hI : Inv G) (hF : Frz G) (kk : ∀ G2, Inv G2 → Frz G2 → LG E p l e s m below meth c b (lvI E b (nI n)) 1256 [] G2) : LG E p l e s m below meth c b (lvI E b (nI n)) 1041 [] G := by
  obtain ⟨r, g1, g2, hX, hY, hI2⟩ := sp_few hI (xs (n + 1)) (xs (n + 2))
  obtain ⟨hr1, hF1⟩ := tm148 (d := 200) (by omega) hF r g1 hX
  obtain ⟨hr2, hF2⟩ := tm272 (d := 200) (by omega) hF1 r g2 hY
  refine lg_x C d_law_1041 ?_
  refine lg_k C (j := 1) (k := 1) rfl (by omega) d_law_1042 d_law_1043 d_law_1044 d_law_1045 d_law_1046 ?_
  refine lg_k C (j := 2) (k := 2) rfl (by omega) d_law_1047 d_law_1048 d_law_1049 d_law_1050 d_law_1051 ?_
  refine lg_cI C (k := 2) (M := 148) (a := 0) wl_150 wi_148 ws_148 wn_RX11 wc_148 cf_X11 (by decide +kernel) d_law_1052 [.int (xs (n + 1)), .int (xs (n + 2))] [] rfl rfl rfl (Nat.zero_le 8) (by omega) (Nat.le_of_ble_eq_true rfl) hF hF1 hr1 ?_
  refine lg_m C d_law_1055 ?_
  refine lg_k C (j := 1) (k := 1) rfl (by omega) d_law_1056 d_law_1057 d_law_1058 d_law_1059 d_law_1060 ?_
  refine lg_k C (j := 2) (k := 2) rfl (by omega) d_law_1061 d_law_1062 d_law_1063 d_law_1064 d_law_1065 ?_
  refine lg_cI C (k := 2) (M := 272) (a := 367) wl_154 wi_272 ws_272 wn_RX12 wc_272 cf_X12 (by decide +kernel) d_law_1066 [.int (xs (n + 1)), .int (xs (n + 2))] [.long r] rfl rfl (by decide +kernel) (Nat.le_of_ble_eq_true rfl) (by omega) (Nat.le_of_ble_eq_true rfl) hF1 hF2 hr2 ?_
  exact lg_eqJ C d_law_1069 d_law_1070 (by decide) (kk g2 hI2 hF2)
theorem lc_34 (C : LC E p s m meth c b L xs) (hn : n + 6 ≤ L) (hI : Inv G) (hF : Frz G) (kk : ∀ G2, Inv G2 → Frz G2 → LG E p l e s m below meth c b (lvI E b (nI n)) 1256 [] G2) : LG E p l e s m below meth c b (lvI E b (nI n)) 1075 [] G := by
  obtain ⟨r, g1, g2, hX, hY, hI2⟩ := sp_compare hI (xs (n + 1)) (xs (n + 2))
  obtain ⟨hr1, hF1⟩ := tm150 (d := 200) (by omega) hF r g1 hX
  obtain ⟨hr2, hF2⟩ := tm264 (d := 200) (by omega) hF1 r g2 hY
  refine lg_x C d_law_1075 ?_
  refine lg_k C (j := 1) (k := 1) rfl (by omega) d_law_1076 d_law_1077 d_law_1078 d_law_1079 d_law_1080 ?_
  refine lg_k C (j := 2) (k := 2) rfl (by omega) d_law_1081 d_law_1082 d_law_1083 d_law_1084 d_law_1085 ?_
  refine lg_cI C (k := 2) (M := 150) (a := 0) wl_155 wi_150 ws_150 wn_RX11 wc_150 cf_X11 (by decide +kernel) d_law_1086 [.int (xs (n + 1)), .int (xs (n + 2))] [] rfl rfl rfl (Nat.zero_le 8) (by omega) (Nat.le_of_ble_eq_true rfl) hF hF1 hr1 ?_
  refine lg_m C d_law_1089 ?_
  refine lg_k C (j := 1) (k := 1) rfl (by omega) d_law_1090 d_law_1091 d_law_1092 d_law_1093 d_law_1094 ?_
  refine lg_k C (j := 2) (k := 2) rfl (by omega) d_law_1095 d_law_1096 d_law_1097 d_law_1098 d_law_1099 ?_
  refine lg_cI C (k := 2) (M := 264) (a := 367) wl_158 wi_264 ws_264 wn_RX12 wc_264 cf_X12 (by decide +kernel) d_law_1100 [.int (xs (n + 1)), .int (xs (n + 2))] [.int r] rfl rfl (by decide +kernel) (Nat.le_of_ble_eq_true rfl) (by omega) (Nat.le_of_ble_eq_true rfl) hF1 hF2 hr2 ?_
  exact lg_eq C d_law_1103 (by decide) (kk g2 hI2 hF2)
theorem lc_35 (C : LC E p s m meth c b L xs) (hn : n + 6 ≤ L) (hI : Inv G) (hF : Frz G) (kk : ∀ G2, Inv G2 → Frz G2 → LG E p l e s m below meth c b (lvI E b (nI n)) 1256 [] G2) : LG E p l e s m below meth c b (lvI E b (nI n)) 1108 [] G := by
  obtain ⟨r, g1, g2, hX, hY, hI2⟩ := sp_days hI (xs (n + 1)) (xs (n + 2))
  obtain ⟨hr1, hF1⟩ := tm151 (d := 200) (by omega) hF r g1 hX
  obtain ⟨hr2, hF2⟩ := tm282 (d := 200) (by omega) hF1 r g2 hY
  refine lg_x C d_law_1108 ?_
  refine lg_k C (j := 1) (k := 1) rfl (by omega) d_law_1109 d_law_1110 d_law_1111 d_law_1112 d_law_1113 ?_
  refine lg_k C (j := 2) (k := 2) rfl (by omega) d_law_1114 d_law_1115 d_law_1116 d_law_1117 d_law_1118 ?_
  refine lg_cI C (k := 2) (M := 151) (a := 0) wl_159 wi_151 ws_151 wn_RX11 wc_151 cf_X11 (by decide +kernel) d_law_1119 [.int (xs (n + 1)), .int (xs (n + 2))] [] rfl rfl rfl (Nat.zero_le 8) (by omega) (Nat.le_of_ble_eq_true rfl) hF hF1 hr1 ?_
  refine lg_m C d_law_1122 ?_
  refine lg_k C (j := 1) (k := 1) rfl (by omega) d_law_1123 d_law_1124 d_law_1125 d_law_1126 d_law_1127 ?_
  refine lg_k C (j := 2) (k := 2) rfl (by omega) d_law_1128 d_law_1129 d_law_1130 d_law_1131 d_law_1132 ?_
  refine lg_cI C (k := 2) (M := 282) (a := 367) wl_162 wi_282 ws_282 wn_RX12 wc_282 cf_X12 (by decide +kernel) d_law_1133 [.int (xs (n + 1)), .int (xs (n + 2))] [.int r] rfl rfl (by decide +kernel) (Nat.le_of_ble_eq_true rfl) (by omega) (Nat.le_of_ble_eq_true rfl) hF1 hF2 hr2 ?_
  exact lg_eq C d_law_1136 (by decide) (kk g2 hI2 hF2)
theorem lc_36 (C : LC E p s m meth c b L xs) (hn : n + 6 ≤ L) (hI : Inv G) (hF : Frz G) (kk : ∀ G2, Inv G2 → Frz G2 → LG E p l e s m below meth c b (lvI E b (nI n)) 1256 [] G2) : LG E p l e s m below meth c b (lvI E b (nI n)) 1141 [] G := by
  obtain ⟨r, g1, g2, hX, hY, hI2⟩ := sp_drawn hI (xs (n + 1)) (xs (n + 2))
  obtain ⟨hr1, hF1⟩ := tm154 (d := 200) (by omega) hF r g1 hX
  obtain ⟨hr2, hF2⟩ := tm283 (d := 200) (by omega) hF1 r g2 hY
  refine lg_x C d_law_1141 ?_
  refine lg_k C (j := 1) (k := 1) rfl (by omega) d_law_1142 d_law_1143 d_law_1144 d_law_1145 d_law_1146 ?_
  refine lg_k C (j := 2) (k := 2) rfl (by omega) d_law_1147 d_law_1148 d_law_1149 d_law_1150 d_law_1151 ?_
  refine lg_cI C (k := 2) (M := 154) (a := 0) wl_163 wi_154 ws_154 wn_RX11 wc_154 cf_X11 (by decide +kernel) d_law_1152 [.int (xs (n + 1)), .int (xs (n + 2))] [] rfl rfl rfl (Nat.zero_le 8) (by omega) (Nat.le_of_ble_eq_true rfl) hF hF1 hr1 ?_
  refine lg_m C d_law_1155 ?_
  refine lg_k C (j := 1) (k := 1) rfl (by omega) d_law_1156 d_law_1157 d_law_1158 d_law_1159 d_law_1160 ?_
  refine lg_k C (j := 2) (k := 2) rfl (by omega) d_law_1161 d_law_1162 d_law_1163 d_law_1164 d_law_1165 ?_
  refine lg_cI C (k := 2) (M := 283) (a := 367) wl_166 wi_283 ws_283 wn_RX12 wc_283 cf_X12 (by decide +kernel) d_law_1166 [.int (xs (n + 1)), .int (xs (n + 2))] [.int r] rfl rfl (by decide +kernel) (Nat.le_of_ble_eq_true rfl) (by omega) (Nat.le_of_ble_eq_true rfl) hF1 hF2 hr2 ?_
  exact lg_eq C d_law_1169 (by decide) (kk g2 hI2 hF2)
theorem lc_37 (C : LC E p s m meth c b L xs) (hn : n + 6 ≤ L) (hI : Inv G) (hF : Frz G) (kk : ∀ G2, Inv G2 → Frz G2 → LG E p l e s m below meth c b (lvI E b (nI n)) 1256 [] G2) : LG E p l e s m below meth c b (lvI E b (nI n)) 1174 [] G := by
  obtain ⟨r, g1, g2, hX, hY, hI2⟩ := sp_image hI (xs (n + 1))
  obtain ⟨hr1, hF1⟩ := tm155 (d := 200) (by omega) hF r g1 hX
  obtain ⟨hr2, hF2⟩ := tm176 (d := 200) (by omega) hF1 r g2 hY
  refine lg_x C d_law_1174 ?_
  refine lg_k C (j := 1) (k := 1) rfl (by omega) d_law_1175 d_law_1176 d_law_1177 d_law_1178 d_law_1179 ?_
  refine lg_cI C (k := 1) (M := 155) (a := 0) wl_167 wi_155 ws_155 wn_RX11 wc_155 cf_X11 (by decide +kernel) d_law_1180 [.int (xs (n + 1))] [] rfl rfl rfl (Nat.zero_le 8) (by omega) (Nat.le_of_ble_eq_true rfl) hF hF1 hr1 ?_
  refine lg_m C d_law_1183 ?_
  refine lg_k C (j := 1) (k := 1) rfl (by omega) d_law_1184 d_law_1185 d_law_1186 d_law_1187 d_law_1188 ?_
  refine lg_cI C (k := 1) (M := 176) (a := 367) wl_170 wi_176 ws_176 wn_RX12 wc_176 cf_X12 (by decide +kernel) d_law_1189 [.int (xs (n + 1))] [.int r] rfl rfl (by decide +kernel) (Nat.le_of_ble_eq_true rfl) (by omega) (Nat.le_of_ble_eq_true rfl) hF1 hF2 hr2 ?_
  exact lg_eq C d_law_1192 (by decide) (kk g2 hI2 hF2)
theorem lc_38 (C : LC E p s m meth c b L xs) (hn : n + 6 ≤ L) (hI : Inv G) (hF : Frz G) (kk : ∀ G2, Inv G2 → Frz G2 → LG E p l e s m below meth c b (lvI E b (nI n)) 1256 [] G2) : LG E p l e s m below meth c b (lvI E b (nI n)) 1197 [] G := by
  obtain ⟨r, g1, g2, hX, hY, hI2⟩ := sp_back hI (xs (n + 1))
  obtain ⟨hr1, hF1⟩ := tm156 (d := 200) (by omega) hF r g1 hX
  obtain ⟨hr2, hF2⟩ := tm177 (d := 200) (by omega) hF1 r g2 hY
  refine lg_x C d_law_1197 ?_
  refine lg_k C (j := 1) (k := 1) rfl (by omega) d_law_1198 d_law_1199 d_law_1200 d_law_1201 d_law_1202 ?_
  refine lg_cI C (k := 1) (M := 156) (a := 0) wl_171 wi_156 ws_156 wn_RX11 wc_156 cf_X11 (by decide +kernel) d_law_1203 [.int (xs (n + 1))] [] rfl rfl rfl (Nat.zero_le 8) (by omega) (Nat.le_of_ble_eq_true rfl) hF hF1 hr1 ?_
  refine lg_m C d_law_1206 ?_
  refine lg_k C (j := 1) (k := 1) rfl (by omega) d_law_1207 d_law_1208 d_law_1209 d_law_1210 d_law_1211 ?_
  refine lg_cI C (k := 1) (M := 177) (a := 367) wl_174 wi_177 ws_177 wn_RX12 wc_177 cf_X12 (by decide +kernel) d_law_1212 [.int (xs (n + 1))] [.int r] rfl rfl (by decide +kernel) (Nat.le_of_ble_eq_true rfl) (by omega) (Nat.le_of_ble_eq_true rfl) hF1 hF2 hr2 ?_
  exact lg_eq C d_law_1215 (by decide) (kk g2 hI2 hF2)
theorem lc_39 (C : LC E p s m meth c b L xs) (hn : n + 6 ≤ L) (hI : Inv G) (hF : Frz G) (kk : ∀ G2, Inv G2 → Frz G2 → LG E p l e s m below meth c b (lvI E b (nI n)) 1256 [] G2) : LG E p l e s m below meth c b (lvI E b (nI n)) 1220 [] G := by
  obtain ⟨r, g1, g2, hX, hY, hI2⟩ := sp_count hI (xs (n + 1))
  obtain ⟨hr1, hF1⟩ := tm157 (d := 200) (by omega) hF r g1 hX
  obtain ⟨hr2, hF2⟩ := tm284 (d := 200) (by omega) hF1 r g2 hY
  refine lg_x C d_law_1220 ?_
  refine lg_k C (j := 1) (k := 1) rfl (by omega) d_law_1221 d_law_1222 d_law_1223 d_law_1224 d_law_1225 ?_
  refine lg_cI C (k := 1) (M := 157) (a := 0) wl_175 wi_157 ws_157 wn_RX11 wc_157 cf_X11 (by decide +kernel) d_law_1226 [.int (xs (n + 1))] [] rfl rfl rfl (Nat.zero_le 8) (by omega) (Nat.le_of_ble_eq_true rfl) hF hF1 hr1 ?_
  refine lg_m C d_law_1229 ?_
  refine lg_k C (j := 1) (k := 1) rfl (by omega) d_law_1230 d_law_1231 d_law_1232 d_law_1233 d_law_1234 ?_
  refine lg_cI C (k := 1) (M := 284) (a := 367) wl_178 wi_284 ws_284 wn_RX12 wc_284 cf_X12 (by decide +kernel) d_law_1235 [.int (xs (n + 1))] [.int r] rfl rfl (by decide +kernel) (Nat.le_of_ble_eq_true rfl) (by omega) (Nat.le_of_ble_eq_true rfl) hF1 hF2 hr2 ?_
  exact lg_eq C d_law_1238 (by decide) (kk g2 hI2 hF2)
theorem lc_40 (C : LC E p s m meth c b L xs) (hn : n + 6 ≤ L) (hI : Inv G) (hF : Frz G) (kk : ∀ G2, Inv G2 → Frz G2 → LG E p l e s m below meth c b (lvI E b (nI n)) 1256 [] G2) : LG E p l e s m below meth c b (lvI E b (nI n)) 1243 [] G := by
  obtain ⟨r, g1, g2, hX, hY, hI2⟩ := sp_status hI 
  obtain ⟨hr1, hF1⟩ := tm158 (d := 200) hF r g1 hX
  obtain ⟨hr2, hF2⟩ := tm285 (d := 200) hF1 r g2 hY
  refine lg_x C d_law_1243 ?_
  refine lg_cI C (k := 0) (M := 158) (a := 0) wl_179 wi_158 ws_158 wn_RX11 wc_158 cf_X11 (by decide +kernel) d_law_1244 [] [] rfl rfl rfl (Nat.zero_le 8) (by omega) (Nat.le_of_ble_eq_true rfl) hF hF1 hr1 ?_
  refine lg_m C d_law_1247 ?_
  refine lg_cI C (k := 0) (M := 285) (a := 367) wl_182 wi_285 ws_285 wn_RX12 wc_285 cf_X12 (by decide +kernel) d_law_1248 [] [.int r] rfl rfl (by decide +kernel) (Nat.le_of_ble_eq_true rfl) (by omega) (Nat.le_of_ble_eq_true rfl) hF1 hF2 hr2 ?_
  exact lg_eq C d_law_1251 (by decide) (kk g2 hI2 hF2)
end LW
