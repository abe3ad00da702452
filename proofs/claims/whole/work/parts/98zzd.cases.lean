/-! THE LAW: its calls, one by one (laid by wip/whole/gen_law.py) -/

theorem lw_c0 {xs : Nat → Int32} {L i : Nat} {σ : ax_S} (hL : L ≤ 3584) (hi : i + 7 ≤ L) (r : RA σ) (f : FI σ) : ∃ ρ : ax_S, ev (ax_lO xs L) 60 293 192 (lwL i) [] (ax_mk σ) = ev (ax_lO xs L) 60 293 1455 (lwL i) [] (ax_mk ρ) ∧ RA ρ ∧ FI ρ := by
  obtain ⟨v, τ, ρ, a1, a2, a3, a4⟩ := PB.pt (t_row 39 (xs (i + 1)) (xs (i + 2)) (xs (i + 3)) r) f
  rw [show (39 + 20 : Nat) = 59 from rfl] at a1 a2
  refine ⟨ρ, ?_, a3, a4⟩
  refine (E_al c_293_192 rfl (by decide)).trans ?_
  refine (lw_arg (k := 1) hL (by omega) c_293_193 c_293_194 c_293_195 c_293_196 c_293_197 rfl).trans ?_
  refine (lw_arg (k := 2) hL (by omega) c_293_198 c_293_199 c_293_200 c_293_201 c_293_202 rfl).trans ?_
  refine (lw_arg (k := 3) hL (by omega) c_293_203 c_293_204 c_293_205 c_293_206 c_293_207 rfl).trans ?_
  refine (E_cLV (as := [.int (xs (i + 1)), .int (xs (i + 2)), .int (xs (i + 3))]) (rest := []) c_293_208 mi_12 rfl (lO_kl (sO_kl sh_0)) (Nat.le_of_ble_eq_true rfl) (Nat.le_of_ble_eq_true rfl)).trans ?_
  rw [gs_cL (ax_sim xs L) a1, Option.bind_some]
  dsimp only
  refine (E_al c_293_211 rfl (by decide)).trans ?_
  refine (lw_arg (k := 1) hL (by omega) c_293_212 c_293_213 c_293_214 c_293_215 c_293_216 rfl).trans ?_
  refine (lw_arg (k := 2) hL (by omega) c_293_217 c_293_218 c_293_219 c_293_220 c_293_221 rfl).trans ?_
  refine (lw_arg (k := 3) hL (by omega) c_293_222 c_293_223 c_293_224 c_293_225 c_293_226 rfl).trans ?_
  refine (E_cLV (as := [.int (xs (i + 1)), .int (xs (i + 2)), .int (xs (i + 3))]) (rest := [.long v]) c_293_227 mi_196 rfl (lO_kl (sO_kl sh_82)) (Nat.le_of_ble_eq_true rfl) (Nat.le_of_ble_eq_true rfl)).trans ?_
  rw [gs_cL (ax_sim xs L) a2, Option.bind_some]
  dsimp only
  refine (E_lcmp c_293_230).trans ?_
  exact (E_b0_eq (q := 1455) c_293_231 rfl).trans (if_pos ((lg_cmp_eq v v).mpr rfl))
theorem lw_c1 {xs : Nat → Int32} {L i : Nat} {σ : ax_S} (hL : L ≤ 3584) (hi : i + 7 ≤ L) (r : RA σ) (f : FI σ) : ∃ ρ : ax_S, ev (ax_lO xs L) 60 293 236 (lwL i) [] (ax_mk σ) = ev (ax_lO xs L) 60 293 1455 (lwL i) [] (ax_mk ρ) ∧ RA ρ ∧ FI ρ := by
  obtain ⟨v, τ, ρ, a1, a2, a3, a4⟩ := PB.pt (t_setI 39 (xs (i + 1)) (xs (i + 2)) (xs (i + 3)) r) f
  rw [show (39 + 20 : Nat) = 59 from rfl] at a1 a2
  refine ⟨ρ, ?_, a3, a4⟩
  refine (E_al c_293_236 rfl (by decide)).trans ?_
  refine (lw_arg (k := 1) hL (by omega) c_293_237 c_293_238 c_293_239 c_293_240 c_293_241 rfl).trans ?_
  refine (lw_arg (k := 2) hL (by omega) c_293_242 c_293_243 c_293_244 c_293_245 c_293_246 rfl).trans ?_
  refine (lw_arg (k := 3) hL (by omega) c_293_247 c_293_248 c_293_249 c_293_250 c_293_251 rfl).trans ?_
  refine (E_cLV (as := [.int (xs (i + 1)), .int (xs (i + 2)), .int (xs (i + 3))]) (rest := []) c_293_252 mi_17 rfl (lO_kl (sO_kl sh_0)) (Nat.le_of_ble_eq_true rfl) (Nat.le_of_ble_eq_true rfl)).trans ?_
  rw [gs_cL (ax_sim xs L) a1, Option.bind_some]
  dsimp only
  refine (E_al c_293_255 rfl (by decide)).trans ?_
  refine (lw_arg (k := 1) hL (by omega) c_293_256 c_293_257 c_293_258 c_293_259 c_293_260 rfl).trans ?_
  refine (lw_arg (k := 2) hL (by omega) c_293_261 c_293_262 c_293_263 c_293_264 c_293_265 rfl).trans ?_
  refine (lw_arg (k := 3) hL (by omega) c_293_266 c_293_267 c_293_268 c_293_269 c_293_270 rfl).trans ?_
  refine (E_cLV (as := [.int (xs (i + 1)), .int (xs (i + 2)), .int (xs (i + 3))]) (rest := [.long v]) c_293_271 mi_200 rfl (lO_kl (sO_kl sh_82)) (Nat.le_of_ble_eq_true rfl) (Nat.le_of_ble_eq_true rfl)).trans ?_
  rw [gs_cL (ax_sim xs L) a2, Option.bind_some]
  dsimp only
  refine (E_lcmp c_293_274).trans ?_
  exact (E_b0_eq (q := 1455) c_293_275 rfl).trans (if_pos ((lg_cmp_eq v v).mpr rfl))
theorem lw_c2 {xs : Nat → Int32} {L i : Nat} {σ : ax_S} (hL : L ≤ 3584) (hi : i + 7 ≤ L) (r : RA σ) (f : FI σ) : ∃ ρ : ax_S, ev (ax_lO xs L) 60 293 280 (lwL i) [] (ax_mk σ) = ev (ax_lO xs L) 60 293 1455 (lwL i) [] (ax_mk ρ) ∧ RA ρ ∧ FI ρ := by
  obtain ⟨v, τ, ρ, a1, a2, a3, a4⟩ := PB.pt (t_copy 39 (xs (i + 1)) (xs (i + 2)) (xs (i + 3)) (xs (i + 4)) (xs (i + 5)) r) f
  rw [show (39 + 20 : Nat) = 59 from rfl] at a1 a2
  refine ⟨ρ, ?_, a3, a4⟩
  refine (E_al c_293_280 rfl (by decide)).trans ?_
  refine (lw_arg (k := 1) hL (by omega) c_293_281 c_293_282 c_293_283 c_293_284 c_293_285 rfl).trans ?_
  refine (lw_arg (k := 2) hL (by omega) c_293_286 c_293_287 c_293_288 c_293_289 c_293_290 rfl).trans ?_
  refine (lw_arg (k := 3) hL (by omega) c_293_291 c_293_292 c_293_293 c_293_294 c_293_295 rfl).trans ?_
  refine (lw_arg (k := 4) hL (by omega) c_293_296 c_293_297 c_293_298 c_293_299 c_293_300 rfl).trans ?_
  refine (lw_arg (k := 5) hL (by omega) c_293_301 c_293_302 c_293_303 c_293_304 c_293_305 rfl).trans ?_
  refine (E_cLV (as := [.int (xs (i + 1)), .int (xs (i + 2)), .int (xs (i + 3)), .int (xs (i + 4)), .int (xs (i + 5))]) (rest := []) c_293_306 mi_22 rfl (lO_kl (sO_kl sh_0)) (Nat.le_of_ble_eq_true rfl) (Nat.le_of_ble_eq_true rfl)).trans ?_
  rw [gs_cL (ax_sim xs L) a1, Option.bind_some]
  dsimp only
  refine (E_al c_293_309 rfl (by decide)).trans ?_
  refine (lw_arg (k := 1) hL (by omega) c_293_310 c_293_311 c_293_312 c_293_313 c_293_314 rfl).trans ?_
  refine (lw_arg (k := 2) hL (by omega) c_293_315 c_293_316 c_293_317 c_293_318 c_293_319 rfl).trans ?_
  refine (lw_arg (k := 3) hL (by omega) c_293_320 c_293_321 c_293_322 c_293_323 c_293_324 rfl).trans ?_
  refine (lw_arg (k := 4) hL (by omega) c_293_325 c_293_326 c_293_327 c_293_328 c_293_329 rfl).trans ?_
  refine (lw_arg (k := 5) hL (by omega) c_293_330 c_293_331 c_293_332 c_293_333 c_293_334 rfl).trans ?_
  refine (E_cLV (as := [.int (xs (i + 1)), .int (xs (i + 2)), .int (xs (i + 3)), .int (xs (i + 4)), .int (xs (i + 5))]) (rest := [.long v]) c_293_335 mi_201 rfl (lO_kl (sO_kl sh_82)) (Nat.le_of_ble_eq_true rfl) (Nat.le_of_ble_eq_true rfl)).trans ?_
  rw [gs_cL (ax_sim xs L) a2, Option.bind_some]
  dsimp only
  refine (E_lcmp c_293_338).trans ?_
  exact (E_b0_eq (q := 1455) c_293_339 rfl).trans (if_pos ((lg_cmp_eq v v).mpr rfl))
theorem lw_c3 {xs : Nat → Int32} {L i : Nat} {σ : ax_S} (hL : L ≤ 3584) (hi : i + 7 ≤ L) (r : RA σ) (f : FI σ) : ∃ ρ : ax_S, ev (ax_lO xs L) 60 293 344 (lwL i) [] (ax_mk σ) = ev (ax_lO xs L) 60 293 1455 (lwL i) [] (ax_mk ρ) ∧ RA ρ ∧ FI ρ := by
  obtain ⟨v, τ, ρ, a1, a2, a3, a4⟩ := PB.pt (t_drop 39 (xs (i + 1)) r) f
  rw [show (39 + 20 : Nat) = 59 from rfl] at a1 a2
  refine ⟨ρ, ?_, a3, a4⟩
  refine (E_al c_293_344 rfl (by decide)).trans ?_
  refine (lw_arg (k := 1) hL (by omega) c_293_345 c_293_346 c_293_347 c_293_348 c_293_349 rfl).trans ?_
  refine (E_cLV (as := [.int (xs (i + 1))]) (rest := []) c_293_350 mi_25 rfl (lO_kl (sO_kl sh_0)) (Nat.le_of_ble_eq_true rfl) (Nat.le_of_ble_eq_true rfl)).trans ?_
  rw [gs_cL (ax_sim xs L) a1, Option.bind_some]
  dsimp only
  refine (E_al c_293_353 rfl (by decide)).trans ?_
  refine (lw_arg (k := 1) hL (by omega) c_293_354 c_293_355 c_293_356 c_293_357 c_293_358 rfl).trans ?_
  refine (E_cLV (as := [.int (xs (i + 1))]) (rest := [.long v]) c_293_359 mi_202 rfl (lO_kl (sO_kl sh_82)) (Nat.le_of_ble_eq_true rfl) (Nat.le_of_ble_eq_true rfl)).trans ?_
  rw [gs_cL (ax_sim xs L) a2, Option.bind_some]
  dsimp only
  refine (E_lcmp c_293_362).trans ?_
  exact (E_b0_eq (q := 1455) c_293_363 rfl).trans (if_pos ((lg_cmp_eq v v).mpr rfl))
theorem lw_c4 {xs : Nat → Int32} {L i : Nat} {σ : ax_S} (hL : L ≤ 3584) (hi : i + 7 ≤ L) (r : RA σ) (f : FI σ) : ∃ ρ : ax_S, ev (ax_lO xs L) 60 293 368 (lwL i) [] (ax_mk σ) = ev (ax_lO xs L) 60 293 1455 (lwL i) [] (ax_mk ρ) ∧ RA ρ ∧ FI ρ := by
  obtain ⟨v, τ, ρ, a1, a2, a3, a4⟩ := PB.pt (t_feed 39 (((xs (i + 1)).toInt64 <<< ((32 : Int32).toInt64 &&& 63)) ||| ((xs (i + 2)).toInt64 &&& 4294967295)) (xs (i + 3)) r) f
  rw [show (39 + 20 : Nat) = 59 from rfl] at a1 a2
  refine ⟨ρ, ?_, a3, a4⟩
  refine (E_al c_293_368 rfl (by decide)).trans ?_
  refine (lw_arg (k := 1) hL (by omega) c_293_369 c_293_370 c_293_371 c_293_372 c_293_373 rfl).trans ?_
  refine (E_i2l c_293_374).trans ?_
  refine (E_ic (v := 32) c_293_375 rfl).trans ?_
  refine (E_lshl c_293_377).trans ?_
  refine (lw_arg (k := 2) hL (by omega) c_293_378 c_293_379 c_293_380 c_293_381 c_293_382 rfl).trans ?_
  refine (E_i2l c_293_383).trans ?_
  refine (E_l2 (v := 4294967295) c_293_384 (by decide)).trans ?_
  refine (E_land c_293_387).trans ?_
  refine (E_lor c_293_388).trans ?_
  refine (lw_arg (k := 3) hL (by omega) c_293_389 c_293_390 c_293_391 c_293_392 c_293_393 rfl).trans ?_
  refine (E_cLV (as := [.long (((xs (i + 1)).toInt64 <<< ((32 : Int32).toInt64 &&& 63)) ||| ((xs (i + 2)).toInt64 &&& 4294967295)), .int (xs (i + 3))]) (rest := []) c_293_394 mi_27 rfl (lO_kl (sO_kl sh_0)) (Nat.le_of_ble_eq_true rfl) (Nat.le_of_ble_eq_true rfl)).trans ?_
  rw [gs_cL (ax_sim xs L) a1, Option.bind_some]
  dsimp only
  refine (E_al c_293_397 rfl (by decide)).trans ?_
  refine (lw_arg (k := 1) hL (by omega) c_293_398 c_293_399 c_293_400 c_293_401 c_293_402 rfl).trans ?_
  refine (E_i2l c_293_403).trans ?_
  refine (E_ic (v := 32) c_293_404 rfl).trans ?_
  refine (E_lshl c_293_406).trans ?_
  refine (lw_arg (k := 2) hL (by omega) c_293_407 c_293_408 c_293_409 c_293_410 c_293_411 rfl).trans ?_
  refine (E_i2l c_293_412).trans ?_
  refine (E_l2 (v := 4294967295) c_293_413 (by decide)).trans ?_
  refine (E_land c_293_416).trans ?_
  refine (E_lor c_293_417).trans ?_
  refine (lw_arg (k := 3) hL (by omega) c_293_418 c_293_419 c_293_420 c_293_421 c_293_422 rfl).trans ?_
  refine (E_cLV (as := [.long (((xs (i + 1)).toInt64 <<< ((32 : Int32).toInt64 &&& 63)) ||| ((xs (i + 2)).toInt64 &&& 4294967295)), .int (xs (i + 3))]) (rest := [.long v]) c_293_423 mi_203 rfl (lO_kl (sO_kl sh_82)) (Nat.le_of_ble_eq_true rfl) (Nat.le_of_ble_eq_true rfl)).trans ?_
  rw [gs_cL (ax_sim xs L) a2, Option.bind_some]
  dsimp only
  refine (E_lcmp c_293_426).trans ?_
  exact (E_b0_eq (q := 1455) c_293_427 rfl).trans (if_pos ((lg_cmp_eq v v).mpr rfl))
theorem lw_c5 {xs : Nat → Int32} {L i : Nat} {σ : ax_S} (hL : L ≤ 3584) (hi : i + 7 ≤ L) (r : RA σ) (f : FI σ) : ∃ ρ : ax_S, ev (ax_lO xs L) 60 293 432 (lwL i) [] (ax_mk σ) = ev (ax_lO xs L) 60 293 1455 (lwL i) [] (ax_mk ρ) ∧ RA ρ ∧ FI ρ := by
  obtain ⟨v, τ, ρ, a1, a2, a3, a4⟩ := PB.pt (t_kitchen 39  r) f
  rw [show (39 + 20 : Nat) = 59 from rfl] at a1 a2
  refine ⟨ρ, ?_, a3, a4⟩
  refine (E_al c_293_432 rfl (by decide)).trans ?_
  refine (E_cLV (as := []) (rest := []) c_293_433 mi_30 rfl (lO_kl (sO_kl sh_0)) (Nat.le_of_ble_eq_true rfl) (Nat.le_of_ble_eq_true rfl)).trans ?_
  rw [gs_cL (ax_sim xs L) a1, Option.bind_some]
  dsimp only
  refine (E_al c_293_436 rfl (by decide)).trans ?_
  refine (E_cLV (as := []) (rest := [.long v]) c_293_437 mi_204 rfl (lO_kl (sO_kl sh_82)) (Nat.le_of_ble_eq_true rfl) (Nat.le_of_ble_eq_true rfl)).trans ?_
  rw [gs_cL (ax_sim xs L) a2, Option.bind_some]
  dsimp only
  refine (E_lcmp c_293_440).trans ?_
  exact (E_b0_eq (q := 1455) c_293_441 rfl).trans (if_pos ((lg_cmp_eq v v).mpr rfl))
theorem lw_c6 {xs : Nat → Int32} {L i : Nat} {σ : ax_S} (hL : L ≤ 3584) (hi : i + 7 ≤ L) (r : RA σ) (f : FI σ) : ∃ ρ : ax_S, ev (ax_lO xs L) 60 293 446 (lwL i) [] (ax_mk σ) = ev (ax_lO xs L) 60 293 1455 (lwL i) [] (ax_mk ρ) ∧ RA ρ ∧ FI ρ := by
  obtain ⟨v, τ, ρ, a1, a2, a3, a4⟩ := PB.pt (t_card 39  r) f
  rw [show (39 + 20 : Nat) = 59 from rfl] at a1 a2
  refine ⟨ρ, ?_, a3, a4⟩
  refine (E_al c_293_446 rfl (by decide)).trans ?_
  refine (E_cLV (as := []) (rest := []) c_293_447 mi_66 rfl (lO_kl (sO_kl sh_0)) (Nat.le_of_ble_eq_true rfl) (Nat.le_of_ble_eq_true rfl)).trans ?_
  rw [gs_cL (ax_sim xs L) a1, Option.bind_some]
  dsimp only
  refine (E_al c_293_450 rfl (by decide)).trans ?_
  refine (E_cLV (as := []) (rest := [.long v]) c_293_451 mi_219 rfl (lO_kl (sO_kl sh_82)) (Nat.le_of_ble_eq_true rfl) (Nat.le_of_ble_eq_true rfl)).trans ?_
  rw [gs_cL (ax_sim xs L) a2, Option.bind_some]
  dsimp only
  refine (E_lcmp c_293_454).trans ?_
  exact (E_b0_eq (q := 1455) c_293_455 rfl).trans (if_pos ((lg_cmp_eq v v).mpr rfl))
theorem lw_c7 {xs : Nat → Int32} {L i : Nat} {σ : ax_S} (hL : L ≤ 3584) (hi : i + 7 ≤ L) (r : RA σ) (f : FI σ) : ∃ ρ : ax_S, ev (ax_lO xs L) 60 293 460 (lwL i) [] (ax_mk σ) = ev (ax_lO xs L) 60 293 1455 (lwL i) [] (ax_mk ρ) ∧ RA ρ ∧ FI ρ := by
  obtain ⟨v, τ, ρ, a1, a2, a3, a4⟩ := AI.pi (t_fault 39  r.2.2.2.1) r f
  rw [show (39 + 20 : Nat) = 59 from rfl] at a1 a2
  refine ⟨ρ, ?_, a3, a4⟩
  refine (E_al c_293_460 rfl (by decide)).trans ?_
  refine (E_cIV (as := []) (rest := []) c_293_461 mi_85 rfl rfl (lO_kl (sO_kl sh_0)) (Nat.le_of_ble_eq_true rfl) (Nat.le_of_ble_eq_true rfl)).trans ?_
  rw [gs_cI (ax_sim xs L) a1, Option.bind_some]
  dsimp only
  refine (E_al c_293_464 rfl (by decide)).trans ?_
  refine (E_cIV (as := []) (rest := [.int v]) c_293_465 mi_227 rfl rfl (lO_kl (sO_kl sh_82)) (Nat.le_of_ble_eq_true rfl) (Nat.le_of_ble_eq_true rfl)).trans ?_
  rw [gs_cI (ax_sim xs L) a2, Option.bind_some]
  dsimp only
  exact (E_br_eq (q := 1455) c_293_468 rfl).trans (if_pos rfl)
theorem lw_c8 {xs : Nat → Int32} {L i : Nat} {σ : ax_S} (hL : L ≤ 3584) (hi : i + 7 ≤ L) (r : RA σ) (f : FI σ) : ∃ ρ : ax_S, ev (ax_lO xs L) 60 293 473 (lwL i) [] (ax_mk σ) = ev (ax_lO xs L) 60 293 1455 (lwL i) [] (ax_mk ρ) ∧ RA ρ ∧ FI ρ := by
  obtain ⟨v, τ, ρ, a1, a2, a3, a4⟩ := PB.pt (t_told 39 (xs (i + 1)) (xs (i + 2)) (xs (i + 3)) (xs (i + 4)) (xs (i + 5)) r) f
  rw [show (39 + 20 : Nat) = 59 from rfl] at a1 a2
  refine ⟨ρ, ?_, a3, a4⟩
  refine (E_al c_293_473 rfl (by decide)).trans ?_
  refine (lw_arg (k := 1) hL (by omega) c_293_474 c_293_475 c_293_476 c_293_477 c_293_478 rfl).trans ?_
  refine (lw_arg (k := 2) hL (by omega) c_293_479 c_293_480 c_293_481 c_293_482 c_293_483 rfl).trans ?_
  refine (lw_arg (k := 3) hL (by omega) c_293_484 c_293_485 c_293_486 c_293_487 c_293_488 rfl).trans ?_
  refine (lw_arg (k := 4) hL (by omega) c_293_489 c_293_490 c_293_491 c_293_492 c_293_493 rfl).trans ?_
  refine (lw_arg (k := 5) hL (by omega) c_293_494 c_293_495 c_293_496 c_293_497 c_293_498 rfl).trans ?_
  refine (E_cLV (as := [.int (xs (i + 1)), .int (xs (i + 2)), .int (xs (i + 3)), .int (xs (i + 4)), .int (xs (i + 5))]) (rest := []) c_293_499 mi_87 rfl (lO_kl (sO_kl sh_0)) (Nat.le_of_ble_eq_true rfl) (Nat.le_of_ble_eq_true rfl)).trans ?_
  rw [gs_cL (ax_sim xs L) a1, Option.bind_some]
  dsimp only
  refine (E_al c_293_502 rfl (by decide)).trans ?_
  refine (lw_arg (k := 1) hL (by omega) c_293_503 c_293_504 c_293_505 c_293_506 c_293_507 rfl).trans ?_
  refine (lw_arg (k := 2) hL (by omega) c_293_508 c_293_509 c_293_510 c_293_511 c_293_512 rfl).trans ?_
  refine (lw_arg (k := 3) hL (by omega) c_293_513 c_293_514 c_293_515 c_293_516 c_293_517 rfl).trans ?_
  refine (lw_arg (k := 4) hL (by omega) c_293_518 c_293_519 c_293_520 c_293_521 c_293_522 rfl).trans ?_
  refine (lw_arg (k := 5) hL (by omega) c_293_523 c_293_524 c_293_525 c_293_526 c_293_527 rfl).trans ?_
  refine (E_cLV (as := [.int (xs (i + 1)), .int (xs (i + 2)), .int (xs (i + 3)), .int (xs (i + 4)), .int (xs (i + 5))]) (rest := [.long v]) c_293_528 mi_228 rfl (lO_kl (sO_kl sh_82)) (Nat.le_of_ble_eq_true rfl) (Nat.le_of_ble_eq_true rfl)).trans ?_
  rw [gs_cL (ax_sim xs L) a2, Option.bind_some]
  dsimp only
  refine (E_lcmp c_293_531).trans ?_
  exact (E_b0_eq (q := 1455) c_293_532 rfl).trans (if_pos ((lg_cmp_eq v v).mpr rfl))
theorem lw_c9 {xs : Nat → Int32} {L i : Nat} {σ : ax_S} (hL : L ≤ 3584) (hi : i + 7 ≤ L) (r : RA σ) (f : FI σ) : ∃ ρ : ax_S, ev (ax_lO xs L) 60 293 537 (lwL i) [] (ax_mk σ) = ev (ax_lO xs L) 60 293 1455 (lwL i) [] (ax_mk ρ) ∧ RA ρ ∧ FI ρ := by
  obtain ⟨v, τ, ρ, a1, a2, a3, a4⟩ := PB.pt (t_copied 39 (xs (i + 1)) (xs (i + 2)) (xs (i + 3)) (xs (i + 4)) (xs (i + 5)) (xs (i + 6)) r) f
  rw [show (39 + 20 : Nat) = 59 from rfl] at a1 a2
  refine ⟨ρ, ?_, a3, a4⟩
  refine (E_al c_293_537 rfl (by decide)).trans ?_
  refine (lw_arg (k := 1) hL (by omega) c_293_538 c_293_539 c_293_540 c_293_541 c_293_542 rfl).trans ?_
  refine (lw_arg (k := 2) hL (by omega) c_293_543 c_293_544 c_293_545 c_293_546 c_293_547 rfl).trans ?_
  refine (lw_arg (k := 3) hL (by omega) c_293_548 c_293_549 c_293_550 c_293_551 c_293_552 rfl).trans ?_
  refine (lw_arg (k := 4) hL (by omega) c_293_553 c_293_554 c_293_555 c_293_556 c_293_557 rfl).trans ?_
  refine (lw_arg (k := 5) hL (by omega) c_293_558 c_293_559 c_293_560 c_293_561 c_293_562 rfl).trans ?_
  refine (lw_arg (k := 6) hL (by omega) c_293_563 c_293_564 c_293_565 c_293_567 c_293_568 rfl).trans ?_
  refine (E_cLV (as := [.int (xs (i + 1)), .int (xs (i + 2)), .int (xs (i + 3)), .int (xs (i + 4)), .int (xs (i + 5)), .int (xs (i + 6))]) (rest := []) c_293_569 mi_95 rfl (lO_kl (sO_kl sh_0)) (Nat.le_of_ble_eq_true rfl) (Nat.le_of_ble_eq_true rfl)).trans ?_
  rw [gs_cL (ax_sim xs L) a1, Option.bind_some]
  dsimp only
  refine (E_al c_293_572 rfl (by decide)).trans ?_
  refine (lw_arg (k := 1) hL (by omega) c_293_573 c_293_574 c_293_575 c_293_576 c_293_577 rfl).trans ?_
  refine (lw_arg (k := 2) hL (by omega) c_293_578 c_293_579 c_293_580 c_293_581 c_293_582 rfl).trans ?_
  refine (lw_arg (k := 3) hL (by omega) c_293_583 c_293_584 c_293_585 c_293_586 c_293_587 rfl).trans ?_
  refine (lw_arg (k := 4) hL (by omega) c_293_588 c_293_589 c_293_590 c_293_591 c_293_592 rfl).trans ?_
  refine (lw_arg (k := 5) hL (by omega) c_293_593 c_293_594 c_293_595 c_293_596 c_293_597 rfl).trans ?_
  refine (lw_arg (k := 6) hL (by omega) c_293_598 c_293_599 c_293_600 c_293_602 c_293_603 rfl).trans ?_
  refine (E_cLV (as := [.int (xs (i + 1)), .int (xs (i + 2)), .int (xs (i + 3)), .int (xs (i + 4)), .int (xs (i + 5)), .int (xs (i + 6))]) (rest := [.long v]) c_293_604 mi_233 rfl (lO_kl (sO_kl sh_82)) (Nat.le_of_ble_eq_true rfl) (Nat.le_of_ble_eq_true rfl)).trans ?_
  rw [gs_cL (ax_sim xs L) a2, Option.bind_some]
  dsimp only
  refine (E_lcmp c_293_607).trans ?_
  exact (E_b0_eq (q := 1455) c_293_608 rfl).trans (if_pos ((lg_cmp_eq v v).mpr rfl))
theorem lw_c10 {xs : Nat → Int32} {L i : Nat} {σ : ax_S} (hL : L ≤ 3584) (hi : i + 7 ≤ L) (r : RA σ) (f : FI σ) : ∃ ρ : ax_S, ev (ax_lO xs L) 60 293 613 (lwL i) [] (ax_mk σ) = ev (ax_lO xs L) 60 293 1455 (lwL i) [] (ax_mk ρ) ∧ RA ρ ∧ FI ρ := by
  obtain ⟨v, τ, ρ, a1, a2, a3, a4⟩ := PB.pt (AK.pb (t_mark 39 (xs (i + 1)) (xs (i + 2)) r.1) r) f
  rw [show (39 + 20 : Nat) = 59 from rfl] at a1 a2
  refine ⟨ρ, ?_, a3, a4⟩
  refine (E_al c_293_613 rfl (by decide)).trans ?_
  refine (lw_arg (k := 1) hL (by omega) c_293_614 c_293_615 c_293_616 c_293_617 c_293_618 rfl).trans ?_
  refine (lw_arg (k := 2) hL (by omega) c_293_619 c_293_620 c_293_621 c_293_622 c_293_623 rfl).trans ?_
  refine (E_cLV (as := [.int (xs (i + 1)), .int (xs (i + 2))]) (rest := []) c_293_624 mi_99 rfl (lO_kl (sO_kl sh_0)) (Nat.le_of_ble_eq_true rfl) (Nat.le_of_ble_eq_true rfl)).trans ?_
  rw [gs_cL (ax_sim xs L) a1, Option.bind_some]
  dsimp only
  refine (E_al c_293_627 rfl (by decide)).trans ?_
  refine (lw_arg (k := 1) hL (by omega) c_293_628 c_293_629 c_293_630 c_293_631 c_293_632 rfl).trans ?_
  refine (lw_arg (k := 2) hL (by omega) c_293_633 c_293_634 c_293_635 c_293_636 c_293_637 rfl).trans ?_
  refine (E_cLV (as := [.int (xs (i + 1)), .int (xs (i + 2))]) (rest := [.long v]) c_293_638 mi_236 rfl (lO_kl (sO_kl sh_82)) (Nat.le_of_ble_eq_true rfl) (Nat.le_of_ble_eq_true rfl)).trans ?_
  rw [gs_cL (ax_sim xs L) a2, Option.bind_some]
  dsimp only
  refine (E_lcmp c_293_641).trans ?_
  exact (E_b0_eq (q := 1455) c_293_642 rfl).trans (if_pos ((lg_cmp_eq v v).mpr rfl))
theorem lw_c11 {xs : Nat → Int32} {L i : Nat} {σ : ax_S} (hL : L ≤ 3584) (hi : i + 7 ≤ L) (r : RA σ) (f : FI σ) : ∃ ρ : ax_S, ev (ax_lO xs L) 60 293 647 (lwL i) [] (ax_mk σ) = ev (ax_lO xs L) 60 293 1455 (lwL i) [] (ax_mk ρ) ∧ RA ρ ∧ FI ρ := by
  obtain ⟨v, τ, ρ, a1, a2, a3, a4⟩ := PB.pt (AK.pb (t_of 39 (xs (i + 1)) (xs (i + 2)) r.1) r) f
  rw [show (39 + 20 : Nat) = 59 from rfl] at a1 a2
  refine ⟨ρ, ?_, a3, a4⟩
  refine (E_al c_293_647 rfl (by decide)).trans ?_
  refine (lw_arg (k := 1) hL (by omega) c_293_648 c_293_649 c_293_650 c_293_651 c_293_652 rfl).trans ?_
  refine (lw_arg (k := 2) hL (by omega) c_293_653 c_293_654 c_293_655 c_293_656 c_293_657 rfl).trans ?_
  refine (E_cLV (as := [.int (xs (i + 1)), .int (xs (i + 2))]) (rest := []) c_293_658 mi_100 rfl (lO_kl (sO_kl sh_0)) (Nat.le_of_ble_eq_true rfl) (Nat.le_of_ble_eq_true rfl)).trans ?_
  rw [gs_cL (ax_sim xs L) a1, Option.bind_some]
  dsimp only
  refine (E_al c_293_661 rfl (by decide)).trans ?_
  refine (lw_arg (k := 1) hL (by omega) c_293_662 c_293_663 c_293_664 c_293_665 c_293_666 rfl).trans ?_
  refine (lw_arg (k := 2) hL (by omega) c_293_667 c_293_668 c_293_669 c_293_670 c_293_671 rfl).trans ?_
  refine (E_cLV (as := [.int (xs (i + 1)), .int (xs (i + 2))]) (rest := [.long v]) c_293_672 mi_238 rfl (lO_kl (sO_kl sh_82)) (Nat.le_of_ble_eq_true rfl) (Nat.le_of_ble_eq_true rfl)).trans ?_
  rw [gs_cL (ax_sim xs L) a2, Option.bind_some]
  dsimp only
  refine (E_lcmp c_293_675).trans ?_
  exact (E_b0_eq (q := 1455) c_293_676 rfl).trans (if_pos ((lg_cmp_eq v v).mpr rfl))
theorem lw_c12 {xs : Nat → Int32} {L i : Nat} {σ : ax_S} (hL : L ≤ 3584) (hi : i + 7 ≤ L) (r : RA σ) (f : FI σ) : ∃ ρ : ax_S, ev (ax_lO xs L) 60 293 681 (lwL i) [] (ax_mk σ) = ev (ax_lO xs L) 60 293 1455 (lwL i) [] (ax_mk ρ) ∧ RA ρ ∧ FI ρ := by
  obtain ⟨v, τ, ρ, a1, a2, a3, a4⟩ := PB.pt (t_stain 39 (xs (i + 1)) (xs (i + 2)) r) f
  rw [show (39 + 20 : Nat) = 59 from rfl] at a1 a2
  refine ⟨ρ, ?_, a3, a4⟩
  refine (E_al c_293_681 rfl (by decide)).trans ?_
  refine (lw_arg (k := 1) hL (by omega) c_293_682 c_293_683 c_293_684 c_293_685 c_293_686 rfl).trans ?_
  refine (lw_arg (k := 2) hL (by omega) c_293_687 c_293_688 c_293_689 c_293_690 c_293_691 rfl).trans ?_
  refine (E_cLV (as := [.int (xs (i + 1)), .int (xs (i + 2))]) (rest := []) c_293_692 mi_105 rfl (lO_kl (sO_kl sh_0)) (Nat.le_of_ble_eq_true rfl) (Nat.le_of_ble_eq_true rfl)).trans ?_
  rw [gs_cL (ax_sim xs L) a1, Option.bind_some]
  dsimp only
  refine (E_al c_293_695 rfl (by decide)).trans ?_
  refine (lw_arg (k := 1) hL (by omega) c_293_696 c_293_697 c_293_698 c_293_699 c_293_700 rfl).trans ?_
  refine (lw_arg (k := 2) hL (by omega) c_293_701 c_293_702 c_293_703 c_293_704 c_293_705 rfl).trans ?_
  refine (E_cLV (as := [.int (xs (i + 1)), .int (xs (i + 2))]) (rest := [.long v]) c_293_706 mi_241 rfl (lO_kl (sO_kl sh_82)) (Nat.le_of_ble_eq_true rfl) (Nat.le_of_ble_eq_true rfl)).trans ?_
  rw [gs_cL (ax_sim xs L) a2, Option.bind_some]
  dsimp only
  refine (E_lcmp c_293_709).trans ?_
  exact (E_b0_eq (q := 1455) c_293_710 rfl).trans (if_pos ((lg_cmp_eq v v).mpr rfl))
theorem lw_c13 {xs : Nat → Int32} {L i : Nat} {σ : ax_S} (hL : L ≤ 3584) (hi : i + 7 ≤ L) (r : RA σ) (f : FI σ) : ∃ ρ : ax_S, ev (ax_lO xs L) 60 293 715 (lwL i) [] (ax_mk σ) = ev (ax_lO xs L) 60 293 1455 (lwL i) [] (ax_mk ρ) ∧ RA ρ ∧ FI ρ := by
  obtain ⟨v, τ, ρ, a1, a2, a3, a4⟩ := PB.pt (AK.pb (t_grains 39 (xs (i + 1)) (xs (i + 2)) (xs (i + 3)) r.2.1) r) f
  rw [show (39 + 20 : Nat) = 59 from rfl] at a1 a2
  refine ⟨ρ, ?_, a3, a4⟩
  refine (E_al c_293_715 rfl (by decide)).trans ?_
  refine (lw_arg (k := 1) hL (by omega) c_293_716 c_293_717 c_293_718 c_293_719 c_293_720 rfl).trans ?_
  refine (lw_arg (k := 2) hL (by omega) c_293_721 c_293_722 c_293_723 c_293_724 c_293_725 rfl).trans ?_
  refine (lw_arg (k := 3) hL (by omega) c_293_726 c_293_727 c_293_728 c_293_729 c_293_730 rfl).trans ?_
  refine (E_cLV (as := [.int (xs (i + 1)), .int (xs (i + 2)), .int (xs (i + 3))]) (rest := []) c_293_731 mi_106 rfl (lO_kl (sO_kl sh_0)) (Nat.le_of_ble_eq_true rfl) (Nat.le_of_ble_eq_true rfl)).trans ?_
  rw [gs_cL (ax_sim xs L) a1, Option.bind_some]
  dsimp only
  refine (E_al c_293_734 rfl (by decide)).trans ?_
  refine (lw_arg (k := 1) hL (by omega) c_293_735 c_293_736 c_293_737 c_293_738 c_293_739 rfl).trans ?_
  refine (lw_arg (k := 2) hL (by omega) c_293_740 c_293_741 c_293_742 c_293_743 c_293_744 rfl).trans ?_
  refine (lw_arg (k := 3) hL (by omega) c_293_745 c_293_746 c_293_747 c_293_748 c_293_749 rfl).trans ?_
  refine (E_cLV (as := [.int (xs (i + 1)), .int (xs (i + 2)), .int (xs (i + 3))]) (rest := [.long v]) c_293_750 mi_242 rfl (lO_kl (sO_kl sh_82)) (Nat.le_of_ble_eq_true rfl) (Nat.le_of_ble_eq_true rfl)).trans ?_
  rw [gs_cL (ax_sim xs L) a2, Option.bind_some]
  dsimp only
  refine (E_lcmp c_293_753).trans ?_
  exact (E_b0_eq (q := 1455) c_293_754 rfl).trans (if_pos ((lg_cmp_eq v v).mpr rfl))
theorem lw_c14 {xs : Nat → Int32} {L i : Nat} {σ : ax_S} (hL : L ≤ 3584) (hi : i + 7 ≤ L) (r : RA σ) (f : FI σ) : ∃ ρ : ax_S, ev (ax_lO xs L) 60 293 759 (lwL i) [] (ax_mk σ) = ev (ax_lO xs L) 60 293 1455 (lwL i) [] (ax_mk ρ) ∧ RA ρ ∧ FI ρ := by
  obtain ⟨v, τ, ρ, a1, a2, a3, a4⟩ := PB.pt (AK.pb (t_unlike 39 (xs (i + 1)) (xs (i + 2)) r.1) r) f
  rw [show (39 + 20 : Nat) = 59 from rfl] at a1 a2
  refine ⟨ρ, ?_, a3, a4⟩
  refine (E_al c_293_759 rfl (by decide)).trans ?_
  refine (lw_arg (k := 1) hL (by omega) c_293_760 c_293_761 c_293_762 c_293_763 c_293_764 rfl).trans ?_
  refine (lw_arg (k := 2) hL (by omega) c_293_765 c_293_766 c_293_767 c_293_768 c_293_769 rfl).trans ?_
  refine (E_cLV (as := [.int (xs (i + 1)), .int (xs (i + 2))]) (rest := []) c_293_770 mi_107 rfl (lO_kl (sO_kl sh_0)) (Nat.le_of_ble_eq_true rfl) (Nat.le_of_ble_eq_true rfl)).trans ?_
  rw [gs_cL (ax_sim xs L) a1, Option.bind_some]
  dsimp only
  refine (E_al c_293_773 rfl (by decide)).trans ?_
  refine (lw_arg (k := 1) hL (by omega) c_293_774 c_293_775 c_293_776 c_293_777 c_293_778 rfl).trans ?_
  refine (lw_arg (k := 2) hL (by omega) c_293_779 c_293_780 c_293_781 c_293_782 c_293_783 rfl).trans ?_
  refine (E_cLV (as := [.int (xs (i + 1)), .int (xs (i + 2))]) (rest := [.long v]) c_293_784 mi_243 rfl (lO_kl (sO_kl sh_82)) (Nat.le_of_ble_eq_true rfl) (Nat.le_of_ble_eq_true rfl)).trans ?_
  rw [gs_cL (ax_sim xs L) a2, Option.bind_some]
  dsimp only
  refine (E_lcmp c_293_787).trans ?_
  exact (E_b0_eq (q := 1455) c_293_788 rfl).trans (if_pos ((lg_cmp_eq v v).mpr rfl))
theorem lw_c15 {xs : Nat → Int32} {L i : Nat} {σ : ax_S} (hL : L ≤ 3584) (hi : i + 7 ≤ L) (r : RA σ) (f : FI σ) : ∃ ρ : ax_S, ev (ax_lO xs L) 60 293 793 (lwL i) [] (ax_mk σ) = ev (ax_lO xs L) 60 293 1455 (lwL i) [] (ax_mk ρ) ∧ RA ρ ∧ FI ρ := by
  obtain ⟨v, τ, ρ, a1, a2, a3, a4⟩ := PB.pt (AK.pb (t_baked 39 (xs (i + 1)) (xs (i + 2)) r.1 r.2.1) r) f
  rw [show (39 + 20 : Nat) = 59 from rfl] at a1 a2
  refine ⟨ρ, ?_, a3, a4⟩
  refine (E_al c_293_793 rfl (by decide)).trans ?_
  refine (lw_arg (k := 1) hL (by omega) c_293_794 c_293_795 c_293_796 c_293_797 c_293_798 rfl).trans ?_
  refine (lw_arg (k := 2) hL (by omega) c_293_799 c_293_800 c_293_801 c_293_802 c_293_803 rfl).trans ?_
  refine (E_cLV (as := [.int (xs (i + 1)), .int (xs (i + 2))]) (rest := []) c_293_804 mi_110 rfl (lO_kl (sO_kl sh_0)) (Nat.le_of_ble_eq_true rfl) (Nat.le_of_ble_eq_true rfl)).trans ?_
  rw [gs_cL (ax_sim xs L) a1, Option.bind_some]
  dsimp only
  refine (E_al c_293_807 rfl (by decide)).trans ?_
  refine (lw_arg (k := 1) hL (by omega) c_293_808 c_293_809 c_293_810 c_293_811 c_293_812 rfl).trans ?_
  refine (lw_arg (k := 2) hL (by omega) c_293_813 c_293_814 c_293_815 c_293_816 c_293_817 rfl).trans ?_
  refine (E_cLV (as := [.int (xs (i + 1)), .int (xs (i + 2))]) (rest := [.long v]) c_293_818 mi_246 rfl (lO_kl (sO_kl sh_82)) (Nat.le_of_ble_eq_true rfl) (Nat.le_of_ble_eq_true rfl)).trans ?_
  rw [gs_cL (ax_sim xs L) a2, Option.bind_some]
  dsimp only
  refine (E_lcmp c_293_821).trans ?_
  exact (E_b0_eq (q := 1455) c_293_822 rfl).trans (if_pos ((lg_cmp_eq v v).mpr rfl))
theorem lw_c16 {xs : Nat → Int32} {L i : Nat} {σ : ax_S} (hL : L ≤ 3584) (hi : i + 7 ≤ L) (r : RA σ) (f : FI σ) : ∃ ρ : ax_S, ev (ax_lO xs L) 60 293 827 (lwL i) [] (ax_mk σ) = ev (ax_lO xs L) 60 293 1455 (lwL i) [] (ax_mk ρ) ∧ RA ρ ∧ FI ρ := by
  obtain ⟨v, τ, ρ, a1, a2, a3, a4⟩ := PB.pt (t_blame 39 (xs (i + 1)) (xs (i + 2)) (xs (i + 3)) r) f
  rw [show (39 + 20 : Nat) = 59 from rfl] at a1 a2
  refine ⟨ρ, ?_, a3, a4⟩
  refine (E_al c_293_827 rfl (by decide)).trans ?_
  refine (lw_arg (k := 1) hL (by omega) c_293_828 c_293_829 c_293_830 c_293_831 c_293_832 rfl).trans ?_
  refine (lw_arg (k := 2) hL (by omega) c_293_833 c_293_834 c_293_835 c_293_836 c_293_837 rfl).trans ?_
  refine (lw_arg (k := 3) hL (by omega) c_293_838 c_293_839 c_293_840 c_293_841 c_293_842 rfl).trans ?_
  refine (E_cLV (as := [.int (xs (i + 1)), .int (xs (i + 2)), .int (xs (i + 3))]) (rest := []) c_293_843 mi_115 rfl (lO_kl (sO_kl sh_0)) (Nat.le_of_ble_eq_true rfl) (Nat.le_of_ble_eq_true rfl)).trans ?_
  rw [gs_cL (ax_sim xs L) a1, Option.bind_some]
  dsimp only
  refine (E_al c_293_846 rfl (by decide)).trans ?_
  refine (lw_arg (k := 1) hL (by omega) c_293_847 c_293_848 c_293_849 c_293_850 c_293_851 rfl).trans ?_
  refine (lw_arg (k := 2) hL (by omega) c_293_852 c_293_853 c_293_854 c_293_855 c_293_856 rfl).trans ?_
  refine (lw_arg (k := 3) hL (by omega) c_293_857 c_293_858 c_293_859 c_293_860 c_293_861 rfl).trans ?_
  refine (E_cLV (as := [.int (xs (i + 1)), .int (xs (i + 2)), .int (xs (i + 3))]) (rest := [.long v]) c_293_862 mi_250 rfl (lO_kl (sO_kl sh_82)) (Nat.le_of_ble_eq_true rfl) (Nat.le_of_ble_eq_true rfl)).trans ?_
  rw [gs_cL (ax_sim xs L) a2, Option.bind_some]
  dsimp only
  refine (E_lcmp c_293_865).trans ?_
  exact (E_b0_eq (q := 1455) c_293_866 rfl).trans (if_pos ((lg_cmp_eq v v).mpr rfl))
theorem lw_c17 {xs : Nat → Int32} {L i : Nat} {σ : ax_S} (hL : L ≤ 3584) (hi : i + 7 ≤ L) (r : RA σ) (f : FI σ) : ∃ ρ : ax_S, ev (ax_lO xs L) 60 293 871 (lwL i) [] (ax_mk σ) = ev (ax_lO xs L) 60 293 1455 (lwL i) [] (ax_mk ρ) ∧ RA ρ ∧ FI ρ := by
  obtain ⟨v, τ, ρ, a1, a2, a3, a4⟩ := PB.pt (AK.pb (t_mothers 39 (xs (i + 1)) r.1) r) f
  rw [show (39 + 20 : Nat) = 59 from rfl] at a1 a2
  refine ⟨ρ, ?_, a3, a4⟩
  refine (E_al c_293_871 rfl (by decide)).trans ?_
  refine (lw_arg (k := 1) hL (by omega) c_293_872 c_293_873 c_293_874 c_293_875 c_293_876 rfl).trans ?_
  refine (E_cLV (as := [.int (xs (i + 1))]) (rest := []) c_293_877 mi_123 rfl (lO_kl (sO_kl sh_0)) (Nat.le_of_ble_eq_true rfl) (Nat.le_of_ble_eq_true rfl)).trans ?_
  rw [gs_cL (ax_sim xs L) a1, Option.bind_some]
  dsimp only
  refine (E_al c_293_880 rfl (by decide)).trans ?_
  refine (lw_arg (k := 1) hL (by omega) c_293_881 c_293_882 c_293_883 c_293_884 c_293_885 rfl).trans ?_
  refine (E_cLV (as := [.int (xs (i + 1))]) (rest := [.long v]) c_293_886 mi_251 rfl (lO_kl (sO_kl sh_82)) (Nat.le_of_ble_eq_true rfl) (Nat.le_of_ble_eq_true rfl)).trans ?_
  rw [gs_cL (ax_sim xs L) a2, Option.bind_some]
  dsimp only
  refine (E_lcmp c_293_889).trans ?_
  exact (E_b0_eq (q := 1455) c_293_890 rfl).trans (if_pos ((lg_cmp_eq v v).mpr rfl))
theorem lw_c18 {xs : Nat → Int32} {L i : Nat} {σ : ax_S} (hL : L ≤ 3584) (hi : i + 7 ≤ L) (r : RA σ) (f : FI σ) : ∃ ρ : ax_S, ev (ax_lO xs L) 60 293 895 (lwL i) [] (ax_mk σ) = ev (ax_lO xs L) 60 293 1455 (lwL i) [] (ax_mk ρ) ∧ RA ρ ∧ FI ρ := by
  obtain ⟨v, τ, ρ, a1, a2, a3, a4⟩ := PB.pt (AK.pb (t_mother 39 (xs (i + 1)) r.1) r) f
  rw [show (39 + 20 : Nat) = 59 from rfl] at a1 a2
  refine ⟨ρ, ?_, a3, a4⟩
  refine (E_al c_293_895 rfl (by decide)).trans ?_
  refine (lw_arg (k := 1) hL (by omega) c_293_896 c_293_897 c_293_898 c_293_899 c_293_900 rfl).trans ?_
  refine (E_cLV (as := [.int (xs (i + 1))]) (rest := []) c_293_901 mi_130 rfl (lO_kl (sO_kl sh_0)) (Nat.le_of_ble_eq_true rfl) (Nat.le_of_ble_eq_true rfl)).trans ?_
  rw [gs_cL (ax_sim xs L) a1, Option.bind_some]
  dsimp only
  refine (E_al c_293_904 rfl (by decide)).trans ?_
  refine (lw_arg (k := 1) hL (by omega) c_293_905 c_293_906 c_293_907 c_293_908 c_293_909 rfl).trans ?_
  refine (E_cLV (as := [.int (xs (i + 1))]) (rest := [.long v]) c_293_910 mi_254 rfl (lO_kl (sO_kl sh_82)) (Nat.le_of_ble_eq_true rfl) (Nat.le_of_ble_eq_true rfl)).trans ?_
  rw [gs_cL (ax_sim xs L) a2, Option.bind_some]
  dsimp only
  refine (E_lcmp c_293_913).trans ?_
  exact (E_b0_eq (q := 1455) c_293_914 rfl).trans (if_pos ((lg_cmp_eq v v).mpr rfl))
theorem lw_c19 {xs : Nat → Int32} {L i : Nat} {σ : ax_S} (hL : L ≤ 3584) (hi : i + 7 ≤ L) (r : RA σ) (f : FI σ) : ∃ ρ : ax_S, ev (ax_lO xs L) 60 293 919 (lwL i) [] (ax_mk σ) = ev (ax_lO xs L) 60 293 1455 (lwL i) [] (ax_mk ρ) ∧ RA ρ ∧ FI ρ := by
  obtain ⟨v, τ, ρ, a1, a2, a3, a4⟩ := PB.pt (AK.pb (t_two 39 (xs (i + 1)) (xs (i + 2)) r.1) r) f
  rw [show (39 + 20 : Nat) = 59 from rfl] at a1 a2
  refine ⟨ρ, ?_, a3, a4⟩
  refine (E_al c_293_919 rfl (by decide)).trans ?_
  refine (lw_arg (k := 1) hL (by omega) c_293_920 c_293_921 c_293_922 c_293_923 c_293_924 rfl).trans ?_
  refine (lw_arg (k := 2) hL (by omega) c_293_925 c_293_926 c_293_927 c_293_928 c_293_929 rfl).trans ?_
  refine (E_cLV (as := [.int (xs (i + 1)), .int (xs (i + 2))]) (rest := []) c_293_930 mi_131 rfl (lO_kl (sO_kl sh_0)) (Nat.le_of_ble_eq_true rfl) (Nat.le_of_ble_eq_true rfl)).trans ?_
  rw [gs_cL (ax_sim xs L) a1, Option.bind_some]
  dsimp only
  refine (E_al c_293_933 rfl (by decide)).trans ?_
  refine (lw_arg (k := 1) hL (by omega) c_293_934 c_293_935 c_293_936 c_293_937 c_293_938 rfl).trans ?_
  refine (lw_arg (k := 2) hL (by omega) c_293_939 c_293_940 c_293_941 c_293_942 c_293_943 rfl).trans ?_
  refine (E_cLV (as := [.int (xs (i + 1)), .int (xs (i + 2))]) (rest := [.long v]) c_293_944 mi_255 rfl (lO_kl (sO_kl sh_82)) (Nat.le_of_ble_eq_true rfl) (Nat.le_of_ble_eq_true rfl)).trans ?_
  rw [gs_cL (ax_sim xs L) a2, Option.bind_some]
  dsimp only
  refine (E_lcmp c_293_947).trans ?_
  exact (E_b0_eq (q := 1455) c_293_948 rfl).trans (if_pos ((lg_cmp_eq v v).mpr rfl))
theorem lw_c20 {xs : Nat → Int32} {L i : Nat} {σ : ax_S} (hL : L ≤ 3584) (hi : i + 7 ≤ L) (r : RA σ) (f : FI σ) : ∃ ρ : ax_S, ev (ax_lO xs L) 60 293 953 (lwL i) [] (ax_mk σ) = ev (ax_lO xs L) 60 293 1455 (lwL i) [] (ax_mk ρ) ∧ RA ρ ∧ FI ρ := by
  obtain ⟨v, τ, ρ, a1, a2, a3, a4⟩ := t_trees 39 (xs (i + 1)) (xs (i + 2)) r f
  rw [show (39 + 20 : Nat) = 59 from rfl] at a1 a2
  refine ⟨ρ, ?_, a3, a4⟩
  refine (E_al c_293_953 rfl (by decide)).trans ?_
  refine (lw_arg (k := 1) hL (by omega) c_293_954 c_293_955 c_293_956 c_293_957 c_293_958 rfl).trans ?_
  refine (lw_arg (k := 2) hL (by omega) c_293_959 c_293_960 c_293_961 c_293_962 c_293_963 rfl).trans ?_
  refine (E_cLV (as := [.int (xs (i + 1)), .int (xs (i + 2))]) (rest := []) c_293_964 mi_134 rfl (lO_kl (sO_kl sh_0)) (Nat.le_of_ble_eq_true rfl) (Nat.le_of_ble_eq_true rfl)).trans ?_
  rw [gs_cL (ax_sim xs L) a1, Option.bind_some]
  dsimp only
  refine (E_al c_293_967 rfl (by decide)).trans ?_
  refine (lw_arg (k := 1) hL (by omega) c_293_968 c_293_969 c_293_970 c_293_971 c_293_972 rfl).trans ?_
  refine (lw_arg (k := 2) hL (by omega) c_293_973 c_293_974 c_293_975 c_293_976 c_293_977 rfl).trans ?_
  refine (E_cLV (as := [.int (xs (i + 1)), .int (xs (i + 2))]) (rest := [.long v]) c_293_978 mi_257 rfl (lO_kl (sO_kl sh_82)) (Nat.le_of_ble_eq_true rfl) (Nat.le_of_ble_eq_true rfl)).trans ?_
  rw [gs_cL (ax_sim xs L) a2, Option.bind_some]
  dsimp only
  refine (E_lcmp c_293_981).trans ?_
  exact (E_b0_eq (q := 1455) c_293_982 rfl).trans (if_pos ((lg_cmp_eq v v).mpr rfl))
theorem lw_c21 {xs : Nat → Int32} {L i : Nat} {σ : ax_S} (hL : L ≤ 3584) (hi : i + 7 ≤ L) (r : RA σ) (f : FI σ) : ∃ ρ : ax_S, ev (ax_lO xs L) 60 293 987 (lwL i) [] (ax_mk σ) = ev (ax_lO xs L) 60 293 1455 (lwL i) [] (ax_mk ρ) ∧ RA ρ ∧ FI ρ := by
  obtain ⟨v, τ, ρ, a1, a2, a3, a4⟩ := t_sure 39 (xs (i + 1)) (xs (i + 2)) r f
  rw [show (39 + 20 : Nat) = 59 from rfl] at a1 a2
  refine ⟨ρ, ?_, a3, a4⟩
  refine (E_al c_293_987 rfl (by decide)).trans ?_
  refine (lw_arg (k := 1) hL (by omega) c_293_988 c_293_989 c_293_990 c_293_991 c_293_992 rfl).trans ?_
  refine (lw_arg (k := 2) hL (by omega) c_293_993 c_293_994 c_293_995 c_293_996 c_293_997 rfl).trans ?_
  refine (E_cLV (as := [.int (xs (i + 1)), .int (xs (i + 2))]) (rest := []) c_293_998 mi_153 rfl (lO_kl (sO_kl sh_0)) (Nat.le_of_ble_eq_true rfl) (Nat.le_of_ble_eq_true rfl)).trans ?_
  rw [gs_cL (ax_sim xs L) a1, Option.bind_some]
  dsimp only
  refine (E_al c_293_1001 rfl (by decide)).trans ?_
  refine (lw_arg (k := 1) hL (by omega) c_293_1002 c_293_1003 c_293_1004 c_293_1005 c_293_1006 rfl).trans ?_
  refine (lw_arg (k := 2) hL (by omega) c_293_1007 c_293_1008 c_293_1009 c_293_1010 c_293_1011 rfl).trans ?_
  refine (E_cLV (as := [.int (xs (i + 1)), .int (xs (i + 2))]) (rest := [.long v]) c_293_1012 mi_266 rfl (lO_kl (sO_kl sh_82)) (Nat.le_of_ble_eq_true rfl) (Nat.le_of_ble_eq_true rfl)).trans ?_
  rw [gs_cL (ax_sim xs L) a2, Option.bind_some]
  dsimp only
  refine (E_lcmp c_293_1015).trans ?_
  exact (E_b0_eq (q := 1455) c_293_1016 rfl).trans (if_pos ((lg_cmp_eq v v).mpr rfl))
theorem lw_c22 {xs : Nat → Int32} {L i : Nat} {σ : ax_S} (hL : L ≤ 3584) (hi : i + 7 ≤ L) (r : RA σ) (f : FI σ) : ∃ ρ : ax_S, ev (ax_lO xs L) 60 293 1021 (lwL i) [] (ax_mk σ) = ev (ax_lO xs L) 60 293 1455 (lwL i) [] (ax_mk ρ) ∧ RA ρ ∧ FI ρ := by
  obtain ⟨v, τ, ρ, a1, a2, a3, a4⟩ := t_first 39 (xs (i + 1)) (xs (i + 2)) (xs (i + 3)) r f
  rw [show (39 + 20 : Nat) = 59 from rfl] at a1 a2
  refine ⟨ρ, ?_, a3, a4⟩
  refine (E_al c_293_1021 rfl (by decide)).trans ?_
  refine (lw_arg (k := 1) hL (by omega) c_293_1022 c_293_1023 c_293_1024 c_293_1025 c_293_1026 rfl).trans ?_
  refine (lw_arg (k := 2) hL (by omega) c_293_1027 c_293_1028 c_293_1029 c_293_1030 c_293_1031 rfl).trans ?_
  refine (lw_arg (k := 3) hL (by omega) c_293_1032 c_293_1033 c_293_1034 c_293_1035 c_293_1036 rfl).trans ?_
  refine (E_cLV (as := [.int (xs (i + 1)), .int (xs (i + 2)), .int (xs (i + 3))]) (rest := []) c_293_1037 mi_156 rfl (lO_kl (sO_kl sh_0)) (Nat.le_of_ble_eq_true rfl) (Nat.le_of_ble_eq_true rfl)).trans ?_
  rw [gs_cL (ax_sim xs L) a1, Option.bind_some]
  dsimp only
  refine (E_al c_293_1040 rfl (by decide)).trans ?_
  refine (lw_arg (k := 1) hL (by omega) c_293_1041 c_293_1042 c_293_1043 c_293_1044 c_293_1045 rfl).trans ?_
  refine (lw_arg (k := 2) hL (by omega) c_293_1046 c_293_1047 c_293_1048 c_293_1049 c_293_1050 rfl).trans ?_
  refine (lw_arg (k := 3) hL (by omega) c_293_1051 c_293_1052 c_293_1053 c_293_1054 c_293_1055 rfl).trans ?_
  refine (E_cLV (as := [.int (xs (i + 1)), .int (xs (i + 2)), .int (xs (i + 3))]) (rest := [.long v]) c_293_1056 mi_268 rfl (lO_kl (sO_kl sh_82)) (Nat.le_of_ble_eq_true rfl) (Nat.le_of_ble_eq_true rfl)).trans ?_
  rw [gs_cL (ax_sim xs L) a2, Option.bind_some]
  dsimp only
  refine (E_lcmp c_293_1059).trans ?_
  exact (E_b0_eq (q := 1455) c_293_1060 rfl).trans (if_pos ((lg_cmp_eq v v).mpr rfl))
theorem lw_c23 {xs : Nat → Int32} {L i : Nat} {σ : ax_S} (hL : L ≤ 3584) (hi : i + 7 ≤ L) (r : RA σ) (f : FI σ) : ∃ ρ : ax_S, ev (ax_lO xs L) 60 293 1065 (lwL i) [] (ax_mk σ) = ev (ax_lO xs L) 60 293 1455 (lwL i) [] (ax_mk ρ) ∧ RA ρ ∧ FI ρ := by
  obtain ⟨v, τ, ρ, a1, a2, a3, a4⟩ := PB.pt (AK.pb (t_years 39 (xs (i + 1)) (xs (i + 2)) r.1 r.2.1) r) f
  rw [show (39 + 20 : Nat) = 59 from rfl] at a1 a2
  refine ⟨ρ, ?_, a3, a4⟩
  refine (E_al c_293_1065 rfl (by decide)).trans ?_
  refine (lw_arg (k := 1) hL (by omega) c_293_1066 c_293_1067 c_293_1068 c_293_1069 c_293_1070 rfl).trans ?_
  refine (lw_arg (k := 2) hL (by omega) c_293_1071 c_293_1072 c_293_1073 c_293_1074 c_293_1075 rfl).trans ?_
  refine (E_cLV (as := [.int (xs (i + 1)), .int (xs (i + 2))]) (rest := []) c_293_1076 mi_159 rfl (lO_kl (sO_kl sh_0)) (Nat.le_of_ble_eq_true rfl) (Nat.le_of_ble_eq_true rfl)).trans ?_
  rw [gs_cL (ax_sim xs L) a1, Option.bind_some]
  dsimp only
  refine (E_al c_293_1079 rfl (by decide)).trans ?_
  refine (lw_arg (k := 1) hL (by omega) c_293_1080 c_293_1081 c_293_1082 c_293_1083 c_293_1084 rfl).trans ?_
  refine (lw_arg (k := 2) hL (by omega) c_293_1085 c_293_1086 c_293_1087 c_293_1088 c_293_1089 rfl).trans ?_
  refine (E_cLV (as := [.int (xs (i + 1)), .int (xs (i + 2))]) (rest := [.long v]) c_293_1090 mi_269 rfl (lO_kl (sO_kl sh_82)) (Nat.le_of_ble_eq_true rfl) (Nat.le_of_ble_eq_true rfl)).trans ?_
  rw [gs_cL (ax_sim xs L) a2, Option.bind_some]
  dsimp only
  refine (E_lcmp c_293_1093).trans ?_
  exact (E_b0_eq (q := 1455) c_293_1094 rfl).trans (if_pos ((lg_cmp_eq v v).mpr rfl))
theorem lw_c24 {xs : Nat → Int32} {L i : Nat} {σ : ax_S} (hL : L ≤ 3584) (hi : i + 7 ≤ L) (r : RA σ) (f : FI σ) : ∃ ρ : ax_S, ev (ax_lO xs L) 60 293 1099 (lwL i) [] (ax_mk σ) = ev (ax_lO xs L) 60 293 1455 (lwL i) [] (ax_mk ρ) ∧ RA ρ ∧ FI ρ := by
  obtain ⟨v, τ, ρ, a1, a2, a3, a4⟩ := PB.pt (AK.pb (t_left 39 (xs (i + 1)) (xs (i + 2)) r.1) r) f
  rw [show (39 + 20 : Nat) = 59 from rfl] at a1 a2
  refine ⟨ρ, ?_, a3, a4⟩
  refine (E_al c_293_1099 rfl (by decide)).trans ?_
  refine (lw_arg (k := 1) hL (by omega) c_293_1100 c_293_1101 c_293_1102 c_293_1103 c_293_1104 rfl).trans ?_
  refine (lw_arg (k := 2) hL (by omega) c_293_1105 c_293_1106 c_293_1107 c_293_1108 c_293_1109 rfl).trans ?_
  refine (E_cLV (as := [.int (xs (i + 1)), .int (xs (i + 2))]) (rest := []) c_293_1110 mi_164 rfl (lO_kl (sO_kl sh_0)) (Nat.le_of_ble_eq_true rfl) (Nat.le_of_ble_eq_true rfl)).trans ?_
  rw [gs_cL (ax_sim xs L) a1, Option.bind_some]
  dsimp only
  refine (E_al c_293_1113 rfl (by decide)).trans ?_
  refine (lw_arg (k := 1) hL (by omega) c_293_1114 c_293_1115 c_293_1116 c_293_1117 c_293_1118 rfl).trans ?_
  refine (lw_arg (k := 2) hL (by omega) c_293_1119 c_293_1120 c_293_1121 c_293_1122 c_293_1123 rfl).trans ?_
  refine (E_cLV (as := [.int (xs (i + 1)), .int (xs (i + 2))]) (rest := [.long v]) c_293_1124 mi_271 rfl (lO_kl (sO_kl sh_82)) (Nat.le_of_ble_eq_true rfl) (Nat.le_of_ble_eq_true rfl)).trans ?_
  rw [gs_cL (ax_sim xs L) a2, Option.bind_some]
  dsimp only
  refine (E_lcmp c_293_1127).trans ?_
  exact (E_b0_eq (q := 1455) c_293_1128 rfl).trans (if_pos ((lg_cmp_eq v v).mpr rfl))
theorem lw_c25 {xs : Nat → Int32} {L i : Nat} {σ : ax_S} (hL : L ≤ 3584) (hi : i + 7 ≤ L) (r : RA σ) (f : FI σ) : ∃ ρ : ax_S, ev (ax_lO xs L) 60 293 1133 (lwL i) [] (ax_mk σ) = ev (ax_lO xs L) 60 293 1455 (lwL i) [] (ax_mk ρ) ∧ RA ρ ∧ FI ρ := by
  obtain ⟨v, τ, ρ, a1, a2, a3, a4⟩ := PB.pt (AK.pb (t_chance 39 (xs (i + 1)) (xs (i + 2)) (xs (i + 3)) r.1) r) f
  rw [show (39 + 20 : Nat) = 59 from rfl] at a1 a2
  refine ⟨ρ, ?_, a3, a4⟩
  refine (E_al c_293_1133 rfl (by decide)).trans ?_
  refine (lw_arg (k := 1) hL (by omega) c_293_1134 c_293_1135 c_293_1136 c_293_1137 c_293_1138 rfl).trans ?_
  refine (lw_arg (k := 2) hL (by omega) c_293_1139 c_293_1140 c_293_1141 c_293_1142 c_293_1143 rfl).trans ?_
  refine (lw_arg (k := 3) hL (by omega) c_293_1144 c_293_1145 c_293_1146 c_293_1147 c_293_1148 rfl).trans ?_
  refine (E_cLV (as := [.int (xs (i + 1)), .int (xs (i + 2)), .int (xs (i + 3))]) (rest := []) c_293_1149 mi_166 rfl (lO_kl (sO_kl sh_0)) (Nat.le_of_ble_eq_true rfl) (Nat.le_of_ble_eq_true rfl)).trans ?_
  rw [gs_cL (ax_sim xs L) a1, Option.bind_some]
  dsimp only
  refine (E_al c_293_1152 rfl (by decide)).trans ?_
  refine (lw_arg (k := 1) hL (by omega) c_293_1153 c_293_1154 c_293_1155 c_293_1156 c_293_1157 rfl).trans ?_
  refine (lw_arg (k := 2) hL (by omega) c_293_1158 c_293_1159 c_293_1160 c_293_1161 c_293_1162 rfl).trans ?_
  refine (lw_arg (k := 3) hL (by omega) c_293_1163 c_293_1164 c_293_1165 c_293_1166 c_293_1167 rfl).trans ?_
  refine (E_cLV (as := [.int (xs (i + 1)), .int (xs (i + 2)), .int (xs (i + 3))]) (rest := [.long v]) c_293_1168 mi_275 rfl (lO_kl (sO_kl sh_82)) (Nat.le_of_ble_eq_true rfl) (Nat.le_of_ble_eq_true rfl)).trans ?_
  rw [gs_cL (ax_sim xs L) a2, Option.bind_some]
  dsimp only
  refine (E_lcmp c_293_1171).trans ?_
  exact (E_b0_eq (q := 1455) c_293_1172 rfl).trans (if_pos ((lg_cmp_eq v v).mpr rfl))
theorem lw_c26 {xs : Nat → Int32} {L i : Nat} {σ : ax_S} (hL : L ≤ 3584) (hi : i + 7 ≤ L) (r : RA σ) (f : FI σ) : ∃ ρ : ax_S, ev (ax_lO xs L) 60 293 1177 (lwL i) [] (ax_mk σ) = ev (ax_lO xs L) 60 293 1455 (lwL i) [] (ax_mk ρ) ∧ RA ρ ∧ FI ρ := by
  obtain ⟨v, τ, ρ, a1, a2, a3, a4⟩ := PB.pt (t_mend 39 (xs (i + 1)) (xs (i + 2)) (xs (i + 3)) (xs (i + 4)) r) f
  rw [show (39 + 20 : Nat) = 59 from rfl] at a1 a2
  refine ⟨ρ, ?_, a3, a4⟩
  refine (E_al c_293_1177 rfl (by decide)).trans ?_
  refine (lw_arg (k := 1) hL (by omega) c_293_1178 c_293_1179 c_293_1180 c_293_1181 c_293_1182 rfl).trans ?_
  refine (lw_arg (k := 2) hL (by omega) c_293_1183 c_293_1184 c_293_1185 c_293_1186 c_293_1187 rfl).trans ?_
  refine (lw_arg (k := 3) hL (by omega) c_293_1188 c_293_1189 c_293_1190 c_293_1191 c_293_1192 rfl).trans ?_
  refine (lw_arg (k := 4) hL (by omega) c_293_1193 c_293_1194 c_293_1195 c_293_1196 c_293_1197 rfl).trans ?_
  refine (E_cLV (as := [.int (xs (i + 1)), .int (xs (i + 2)), .int (xs (i + 3)), .int (xs (i + 4))]) (rest := []) c_293_1198 mi_167 rfl (lO_kl (sO_kl sh_0)) (Nat.le_of_ble_eq_true rfl) (Nat.le_of_ble_eq_true rfl)).trans ?_
  rw [gs_cL (ax_sim xs L) a1, Option.bind_some]
  dsimp only
  refine (E_al c_293_1201 rfl (by decide)).trans ?_
  refine (lw_arg (k := 1) hL (by omega) c_293_1202 c_293_1203 c_293_1204 c_293_1205 c_293_1206 rfl).trans ?_
  refine (lw_arg (k := 2) hL (by omega) c_293_1207 c_293_1208 c_293_1209 c_293_1210 c_293_1211 rfl).trans ?_
  refine (lw_arg (k := 3) hL (by omega) c_293_1212 c_293_1213 c_293_1214 c_293_1215 c_293_1216 rfl).trans ?_
  refine (lw_arg (k := 4) hL (by omega) c_293_1217 c_293_1218 c_293_1219 c_293_1220 c_293_1221 rfl).trans ?_
  refine (E_cLV (as := [.int (xs (i + 1)), .int (xs (i + 2)), .int (xs (i + 3)), .int (xs (i + 4))]) (rest := [.long v]) c_293_1222 mi_276 rfl (lO_kl (sO_kl sh_82)) (Nat.le_of_ble_eq_true rfl) (Nat.le_of_ble_eq_true rfl)).trans ?_
  rw [gs_cL (ax_sim xs L) a2, Option.bind_some]
  dsimp only
  refine (E_lcmp c_293_1225).trans ?_
  exact (E_b0_eq (q := 1455) c_293_1226 rfl).trans (if_pos ((lg_cmp_eq v v).mpr rfl))
theorem lw_c27 {xs : Nat → Int32} {L i : Nat} {σ : ax_S} (hL : L ≤ 3584) (hi : i + 7 ≤ L) (r : RA σ) (f : FI σ) : ∃ ρ : ax_S, ev (ax_lO xs L) 60 293 1231 (lwL i) [] (ax_mk σ) = ev (ax_lO xs L) 60 293 1455 (lwL i) [] (ax_mk ρ) ∧ RA ρ ∧ FI ρ := by
  obtain ⟨v, τ, ρ, a1, a2, a3, a4⟩ := PB.pt (t_book 39 (xs (i + 1)) r) f
  rw [show (39 + 20 : Nat) = 59 from rfl] at a1 a2
  refine ⟨ρ, ?_, a3, a4⟩
  refine (E_al c_293_1231 rfl (by decide)).trans ?_
  refine (lw_arg (k := 1) hL (by omega) c_293_1232 c_293_1233 c_293_1234 c_293_1235 c_293_1236 rfl).trans ?_
  refine (E_cLV (as := [.int (xs (i + 1))]) (rest := []) c_293_1237 mi_170 rfl (lO_kl (sO_kl sh_0)) (Nat.le_of_ble_eq_true rfl) (Nat.le_of_ble_eq_true rfl)).trans ?_
  rw [gs_cL (ax_sim xs L) a1, Option.bind_some]
  dsimp only
  refine (E_al c_293_1240 rfl (by decide)).trans ?_
  refine (lw_arg (k := 1) hL (by omega) c_293_1241 c_293_1242 c_293_1243 c_293_1244 c_293_1245 rfl).trans ?_
  refine (E_cLV (as := [.int (xs (i + 1))]) (rest := [.long v]) c_293_1246 mi_277 rfl (lO_kl (sO_kl sh_82)) (Nat.le_of_ble_eq_true rfl) (Nat.le_of_ble_eq_true rfl)).trans ?_
  rw [gs_cL (ax_sim xs L) a2, Option.bind_some]
  dsimp only
  refine (E_lcmp c_293_1249).trans ?_
  exact (E_b0_eq (q := 1455) c_293_1250 rfl).trans (if_pos ((lg_cmp_eq v v).mpr rfl))
theorem lw_c28 {xs : Nat → Int32} {L i : Nat} {σ : ax_S} (hL : L ≤ 3584) (hi : i + 7 ≤ L) (r : RA σ) (f : FI σ) : ∃ ρ : ax_S, ev (ax_lO xs L) 60 293 1255 (lwL i) [] (ax_mk σ) = ev (ax_lO xs L) 60 293 1455 (lwL i) [] (ax_mk ρ) ∧ RA ρ ∧ FI ρ := by
  obtain ⟨v, τ, ρ, a1, a2, a3, a4⟩ := PB.pt (t_image 39 (xs (i + 1)) r) f
  rw [show (39 + 20 : Nat) = 59 from rfl] at a1 a2
  refine ⟨ρ, ?_, a3, a4⟩
  refine (E_al c_293_1255 rfl (by decide)).trans ?_
  refine (lw_arg (k := 1) hL (by omega) c_293_1256 c_293_1257 c_293_1258 c_293_1259 c_293_1260 rfl).trans ?_
  refine (E_cLV (as := [.int (xs (i + 1))]) (rest := []) c_293_1261 mi_173 rfl (lO_kl (sO_kl sh_0)) (Nat.le_of_ble_eq_true rfl) (Nat.le_of_ble_eq_true rfl)).trans ?_
  rw [gs_cL (ax_sim xs L) a1, Option.bind_some]
  dsimp only
  refine (E_al c_293_1264 rfl (by decide)).trans ?_
  refine (lw_arg (k := 1) hL (by omega) c_293_1265 c_293_1266 c_293_1267 c_293_1268 c_293_1269 rfl).trans ?_
  refine (E_cLV (as := [.int (xs (i + 1))]) (rest := [.long v]) c_293_1270 mi_278 rfl (lO_kl (sO_kl sh_82)) (Nat.le_of_ble_eq_true rfl) (Nat.le_of_ble_eq_true rfl)).trans ?_
  rw [gs_cL (ax_sim xs L) a2, Option.bind_some]
  dsimp only
  refine (E_lcmp c_293_1273).trans ?_
  exact (E_b0_eq (q := 1455) c_293_1274 rfl).trans (if_pos ((lg_cmp_eq v v).mpr rfl))
theorem lw_c29 {xs : Nat → Int32} {L i : Nat} {σ : ax_S} (hL : L ≤ 3584) (hi : i + 7 ≤ L) (r : RA σ) (f : FI σ) : ∃ ρ : ax_S, ev (ax_lO xs L) 60 293 1279 (lwL i) [] (ax_mk σ) = ev (ax_lO xs L) 60 293 1455 (lwL i) [] (ax_mk ρ) ∧ RA ρ ∧ FI ρ := by
  obtain ⟨v, τ, ρ, a1, a2, a3, a4⟩ := PB.pt (t_restore 39 (xs (i + 1)) r) f
  rw [show (39 + 20 : Nat) = 59 from rfl] at a1 a2
  refine ⟨ρ, ?_, a3, a4⟩
  refine (E_al c_293_1279 rfl (by decide)).trans ?_
  refine (lw_arg (k := 1) hL (by omega) c_293_1280 c_293_1281 c_293_1282 c_293_1283 c_293_1284 rfl).trans ?_
  refine (E_cLV (as := [.int (xs (i + 1))]) (rest := []) c_293_1285 mi_177 rfl (lO_kl (sO_kl sh_0)) (Nat.le_of_ble_eq_true rfl) (Nat.le_of_ble_eq_true rfl)).trans ?_
  rw [gs_cL (ax_sim xs L) a1, Option.bind_some]
  dsimp only
  refine (E_al c_293_1288 rfl (by decide)).trans ?_
  refine (lw_arg (k := 1) hL (by omega) c_293_1289 c_293_1290 c_293_1291 c_293_1292 c_293_1293 rfl).trans ?_
  refine (E_cLV (as := [.int (xs (i + 1))]) (rest := [.long v]) c_293_1294 mi_279 rfl (lO_kl (sO_kl sh_82)) (Nat.le_of_ble_eq_true rfl) (Nat.le_of_ble_eq_true rfl)).trans ?_
  rw [gs_cL (ax_sim xs L) a2, Option.bind_some]
  dsimp only
  refine (E_lcmp c_293_1297).trans ?_
  exact (E_b0_eq (q := 1455) c_293_1298 rfl).trans (if_pos ((lg_cmp_eq v v).mpr rfl))
theorem lw_c30 {xs : Nat → Int32} {L i : Nat} {σ : ax_S} (hL : L ≤ 3584) (hi : i + 7 ≤ L) (r : RA σ) (f : FI σ) : ∃ ρ : ax_S, ev (ax_lO xs L) 60 293 1303 (lwL i) [] (ax_mk σ) = ev (ax_lO xs L) 60 293 1455 (lwL i) [] (ax_mk ρ) ∧ RA ρ ∧ FI ρ := by
  obtain ⟨v, τ, ρ, a1, a2, a3, a4⟩ := PB.pt (AK.pb (t_kind 39 (xs (i + 1)) r.1 r.2.1) r) f
  rw [show (39 + 20 : Nat) = 59 from rfl] at a1 a2
  refine ⟨ρ, ?_, a3, a4⟩
  refine (E_al c_293_1303 rfl (by decide)).trans ?_
  refine (lw_arg (k := 1) hL (by omega) c_293_1304 c_293_1305 c_293_1306 c_293_1307 c_293_1308 rfl).trans ?_
  refine (E_cLV (as := [.int (xs (i + 1))]) (rest := []) c_293_1309 mi_178 rfl (lO_kl (sO_kl sh_0)) (Nat.le_of_ble_eq_true rfl) (Nat.le_of_ble_eq_true rfl)).trans ?_
  rw [gs_cL (ax_sim xs L) a1, Option.bind_some]
  dsimp only
  refine (E_al c_293_1312 rfl (by decide)).trans ?_
  refine (lw_arg (k := 1) hL (by omega) c_293_1313 c_293_1314 c_293_1315 c_293_1316 c_293_1317 rfl).trans ?_
  refine (E_cLV (as := [.int (xs (i + 1))]) (rest := [.long v]) c_293_1318 mi_280 rfl (lO_kl (sO_kl sh_82)) (Nat.le_of_ble_eq_true rfl) (Nat.le_of_ble_eq_true rfl)).trans ?_
  rw [gs_cL (ax_sim xs L) a2, Option.bind_some]
  dsimp only
  refine (E_lcmp c_293_1321).trans ?_
  exact (E_b0_eq (q := 1455) c_293_1322 rfl).trans (if_pos ((lg_cmp_eq v v).mpr rfl))
theorem lw_c31 {xs : Nat → Int32} {L i : Nat} {σ : ax_S} (hL : L ≤ 3584) (hi : i + 7 ≤ L) (r : RA σ) (f : FI σ) : ∃ ρ : ax_S, ev (ax_lO xs L) 60 293 1327 (lwL i) [] (ax_mk σ) = ev (ax_lO xs L) 60 293 1455 (lwL i) [] (ax_mk ρ) ∧ RA ρ ∧ FI ρ := by
  obtain ⟨v, τ, ρ, a1, a2, a3, a4⟩ := PB.pt (t_as 39 (xs (i + 1)) (xs (i + 2)) r) f
  rw [show (39 + 20 : Nat) = 59 from rfl] at a1 a2
  refine ⟨ρ, ?_, a3, a4⟩
  refine (E_al c_293_1327 rfl (by decide)).trans ?_
  refine (lw_arg (k := 1) hL (by omega) c_293_1328 c_293_1329 c_293_1330 c_293_1331 c_293_1332 rfl).trans ?_
  refine (lw_arg (k := 2) hL (by omega) c_293_1333 c_293_1334 c_293_1335 c_293_1336 c_293_1337 rfl).trans ?_
  refine (E_cLV (as := [.int (xs (i + 1)), .int (xs (i + 2))]) (rest := []) c_293_1338 mi_180 rfl (lO_kl (sO_kl sh_0)) (Nat.le_of_ble_eq_true rfl) (Nat.le_of_ble_eq_true rfl)).trans ?_
  rw [gs_cL (ax_sim xs L) a1, Option.bind_some]
  dsimp only
  refine (E_al c_293_1341 rfl (by decide)).trans ?_
  refine (lw_arg (k := 1) hL (by omega) c_293_1342 c_293_1343 c_293_1344 c_293_1345 c_293_1346 rfl).trans ?_
  refine (lw_arg (k := 2) hL (by omega) c_293_1347 c_293_1348 c_293_1349 c_293_1350 c_293_1351 rfl).trans ?_
  refine (E_cLV (as := [.int (xs (i + 1)), .int (xs (i + 2))]) (rest := [.long v]) c_293_1352 mi_282 rfl (lO_kl (sO_kl sh_82)) (Nat.le_of_ble_eq_true rfl) (Nat.le_of_ble_eq_true rfl)).trans ?_
  rw [gs_cL (ax_sim xs L) a2, Option.bind_some]
  dsimp only
  refine (E_lcmp c_293_1355).trans ?_
  exact (E_b0_eq (q := 1455) c_293_1356 rfl).trans (if_pos ((lg_cmp_eq v v).mpr rfl))
theorem lw_c32 {xs : Nat → Int32} {L i : Nat} {σ : ax_S} (hL : L ≤ 3584) (hi : i + 7 ≤ L) (r : RA σ) (f : FI σ) : ∃ ρ : ax_S, ev (ax_lO xs L) 60 293 1361 (lwL i) [] (ax_mk σ) = ev (ax_lO xs L) 60 293 1455 (lwL i) [] (ax_mk ρ) ∧ RA ρ ∧ FI ρ := by
  obtain ⟨v, τ, ρ, a1, a2, a3, a4⟩ := PB.pt (t_ask 39 (xs (i + 1)) (xs (i + 2)) r) f
  rw [show (39 + 20 : Nat) = 59 from rfl] at a1 a2
  refine ⟨ρ, ?_, a3, a4⟩
  refine (E_al c_293_1361 rfl (by decide)).trans ?_
  refine (lw_arg (k := 1) hL (by omega) c_293_1362 c_293_1363 c_293_1364 c_293_1365 c_293_1366 rfl).trans ?_
  refine (lw_arg (k := 2) hL (by omega) c_293_1367 c_293_1368 c_293_1369 c_293_1370 c_293_1371 rfl).trans ?_
  refine (E_cLV (as := [.int (xs (i + 1)), .int (xs (i + 2))]) (rest := []) c_293_1372 mi_182 rfl (lO_kl (sO_kl sh_0)) (Nat.le_of_ble_eq_true rfl) (Nat.le_of_ble_eq_true rfl)).trans ?_
  rw [gs_cL (ax_sim xs L) a1, Option.bind_some]
  dsimp only
  refine (E_al c_293_1375 rfl (by decide)).trans ?_
  refine (lw_arg (k := 1) hL (by omega) c_293_1376 c_293_1377 c_293_1378 c_293_1379 c_293_1380 rfl).trans ?_
  refine (lw_arg (k := 2) hL (by omega) c_293_1381 c_293_1382 c_293_1383 c_293_1384 c_293_1385 rfl).trans ?_
  refine (E_cLV (as := [.int (xs (i + 1)), .int (xs (i + 2))]) (rest := [.long v]) c_293_1386 mi_284 rfl (lO_kl (sO_kl sh_82)) (Nat.le_of_ble_eq_true rfl) (Nat.le_of_ble_eq_true rfl)).trans ?_
  rw [gs_cL (ax_sim xs L) a2, Option.bind_some]
  dsimp only
  refine (E_lcmp c_293_1389).trans ?_
  exact (E_b0_eq (q := 1455) c_293_1390 rfl).trans (if_pos ((lg_cmp_eq v v).mpr rfl))
theorem lw_c33 {xs : Nat → Int32} {L i : Nat} {σ : ax_S} (hL : L ≤ 3584) (hi : i + 7 ≤ L) (r : RA σ) (f : FI σ) : ∃ ρ : ax_S, ev (ax_lO xs L) 60 293 1395 (lwL i) [] (ax_mk σ) = ev (ax_lO xs L) 60 293 1455 (lwL i) [] (ax_mk ρ) ∧ RA ρ ∧ FI ρ := by
  obtain ⟨v, τ, ρ, a1, a2, a3, a4⟩ := AI.pi (t_trace 39 (xs (i + 1)) r.2.2.2.2.2.2.1) r f
  rw [show (39 + 20 : Nat) = 59 from rfl] at a1 a2
  refine ⟨ρ, ?_, a3, a4⟩
  refine (E_al c_293_1395 rfl (by decide)).trans ?_
  refine (lw_arg (k := 1) hL (by omega) c_293_1396 c_293_1397 c_293_1398 c_293_1399 c_293_1400 rfl).trans ?_
  refine (E_cIV (as := [.int (xs (i + 1))]) (rest := []) c_293_1401 mi_188 rfl rfl (lO_kl (sO_kl sh_0)) (Nat.le_of_ble_eq_true rfl) (Nat.le_of_ble_eq_true rfl)).trans ?_
  rw [gs_cI (ax_sim xs L) a1, Option.bind_some]
  dsimp only
  refine (E_al c_293_1404 rfl (by decide)).trans ?_
  refine (lw_arg (k := 1) hL (by omega) c_293_1405 c_293_1406 c_293_1407 c_293_1408 c_293_1409 rfl).trans ?_
  refine (E_cIV (as := [.int (xs (i + 1))]) (rest := [.int v]) c_293_1410 mi_290 rfl rfl (lO_kl (sO_kl sh_82)) (Nat.le_of_ble_eq_true rfl) (Nat.le_of_ble_eq_true rfl)).trans ?_
  rw [gs_cI (ax_sim xs L) a2, Option.bind_some]
  dsimp only
  exact (E_br_eq (q := 1455) c_293_1413 rfl).trans (if_pos rfl)
theorem lw_c34 {xs : Nat → Int32} {L i : Nat} {σ : ax_S} (hL : L ≤ 3584) (hi : i + 7 ≤ L) (r : RA σ) (f : FI σ) : ∃ ρ : ax_S, ev (ax_lO xs L) 60 293 1418 (lwL i) [] (ax_mk σ) = ev (ax_lO xs L) 60 293 1455 (lwL i) [] (ax_mk ρ) ∧ RA ρ ∧ FI ρ := by
  obtain ⟨v, τ, ρ, a1, a2, a3, a4⟩ := PB.pt (AK.pb (t_count 39 (xs (i + 1)) r) r) f
  rw [show (39 + 20 : Nat) = 59 from rfl] at a1 a2
  refine ⟨ρ, ?_, a3, a4⟩
  refine (E_al c_293_1418 rfl (by decide)).trans ?_
  refine (lw_arg (k := 1) hL (by omega) c_293_1419 c_293_1420 c_293_1421 c_293_1422 c_293_1423 rfl).trans ?_
  refine (E_cLV (as := [.int (xs (i + 1))]) (rest := []) c_293_1424 mi_190 rfl (lO_kl (sO_kl sh_0)) (Nat.le_of_ble_eq_true rfl) (Nat.le_of_ble_eq_true rfl)).trans ?_
  rw [gs_cL (ax_sim xs L) a1, Option.bind_some]
  dsimp only
  refine (E_al c_293_1427 rfl (by decide)).trans ?_
  refine (lw_arg (k := 1) hL (by omega) c_293_1428 c_293_1429 c_293_1430 c_293_1431 c_293_1432 rfl).trans ?_
  refine (E_cLV (as := [.int (xs (i + 1))]) (rest := [.long v]) c_293_1433 mi_291 rfl (lO_kl (sO_kl sh_82)) (Nat.le_of_ble_eq_true rfl) (Nat.le_of_ble_eq_true rfl)).trans ?_
  rw [gs_cL (ax_sim xs L) a2, Option.bind_some]
  dsimp only
  refine (E_lcmp c_293_1436).trans ?_
  exact (E_b0_eq (q := 1455) c_293_1437 rfl).trans (if_pos ((lg_cmp_eq v v).mpr rfl))
theorem lw_c35 {xs : Nat → Int32} {L i : Nat} {σ : ax_S} (hL : L ≤ 3584) (hi : i + 7 ≤ L) (r : RA σ) (f : FI σ) : ∃ ρ : ax_S, ev (ax_lO xs L) 60 293 1442 (lwL i) [] (ax_mk σ) = ev (ax_lO xs L) 60 293 1455 (lwL i) [] (ax_mk ρ) ∧ RA ρ ∧ FI ρ := by
  obtain ⟨v, τ, ρ, a1, a2, a3, a4⟩ := AI.pi (t_status 39  r.2.2.2.2.2.2.2) r f
  rw [show (39 + 20 : Nat) = 59 from rfl] at a1 a2
  refine ⟨ρ, ?_, a3, a4⟩
  refine (E_al c_293_1442 rfl (by decide)).trans ?_
  refine (E_cIV (as := []) (rest := []) c_293_1443 mi_194 rfl rfl (lO_kl (sO_kl sh_0)) (Nat.le_of_ble_eq_true rfl) (Nat.le_of_ble_eq_true rfl)).trans ?_
  rw [gs_cI (ax_sim xs L) a1, Option.bind_some]
  dsimp only
  refine (E_al c_293_1446 rfl (by decide)).trans ?_
  refine (E_cIV (as := []) (rest := [.int v]) c_293_1447 mi_292 rfl rfl (lO_kl (sO_kl sh_82)) (Nat.le_of_ble_eq_true rfl) (Nat.le_of_ble_eq_true rfl)).trans ?_
  rw [gs_cI (ax_sim xs L) a2, Option.bind_some]
  dsimp only
  exact (E_br_eq (q := 1455) c_293_1450 rfl).trans (if_pos rfl)
