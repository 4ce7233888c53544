/-! the calls of the law -/
theorem lc_0 {G : ovG} {nm : String} {cells slots : Nat} {S : ovS} {L i n m : Nat} {xs : Nat → Int32} (hL : L ≤ 3072) (hi : i + 6 ≤ L) (hc : cells ≤ 600000) (hs : slots ≤ 7302250) (hI : IC S n m) (hY : Ly S n) (tl : ∀ S1 : ovS, Inv S1 → RW G (mL nm) room_1 cells slots (lZ G L xs) 1302 (lls i) [] S1) : RW G (mL nm) room_1 cells slots (lZ G L xs) 216 (lls i) [] S := by
  refine r_aload_n (x := 0) dL_216 rfl rfl ?_
  refine l_arg 1 hL hi (by decide) (by decide +kernel) dL_217 dL_218 dL_219 dL_220 dL_221 ?_
  refine l_arg 2 hL hi (by decide) (by decide +kernel) dL_222 dL_223 dL_224 dL_225 dL_226 ?_
  refine l_arg 3 hL hi (by decide) (by decide +kernel) dL_227 dL_228 dL_229 dL_230 dL_231 ?_
  refine l_arg 4 hL hi (by decide) (by decide +kernel) dL_232 dL_233 dL_234 dL_235 dL_236 ?_
  refine l_arg 5 hL hi (by decide) (by decide +kernel) dL_237 dL_238 dL_239 dL_240 dL_241 ?_
  refine r_callV (h := 2) (As := [.int (xs (i + 1)), .int (xs (i + 2)), .int (xs (i + 3)), .int (xs (i + 4)), .int (xs (i + 5))]) (st := []) okX11_feed mlL_13 ov_c0 (by decide) rfl dL_242 rfl (Nat.le_of_ble_eq_true rfl) ⟨Nat.le_of_ble_eq_true rfl, Nat.le_of_ble_eq_true rfl⟩ ⟨hc, hs⟩ rfl (pb_feed hI hY) (fun r S1 hE => ?_)
  refine r_aload_n (x := 412) dL_245 rfl rfl ?_
  refine l_arg 1 hL hi (by decide) (by decide +kernel) dL_246 dL_247 dL_248 dL_249 dL_250 ?_
  refine l_arg 2 hL hi (by decide) (by decide +kernel) dL_251 dL_252 dL_253 dL_254 dL_255 ?_
  refine l_arg 3 hL hi (by decide) (by decide +kernel) dL_256 dL_257 dL_258 dL_259 dL_260 ?_
  refine l_arg 4 hL hi (by decide) (by decide +kernel) dL_261 dL_262 dL_263 dL_264 dL_265 ?_
  refine l_arg 5 hL hi (by decide) (by decide +kernel) dL_266 dL_267 dL_268 dL_269 dL_270 ?_
  refine r_callV (h := 2) (As := [.int (xs (i + 1)), .int (xs (i + 2)), .int (xs (i + 3)), .int (xs (i + 4)), .int (xs (i + 5))]) (st := [.int r]) okX12_feed mlL_17 ov_c412 (by decide) rfl dL_271 rfl (Nat.le_of_ble_eq_true rfl) ⟨Nat.le_of_ble_eq_true rfl, Nat.le_of_ble_eq_true rfl⟩ ⟨hc, hs⟩ rfl hE (fun r2 S2 hq => ?_)
  show RW G (mL nm) room_1 cells slots (lZ G L xs) 274 (lls i) [.int r2, .int r] S2
  refine r_icmp_eq dL_274 (tgt := 1302) (by decide) (fun _ => tl S2 hq.2) (fun z => absurd hq.1.symm z)
theorem lc_1 {G : ovG} {nm : String} {cells slots : Nat} {S : ovS} {L i n m : Nat} {xs : Nat → Int32} (hL : L ≤ 3072) (hi : i + 6 ≤ L) (hc : cells ≤ 600000) (hs : slots ≤ 7302250) (hI : IC S n m) (hY : Ly S n) (tl : ∀ S1 : ovS, Inv S1 → RW G (mL nm) room_1 cells slots (lZ G L xs) 1302 (lls i) [] S1) : RW G (mL nm) room_1 cells slots (lZ G L xs) 279 (lls i) [] S := by
  refine r_aload_n (x := 0) dL_279 rfl rfl ?_
  refine l_arg 1 hL hi (by decide) (by decide +kernel) dL_280 dL_281 dL_282 dL_283 dL_284 ?_
  refine r_callV (h := 1) (As := [.int (xs (i + 1))]) (st := []) okX11_end mlL_18 ov_c0 (by decide) rfl dL_285 rfl (Nat.le_of_ble_eq_true rfl) ⟨Nat.le_of_ble_eq_true rfl, Nat.le_of_ble_eq_true rfl⟩ ⟨hc, hs⟩ rfl (pb_end hI hY) (fun r S1 hE => ?_)
  refine r_aload_n (x := 412) dL_288 rfl rfl ?_
  refine l_arg 1 hL hi (by decide) (by decide +kernel) dL_289 dL_290 dL_291 dL_292 dL_293 ?_
  refine r_callV (h := 1) (As := [.int (xs (i + 1))]) (st := [.int r]) okX12_end mlL_22 ov_c412 (by decide) rfl dL_294 rfl (Nat.le_of_ble_eq_true rfl) ⟨Nat.le_of_ble_eq_true rfl, Nat.le_of_ble_eq_true rfl⟩ ⟨hc, hs⟩ rfl hE (fun r2 S2 hq => ?_)
  show RW G (mL nm) room_1 cells slots (lZ G L xs) 297 (lls i) [.int r2, .int r] S2
  refine r_icmp_eq dL_297 (tgt := 1302) (by decide) (fun _ => tl S2 hq.2) (fun z => absurd hq.1.symm z)
theorem lc_2 {G : ovG} {nm : String} {cells slots : Nat} {S : ovS} {L i n m : Nat} {xs : Nat → Int32} (hL : L ≤ 3072) (hi : i + 6 ≤ L) (hc : cells ≤ 600000) (hs : slots ≤ 7302250) (hI : IC S n m) (hY : Ly S n) (tl : ∀ S1 : ovS, Inv S1 → RW G (mL nm) room_1 cells slots (lZ G L xs) 1302 (lls i) [] S1) : RW G (mL nm) room_1 cells slots (lZ G L xs) 302 (lls i) [] S := by
  refine r_aload_n (x := 0) dL_302 rfl rfl ?_
  refine r_callV (h := 13) (As := []) (st := []) okX11_village mlL_23 ov_c0 (by decide) rfl dL_303 rfl (Nat.le_of_ble_eq_true rfl) ⟨Nat.le_of_ble_eq_true rfl, Nat.le_of_ble_eq_true rfl⟩ ⟨hc, hs⟩ rfl (pb_village hI hY) (fun r S1 hE => ?_)
  refine r_aload_n (x := 412) dL_306 rfl rfl ?_
  refine r_callV (h := 8) (As := []) (st := [.int r]) okX12_village mlL_27 ov_c412 (by decide) rfl dL_307 rfl (Nat.le_of_ble_eq_true rfl) ⟨Nat.le_of_ble_eq_true rfl, Nat.le_of_ble_eq_true rfl⟩ ⟨hc, hs⟩ rfl hE (fun r2 S2 hq => ?_)
  show RW G (mL nm) room_1 cells slots (lZ G L xs) 310 (lls i) [.int r2, .int r] S2
  refine r_icmp_eq dL_310 (tgt := 1302) (by decide) (fun _ => tl S2 hq.2) (fun z => absurd hq.1.symm z)
theorem lc_3 {G : ovG} {nm : String} {cells slots : Nat} {S : ovS} {L i n m : Nat} {xs : Nat → Int32} (hL : L ≤ 3072) (hi : i + 6 ≤ L) (hc : cells ≤ 600000) (hs : slots ≤ 7302250) (hI : IC S n m) (hY : Ly S n) (tl : ∀ S1 : ovS, Inv S1 → RW G (mL nm) room_1 cells slots (lZ G L xs) 1302 (lls i) [] S1) : RW G (mL nm) room_1 cells slots (lZ G L xs) 315 (lls i) [] S := by
  refine r_aload_n (x := 0) dL_315 rfl rfl ?_
  refine l_arg 1 hL hi (by decide) (by decide +kernel) dL_316 dL_317 dL_318 dL_319 dL_320 ?_
  refine r_callV (h := 1) (As := [.int (xs (i + 1))]) (st := []) okX11_fault mlL_28 ov_c0 (by decide) rfl dL_321 rfl (Nat.le_of_ble_eq_true rfl) ⟨Nat.le_of_ble_eq_true rfl, Nat.le_of_ble_eq_true rfl⟩ ⟨hc, hs⟩ rfl (pb_fault hI hY) (fun r S1 hE => ?_)
  refine r_aload_n (x := 412) dL_324 rfl rfl ?_
  refine l_arg 1 hL hi (by decide) (by decide +kernel) dL_325 dL_326 dL_327 dL_328 dL_329 ?_
  refine r_callV (h := 1) (As := [.int (xs (i + 1))]) (st := [.int r]) okX12_fault mlL_31 ov_c412 (by decide) rfl dL_330 rfl (Nat.le_of_ble_eq_true rfl) ⟨Nat.le_of_ble_eq_true rfl, Nat.le_of_ble_eq_true rfl⟩ ⟨hc, hs⟩ rfl hE (fun r2 S2 hq => ?_)
  show RW G (mL nm) room_1 cells slots (lZ G L xs) 333 (lls i) [.int r2, .int r] S2
  refine r_icmp_eq dL_333 (tgt := 1302) (by decide) (fun _ => tl S2 hq.2) (fun z => absurd hq.1.symm z)
theorem lc_4 {G : ovG} {nm : String} {cells slots : Nat} {S : ovS} {L i n m : Nat} {xs : Nat → Int32} (hL : L ≤ 3072) (hi : i + 6 ≤ L) (hc : cells ≤ 600000) (hs : slots ≤ 7302250) (hI : IC S n m) (hY : Ly S n) (tl : ∀ S1 : ovS, Inv S1 → RW G (mL nm) room_1 cells slots (lZ G L xs) 1302 (lls i) [] S1) : RW G (mL nm) room_1 cells slots (lZ G L xs) 338 (lls i) [] S := by
  refine r_aload_n (x := 0) dL_338 rfl rfl ?_
  refine l_arg 1 hL hi (by decide) (by decide +kernel) dL_339 dL_340 dL_341 dL_342 dL_343 ?_
  refine l_arg 2 hL hi (by decide) (by decide +kernel) dL_344 dL_345 dL_346 dL_347 dL_348 ?_
  refine r_callV (h := 7) (As := [.int (xs (i + 1)), .int (xs (i + 2))]) (st := []) okX11_soul mlL_32 ov_c0 (by decide) rfl dL_349 rfl (Nat.le_of_ble_eq_true rfl) ⟨Nat.le_of_ble_eq_true rfl, Nat.le_of_ble_eq_true rfl⟩ ⟨hc, hs⟩ rfl (pb_soul hI hY) (fun r S1 hE => ?_)
  refine r_aload_n (x := 412) dL_352 rfl rfl ?_
  refine l_arg 1 hL hi (by decide) (by decide +kernel) dL_353 dL_354 dL_355 dL_356 dL_357 ?_
  refine l_arg 2 hL hi (by decide) (by decide +kernel) dL_358 dL_359 dL_360 dL_361 dL_362 ?_
  refine r_callV (h := 7) (As := [.int (xs (i + 1)), .int (xs (i + 2))]) (st := [.int r]) okX12_soul mlL_36 ov_c412 (by decide) rfl dL_363 rfl (Nat.le_of_ble_eq_true rfl) ⟨Nat.le_of_ble_eq_true rfl, Nat.le_of_ble_eq_true rfl⟩ ⟨hc, hs⟩ rfl hE (fun r2 S2 hq => ?_)
  show RW G (mL nm) room_1 cells slots (lZ G L xs) 366 (lls i) [.int r2, .int r] S2
  refine r_icmp_eq dL_366 (tgt := 1302) (by decide) (fun _ => tl S2 hq.2) (fun z => absurd hq.1.symm z)
theorem lc_5 {G : ovG} {nm : String} {cells slots : Nat} {S : ovS} {L i n m : Nat} {xs : Nat → Int32} (hL : L ≤ 3072) (hi : i + 6 ≤ L) (hc : cells ≤ 600000) (hs : slots ≤ 7302250) (hI : IC S n m) (hY : Ly S n) (tl : ∀ S1 : ovS, Inv S1 → RW G (mL nm) room_1 cells slots (lZ G L xs) 1302 (lls i) [] S1) : RW G (mL nm) room_1 cells slots (lZ G L xs) 371 (lls i) [] S := by
  refine r_aload_n (x := 0) dL_371 rfl rfl ?_
  refine l_arg 1 hL hi (by decide) (by decide +kernel) dL_372 dL_373 dL_374 dL_375 dL_376 ?_
  refine l_arg 2 hL hi (by decide) (by decide +kernel) dL_377 dL_378 dL_379 dL_380 dL_381 ?_
  refine r_callV (h := 4) (As := [.int (xs (i + 1)), .int (xs (i + 2))]) (st := []) okX11_does mlL_37 ov_c0 (by decide) rfl dL_382 rfl (Nat.le_of_ble_eq_true rfl) ⟨Nat.le_of_ble_eq_true rfl, Nat.le_of_ble_eq_true rfl⟩ ⟨hc, hs⟩ rfl (pb_does hI hY) (fun r S1 hE => ?_)
  refine r_aload_n (x := 412) dL_385 rfl rfl ?_
  refine l_arg 1 hL hi (by decide) (by decide +kernel) dL_386 dL_387 dL_388 dL_389 dL_390 ?_
  refine l_arg 2 hL hi (by decide) (by decide +kernel) dL_391 dL_392 dL_393 dL_394 dL_395 ?_
  refine r_callV (h := 3) (As := [.int (xs (i + 1)), .int (xs (i + 2))]) (st := [.int r]) okX12_does mlL_40 ov_c412 (by decide) rfl dL_396 rfl (Nat.le_of_ble_eq_true rfl) ⟨Nat.le_of_ble_eq_true rfl, Nat.le_of_ble_eq_true rfl⟩ ⟨hc, hs⟩ rfl hE (fun r2 S2 hq => ?_)
  show RW G (mL nm) room_1 cells slots (lZ G L xs) 399 (lls i) [.int r2, .int r] S2
  refine r_icmp_eq dL_399 (tgt := 1302) (by decide) (fun _ => tl S2 hq.2) (fun z => absurd hq.1.symm z)
theorem lc_6 {G : ovG} {nm : String} {cells slots : Nat} {S : ovS} {L i n m : Nat} {xs : Nat → Int32} (hL : L ≤ 3072) (hi : i + 6 ≤ L) (hc : cells ≤ 600000) (hs : slots ≤ 7302250) (hI : IC S n m) (hY : Ly S n) (tl : ∀ S1 : ovS, Inv S1 → RW G (mL nm) room_1 cells slots (lZ G L xs) 1302 (lls i) [] S1) : RW G (mL nm) room_1 cells slots (lZ G L xs) 404 (lls i) [] S := by
  refine r_aload_n (x := 0) dL_404 rfl rfl ?_
  refine l_arg 1 hL hi (by decide) (by decide +kernel) dL_405 dL_406 dL_407 dL_408 dL_409 ?_
  refine l_arg 2 hL hi (by decide) (by decide +kernel) dL_410 dL_411 dL_412 dL_413 dL_414 ?_
  refine r_callV (h := 4) (As := [.int (xs (i + 1)), .int (xs (i + 2))]) (st := []) okX11_says mlL_41 ov_c0 (by decide) rfl dL_415 rfl (Nat.le_of_ble_eq_true rfl) ⟨Nat.le_of_ble_eq_true rfl, Nat.le_of_ble_eq_true rfl⟩ ⟨hc, hs⟩ rfl (pb_says hI hY) (fun r S1 hE => ?_)
  refine r_aload_n (x := 412) dL_418 rfl rfl ?_
  refine l_arg 1 hL hi (by decide) (by decide +kernel) dL_419 dL_420 dL_421 dL_422 dL_423 ?_
  refine l_arg 2 hL hi (by decide) (by decide +kernel) dL_424 dL_425 dL_426 dL_427 dL_428 ?_
  refine r_callV (h := 3) (As := [.int (xs (i + 1)), .int (xs (i + 2))]) (st := [.int r]) okX12_says mlL_44 ov_c412 (by decide) rfl dL_429 rfl (Nat.le_of_ble_eq_true rfl) ⟨Nat.le_of_ble_eq_true rfl, Nat.le_of_ble_eq_true rfl⟩ ⟨hc, hs⟩ rfl hE (fun r2 S2 hq => ?_)
  show RW G (mL nm) room_1 cells slots (lZ G L xs) 432 (lls i) [.int r2, .int r] S2
  refine r_icmp_eq dL_432 (tgt := 1302) (by decide) (fun _ => tl S2 hq.2) (fun z => absurd hq.1.symm z)
theorem lc_7 {G : ovG} {nm : String} {cells slots : Nat} {S : ovS} {L i n m : Nat} {xs : Nat → Int32} (hL : L ≤ 3072) (hi : i + 6 ≤ L) (hc : cells ≤ 600000) (hs : slots ≤ 7302250) (hI : IC S n m) (hY : Ly S n) (tl : ∀ S1 : ovS, Inv S1 → RW G (mL nm) room_1 cells slots (lZ G L xs) 1302 (lls i) [] S1) : RW G (mL nm) room_1 cells slots (lZ G L xs) 437 (lls i) [] S := by
  refine r_aload_n (x := 0) dL_437 rfl rfl ?_
  refine l_arg 1 hL hi (by decide) (by decide +kernel) dL_438 dL_439 dL_440 dL_441 dL_442 ?_
  refine l_arg 2 hL hi (by decide) (by decide +kernel) dL_443 dL_444 dL_445 dL_446 dL_447 ?_
  refine r_callV (h := 4) (As := [.int (xs (i + 1)), .int (xs (i + 2))]) (st := []) okX11_feud mlL_45 ov_c0 (by decide) rfl dL_448 rfl (Nat.le_of_ble_eq_true rfl) ⟨Nat.le_of_ble_eq_true rfl, Nat.le_of_ble_eq_true rfl⟩ ⟨hc, hs⟩ rfl (pb_feud hI hY) (fun r S1 hE => ?_)
  refine r_aload_n (x := 412) dL_451 rfl rfl ?_
  refine l_arg 1 hL hi (by decide) (by decide +kernel) dL_452 dL_453 dL_454 dL_455 dL_456 ?_
  refine l_arg 2 hL hi (by decide) (by decide +kernel) dL_457 dL_458 dL_459 dL_460 dL_461 ?_
  refine r_callV (h := 3) (As := [.int (xs (i + 1)), .int (xs (i + 2))]) (st := [.int r]) okX12_feud mlL_48 ov_c412 (by decide) rfl dL_462 rfl (Nat.le_of_ble_eq_true rfl) ⟨Nat.le_of_ble_eq_true rfl, Nat.le_of_ble_eq_true rfl⟩ ⟨hc, hs⟩ rfl hE (fun r2 S2 hq => ?_)
  show RW G (mL nm) room_1 cells slots (lZ G L xs) 465 (lls i) [.int r2, .int r] S2
  refine r_icmp_eq dL_465 (tgt := 1302) (by decide) (fun _ => tl S2 hq.2) (fun z => absurd hq.1.symm z)
theorem lc_8 {G : ovG} {nm : String} {cells slots : Nat} {S : ovS} {L i n m : Nat} {xs : Nat → Int32} (hL : L ≤ 3072) (hi : i + 6 ≤ L) (hc : cells ≤ 600000) (hs : slots ≤ 7302250) (hI : IC S n m) (hY : Ly S n) (tl : ∀ S1 : ovS, Inv S1 → RW G (mL nm) room_1 cells slots (lZ G L xs) 1302 (lls i) [] S1) : RW G (mL nm) room_1 cells slots (lZ G L xs) 470 (lls i) [] S := by
  refine r_aload_n (x := 0) dL_470 rfl rfl ?_
  refine r_callV (h := 8) (As := []) (st := []) okX11_bread mlL_49 ov_c0 (by decide) rfl dL_471 rfl (Nat.le_of_ble_eq_true rfl) ⟨Nat.le_of_ble_eq_true rfl, Nat.le_of_ble_eq_true rfl⟩ ⟨hc, hs⟩ rfl (pb_bread hI hY) (fun r S1 hE => ?_)
  refine r_aload_n (x := 412) dL_474 rfl rfl ?_
  refine r_callV (h := 7) (As := []) (st := [.int r]) okX12_bread mlL_52 ov_c412 (by decide) rfl dL_475 rfl (Nat.le_of_ble_eq_true rfl) ⟨Nat.le_of_ble_eq_true rfl, Nat.le_of_ble_eq_true rfl⟩ ⟨hc, hs⟩ rfl hE (fun r2 S2 hq => ?_)
  show RW G (mL nm) room_1 cells slots (lZ G L xs) 478 (lls i) [.int r2, .int r] S2
  refine r_icmp_eq dL_478 (tgt := 1302) (by decide) (fun _ => tl S2 hq.2) (fun z => absurd hq.1.symm z)
theorem lc_9 {G : ovG} {nm : String} {cells slots : Nat} {S : ovS} {L i n m : Nat} {xs : Nat → Int32} (hL : L ≤ 3072) (hi : i + 6 ≤ L) (hc : cells ≤ 600000) (hs : slots ≤ 7302250) (hI : IC S n m) (hY : Ly S n) (tl : ∀ S1 : ovS, Inv S1 → RW G (mL nm) room_1 cells slots (lZ G L xs) 1302 (lls i) [] S1) : RW G (mL nm) room_1 cells slots (lZ G L xs) 483 (lls i) [] S := by
  refine r_aload_n (x := 0) dL_483 rfl rfl ?_
  refine r_callV (h := 4) (As := []) (st := []) okX11_undo mlL_53 ov_c0 (by decide) rfl dL_484 rfl (Nat.le_of_ble_eq_true rfl) ⟨Nat.le_of_ble_eq_true rfl, Nat.le_of_ble_eq_true rfl⟩ ⟨hc, hs⟩ rfl (pb_undo hI hY) (fun r S1 hE => ?_)
  refine r_aload_n (x := 412) dL_487 rfl rfl ?_
  refine r_callV (h := 2) (As := []) (st := [.int r]) okX12_undo mlL_57 ov_c412 (by decide) rfl dL_488 rfl (Nat.le_of_ble_eq_true rfl) ⟨Nat.le_of_ble_eq_true rfl, Nat.le_of_ble_eq_true rfl⟩ ⟨hc, hs⟩ rfl hE (fun r2 S2 hq => ?_)
  show RW G (mL nm) room_1 cells slots (lZ G L xs) 491 (lls i) [.int r2, .int r] S2
  refine r_icmp_eq dL_491 (tgt := 1302) (by decide) (fun _ => tl S2 hq.2) (fun z => absurd hq.1.symm z)
theorem lc_10 {G : ovG} {nm : String} {cells slots : Nat} {S : ovS} {L i n m : Nat} {xs : Nat → Int32} (hL : L ≤ 3072) (hi : i + 6 ≤ L) (hc : cells ≤ 600000) (hs : slots ≤ 7302250) (hI : IC S n m) (hY : Ly S n) (tl : ∀ S1 : ovS, Inv S1 → RW G (mL nm) room_1 cells slots (lZ G L xs) 1302 (lls i) [] S1) : RW G (mL nm) room_1 cells slots (lZ G L xs) 496 (lls i) [] S := by
  refine r_aload_n (x := 0) dL_496 rfl rfl ?_
  refine r_callV (h := 4) (As := []) (st := []) okX11_redo mlL_58 ov_c0 (by decide) rfl dL_497 rfl (Nat.le_of_ble_eq_true rfl) ⟨Nat.le_of_ble_eq_true rfl, Nat.le_of_ble_eq_true rfl⟩ ⟨hc, hs⟩ rfl (pb_redo hI hY) (fun r S1 hE => ?_)
  refine r_aload_n (x := 412) dL_500 rfl rfl ?_
  refine r_callV (h := 2) (As := []) (st := [.int r]) okX12_redo mlL_61 ov_c412 (by decide) rfl dL_501 rfl (Nat.le_of_ble_eq_true rfl) ⟨Nat.le_of_ble_eq_true rfl, Nat.le_of_ble_eq_true rfl⟩ ⟨hc, hs⟩ rfl hE (fun r2 S2 hq => ?_)
  show RW G (mL nm) room_1 cells slots (lZ G L xs) 504 (lls i) [.int r2, .int r] S2
  refine r_icmp_eq dL_504 (tgt := 1302) (by decide) (fun _ => tl S2 hq.2) (fun z => absurd hq.1.symm z)
theorem lc_11 {G : ovG} {nm : String} {cells slots : Nat} {S : ovS} {L i n m : Nat} {xs : Nat → Int32} (hL : L ≤ 3072) (hi : i + 6 ≤ L) (hc : cells ≤ 600000) (hs : slots ≤ 7302250) (hI : IC S n m) (hY : Ly S n) (tl : ∀ S1 : ovS, Inv S1 → RW G (mL nm) room_1 cells slots (lZ G L xs) 1302 (lls i) [] S1) : RW G (mL nm) room_1 cells slots (lZ G L xs) 509 (lls i) [] S := by
  refine r_aload_n (x := 0) dL_509 rfl rfl ?_
  refine r_callV (h := 2) (As := []) (st := []) okX11_stone mlL_62 ov_c0 (by decide) rfl dL_510 rfl (Nat.le_of_ble_eq_true rfl) ⟨Nat.le_of_ble_eq_true rfl, Nat.le_of_ble_eq_true rfl⟩ ⟨hc, hs⟩ rfl (pb_stone hI hY) (fun r S1 hE => ?_)
  refine r_aload_n (x := 412) dL_513 rfl rfl ?_
  refine r_callV (h := 3) (As := []) (st := [.int r]) okX12_stone mlL_65 ov_c412 (by decide) rfl dL_514 rfl (Nat.le_of_ble_eq_true rfl) ⟨Nat.le_of_ble_eq_true rfl, Nat.le_of_ble_eq_true rfl⟩ ⟨hc, hs⟩ rfl hE (fun r2 S2 hq => ?_)
  show RW G (mL nm) room_1 cells slots (lZ G L xs) 517 (lls i) [.int r2, .int r] S2
  refine r_icmp_eq dL_517 (tgt := 1302) (by decide) (fun _ => tl S2 hq.2) (fun z => absurd hq.1.symm z)
theorem lc_12 {G : ovG} {nm : String} {cells slots : Nat} {S : ovS} {L i n m : Nat} {xs : Nat → Int32} (hL : L ≤ 3072) (hi : i + 6 ≤ L) (hc : cells ≤ 600000) (hs : slots ≤ 7302250) (hI : IC S n m) (hY : Ly S n) (tl : ∀ S1 : ovS, Inv S1 → RW G (mL nm) room_1 cells slots (lZ G L xs) 1302 (lls i) [] S1) : RW G (mL nm) room_1 cells slots (lZ G L xs) 522 (lls i) [] S := by
  refine r_aload_n (x := 0) dL_522 rfl rfl ?_
  refine r_callV (h := 8) (As := []) (st := []) okX11_fed mlL_66 ov_c0 (by decide) rfl dL_523 rfl (Nat.le_of_ble_eq_true rfl) ⟨Nat.le_of_ble_eq_true rfl, Nat.le_of_ble_eq_true rfl⟩ ⟨hc, hs⟩ rfl (pb_fed hI hY) (fun r S1 hE => ?_)
  refine r_aload_n (x := 412) dL_526 rfl rfl ?_
  refine r_callV (h := 7) (As := []) (st := [.int r]) okX12_fed mlL_69 ov_c412 (by decide) rfl dL_527 rfl (Nat.le_of_ble_eq_true rfl) ⟨Nat.le_of_ble_eq_true rfl, Nat.le_of_ble_eq_true rfl⟩ ⟨hc, hs⟩ rfl hE (fun r2 S2 hq => ?_)
  show RW G (mL nm) room_1 cells slots (lZ G L xs) 530 (lls i) [.int r2, .int r] S2
  refine r_icmp_eq dL_530 (tgt := 1302) (by decide) (fun _ => tl S2 hq.2) (fun z => absurd hq.1.symm z)
theorem lc_13 {G : ovG} {nm : String} {cells slots : Nat} {S : ovS} {L i n m : Nat} {xs : Nat → Int32} (hL : L ≤ 3072) (hi : i + 6 ≤ L) (hc : cells ≤ 600000) (hs : slots ≤ 7302250) (hI : IC S n m) (hY : Ly S n) (tl : ∀ S1 : ovS, Inv S1 → RW G (mL nm) room_1 cells slots (lZ G L xs) 1302 (lls i) [] S1) : RW G (mL nm) room_1 cells slots (lZ G L xs) 535 (lls i) [] S := by
  refine r_aload_n (x := 0) dL_535 rfl rfl ?_
  refine l_arg 1 hL hi (by decide) (by decide +kernel) dL_536 dL_537 dL_538 dL_539 dL_540 ?_
  refine r_callV (h := 8) (As := [.int (xs (i + 1))]) (st := []) okX11_feeds mlL_70 ov_c0 (by decide) rfl dL_541 rfl (Nat.le_of_ble_eq_true rfl) ⟨Nat.le_of_ble_eq_true rfl, Nat.le_of_ble_eq_true rfl⟩ ⟨hc, hs⟩ rfl (pb_feeds hI hY) (fun r S1 hE => ?_)
  refine r_aload_n (x := 412) dL_544 rfl rfl ?_
  refine l_arg 1 hL hi (by decide) (by decide +kernel) dL_545 dL_546 dL_547 dL_548 dL_549 ?_
  refine r_callV (h := 7) (As := [.int (xs (i + 1))]) (st := [.int r]) okX12_feeds mlL_73 ov_c412 (by decide) rfl dL_550 rfl (Nat.le_of_ble_eq_true rfl) ⟨Nat.le_of_ble_eq_true rfl, Nat.le_of_ble_eq_true rfl⟩ ⟨hc, hs⟩ rfl hE (fun r2 S2 hq => ?_)
  show RW G (mL nm) room_1 cells slots (lZ G L xs) 553 (lls i) [.int r2, .int r] S2
  refine r_icmp_eq dL_553 (tgt := 1302) (by decide) (fun _ => tl S2 hq.2) (fun z => absurd hq.1.symm z)
theorem lc_14 {G : ovG} {nm : String} {cells slots : Nat} {S : ovS} {L i n m : Nat} {xs : Nat → Int32} (hL : L ≤ 3072) (hi : i + 6 ≤ L) (hc : cells ≤ 600000) (hs : slots ≤ 7302250) (hI : IC S n m) (hY : Ly S n) (tl : ∀ S1 : ovS, Inv S1 → RW G (mL nm) room_1 cells slots (lZ G L xs) 1302 (lls i) [] S1) : RW G (mL nm) room_1 cells slots (lZ G L xs) 558 (lls i) [] S := by
  refine r_aload_n (x := 0) dL_558 rfl rfl ?_
  refine r_callV (h := 8) (As := []) (st := []) okX11_richest mlL_74 ov_c0 (by decide) rfl dL_559 rfl (Nat.le_of_ble_eq_true rfl) ⟨Nat.le_of_ble_eq_true rfl, Nat.le_of_ble_eq_true rfl⟩ ⟨hc, hs⟩ rfl (pb_richest hI hY) (fun r S1 hE => ?_)
  refine r_aload_n (x := 412) dL_562 rfl rfl ?_
  refine r_callV (h := 7) (As := []) (st := [.int r]) okX12_richest mlL_77 ov_c412 (by decide) rfl dL_563 rfl (Nat.le_of_ble_eq_true rfl) ⟨Nat.le_of_ble_eq_true rfl, Nat.le_of_ble_eq_true rfl⟩ ⟨hc, hs⟩ rfl hE (fun r2 S2 hq => ?_)
  show RW G (mL nm) room_1 cells slots (lZ G L xs) 566 (lls i) [.int r2, .int r] S2
  refine r_icmp_eq dL_566 (tgt := 1302) (by decide) (fun _ => tl S2 hq.2) (fun z => absurd hq.1.symm z)
theorem lc_15 {G : ovG} {nm : String} {cells slots : Nat} {S : ovS} {L i n m : Nat} {xs : Nat → Int32} (hL : L ≤ 3072) (hi : i + 6 ≤ L) (hc : cells ≤ 600000) (hs : slots ≤ 7302250) (hI : IC S n m) (hY : Ly S n) (tl : ∀ S1 : ovS, Inv S1 → RW G (mL nm) room_1 cells slots (lZ G L xs) 1302 (lls i) [] S1) : RW G (mL nm) room_1 cells slots (lZ G L xs) 571 (lls i) [] S := by
  refine r_aload_n (x := 0) dL_571 rfl rfl ?_
  refine r_callV (h := 8) (As := []) (st := []) okX11_steady mlL_78 ov_c0 (by decide) rfl dL_572 rfl (Nat.le_of_ble_eq_true rfl) ⟨Nat.le_of_ble_eq_true rfl, Nat.le_of_ble_eq_true rfl⟩ ⟨hc, hs⟩ rfl (pb_steady hI hY) (fun r S1 hE => ?_)
  refine r_aload_n (x := 412) dL_575 rfl rfl ?_
  refine r_callV (h := 9) (As := []) (st := [.int r]) okX12_steady mlL_81 ov_c412 (by decide) rfl dL_576 rfl (Nat.le_of_ble_eq_true rfl) ⟨Nat.le_of_ble_eq_true rfl, Nat.le_of_ble_eq_true rfl⟩ ⟨hc, hs⟩ rfl hE (fun r2 S2 hq => ?_)
  show RW G (mL nm) room_1 cells slots (lZ G L xs) 579 (lls i) [.int r2, .int r] S2
  refine r_icmp_eq dL_579 (tgt := 1302) (by decide) (fun _ => tl S2 hq.2) (fun z => absurd hq.1.symm z)
theorem lc_16 {G : ovG} {nm : String} {cells slots : Nat} {S : ovS} {L i n m : Nat} {xs : Nat → Int32} (hL : L ≤ 3072) (hi : i + 6 ≤ L) (hc : cells ≤ 600000) (hs : slots ≤ 7302250) (hI : IC S n m) (hY : Ly S n) (tl : ∀ S1 : ovS, Inv S1 → RW G (mL nm) room_1 cells slots (lZ G L xs) 1302 (lls i) [] S1) : RW G (mL nm) room_1 cells slots (lZ G L xs) 584 (lls i) [] S := by
  refine r_aload_n (x := 0) dL_584 rfl rfl ?_
  refine r_callV (h := 8) (As := []) (st := []) okX11_isSteady mlL_82 ov_c0 (by decide) rfl dL_585 rfl (Nat.le_of_ble_eq_true rfl) ⟨Nat.le_of_ble_eq_true rfl, Nat.le_of_ble_eq_true rfl⟩ ⟨hc, hs⟩ rfl (pb_isSteady hI hY) (fun r S1 hE => ?_)
  refine r_aload_n (x := 412) dL_588 rfl rfl ?_
  refine r_callV (h := 9) (As := []) (st := [.int r]) okX12_isSteady mlL_85 ov_c412 (by decide) rfl dL_589 rfl (Nat.le_of_ble_eq_true rfl) ⟨Nat.le_of_ble_eq_true rfl, Nat.le_of_ble_eq_true rfl⟩ ⟨hc, hs⟩ rfl hE (fun r2 S2 hq => ?_)
  show RW G (mL nm) room_1 cells slots (lZ G L xs) 592 (lls i) [.int r2, .int r] S2
  refine r_icmp_eq dL_592 (tgt := 1302) (by decide) (fun _ => tl S2 hq.2) (fun z => absurd hq.1.symm z)
theorem lc_17 {G : ovG} {nm : String} {cells slots : Nat} {S : ovS} {L i n m : Nat} {xs : Nat → Int32} (hL : L ≤ 3072) (hi : i + 6 ≤ L) (hc : cells ≤ 600000) (hs : slots ≤ 7302250) (hI : IC S n m) (hY : Ly S n) (tl : ∀ S1 : ovS, Inv S1 → RW G (mL nm) room_1 cells slots (lZ G L xs) 1302 (lls i) [] S1) : RW G (mL nm) room_1 cells slots (lZ G L xs) 597 (lls i) [] S := by
  refine r_aload_n (x := 0) dL_597 rfl rfl ?_
  refine r_callV (h := 8) (As := []) (st := []) okX11_rest mlL_86 ov_c0 (by decide) rfl dL_598 rfl (Nat.le_of_ble_eq_true rfl) ⟨Nat.le_of_ble_eq_true rfl, Nat.le_of_ble_eq_true rfl⟩ ⟨hc, hs⟩ rfl (pb_rest hI hY) (fun r S1 hE => ?_)
  refine r_aload_n (x := 412) dL_601 rfl rfl ?_
  refine r_callV (h := 9) (As := []) (st := [.int r]) okX12_rest mlL_89 ov_c412 (by decide) rfl dL_602 rfl (Nat.le_of_ble_eq_true rfl) ⟨Nat.le_of_ble_eq_true rfl, Nat.le_of_ble_eq_true rfl⟩ ⟨hc, hs⟩ rfl hE (fun r2 S2 hq => ?_)
  show RW G (mL nm) room_1 cells slots (lZ G L xs) 605 (lls i) [.int r2, .int r] S2
  refine r_icmp_eq dL_605 (tgt := 1302) (by decide) (fun _ => tl S2 hq.2) (fun z => absurd hq.1.symm z)
theorem lc_18 {G : ovG} {nm : String} {cells slots : Nat} {S : ovS} {L i n m : Nat} {xs : Nat → Int32} (hL : L ≤ 3072) (hi : i + 6 ≤ L) (hc : cells ≤ 600000) (hs : slots ≤ 7302250) (hI : IC S n m) (hY : Ly S n) (tl : ∀ S1 : ovS, Inv S1 → RW G (mL nm) room_1 cells slots (lZ G L xs) 1302 (lls i) [] S1) : RW G (mL nm) room_1 cells slots (lZ G L xs) 610 (lls i) [] S := by
  refine r_aload_n (x := 0) dL_610 rfl rfl ?_
  refine r_callV (h := 3) (As := []) (st := []) okX11_silent mlL_90 ov_c0 (by decide) rfl dL_611 rfl (Nat.le_of_ble_eq_true rfl) ⟨Nat.le_of_ble_eq_true rfl, Nat.le_of_ble_eq_true rfl⟩ ⟨hc, hs⟩ rfl (pb_silent hI hY) (fun r S1 hE => ?_)
  refine r_aload_n (x := 412) dL_614 rfl rfl ?_
  refine r_callV (h := 3) (As := []) (st := [.int r]) okX12_silent mlL_93 ov_c412 (by decide) rfl dL_615 rfl (Nat.le_of_ble_eq_true rfl) ⟨Nat.le_of_ble_eq_true rfl, Nat.le_of_ble_eq_true rfl⟩ ⟨hc, hs⟩ rfl hE (fun r2 S2 hq => ?_)
  show RW G (mL nm) room_1 cells slots (lZ G L xs) 618 (lls i) [.int r2, .int r] S2
  refine r_icmp_eq dL_618 (tgt := 1302) (by decide) (fun _ => tl S2 hq.2) (fun z => absurd hq.1.symm z)
theorem lc_19 {G : ovG} {nm : String} {cells slots : Nat} {S : ovS} {L i n m : Nat} {xs : Nat → Int32} (hL : L ≤ 3072) (hi : i + 6 ≤ L) (hc : cells ≤ 600000) (hs : slots ≤ 7302250) (hI : IC S n m) (hY : Ly S n) (tl : ∀ S1 : ovS, Inv S1 → RW G (mL nm) room_1 cells slots (lZ G L xs) 1302 (lls i) [] S1) : RW G (mL nm) room_1 cells slots (lZ G L xs) 623 (lls i) [] S := by
  refine r_aload_n (x := 0) dL_623 rfl rfl ?_
  refine l_arg 1 hL hi (by decide) (by decide +kernel) dL_624 dL_625 dL_626 dL_627 dL_628 ?_
  refine r_callV (h := 8) (As := [.int (xs (i + 1))]) (st := []) okX11_spoiler mlL_94 ov_c0 (by decide) rfl dL_629 rfl (Nat.le_of_ble_eq_true rfl) ⟨Nat.le_of_ble_eq_true rfl, Nat.le_of_ble_eq_true rfl⟩ ⟨hc, hs⟩ rfl (pb_spoiler hI hY) (fun r S1 hE => ?_)
  refine r_aload_n (x := 412) dL_632 rfl rfl ?_
  refine l_arg 1 hL hi (by decide) (by decide +kernel) dL_633 dL_634 dL_635 dL_636 dL_637 ?_
  refine r_callV (h := 6) (As := [.int (xs (i + 1))]) (st := [.int r]) okX12_spoiler mlL_97 ov_c412 (by decide) rfl dL_638 rfl (Nat.le_of_ble_eq_true rfl) ⟨Nat.le_of_ble_eq_true rfl, Nat.le_of_ble_eq_true rfl⟩ ⟨hc, hs⟩ rfl hE (fun r2 S2 hq => ?_)
  show RW G (mL nm) room_1 cells slots (lZ G L xs) 641 (lls i) [.int r2, .int r] S2
  refine r_icmp_eq dL_641 (tgt := 1302) (by decide) (fun _ => tl S2 hq.2) (fun z => absurd hq.1.symm z)
theorem lc_20 {G : ovG} {nm : String} {cells slots : Nat} {S : ovS} {L i n m : Nat} {xs : Nat → Int32} (hL : L ≤ 3072) (hi : i + 6 ≤ L) (hc : cells ≤ 600000) (hs : slots ≤ 7302250) (hI : IC S n m) (hY : Ly S n) (tl : ∀ S1 : ovS, Inv S1 → RW G (mL nm) room_1 cells slots (lZ G L xs) 1302 (lls i) [] S1) : RW G (mL nm) room_1 cells slots (lZ G L xs) 646 (lls i) [] S := by
  refine r_aload_n (x := 0) dL_646 rfl rfl ?_
  refine l_arg 1 hL hi (by decide) (by decide +kernel) dL_647 dL_648 dL_649 dL_650 dL_651 ?_
  refine r_callV (h := 2) (As := [.int (xs (i + 1))]) (st := []) okX11_claims mlL_98 ov_c0 (by decide) rfl dL_652 rfl (Nat.le_of_ble_eq_true rfl) ⟨Nat.le_of_ble_eq_true rfl, Nat.le_of_ble_eq_true rfl⟩ ⟨hc, hs⟩ rfl (pb_claims hI hY) (fun r S1 hE => ?_)
  refine r_aload_n (x := 412) dL_655 rfl rfl ?_
  refine l_arg 1 hL hi (by decide) (by decide +kernel) dL_656 dL_657 dL_658 dL_659 dL_660 ?_
  refine r_callV (h := 3) (As := [.int (xs (i + 1))]) (st := [.int r]) okX12_claims mlL_101 ov_c412 (by decide) rfl dL_661 rfl (Nat.le_of_ble_eq_true rfl) ⟨Nat.le_of_ble_eq_true rfl, Nat.le_of_ble_eq_true rfl⟩ ⟨hc, hs⟩ rfl hE (fun r2 S2 hq => ?_)
  show RW G (mL nm) room_1 cells slots (lZ G L xs) 664 (lls i) [.int r2, .int r] S2
  refine r_icmp_eq dL_664 (tgt := 1302) (by decide) (fun _ => tl S2 hq.2) (fun z => absurd hq.1.symm z)
theorem lc_21 {G : ovG} {nm : String} {cells slots : Nat} {S : ovS} {L i n m : Nat} {xs : Nat → Int32} (hL : L ≤ 3072) (hi : i + 6 ≤ L) (hc : cells ≤ 600000) (hs : slots ≤ 7302250) (hI : IC S n m) (hY : Ly S n) (tl : ∀ S1 : ovS, Inv S1 → RW G (mL nm) room_1 cells slots (lZ G L xs) 1302 (lls i) [] S1) : RW G (mL nm) room_1 cells slots (lZ G L xs) 669 (lls i) [] S := by
  refine r_aload_n (x := 0) dL_669 rfl rfl ?_
  refine l_arg 1 hL hi (by decide) (by decide +kernel) dL_670 dL_671 dL_672 dL_673 dL_674 ?_
  refine r_callV (h := 3) (As := [.int (xs (i + 1))]) (st := []) okX11_peace mlL_102 ov_c0 (by decide) rfl dL_675 rfl (Nat.le_of_ble_eq_true rfl) ⟨Nat.le_of_ble_eq_true rfl, Nat.le_of_ble_eq_true rfl⟩ ⟨hc, hs⟩ rfl (pb_peace hI hY) (fun r S1 hE => ?_)
  refine r_aload_n (x := 412) dL_678 rfl rfl ?_
  refine l_arg 1 hL hi (by decide) (by decide +kernel) dL_679 dL_680 dL_681 dL_682 dL_683 ?_
  refine r_callV (h := 3) (As := [.int (xs (i + 1))]) (st := [.int r]) okX12_peace mlL_105 ov_c412 (by decide) rfl dL_684 rfl (Nat.le_of_ble_eq_true rfl) ⟨Nat.le_of_ble_eq_true rfl, Nat.le_of_ble_eq_true rfl⟩ ⟨hc, hs⟩ rfl hE (fun r2 S2 hq => ?_)
  show RW G (mL nm) room_1 cells slots (lZ G L xs) 687 (lls i) [.int r2, .int r] S2
  refine r_icmp_eq dL_687 (tgt := 1302) (by decide) (fun _ => tl S2 hq.2) (fun z => absurd hq.1.symm z)
theorem lc_22 {G : ovG} {nm : String} {cells slots : Nat} {S : ovS} {L i n m : Nat} {xs : Nat → Int32} (hL : L ≤ 3072) (hi : i + 6 ≤ L) (hc : cells ≤ 600000) (hs : slots ≤ 7302250) (hI : IC S n m) (hY : Ly S n) (tl : ∀ S1 : ovS, Inv S1 → RW G (mL nm) room_1 cells slots (lZ G L xs) 1302 (lls i) [] S1) : RW G (mL nm) room_1 cells slots (lZ G L xs) 692 (lls i) [] S := by
  refine r_aload_n (x := 0) dL_692 rfl rfl ?_
  refine r_callV (h := 42) (As := []) (st := []) okX11_pairs mlL_106 ov_c0 (by decide) rfl dL_693 rfl (Nat.le_of_ble_eq_true rfl) ⟨Nat.le_of_ble_eq_true rfl, Nat.le_of_ble_eq_true rfl⟩ ⟨hc, hs⟩ rfl (pb_pairs hI hY) (fun r S1 hE => ?_)
  refine r_aload_n (x := 412) dL_696 rfl rfl ?_
  refine r_callV (h := 7) (As := []) (st := [.int r]) okX12_pairs mlL_109 ov_c412 (by decide) rfl dL_697 rfl (Nat.le_of_ble_eq_true rfl) ⟨Nat.le_of_ble_eq_true rfl, Nat.le_of_ble_eq_true rfl⟩ ⟨hc, hs⟩ rfl hE (fun r2 S2 hq => ?_)
  show RW G (mL nm) room_1 cells slots (lZ G L xs) 700 (lls i) [.int r2, .int r] S2
  refine r_icmp_eq dL_700 (tgt := 1302) (by decide) (fun _ => tl S2 hq.2) (fun z => absurd hq.1.symm z)
theorem lc_23 {G : ovG} {nm : String} {cells slots : Nat} {S : ovS} {L i n m : Nat} {xs : Nat → Int32} (hL : L ≤ 3072) (hi : i + 6 ≤ L) (hc : cells ≤ 600000) (hs : slots ≤ 7302250) (hI : IC S n m) (hY : Ly S n) (tl : ∀ S1 : ovS, Inv S1 → RW G (mL nm) room_1 cells slots (lZ G L xs) 1302 (lls i) [] S1) : RW G (mL nm) room_1 cells slots (lZ G L xs) 705 (lls i) [] S := by
  refine r_aload_n (x := 0) dL_705 rfl rfl ?_
  refine r_callV (h := 6) (As := []) (st := []) okX11_alike mlL_110 ov_c0 (by decide) rfl dL_706 rfl (Nat.le_of_ble_eq_true rfl) ⟨Nat.le_of_ble_eq_true rfl, Nat.le_of_ble_eq_true rfl⟩ ⟨hc, hs⟩ rfl (pb_alike hI hY) (fun r S1 hE => ?_)
  refine r_aload_n (x := 412) dL_709 rfl rfl ?_
  refine r_callV (h := 7) (As := []) (st := [.int r]) okX12_alike mlL_113 ov_c412 (by decide) rfl dL_710 rfl (Nat.le_of_ble_eq_true rfl) ⟨Nat.le_of_ble_eq_true rfl, Nat.le_of_ble_eq_true rfl⟩ ⟨hc, hs⟩ rfl hE (fun r2 S2 hq => ?_)
  show RW G (mL nm) room_1 cells slots (lZ G L xs) 713 (lls i) [.int r2, .int r] S2
  refine r_icmp_eq dL_713 (tgt := 1302) (by decide) (fun _ => tl S2 hq.2) (fun z => absurd hq.1.symm z)
theorem lc_24 {G : ovG} {nm : String} {cells slots : Nat} {S : ovS} {L i n m : Nat} {xs : Nat → Int32} (hL : L ≤ 3072) (hi : i + 6 ≤ L) (hc : cells ≤ 600000) (hs : slots ≤ 7302250) (hI : IC S n m) (hY : Ly S n) (tl : ∀ S1 : ovS, Inv S1 → RW G (mL nm) room_1 cells slots (lZ G L xs) 1302 (lls i) [] S1) : RW G (mL nm) room_1 cells slots (lZ G L xs) 718 (lls i) [] S := by
  refine r_aload_n (x := 0) dL_718 rfl rfl ?_
  refine l_arg 1 hL hi (by decide) (by decide +kernel) dL_719 dL_720 dL_721 dL_722 dL_723 ?_
  refine l_arg 2 hL hi (by decide) (by decide +kernel) dL_724 dL_725 dL_726 dL_727 dL_728 ?_
  refine r_callV (h := 5) (As := [.int (xs (i + 1)), .int (xs (i + 2))]) (st := []) okX11_makes mlL_114 ov_c0 (by decide) rfl dL_729 rfl (Nat.le_of_ble_eq_true rfl) ⟨Nat.le_of_ble_eq_true rfl, Nat.le_of_ble_eq_true rfl⟩ ⟨hc, hs⟩ rfl (pb_makes hI hY) (fun r S1 hE => ?_)
  refine r_aload_n (x := 412) dL_732 rfl rfl ?_
  refine l_arg 1 hL hi (by decide) (by decide +kernel) dL_733 dL_734 dL_735 dL_736 dL_737 ?_
  refine l_arg 2 hL hi (by decide) (by decide +kernel) dL_738 dL_739 dL_740 dL_741 dL_742 ?_
  refine r_callV (h := 5) (As := [.int (xs (i + 1)), .int (xs (i + 2))]) (st := [.int r]) okX12_makes mlL_117 ov_c412 (by decide) rfl dL_743 rfl (Nat.le_of_ble_eq_true rfl) ⟨Nat.le_of_ble_eq_true rfl, Nat.le_of_ble_eq_true rfl⟩ ⟨hc, hs⟩ rfl hE (fun r2 S2 hq => ?_)
  show RW G (mL nm) room_1 cells slots (lZ G L xs) 746 (lls i) [.int r2, .int r] S2
  refine r_icmp_eq dL_746 (tgt := 1302) (by decide) (fun _ => tl S2 hq.2) (fun z => absurd hq.1.symm z)
theorem lc_25 {G : ovG} {nm : String} {cells slots : Nat} {S : ovS} {L i n m : Nat} {xs : Nat → Int32} (hL : L ≤ 3072) (hi : i + 6 ≤ L) (hc : cells ≤ 600000) (hs : slots ≤ 7302250) (hI : IC S n m) (hY : Ly S n) (tl : ∀ S1 : ovS, Inv S1 → RW G (mL nm) room_1 cells slots (lZ G L xs) 1302 (lls i) [] S1) : RW G (mL nm) room_1 cells slots (lZ G L xs) 751 (lls i) [] S := by
  refine r_aload_n (x := 0) dL_751 rfl rfl ?_
  refine l_arg 1 hL hi (by decide) (by decide +kernel) dL_752 dL_753 dL_754 dL_755 dL_756 ?_
  refine l_arg 2 hL hi (by decide) (by decide +kernel) dL_757 dL_758 dL_759 dL_760 dL_761 ?_
  refine l_arg 3 hL hi (by decide) (by decide +kernel) dL_762 dL_763 dL_764 dL_765 dL_766 ?_
  refine r_callV (h := 5) (As := [.int (xs (i + 1)), .int (xs (i + 2)), .int (xs (i + 3))]) (st := []) okX11_wants mlL_118 ov_c0 (by decide) rfl dL_767 rfl (Nat.le_of_ble_eq_true rfl) ⟨Nat.le_of_ble_eq_true rfl, Nat.le_of_ble_eq_true rfl⟩ ⟨hc, hs⟩ rfl (pb_wants hI hY) (fun r S1 hE => ?_)
  refine r_aload_n (x := 412) dL_770 rfl rfl ?_
  refine l_arg 1 hL hi (by decide) (by decide +kernel) dL_771 dL_772 dL_773 dL_774 dL_775 ?_
  refine l_arg 2 hL hi (by decide) (by decide +kernel) dL_776 dL_777 dL_778 dL_779 dL_780 ?_
  refine l_arg 3 hL hi (by decide) (by decide +kernel) dL_781 dL_782 dL_783 dL_784 dL_785 ?_
  refine r_callV (h := 5) (As := [.int (xs (i + 1)), .int (xs (i + 2)), .int (xs (i + 3))]) (st := [.int r]) okX12_wants mlL_122 ov_c412 (by decide) rfl dL_786 rfl (Nat.le_of_ble_eq_true rfl) ⟨Nat.le_of_ble_eq_true rfl, Nat.le_of_ble_eq_true rfl⟩ ⟨hc, hs⟩ rfl hE (fun r2 S2 hq => ?_)
  show RW G (mL nm) room_1 cells slots (lZ G L xs) 789 (lls i) [.int r2, .int r] S2
  refine r_icmp_eq dL_789 (tgt := 1302) (by decide) (fun _ => tl S2 hq.2) (fun z => absurd hq.1.symm z)
theorem lc_26 {G : ovG} {nm : String} {cells slots : Nat} {S : ovS} {L i n m : Nat} {xs : Nat → Int32} (hL : L ≤ 3072) (hi : i + 6 ≤ L) (hc : cells ≤ 600000) (hs : slots ≤ 7302250) (hI : IC S n m) (hY : Ly S n) (tl : ∀ S1 : ovS, Inv S1 → RW G (mL nm) room_1 cells slots (lZ G L xs) 1302 (lls i) [] S1) : RW G (mL nm) room_1 cells slots (lZ G L xs) 794 (lls i) [] S := by
  refine r_aload_n (x := 0) dL_794 rfl rfl ?_
  refine l_arg 1 hL hi (by decide) (by decide +kernel) dL_795 dL_796 dL_797 dL_798 dL_799 ?_
  refine l_arg 2 hL hi (by decide) (by decide +kernel) dL_800 dL_801 dL_802 dL_803 dL_804 ?_
  refine r_callV (h := 5) (As := [.int (xs (i + 1)), .int (xs (i + 2))]) (st := []) okX11_warm mlL_123 ov_c0 (by decide) rfl dL_805 rfl (Nat.le_of_ble_eq_true rfl) ⟨Nat.le_of_ble_eq_true rfl, Nat.le_of_ble_eq_true rfl⟩ ⟨hc, hs⟩ rfl (pb_warm hI hY) (fun r S1 hE => ?_)
  refine r_aload_n (x := 412) dL_808 rfl rfl ?_
  refine l_arg 1 hL hi (by decide) (by decide +kernel) dL_809 dL_810 dL_811 dL_812 dL_813 ?_
  refine l_arg 2 hL hi (by decide) (by decide +kernel) dL_814 dL_815 dL_816 dL_817 dL_818 ?_
  refine r_callV (h := 5) (As := [.int (xs (i + 1)), .int (xs (i + 2))]) (st := [.int r]) okX12_warm mlL_126 ov_c412 (by decide) rfl dL_819 rfl (Nat.le_of_ble_eq_true rfl) ⟨Nat.le_of_ble_eq_true rfl, Nat.le_of_ble_eq_true rfl⟩ ⟨hc, hs⟩ rfl hE (fun r2 S2 hq => ?_)
  show RW G (mL nm) room_1 cells slots (lZ G L xs) 822 (lls i) [.int r2, .int r] S2
  refine r_icmp_eq dL_822 (tgt := 1302) (by decide) (fun _ => tl S2 hq.2) (fun z => absurd hq.1.symm z)
theorem lc_27 {G : ovG} {nm : String} {cells slots : Nat} {S : ovS} {L i n m : Nat} {xs : Nat → Int32} (hL : L ≤ 3072) (hi : i + 6 ≤ L) (hc : cells ≤ 600000) (hs : slots ≤ 7302250) (hI : IC S n m) (hY : Ly S n) (tl : ∀ S1 : ovS, Inv S1 → RW G (mL nm) room_1 cells slots (lZ G L xs) 1302 (lls i) [] S1) : RW G (mL nm) room_1 cells slots (lZ G L xs) 827 (lls i) [] S := by
  refine r_aload_n (x := 0) dL_827 rfl rfl ?_
  refine l_arg 1 hL hi (by decide) (by decide +kernel) dL_828 dL_829 dL_830 dL_831 dL_832 ?_
  refine l_arg 2 hL hi (by decide) (by decide +kernel) dL_833 dL_834 dL_835 dL_836 dL_837 ?_
  refine r_callV (h := 7) (As := [.int (xs (i + 1)), .int (xs (i + 2))]) (st := []) okX11_will mlL_127 ov_c0 (by decide) rfl dL_838 rfl (Nat.le_of_ble_eq_true rfl) ⟨Nat.le_of_ble_eq_true rfl, Nat.le_of_ble_eq_true rfl⟩ ⟨hc, hs⟩ rfl (pb_will hI hY) (fun r S1 hE => ?_)
  refine r_aload_n (x := 412) dL_841 rfl rfl ?_
  refine l_arg 1 hL hi (by decide) (by decide +kernel) dL_842 dL_843 dL_844 dL_845 dL_846 ?_
  refine l_arg 2 hL hi (by decide) (by decide +kernel) dL_847 dL_848 dL_849 dL_850 dL_851 ?_
  refine r_callV (h := 6) (As := [.int (xs (i + 1)), .int (xs (i + 2))]) (st := [.int r]) okX12_will mlL_130 ov_c412 (by decide) rfl dL_852 rfl (Nat.le_of_ble_eq_true rfl) ⟨Nat.le_of_ble_eq_true rfl, Nat.le_of_ble_eq_true rfl⟩ ⟨hc, hs⟩ rfl hE (fun r2 S2 hq => ?_)
  show RW G (mL nm) room_1 cells slots (lZ G L xs) 855 (lls i) [.int r2, .int r] S2
  refine r_icmp_eq dL_855 (tgt := 1302) (by decide) (fun _ => tl S2 hq.2) (fun z => absurd hq.1.symm z)
theorem lc_28 {G : ovG} {nm : String} {cells slots : Nat} {S : ovS} {L i n m : Nat} {xs : Nat → Int32} (hL : L ≤ 3072) (hi : i + 6 ≤ L) (hc : cells ≤ 600000) (hs : slots ≤ 7302250) (hI : IC S n m) (hY : Ly S n) (tl : ∀ S1 : ovS, Inv S1 → RW G (mL nm) room_1 cells slots (lZ G L xs) 1302 (lls i) [] S1) : RW G (mL nm) room_1 cells slots (lZ G L xs) 860 (lls i) [] S := by
  refine r_aload_n (x := 0) dL_860 rfl rfl ?_
  refine l_arg 1 hL hi (by decide) (by decide +kernel) dL_861 dL_862 dL_863 dL_864 dL_865 ?_
  refine l_arg 2 hL hi (by decide) (by decide +kernel) dL_866 dL_867 dL_868 dL_869 dL_870 ?_
  refine l_arg 3 hL hi (by decide) (by decide +kernel) dL_871 dL_872 dL_873 dL_874 dL_875 ?_
  refine l_arg 4 hL hi (by decide) (by decide +kernel) dL_876 dL_877 dL_878 dL_879 dL_880 ?_
  refine r_callV (h := 7) (As := [.int (xs (i + 1)), .int (xs (i + 2)), .int (xs (i + 3)), .int (xs (i + 4))]) (st := []) okX11_odds mlL_131 ov_c0 (by decide) rfl dL_881 rfl (Nat.le_of_ble_eq_true rfl) ⟨Nat.le_of_ble_eq_true rfl, Nat.le_of_ble_eq_true rfl⟩ ⟨hc, hs⟩ rfl (pb_odds hI hY) (fun r S1 hE => ?_)
  refine r_aload_n (x := 412) dL_884 rfl rfl ?_
  refine l_arg 1 hL hi (by decide) (by decide +kernel) dL_885 dL_886 dL_887 dL_888 dL_889 ?_
  refine l_arg 2 hL hi (by decide) (by decide +kernel) dL_890 dL_891 dL_892 dL_893 dL_894 ?_
  refine l_arg 3 hL hi (by decide) (by decide +kernel) dL_895 dL_896 dL_897 dL_898 dL_899 ?_
  refine l_arg 4 hL hi (by decide) (by decide +kernel) dL_900 dL_901 dL_902 dL_903 dL_904 ?_
  refine r_callV (h := 5) (As := [.int (xs (i + 1)), .int (xs (i + 2)), .int (xs (i + 3)), .int (xs (i + 4))]) (st := [.int r]) okX12_odds mlL_135 ov_c412 (by decide) rfl dL_905 rfl (Nat.le_of_ble_eq_true rfl) ⟨Nat.le_of_ble_eq_true rfl, Nat.le_of_ble_eq_true rfl⟩ ⟨hc, hs⟩ rfl hE (fun r2 S2 hq => ?_)
  show RW G (mL nm) room_1 cells slots (lZ G L xs) 908 (lls i) [.int r2, .int r] S2
  refine r_icmp_eq dL_908 (tgt := 1302) (by decide) (fun _ => tl S2 hq.2) (fun z => absurd hq.1.symm z)
theorem lc_29 {G : ovG} {nm : String} {cells slots : Nat} {S : ovS} {L i n m : Nat} {xs : Nat → Int32} (hL : L ≤ 3072) (hi : i + 6 ≤ L) (hc : cells ≤ 600000) (hs : slots ≤ 7302250) (hI : IC S n m) (hY : Ly S n) (tl : ∀ S1 : ovS, Inv S1 → RW G (mL nm) room_1 cells slots (lZ G L xs) 1302 (lls i) [] S1) : RW G (mL nm) room_1 cells slots (lZ G L xs) 913 (lls i) [] S := by
  refine r_aload_n (x := 0) dL_913 rfl rfl ?_
  refine l_arg 1 hL hi (by decide) (by decide +kernel) dL_914 dL_915 dL_916 dL_917 dL_918 ?_
  refine l_arg 2 hL hi (by decide) (by decide +kernel) dL_919 dL_920 dL_921 dL_922 dL_923 ?_
  refine r_callV (h := 7) (As := [.int (xs (i + 1)), .int (xs (i + 2))]) (st := []) okX11_soonest mlL_136 ov_c0 (by decide) rfl dL_924 rfl (Nat.le_of_ble_eq_true rfl) ⟨Nat.le_of_ble_eq_true rfl, Nat.le_of_ble_eq_true rfl⟩ ⟨hc, hs⟩ rfl (pb_soonest hI hY) (fun r S1 hE => ?_)
  refine r_aload_n (x := 412) dL_927 rfl rfl ?_
  refine l_arg 1 hL hi (by decide) (by decide +kernel) dL_928 dL_929 dL_930 dL_931 dL_932 ?_
  refine l_arg 2 hL hi (by decide) (by decide +kernel) dL_933 dL_934 dL_935 dL_936 dL_937 ?_
  refine r_callV (h := 6) (As := [.int (xs (i + 1)), .int (xs (i + 2))]) (st := [.int r]) okX12_soonest mlL_139 ov_c412 (by decide) rfl dL_938 rfl (Nat.le_of_ble_eq_true rfl) ⟨Nat.le_of_ble_eq_true rfl, Nat.le_of_ble_eq_true rfl⟩ ⟨hc, hs⟩ rfl hE (fun r2 S2 hq => ?_)
  show RW G (mL nm) room_1 cells slots (lZ G L xs) 941 (lls i) [.int r2, .int r] S2
  refine r_icmp_eq dL_941 (tgt := 1302) (by decide) (fun _ => tl S2 hq.2) (fun z => absurd hq.1.symm z)
theorem lc_30 {G : ovG} {nm : String} {cells slots : Nat} {S : ovS} {L i n m : Nat} {xs : Nat → Int32} (hL : L ≤ 3072) (hi : i + 6 ≤ L) (hc : cells ≤ 600000) (hs : slots ≤ 7302250) (hI : IC S n m) (hY : Ly S n) (tl : ∀ S1 : ovS, Inv S1 → RW G (mL nm) room_1 cells slots (lZ G L xs) 1302 (lls i) [] S1) : RW G (mL nm) room_1 cells slots (lZ G L xs) 946 (lls i) [] S := by
  refine r_aload_n (x := 0) dL_946 rfl rfl ?_
  refine l_arg 1 hL hi (by decide) (by decide +kernel) dL_947 dL_948 dL_949 dL_950 dL_951 ?_
  refine r_callV (h := 1) (As := [.int (xs (i + 1))]) (st := []) okX11_lies mlL_140 ov_c0 (by decide) rfl dL_952 rfl (Nat.le_of_ble_eq_true rfl) ⟨Nat.le_of_ble_eq_true rfl, Nat.le_of_ble_eq_true rfl⟩ ⟨hc, hs⟩ rfl (pb_lies hI hY) (fun r S1 hE => ?_)
  refine r_aload_n (x := 412) dL_955 rfl rfl ?_
  refine l_arg 1 hL hi (by decide) (by decide +kernel) dL_956 dL_957 dL_958 dL_959 dL_960 ?_
  refine r_callV (h := 2) (As := [.int (xs (i + 1))]) (st := [.int r]) okX12_lies mlL_143 ov_c412 (by decide) rfl dL_961 rfl (Nat.le_of_ble_eq_true rfl) ⟨Nat.le_of_ble_eq_true rfl, Nat.le_of_ble_eq_true rfl⟩ ⟨hc, hs⟩ rfl hE (fun r2 S2 hq => ?_)
  show RW G (mL nm) room_1 cells slots (lZ G L xs) 964 (lls i) [.int r2, .int r] S2
  refine r_icmp_eq dL_964 (tgt := 1302) (by decide) (fun _ => tl S2 hq.2) (fun z => absurd hq.1.symm z)
theorem lc_31 {G : ovG} {nm : String} {cells slots : Nat} {S : ovS} {L i n m : Nat} {xs : Nat → Int32} (hL : L ≤ 3072) (hi : i + 6 ≤ L) (hc : cells ≤ 600000) (hs : slots ≤ 7302250) (hI : IC S n m) (hY : Ly S n) (tl : ∀ S1 : ovS, Inv S1 → RW G (mL nm) room_1 cells slots (lZ G L xs) 1302 (lls i) [] S1) : RW G (mL nm) room_1 cells slots (lZ G L xs) 969 (lls i) [] S := by
  refine r_aload_n (x := 0) dL_969 rfl rfl ?_
  refine l_arg 1 hL hi (by decide) (by decide +kernel) dL_970 dL_971 dL_972 dL_973 dL_974 ?_
  refine l_arg 2 hL hi (by decide) (by decide +kernel) dL_975 dL_976 dL_977 dL_978 dL_979 ?_
  refine l_arg 3 hL hi (by decide) (by decide +kernel) dL_980 dL_981 dL_982 dL_983 dL_984 ?_
  refine l_arg 4 hL hi (by decide) (by decide +kernel) dL_985 dL_986 dL_987 dL_988 dL_989 ?_
  refine r_callV (h := 3) (As := [.int (xs (i + 1)), .int (xs (i + 2)), .int (xs (i + 3)), .int (xs (i + 4))]) (st := []) okX11_report mlL_144 ov_c0 (by decide) rfl dL_990 rfl (Nat.le_of_ble_eq_true rfl) ⟨Nat.le_of_ble_eq_true rfl, Nat.le_of_ble_eq_true rfl⟩ ⟨hc, hs⟩ rfl (pb_report hI hY) (fun r S1 hE => ?_)
  refine r_aload_n (x := 412) dL_993 rfl rfl ?_
  refine l_arg 1 hL hi (by decide) (by decide +kernel) dL_994 dL_995 dL_996 dL_997 dL_998 ?_
  refine l_arg 2 hL hi (by decide) (by decide +kernel) dL_999 dL_1000 dL_1001 dL_1002 dL_1003 ?_
  refine l_arg 3 hL hi (by decide) (by decide +kernel) dL_1004 dL_1005 dL_1006 dL_1007 dL_1008 ?_
  refine l_arg 4 hL hi (by decide) (by decide +kernel) dL_1009 dL_1010 dL_1011 dL_1012 dL_1013 ?_
  refine r_callV (h := 2) (As := [.int (xs (i + 1)), .int (xs (i + 2)), .int (xs (i + 3)), .int (xs (i + 4))]) (st := [.int r]) okX12_report mlL_147 ov_c412 (by decide) rfl dL_1014 rfl (Nat.le_of_ble_eq_true rfl) ⟨Nat.le_of_ble_eq_true rfl, Nat.le_of_ble_eq_true rfl⟩ ⟨hc, hs⟩ rfl hE (fun r2 S2 hq => ?_)
  show RW G (mL nm) room_1 cells slots (lZ G L xs) 1017 (lls i) [.int r2, .int r] S2
  refine r_icmp_eq dL_1017 (tgt := 1302) (by decide) (fun _ => tl S2 hq.2) (fun z => absurd hq.1.symm z)
theorem lc_32 {G : ovG} {nm : String} {cells slots : Nat} {S : ovS} {L i n m : Nat} {xs : Nat → Int32} (hL : L ≤ 3072) (hi : i + 6 ≤ L) (hc : cells ≤ 600000) (hs : slots ≤ 7302250) (hI : IC S n m) (hY : Ly S n) (tl : ∀ S1 : ovS, Inv S1 → RW G (mL nm) room_1 cells slots (lZ G L xs) 1302 (lls i) [] S1) : RW G (mL nm) room_1 cells slots (lZ G L xs) 1022 (lls i) [] S := by
  refine r_aload_n (x := 0) dL_1022 rfl rfl ?_
  refine l_arg 1 hL hi (by decide) (by decide +kernel) dL_1023 dL_1024 dL_1025 dL_1026 dL_1027 ?_
  refine r_callV (h := 2) (As := [.int (xs (i + 1))]) (st := []) okX11_untell mlL_148 ov_c0 (by decide) rfl dL_1028 rfl (Nat.le_of_ble_eq_true rfl) ⟨Nat.le_of_ble_eq_true rfl, Nat.le_of_ble_eq_true rfl⟩ ⟨hc, hs⟩ rfl (pb_untell hI hY) (fun r S1 hE => ?_)
  refine r_aload_n (x := 412) dL_1031 rfl rfl ?_
  refine l_arg 1 hL hi (by decide) (by decide +kernel) dL_1032 dL_1033 dL_1034 dL_1035 dL_1036 ?_
  refine r_callV (h := 2) (As := [.int (xs (i + 1))]) (st := [.int r]) okX12_untell mlL_152 ov_c412 (by decide) rfl dL_1037 rfl (Nat.le_of_ble_eq_true rfl) ⟨Nat.le_of_ble_eq_true rfl, Nat.le_of_ble_eq_true rfl⟩ ⟨hc, hs⟩ rfl hE (fun r2 S2 hq => ?_)
  show RW G (mL nm) room_1 cells slots (lZ G L xs) 1040 (lls i) [.int r2, .int r] S2
  refine r_icmp_eq dL_1040 (tgt := 1302) (by decide) (fun _ => tl S2 hq.2) (fun z => absurd hq.1.symm z)
theorem lc_33 {G : ovG} {nm : String} {cells slots : Nat} {S : ovS} {L i n m : Nat} {xs : Nat → Int32} (hL : L ≤ 3072) (hi : i + 6 ≤ L) (hc : cells ≤ 600000) (hs : slots ≤ 7302250) (hI : IC S n m) (hY : Ly S n) (tl : ∀ S1 : ovS, Inv S1 → RW G (mL nm) room_1 cells slots (lZ G L xs) 1302 (lls i) [] S1) : RW G (mL nm) room_1 cells slots (lZ G L xs) 1045 (lls i) [] S := by
  refine r_aload_n (x := 0) dL_1045 rfl rfl ?_
  refine l_arg 1 hL hi (by decide) (by decide +kernel) dL_1046 dL_1047 dL_1048 dL_1049 dL_1050 ?_
  refine r_callV (h := 2) (As := [.int (xs (i + 1))]) (st := []) okX11_later mlL_153 ov_c0 (by decide) rfl dL_1051 rfl (Nat.le_of_ble_eq_true rfl) ⟨Nat.le_of_ble_eq_true rfl, Nat.le_of_ble_eq_true rfl⟩ ⟨hc, hs⟩ rfl (pb_later hI hY) (fun r S1 hE => ?_)
  refine r_aload_n (x := 412) dL_1054 rfl rfl ?_
  refine l_arg 1 hL hi (by decide) (by decide +kernel) dL_1055 dL_1056 dL_1057 dL_1058 dL_1059 ?_
  refine r_callV (h := 1) (As := [.int (xs (i + 1))]) (st := [.int r]) okX12_later mlL_156 ov_c412 (by decide) rfl dL_1060 rfl (Nat.le_of_ble_eq_true rfl) ⟨Nat.le_of_ble_eq_true rfl, Nat.le_of_ble_eq_true rfl⟩ ⟨hc, hs⟩ rfl hE (fun r2 S2 hq => ?_)
  show RW G (mL nm) room_1 cells slots (lZ G L xs) 1063 (lls i) [.int r2, .int r] S2
  refine r_icmp_eq dL_1063 (tgt := 1302) (by decide) (fun _ => tl S2 hq.2) (fun z => absurd hq.1.symm z)
theorem lc_34 {G : ovG} {nm : String} {cells slots : Nat} {S : ovS} {L i n m : Nat} {xs : Nat → Int32} (hL : L ≤ 3072) (hi : i + 6 ≤ L) (hc : cells ≤ 600000) (hs : slots ≤ 7302250) (hI : IC S n m) (hY : Ly S n) (tl : ∀ S1 : ovS, Inv S1 → RW G (mL nm) room_1 cells slots (lZ G L xs) 1302 (lls i) [] S1) : RW G (mL nm) room_1 cells slots (lZ G L xs) 1068 (lls i) [] S := by
  refine r_aload_n (x := 0) dL_1068 rfl rfl ?_
  refine l_arg 1 hL hi (by decide) (by decide +kernel) dL_1069 dL_1070 dL_1071 dL_1072 dL_1073 ?_
  refine r_callV (h := 5) (As := [.int (xs (i + 1))]) (st := []) okX11_fit mlL_157 ov_c0 (by decide) rfl dL_1074 rfl (Nat.le_of_ble_eq_true rfl) ⟨Nat.le_of_ble_eq_true rfl, Nat.le_of_ble_eq_true rfl⟩ ⟨hc, hs⟩ rfl (pb_fit hI hY) (fun r S1 hE => ?_)
  refine r_aload_n (x := 412) dL_1077 rfl rfl ?_
  refine l_arg 1 hL hi (by decide) (by decide +kernel) dL_1078 dL_1079 dL_1080 dL_1081 dL_1082 ?_
  refine r_callV (h := 6) (As := [.int (xs (i + 1))]) (st := [.int r]) okX12_fit mlL_160 ov_c412 (by decide) rfl dL_1083 rfl (Nat.le_of_ble_eq_true rfl) ⟨Nat.le_of_ble_eq_true rfl, Nat.le_of_ble_eq_true rfl⟩ ⟨hc, hs⟩ rfl hE (fun r2 S2 hq => ?_)
  show RW G (mL nm) room_1 cells slots (lZ G L xs) 1086 (lls i) [.int r2, .int r] S2
  refine r_icmp_eq dL_1086 (tgt := 1302) (by decide) (fun _ => tl S2 hq.2) (fun z => absurd hq.1.symm z)
theorem lc_35 {G : ovG} {nm : String} {cells slots : Nat} {S : ovS} {L i n m : Nat} {xs : Nat → Int32} (hL : L ≤ 3072) (hi : i + 6 ≤ L) (hc : cells ≤ 600000) (hs : slots ≤ 7302250) (hI : IC S n m) (hY : Ly S n) (tl : ∀ S1 : ovS, Inv S1 → RW G (mL nm) room_1 cells slots (lZ G L xs) 1302 (lls i) [] S1) : RW G (mL nm) room_1 cells slots (lZ G L xs) 1091 (lls i) [] S := by
  refine r_aload_n (x := 0) dL_1091 rfl rfl ?_
  refine l_arg 1 hL hi (by decide) (by decide +kernel) dL_1092 dL_1093 dL_1094 dL_1095 dL_1096 ?_
  refine r_callV (h := 5) (As := [.int (xs (i + 1))]) (st := []) okX11_sets mlL_161 ov_c0 (by decide) rfl dL_1097 rfl (Nat.le_of_ble_eq_true rfl) ⟨Nat.le_of_ble_eq_true rfl, Nat.le_of_ble_eq_true rfl⟩ ⟨hc, hs⟩ rfl (pb_sets hI hY) (fun r S1 hE => ?_)
  refine r_aload_n (x := 412) dL_1100 rfl rfl ?_
  refine l_arg 1 hL hi (by decide) (by decide +kernel) dL_1101 dL_1102 dL_1103 dL_1104 dL_1105 ?_
  refine r_callV (h := 6) (As := [.int (xs (i + 1))]) (st := [.int r]) okX12_sets mlL_164 ov_c412 (by decide) rfl dL_1106 rfl (Nat.le_of_ble_eq_true rfl) ⟨Nat.le_of_ble_eq_true rfl, Nat.le_of_ble_eq_true rfl⟩ ⟨hc, hs⟩ rfl hE (fun r2 S2 hq => ?_)
  show RW G (mL nm) room_1 cells slots (lZ G L xs) 1109 (lls i) [.int r2, .int r] S2
  refine r_icmp_eq dL_1109 (tgt := 1302) (by decide) (fun _ => tl S2 hq.2) (fun z => absurd hq.1.symm z)
theorem lc_36 {G : ovG} {nm : String} {cells slots : Nat} {S : ovS} {L i n m : Nat} {xs : Nat → Int32} (hL : L ≤ 3072) (hi : i + 6 ≤ L) (hc : cells ≤ 600000) (hs : slots ≤ 7302250) (hI : IC S n m) (hY : Ly S n) (tl : ∀ S1 : ovS, Inv S1 → RW G (mL nm) room_1 cells slots (lZ G L xs) 1302 (lls i) [] S1) : RW G (mL nm) room_1 cells slots (lZ G L xs) 1114 (lls i) [] S := by
  refine r_aload_n (x := 0) dL_1114 rfl rfl ?_
  refine l_arg 1 hL hi (by decide) (by decide +kernel) dL_1115 dL_1116 dL_1117 dL_1118 dL_1119 ?_
  refine l_arg 2 hL hi (by decide) (by decide +kernel) dL_1120 dL_1121 dL_1122 dL_1123 dL_1124 ?_
  refine r_callV (h := 6) (As := [.int (xs (i + 1)), .int (xs (i + 2))]) (st := []) okX11_sure mlL_165 ov_c0 (by decide) rfl dL_1125 rfl (Nat.le_of_ble_eq_true rfl) ⟨Nat.le_of_ble_eq_true rfl, Nat.le_of_ble_eq_true rfl⟩ ⟨hc, hs⟩ rfl (pb_sure hI hY) (fun r S1 hE => ?_)
  refine r_aload_n (x := 412) dL_1128 rfl rfl ?_
  refine l_arg 1 hL hi (by decide) (by decide +kernel) dL_1129 dL_1130 dL_1131 dL_1132 dL_1133 ?_
  refine l_arg 2 hL hi (by decide) (by decide +kernel) dL_1134 dL_1135 dL_1136 dL_1137 dL_1138 ?_
  refine r_callV (h := 6) (As := [.int (xs (i + 1)), .int (xs (i + 2))]) (st := [.int r]) okX12_sure mlL_168 ov_c412 (by decide) rfl dL_1139 rfl (Nat.le_of_ble_eq_true rfl) ⟨Nat.le_of_ble_eq_true rfl, Nat.le_of_ble_eq_true rfl⟩ ⟨hc, hs⟩ rfl hE (fun r2 S2 hq => ?_)
  show RW G (mL nm) room_1 cells slots (lZ G L xs) 1142 (lls i) [.int r2, .int r] S2
  refine r_icmp_eq dL_1142 (tgt := 1302) (by decide) (fun _ => tl S2 hq.2) (fun z => absurd hq.1.symm z)
theorem lc_37 {G : ovG} {nm : String} {cells slots : Nat} {S : ovS} {L i n m : Nat} {xs : Nat → Int32} (hL : L ≤ 3072) (hi : i + 6 ≤ L) (hc : cells ≤ 600000) (hs : slots ≤ 7302250) (hI : IC S n m) (hY : Ly S n) (tl : ∀ S1 : ovS, Inv S1 → RW G (mL nm) room_1 cells slots (lZ G L xs) 1302 (lls i) [] S1) : RW G (mL nm) room_1 cells slots (lZ G L xs) 1147 (lls i) [] S := by
  refine r_aload_n (x := 0) dL_1147 rfl rfl ?_
  refine l_arg 1 hL hi (by decide) (by decide +kernel) dL_1148 dL_1149 dL_1150 dL_1151 dL_1152 ?_
  refine l_arg 2 hL hi (by decide) (by decide +kernel) dL_1153 dL_1154 dL_1155 dL_1156 dL_1157 ?_
  refine l_arg 3 hL hi (by decide) (by decide +kernel) dL_1158 dL_1159 dL_1160 dL_1161 dL_1162 ?_
  refine l_arg 4 hL hi (by decide) (by decide +kernel) dL_1163 dL_1164 dL_1165 dL_1166 dL_1167 ?_
  refine r_callV (h := 6) (As := [.int (xs (i + 1)), .int (xs (i + 2)), .int (xs (i + 3)), .int (xs (i + 4))]) (st := []) okX11_ask mlL_169 ov_c0 (by decide) rfl dL_1168 rfl (Nat.le_of_ble_eq_true rfl) ⟨Nat.le_of_ble_eq_true rfl, Nat.le_of_ble_eq_true rfl⟩ ⟨hc, hs⟩ rfl (pb_ask hI hY) (fun r S1 hE => ?_)
  refine r_aload_n (x := 412) dL_1171 rfl rfl ?_
  refine l_arg 1 hL hi (by decide) (by decide +kernel) dL_1172 dL_1173 dL_1174 dL_1175 dL_1176 ?_
  refine l_arg 2 hL hi (by decide) (by decide +kernel) dL_1177 dL_1178 dL_1179 dL_1180 dL_1181 ?_
  refine l_arg 3 hL hi (by decide) (by decide +kernel) dL_1182 dL_1183 dL_1184 dL_1185 dL_1186 ?_
  refine l_arg 4 hL hi (by decide) (by decide +kernel) dL_1187 dL_1188 dL_1189 dL_1190 dL_1191 ?_
  refine r_callV (h := 6) (As := [.int (xs (i + 1)), .int (xs (i + 2)), .int (xs (i + 3)), .int (xs (i + 4))]) (st := [.int r]) okX12_ask mlL_172 ov_c412 (by decide) rfl dL_1192 rfl (Nat.le_of_ble_eq_true rfl) ⟨Nat.le_of_ble_eq_true rfl, Nat.le_of_ble_eq_true rfl⟩ ⟨hc, hs⟩ rfl hE (fun r2 S2 hq => ?_)
  show RW G (mL nm) room_1 cells slots (lZ G L xs) 1195 (lls i) [.int r2, .int r] S2
  refine r_icmp_eq dL_1195 (tgt := 1302) (by decide) (fun _ => tl S2 hq.2) (fun z => absurd hq.1.symm z)
theorem lc_38 {G : ovG} {nm : String} {cells slots : Nat} {S : ovS} {L i n m : Nat} {xs : Nat → Int32} (hL : L ≤ 3072) (hi : i + 6 ≤ L) (hc : cells ≤ 600000) (hs : slots ≤ 7302250) (hI : IC S n m) (hY : Ly S n) (tl : ∀ S1 : ovS, Inv S1 → RW G (mL nm) room_1 cells slots (lZ G L xs) 1302 (lls i) [] S1) : RW G (mL nm) room_1 cells slots (lZ G L xs) 1200 (lls i) [] S := by
  refine r_aload_n (x := 0) dL_1200 rfl rfl ?_
  refine l_arg 1 hL hi (by decide) (by decide +kernel) dL_1201 dL_1202 dL_1203 dL_1204 dL_1205 ?_
  refine l_arg 2 hL hi (by decide) (by decide +kernel) dL_1206 dL_1207 dL_1208 dL_1209 dL_1210 ?_
  refine r_callV (h := 43) (As := [.int (xs (i + 1)), .int (xs (i + 2))]) (st := []) okX11_course mlL_173 ov_c0 (by decide) rfl dL_1211 rfl (Nat.le_of_ble_eq_true rfl) ⟨Nat.le_of_ble_eq_true rfl, Nat.le_of_ble_eq_true rfl⟩ ⟨hc, hs⟩ rfl (pb_course hI hY) (fun r S1 hE => ?_)
  refine r_aload_n (x := 412) dL_1214 rfl rfl ?_
  refine l_arg 1 hL hi (by decide) (by decide +kernel) dL_1215 dL_1216 dL_1217 dL_1218 dL_1219 ?_
  refine l_arg 2 hL hi (by decide) (by decide +kernel) dL_1220 dL_1221 dL_1222 dL_1223 dL_1224 ?_
  refine r_callV (h := 6) (As := [.int (xs (i + 1)), .int (xs (i + 2))]) (st := [.int r]) okX12_course mlL_176 ov_c412 (by decide) rfl dL_1225 rfl (Nat.le_of_ble_eq_true rfl) ⟨Nat.le_of_ble_eq_true rfl, Nat.le_of_ble_eq_true rfl⟩ ⟨hc, hs⟩ rfl hE (fun r2 S2 hq => ?_)
  show RW G (mL nm) room_1 cells slots (lZ G L xs) 1228 (lls i) [.int r2, .int r] S2
  refine r_icmp_eq dL_1228 (tgt := 1302) (by decide) (fun _ => tl S2 hq.2) (fun z => absurd hq.1.symm z)
theorem lc_39 {G : ovG} {nm : String} {cells slots : Nat} {S : ovS} {L i n m : Nat} {xs : Nat → Int32} (hL : L ≤ 3072) (hi : i + 6 ≤ L) (hc : cells ≤ 600000) (hs : slots ≤ 7302250) (hI : IC S n m) (hY : Ly S n) (tl : ∀ S1 : ovS, Inv S1 → RW G (mL nm) room_1 cells slots (lZ G L xs) 1302 (lls i) [] S1) : RW G (mL nm) room_1 cells slots (lZ G L xs) 1233 (lls i) [] S := by
  refine r_aload_n (x := 0) dL_1233 rfl rfl ?_
  refine l_arg 1 hL hi (by decide) (by decide +kernel) dL_1234 dL_1235 dL_1236 dL_1237 dL_1238 ?_
  refine r_callV (h := 3) (As := [.int (xs (i + 1))]) (st := []) okX11_image mlL_177 ov_c0 (by decide) rfl dL_1239 rfl (Nat.le_of_ble_eq_true rfl) ⟨Nat.le_of_ble_eq_true rfl, Nat.le_of_ble_eq_true rfl⟩ ⟨hc, hs⟩ rfl (pb_image hI hY) (fun r S1 hE => ?_)
  refine r_aload_n (x := 412) dL_1242 rfl rfl ?_
  refine l_arg 1 hL hi (by decide) (by decide +kernel) dL_1243 dL_1244 dL_1245 dL_1246 dL_1247 ?_
  refine r_callV (h := 2) (As := [.int (xs (i + 1))]) (st := [.int r]) okX12_image mlL_180 ov_c412 (by decide) rfl dL_1248 rfl (Nat.le_of_ble_eq_true rfl) ⟨Nat.le_of_ble_eq_true rfl, Nat.le_of_ble_eq_true rfl⟩ ⟨hc, hs⟩ rfl hE (fun r2 S2 hq => ?_)
  show RW G (mL nm) room_1 cells slots (lZ G L xs) 1251 (lls i) [.int r2, .int r] S2
  refine r_icmp_eq dL_1251 (tgt := 1302) (by decide) (fun _ => tl S2 hq.2) (fun z => absurd hq.1.symm z)
theorem lc_40 {G : ovG} {nm : String} {cells slots : Nat} {S : ovS} {L i n m : Nat} {xs : Nat → Int32} (hL : L ≤ 3072) (hi : i + 6 ≤ L) (hc : cells ≤ 600000) (hs : slots ≤ 7302250) (hI : IC S n m) (hY : Ly S n) (tl : ∀ S1 : ovS, Inv S1 → RW G (mL nm) room_1 cells slots (lZ G L xs) 1302 (lls i) [] S1) : RW G (mL nm) room_1 cells slots (lZ G L xs) 1256 (lls i) [] S := by
  refine r_aload_n (x := 0) dL_1256 rfl rfl ?_
  refine l_arg 1 hL hi (by decide) (by decide +kernel) dL_1257 dL_1258 dL_1259 dL_1260 dL_1261 ?_
  refine r_callV (h := 4) (As := [.int (xs (i + 1))]) (st := []) okX11_back mlL_181 ov_c0 (by decide) rfl dL_1262 rfl (Nat.le_of_ble_eq_true rfl) ⟨Nat.le_of_ble_eq_true rfl, Nat.le_of_ble_eq_true rfl⟩ ⟨hc, hs⟩ rfl (pb_back hI hY) (fun r S1 hE => ?_)
  refine r_aload_n (x := 412) dL_1265 rfl rfl ?_
  refine l_arg 1 hL hi (by decide) (by decide +kernel) dL_1266 dL_1267 dL_1268 dL_1269 dL_1270 ?_
  refine r_callV (h := 2) (As := [.int (xs (i + 1))]) (st := [.int r]) okX12_back mlL_184 ov_c412 (by decide) rfl dL_1271 rfl (Nat.le_of_ble_eq_true rfl) ⟨Nat.le_of_ble_eq_true rfl, Nat.le_of_ble_eq_true rfl⟩ ⟨hc, hs⟩ rfl hE (fun r2 S2 hq => ?_)
  show RW G (mL nm) room_1 cells slots (lZ G L xs) 1274 (lls i) [.int r2, .int r] S2
  refine r_icmp_eq dL_1274 (tgt := 1302) (by decide) (fun _ => tl S2 hq.2) (fun z => absurd hq.1.symm z)
theorem lc_41 {G : ovG} {nm : String} {cells slots : Nat} {S : ovS} {L i n m : Nat} {xs : Nat → Int32} (hL : L ≤ 3072) (hi : i + 6 ≤ L) (hc : cells ≤ 600000) (hs : slots ≤ 7302250) (hI : IC S n m) (hY : Ly S n) (tl : ∀ S1 : ovS, Inv S1 → RW G (mL nm) room_1 cells slots (lZ G L xs) 1302 (lls i) [] S1) : RW G (mL nm) room_1 cells slots (lZ G L xs) 1279 (lls i) [] S := by
  refine r_aload_n (x := 0) dL_1279 rfl rfl ?_
  refine l_arg 1 hL hi (by decide) (by decide +kernel) dL_1280 dL_1281 dL_1282 dL_1283 dL_1284 ?_
  refine r_callV (h := 3) (As := [.int (xs (i + 1))]) (st := []) okX11_about mlL_185 ov_c0 (by decide) rfl dL_1285 rfl (Nat.le_of_ble_eq_true rfl) ⟨Nat.le_of_ble_eq_true rfl, Nat.le_of_ble_eq_true rfl⟩ ⟨hc, hs⟩ rfl (pb_about hI hY) (fun r S1 hE => ?_)
  refine r_aload_n (x := 412) dL_1288 rfl rfl ?_
  refine l_arg 1 hL hi (by decide) (by decide +kernel) dL_1289 dL_1290 dL_1291 dL_1292 dL_1293 ?_
  refine r_callV (h := 3) (As := [.int (xs (i + 1))]) (st := [.int r]) okX12_about mlL_188 ov_c412 (by decide) rfl dL_1294 rfl (Nat.le_of_ble_eq_true rfl) ⟨Nat.le_of_ble_eq_true rfl, Nat.le_of_ble_eq_true rfl⟩ ⟨hc, hs⟩ rfl hE (fun r2 S2 hq => ?_)
  show RW G (mL nm) room_1 cells slots (lZ G L xs) 1297 (lls i) [.int r2, .int r] S2
  refine r_icmp_eq dL_1297 (tgt := 1302) (by decide) (fun _ => tl S2 hq.2) (fun z => absurd hq.1.symm z)
