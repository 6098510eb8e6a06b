/-! The law's cases: printed by mklaw.py. -/
section Lc
variable {E : EE} {b L : Nat} {xs : Nat → Int32} {cl sl : Nat} {mem : Mm} {f : Int → Int → Int → Int} {i : Int}
/-- where a case goes on -/
def Nx (E : EE) (b L : Nat) (xs : Nat → Int32) (cl sl : Nat) (i : Int) : Prop := ∀ (f' : Int → Int → Int → Int) (m' : Mm) (cl' sl' : Nat), cl' ≤ cl + 1 → sl' ≤ sl + 6 → RR f' m' m' → RL E b L xs cl' sl' 1245 (LV i) [] m'

theorem case_0 (hL : L ≤ 3584) (h0 : 0 ≤ i) (h1 : i + 6 < L) (hc : cl + 1 ≤ 601024) (hsl : sl + 6 ≤ 7293034) (hst : (eL E).stackTraces = false) (hR : RR f mem mem) (K : Nx E b L xs cl sl i) : RL E b L xs cl sl 168 (LV i) [] mem := by
  obtain ⟨r, m1, m2, f2, g1, g2, hR2⟩ := call_feed hR (lor (lshl (X xs i 1) (32)) (land (X xs i 2) (4294967295))) (lor (lshl (X xs i 3) (32)) (land (X xs i 4) (4294967295))) (lor (lshl (X xs i 5) (32)) (land (X xs i 6) (4294967295)))
  refine RG_aload_n dl_168 rfl rfl ?_
  refine RL_arg (k := 1) h0 (by decide) h1 hL rfl rfl dl_169 dl_170 dl_172 dl_173 dl_174 ?_
  refine RG_i2l dl_175 ?_
  refine RG_bipush dl_176 ?_
  refine RG_lshl dl_178 ?_
  refine RL_arg (k := 2) h0 (by decide) h1 hL rfl rfl dl_179 dl_180 dl_182 dl_183 dl_184 ?_
  refine RG_i2l dl_185 ?_
  refine RG_ldc2 (x := 4294967295) c2_law ⟨rfl, by decide, by decide⟩ dl_186 ?_
  refine RG_land dl_189 ?_
  refine RG_lor dl_190 ?_
  refine RL_arg (k := 3) h0 (by decide) h1 hL rfl rfl dl_191 dl_192 dl_194 dl_195 dl_196 ?_
  refine RG_i2l dl_197 ?_
  refine RG_bipush dl_198 ?_
  refine RG_lshl dl_200 ?_
  refine RL_arg (k := 4) h0 (by decide) h1 hL rfl rfl dl_201 dl_202 dl_204 dl_205 dl_206 ?_
  refine RG_i2l dl_207 ?_
  refine RG_ldc2 (x := 4294967295) c2_law ⟨rfl, by decide, by decide⟩ dl_208 ?_
  refine RG_land dl_211 ?_
  refine RG_lor dl_212 ?_
  refine RL_arg (k := 5) h0 (by decide) h1 hL rfl rfl dl_213 dl_214 dl_216 dl_217 dl_218 ?_
  refine RG_i2l dl_219 ?_
  refine RG_bipush dl_220 ?_
  refine RG_lshl dl_222 ?_
  refine RL_arg6 h0 h1 hL rfl rfl dl_223 dl_224 dl_226 dl_228 dl_229 ?_
  refine RG_i2l dl_230 ?_
  refine RG_ldc2 (x := 4294967295) c2_law ⟨rfl, by decide, by decide⟩ dl_231 ?_
  refine RG_land dl_234 ?_
  refine RG_lor dl_235 ?_
  refine RG_callVT (As := [vl (lor (lshl (X xs i 1) (32)) (land (X xs i 2) (4294967295))), vl (lor (lshl (X xs i 3) (32)) (land (X xs i 4) (4294967295))), vl (lor (lshl (X xs i 5) (32)) (land (X xs i 6) (4294967295)))]) (rest := []) (a := 0) wmi_Clock_feed wmv_Clock_feed wml_21 rfl (room_law (by omega) (by omega)) rfl (Nat.le_of_ble_eq_true rfl) dl_236 (pf_Clock_feed _ _ _ _ g1) (fun _ => ?_)
  refine RG_aload_n dl_239 rfl rfl ?_
  refine RL_arg (k := 1) h0 (by decide) h1 hL rfl rfl dl_240 dl_241 dl_243 dl_244 dl_245 ?_
  refine RG_i2l dl_246 ?_
  refine RG_bipush dl_247 ?_
  refine RG_lshl dl_249 ?_
  refine RL_arg (k := 2) h0 (by decide) h1 hL rfl rfl dl_250 dl_251 dl_253 dl_254 dl_255 ?_
  refine RG_i2l dl_256 ?_
  refine RG_ldc2 (x := 4294967295) c2_law ⟨rfl, by decide, by decide⟩ dl_257 ?_
  refine RG_land dl_260 ?_
  refine RG_lor dl_261 ?_
  refine RL_arg (k := 3) h0 (by decide) h1 hL rfl rfl dl_262 dl_263 dl_265 dl_266 dl_267 ?_
  refine RG_i2l dl_268 ?_
  refine RG_bipush dl_269 ?_
  refine RG_lshl dl_271 ?_
  refine RL_arg (k := 4) h0 (by decide) h1 hL rfl rfl dl_272 dl_273 dl_275 dl_276 dl_277 ?_
  refine RG_i2l dl_278 ?_
  refine RG_ldc2 (x := 4294967295) c2_law ⟨rfl, by decide, by decide⟩ dl_279 ?_
  refine RG_land dl_282 ?_
  refine RG_lor dl_283 ?_
  refine RL_arg (k := 5) h0 (by decide) h1 hL rfl rfl dl_284 dl_285 dl_287 dl_288 dl_289 ?_
  refine RG_i2l dl_290 ?_
  refine RG_bipush dl_291 ?_
  refine RG_lshl dl_293 ?_
  refine RL_arg6 h0 h1 hL rfl rfl dl_294 dl_295 dl_297 dl_299 dl_300 ?_
  refine RG_i2l dl_301 ?_
  refine RG_ldc2 (x := 4294967295) c2_law ⟨rfl, by decide, by decide⟩ dl_302 ?_
  refine RG_land dl_305 ?_
  refine RG_lor dl_306 ?_
  refine RG_callVT (As := [vl (lor (lshl (X xs i 1) (32)) (land (X xs i 2) (4294967295))), vl (lor (lshl (X xs i 3) (32)) (land (X xs i 4) (4294967295))), vl (lor (lshl (X xs i 5) (32)) (land (X xs i 6) (4294967295)))]) (rest := [vi r]) (a := 203) wmi_Model_feed wmv_Model_feed wml_25 rfl (room_law (by omega) (by omega)) rfl (Nat.le_of_ble_eq_true rfl) dl_307 (pf_Model_feed _ _ _ _ g2) (fun _ => ?_)
  refine RG_eqT (tgt := 1245) rfl dl_310 rfl ?_
  exact K _ _ _ _ (by omega) (by omega) hR2
theorem case_1 (hL : L ≤ 3584) (h0 : 0 ≤ i) (h1 : i + 6 < L) (hc : cl + 1 ≤ 601024) (hsl : sl + 6 ≤ 7293034) (hst : (eL E).stackTraces = false) (hR : RR f mem mem) (K : Nx E b L xs cl sl i) : RL E b L xs cl sl 315 (LV i) [] mem := by
  obtain ⟨r, m1, m2, f2, g1, g2, hR2⟩ := call_hills hR 
  refine RG_aload_n dl_315 rfl rfl ?_
  refine RG_callVT (As := []) (rest := []) (a := 0) wmi_Clock_hills wmv_Clock_hills wml_26 rfl (room_law (by omega) (by omega)) rfl (Nat.le_of_ble_eq_true rfl) dl_316 (pf_Clock_hills _ g1) (fun _ => ?_)
  refine RG_aload_n dl_319 rfl rfl ?_
  refine RG_callVT (As := []) (rest := [vi r]) (a := 203) wmi_Model_hills wmv_Model_hills wml_30 rfl (room_law (by omega) (by omega)) rfl (Nat.le_of_ble_eq_true rfl) dl_320 (pf_Model_hills _ g2) (fun _ => ?_)
  refine RG_eqT (tgt := 1245) rfl dl_323 rfl ?_
  exact K _ _ _ _ (by omega) (by omega) hR2
theorem case_2 (hL : L ≤ 3584) (h0 : 0 ≤ i) (h1 : i + 6 < L) (hc : cl + 1 ≤ 601024) (hsl : sl + 6 ≤ 7293034) (hst : (eL E).stackTraces = false) (hR : RR f mem mem) (K : Nx E b L xs cl sl i) : RL E b L xs cl sl 328 (LV i) [] mem := by
  obtain ⟨r, m1, m2, f2, g1, g2, hR2⟩ := call_days hR 
  refine RG_aload_n dl_328 rfl rfl ?_
  refine RG_callVT (As := []) (rest := []) (a := 0) wmi_Clock_days wmv_Clock_days wml_31 rfl (room_law (by omega) (by omega)) rfl (Nat.le_of_ble_eq_true rfl) dl_329 (pf_Clock_days _ g1) (fun _ => ?_)
  refine RG_aload_n dl_332 rfl rfl ?_
  refine RG_callVT (As := []) (rest := [vi r]) (a := 203) wmi_Model_days wmv_Model_days wml_34 rfl (room_law (by omega) (by omega)) rfl (Nat.le_of_ble_eq_true rfl) dl_333 (pf_Model_days _ g2) (fun _ => ?_)
  refine RG_eqT (tgt := 1245) rfl dl_336 rfl ?_
  exact K _ _ _ _ (by omega) (by omega) hR2
theorem case_3 (hL : L ≤ 3584) (h0 : 0 ≤ i) (h1 : i + 6 < L) (hc : cl + 1 ≤ 601024) (hsl : sl + 6 ≤ 7293034) (hst : (eL E).stackTraces = false) (hR : RR f mem mem) (K : Nx E b L xs cl sl i) : RL E b L xs cl sl 341 (LV i) [] mem := by
  obtain ⟨r, m1, m2, f2, g1, g2, hR2⟩ := call_way hR (X xs i 1) (X xs i 2)
  refine RG_aload_n dl_341 rfl rfl ?_
  refine RL_arg (k := 1) h0 (by decide) h1 hL rfl rfl dl_342 dl_343 dl_345 dl_346 dl_347 ?_
  refine RL_arg (k := 2) h0 (by decide) h1 hL rfl rfl dl_348 dl_349 dl_351 dl_352 dl_353 ?_
  refine RG_callVT (As := [vi (X xs i 1), vi (X xs i 2)]) (rest := []) (a := 0) wmi_Clock_way wmv_Clock_way wml_35 rfl (room_law (by omega) (by omega)) rfl (Nat.le_of_ble_eq_true rfl) dl_354 (pf_Clock_way _ _ _ g1) (fun _ => ?_)
  refine RG_aload_n dl_357 rfl rfl ?_
  refine RL_arg (k := 1) h0 (by decide) h1 hL rfl rfl dl_358 dl_359 dl_361 dl_362 dl_363 ?_
  refine RL_arg (k := 2) h0 (by decide) h1 hL rfl rfl dl_364 dl_365 dl_367 dl_368 dl_369 ?_
  refine RG_callVT (As := [vi (X xs i 1), vi (X xs i 2)]) (rest := [vi r]) (a := 203) wmi_Model_way wmv_Model_way wml_39 rfl (room_law (by omega) (by omega)) rfl (Nat.le_of_ble_eq_true rfl) dl_370 (pf_Model_way _ _ _ g2) (fun _ => ?_)
  refine RG_eqT (tgt := 1245) rfl dl_373 rfl ?_
  exact K _ _ _ _ (by omega) (by omega) hR2
theorem case_4 (hL : L ≤ 3584) (h0 : 0 ≤ i) (h1 : i + 6 < L) (hc : cl + 1 ≤ 601024) (hsl : sl + 6 ≤ 7293034) (hst : (eL E).stackTraces = false) (hR : RR f mem mem) (K : Nx E b L xs cl sl i) : RL E b L xs cl sl 378 (LV i) [] mem := by
  obtain ⟨r, m1, m2, f2, g1, g2, hR2⟩ := call_walker hR (X xs i 1) (X xs i 2) (okI_x32 _)
  refine RG_aload_n dl_378 rfl rfl ?_
  refine RL_arg (k := 1) h0 (by decide) h1 hL rfl rfl dl_379 dl_380 dl_382 dl_383 dl_384 ?_
  refine RL_arg (k := 2) h0 (by decide) h1 hL rfl rfl dl_385 dl_386 dl_388 dl_389 dl_390 ?_
  refine RG_callVT (As := [vi (X xs i 1), vi (X xs i 2)]) (rest := []) (a := 0) wmi_Clock_walker wmv_Clock_walker wml_40 rfl (room_law (by omega) (by omega)) rfl (Nat.le_of_ble_eq_true rfl) dl_391 (pf_Clock_walker _ _ _ g1) (fun _ => ?_)
  refine RG_aload_n dl_394 rfl rfl ?_
  refine RL_arg (k := 1) h0 (by decide) h1 hL rfl rfl dl_395 dl_396 dl_398 dl_399 dl_400 ?_
  refine RL_arg (k := 2) h0 (by decide) h1 hL rfl rfl dl_401 dl_402 dl_404 dl_405 dl_406 ?_
  refine RG_callVT (As := [vi (X xs i 1), vi (X xs i 2)]) (rest := [vi r]) (a := 203) wmi_Model_walker wmv_Model_walker wml_43 rfl (room_law (by omega) (by omega)) rfl (Nat.le_of_ble_eq_true rfl) dl_407 (pf_Model_walker _ _ _ g2) (fun _ => ?_)
  refine RG_eqT (tgt := 1245) rfl dl_410 rfl ?_
  exact K _ _ _ _ (by omega) (by omega) hR2
theorem case_5 (hL : L ≤ 3584) (h0 : 0 ≤ i) (h1 : i + 6 < L) (hc : cl + 1 ≤ 601024) (hsl : sl + 6 ≤ 7293034) (hst : (eL E).stackTraces = false) (hR : RR f mem mem) (K : Nx E b L xs cl sl i) : RL E b L xs cl sl 415 (LV i) [] mem := by
  obtain ⟨r, m1, m2, f2, g1, g2, hR2⟩ := call_where hR (X xs i 1) (X xs i 2)
  refine RG_aload_n dl_415 rfl rfl ?_
  refine RL_arg (k := 1) h0 (by decide) h1 hL rfl rfl dl_416 dl_417 dl_419 dl_420 dl_421 ?_
  refine RL_arg (k := 2) h0 (by decide) h1 hL rfl rfl dl_422 dl_423 dl_425 dl_426 dl_427 ?_
  refine RG_callVT (As := [vi (X xs i 1), vi (X xs i 2)]) (rest := []) (a := 0) wmi_Clock_where wmv_Clock_where wml_44 rfl (room_law (by omega) (by omega)) rfl (Nat.le_of_ble_eq_true rfl) dl_428 (pf_Clock_where _ _ _ g1) (fun _ => ?_)
  refine RG_aload_n dl_431 rfl rfl ?_
  refine RL_arg (k := 1) h0 (by decide) h1 hL rfl rfl dl_432 dl_433 dl_435 dl_436 dl_437 ?_
  refine RL_arg (k := 2) h0 (by decide) h1 hL rfl rfl dl_438 dl_439 dl_441 dl_442 dl_443 ?_
  refine RG_callVT (As := [vi (X xs i 1), vi (X xs i 2)]) (rest := [vi r]) (a := 203) wmi_Model_where wmv_Model_where wml_47 rfl (room_law (by omega) (by omega)) rfl (Nat.le_of_ble_eq_true rfl) dl_444 (pf_Model_where _ _ _ g2) (fun _ => ?_)
  refine RG_eqT (tgt := 1245) rfl dl_447 rfl ?_
  exact K _ _ _ _ (by omega) (by omega) hR2
theorem case_6 (hL : L ≤ 3584) (h0 : 0 ≤ i) (h1 : i + 6 < L) (hc : cl + 1 ≤ 601024) (hsl : sl + 6 ≤ 7293034) (hst : (eL E).stackTraces = false) (hR : RR f mem mem) (K : Nx E b L xs cl sl i) : RL E b L xs cl sl 452 (LV i) [] mem := by
  obtain ⟨r, m1, m2, f2, g1, g2, hR2⟩ := call_hour hR (X xs i 1) (X xs i 2)
  refine RG_aload_n dl_452 rfl rfl ?_
  refine RL_arg (k := 1) h0 (by decide) h1 hL rfl rfl dl_453 dl_454 dl_456 dl_457 dl_458 ?_
  refine RL_arg (k := 2) h0 (by decide) h1 hL rfl rfl dl_459 dl_460 dl_462 dl_463 dl_464 ?_
  refine RG_callVT (As := [vi (X xs i 1), vi (X xs i 2)]) (rest := []) (a := 0) wmi_Clock_hour wmv_Clock_hour wml_48 rfl (room_law (by omega) (by omega)) rfl (Nat.le_of_ble_eq_true rfl) dl_465 (pf_Clock_hour _ _ _ g1) (fun _ => ?_)
  refine RG_aload_n dl_468 rfl rfl ?_
  refine RL_arg (k := 1) h0 (by decide) h1 hL rfl rfl dl_469 dl_470 dl_472 dl_473 dl_474 ?_
  refine RL_arg (k := 2) h0 (by decide) h1 hL rfl rfl dl_475 dl_476 dl_478 dl_479 dl_480 ?_
  refine RG_callVT (As := [vi (X xs i 1), vi (X xs i 2)]) (rest := [vi r]) (a := 203) wmi_Model_hour wmv_Model_hour wml_51 rfl (room_law (by omega) (by omega)) rfl (Nat.le_of_ble_eq_true rfl) dl_481 (pf_Model_hour _ _ _ g2) (fun _ => ?_)
  refine RG_eqT (tgt := 1245) rfl dl_484 rfl ?_
  exact K _ _ _ _ (by omega) (by omega) hR2
theorem case_7 (hL : L ≤ 3584) (h0 : 0 ≤ i) (h1 : i + 6 < L) (hc : cl + 1 ≤ 601024) (hsl : sl + 6 ≤ 7293034) (hst : (eL E).stackTraces = false) (hR : RR f mem mem) (K : Nx E b L xs cl sl i) : RL E b L xs cl sl 489 (LV i) [] mem := by
  obtain ⟨r, m1, m2, f2, g1, g2, hR2⟩ := call_meet hR (X xs i 1) (X xs i 2) (X xs i 3)
  refine RG_aload_n dl_489 rfl rfl ?_
  refine RL_arg (k := 1) h0 (by decide) h1 hL rfl rfl dl_490 dl_491 dl_493 dl_494 dl_495 ?_
  refine RL_arg (k := 2) h0 (by decide) h1 hL rfl rfl dl_496 dl_497 dl_499 dl_500 dl_501 ?_
  refine RL_arg (k := 3) h0 (by decide) h1 hL rfl rfl dl_502 dl_503 dl_505 dl_506 dl_507 ?_
  refine RG_callVT (As := [vi (X xs i 1), vi (X xs i 2), vi (X xs i 3)]) (rest := []) (a := 0) wmi_Clock_meet wmv_Clock_meet wml_52 rfl (room_law (by omega) (by omega)) rfl (Nat.le_of_ble_eq_true rfl) dl_508 (pf_Clock_meet _ _ _ _ g1) (fun _ => ?_)
  refine RG_aload_n dl_511 rfl rfl ?_
  refine RL_arg (k := 1) h0 (by decide) h1 hL rfl rfl dl_512 dl_513 dl_515 dl_516 dl_517 ?_
  refine RL_arg (k := 2) h0 (by decide) h1 hL rfl rfl dl_518 dl_519 dl_521 dl_522 dl_523 ?_
  refine RL_arg (k := 3) h0 (by decide) h1 hL rfl rfl dl_524 dl_525 dl_527 dl_528 dl_529 ?_
  refine RG_callVT (As := [vi (X xs i 1), vi (X xs i 2), vi (X xs i 3)]) (rest := [vi r]) (a := 203) wmi_Model_meet wmv_Model_meet wml_56 rfl (room_law (by omega) (by omega)) rfl (Nat.le_of_ble_eq_true rfl) dl_530 (pf_Model_meet _ _ _ _ g2) (fun _ => ?_)
  refine RG_eqT (tgt := 1245) rfl dl_533 rfl ?_
  exact K _ _ _ _ (by omega) (by omega) hR2
theorem case_8 (hL : L ≤ 3584) (h0 : 0 ≤ i) (h1 : i + 6 < L) (hc : cl + 1 ≤ 601024) (hsl : sl + 6 ≤ 7293034) (hst : (eL E).stackTraces = false) (hR : RR f mem mem) (K : Nx E b L xs cl sl i) : RL E b L xs cl sl 538 (LV i) [] mem := by
  obtain ⟨r, m1, m2, f2, g1, g2, hR2⟩ := call_late hR (X xs i 1) (X xs i 2)
  refine RG_aload_n dl_538 rfl rfl ?_
  refine RL_arg (k := 1) h0 (by decide) h1 hL rfl rfl dl_539 dl_540 dl_542 dl_543 dl_544 ?_
  refine RL_arg (k := 2) h0 (by decide) h1 hL rfl rfl dl_545 dl_546 dl_548 dl_549 dl_550 ?_
  refine RG_callVT (As := [vi (X xs i 1), vi (X xs i 2)]) (rest := []) (a := 0) wmi_Clock_late wmv_Clock_late wml_57 rfl (room_law (by omega) (by omega)) rfl (Nat.le_of_ble_eq_true rfl) dl_551 (pf_Clock_late _ _ _ g1) (fun _ => ?_)
  refine RG_aload_n dl_554 rfl rfl ?_
  refine RL_arg (k := 1) h0 (by decide) h1 hL rfl rfl dl_555 dl_556 dl_558 dl_559 dl_560 ?_
  refine RL_arg (k := 2) h0 (by decide) h1 hL rfl rfl dl_561 dl_562 dl_564 dl_565 dl_566 ?_
  refine RG_callVT (As := [vi (X xs i 1), vi (X xs i 2)]) (rest := [vi r]) (a := 203) wmi_Model_late wmv_Model_late wml_61 rfl (room_law (by omega) (by omega)) rfl (Nat.le_of_ble_eq_true rfl) dl_567 (pf_Model_late _ _ _ g2) (fun _ => ?_)
  refine RG_eqT (tgt := 1245) rfl dl_570 rfl ?_
  exact K _ _ _ _ (by omega) (by omega) hR2
theorem case_9 (hL : L ≤ 3584) (h0 : 0 ≤ i) (h1 : i + 6 < L) (hc : cl + 1 ≤ 601024) (hsl : sl + 6 ≤ 7293034) (hst : (eL E).stackTraces = false) (hR : RR f mem mem) (K : Nx E b L xs cl sl i) : RL E b L xs cl sl 575 (LV i) [] mem := by
  obtain ⟨r, m1, m2, f2, g1, g2, hR2⟩ := call_dies hR (X xs i 1)
  refine RG_aload_n dl_575 rfl rfl ?_
  refine RL_arg (k := 1) h0 (by decide) h1 hL rfl rfl dl_576 dl_577 dl_579 dl_580 dl_581 ?_
  refine RG_callVT (As := [vi (X xs i 1)]) (rest := []) (a := 0) wmi_Clock_dies wmv_Clock_dies wml_62 rfl (room_law (by omega) (by omega)) rfl (Nat.le_of_ble_eq_true rfl) dl_582 (pf_Clock_dies _ _ g1) (fun _ => ?_)
  refine RG_aload_n dl_585 rfl rfl ?_
  refine RL_arg (k := 1) h0 (by decide) h1 hL rfl rfl dl_586 dl_587 dl_589 dl_590 dl_591 ?_
  refine RG_callVT (As := [vi (X xs i 1)]) (rest := [vi r]) (a := 203) wmi_Model_dies wmv_Model_dies wml_66 rfl (room_law (by omega) (by omega)) rfl (Nat.le_of_ble_eq_true rfl) dl_592 (pf_Model_dies _ _ g2) (fun _ => ?_)
  refine RG_eqT (tgt := 1245) rfl dl_595 rfl ?_
  exact K _ _ _ _ (by omega) (by omega) hR2
theorem case_10 (hL : L ≤ 3584) (h0 : 0 ≤ i) (h1 : i + 6 < L) (hc : cl + 1 ≤ 601024) (hsl : sl + 6 ≤ 7293034) (hst : (eL E).stackTraces = false) (hR : RR f mem mem) (K : Nx E b L xs cl sl i) : RL E b L xs cl sl 600 (LV i) [] mem := by
  obtain ⟨r, m1, m2, f2, g1, g2, hR2⟩ := call_deputy hR (X xs i 1) (X xs i 2)
  refine RG_aload_n dl_600 rfl rfl ?_
  refine RL_arg (k := 1) h0 (by decide) h1 hL rfl rfl dl_601 dl_602 dl_604 dl_605 dl_606 ?_
  refine RL_arg (k := 2) h0 (by decide) h1 hL rfl rfl dl_607 dl_608 dl_610 dl_611 dl_612 ?_
  refine RG_callVT (As := [vi (X xs i 1), vi (X xs i 2)]) (rest := []) (a := 0) wmi_Clock_deputy wmv_Clock_deputy wml_67 rfl (room_law (by omega) (by omega)) rfl (Nat.le_of_ble_eq_true rfl) dl_613 (pf_Clock_deputy _ _ _ g1) (fun _ => ?_)
  refine RG_aload_n dl_616 rfl rfl ?_
  refine RL_arg (k := 1) h0 (by decide) h1 hL rfl rfl dl_617 dl_618 dl_620 dl_621 dl_622 ?_
  refine RL_arg (k := 2) h0 (by decide) h1 hL rfl rfl dl_623 dl_624 dl_626 dl_627 dl_628 ?_
  refine RG_callVT (As := [vi (X xs i 1), vi (X xs i 2)]) (rest := [vi r]) (a := 203) wmi_Model_deputy wmv_Model_deputy wml_70 rfl (room_law (by omega) (by omega)) rfl (Nat.le_of_ble_eq_true rfl) dl_629 (pf_Model_deputy _ _ _ g2) (fun _ => ?_)
  refine RG_eqT (tgt := 1245) rfl dl_632 rfl ?_
  exact K _ _ _ _ (by omega) (by omega) hR2
theorem case_11 (hL : L ≤ 3584) (h0 : 0 ≤ i) (h1 : i + 6 < L) (hc : cl + 1 ≤ 601024) (hsl : sl + 6 ≤ 7293034) (hst : (eL E).stackTraces = false) (hR : RR f mem mem) (K : Nx E b L xs cl sl i) : RL E b L xs cl sl 637 (LV i) [] mem := by
  obtain ⟨r, m1, m2, f2, g1, g2, hR2⟩ := call_snow hR 
  refine RG_aload_n dl_637 rfl rfl ?_
  refine RG_callVT (As := []) (rest := []) (a := 0) wmi_Clock_snow wmv_Clock_snow wml_71 rfl (room_law (by omega) (by omega)) rfl (Nat.le_of_ble_eq_true rfl) dl_638 (pf_Clock_snow _ g1) (fun _ => ?_)
  refine RG_aload_n dl_641 rfl rfl ?_
  refine RG_callVT (As := []) (rest := [vi r]) (a := 203) wmi_Model_snow wmv_Model_snow wml_75 rfl (room_law (by omega) (by omega)) rfl (Nat.le_of_ble_eq_true rfl) dl_642 (pf_Model_snow _ g2) (fun _ => ?_)
  refine RG_eqT (tgt := 1245) rfl dl_645 rfl ?_
  exact K _ _ _ _ (by omega) (by omega) hR2
theorem case_12 (hL : L ≤ 3584) (h0 : 0 ≤ i) (h1 : i + 6 < L) (hc : cl + 1 ≤ 601024) (hsl : sl + 6 ≤ 7293034) (hst : (eL E).stackTraces = false) (hR : RR f mem mem) (K : Nx E b L xs cl sl i) : RL E b L xs cl sl 650 (LV i) [] mem := by
  obtain ⟨r, m1, m2, f2, g1, g2, hR2⟩ := call_day hR 
  refine RG_aload_n dl_650 rfl rfl ?_
  refine RG_callVT (As := []) (rest := []) (a := 0) wmi_Clock_day wmv_Clock_day wml_76 rfl (room_law (by omega) (by omega)) rfl (Nat.le_of_ble_eq_true rfl) dl_651 (pf_Clock_day _ g1) (fun _ => ?_)
  refine RG_aload_n dl_654 rfl rfl ?_
  refine RG_callVT (As := []) (rest := [vi r]) (a := 203) wmi_Model_day wmv_Model_day wml_79 rfl (room_law (by omega) (by omega)) rfl (Nat.le_of_ble_eq_true rfl) dl_655 (pf_Model_day _ g2) (fun _ => ?_)
  refine RG_eqT (tgt := 1245) rfl dl_658 rfl ?_
  exact K _ _ _ _ (by omega) (by omega) hR2
theorem case_13 (hL : L ≤ 3584) (h0 : 0 ≤ i) (h1 : i + 6 < L) (hc : cl + 1 ≤ 601024) (hsl : sl + 6 ≤ 7293034) (hst : (eL E).stackTraces = false) (hR : RR f mem mem) (K : Nx E b L xs cl sl i) : RL E b L xs cl sl 663 (LV i) [] mem := by
  obtain ⟨r, m1, m2, f2, g1, g2, hR2⟩ := call_undo hR 
  refine RG_aload_n dl_663 rfl rfl ?_
  refine RG_callVT (As := []) (rest := []) (a := 0) wmi_Clock_undo wmv_Clock_undo wml_80 rfl (room_law (by omega) (by omega)) rfl (Nat.le_of_ble_eq_true rfl) dl_664 (pf_Clock_undo _ g1) (fun _ => ?_)
  refine RG_aload_n dl_667 rfl rfl ?_
  refine RG_callVT (As := []) (rest := [vi r]) (a := 203) wmi_Model_undo wmv_Model_undo wml_83 rfl (room_law (by omega) (by omega)) rfl (Nat.le_of_ble_eq_true rfl) dl_668 (pf_Model_undo _ g2) (fun _ => ?_)
  refine RG_eqT (tgt := 1245) rfl dl_671 rfl ?_
  exact K _ _ _ _ (by omega) (by omega) hR2
theorem case_14 (hL : L ≤ 3584) (h0 : 0 ≤ i) (h1 : i + 6 < L) (hc : cl + 1 ≤ 601024) (hsl : sl + 6 ≤ 7293034) (hst : (eL E).stackTraces = false) (hR : RR f mem mem) (K : Nx E b L xs cl sl i) : RL E b L xs cl sl 676 (LV i) [] mem := by
  obtain ⟨r, m1, m2, f2, g1, g2, hR2⟩ := call_judged hR (X xs i 1)
  refine RG_aload_n dl_676 rfl rfl ?_
  refine RL_arg (k := 1) h0 (by decide) h1 hL rfl rfl dl_677 dl_678 dl_680 dl_681 dl_682 ?_
  refine RG_callVT (As := [vi (X xs i 1)]) (rest := []) (a := 0) wmi_Clock_judged wmv_Clock_judged wml_84 rfl (room_law (by omega) (by omega)) rfl (Nat.le_of_ble_eq_true rfl) dl_683 (pf_Clock_judged _ _ g1) (fun _ => ?_)
  refine RG_aload_n dl_686 rfl rfl ?_
  refine RL_arg (k := 1) h0 (by decide) h1 hL rfl rfl dl_687 dl_688 dl_690 dl_691 dl_692 ?_
  refine RG_callVT (As := [vi (X xs i 1)]) (rest := [vi r]) (a := 203) wmi_Model_judged wmv_Model_judged wml_88 rfl (room_law (by omega) (by omega)) rfl (Nat.le_of_ble_eq_true rfl) dl_693 (pf_Model_judged _ _ g2) (fun _ => ?_)
  refine RG_eqT (tgt := 1245) rfl dl_696 rfl ?_
  exact K _ _ _ _ (by omega) (by omega) hR2
theorem case_15 (hL : L ≤ 3584) (h0 : 0 ≤ i) (h1 : i + 6 < L) (hc : cl + 1 ≤ 601024) (hsl : sl + 6 ≤ 7293034) (hst : (eL E).stackTraces = false) (hR : RR f mem mem) (K : Nx E b L xs cl sl i) : RL E b L xs cl sl 701 (LV i) [] mem := by
  obtain ⟨r, m1, m2, f2, g1, g2, hR2⟩ := call_see hR (X xs i 1) (X xs i 2) (bz (X xs i 3)) (bz_01 _)
  refine RG_aload_n dl_701 rfl rfl ?_
  refine RL_arg (k := 1) h0 (by decide) h1 hL rfl rfl dl_702 dl_703 dl_705 dl_706 dl_707 ?_
  refine RL_arg (k := 2) h0 (by decide) h1 hL rfl rfl dl_708 dl_709 dl_711 dl_712 dl_713 ?_
  refine RL_arg (k := 3) h0 (by decide) h1 hL rfl rfl dl_714 dl_715 dl_717 dl_718 dl_719 ?_
  refine RG_bool dl_720 dl_723 dl_724 dl_727 ?_
  refine RG_callVT (As := [vi (X xs i 1), vi (X xs i 2), vi (bz (X xs i 3))]) (rest := []) (a := 0) wmi_Clock_see wmv_Clock_see wml_89 rfl (room_law (by omega) (by omega)) rfl (Nat.le_of_ble_eq_true rfl) dl_728 (pf_Clock_see _ _ _ _ g1) (fun _ => ?_)
  refine RG_aload_n dl_731 rfl rfl ?_
  refine RL_arg (k := 1) h0 (by decide) h1 hL rfl rfl dl_732 dl_733 dl_735 dl_736 dl_737 ?_
  refine RL_arg (k := 2) h0 (by decide) h1 hL rfl rfl dl_738 dl_739 dl_741 dl_742 dl_743 ?_
  refine RL_arg (k := 3) h0 (by decide) h1 hL rfl rfl dl_744 dl_745 dl_747 dl_748 dl_749 ?_
  refine RG_bool dl_750 dl_753 dl_754 dl_757 ?_
  refine RG_callVT (As := [vi (X xs i 1), vi (X xs i 2), vi (bz (X xs i 3))]) (rest := [vi r]) (a := 203) wmi_Model_see wmv_Model_see wml_93 rfl (room_law (by omega) (by omega)) rfl (Nat.le_of_ble_eq_true rfl) dl_758 (pf_Model_see _ _ _ _ g2) (fun _ => ?_)
  refine RG_eqT (tgt := 1245) rfl dl_761 rfl ?_
  exact K _ _ _ _ (by omega) (by omega) hR2
theorem case_16 (hL : L ≤ 3584) (h0 : 0 ≤ i) (h1 : i + 6 < L) (hc : cl + 1 ≤ 601024) (hsl : sl + 6 ≤ 7293034) (hst : (eL E).stackTraces = false) (hR : RR f mem mem) (K : Nx E b L xs cl sl i) : RL E b L xs cl sl 766 (LV i) [] mem := by
  obtain ⟨r, m1, m2, f2, g1, g2, hR2⟩ := call_times hR (X xs i 1)
  refine RG_aload_n dl_766 rfl rfl ?_
  refine RL_arg (k := 1) h0 (by decide) h1 hL rfl rfl dl_767 dl_768 dl_770 dl_771 dl_772 ?_
  refine RG_callVT (As := [vi (X xs i 1)]) (rest := []) (a := 0) wmi_Clock_times wmv_Clock_times wml_94 rfl (room_law (by omega) (by omega)) rfl (Nat.le_of_ble_eq_true rfl) dl_773 (pf_Clock_times _ _ g1) (fun _ => ?_)
  refine RG_aload_n dl_776 rfl rfl ?_
  refine RL_arg (k := 1) h0 (by decide) h1 hL rfl rfl dl_777 dl_778 dl_780 dl_781 dl_782 ?_
  refine RG_callVT (As := [vi (X xs i 1)]) (rest := [vi r]) (a := 203) wmi_Model_times wmv_Model_times wml_97 rfl (room_law (by omega) (by omega)) rfl (Nat.le_of_ble_eq_true rfl) dl_783 (pf_Model_times _ _ g2) (fun _ => ?_)
  refine RG_eqT (tgt := 1245) rfl dl_786 rfl ?_
  exact K _ _ _ _ (by omega) (by omega) hR2
theorem case_17 (hL : L ≤ 3584) (h0 : 0 ≤ i) (h1 : i + 6 < L) (hc : cl + 1 ≤ 601024) (hsl : sl + 6 ≤ 7293034) (hst : (eL E).stackTraces = false) (hR : RR f mem mem) (K : Nx E b L xs cl sl i) : RL E b L xs cl sl 791 (LV i) [] mem := by
  obtain ⟨r, m1, m2, f2, g1, g2, hR2⟩ := call_look hR 
  refine RG_aload_n dl_791 rfl rfl ?_
  refine RG_callVT (As := []) (rest := []) (a := 0) wmi_Clock_look wmv_Clock_look wml_98 rfl (room_law (by omega) (by omega)) rfl (Nat.le_of_ble_eq_true rfl) dl_792 (pf_Clock_look _ g1) (fun _ => ?_)
  refine RG_aload_n dl_795 rfl rfl ?_
  refine RG_callVT (As := []) (rest := [vi r]) (a := 203) wmi_Model_look wmv_Model_look wml_101 rfl (room_law (by omega) (by omega)) rfl (Nat.le_of_ble_eq_true rfl) dl_796 (pf_Model_look _ g2) (fun _ => ?_)
  refine RG_eqT (tgt := 1245) rfl dl_799 rfl ?_
  exact K _ _ _ _ (by omega) (by omega) hR2
theorem case_18 (hL : L ≤ 3584) (h0 : 0 ≤ i) (h1 : i + 6 < L) (hc : cl + 1 ≤ 601024) (hsl : sl + 6 ≤ 7293034) (hst : (eL E).stackTraces = false) (hR : RR f mem mem) (K : Nx E b L xs cl sl i) : RL E b L xs cl sl 804 (LV i) [] mem := by
  obtain ⟨r, m1, m2, f2, g1, g2, hR2⟩ := call_deputies hR (X xs i 1)
  refine RG_aload_n dl_804 rfl rfl ?_
  refine RL_arg (k := 1) h0 (by decide) h1 hL rfl rfl dl_805 dl_806 dl_808 dl_809 dl_810 ?_
  refine RG_callVT (As := [vi (X xs i 1)]) (rest := []) (a := 0) wmi_Clock_deputies wmv_Clock_deputies wml_102 rfl (room_law (by omega) (by omega)) rfl (Nat.le_of_ble_eq_true rfl) dl_811 (pf_Clock_deputies _ _ g1) (fun _ => ?_)
  refine RG_aload_n dl_814 rfl rfl ?_
  refine RL_arg (k := 1) h0 (by decide) h1 hL rfl rfl dl_815 dl_816 dl_818 dl_819 dl_820 ?_
  refine RG_callVT (As := [vi (X xs i 1)]) (rest := [vi r]) (a := 203) wmi_Model_deputies wmv_Model_deputies wml_105 rfl (room_law (by omega) (by omega)) rfl (Nat.le_of_ble_eq_true rfl) dl_821 (pf_Model_deputies _ _ g2) (fun _ => ?_)
  refine RG_eqT (tgt := 1245) rfl dl_824 rfl ?_
  exact K _ _ _ _ (by omega) (by omega) hR2
theorem case_19 (hL : L ≤ 3584) (h0 : 0 ≤ i) (h1 : i + 6 < L) (hc : cl + 1 ≤ 601024) (hsl : sl + 6 ≤ 7293034) (hst : (eL E).stackTraces = false) (hR : RR f mem mem) (K : Nx E b L xs cl sl i) : RL E b L xs cl sl 829 (LV i) [] mem := by
  obtain ⟨r, m1, m2, f2, g1, g2, hR2⟩ := call_sure hR (X xs i 1) (X xs i 2) (X xs i 3)
  refine RG_aload_n dl_829 rfl rfl ?_
  refine RL_arg (k := 1) h0 (by decide) h1 hL rfl rfl dl_830 dl_831 dl_833 dl_834 dl_835 ?_
  refine RL_arg (k := 2) h0 (by decide) h1 hL rfl rfl dl_836 dl_837 dl_839 dl_840 dl_841 ?_
  refine RL_arg (k := 3) h0 (by decide) h1 hL rfl rfl dl_842 dl_843 dl_845 dl_846 dl_847 ?_
  refine RG_callVT (As := [vi (X xs i 1), vi (X xs i 2), vi (X xs i 3)]) (rest := []) (a := 0) wmi_Clock_sure wmv_Clock_sure wml_106 rfl (room_law (by omega) (by omega)) rfl (Nat.le_of_ble_eq_true rfl) dl_848 (pf_Clock_sure _ _ _ _ g1) (fun _ => ?_)
  refine RG_aload_n dl_851 rfl rfl ?_
  refine RL_arg (k := 1) h0 (by decide) h1 hL rfl rfl dl_852 dl_853 dl_855 dl_856 dl_857 ?_
  refine RL_arg (k := 2) h0 (by decide) h1 hL rfl rfl dl_858 dl_859 dl_861 dl_862 dl_863 ?_
  refine RL_arg (k := 3) h0 (by decide) h1 hL rfl rfl dl_864 dl_865 dl_867 dl_868 dl_869 ?_
  refine RG_callVT (As := [vi (X xs i 1), vi (X xs i 2), vi (X xs i 3)]) (rest := [vi r]) (a := 203) wmi_Model_sure wmv_Model_sure wml_109 rfl (room_law (by omega) (by omega)) rfl (Nat.le_of_ble_eq_true rfl) dl_870 (pf_Model_sure _ _ _ _ g2) (fun _ => ?_)
  refine RG_eqT (tgt := 1245) rfl dl_873 rfl ?_
  exact K _ _ _ _ (by omega) (by omega) hR2
theorem case_20 (hL : L ≤ 3584) (h0 : 0 ≤ i) (h1 : i + 6 < L) (hc : cl + 1 ≤ 601024) (hsl : sl + 6 ≤ 7293034) (hst : (eL E).stackTraces = false) (hR : RR f mem mem) (K : Nx E b L xs cl sl i) : RL E b L xs cl sl 878 (LV i) [] mem := by
  obtain ⟨r, m1, m2, f2, g1, g2, hR2⟩ := call_soonest hR (X xs i 1) (X xs i 2) (X xs i 3)
  refine RG_aload_n dl_878 rfl rfl ?_
  refine RL_arg (k := 1) h0 (by decide) h1 hL rfl rfl dl_879 dl_880 dl_882 dl_883 dl_884 ?_
  refine RL_arg (k := 2) h0 (by decide) h1 hL rfl rfl dl_885 dl_886 dl_888 dl_889 dl_890 ?_
  refine RL_arg (k := 3) h0 (by decide) h1 hL rfl rfl dl_891 dl_892 dl_894 dl_895 dl_896 ?_
  refine RG_callVT (As := [vi (X xs i 1), vi (X xs i 2), vi (X xs i 3)]) (rest := []) (a := 0) wmi_Clock_soonest wmv_Clock_soonest wml_110 rfl (room_law (by omega) (by omega)) rfl (Nat.le_of_ble_eq_true rfl) dl_897 (pf_Clock_soonest _ _ _ _ g1) (fun _ => ?_)
  refine RG_aload_n dl_900 rfl rfl ?_
  refine RL_arg (k := 1) h0 (by decide) h1 hL rfl rfl dl_901 dl_902 dl_904 dl_905 dl_906 ?_
  refine RL_arg (k := 2) h0 (by decide) h1 hL rfl rfl dl_907 dl_908 dl_910 dl_911 dl_912 ?_
  refine RL_arg (k := 3) h0 (by decide) h1 hL rfl rfl dl_913 dl_914 dl_916 dl_917 dl_918 ?_
  refine RG_callVT (As := [vi (X xs i 1), vi (X xs i 2), vi (X xs i 3)]) (rest := [vi r]) (a := 203) wmi_Model_soonest wmv_Model_soonest wml_113 rfl (room_law (by omega) (by omega)) rfl (Nat.le_of_ble_eq_true rfl) dl_919 (pf_Model_soonest _ _ _ _ g2) (fun _ => ?_)
  refine RG_eqT (tgt := 1245) rfl dl_922 rfl ?_
  exact K _ _ _ _ (by omega) (by omega) hR2
theorem case_21 (hL : L ≤ 3584) (h0 : 0 ≤ i) (h1 : i + 6 < L) (hc : cl + 1 ≤ 601024) (hsl : sl + 6 ≤ 7293034) (hst : (eL E).stackTraces = false) (hR : RR f mem mem) (K : Nx E b L xs cl sl i) : RL E b L xs cl sl 927 (LV i) [] mem := by
  obtain ⟨r, m1, m2, f2, g1, g2, hR2⟩ := call_lonely hR (X xs i 1)
  refine RG_aload_n dl_927 rfl rfl ?_
  refine RL_arg (k := 1) h0 (by decide) h1 hL rfl rfl dl_928 dl_929 dl_931 dl_932 dl_933 ?_
  refine RG_callVT (As := [vi (X xs i 1)]) (rest := []) (a := 0) wmi_Clock_lonely wmv_Clock_lonely wml_114 rfl (room_law (by omega) (by omega)) rfl (Nat.le_of_ble_eq_true rfl) dl_934 (pf_Clock_lonely _ _ g1) (fun _ => ?_)
  refine RG_aload_n dl_937 rfl rfl ?_
  refine RL_arg (k := 1) h0 (by decide) h1 hL rfl rfl dl_938 dl_939 dl_941 dl_942 dl_943 ?_
  refine RG_callVT (As := [vi (X xs i 1)]) (rest := [vi r]) (a := 203) wmi_Model_lonely wmv_Model_lonely wml_117 rfl (room_law (by omega) (by omega)) rfl (Nat.le_of_ble_eq_true rfl) dl_944 (pf_Model_lonely _ _ g2) (fun _ => ?_)
  refine RG_eqT (tgt := 1245) rfl dl_947 rfl ?_
  exact K _ _ _ _ (by omega) (by omega) hR2
theorem case_22 (hL : L ≤ 3584) (h0 : 0 ≤ i) (h1 : i + 6 < L) (hc : cl + 1 ≤ 601024) (hsl : sl + 6 ≤ 7293034) (hst : (eL E).stackTraces = false) (hR : RR f mem mem) (K : Nx E b L xs cl sl i) : RL E b L xs cl sl 952 (LV i) [] mem := by
  obtain ⟨r, m1, m2, f2, g1, g2, hR2⟩ := call_tell hR (X xs i 1) (X xs i 2)
  refine RG_aload_n dl_952 rfl rfl ?_
  refine RL_arg (k := 1) h0 (by decide) h1 hL rfl rfl dl_953 dl_954 dl_956 dl_957 dl_958 ?_
  refine RL_arg (k := 2) h0 (by decide) h1 hL rfl rfl dl_959 dl_960 dl_962 dl_963 dl_964 ?_
  refine RG_callVT (As := [vi (X xs i 1), vi (X xs i 2)]) (rest := []) (a := 0) wmi_Clock_tell wmv_Clock_tell wml_118 rfl (room_law (by omega) (by omega)) rfl (Nat.le_of_ble_eq_true rfl) dl_965 (pf_Clock_tell _ _ _ g1) (fun _ => ?_)
  refine RG_aload_n dl_968 rfl rfl ?_
  refine RL_arg (k := 1) h0 (by decide) h1 hL rfl rfl dl_969 dl_970 dl_972 dl_973 dl_974 ?_
  refine RL_arg (k := 2) h0 (by decide) h1 hL rfl rfl dl_975 dl_976 dl_978 dl_979 dl_980 ?_
  refine RG_callVT (As := [vi (X xs i 1), vi (X xs i 2)]) (rest := [vi r]) (a := 203) wmi_Model_tell wmv_Model_tell wml_121 rfl (room_law (by omega) (by omega)) rfl (Nat.le_of_ble_eq_true rfl) dl_981 (pf_Model_tell _ _ _ g2) (fun _ => ?_)
  refine RG_eqT (tgt := 1245) rfl dl_984 rfl ?_
  exact K _ _ _ _ (by omega) (by omega) hR2
theorem case_23 (hL : L ≤ 3584) (h0 : 0 ≤ i) (h1 : i + 6 < L) (hc : cl + 1 ≤ 601024) (hsl : sl + 6 ≤ 7293034) (hst : (eL E).stackTraces = false) (hR : RR f mem mem) (K : Nx E b L xs cl sl i) : RL E b L xs cl sl 989 (LV i) [] mem := by
  obtain ⟨r, m1, m2, f2, g1, g2, hR2⟩ := call_sets hR (X xs i 1) (X xs i 2)
  refine RG_aload_n dl_989 rfl rfl ?_
  refine RL_arg (k := 1) h0 (by decide) h1 hL rfl rfl dl_990 dl_991 dl_993 dl_994 dl_995 ?_
  refine RL_arg (k := 2) h0 (by decide) h1 hL rfl rfl dl_996 dl_997 dl_999 dl_1000 dl_1001 ?_
  refine RG_callVT (As := [vi (X xs i 1), vi (X xs i 2)]) (rest := []) (a := 0) wmi_Clock_sets wmv_Clock_sets wml_122 rfl (room_law (by omega) (by omega)) rfl (Nat.le_of_ble_eq_true rfl) dl_1002 (pf_Clock_sets _ _ _ g1) (fun _ => ?_)
  refine RG_aload_n dl_1005 rfl rfl ?_
  refine RL_arg (k := 1) h0 (by decide) h1 hL rfl rfl dl_1006 dl_1007 dl_1009 dl_1010 dl_1011 ?_
  refine RL_arg (k := 2) h0 (by decide) h1 hL rfl rfl dl_1012 dl_1013 dl_1015 dl_1016 dl_1017 ?_
  refine RG_callVT (As := [vi (X xs i 1), vi (X xs i 2)]) (rest := [vi r]) (a := 203) wmi_Model_sets wmv_Model_sets wml_125 rfl (room_law (by omega) (by omega)) rfl (Nat.le_of_ble_eq_true rfl) dl_1018 (pf_Model_sets _ _ _ g2) (fun _ => ?_)
  refine RG_eqT (tgt := 1245) rfl dl_1021 rfl ?_
  exact K _ _ _ _ (by omega) (by omega) hR2
theorem case_24 (hL : L ≤ 3584) (h0 : 0 ≤ i) (h1 : i + 6 < L) (hc : cl + 1 ≤ 601024) (hsl : sl + 6 ≤ 7293034) (hst : (eL E).stackTraces = false) (hR : RR f mem mem) (K : Nx E b L xs cl sl i) : RL E b L xs cl sl 1026 (LV i) [] mem := by
  obtain ⟨k, x, m1, m2, g1, g2, hR2, g3, g4⟩ := law_rests hR (X xs i 1) (X xs i 2) (X xs i 3) (X xs i 4)
  refine RG_aload_n dl_1026 rfl rfl ?_
  refine RL_arg (k := 1) h0 (by decide) h1 hL rfl rfl dl_1027 dl_1028 dl_1030 dl_1031 dl_1032 ?_
  refine RL_arg (k := 2) h0 (by decide) h1 hL rfl rfl dl_1033 dl_1034 dl_1036 dl_1037 dl_1038 ?_
  refine RL_arg (k := 3) h0 (by decide) h1 hL rfl rfl dl_1039 dl_1040 dl_1042 dl_1043 dl_1044 ?_
  refine RL_arg (k := 4) h0 (by decide) h1 hL rfl rfl dl_1045 dl_1046 dl_1048 dl_1049 dl_1050 ?_
  refine RG_aload_n dl_1051 rfl rfl ?_
  refine RL_rests (rest := []) hc hsl hst (by decide) dl_1052 g1 ?_
  refine RG_istore dl_1055 (by decide) ?_
  refine RG_aload_n dl_1057 rfl rfl ?_
  refine RL_arg (k := 1) h0 (by decide) h1 hL rfl rfl dl_1058 dl_1059 dl_1061 dl_1062 dl_1063 ?_
  refine RL_arg (k := 2) h0 (by decide) h1 hL rfl rfl dl_1064 dl_1065 dl_1067 dl_1068 dl_1069 ?_
  refine RL_arg (k := 3) h0 (by decide) h1 hL rfl rfl dl_1070 dl_1071 dl_1073 dl_1074 dl_1075 ?_
  refine RL_arg (k := 4) h0 (by decide) h1 hL rfl rfl dl_1076 dl_1077 dl_1079 dl_1080 dl_1081 ?_
  refine RG_callVT (As := [vi (X xs i 1), vi (X xs i 2), vi (X xs i 3), vi (X xs i 4)]) (rest := []) (a := 203) wmi_Model_rests wmv_Model_rests wml_131 rfl (room_law (by omega) (by omega)) rfl (by decide) dl_1082 (pf_Model_rests _ _ _ _ _ g2) (fun _ => ?_)
  refine RG_istore dl_1085 (by decide) ?_
  refine RG_aload_n dl_1087 rfl rfl ?_
  refine RG_callVT (As := []) (rest := []) (a := 203) wmi_Model_thrown wmv_Model_thrown wml_132 rfl (room_law (by omega) (by omega)) rfl (by decide) dl_1088 (pf_Model_thrown m2 (r := m2 203 0) (mem9 := m2) rfl) (fun _ => ?_)
  refine RG_iload dl_1091 rfl ?_
  refine RG_eqT (tgt := 1098) g3 dl_1093 rfl ?_
  refine RG_iload dl_1098 rfl ?_
  have hK : RL E b L xs (cl + 1) (sl + 6) 1115 ((6, vi x) :: (5, vi k) :: LV i) [] m2 := by
    refine RG_goto (tgt := 1245) dl_1115 rfl ?_
    refine RG_sub (lv' := LV i) ⟨rfl, rfl, rfl, rfl, rfl, trivial⟩ ?_
    exact K _ _ _ _ (Nat.le_refl _) (Nat.le_refl _) hR2
  by_cases hk : k = 0
  · refine RG_nF hk dl_1100 (show ((1100 : Nat) : Int) + 15 = ((1115 : Nat) : Int) from rfl) ?_
    refine RG_aload_n dl_1103 rfl rfl ?_
    refine RG_iconst dl_1104 ?_
    refine RG_lald (a := 260) (n := 1) rfl (by decide) (by decide) (by decide) dl_1105 ?_
    refine RG_iload dl_1106 rfl ?_
    refine RG_i2l dl_1108 ?_
    refine RG_lcmp dl_1109 ?_
    refine RG_zT (tgt := 1115) ?_ dl_1110 rfl hK
    have e : m2 260 (0 : Int).toNat = x := g4 hk
    rw [e]; unfold lcm; rw [if_neg (by omega), if_pos rfl]
  · exact RG_nT (tgt := 1115) hk dl_1100 rfl hK
theorem case_25 (hL : L ≤ 3584) (h0 : 0 ≤ i) (h1 : i + 6 < L) (hc : cl + 1 ≤ 601024) (hsl : sl + 6 ≤ 7293034) (hst : (eL E).stackTraces = false) (hR : RR f mem mem) (K : Nx E b L xs cl sl i) : RL E b L xs cl sl 1118 (LV i) [] mem := by
  obtain ⟨r, m1, m2, f2, g1, g2, hR2⟩ := call_years hR (X xs i 1) (X xs i 2) (X xs i 3)
  refine RG_aload_n dl_1118 rfl rfl ?_
  refine RL_arg (k := 1) h0 (by decide) h1 hL rfl rfl dl_1119 dl_1120 dl_1122 dl_1123 dl_1124 ?_
  refine RL_arg (k := 2) h0 (by decide) h1 hL rfl rfl dl_1125 dl_1126 dl_1128 dl_1129 dl_1130 ?_
  refine RL_arg (k := 3) h0 (by decide) h1 hL rfl rfl dl_1131 dl_1132 dl_1134 dl_1135 dl_1136 ?_
  refine RG_callVT (As := [vi (X xs i 1), vi (X xs i 2), vi (X xs i 3)]) (rest := []) (a := 0) wmi_Clock_years wmv_Clock_years wml_135 rfl (room_law (by omega) (by omega)) rfl (Nat.le_of_ble_eq_true rfl) dl_1137 (pf_Clock_years _ _ _ _ g1) (fun _ => ?_)
  refine RG_aload_n dl_1140 rfl rfl ?_
  refine RL_arg (k := 1) h0 (by decide) h1 hL rfl rfl dl_1141 dl_1142 dl_1144 dl_1145 dl_1146 ?_
  refine RL_arg (k := 2) h0 (by decide) h1 hL rfl rfl dl_1147 dl_1148 dl_1150 dl_1151 dl_1152 ?_
  refine RL_arg (k := 3) h0 (by decide) h1 hL rfl rfl dl_1153 dl_1154 dl_1156 dl_1157 dl_1158 ?_
  refine RG_callVT (As := [vi (X xs i 1), vi (X xs i 2), vi (X xs i 3)]) (rest := [vi r]) (a := 203) wmi_Model_years wmv_Model_years wml_138 rfl (room_law (by omega) (by omega)) rfl (Nat.le_of_ble_eq_true rfl) dl_1159 (pf_Model_years _ _ _ _ g2) (fun _ => ?_)
  refine RG_eqT (tgt := 1245) rfl dl_1162 rfl ?_
  exact K _ _ _ _ (by omega) (by omega) hR2
theorem case_26 (hL : L ≤ 3584) (h0 : 0 ≤ i) (h1 : i + 6 < L) (hc : cl + 1 ≤ 601024) (hsl : sl + 6 ≤ 7293034) (hst : (eL E).stackTraces = false) (hR : RR f mem mem) (K : Nx E b L xs cl sl i) : RL E b L xs cl sl 1167 (LV i) [] mem := by
  obtain ⟨r, m1, m2, f2, g1, g2, hR2⟩ := call_mark hR (X xs i 1) (bz (X xs i 2))
  refine RG_aload_n dl_1167 rfl rfl ?_
  refine RL_arg (k := 1) h0 (by decide) h1 hL rfl rfl dl_1168 dl_1169 dl_1171 dl_1172 dl_1173 ?_
  refine RL_arg (k := 2) h0 (by decide) h1 hL rfl rfl dl_1174 dl_1175 dl_1177 dl_1178 dl_1179 ?_
  refine RG_bool dl_1180 dl_1183 dl_1184 dl_1187 ?_
  refine RG_callVT (As := [vi (X xs i 1), vi (bz (X xs i 2))]) (rest := []) (a := 0) wmi_Clock_mark wmv_Clock_mark wml_139 rfl (room_law (by omega) (by omega)) rfl (Nat.le_of_ble_eq_true rfl) dl_1188 (pf_Clock_mark _ _ _ g1) (fun _ => ?_)
  refine RG_aload_n dl_1191 rfl rfl ?_
  refine RL_arg (k := 1) h0 (by decide) h1 hL rfl rfl dl_1192 dl_1193 dl_1195 dl_1196 dl_1197 ?_
  refine RL_arg (k := 2) h0 (by decide) h1 hL rfl rfl dl_1198 dl_1199 dl_1201 dl_1202 dl_1203 ?_
  refine RG_bool dl_1204 dl_1207 dl_1208 dl_1211 ?_
  refine RG_callVT (As := [vi (X xs i 1), vi (bz (X xs i 2))]) (rest := [vi r]) (a := 203) wmi_Model_mark wmv_Model_mark wml_143 rfl (room_law (by omega) (by omega)) rfl (Nat.le_of_ble_eq_true rfl) dl_1212 (pf_Model_mark _ _ _ g2) (fun _ => ?_)
  refine RG_eqT (tgt := 1245) rfl dl_1215 rfl ?_
  exact K _ _ _ _ (by omega) (by omega) hR2
theorem case_27 (hL : L ≤ 3584) (h0 : 0 ≤ i) (h1 : i + 6 < L) (hc : cl + 1 ≤ 601024) (hsl : sl + 6 ≤ 7293034) (hst : (eL E).stackTraces = false) (hR : RR f mem mem) (K : Nx E b L xs cl sl i) : RL E b L xs cl sl 1220 (LV i) [] mem := by
  obtain ⟨r, m1, m2, f2, g1, g2, hR2⟩ := call_count hR (X xs i 1)
  refine RG_aload_n dl_1220 rfl rfl ?_
  refine RL_arg (k := 1) h0 (by decide) h1 hL rfl rfl dl_1221 dl_1222 dl_1224 dl_1225 dl_1226 ?_
  refine RG_callVT (As := [vi (X xs i 1)]) (rest := []) (a := 0) wmi_Clock_count wmv_Clock_count wml_144 rfl (room_law (by omega) (by omega)) rfl (Nat.le_of_ble_eq_true rfl) dl_1227 (pf_Clock_count _ _ g1) (fun _ => ?_)
  refine RG_aload_n dl_1230 rfl rfl ?_
  refine RL_arg (k := 1) h0 (by decide) h1 hL rfl rfl dl_1231 dl_1232 dl_1234 dl_1235 dl_1236 ?_
  refine RG_callVT (As := [vi (X xs i 1)]) (rest := [vi r]) (a := 203) wmi_Model_count wmv_Model_count wml_147 rfl (room_law (by omega) (by omega)) rfl (Nat.le_of_ble_eq_true rfl) dl_1237 (pf_Model_count _ _ g2) (fun _ => ?_)
  refine RG_eqT (tgt := 1245) rfl dl_1240 rfl ?_
  exact K _ _ _ _ (by omega) (by omega) hR2
end Lc
