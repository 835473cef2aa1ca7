/-! THE CASES of the law -/
section LW
variable {p : Program} {l : Launch} {e : Env} {R : Room} {s : State} {m : MethodId} {args : Array Value} {below : List Frame} {meth : Method} {c : Code} {H : Heap} {locs : List Loc} {cells slots : Nat} {Q : State → Prop}
variable {ls : Array Slot} {g : GC} {M : HM} {b x i L n : Nat} {xs : Nat → Int32} {cs : CS} {md : FL}
set_option maxHeartbeats 4000000 in
set_option maxRecDepth 100000 in
theorem sg_stake (hc : Cx g p l s m args meth c cL_law 9 RL) (hlf : l.stackTraces = false) (hX : va_X b L xs s s.heap) (hbl : b < s.heap.size) (hbA : ¬ gA g b) (hW : WD g x M cs md) (hR9 : Rel n cs md) (hn : n + 3000 < 2 ^ 30) (hM : hR g M H) (hS : va_S (gA g) s.heap H locs) (hl : lv_has ls 9 (lw0 b x i)) (hi : i + 3 < L) (hL : L ≤ 2048) (hroom : 20 ≤ R.frames ∧ 2000 ≤ R.locals) (hcell : cells + 3 ≤ R.cells) (hslot : slots + 18 ≤ R.slots) (hK : LwK p l e R s m args below meth c (cells + 3) (slots + 18) Q g b x i n) : W p l e R s m args below meth c H locs cells slots Q (F0 m 212 ls []) := by
  have hx := hc.1
  have hb := hc.2.1
  refine lv_aload_n hx hb dL_law_212 rfl (lv_at hl 4 rfl) ?_
  refine law_arg (j := 1) hc hX hbl hbA hS (lv_at hl 5 rfl) (lv_at hl 0 rfl) (by omega) hL dL_law_213 dL_law_214 dL_law_216 dL_law_217 dL_law_218 (by decide) ?_
  obtain ⟨M2, kk, cs2, hO, hW2, hR2, ht, hf⟩ := (si_op (M := M) (x := x) (g := g) hR9 ((op_stake hR9.1 (xs (i + 1))).mono (by omega)) (Or.inr rfl)).go hW
  refine lv_aload_n hx hb dL_law_219 rfl (lv_at hl 2 rfl) ?_
  refine k_SX1 (n := 3) hc [.ref x, .int (xs (i + 1)), .ref (x + 204)] ⟨q_L_143, qt_L_stake, qn_L, qw_L_stake, by decide, by decide, by decide +kernel⟩ dL_law_220 (c_L_stake l hlf g M x (x + 204) (xs (i + 1)) hW.1.o (c_X5_stake l hlf g M x cs (xs (i + 1)) hW.1 hR9.nx) hO) hM hS hl.1 rfl rfl ⟨by omega, by omega⟩ ⟨by omega, by omega⟩ (Nat.le_of_ble_eq_true rfl) (fun H locs hM hS => ?_)
  refine W.widen (k := cells + 3) (n := slots + 18) (by omega) (by omega) ?_
  refine lv_istore (lv' := (6, .int kk) :: lw0 b x i) hx hb dL_law_223 hl (by decide) rfl (fun ls hl => ?_)
  refine lv_aload_n hx hb dL_law_225 rfl (lv_at hl 4 rfl) ?_
  refine law_arg (j := 1) hc hX hbl hbA hS (lv_at hl 6 rfl) (lv_at hl 1 rfl) (by omega) hL dL_law_226 dL_law_227 dL_law_229 dL_law_230 dL_law_231 (by decide) ?_
  have hm := c_X6_stake l hlf g M2 (x + 196) md (xs (i + 1)) hW2.2.1 hR9.ok hR9.un
  refine k_V1 hc [.int (xs (i + 1))] cw_L_148 rfl dL_law_232 hm hW2.2.1.o hM hS hl.1 rfl rfl ⟨by omega, by omega⟩ ⟨by omega, by omega⟩ (Nat.le_of_ble_eq_true rfl) (fun H locs hM hS => ?_)
  exact law_tail (q := 235) hc hlf hW2.mod hR2 hM hS hl ht (fun q9 => by obtain ⟨f, f1, f2⟩ := hf q9; exact ⟨f, (putD_out (by omega)).trans f1, f2⟩) ⟨by omega, by omega⟩ (by omega) (by omega) hK dL_law_235 dL_law_237 dL_law_238 dL_law_241 dL_law_243 dL_law_248 dL_law_250 dL_law_253 dL_law_254 dL_law_255 dL_law_256 dL_law_258 dL_law_259 dL_law_260 dL_law_265 (by decide)
set_option maxHeartbeats 4000000 in
set_option maxRecDepth 100000 in
theorem sg_post (hc : Cx g p l s m args meth c cL_law 9 RL) (hlf : l.stackTraces = false) (hX : va_X b L xs s s.heap) (hbl : b < s.heap.size) (hbA : ¬ gA g b) (hW : WD g x M cs md) (hR9 : Rel n cs md) (hn : n + 3000 < 2 ^ 30) (hM : hR g M H) (hS : va_S (gA g) s.heap H locs) (hl : lv_has ls 9 (lw0 b x i)) (hi : i + 3 < L) (hL : L ≤ 2048) (hroom : 20 ≤ R.frames ∧ 2000 ≤ R.locals) (hcell : cells + 3 ≤ R.cells) (hslot : slots + 18 ≤ R.slots) (hK : LwK p l e R s m args below meth c (cells + 3) (slots + 18) Q g b x i n) : W p l e R s m args below meth c H locs cells slots Q (F0 m 268 ls []) := by
  have hx := hc.1
  have hb := hc.2.1
  refine lv_aload_n hx hb dL_law_268 rfl (lv_at hl 4 rfl) ?_
  refine law_arg (j := 1) hc hX hbl hbA hS (lv_at hl 5 rfl) (lv_at hl 0 rfl) (by omega) hL dL_law_269 dL_law_270 dL_law_272 dL_law_273 dL_law_274 (by decide) ?_
  refine law_arg (j := 2) hc hX hbl hbA hS (lv_at hl 5 rfl) (lv_at hl 0 rfl) (by omega) hL dL_law_275 dL_law_276 dL_law_278 dL_law_279 dL_law_280 (by decide) ?_
  obtain ⟨M2, kk, cs2, hO, hW2, hR2, ht, hf⟩ := (si_op (M := M) (x := x) (g := g) hR9 ((op_post hR9.1 (xs (i + 1)) (xs (i + 2))).mono (by omega)) (Or.inr rfl)).go hW
  refine lv_aload_n hx hb dL_law_281 rfl (lv_at hl 2 rfl) ?_
  refine k_SX1 (n := 4) hc [.ref x, .int (xs (i + 1)), .int (xs (i + 2)), .ref (x + 204)] ⟨q_L_152, qt_L_post, qn_L, qw_L_post, by decide, by decide, by decide +kernel⟩ dL_law_282 (c_L_post l hlf g M x (x + 204) (xs (i + 1)) (xs (i + 2)) hW.1.o (c_X5_post l hlf g M x cs (xs (i + 1)) (xs (i + 2)) hW.1 hR9.nx) hO) hM hS hl.1 rfl rfl ⟨by omega, by omega⟩ ⟨by omega, by omega⟩ (Nat.le_of_ble_eq_true rfl) (fun H locs hM hS => ?_)
  refine W.widen (k := cells + 3) (n := slots + 18) (by omega) (by omega) ?_
  refine lv_istore (lv' := (6, .int kk) :: lw0 b x i) hx hb dL_law_285 hl (by decide) rfl (fun ls hl => ?_)
  refine lv_aload_n hx hb dL_law_287 rfl (lv_at hl 4 rfl) ?_
  refine law_arg (j := 1) hc hX hbl hbA hS (lv_at hl 6 rfl) (lv_at hl 1 rfl) (by omega) hL dL_law_288 dL_law_289 dL_law_291 dL_law_292 dL_law_293 (by decide) ?_
  refine law_arg (j := 2) hc hX hbl hbA hS (lv_at hl 6 rfl) (lv_at hl 1 rfl) (by omega) hL dL_law_294 dL_law_295 dL_law_297 dL_law_298 dL_law_299 (by decide) ?_
  have hm := c_X6_post l hlf g M2 (x + 196) md (xs (i + 1)) (xs (i + 2)) hW2.2.1 hR9.ok hR9.un
  refine k_V1 hc [.int (xs (i + 1)), .int (xs (i + 2))] cw_L_155 rfl dL_law_300 hm hW2.2.1.o hM hS hl.1 rfl rfl ⟨by omega, by omega⟩ ⟨by omega, by omega⟩ (Nat.le_of_ble_eq_true rfl) (fun H locs hM hS => ?_)
  exact law_tail (q := 303) hc hlf hW2.mod hR2 hM hS hl ht (fun q9 => by obtain ⟨f, f1, f2⟩ := hf q9; exact ⟨f, (putD_out (by omega)).trans f1, f2⟩) ⟨by omega, by omega⟩ (by omega) (by omega) hK dL_law_303 dL_law_305 dL_law_306 dL_law_309 dL_law_311 dL_law_316 dL_law_318 dL_law_321 dL_law_322 dL_law_323 dL_law_324 dL_law_326 dL_law_327 dL_law_328 dL_law_333 (by decide)
set_option maxHeartbeats 4000000 in
set_option maxRecDepth 100000 in
theorem sg_sheet (hc : Cx g p l s m args meth c cL_law 9 RL) (hlf : l.stackTraces = false) (hX : va_X b L xs s s.heap) (hbl : b < s.heap.size) (hbA : ¬ gA g b) (hW : WD g x M cs md) (hR9 : Rel n cs md) (hn : n + 3000 < 2 ^ 30) (hM : hR g M H) (hS : va_S (gA g) s.heap H locs) (hl : lv_has ls 9 (lw0 b x i)) (hi : i + 3 < L) (hL : L ≤ 2048) (hroom : 20 ≤ R.frames ∧ 2000 ≤ R.locals) (hcell : cells + 3 ≤ R.cells) (hslot : slots + 18 ≤ R.slots) (hK : LwK p l e R s m args below meth c (cells + 3) (slots + 18) Q g b x i n) : W p l e R s m args below meth c H locs cells slots Q (F0 m 336 ls []) := by
  have hx := hc.1
  have hb := hc.2.1
  refine lv_aload_n hx hb dL_law_336 rfl (lv_at hl 4 rfl) ?_
  obtain ⟨M2, kk, cs2, hO, hW2, hR2, ht, hf⟩ := (si_op (M := M) (x := x) (g := g) hR9 ((op_sheet hR9.1).mono (by omega)) (Or.inr rfl)).go hW
  refine lv_aload_n hx hb dL_law_337 rfl (lv_at hl 2 rfl) ?_
  refine k_SX1 (n := 2) hc [.ref x, .ref (x + 204)] ⟨q_L_156, qt_L_sheet, qn_L, qw_L_sheet, by decide, by decide, by decide +kernel⟩ dL_law_338 (c_L_sheet l hlf g M x (x + 204)  hW.1.o (c_X5_sheet l hlf g M x cs  hW.1 hR9.nx) hO) hM hS hl.1 rfl rfl ⟨by omega, by omega⟩ ⟨by omega, by omega⟩ (Nat.le_of_ble_eq_true rfl) (fun H locs hM hS => ?_)
  refine W.widen (k := cells + 3) (n := slots + 18) (by omega) (by omega) ?_
  refine lv_istore (lv' := (6, .int kk) :: lw0 b x i) hx hb dL_law_341 hl (by decide) rfl (fun ls hl => ?_)
  refine lv_aload_n hx hb dL_law_343 rfl (lv_at hl 4 rfl) ?_
  have hm := c_X6_sheet l hlf g M2 (x + 196) md  hW2.2.1 hR9.ok hR9.un
  refine k_V1 hc [] cw_L_159 rfl dL_law_344 hm hW2.2.1.o hM hS hl.1 rfl rfl ⟨by omega, by omega⟩ ⟨by omega, by omega⟩ (Nat.le_of_ble_eq_true rfl) (fun H locs hM hS => ?_)
  exact law_tail (q := 347) hc hlf hW2.mod hR2 hM hS hl ht (fun q9 => by obtain ⟨f, f1, f2⟩ := hf q9; exact ⟨f, (putD_out (by omega)).trans f1, f2⟩) ⟨by omega, by omega⟩ (by omega) (by omega) hK dL_law_347 dL_law_349 dL_law_350 dL_law_353 dL_law_355 dL_law_360 dL_law_362 dL_law_365 dL_law_366 dL_law_367 dL_law_368 dL_law_370 dL_law_371 dL_law_372 dL_law_377 (by decide)
set_option maxHeartbeats 4000000 in
set_option maxRecDepth 100000 in
theorem sg_heat (hc : Cx g p l s m args meth c cL_law 9 RL) (hlf : l.stackTraces = false) (hX : va_X b L xs s s.heap) (hbl : b < s.heap.size) (hbA : ¬ gA g b) (hW : WD g x M cs md) (hR9 : Rel n cs md) (hn : n + 3000 < 2 ^ 30) (hM : hR g M H) (hS : va_S (gA g) s.heap H locs) (hl : lv_has ls 9 (lw0 b x i)) (hi : i + 3 < L) (hL : L ≤ 2048) (hroom : 20 ≤ R.frames ∧ 2000 ≤ R.locals) (hcell : cells + 3 ≤ R.cells) (hslot : slots + 18 ≤ R.slots) (hK : LwK p l e R s m args below meth c (cells + 3) (slots + 18) Q g b x i n) : W p l e R s m args below meth c H locs cells slots Q (F0 m 380 ls []) := by
  have hx := hc.1
  have hb := hc.2.1
  refine lv_aload_n hx hb dL_law_380 rfl (lv_at hl 4 rfl) ?_
  refine law_arg (j := 1) hc hX hbl hbA hS (lv_at hl 5 rfl) (lv_at hl 0 rfl) (by omega) hL dL_law_381 dL_law_382 dL_law_384 dL_law_385 dL_law_386 (by decide) ?_
  obtain ⟨M2, kk, cs2, hO, hW2, hR2, ht, hf⟩ := (si_op (M := M) (x := x) (g := g) hR9 ((op_heat hR9.1 (xs (i + 1))).mono (by omega)) (Or.inr rfl)).go hW
  refine lv_aload_n hx hb dL_law_387 rfl (lv_at hl 2 rfl) ?_
  refine k_SX1 (n := 3) hc [.ref x, .int (xs (i + 1)), .ref (x + 204)] ⟨q_L_160, qt_L_heat, qn_L, qw_L_heat, by decide, by decide, by decide +kernel⟩ dL_law_388 (c_L_heat l hlf g M x (x + 204) (xs (i + 1)) hW.1.o (c_X5_heat l hlf g M x cs (xs (i + 1)) hW.1 hR9.nx) hO) hM hS hl.1 rfl rfl ⟨by omega, by omega⟩ ⟨by omega, by omega⟩ (Nat.le_of_ble_eq_true rfl) (fun H locs hM hS => ?_)
  refine W.widen (k := cells + 3) (n := slots + 18) (by omega) (by omega) ?_
  refine lv_istore (lv' := (6, .int kk) :: lw0 b x i) hx hb dL_law_391 hl (by decide) rfl (fun ls hl => ?_)
  refine lv_aload_n hx hb dL_law_393 rfl (lv_at hl 4 rfl) ?_
  refine law_arg (j := 1) hc hX hbl hbA hS (lv_at hl 6 rfl) (lv_at hl 1 rfl) (by omega) hL dL_law_394 dL_law_395 dL_law_397 dL_law_398 dL_law_399 (by decide) ?_
  have hm := c_X6_heat l hlf g M2 (x + 196) md (xs (i + 1)) hW2.2.1 hR9.ok hR9.un
  refine k_V1 hc [.int (xs (i + 1))] cw_L_162 rfl dL_law_400 hm hW2.2.1.o hM hS hl.1 rfl rfl ⟨by omega, by omega⟩ ⟨by omega, by omega⟩ (Nat.le_of_ble_eq_true rfl) (fun H locs hM hS => ?_)
  exact law_tail (q := 403) hc hlf hW2.mod hR2 hM hS hl ht (fun q9 => by obtain ⟨f, f1, f2⟩ := hf q9; exact ⟨f, (putD_out (by omega)).trans f1, f2⟩) ⟨by omega, by omega⟩ (by omega) (by omega) hK dL_law_403 dL_law_405 dL_law_406 dL_law_409 dL_law_411 dL_law_416 dL_law_418 dL_law_421 dL_law_422 dL_law_423 dL_law_424 dL_law_426 dL_law_427 dL_law_428 dL_law_433 (by decide)
set_option maxHeartbeats 4000000 in
set_option maxRecDepth 100000 in
theorem sg_sight (hc : Cx g p l s m args meth c cL_law 9 RL) (hlf : l.stackTraces = false) (hX : va_X b L xs s s.heap) (hbl : b < s.heap.size) (hbA : ¬ gA g b) (hW : WD g x M cs md) (hR9 : Rel n cs md) (hn : n + 3000 < 2 ^ 30) (hM : hR g M H) (hS : va_S (gA g) s.heap H locs) (hl : lv_has ls 9 (lw0 b x i)) (hi : i + 3 < L) (hL : L ≤ 2048) (hroom : 20 ≤ R.frames ∧ 2000 ≤ R.locals) (hcell : cells + 3 ≤ R.cells) (hslot : slots + 18 ≤ R.slots) (hK : LwK p l e R s m args below meth c (cells + 3) (slots + 18) Q g b x i n) : W p l e R s m args below meth c H locs cells slots Q (F0 m 436 ls []) := by
  have hx := hc.1
  have hb := hc.2.1
  refine lv_aload_n hx hb dL_law_436 rfl (lv_at hl 4 rfl) ?_
  refine law_arg (j := 1) hc hX hbl hbA hS (lv_at hl 5 rfl) (lv_at hl 0 rfl) (by omega) hL dL_law_437 dL_law_438 dL_law_440 dL_law_441 dL_law_442 (by decide) ?_
  refine law_arg (j := 2) hc hX hbl hbA hS (lv_at hl 5 rfl) (lv_at hl 0 rfl) (by omega) hL dL_law_443 dL_law_444 dL_law_446 dL_law_447 dL_law_448 (by decide) ?_
  refine law_arg (j := 3) hc hX hbl hbA hS (lv_at hl 5 rfl) (lv_at hl 0 rfl) (by omega) hL dL_law_449 dL_law_450 dL_law_452 dL_law_453 dL_law_454 (by decide) ?_
  obtain ⟨M2, kk, cs2, hO, hW2, hR2, ht, hf⟩ := (si_op (M := M) (x := x) (g := g) hR9 ((op_sight hR9.1 (xs (i + 1)) (xs (i + 2)) (xs (i + 3))).mono (by omega)) (Or.inl rfl)).go hW
  refine lv_aload_n hx hb dL_law_455 rfl (lv_at hl 2 rfl) ?_
  refine k_SX1 (n := 5) hc [.ref x, .int (xs (i + 1)), .int (xs (i + 2)), .int (xs (i + 3)), .ref (x + 204)] ⟨q_L_163, qt_L_sight, qn_L, qw_L_sight, by decide, by decide, by decide +kernel⟩ dL_law_456 (c_L_sight l hlf g M x (x + 204) (xs (i + 1)) (xs (i + 2)) (xs (i + 3)) hW.1.o (c_X5_sight l hlf g M x cs (xs (i + 1)) (xs (i + 2)) (xs (i + 3)) hW.1 hR9.nx) hO) hM hS hl.1 rfl rfl ⟨by omega, by omega⟩ ⟨by omega, by omega⟩ (Nat.le_of_ble_eq_true rfl) (fun H locs hM hS => ?_)
  refine W.widen (k := cells + 3) (n := slots + 18) (by omega) (by omega) ?_
  refine lv_istore (lv' := (6, .int kk) :: lw0 b x i) hx hb dL_law_459 hl (by decide) rfl (fun ls hl => ?_)
  refine lv_aload_n hx hb dL_law_461 rfl (lv_at hl 4 rfl) ?_
  refine law_arg (j := 1) hc hX hbl hbA hS (lv_at hl 6 rfl) (lv_at hl 1 rfl) (by omega) hL dL_law_462 dL_law_463 dL_law_465 dL_law_466 dL_law_467 (by decide) ?_
  refine law_arg (j := 2) hc hX hbl hbA hS (lv_at hl 6 rfl) (lv_at hl 1 rfl) (by omega) hL dL_law_468 dL_law_469 dL_law_471 dL_law_472 dL_law_473 (by decide) ?_
  refine law_arg (j := 3) hc hX hbl hbA hS (lv_at hl 6 rfl) (lv_at hl 1 rfl) (by omega) hL dL_law_474 dL_law_475 dL_law_477 dL_law_478 dL_law_479 (by decide) ?_
  have hm := c_X6_sight l hlf g M2 (x + 196) md (xs (i + 1)) (xs (i + 2)) (xs (i + 3)) hW2.2.1 hR9.ok hR9.un hR9.le
  refine k_V1 hc [.int (xs (i + 1)), .int (xs (i + 2)), .int (xs (i + 3))] cw_L_166 rfl dL_law_480 hm hW2.2.1.o hM hS hl.1 rfl rfl ⟨by omega, by omega⟩ ⟨by omega, by omega⟩ (Nat.le_of_ble_eq_true rfl) (fun H locs hM hS => ?_)
  exact law_tail (q := 483) hc hlf hW2.mod hR2 hM hS hl ht (fun q9 => by obtain ⟨f, f1, f2⟩ := hf q9; exact ⟨f, (putD_out (by omega)).trans f1, f2⟩) ⟨by omega, by omega⟩ (by omega) (by omega) hK dL_law_483 dL_law_485 dL_law_486 dL_law_489 dL_law_491 dL_law_496 dL_law_498 dL_law_501 dL_law_502 dL_law_503 dL_law_504 dL_law_506 dL_law_507 dL_law_508 dL_law_513 (by decide)
set_option maxHeartbeats 4000000 in
set_option maxRecDepth 100000 in
theorem sg_erase (hc : Cx g p l s m args meth c cL_law 9 RL) (hlf : l.stackTraces = false) (hX : va_X b L xs s s.heap) (hbl : b < s.heap.size) (hbA : ¬ gA g b) (hW : WD g x M cs md) (hR9 : Rel n cs md) (hn : n + 3000 < 2 ^ 30) (hM : hR g M H) (hS : va_S (gA g) s.heap H locs) (hl : lv_has ls 9 (lw0 b x i)) (hi : i + 3 < L) (hL : L ≤ 2048) (hroom : 20 ≤ R.frames ∧ 2000 ≤ R.locals) (hcell : cells + 3 ≤ R.cells) (hslot : slots + 18 ≤ R.slots) (hK : LwK p l e R s m args below meth c (cells + 3) (slots + 18) Q g b x i n) : W p l e R s m args below meth c H locs cells slots Q (F0 m 516 ls []) := by
  have hx := hc.1
  have hb := hc.2.1
  refine lv_aload_n hx hb dL_law_516 rfl (lv_at hl 4 rfl) ?_
  refine law_arg (j := 1) hc hX hbl hbA hS (lv_at hl 5 rfl) (lv_at hl 0 rfl) (by omega) hL dL_law_517 dL_law_518 dL_law_520 dL_law_521 dL_law_522 (by decide) ?_
  refine law_arg (j := 2) hc hX hbl hbA hS (lv_at hl 5 rfl) (lv_at hl 0 rfl) (by omega) hL dL_law_523 dL_law_524 dL_law_526 dL_law_527 dL_law_528 (by decide) ?_
  obtain ⟨M2, kk, cs2, hO, hW2, hR2, ht, hf⟩ := (si_op (M := M) (x := x) (g := g) hR9 ((op_erase hR9.1 (xs (i + 1)) (xs (i + 2))).mono (by omega)) (Or.inl rfl)).go hW
  refine lv_aload_n hx hb dL_law_529 rfl (lv_at hl 2 rfl) ?_
  refine k_SX1 (n := 4) hc [.ref x, .int (xs (i + 1)), .int (xs (i + 2)), .ref (x + 204)] ⟨q_L_167, qt_L_erase, qn_L, qw_L_erase, by decide, by decide, by decide +kernel⟩ dL_law_530 (c_L_erase l hlf g M x (x + 204) (xs (i + 1)) (xs (i + 2)) hW.1.o (c_X5_erase l hlf g M x cs (xs (i + 1)) (xs (i + 2)) hW.1 hR9.nx) hO) hM hS hl.1 rfl rfl ⟨by omega, by omega⟩ ⟨by omega, by omega⟩ (Nat.le_of_ble_eq_true rfl) (fun H locs hM hS => ?_)
  refine W.widen (k := cells + 3) (n := slots + 18) (by omega) (by omega) ?_
  refine lv_istore (lv' := (6, .int kk) :: lw0 b x i) hx hb dL_law_533 hl (by decide) rfl (fun ls hl => ?_)
  refine lv_aload_n hx hb dL_law_535 rfl (lv_at hl 4 rfl) ?_
  refine law_arg (j := 1) hc hX hbl hbA hS (lv_at hl 6 rfl) (lv_at hl 1 rfl) (by omega) hL dL_law_536 dL_law_537 dL_law_539 dL_law_540 dL_law_541 (by decide) ?_
  refine law_arg (j := 2) hc hX hbl hbA hS (lv_at hl 6 rfl) (lv_at hl 1 rfl) (by omega) hL dL_law_542 dL_law_543 dL_law_545 dL_law_546 dL_law_547 (by decide) ?_
  have hm := c_X6_erase l hlf g M2 (x + 196) md (xs (i + 1)) (xs (i + 2)) hW2.2.1 hR9.ok hR9.un
  refine k_V1 hc [.int (xs (i + 1)), .int (xs (i + 2))] cw_L_169 rfl dL_law_548 hm hW2.2.1.o hM hS hl.1 rfl rfl ⟨by omega, by omega⟩ ⟨by omega, by omega⟩ (Nat.le_of_ble_eq_true rfl) (fun H locs hM hS => ?_)
  exact law_tail (q := 551) hc hlf hW2.mod hR2 hM hS hl ht (fun q9 => by obtain ⟨f, f1, f2⟩ := hf q9; exact ⟨f, (putD_out (by omega)).trans f1, f2⟩) ⟨by omega, by omega⟩ (by omega) (by omega) hK dL_law_551 dL_law_553 dL_law_554 dL_law_557 dL_law_559 dL_law_564 dL_law_566 dL_law_569 dL_law_570 dL_law_571 dL_law_572 dL_law_574 dL_law_575 dL_law_576 dL_law_581 (by decide)
set_option maxHeartbeats 4000000 in
set_option maxRecDepth 100000 in
theorem sg_camel (hc : Cx g p l s m args meth c cL_law 9 RL) (hlf : l.stackTraces = false) (hX : va_X b L xs s s.heap) (hbl : b < s.heap.size) (hbA : ¬ gA g b) (hW : WD g x M cs md) (hR9 : Rel n cs md) (hn : n + 3000 < 2 ^ 30) (hM : hR g M H) (hS : va_S (gA g) s.heap H locs) (hl : lv_has ls 9 (lw0 b x i)) (hi : i + 3 < L) (hL : L ≤ 2048) (hroom : 20 ≤ R.frames ∧ 2000 ≤ R.locals) (hcell : cells + 3 ≤ R.cells) (hslot : slots + 18 ≤ R.slots) (hK : LwK p l e R s m args below meth c (cells + 3) (slots + 18) Q g b x i n) : W p l e R s m args below meth c H locs cells slots Q (F0 m 584 ls []) := by
  have hx := hc.1
  have hb := hc.2.1
  refine lv_aload_n hx hb dL_law_584 rfl (lv_at hl 4 rfl) ?_
  refine law_arg (j := 1) hc hX hbl hbA hS (lv_at hl 5 rfl) (lv_at hl 0 rfl) (by omega) hL dL_law_585 dL_law_586 dL_law_588 dL_law_589 dL_law_590 (by decide) ?_
  obtain ⟨M2, kk, cs2, hO, hW2, hR2, ht, hf⟩ := (si_op (M := M) (x := x) (g := g) hR9 ((op_camel hR9.1 (xs (i + 1))).mono (by omega)) (Or.inr rfl)).go hW
  refine lv_aload_n hx hb dL_law_591 rfl (lv_at hl 2 rfl) ?_
  refine k_SX1 (n := 3) hc [.ref x, .int (xs (i + 1)), .ref (x + 204)] ⟨q_L_170, qt_L_camel, qn_L, qw_L_camel, by decide, by decide, by decide +kernel⟩ dL_law_592 (c_L_camel l hlf g M x (x + 204) (xs (i + 1)) hW.1.o (c_X5_camel l hlf g M x cs (xs (i + 1)) hW.1 hR9.nx) hO) hM hS hl.1 rfl rfl ⟨by omega, by omega⟩ ⟨by omega, by omega⟩ (Nat.le_of_ble_eq_true rfl) (fun H locs hM hS => ?_)
  refine W.widen (k := cells + 3) (n := slots + 18) (by omega) (by omega) ?_
  refine lv_istore (lv' := (6, .int kk) :: lw0 b x i) hx hb dL_law_595 hl (by decide) rfl (fun ls hl => ?_)
  refine lv_aload_n hx hb dL_law_597 rfl (lv_at hl 4 rfl) ?_
  refine law_arg (j := 1) hc hX hbl hbA hS (lv_at hl 6 rfl) (lv_at hl 1 rfl) (by omega) hL dL_law_598 dL_law_599 dL_law_601 dL_law_602 dL_law_603 (by decide) ?_
  have hm := c_X6_camel l hlf g M2 (x + 196) md (xs (i + 1)) hW2.2.1 hR9.ok hR9.un
  refine k_V1 hc [.int (xs (i + 1))] cw_L_172 rfl dL_law_604 hm hW2.2.1.o hM hS hl.1 rfl rfl ⟨by omega, by omega⟩ ⟨by omega, by omega⟩ (Nat.le_of_ble_eq_true rfl) (fun H locs hM hS => ?_)
  exact law_tail (q := 607) hc hlf hW2.mod hR2 hM hS hl ht (fun q9 => by obtain ⟨f, f1, f2⟩ := hf q9; exact ⟨f, (putD_out (by omega)).trans f1, f2⟩) ⟨by omega, by omega⟩ (by omega) (by omega) hK dL_law_607 dL_law_609 dL_law_610 dL_law_613 dL_law_615 dL_law_620 dL_law_622 dL_law_625 dL_law_626 dL_law_627 dL_law_628 dL_law_630 dL_law_631 dL_law_632 dL_law_637 (by decide)
set_option maxHeartbeats 4000000 in
set_option maxRecDepth 100000 in
theorem sg_bell (hc : Cx g p l s m args meth c cL_law 9 RL) (hlf : l.stackTraces = false) (hX : va_X b L xs s s.heap) (hbl : b < s.heap.size) (hbA : ¬ gA g b) (hW : WD g x M cs md) (hR9 : Rel n cs md) (hn : n + 3000 < 2 ^ 30) (hM : hR g M H) (hS : va_S (gA g) s.heap H locs) (hl : lv_has ls 9 (lw0 b x i)) (hi : i + 3 < L) (hL : L ≤ 2048) (hroom : 20 ≤ R.frames ∧ 2000 ≤ R.locals) (hcell : cells + 3 ≤ R.cells) (hslot : slots + 18 ≤ R.slots) (hK : LwK p l e R s m args below meth c (cells + 3) (slots + 18) Q g b x i n) : W p l e R s m args below meth c H locs cells slots Q (F0 m 640 ls []) := by
  have hx := hc.1
  have hb := hc.2.1
  refine lv_aload_n hx hb dL_law_640 rfl (lv_at hl 4 rfl) ?_
  refine law_arg (j := 1) hc hX hbl hbA hS (lv_at hl 5 rfl) (lv_at hl 0 rfl) (by omega) hL dL_law_641 dL_law_642 dL_law_644 dL_law_645 dL_law_646 (by decide) ?_
  obtain ⟨M2, kk, cs2, hO, hW2, hR2, ht, hf⟩ := (si_op (M := M) (x := x) (g := g) hR9 ((op_bell hR9.1 (xs (i + 1))).mono (by omega)) (Or.inl rfl)).go hW
  refine lv_aload_n hx hb dL_law_647 rfl (lv_at hl 2 rfl) ?_
  refine k_SX1 (n := 3) hc [.ref x, .int (xs (i + 1)), .ref (x + 204)] ⟨q_L_173, qt_L_bell, qn_L, qw_L_bell, by decide, by decide, by decide +kernel⟩ dL_law_648 (c_L_bell l hlf g M x (x + 204) (xs (i + 1)) hW.1.o (c_X5_bell l hlf g M x cs (xs (i + 1)) hW.1 hR9.nx) hO) hM hS hl.1 rfl rfl ⟨by omega, by omega⟩ ⟨by omega, by omega⟩ (Nat.le_of_ble_eq_true rfl) (fun H locs hM hS => ?_)
  refine W.widen (k := cells + 3) (n := slots + 18) (by omega) (by omega) ?_
  refine lv_istore (lv' := (6, .int kk) :: lw0 b x i) hx hb dL_law_651 hl (by decide) rfl (fun ls hl => ?_)
  refine lv_aload_n hx hb dL_law_653 rfl (lv_at hl 4 rfl) ?_
  refine law_arg (j := 1) hc hX hbl hbA hS (lv_at hl 6 rfl) (lv_at hl 1 rfl) (by omega) hL dL_law_654 dL_law_655 dL_law_657 dL_law_658 dL_law_659 (by decide) ?_
  have hm := c_X6_bell l hlf g M2 (x + 196) md (xs (i + 1)) hW2.2.1 hR9.ok hR9.un
  refine k_V1 hc [.int (xs (i + 1))] cw_L_175 rfl dL_law_660 hm hW2.2.1.o hM hS hl.1 rfl rfl ⟨by omega, by omega⟩ ⟨by omega, by omega⟩ (Nat.le_of_ble_eq_true rfl) (fun H locs hM hS => ?_)
  exact law_tail (q := 663) hc hlf hW2.mod hR2 hM hS hl ht (fun q9 => by obtain ⟨f, f1, f2⟩ := hf q9; exact ⟨f, (putD_out (by omega)).trans f1, f2⟩) ⟨by omega, by omega⟩ (by omega) (by omega) hK dL_law_663 dL_law_665 dL_law_666 dL_law_669 dL_law_671 dL_law_676 dL_law_678 dL_law_681 dL_law_682 dL_law_683 dL_law_684 dL_law_686 dL_law_687 dL_law_688 dL_law_693 (by decide)
set_option maxHeartbeats 4000000 in
set_option maxRecDepth 100000 in
theorem sg_tie (hc : Cx g p l s m args meth c cL_law 9 RL) (hlf : l.stackTraces = false) (hX : va_X b L xs s s.heap) (hbl : b < s.heap.size) (hbA : ¬ gA g b) (hW : WD g x M cs md) (hR9 : Rel n cs md) (hn : n + 3000 < 2 ^ 30) (hM : hR g M H) (hS : va_S (gA g) s.heap H locs) (hl : lv_has ls 9 (lw0 b x i)) (hi : i + 3 < L) (hL : L ≤ 2048) (hroom : 20 ≤ R.frames ∧ 2000 ≤ R.locals) (hcell : cells + 3 ≤ R.cells) (hslot : slots + 18 ≤ R.slots) (hK : LwK p l e R s m args below meth c (cells + 3) (slots + 18) Q g b x i n) : W p l e R s m args below meth c H locs cells slots Q (F0 m 696 ls []) := by
  have hx := hc.1
  have hb := hc.2.1
  refine lv_aload_n hx hb dL_law_696 rfl (lv_at hl 4 rfl) ?_
  refine law_arg (j := 1) hc hX hbl hbA hS (lv_at hl 5 rfl) (lv_at hl 0 rfl) (by omega) hL dL_law_697 dL_law_698 dL_law_700 dL_law_701 dL_law_702 (by decide) ?_
  obtain ⟨M2, kk, cs2, hO, hW2, hR2, ht, hf⟩ := (si_op (M := M) (x := x) (g := g) hR9 ((op_tie hR9.1 (xs (i + 1))).mono (by omega)) (Or.inl rfl)).go hW
  refine lv_aload_n hx hb dL_law_703 rfl (lv_at hl 2 rfl) ?_
  refine k_SX1 (n := 3) hc [.ref x, .int (xs (i + 1)), .ref (x + 204)] ⟨q_L_176, qt_L_tie, qn_L, qw_L_tie, by decide, by decide, by decide +kernel⟩ dL_law_704 (c_L_tie l hlf g M x (x + 204) (xs (i + 1)) hW.1.o (c_X5_tie l hlf g M x cs (xs (i + 1)) hW.1 hR9.nx) hO) hM hS hl.1 rfl rfl ⟨by omega, by omega⟩ ⟨by omega, by omega⟩ (Nat.le_of_ble_eq_true rfl) (fun H locs hM hS => ?_)
  refine W.widen (k := cells + 3) (n := slots + 18) (by omega) (by omega) ?_
  refine lv_istore (lv' := (6, .int kk) :: lw0 b x i) hx hb dL_law_707 hl (by decide) rfl (fun ls hl => ?_)
  refine lv_aload_n hx hb dL_law_709 rfl (lv_at hl 4 rfl) ?_
  refine law_arg (j := 1) hc hX hbl hbA hS (lv_at hl 6 rfl) (lv_at hl 1 rfl) (by omega) hL dL_law_710 dL_law_711 dL_law_713 dL_law_714 dL_law_715 (by decide) ?_
  have hm := c_X6_tie l hlf g M2 (x + 196) md (xs (i + 1)) hW2.2.1 hR9.ok hR9.un
  refine k_V1 hc [.int (xs (i + 1))] cw_L_178 rfl dL_law_716 hm hW2.2.1.o hM hS hl.1 rfl rfl ⟨by omega, by omega⟩ ⟨by omega, by omega⟩ (Nat.le_of_ble_eq_true rfl) (fun H locs hM hS => ?_)
  exact law_tail (q := 719) hc hlf hW2.mod hR2 hM hS hl ht (fun q9 => by obtain ⟨f, f1, f2⟩ := hf q9; exact ⟨f, (putD_out (by omega)).trans f1, f2⟩) ⟨by omega, by omega⟩ (by omega) (by omega) hK dL_law_719 dL_law_721 dL_law_722 dL_law_725 dL_law_727 dL_law_732 dL_law_734 dL_law_737 dL_law_738 dL_law_739 dL_law_740 dL_law_742 dL_law_743 dL_law_744 dL_law_749 (by decide)
set_option maxHeartbeats 4000000 in
set_option maxRecDepth 100000 in
theorem sg_loose (hc : Cx g p l s m args meth c cL_law 9 RL) (hlf : l.stackTraces = false) (hX : va_X b L xs s s.heap) (hbl : b < s.heap.size) (hbA : ¬ gA g b) (hW : WD g x M cs md) (hR9 : Rel n cs md) (hn : n + 3000 < 2 ^ 30) (hM : hR g M H) (hS : va_S (gA g) s.heap H locs) (hl : lv_has ls 9 (lw0 b x i)) (hi : i + 3 < L) (hL : L ≤ 2048) (hroom : 20 ≤ R.frames ∧ 2000 ≤ R.locals) (hcell : cells + 3 ≤ R.cells) (hslot : slots + 18 ≤ R.slots) (hK : LwK p l e R s m args below meth c (cells + 3) (slots + 18) Q g b x i n) : W p l e R s m args below meth c H locs cells slots Q (F0 m 752 ls []) := by
  have hx := hc.1
  have hb := hc.2.1
  refine lv_aload_n hx hb dL_law_752 rfl (lv_at hl 4 rfl) ?_
  refine law_arg (j := 1) hc hX hbl hbA hS (lv_at hl 5 rfl) (lv_at hl 0 rfl) (by omega) hL dL_law_753 dL_law_754 dL_law_756 dL_law_757 dL_law_758 (by decide) ?_
  obtain ⟨M2, kk, cs2, hO, hW2, hR2, ht, hf⟩ := (si_op (M := M) (x := x) (g := g) hR9 ((op_loose hR9.1 (xs (i + 1))).mono (by omega)) (Or.inl rfl)).go hW
  refine lv_aload_n hx hb dL_law_759 rfl (lv_at hl 2 rfl) ?_
  refine k_SX1 (n := 3) hc [.ref x, .int (xs (i + 1)), .ref (x + 204)] ⟨q_L_179, qt_L_loose, qn_L, qw_L_loose, by decide, by decide, by decide +kernel⟩ dL_law_760 (c_L_loose l hlf g M x (x + 204) (xs (i + 1)) hW.1.o (c_X5_loose l hlf g M x cs (xs (i + 1)) hW.1 hR9.nx) hO) hM hS hl.1 rfl rfl ⟨by omega, by omega⟩ ⟨by omega, by omega⟩ (Nat.le_of_ble_eq_true rfl) (fun H locs hM hS => ?_)
  refine W.widen (k := cells + 3) (n := slots + 18) (by omega) (by omega) ?_
  refine lv_istore (lv' := (6, .int kk) :: lw0 b x i) hx hb dL_law_763 hl (by decide) rfl (fun ls hl => ?_)
  refine lv_aload_n hx hb dL_law_765 rfl (lv_at hl 4 rfl) ?_
  refine law_arg (j := 1) hc hX hbl hbA hS (lv_at hl 6 rfl) (lv_at hl 1 rfl) (by omega) hL dL_law_766 dL_law_767 dL_law_769 dL_law_770 dL_law_771 (by decide) ?_
  have hm := c_X6_loose l hlf g M2 (x + 196) md (xs (i + 1)) hW2.2.1 hR9.ok hR9.un
  refine k_V1 hc [.int (xs (i + 1))] cw_L_181 rfl dL_law_772 hm hW2.2.1.o hM hS hl.1 rfl rfl ⟨by omega, by omega⟩ ⟨by omega, by omega⟩ (Nat.le_of_ble_eq_true rfl) (fun H locs hM hS => ?_)
  exact law_tail (q := 775) hc hlf hW2.mod hR2 hM hS hl ht (fun q9 => by obtain ⟨f, f1, f2⟩ := hf q9; exact ⟨f, (putD_out (by omega)).trans f1, f2⟩) ⟨by omega, by omega⟩ (by omega) (by omega) hK dL_law_775 dL_law_777 dL_law_778 dL_law_781 dL_law_783 dL_law_788 dL_law_790 dL_law_793 dL_law_794 dL_law_795 dL_law_796 dL_law_798 dL_law_799 dL_law_800 dL_law_805 (by decide)
set_option maxHeartbeats 4000000 in
set_option maxRecDepth 100000 in
theorem sg_drink (hc : Cx g p l s m args meth c cL_law 9 RL) (hlf : l.stackTraces = false) (hX : va_X b L xs s s.heap) (hbl : b < s.heap.size) (hbA : ¬ gA g b) (hW : WD g x M cs md) (hR9 : Rel n cs md) (hn : n + 3000 < 2 ^ 30) (hM : hR g M H) (hS : va_S (gA g) s.heap H locs) (hl : lv_has ls 9 (lw0 b x i)) (hi : i + 3 < L) (hL : L ≤ 2048) (hroom : 20 ≤ R.frames ∧ 2000 ≤ R.locals) (hcell : cells + 3 ≤ R.cells) (hslot : slots + 18 ≤ R.slots) (hK : LwK p l e R s m args below meth c (cells + 3) (slots + 18) Q g b x i n) : W p l e R s m args below meth c H locs cells slots Q (F0 m 808 ls []) := by
  have hx := hc.1
  have hb := hc.2.1
  refine lv_aload_n hx hb dL_law_808 rfl (lv_at hl 4 rfl) ?_
  refine law_arg (j := 1) hc hX hbl hbA hS (lv_at hl 5 rfl) (lv_at hl 0 rfl) (by omega) hL dL_law_809 dL_law_810 dL_law_812 dL_law_813 dL_law_814 (by decide) ?_
  obtain ⟨M2, kk, cs2, hO, hW2, hR2, ht, hf⟩ := (si_op (M := M) (x := x) (g := g) hR9 ((op_drink hR9.1 (xs (i + 1))).mono (by omega)) (Or.inl rfl)).go hW
  refine lv_aload_n hx hb dL_law_815 rfl (lv_at hl 2 rfl) ?_
  refine k_SX1 (n := 3) hc [.ref x, .int (xs (i + 1)), .ref (x + 204)] ⟨q_L_182, qt_L_drink, qn_L, qw_L_drink, by decide, by decide, by decide +kernel⟩ dL_law_816 (c_L_drink l hlf g M x (x + 204) (xs (i + 1)) hW.1.o (c_X5_drink l hlf g M x cs (xs (i + 1)) hW.1 hR9.nx) hO) hM hS hl.1 rfl rfl ⟨by omega, by omega⟩ ⟨by omega, by omega⟩ (Nat.le_of_ble_eq_true rfl) (fun H locs hM hS => ?_)
  refine W.widen (k := cells + 3) (n := slots + 18) (by omega) (by omega) ?_
  refine lv_istore (lv' := (6, .int kk) :: lw0 b x i) hx hb dL_law_819 hl (by decide) rfl (fun ls hl => ?_)
  refine lv_aload_n hx hb dL_law_821 rfl (lv_at hl 4 rfl) ?_
  refine law_arg (j := 1) hc hX hbl hbA hS (lv_at hl 6 rfl) (lv_at hl 1 rfl) (by omega) hL dL_law_822 dL_law_823 dL_law_825 dL_law_826 dL_law_827 (by decide) ?_
  have hm := c_X6_drink l hlf g M2 (x + 196) md (xs (i + 1)) hW2.2.1 hR9.ok hR9.un
  refine k_V1 hc [.int (xs (i + 1))] cw_L_184 rfl dL_law_828 hm hW2.2.1.o hM hS hl.1 rfl rfl ⟨by omega, by omega⟩ ⟨by omega, by omega⟩ (Nat.le_of_ble_eq_true rfl) (fun H locs hM hS => ?_)
  exact law_tail (q := 831) hc hlf hW2.mod hR2 hM hS hl ht (fun q9 => by obtain ⟨f, f1, f2⟩ := hf q9; exact ⟨f, (putD_out (by omega)).trans f1, f2⟩) ⟨by omega, by omega⟩ (by omega) (by omega) hK dL_law_831 dL_law_833 dL_law_834 dL_law_837 dL_law_839 dL_law_844 dL_law_846 dL_law_849 dL_law_850 dL_law_851 dL_law_852 dL_law_854 dL_law_855 dL_law_856 dL_law_861 (by decide)
set_option maxHeartbeats 4000000 in
set_option maxRecDepth 100000 in
theorem sg_water (hc : Cx g p l s m args meth c cL_law 9 RL) (hlf : l.stackTraces = false) (hX : va_X b L xs s s.heap) (hbl : b < s.heap.size) (hbA : ¬ gA g b) (hW : WD g x M cs md) (hR9 : Rel n cs md) (hn : n + 3000 < 2 ^ 30) (hM : hR g M H) (hS : va_S (gA g) s.heap H locs) (hl : lv_has ls 9 (lw0 b x i)) (hi : i + 3 < L) (hL : L ≤ 2048) (hroom : 20 ≤ R.frames ∧ 2000 ≤ R.locals) (hcell : cells + 3 ≤ R.cells) (hslot : slots + 18 ≤ R.slots) (hK : LwK p l e R s m args below meth c (cells + 3) (slots + 18) Q g b x i n) : W p l e R s m args below meth c H locs cells slots Q (F0 m 864 ls []) := by
  have hx := hc.1
  have hb := hc.2.1
  refine lv_aload_n hx hb dL_law_864 rfl (lv_at hl 4 rfl) ?_
  refine law_arg (j := 1) hc hX hbl hbA hS (lv_at hl 5 rfl) (lv_at hl 0 rfl) (by omega) hL dL_law_865 dL_law_866 dL_law_868 dL_law_869 dL_law_870 (by decide) ?_
  obtain ⟨M2, kk, cs2, hO, hW2, hR2, ht, hf⟩ := (si_op (M := M) (x := x) (g := g) hR9 ((op_water hR9.1 (xs (i + 1))).mono (by omega)) (Or.inr rfl)).go hW
  refine lv_aload_n hx hb dL_law_871 rfl (lv_at hl 2 rfl) ?_
  refine k_SX1 (n := 3) hc [.ref x, .int (xs (i + 1)), .ref (x + 204)] ⟨q_L_185, qt_L_water, qn_L, qw_L_water, by decide, by decide, by decide +kernel⟩ dL_law_872 (c_L_water l hlf g M x (x + 204) (xs (i + 1)) hW.1.o (c_X5_water l hlf g M x cs (xs (i + 1)) hW.1 hR9.nx) hO) hM hS hl.1 rfl rfl ⟨by omega, by omega⟩ ⟨by omega, by omega⟩ (Nat.le_of_ble_eq_true rfl) (fun H locs hM hS => ?_)
  refine W.widen (k := cells + 3) (n := slots + 18) (by omega) (by omega) ?_
  refine lv_istore (lv' := (6, .int kk) :: lw0 b x i) hx hb dL_law_875 hl (by decide) rfl (fun ls hl => ?_)
  refine lv_aload_n hx hb dL_law_877 rfl (lv_at hl 4 rfl) ?_
  refine law_arg (j := 1) hc hX hbl hbA hS (lv_at hl 6 rfl) (lv_at hl 1 rfl) (by omega) hL dL_law_878 dL_law_879 dL_law_881 dL_law_882 dL_law_883 (by decide) ?_
  have hm := c_X6_water l hlf g M2 (x + 196) md (xs (i + 1)) hW2.2.1 hR9.ok hR9.un
  refine k_V1 hc [.int (xs (i + 1))] cw_L_187 rfl dL_law_884 hm hW2.2.1.o hM hS hl.1 rfl rfl ⟨by omega, by omega⟩ ⟨by omega, by omega⟩ (Nat.le_of_ble_eq_true rfl) (fun H locs hM hS => ?_)
  exact law_tail (q := 887) hc hlf hW2.mod hR2 hM hS hl ht (fun q9 => by obtain ⟨f, f1, f2⟩ := hf q9; exact ⟨f, (putD_out (by omega)).trans f1, f2⟩) ⟨by omega, by omega⟩ (by omega) (by omega) hK dL_law_887 dL_law_889 dL_law_890 dL_law_893 dL_law_895 dL_law_900 dL_law_902 dL_law_905 dL_law_906 dL_law_907 dL_law_908 dL_law_910 dL_law_911 dL_law_912 dL_law_917 (by decide)
set_option maxHeartbeats 4000000 in
set_option maxRecDepth 100000 in
theorem sg_hours (hc : Cx g p l s m args meth c cL_law 9 RL) (hlf : l.stackTraces = false) (hX : va_X b L xs s s.heap) (hbl : b < s.heap.size) (hbA : ¬ gA g b) (hW : WD g x M cs md) (hR9 : Rel n cs md) (hn : n + 3000 < 2 ^ 30) (hM : hR g M H) (hS : va_S (gA g) s.heap H locs) (hl : lv_has ls 9 (lw0 b x i)) (hi : i + 3 < L) (hL : L ≤ 2048) (hroom : 20 ≤ R.frames ∧ 2000 ≤ R.locals) (hcell : cells + 3 ≤ R.cells) (hslot : slots + 18 ≤ R.slots) (hK : LwK p l e R s m args below meth c (cells + 3) (slots + 18) Q g b x i n) : W p l e R s m args below meth c H locs cells slots Q (F0 m 920 ls []) := by
  have hx := hc.1
  have hb := hc.2.1
  refine lv_aload_n hx hb dL_law_920 rfl (lv_at hl 4 rfl) ?_
  refine law_arg (j := 1) hc hX hbl hbA hS (lv_at hl 5 rfl) (lv_at hl 0 rfl) (by omega) hL dL_law_921 dL_law_922 dL_law_924 dL_law_925 dL_law_926 (by decide) ?_
  obtain ⟨M2, kk, cs2, hO, hW2, hR2, ht, hf⟩ := (si_op (M := M) (x := x) (g := g) hR9 ((op_hours hR9.1 (by omega) (xs (i + 1))).mono (by omega)) (Or.inl rfl)).go hW
  refine lv_aload_n hx hb dL_law_927 rfl (lv_at hl 2 rfl) ?_
  refine k_SX1 (n := 3) hc [.ref x, .int (xs (i + 1)), .ref (x + 204)] ⟨q_L_188, qt_L_hours, qn_L, qw_L_hours, by decide, by decide, by decide +kernel⟩ dL_law_928 (c_L_hours l hlf g M x (x + 204) (xs (i + 1)) hW.1.o (c_X5_hours l hlf g M x cs (xs (i + 1)) hW.1 hR9.nx) hO) hM hS hl.1 rfl rfl ⟨by omega, by omega⟩ ⟨by omega, by omega⟩ (Nat.le_of_ble_eq_true rfl) (fun H locs hM hS => ?_)
  refine W.widen (k := cells + 3) (n := slots + 18) (by omega) (by omega) ?_
  refine lv_istore (lv' := (6, .int kk) :: lw0 b x i) hx hb dL_law_931 hl (by decide) rfl (fun ls hl => ?_)
  refine lv_aload_n hx hb dL_law_933 rfl (lv_at hl 4 rfl) ?_
  refine law_arg (j := 1) hc hX hbl hbA hS (lv_at hl 6 rfl) (lv_at hl 1 rfl) (by omega) hL dL_law_934 dL_law_935 dL_law_937 dL_law_938 dL_law_939 (by decide) ?_
  have hm := c_X6_hours l hlf g M2 (x + 196) md (xs (i + 1)) hW2.2.1 hR9.ok hR9.un
  refine k_V1 hc [.int (xs (i + 1))] cw_L_190 rfl dL_law_940 hm hW2.2.1.o hM hS hl.1 rfl rfl ⟨by omega, by omega⟩ ⟨by omega, by omega⟩ (Nat.le_of_ble_eq_true rfl) (fun H locs hM hS => ?_)
  exact law_tail (q := 943) hc hlf hW2.mod hR2 hM hS hl ht (fun q9 => by obtain ⟨f, f1, f2⟩ := hf q9; exact ⟨f, (putD_out (by omega)).trans f1, f2⟩) ⟨by omega, by omega⟩ (by omega) (by omega) hK dL_law_943 dL_law_945 dL_law_946 dL_law_949 dL_law_951 dL_law_956 dL_law_958 dL_law_961 dL_law_962 dL_law_963 dL_law_964 dL_law_966 dL_law_967 dL_law_968 dL_law_973 (by decide)
set_option maxHeartbeats 4000000 in
set_option maxRecDepth 100000 in
theorem sg_stakeAt (hc : Cx g p l s m args meth c cL_law 9 RL) (hlf : l.stackTraces = false) (hX : va_X b L xs s s.heap) (hbl : b < s.heap.size) (hbA : ¬ gA g b) (hW : WD g x M cs md) (hR9 : Rel n cs md) (hn : n + 3000 < 2 ^ 30) (hM : hR g M H) (hS : va_S (gA g) s.heap H locs) (hl : lv_has ls 9 (lw0 b x i)) (hi : i + 3 < L) (hL : L ≤ 2048) (hroom : 20 ≤ R.frames ∧ 2000 ≤ R.locals) (hcell : cells + 3 ≤ R.cells) (hslot : slots + 18 ≤ R.slots) (hK : LwK p l e R s m args below meth c (cells + 3) (slots + 18) Q g b x i n) : W p l e R s m args below meth c H locs cells slots Q (F0 m 976 ls []) := by
  have hx := hc.1
  have hb := hc.2.1
  refine lv_aload_n hx hb dL_law_976 rfl (lv_at hl 4 rfl) ?_
  refine law_arg (j := 1) hc hX hbl hbA hS (lv_at hl 5 rfl) (lv_at hl 0 rfl) (by omega) hL dL_law_977 dL_law_978 dL_law_980 dL_law_981 dL_law_982 (by decide) ?_
  obtain ⟨M2, kk, cs2, hO, hW2, hR2, ht, hf⟩ := (si_stakeAt hR9 hW (xs (i + 1))).go hW
  refine lv_aload_n hx hb dL_law_983 rfl (lv_at hl 2 rfl) ?_
  refine k_SX1 (n := 3) hc [.ref x, .int (xs (i + 1)), .ref (x + 204)] ⟨q_L_191, qt_L_stakeAt, qn_L, qw_L_stakeAt, by decide, by decide, by decide +kernel⟩ dL_law_984 (c_L_stakeAt l hlf g M x (x + 204) (xs (i + 1)) hW.1.o (c_X5_stakeAt l hlf g M x cs (xs (i + 1)) hW.1) hO) hM hS hl.1 rfl rfl ⟨by omega, by omega⟩ ⟨by omega, by omega⟩ (Nat.le_of_ble_eq_true rfl) (fun H locs hM hS => ?_)
  refine W.widen (k := cells + 3) (n := slots + 18) (by omega) (by omega) ?_
  refine lv_istore (lv' := (6, .int kk) :: lw0 b x i) hx hb dL_law_987 hl (by decide) rfl (fun ls hl => ?_)
  refine lv_aload_n hx hb dL_law_989 rfl (lv_at hl 4 rfl) ?_
  refine law_arg (j := 1) hc hX hbl hbA hS (lv_at hl 6 rfl) (lv_at hl 1 rfl) (by omega) hL dL_law_990 dL_law_991 dL_law_993 dL_law_994 dL_law_995 (by decide) ?_
  have hm := c_X6_stakeAt l hlf g M2 (x + 196) md (xs (i + 1)) hW2.2.1 hR9.ok
  refine k_V1 hc [.int (xs (i + 1))] cw_L_193 rfl dL_law_996 hm hW2.2.1.o hM hS hl.1 rfl rfl ⟨by omega, by omega⟩ ⟨by omega, by omega⟩ (Nat.le_of_ble_eq_true rfl) (fun H locs hM hS => ?_)
  exact law_tail (q := 999) hc hlf hW2.mod hR2 hM hS hl ht (fun q9 => by obtain ⟨f, f1, f2⟩ := hf q9; exact ⟨f, (putD_out (by omega)).trans f1, f2⟩) ⟨by omega, by omega⟩ (by omega) (by omega) hK dL_law_999 dL_law_1001 dL_law_1002 dL_law_1005 dL_law_1007 dL_law_1012 dL_law_1014 dL_law_1017 dL_law_1018 dL_law_1019 dL_law_1020 dL_law_1022 dL_law_1023 dL_law_1024 dL_law_1029 (by decide)
set_option maxHeartbeats 4000000 in
set_option maxRecDepth 100000 in
theorem sg_postOf (hc : Cx g p l s m args meth c cL_law 9 RL) (hlf : l.stackTraces = false) (hX : va_X b L xs s s.heap) (hbl : b < s.heap.size) (hbA : ¬ gA g b) (hW : WD g x M cs md) (hR9 : Rel n cs md) (hn : n + 3000 < 2 ^ 30) (hM : hR g M H) (hS : va_S (gA g) s.heap H locs) (hl : lv_has ls 9 (lw0 b x i)) (hi : i + 3 < L) (hL : L ≤ 2048) (hroom : 20 ≤ R.frames ∧ 2000 ≤ R.locals) (hcell : cells + 3 ≤ R.cells) (hslot : slots + 18 ≤ R.slots) (hK : LwK p l e R s m args below meth c (cells + 3) (slots + 18) Q g b x i n) : W p l e R s m args below meth c H locs cells slots Q (F0 m 1032 ls []) := by
  have hx := hc.1
  have hb := hc.2.1
  refine lv_aload_n hx hb dL_law_1032 rfl (lv_at hl 4 rfl) ?_
  refine law_arg (j := 1) hc hX hbl hbA hS (lv_at hl 5 rfl) (lv_at hl 0 rfl) (by omega) hL dL_law_1033 dL_law_1034 dL_law_1036 dL_law_1037 dL_law_1038 (by decide) ?_
  refine law_arg (j := 2) hc hX hbl hbA hS (lv_at hl 5 rfl) (lv_at hl 0 rfl) (by omega) hL dL_law_1039 dL_law_1040 dL_law_1042 dL_law_1043 dL_law_1044 (by decide) ?_
  refine lv_if_eq (tgt := 1052) hx hb dL_law_1045 (by decide) (fun c_1 => ?_) (fun c_1 => ?_)
  · refine lv_iconst (v := 0) hx hb dL_law_1052 (by decide) ?_
    obtain ⟨M2, kk, cs2, hO, hW2, hR2, ht, hf⟩ := (si_postOf hR9 hW (xs (i + 1)) 0).go hW
    refine lv_aload_n hx hb dL_law_1053 rfl (lv_at hl 2 rfl) ?_
    refine k_SX1 (n := 4) hc [.ref x, .int (xs (i + 1)), .int 0, .ref (x + 204)] ⟨q_L_194, qt_L_postOf, qn_L, qw_L_postOf, by decide, by decide, by decide +kernel⟩ dL_law_1054 (c_L_postOf l hlf g M x (x + 204) (xs (i + 1)) 0 hW.1.o (c_X5_postOf l hlf g M x cs (xs (i + 1)) 0 hW.1) hO) hM hS hl.1 rfl rfl ⟨by omega, by omega⟩ ⟨by omega, by omega⟩ (Nat.le_of_ble_eq_true rfl) (fun H locs hM hS => ?_)
    refine W.widen (k := cells + 3) (n := slots + 18) (by omega) (by omega) ?_
    refine lv_istore (lv' := (6, .int kk) :: lw0 b x i) hx hb dL_law_1057 hl (by decide) rfl (fun ls hl => ?_)
    refine lv_aload_n hx hb dL_law_1059 rfl (lv_at hl 4 rfl) ?_
    refine law_arg (j := 1) hc hX hbl hbA hS (lv_at hl 6 rfl) (lv_at hl 1 rfl) (by omega) hL dL_law_1060 dL_law_1061 dL_law_1063 dL_law_1064 dL_law_1065 (by decide) ?_
    refine law_arg (j := 2) hc hX hbl hbA hS (lv_at hl 6 rfl) (lv_at hl 1 rfl) (by omega) hL dL_law_1066 dL_law_1067 dL_law_1069 dL_law_1070 dL_law_1071 (by decide) ?_
    refine lv_if_eq (tgt := 1079) hx hb dL_law_1072 (by decide) (fun _ => ?_) (fun c_2 => absurd c_1 c_2)
    refine lv_iconst (v := 0) hx hb dL_law_1079 (by decide) ?_
    have hm := c_X6_postOf l hlf g M2 (x + 196) md (xs (i + 1)) 0 hW2.2.1 hR9.ok
    refine k_V1 hc [.int (xs (i + 1)), .int 0] cw_L_197 rfl dL_law_1080 hm hW2.2.1.o hM hS hl.1 rfl rfl ⟨by omega, by omega⟩ ⟨by omega, by omega⟩ (Nat.le_of_ble_eq_true rfl) (fun H locs hM hS => ?_)
    exact law_tail (q := 1083) hc hlf hW2.mod hR2 hM hS hl ht (fun q9 => by obtain ⟨f, f1, f2⟩ := hf q9; exact ⟨f, (putD_out (by omega)).trans f1, f2⟩) ⟨by omega, by omega⟩ (by omega) (by omega) hK dL_law_1083 dL_law_1085 dL_law_1086 dL_law_1089 dL_law_1091 dL_law_1096 dL_law_1098 dL_law_1101 dL_law_1102 dL_law_1103 dL_law_1104 dL_law_1106 dL_law_1107 dL_law_1108 dL_law_1113 (by decide)
  · refine lv_iconst (v := 1) hx hb dL_law_1048 (by decide) ?_
    refine lv_goto (tgt := 1053) hx hb dL_law_1049 (by decide) ?_
    obtain ⟨M2, kk, cs2, hO, hW2, hR2, ht, hf⟩ := (si_postOf hR9 hW (xs (i + 1)) 1).go hW
    refine lv_aload_n hx hb dL_law_1053 rfl (lv_at hl 2 rfl) ?_
    refine k_SX1 (n := 4) hc [.ref x, .int (xs (i + 1)), .int 1, .ref (x + 204)] ⟨q_L_194, qt_L_postOf, qn_L, qw_L_postOf, by decide, by decide, by decide +kernel⟩ dL_law_1054 (c_L_postOf l hlf g M x (x + 204) (xs (i + 1)) 1 hW.1.o (c_X5_postOf l hlf g M x cs (xs (i + 1)) 1 hW.1) hO) hM hS hl.1 rfl rfl ⟨by omega, by omega⟩ ⟨by omega, by omega⟩ (Nat.le_of_ble_eq_true rfl) (fun H locs hM hS => ?_)
    refine W.widen (k := cells + 3) (n := slots + 18) (by omega) (by omega) ?_
    refine lv_istore (lv' := (6, .int kk) :: lw0 b x i) hx hb dL_law_1057 hl (by decide) rfl (fun ls hl => ?_)
    refine lv_aload_n hx hb dL_law_1059 rfl (lv_at hl 4 rfl) ?_
    refine law_arg (j := 1) hc hX hbl hbA hS (lv_at hl 6 rfl) (lv_at hl 1 rfl) (by omega) hL dL_law_1060 dL_law_1061 dL_law_1063 dL_law_1064 dL_law_1065 (by decide) ?_
    refine law_arg (j := 2) hc hX hbl hbA hS (lv_at hl 6 rfl) (lv_at hl 1 rfl) (by omega) hL dL_law_1066 dL_law_1067 dL_law_1069 dL_law_1070 dL_law_1071 (by decide) ?_
    refine lv_if_eq (tgt := 1079) hx hb dL_law_1072 (by decide) (fun c_2 => absurd c_2 c_1) (fun _ => ?_)
    refine lv_iconst (v := 1) hx hb dL_law_1075 (by decide) ?_
    refine lv_goto (tgt := 1080) hx hb dL_law_1076 (by decide) ?_
    have hm := c_X6_postOf l hlf g M2 (x + 196) md (xs (i + 1)) 1 hW2.2.1 hR9.ok
    refine k_V1 hc [.int (xs (i + 1)), .int 1] cw_L_197 rfl dL_law_1080 hm hW2.2.1.o hM hS hl.1 rfl rfl ⟨by omega, by omega⟩ ⟨by omega, by omega⟩ (Nat.le_of_ble_eq_true rfl) (fun H locs hM hS => ?_)
    exact law_tail (q := 1083) hc hlf hW2.mod hR2 hM hS hl ht (fun q9 => by obtain ⟨f, f1, f2⟩ := hf q9; exact ⟨f, (putD_out (by omega)).trans f1, f2⟩) ⟨by omega, by omega⟩ (by omega) (by omega) hK dL_law_1083 dL_law_1085 dL_law_1086 dL_law_1089 dL_law_1091 dL_law_1096 dL_law_1098 dL_law_1101 dL_law_1102 dL_law_1103 dL_law_1104 dL_law_1106 dL_law_1107 dL_law_1108 dL_law_1113 (by decide)
set_option maxHeartbeats 4000000 in
set_option maxRecDepth 100000 in
theorem sg_camelOf (hc : Cx g p l s m args meth c cL_law 9 RL) (hlf : l.stackTraces = false) (hX : va_X b L xs s s.heap) (hbl : b < s.heap.size) (hbA : ¬ gA g b) (hW : WD g x M cs md) (hR9 : Rel n cs md) (hn : n + 3000 < 2 ^ 30) (hM : hR g M H) (hS : va_S (gA g) s.heap H locs) (hl : lv_has ls 9 (lw0 b x i)) (hi : i + 3 < L) (hL : L ≤ 2048) (hroom : 20 ≤ R.frames ∧ 2000 ≤ R.locals) (hcell : cells + 3 ≤ R.cells) (hslot : slots + 18 ≤ R.slots) (hK : LwK p l e R s m args below meth c (cells + 3) (slots + 18) Q g b x i n) : W p l e R s m args below meth c H locs cells slots Q (F0 m 1116 ls []) := by
  have hx := hc.1
  have hb := hc.2.1
  refine lv_aload_n hx hb dL_law_1116 rfl (lv_at hl 4 rfl) ?_
  refine law_arg (j := 1) hc hX hbl hbA hS (lv_at hl 5 rfl) (lv_at hl 0 rfl) (by omega) hL dL_law_1117 dL_law_1118 dL_law_1120 dL_law_1121 dL_law_1122 (by decide) ?_
  refine law_arg (j := 2) hc hX hbl hbA hS (lv_at hl 5 rfl) (lv_at hl 0 rfl) (by omega) hL dL_law_1123 dL_law_1124 dL_law_1126 dL_law_1127 dL_law_1128 (by decide) ?_
  obtain ⟨M2, kk, cs2, hO, hW2, hR2, ht, hf⟩ := (si_camelOf hR9 hW (xs (i + 1)) (xs (i + 2))).go hW
  refine lv_aload_n hx hb dL_law_1129 rfl (lv_at hl 2 rfl) ?_
  refine k_SX1 (n := 4) hc [.ref x, .int (xs (i + 1)), .int (xs (i + 2)), .ref (x + 204)] ⟨q_L_198, qt_L_camelOf, qn_L, qw_L_camelOf, by decide, by decide, by decide +kernel⟩ dL_law_1130 (c_L_camelOf l hlf g M x (x + 204) (xs (i + 1)) (xs (i + 2)) hW.1.o (c_X5_camelOf l hlf g M x cs (xs (i + 1)) (xs (i + 2)) hW.1) hO) hM hS hl.1 rfl rfl ⟨by omega, by omega⟩ ⟨by omega, by omega⟩ (Nat.le_of_ble_eq_true rfl) (fun H locs hM hS => ?_)
  refine W.widen (k := cells + 3) (n := slots + 18) (by omega) (by omega) ?_
  refine lv_istore (lv' := (6, .int kk) :: lw0 b x i) hx hb dL_law_1133 hl (by decide) rfl (fun ls hl => ?_)
  refine lv_aload_n hx hb dL_law_1135 rfl (lv_at hl 4 rfl) ?_
  refine law_arg (j := 1) hc hX hbl hbA hS (lv_at hl 6 rfl) (lv_at hl 1 rfl) (by omega) hL dL_law_1136 dL_law_1137 dL_law_1139 dL_law_1140 dL_law_1141 (by decide) ?_
  refine law_arg (j := 2) hc hX hbl hbA hS (lv_at hl 6 rfl) (lv_at hl 1 rfl) (by omega) hL dL_law_1142 dL_law_1143 dL_law_1145 dL_law_1146 dL_law_1147 (by decide) ?_
  have hm := c_X6_camelOf l hlf g M2 (x + 196) md (xs (i + 1)) (xs (i + 2)) hW2.2.1 hR9.ok
  refine k_V1 hc [.int (xs (i + 1)), .int (xs (i + 2))] cw_L_200 rfl dL_law_1148 hm hW2.2.1.o hM hS hl.1 rfl rfl ⟨by omega, by omega⟩ ⟨by omega, by omega⟩ (Nat.le_of_ble_eq_true rfl) (fun H locs hM hS => ?_)
  exact law_tail (q := 1151) hc hlf hW2.mod hR2 hM hS hl ht (fun q9 => by obtain ⟨f, f1, f2⟩ := hf q9; exact ⟨f, (putD_out (by omega)).trans f1, f2⟩) ⟨by omega, by omega⟩ (by omega) (by omega) hK dL_law_1151 dL_law_1153 dL_law_1154 dL_law_1157 dL_law_1159 dL_law_1164 dL_law_1166 dL_law_1169 dL_law_1170 dL_law_1171 dL_law_1172 dL_law_1174 dL_law_1175 dL_law_1176 dL_law_1181 (by decide)
set_option maxHeartbeats 4000000 in
set_option maxRecDepth 100000 in
theorem sg_drawnAt (hc : Cx g p l s m args meth c cL_law 9 RL) (hlf : l.stackTraces = false) (hX : va_X b L xs s s.heap) (hbl : b < s.heap.size) (hbA : ¬ gA g b) (hW : WD g x M cs md) (hR9 : Rel n cs md) (hn : n + 3000 < 2 ^ 30) (hM : hR g M H) (hS : va_S (gA g) s.heap H locs) (hl : lv_has ls 9 (lw0 b x i)) (hi : i + 3 < L) (hL : L ≤ 2048) (hroom : 20 ≤ R.frames ∧ 2000 ≤ R.locals) (hcell : cells + 3 ≤ R.cells) (hslot : slots + 18 ≤ R.slots) (hK : LwK p l e R s m args below meth c (cells + 3) (slots + 18) Q g b x i n) : W p l e R s m args below meth c H locs cells slots Q (F0 m 1184 ls []) := by
  have hx := hc.1
  have hb := hc.2.1
  refine lv_aload_n hx hb dL_law_1184 rfl (lv_at hl 4 rfl) ?_
  refine law_arg (j := 1) hc hX hbl hbA hS (lv_at hl 5 rfl) (lv_at hl 0 rfl) (by omega) hL dL_law_1185 dL_law_1186 dL_law_1188 dL_law_1189 dL_law_1190 (by decide) ?_
  refine law_arg (j := 2) hc hX hbl hbA hS (lv_at hl 5 rfl) (lv_at hl 0 rfl) (by omega) hL dL_law_1191 dL_law_1192 dL_law_1194 dL_law_1195 dL_law_1196 (by decide) ?_
  obtain ⟨M2, kk, cs2, hO, hW2, hR2, ht, hf⟩ := (si_drawnAt hR9 hW (xs (i + 1)) (xs (i + 2))).go hW
  refine lv_aload_n hx hb dL_law_1197 rfl (lv_at hl 2 rfl) ?_
  refine k_SX1 (n := 4) hc [.ref x, .int (xs (i + 1)), .int (xs (i + 2)), .ref (x + 204)] ⟨q_L_201, qt_L_drawnAt, qn_L, qw_L_drawnAt, by decide, by decide, by decide +kernel⟩ dL_law_1198 (c_L_drawnAt l hlf g M x (x + 204) (xs (i + 1)) (xs (i + 2)) hW.1.o (c_X5_drawnAt l hlf g M x cs (xs (i + 1)) (xs (i + 2)) hW.1) hO) hM hS hl.1 rfl rfl ⟨by omega, by omega⟩ ⟨by omega, by omega⟩ (Nat.le_of_ble_eq_true rfl) (fun H locs hM hS => ?_)
  refine W.widen (k := cells + 3) (n := slots + 18) (by omega) (by omega) ?_
  refine lv_istore (lv' := (6, .int kk) :: lw0 b x i) hx hb dL_law_1201 hl (by decide) rfl (fun ls hl => ?_)
  refine lv_aload_n hx hb dL_law_1203 rfl (lv_at hl 4 rfl) ?_
  refine law_arg (j := 1) hc hX hbl hbA hS (lv_at hl 6 rfl) (lv_at hl 1 rfl) (by omega) hL dL_law_1204 dL_law_1205 dL_law_1207 dL_law_1208 dL_law_1209 (by decide) ?_
  refine law_arg (j := 2) hc hX hbl hbA hS (lv_at hl 6 rfl) (lv_at hl 1 rfl) (by omega) hL dL_law_1210 dL_law_1211 dL_law_1213 dL_law_1214 dL_law_1215 (by decide) ?_
  have hm := c_X6_drawnAt l hlf g M2 (x + 196) md (xs (i + 1)) (xs (i + 2)) hW2.2.1 hR9.ok
  refine k_V1 hc [.int (xs (i + 1)), .int (xs (i + 2))] cw_L_203 rfl dL_law_1216 hm hW2.2.1.o hM hS hl.1 rfl rfl ⟨by omega, by omega⟩ ⟨by omega, by omega⟩ (Nat.le_of_ble_eq_true rfl) (fun H locs hM hS => ?_)
  exact law_tail (q := 1219) hc hlf hW2.mod hR2 hM hS hl ht (fun q9 => by obtain ⟨f, f1, f2⟩ := hf q9; exact ⟨f, (putD_out (by omega)).trans f1, f2⟩) ⟨by omega, by omega⟩ (by omega) (by omega) hK dL_law_1219 dL_law_1221 dL_law_1222 dL_law_1225 dL_law_1227 dL_law_1232 dL_law_1234 dL_law_1237 dL_law_1238 dL_law_1239 dL_law_1240 dL_law_1242 dL_law_1243 dL_law_1244 dL_law_1249 (by decide)
set_option maxHeartbeats 4000000 in
set_option maxRecDepth 100000 in
theorem sg_wrongBy (hc : Cx g p l s m args meth c cL_law 9 RL) (hlf : l.stackTraces = false) (hX : va_X b L xs s s.heap) (hbl : b < s.heap.size) (hbA : ¬ gA g b) (hW : WD g x M cs md) (hR9 : Rel n cs md) (hn : n + 3000 < 2 ^ 30) (hM : hR g M H) (hS : va_S (gA g) s.heap H locs) (hl : lv_has ls 9 (lw0 b x i)) (hi : i + 3 < L) (hL : L ≤ 2048) (hroom : 20 ≤ R.frames ∧ 2000 ≤ R.locals) (hcell : cells + 3 ≤ R.cells) (hslot : slots + 18 ≤ R.slots) (hK : LwK p l e R s m args below meth c (cells + 3) (slots + 18) Q g b x i n) : W p l e R s m args below meth c H locs cells slots Q (F0 m 1252 ls []) := by
  have hx := hc.1
  have hb := hc.2.1
  refine lv_aload_n hx hb dL_law_1252 rfl (lv_at hl 4 rfl) ?_
  refine law_arg (j := 1) hc hX hbl hbA hS (lv_at hl 5 rfl) (lv_at hl 0 rfl) (by omega) hL dL_law_1253 dL_law_1254 dL_law_1256 dL_law_1257 dL_law_1258 (by decide) ?_
  obtain ⟨M2, kk, cs2, hO, hW2, hR2, ht, hf⟩ := (si_wrongBy hR9 hW (xs (i + 1))).go hW
  refine lv_aload_n hx hb dL_law_1259 rfl (lv_at hl 2 rfl) ?_
  refine k_SX1 (n := 3) hc [.ref x, .int (xs (i + 1)), .ref (x + 204)] ⟨q_L_204, qt_L_wrongBy, qn_L, qw_L_wrongBy, by decide, by decide, by decide +kernel⟩ dL_law_1260 (c_L_wrongBy l hlf g M x (x + 204) (xs (i + 1)) hW.1.o (c_X5_wrongBy l hlf g M x cs (xs (i + 1)) hW.1) hO) hM hS hl.1 rfl rfl ⟨by omega, by omega⟩ ⟨by omega, by omega⟩ (Nat.le_of_ble_eq_true rfl) (fun H locs hM hS => ?_)
  refine W.widen (k := cells + 3) (n := slots + 18) (by omega) (by omega) ?_
  refine lv_istore (lv' := (6, .int kk) :: lw0 b x i) hx hb dL_law_1263 hl (by decide) rfl (fun ls hl => ?_)
  refine lv_aload_n hx hb dL_law_1265 rfl (lv_at hl 4 rfl) ?_
  refine law_arg (j := 1) hc hX hbl hbA hS (lv_at hl 6 rfl) (lv_at hl 1 rfl) (by omega) hL dL_law_1266 dL_law_1267 dL_law_1269 dL_law_1270 dL_law_1271 (by decide) ?_
  have hm := c_X6_wrongBy l hlf g M2 (x + 196) md (xs (i + 1)) hW2.2.1 hR9.ok
  refine k_V1 hc [.int (xs (i + 1))] cw_L_206 rfl dL_law_1272 hm hW2.2.1.o hM hS hl.1 rfl rfl ⟨by omega, by omega⟩ ⟨by omega, by omega⟩ (Nat.le_of_ble_eq_true rfl) (fun H locs hM hS => ?_)
  exact law_tail (q := 1275) hc hlf hW2.mod hR2 hM hS hl ht (fun q9 => by obtain ⟨f, f1, f2⟩ := hf q9; exact ⟨f, (putD_out (by omega)).trans f1, f2⟩) ⟨by omega, by omega⟩ (by omega) (by omega) hK dL_law_1275 dL_law_1277 dL_law_1278 dL_law_1281 dL_law_1283 dL_law_1288 dL_law_1290 dL_law_1293 dL_law_1294 dL_law_1295 dL_law_1296 dL_law_1298 dL_law_1299 dL_law_1300 dL_law_1305 (by decide)
set_option maxHeartbeats 4000000 in
set_option maxRecDepth 100000 in
theorem sg_seems (hc : Cx g p l s m args meth c cL_law 9 RL) (hlf : l.stackTraces = false) (hX : va_X b L xs s s.heap) (hbl : b < s.heap.size) (hbA : ¬ gA g b) (hW : WD g x M cs md) (hR9 : Rel n cs md) (hn : n + 3000 < 2 ^ 30) (hM : hR g M H) (hS : va_S (gA g) s.heap H locs) (hl : lv_has ls 9 (lw0 b x i)) (hi : i + 3 < L) (hL : L ≤ 2048) (hroom : 20 ≤ R.frames ∧ 2000 ≤ R.locals) (hcell : cells + 3 ≤ R.cells) (hslot : slots + 18 ≤ R.slots) (hK : LwK p l e R s m args below meth c (cells + 3) (slots + 18) Q g b x i n) : W p l e R s m args below meth c H locs cells slots Q (F0 m 1308 ls []) := by
  have hx := hc.1
  have hb := hc.2.1
  refine lv_aload_n hx hb dL_law_1308 rfl (lv_at hl 4 rfl) ?_
  refine law_arg (j := 1) hc hX hbl hbA hS (lv_at hl 5 rfl) (lv_at hl 0 rfl) (by omega) hL dL_law_1309 dL_law_1310 dL_law_1312 dL_law_1313 dL_law_1314 (by decide) ?_
  refine law_arg (j := 2) hc hX hbl hbA hS (lv_at hl 5 rfl) (lv_at hl 0 rfl) (by omega) hL dL_law_1315 dL_law_1316 dL_law_1318 dL_law_1319 dL_law_1320 (by decide) ?_
  obtain ⟨M2, kk, cs2, hO, hW2, hR2, ht, hf⟩ := (si_seems hR9 hW (xs (i + 1)) (xs (i + 2))).go hW
  refine lv_aload_n hx hb dL_law_1321 rfl (lv_at hl 2 rfl) ?_
  refine k_SX1 (n := 4) hc [.ref x, .int (xs (i + 1)), .int (xs (i + 2)), .ref (x + 204)] ⟨q_L_207, qt_L_seems, qn_L, qw_L_seems, by decide, by decide, by decide +kernel⟩ dL_law_1322 (c_L_seems l hlf g M x (x + 204) (xs (i + 1)) (xs (i + 2)) hW.1.o (c_X5_seems l hlf g M x cs (xs (i + 1)) (xs (i + 2)) hW.1) hO) hM hS hl.1 rfl rfl ⟨by omega, by omega⟩ ⟨by omega, by omega⟩ (Nat.le_of_ble_eq_true rfl) (fun H locs hM hS => ?_)
  refine W.widen (k := cells + 3) (n := slots + 18) (by omega) (by omega) ?_
  refine lv_istore (lv' := (6, .int kk) :: lw0 b x i) hx hb dL_law_1325 hl (by decide) rfl (fun ls hl => ?_)
  refine lv_aload_n hx hb dL_law_1327 rfl (lv_at hl 4 rfl) ?_
  refine law_arg (j := 1) hc hX hbl hbA hS (lv_at hl 6 rfl) (lv_at hl 1 rfl) (by omega) hL dL_law_1328 dL_law_1329 dL_law_1331 dL_law_1332 dL_law_1333 (by decide) ?_
  refine law_arg (j := 2) hc hX hbl hbA hS (lv_at hl 6 rfl) (lv_at hl 1 rfl) (by omega) hL dL_law_1334 dL_law_1335 dL_law_1337 dL_law_1338 dL_law_1339 (by decide) ?_
  have hm := c_X6_seems l hlf g M2 (x + 196) md (xs (i + 1)) (xs (i + 2)) hW2.2.1 hR9.ok
  refine k_V1 hc [.int (xs (i + 1)), .int (xs (i + 2))] cw_L_209 rfl dL_law_1340 hm hW2.2.1.o hM hS hl.1 rfl rfl ⟨by omega, by omega⟩ ⟨by omega, by omega⟩ (Nat.le_of_ble_eq_true rfl) (fun H locs hM hS => ?_)
  exact law_tail (q := 1343) hc hlf hW2.mod hR2 hM hS hl ht (fun q9 => by obtain ⟨f, f1, f2⟩ := hf q9; exact ⟨f, (putD_out (by omega)).trans f1, f2⟩) ⟨by omega, by omega⟩ (by omega) (by omega) hK dL_law_1343 dL_law_1345 dL_law_1346 dL_law_1349 dL_law_1351 dL_law_1356 dL_law_1358 dL_law_1361 dL_law_1362 dL_law_1363 dL_law_1364 dL_law_1366 dL_law_1367 dL_law_1368 dL_law_1373 (by decide)
set_option maxHeartbeats 4000000 in
set_option maxRecDepth 100000 in
theorem sg_seemsAgain (hc : Cx g p l s m args meth c cL_law 9 RL) (hlf : l.stackTraces = false) (hX : va_X b L xs s s.heap) (hbl : b < s.heap.size) (hbA : ¬ gA g b) (hW : WD g x M cs md) (hR9 : Rel n cs md) (hn : n + 3000 < 2 ^ 30) (hM : hR g M H) (hS : va_S (gA g) s.heap H locs) (hl : lv_has ls 9 (lw0 b x i)) (hi : i + 3 < L) (hL : L ≤ 2048) (hroom : 20 ≤ R.frames ∧ 2000 ≤ R.locals) (hcell : cells + 3 ≤ R.cells) (hslot : slots + 18 ≤ R.slots) (hK : LwK p l e R s m args below meth c (cells + 3) (slots + 18) Q g b x i n) : W p l e R s m args below meth c H locs cells slots Q (F0 m 1376 ls []) := by
  have hx := hc.1
  have hb := hc.2.1
  refine lv_aload_n hx hb dL_law_1376 rfl (lv_at hl 4 rfl) ?_
  refine law_arg (j := 1) hc hX hbl hbA hS (lv_at hl 5 rfl) (lv_at hl 0 rfl) (by omega) hL dL_law_1377 dL_law_1378 dL_law_1380 dL_law_1381 dL_law_1382 (by decide) ?_
  refine law_arg (j := 2) hc hX hbl hbA hS (lv_at hl 5 rfl) (lv_at hl 0 rfl) (by omega) hL dL_law_1383 dL_law_1384 dL_law_1386 dL_law_1387 dL_law_1388 (by decide) ?_
  obtain ⟨M2, kk, cs2, hO, hW2, hR2, ht, hf⟩ := (si_seemsAgain hR9 hW (xs (i + 1)) (xs (i + 2))).go hW
  refine lv_aload_n hx hb dL_law_1389 rfl (lv_at hl 2 rfl) ?_
  refine k_SX1 (n := 4) hc [.ref x, .int (xs (i + 1)), .int (xs (i + 2)), .ref (x + 204)] ⟨q_L_210, qt_L_seemsAgain, qn_L, qw_L_seemsAgain, by decide, by decide, by decide +kernel⟩ dL_law_1390 (c_L_seemsAgain l hlf g M x (x + 204) (xs (i + 1)) (xs (i + 2)) hW.1.o (c_X5_seemsAgain l hlf g M x cs (xs (i + 1)) (xs (i + 2)) hW.1) hO) hM hS hl.1 rfl rfl ⟨by omega, by omega⟩ ⟨by omega, by omega⟩ (Nat.le_of_ble_eq_true rfl) (fun H locs hM hS => ?_)
  refine W.widen (k := cells + 3) (n := slots + 18) (by omega) (by omega) ?_
  refine lv_istore (lv' := (6, .int kk) :: lw0 b x i) hx hb dL_law_1393 hl (by decide) rfl (fun ls hl => ?_)
  refine lv_aload_n hx hb dL_law_1395 rfl (lv_at hl 4 rfl) ?_
  refine law_arg (j := 1) hc hX hbl hbA hS (lv_at hl 6 rfl) (lv_at hl 1 rfl) (by omega) hL dL_law_1396 dL_law_1397 dL_law_1399 dL_law_1400 dL_law_1401 (by decide) ?_
  refine law_arg (j := 2) hc hX hbl hbA hS (lv_at hl 6 rfl) (lv_at hl 1 rfl) (by omega) hL dL_law_1402 dL_law_1403 dL_law_1405 dL_law_1406 dL_law_1407 (by decide) ?_
  have hm := c_X6_seemsAgain l hlf g M2 (x + 196) md (xs (i + 1)) (xs (i + 2)) hW2.2.1 hR9.ok
  refine k_V1 hc [.int (xs (i + 1)), .int (xs (i + 2))] cw_L_212 rfl dL_law_1408 hm hW2.2.1.o hM hS hl.1 rfl rfl ⟨by omega, by omega⟩ ⟨by omega, by omega⟩ (Nat.le_of_ble_eq_true rfl) (fun H locs hM hS => ?_)
  exact law_tail (q := 1411) hc hlf hW2.mod hR2 hM hS hl ht (fun q9 => by obtain ⟨f, f1, f2⟩ := hf q9; exact ⟨f, (putD_out (by omega)).trans f1, f2⟩) ⟨by omega, by omega⟩ (by omega) (by omega) hK dL_law_1411 dL_law_1413 dL_law_1414 dL_law_1417 dL_law_1419 dL_law_1424 dL_law_1426 dL_law_1429 dL_law_1430 dL_law_1431 dL_law_1432 dL_law_1434 dL_law_1435 dL_law_1436 dL_law_1441 (by decide)
set_option maxHeartbeats 4000000 in
set_option maxRecDepth 100000 in
theorem sg_shimmers (hc : Cx g p l s m args meth c cL_law 9 RL) (hlf : l.stackTraces = false) (hX : va_X b L xs s s.heap) (hbl : b < s.heap.size) (hbA : ¬ gA g b) (hW : WD g x M cs md) (hR9 : Rel n cs md) (hn : n + 3000 < 2 ^ 30) (hM : hR g M H) (hS : va_S (gA g) s.heap H locs) (hl : lv_has ls 9 (lw0 b x i)) (hi : i + 3 < L) (hL : L ≤ 2048) (hroom : 20 ≤ R.frames ∧ 2000 ≤ R.locals) (hcell : cells + 3 ≤ R.cells) (hslot : slots + 18 ≤ R.slots) (hK : LwK p l e R s m args below meth c (cells + 3) (slots + 18) Q g b x i n) : W p l e R s m args below meth c H locs cells slots Q (F0 m 1444 ls []) := by
  have hx := hc.1
  have hb := hc.2.1
  refine lv_aload_n hx hb dL_law_1444 rfl (lv_at hl 4 rfl) ?_
  refine law_arg (j := 1) hc hX hbl hbA hS (lv_at hl 5 rfl) (lv_at hl 0 rfl) (by omega) hL dL_law_1445 dL_law_1446 dL_law_1448 dL_law_1449 dL_law_1450 (by decide) ?_
  refine law_arg (j := 2) hc hX hbl hbA hS (lv_at hl 5 rfl) (lv_at hl 0 rfl) (by omega) hL dL_law_1451 dL_law_1452 dL_law_1454 dL_law_1455 dL_law_1456 (by decide) ?_
  obtain ⟨M2, kk, cs2, hO, hW2, hR2, ht, hf⟩ := (si_shimmers hR9 hW (xs (i + 1)) (xs (i + 2))).go hW
  refine lv_aload_n hx hb dL_law_1457 rfl (lv_at hl 2 rfl) ?_
  refine k_SX1 (n := 4) hc [.ref x, .int (xs (i + 1)), .int (xs (i + 2)), .ref (x + 204)] ⟨q_L_213, qt_L_shimmers, qn_L, qw_L_shimmers, by decide, by decide, by decide +kernel⟩ dL_law_1458 (c_L_shimmers l hlf g M x (x + 204) (xs (i + 1)) (xs (i + 2)) hW.1.o (c_X5_shimmers l hlf g M x cs (xs (i + 1)) (xs (i + 2)) hW.1) hO (fun v M1 hq => bres hq)) hM hS hl.1 rfl rfl ⟨by omega, by omega⟩ ⟨by omega, by omega⟩ (Nat.le_of_ble_eq_true rfl) (fun H locs hM hS => ?_)
  refine W.widen (k := cells + 3) (n := slots + 18) (by omega) (by omega) ?_
  refine lv_istore (lv' := (6, .int kk) :: lw0 b x i) hx hb dL_law_1461 hl (by decide) rfl (fun ls hl => ?_)
  refine lv_aload_n hx hb dL_law_1463 rfl (lv_at hl 4 rfl) ?_
  refine law_arg (j := 1) hc hX hbl hbA hS (lv_at hl 6 rfl) (lv_at hl 1 rfl) (by omega) hL dL_law_1464 dL_law_1465 dL_law_1467 dL_law_1468 dL_law_1469 (by decide) ?_
  refine law_arg (j := 2) hc hX hbl hbA hS (lv_at hl 6 rfl) (lv_at hl 1 rfl) (by omega) hL dL_law_1470 dL_law_1471 dL_law_1473 dL_law_1474 dL_law_1475 (by decide) ?_
  have hm := c_X6_shimmers l hlf g M2 (x + 196) md (xs (i + 1)) (xs (i + 2)) hW2.2.1 hR9.ok
  refine k_V1 hc [.int (xs (i + 1)), .int (xs (i + 2))] cw_L_215 rfl dL_law_1476 hm hW2.2.1.o hM hS hl.1 rfl rfl ⟨by omega, by omega⟩ ⟨by omega, by omega⟩ (Nat.le_of_ble_eq_true rfl) (fun H locs hM hS => ?_)
  exact law_tailB (q := 1479) hc hlf hW2.mod hR2 hM hS hl ht (fun q9 => by obtain ⟨f, f1, f2⟩ := hf q9; exact ⟨f, (putD_out (by omega)).trans f1, f2⟩) bI_01 ⟨by omega, by omega⟩ (by omega) (by omega) hK dL_law_1479 dL_law_1481 dL_law_1482 dL_law_1485 dL_law_1487 dL_law_1492 dL_law_1494 dL_law_1497 dL_law_1498 dL_law_1499 dL_law_1500 dL_law_1502 dL_law_1505 dL_law_1506 dL_law_1509 dL_law_1510 dL_law_1511 dL_law_1516 (by decide)
set_option maxHeartbeats 4000000 in
set_option maxRecDepth 100000 in
theorem sg_bestPost (hc : Cx g p l s m args meth c cL_law 9 RL) (hlf : l.stackTraces = false) (hX : va_X b L xs s s.heap) (hbl : b < s.heap.size) (hbA : ¬ gA g b) (hW : WD g x M cs md) (hR9 : Rel n cs md) (hn : n + 3000 < 2 ^ 30) (hM : hR g M H) (hS : va_S (gA g) s.heap H locs) (hl : lv_has ls 9 (lw0 b x i)) (hi : i + 3 < L) (hL : L ≤ 2048) (hroom : 20 ≤ R.frames ∧ 2000 ≤ R.locals) (hcell : cells + 3 ≤ R.cells) (hslot : slots + 18 ≤ R.slots) (hK : LwK p l e R s m args below meth c (cells + 3) (slots + 18) Q g b x i n) : W p l e R s m args below meth c H locs cells slots Q (F0 m 1519 ls []) := by
  have hx := hc.1
  have hb := hc.2.1
  refine lv_aload_n hx hb dL_law_1519 rfl (lv_at hl 4 rfl) ?_
  refine law_arg (j := 1) hc hX hbl hbA hS (lv_at hl 5 rfl) (lv_at hl 0 rfl) (by omega) hL dL_law_1520 dL_law_1521 dL_law_1523 dL_law_1524 dL_law_1525 (by decide) ?_
  obtain ⟨M2, kk, cs2, hO, hW2, hR2, ht, hf⟩ := (si_bestPost hR9 hW (xs (i + 1))).go hW
  refine lv_aload_n hx hb dL_law_1526 rfl (lv_at hl 2 rfl) ?_
  refine k_SX1 (n := 3) hc [.ref x, .int (xs (i + 1)), .ref (x + 204)] ⟨q_L_216, qt_L_bestPost, qn_L, qw_L_bestPost, by decide, by decide, by decide +kernel⟩ dL_law_1527 (c_L_bestPost l hlf g M x (x + 204) (xs (i + 1)) hW.1.o (c_X5_bestPost l hlf g M x cs (xs (i + 1)) hW.1) hO) hM hS hl.1 rfl rfl ⟨by omega, by omega⟩ ⟨by omega, by omega⟩ (Nat.le_of_ble_eq_true rfl) (fun H locs hM hS => ?_)
  refine W.widen (k := cells + 3) (n := slots + 18) (by omega) (by omega) ?_
  refine lv_istore (lv' := (6, .int kk) :: lw0 b x i) hx hb dL_law_1530 hl (by decide) rfl (fun ls hl => ?_)
  refine lv_aload_n hx hb dL_law_1532 rfl (lv_at hl 4 rfl) ?_
  refine law_arg (j := 1) hc hX hbl hbA hS (lv_at hl 6 rfl) (lv_at hl 1 rfl) (by omega) hL dL_law_1533 dL_law_1534 dL_law_1536 dL_law_1537 dL_law_1538 (by decide) ?_
  have hm := c_X6_bestPost l hlf g M2 (x + 196) md (xs (i + 1)) hW2.2.1 hR9.ok
  refine k_V1 hc [.int (xs (i + 1))] cw_L_218 rfl dL_law_1539 hm hW2.2.1.o hM hS hl.1 rfl rfl ⟨by omega, by omega⟩ ⟨by omega, by omega⟩ (Nat.le_of_ble_eq_true rfl) (fun H locs hM hS => ?_)
  exact law_tail (q := 1542) hc hlf hW2.mod hR2 hM hS hl ht (fun q9 => by obtain ⟨f, f1, f2⟩ := hf q9; exact ⟨f, (putD_out (by omega)).trans f1, f2⟩) ⟨by omega, by omega⟩ (by omega) (by omega) hK dL_law_1542 dL_law_1544 dL_law_1545 dL_law_1548 dL_law_1550 dL_law_1555 dL_law_1557 dL_law_1560 dL_law_1561 dL_law_1562 dL_law_1563 dL_law_1565 dL_law_1566 dL_law_1567 dL_law_1572 (by decide)
set_option maxHeartbeats 4000000 in
set_option maxRecDepth 100000 in
theorem sg_clearIn (hc : Cx g p l s m args meth c cL_law 9 RL) (hlf : l.stackTraces = false) (hX : va_X b L xs s s.heap) (hbl : b < s.heap.size) (hbA : ¬ gA g b) (hW : WD g x M cs md) (hR9 : Rel n cs md) (hn : n + 3000 < 2 ^ 30) (hM : hR g M H) (hS : va_S (gA g) s.heap H locs) (hl : lv_has ls 9 (lw0 b x i)) (hi : i + 3 < L) (hL : L ≤ 2048) (hroom : 20 ≤ R.frames ∧ 2000 ≤ R.locals) (hcell : cells + 3 ≤ R.cells) (hslot : slots + 18 ≤ R.slots) (hK : LwK p l e R s m args below meth c (cells + 3) (slots + 18) Q g b x i n) : W p l e R s m args below meth c H locs cells slots Q (F0 m 1575 ls []) := by
  have hx := hc.1
  have hb := hc.2.1
  refine lv_aload_n hx hb dL_law_1575 rfl (lv_at hl 4 rfl) ?_
  refine law_arg (j := 1) hc hX hbl hbA hS (lv_at hl 5 rfl) (lv_at hl 0 rfl) (by omega) hL dL_law_1576 dL_law_1577 dL_law_1579 dL_law_1580 dL_law_1581 (by decide) ?_
  refine law_arg (j := 2) hc hX hbl hbA hS (lv_at hl 5 rfl) (lv_at hl 0 rfl) (by omega) hL dL_law_1582 dL_law_1583 dL_law_1585 dL_law_1586 dL_law_1587 (by decide) ?_
  obtain ⟨M2, kk, cs2, hO, hW2, hR2, ht, hf⟩ := (si_clearIn hR9 hW (xs (i + 1)) (xs (i + 2))).go hW
  refine lv_aload_n hx hb dL_law_1588 rfl (lv_at hl 2 rfl) ?_
  refine k_SX1 (n := 4) hc [.ref x, .int (xs (i + 1)), .int (xs (i + 2)), .ref (x + 204)] ⟨q_L_219, qt_L_clearIn, qn_L, qw_L_clearIn, by decide, by decide, by decide +kernel⟩ dL_law_1589 (c_L_clearIn l hlf g M x (x + 204) (xs (i + 1)) (xs (i + 2)) hW.1.o (c_X5_clearIn l hlf g M x cs (xs (i + 1)) (xs (i + 2)) hW.1) hO) hM hS hl.1 rfl rfl ⟨by omega, by omega⟩ ⟨by omega, by omega⟩ (Nat.le_of_ble_eq_true rfl) (fun H locs hM hS => ?_)
  refine W.widen (k := cells + 3) (n := slots + 18) (by omega) (by omega) ?_
  refine lv_istore (lv' := (6, .int kk) :: lw0 b x i) hx hb dL_law_1592 hl (by decide) rfl (fun ls hl => ?_)
  refine lv_aload_n hx hb dL_law_1594 rfl (lv_at hl 4 rfl) ?_
  refine law_arg (j := 1) hc hX hbl hbA hS (lv_at hl 6 rfl) (lv_at hl 1 rfl) (by omega) hL dL_law_1595 dL_law_1596 dL_law_1598 dL_law_1599 dL_law_1600 (by decide) ?_
  refine law_arg (j := 2) hc hX hbl hbA hS (lv_at hl 6 rfl) (lv_at hl 1 rfl) (by omega) hL dL_law_1601 dL_law_1602 dL_law_1604 dL_law_1605 dL_law_1606 (by decide) ?_
  have hm := c_X6_clearIn l hlf g M2 (x + 196) md (xs (i + 1)) (xs (i + 2)) hW2.2.1 hR9.ok
  refine k_V1 hc [.int (xs (i + 1)), .int (xs (i + 2))] cw_L_221 rfl dL_law_1607 hm hW2.2.1.o hM hS hl.1 rfl rfl ⟨by omega, by omega⟩ ⟨by omega, by omega⟩ (Nat.le_of_ble_eq_true rfl) (fun H locs hM hS => ?_)
  exact law_tail (q := 1610) hc hlf hW2.mod hR2 hM hS hl ht (fun q9 => by obtain ⟨f, f1, f2⟩ := hf q9; exact ⟨f, (putD_out (by omega)).trans f1, f2⟩) ⟨by omega, by omega⟩ (by omega) (by omega) hK dL_law_1610 dL_law_1612 dL_law_1613 dL_law_1616 dL_law_1618 dL_law_1623 dL_law_1625 dL_law_1628 dL_law_1629 dL_law_1630 dL_law_1631 dL_law_1633 dL_law_1634 dL_law_1635 dL_law_1640 (by decide)
set_option maxHeartbeats 4000000 in
set_option maxRecDepth 100000 in
theorem sg_heatIn (hc : Cx g p l s m args meth c cL_law 9 RL) (hlf : l.stackTraces = false) (hX : va_X b L xs s s.heap) (hbl : b < s.heap.size) (hbA : ¬ gA g b) (hW : WD g x M cs md) (hR9 : Rel n cs md) (hn : n + 3000 < 2 ^ 30) (hM : hR g M H) (hS : va_S (gA g) s.heap H locs) (hl : lv_has ls 9 (lw0 b x i)) (hi : i + 3 < L) (hL : L ≤ 2048) (hroom : 20 ≤ R.frames ∧ 2000 ≤ R.locals) (hcell : cells + 3 ≤ R.cells) (hslot : slots + 18 ≤ R.slots) (hK : LwK p l e R s m args below meth c (cells + 3) (slots + 18) Q g b x i n) : W p l e R s m args below meth c H locs cells slots Q (F0 m 1643 ls []) := by
  have hx := hc.1
  have hb := hc.2.1
  refine lv_aload_n hx hb dL_law_1643 rfl (lv_at hl 4 rfl) ?_
  refine law_arg (j := 1) hc hX hbl hbA hS (lv_at hl 5 rfl) (lv_at hl 0 rfl) (by omega) hL dL_law_1644 dL_law_1645 dL_law_1647 dL_law_1648 dL_law_1649 (by decide) ?_
  obtain ⟨M2, kk, cs2, hO, hW2, hR2, ht, hf⟩ := (si_heatIn hR9 hW (xs (i + 1))).go hW
  refine lv_aload_n hx hb dL_law_1650 rfl (lv_at hl 2 rfl) ?_
  refine k_SX1 (n := 3) hc [.ref x, .int (xs (i + 1)), .ref (x + 204)] ⟨q_L_222, qt_L_heatIn, qn_L, qw_L_heatIn, by decide, by decide, by decide +kernel⟩ dL_law_1651 (c_L_heatIn l hlf g M x (x + 204) (xs (i + 1)) hW.1.o (c_X5_heatIn l hlf g M x cs (xs (i + 1)) hW.1) hO) hM hS hl.1 rfl rfl ⟨by omega, by omega⟩ ⟨by omega, by omega⟩ (Nat.le_of_ble_eq_true rfl) (fun H locs hM hS => ?_)
  refine W.widen (k := cells + 3) (n := slots + 18) (by omega) (by omega) ?_
  refine lv_istore (lv' := (6, .int kk) :: lw0 b x i) hx hb dL_law_1654 hl (by decide) rfl (fun ls hl => ?_)
  refine lv_aload_n hx hb dL_law_1656 rfl (lv_at hl 4 rfl) ?_
  refine law_arg (j := 1) hc hX hbl hbA hS (lv_at hl 6 rfl) (lv_at hl 1 rfl) (by omega) hL dL_law_1657 dL_law_1658 dL_law_1660 dL_law_1661 dL_law_1662 (by decide) ?_
  have hm := c_X6_heatIn l hlf g M2 (x + 196) md (xs (i + 1)) hW2.2.1 hR9.ok
  refine k_V1 hc [.int (xs (i + 1))] cw_L_224 rfl dL_law_1663 hm hW2.2.1.o hM hS hl.1 rfl rfl ⟨by omega, by omega⟩ ⟨by omega, by omega⟩ (Nat.le_of_ble_eq_true rfl) (fun H locs hM hS => ?_)
  exact law_tail (q := 1666) hc hlf hW2.mod hR2 hM hS hl ht (fun q9 => by obtain ⟨f, f1, f2⟩ := hf q9; exact ⟨f, (putD_out (by omega)).trans f1, f2⟩) ⟨by omega, by omega⟩ (by omega) (by omega) hK dL_law_1666 dL_law_1668 dL_law_1669 dL_law_1672 dL_law_1674 dL_law_1679 dL_law_1681 dL_law_1684 dL_law_1685 dL_law_1686 dL_law_1687 dL_law_1689 dL_law_1690 dL_law_1691 dL_law_1696 (by decide)
set_option maxHeartbeats 4000000 in
set_option maxRecDepth 100000 in
theorem sg_lostIn (hc : Cx g p l s m args meth c cL_law 9 RL) (hlf : l.stackTraces = false) (hX : va_X b L xs s s.heap) (hbl : b < s.heap.size) (hbA : ¬ gA g b) (hW : WD g x M cs md) (hR9 : Rel n cs md) (hn : n + 3000 < 2 ^ 30) (hM : hR g M H) (hS : va_S (gA g) s.heap H locs) (hl : lv_has ls 9 (lw0 b x i)) (hi : i + 3 < L) (hL : L ≤ 2048) (hroom : 20 ≤ R.frames ∧ 2000 ≤ R.locals) (hcell : cells + 3 ≤ R.cells) (hslot : slots + 18 ≤ R.slots) (hK : LwK p l e R s m args below meth c (cells + 3) (slots + 18) Q g b x i n) : W p l e R s m args below meth c H locs cells slots Q (F0 m 1699 ls []) := by
  have hx := hc.1
  have hb := hc.2.1
  refine lv_aload_n hx hb dL_law_1699 rfl (lv_at hl 4 rfl) ?_
  refine law_arg (j := 1) hc hX hbl hbA hS (lv_at hl 5 rfl) (lv_at hl 0 rfl) (by omega) hL dL_law_1700 dL_law_1701 dL_law_1703 dL_law_1704 dL_law_1705 (by decide) ?_
  obtain ⟨M2, kk, cs2, hO, hW2, hR2, ht, hf⟩ := (si_lostIn hR9 hW (xs (i + 1))).go hW
  refine lv_aload_n hx hb dL_law_1706 rfl (lv_at hl 2 rfl) ?_
  refine k_SX1 (n := 3) hc [.ref x, .int (xs (i + 1)), .ref (x + 204)] ⟨q_L_225, qt_L_lostIn, qn_L, qw_L_lostIn, by decide, by decide, by decide +kernel⟩ dL_law_1707 (c_L_lostIn l hlf g M x (x + 204) (xs (i + 1)) hW.1.o (c_X5_lostIn l hlf g M x cs (xs (i + 1)) hW.1) hO) hM hS hl.1 rfl rfl ⟨by omega, by omega⟩ ⟨by omega, by omega⟩ (Nat.le_of_ble_eq_true rfl) (fun H locs hM hS => ?_)
  refine W.widen (k := cells + 3) (n := slots + 18) (by omega) (by omega) ?_
  refine lv_istore (lv' := (6, .int kk) :: lw0 b x i) hx hb dL_law_1710 hl (by decide) rfl (fun ls hl => ?_)
  refine lv_aload_n hx hb dL_law_1712 rfl (lv_at hl 4 rfl) ?_
  refine law_arg (j := 1) hc hX hbl hbA hS (lv_at hl 6 rfl) (lv_at hl 1 rfl) (by omega) hL dL_law_1713 dL_law_1714 dL_law_1716 dL_law_1717 dL_law_1718 (by decide) ?_
  have hm := c_X6_lostIn l hlf g M2 (x + 196) md (xs (i + 1)) hW2.2.1 hR9.ok
  refine k_V1 hc [.int (xs (i + 1))] cw_L_227 rfl dL_law_1719 hm hW2.2.1.o hM hS hl.1 rfl rfl ⟨by omega, by omega⟩ ⟨by omega, by omega⟩ (Nat.le_of_ble_eq_true rfl) (fun H locs hM hS => ?_)
  exact law_tail (q := 1722) hc hlf hW2.mod hR2 hM hS hl ht (fun q9 => by obtain ⟨f, f1, f2⟩ := hf q9; exact ⟨f, (putD_out (by omega)).trans f1, f2⟩) ⟨by omega, by omega⟩ (by omega) (by omega) hK dL_law_1722 dL_law_1724 dL_law_1725 dL_law_1728 dL_law_1730 dL_law_1735 dL_law_1737 dL_law_1740 dL_law_1741 dL_law_1742 dL_law_1743 dL_law_1745 dL_law_1746 dL_law_1747 dL_law_1752 (by decide)
set_option maxHeartbeats 4000000 in
set_option maxRecDepth 100000 in
theorem sg_nearest (hc : Cx g p l s m args meth c cL_law 9 RL) (hlf : l.stackTraces = false) (hX : va_X b L xs s s.heap) (hbl : b < s.heap.size) (hbA : ¬ gA g b) (hW : WD g x M cs md) (hR9 : Rel n cs md) (hn : n + 3000 < 2 ^ 30) (hM : hR g M H) (hS : va_S (gA g) s.heap H locs) (hl : lv_has ls 9 (lw0 b x i)) (hi : i + 3 < L) (hL : L ≤ 2048) (hroom : 20 ≤ R.frames ∧ 2000 ≤ R.locals) (hcell : cells + 3 ≤ R.cells) (hslot : slots + 18 ≤ R.slots) (hK : LwK p l e R s m args below meth c (cells + 3) (slots + 18) Q g b x i n) : W p l e R s m args below meth c H locs cells slots Q (F0 m 1755 ls []) := by
  have hx := hc.1
  have hb := hc.2.1
  refine lv_aload_n hx hb dL_law_1755 rfl (lv_at hl 4 rfl) ?_
  refine law_arg (j := 1) hc hX hbl hbA hS (lv_at hl 5 rfl) (lv_at hl 0 rfl) (by omega) hL dL_law_1756 dL_law_1757 dL_law_1759 dL_law_1760 dL_law_1761 (by decide) ?_
  obtain ⟨M2, kk, cs2, hO, hW2, hR2, ht, hf⟩ := (si_nearest hR9 hW (xs (i + 1))).go hW
  refine lv_aload_n hx hb dL_law_1762 rfl (lv_at hl 2 rfl) ?_
  refine k_SX1 (n := 3) hc [.ref x, .int (xs (i + 1)), .ref (x + 204)] ⟨q_L_228, qt_L_nearest, qn_L, qw_L_nearest, by decide, by decide, by decide +kernel⟩ dL_law_1763 (c_L_nearest l hlf g M x (x + 204) (xs (i + 1)) hW.1.o (c_X5_nearest l hlf g M x cs (xs (i + 1)) hW.1) hO) hM hS hl.1 rfl rfl ⟨by omega, by omega⟩ ⟨by omega, by omega⟩ (Nat.le_of_ble_eq_true rfl) (fun H locs hM hS => ?_)
  refine W.widen (k := cells + 3) (n := slots + 18) (by omega) (by omega) ?_
  refine lv_istore (lv' := (6, .int kk) :: lw0 b x i) hx hb dL_law_1766 hl (by decide) rfl (fun ls hl => ?_)
  refine lv_aload_n hx hb dL_law_1768 rfl (lv_at hl 4 rfl) ?_
  refine law_arg (j := 1) hc hX hbl hbA hS (lv_at hl 6 rfl) (lv_at hl 1 rfl) (by omega) hL dL_law_1769 dL_law_1770 dL_law_1772 dL_law_1773 dL_law_1774 (by decide) ?_
  have hm := c_X6_nearest l hlf g M2 (x + 196) md (xs (i + 1)) hW2.2.1 hR9.ok
  refine k_V1 hc [.int (xs (i + 1))] cw_L_230 rfl dL_law_1775 hm hW2.2.1.o hM hS hl.1 rfl rfl ⟨by omega, by omega⟩ ⟨by omega, by omega⟩ (Nat.le_of_ble_eq_true rfl) (fun H locs hM hS => ?_)
  exact law_tail (q := 1778) hc hlf hW2.mod hR2 hM hS hl ht (fun q9 => by obtain ⟨f, f1, f2⟩ := hf q9; exact ⟨f, (putD_out (by omega)).trans f1, f2⟩) ⟨by omega, by omega⟩ (by omega) (by omega) hK dL_law_1778 dL_law_1780 dL_law_1781 dL_law_1784 dL_law_1786 dL_law_1791 dL_law_1793 dL_law_1796 dL_law_1797 dL_law_1798 dL_law_1799 dL_law_1801 dL_law_1802 dL_law_1803 dL_law_1808 (by decide)
set_option maxHeartbeats 4000000 in
set_option maxRecDepth 100000 in
theorem sg_append (hc : Cx g p l s m args meth c cL_law 9 RL) (hlf : l.stackTraces = false) (hX : va_X b L xs s s.heap) (hbl : b < s.heap.size) (hbA : ¬ gA g b) (hW : WD g x M cs md) (hR9 : Rel n cs md) (hn : n + 3000 < 2 ^ 30) (hM : hR g M H) (hS : va_S (gA g) s.heap H locs) (hl : lv_has ls 9 (lw0 b x i)) (hi : i + 3 < L) (hL : L ≤ 2048) (hroom : 20 ≤ R.frames ∧ 2000 ≤ R.locals) (hcell : cells + 3 ≤ R.cells) (hslot : slots + 18 ≤ R.slots) (hK : LwK p l e R s m args below meth c (cells + 3) (slots + 18) Q g b x i n) : W p l e R s m args below meth c H locs cells slots Q (F0 m 1811 ls []) := by
  have hx := hc.1
  have hb := hc.2.1
  refine lv_aload_n hx hb dL_law_1811 rfl (lv_at hl 4 rfl) ?_
  refine law_arg (j := 1) hc hX hbl hbA hS (lv_at hl 5 rfl) (lv_at hl 0 rfl) (by omega) hL dL_law_1812 dL_law_1813 dL_law_1815 dL_law_1816 dL_law_1817 (by decide) ?_
  refine lv_i2c (v := c2I (xs (i + 1))) hx hb dL_law_1818 rfl ?_
  obtain ⟨M2, kk, cs2, hO, hW2, hR2, ht, hf⟩ := (si_append hR9 hW (c2I_ok (xs (i + 1)))).go hW
  refine lv_aload_n hx hb dL_law_1819 rfl (lv_at hl 2 rfl) ?_
  refine k_SX1 (n := 3) hc [.ref x, .int (c2I (xs (i + 1))), .ref (x + 204)] ⟨q_L_231, qt_L_append, qn_L, qw_L_append, by decide, by decide, by decide +kernel⟩ dL_law_1820 (c_L_append l hlf g M x (x + 204) (c2I (xs (i + 1))) hW.1.o (c_X5_append l hlf g M x cs (c2I (xs (i + 1))) hW.1 (c2I_ok _)) hO) hM hS hl.1 rfl rfl ⟨by omega, by omega⟩ ⟨by omega, by omega⟩ (Nat.le_of_ble_eq_true rfl) (fun H locs hM hS => ?_)
  refine W.widen (k := cells + 3) (n := slots + 18) (by omega) (by omega) ?_
  refine lv_istore (lv' := (6, .int kk) :: lw0 b x i) hx hb dL_law_1823 hl (by decide) rfl (fun ls hl => ?_)
  refine lv_aload_n hx hb dL_law_1825 rfl (lv_at hl 4 rfl) ?_
  refine law_arg (j := 1) hc hX hbl hbA hS (lv_at hl 6 rfl) (lv_at hl 1 rfl) (by omega) hL dL_law_1826 dL_law_1827 dL_law_1829 dL_law_1830 dL_law_1831 (by decide) ?_
  refine lv_i2c (v := c2I (xs (i + 1))) hx hb dL_law_1832 rfl ?_
  have hm := c_X6_append l hlf g M2 (x + 196) md (c2I (xs (i + 1))) hW2.2.1 hR9.tok (c2I_ok _)
  refine k_V1 hc [.int (c2I (xs (i + 1)))] cw_L_234 rfl dL_law_1833 hm hW2.2.1.o hM hS hl.1 rfl rfl ⟨by omega, by omega⟩ ⟨by omega, by omega⟩ (Nat.le_of_ble_eq_true rfl) (fun H locs hM hS => ?_)
  exact law_tail (q := 1836) hc hlf hW2.mod hR2 hM hS hl ht (fun q9 => by obtain ⟨f, f1, f2⟩ := hf q9; exact ⟨f, (putD_out (by omega)).trans f1, f2⟩) ⟨by omega, by omega⟩ (by omega) (by omega) hK dL_law_1836 dL_law_1838 dL_law_1839 dL_law_1842 dL_law_1844 dL_law_1849 dL_law_1851 dL_law_1854 dL_law_1855 dL_law_1856 dL_law_1857 dL_law_1859 dL_law_1860 dL_law_1861 dL_law_1866 (by decide)
set_option maxHeartbeats 4000000 in
set_option maxRecDepth 100000 in
theorem sg_commands (hc : Cx g p l s m args meth c cL_law 9 RL) (hlf : l.stackTraces = false) (hX : va_X b L xs s s.heap) (hbl : b < s.heap.size) (hbA : ¬ gA g b) (hW : WD g x M cs md) (hR9 : Rel n cs md) (hn : n + 3000 < 2 ^ 30) (hM : hR g M H) (hS : va_S (gA g) s.heap H locs) (hl : lv_has ls 9 (lw0 b x i)) (hi : i + 3 < L) (hL : L ≤ 2048) (hroom : 20 ≤ R.frames ∧ 2000 ≤ R.locals) (hcell : cells + 3 ≤ R.cells) (hslot : slots + 18 ≤ R.slots) (hK : LwK p l e R s m args below meth c (cells + 3) (slots + 18) Q g b x i n) : W p l e R s m args below meth c H locs cells slots Q (F0 m 1869 ls []) := by
  have hx := hc.1
  have hb := hc.2.1
  refine lv_aload_n hx hb dL_law_1869 rfl (lv_at hl 4 rfl) ?_
  obtain ⟨M2, kk, cs2, hO, hW2, hR2, ht, hf⟩ := (si_commands (M := M) (x := x) (g := g) hR9 (by omega)).go hW
  refine lv_aload_n hx hb dL_law_1870 rfl (lv_at hl 2 rfl) ?_
  refine k_SX1 (n := 2) hc [.ref x, .ref (x + 204)] ⟨q_L_235, qt_L_commands, qn_L, qw_L_commands, by decide, by decide, by decide +kernel⟩ dL_law_1871 (c_L_commands l hlf g M x (x + 204)  hW.1.o (c_X5_commands l hlf g M x cs hW.1 hR9.nx hR9.sgo) hO) hM hS hl.1 rfl rfl ⟨by omega, by omega⟩ ⟨by omega, by omega⟩ (Nat.le_of_ble_eq_true rfl) (fun H locs hM hS => ?_)
  refine W.widen (k := cells + 3) (n := slots + 18) (by omega) (by omega) ?_
  refine lv_istore (lv' := (6, .int kk) :: lw0 b x i) hx hb dL_law_1874 hl (by decide) rfl (fun ls hl => ?_)
  refine lv_aload_n hx hb dL_law_1876 rfl (lv_at hl 4 rfl) ?_
  have hm := c_X6_commands l hlf g M2 (x + 196) md (fun k f => ∃ fl, FR (n + 48 * k) fl f) hW2.2.1 hR9.un hR9.tok hR9.cho (co_G (by omega) hR9).1 (co_G (by omega) hR9).2.1 (co_G (by omega) hR9).2.2
  refine k_V1 hc [] cw_L_237 rfl dL_law_1877 hm hW2.2.1.o hM hS hl.1 rfl rfl ⟨by omega, by omega⟩ ⟨by omega, by omega⟩ (Nat.le_of_ble_eq_true rfl) (fun H locs hM hS => ?_)
  exact law_tail (q := 1880) hc hlf hW2.mod hR2 hM hS hl ht (fun q9 => by obtain ⟨f, f1, f2⟩ := hf q9; exact ⟨f, (putD_out (by omega)).trans f1, f2⟩) ⟨by omega, by omega⟩ (by omega) (by omega) hK dL_law_1880 dL_law_1882 dL_law_1883 dL_law_1886 dL_law_1888 dL_law_1893 dL_law_1895 dL_law_1898 dL_law_1899 dL_law_1900 dL_law_1901 dL_law_1903 dL_law_1904 dL_law_1905 dL_law_1910 (by decide)
set_option maxHeartbeats 4000000 in
set_option maxRecDepth 100000 in
theorem sg_reason (hc : Cx g p l s m args meth c cL_law 9 RL) (hlf : l.stackTraces = false) (hX : va_X b L xs s s.heap) (hbl : b < s.heap.size) (hbA : ¬ gA g b) (hW : WD g x M cs md) (hR9 : Rel n cs md) (hn : n + 3000 < 2 ^ 30) (hM : hR g M H) (hS : va_S (gA g) s.heap H locs) (hl : lv_has ls 9 (lw0 b x i)) (hi : i + 3 < L) (hL : L ≤ 2048) (hroom : 20 ≤ R.frames ∧ 2000 ≤ R.locals) (hcell : cells + 3 ≤ R.cells) (hslot : slots + 18 ≤ R.slots) (hK : LwK p l e R s m args below meth c (cells + 3) (slots + 18) Q g b x i n) : W p l e R s m args below meth c H locs cells slots Q (F0 m 1926 ls []) := by
  have hx := hc.1
  have hb := hc.2.1
  refine lv_aload_n hx hb dL_law_1926 rfl (lv_at hl 4 rfl) ?_
  refine law_arg (j := 1) hc hX hbl hbA hS (lv_at hl 5 rfl) (lv_at hl 0 rfl) (by omega) hL dL_law_1927 dL_law_1928 dL_law_1930 dL_law_1931 dL_law_1932 (by decide) ?_
  obtain ⟨M2, kk, cs2, hO, hW2, hR2, ht, hf⟩ := (si_reason hR9 hW (xs (i + 1))).go hW
  refine lv_aload_n hx hb dL_law_1933 rfl (lv_at hl 2 rfl) ?_
  refine k_SX1 (n := 3) hc [.ref x, .int (xs (i + 1)), .ref (x + 204)] ⟨q_L_242, qt_L_reason, qn_L, qw_L_reason, by decide, by decide, by decide +kernel⟩ dL_law_1934 (c_L_reason l hlf g M x (x + 204) (xs (i + 1)) hW.1.o (c_X5_reason l hlf g M x cs (xs (i + 1)) hW.1) hO) hM hS hl.1 rfl rfl ⟨by omega, by omega⟩ ⟨by omega, by omega⟩ (Nat.le_of_ble_eq_true rfl) (fun H locs hM hS => ?_)
  refine W.widen (k := cells + 3) (n := slots + 18) (by omega) (by omega) ?_
  refine lv_istore (lv' := (6, .int kk) :: lw0 b x i) hx hb dL_law_1937 hl (by decide) rfl (fun ls hl => ?_)
  refine lv_aload_n hx hb dL_law_1939 rfl (lv_at hl 4 rfl) ?_
  refine law_arg (j := 1) hc hX hbl hbA hS (lv_at hl 6 rfl) (lv_at hl 1 rfl) (by omega) hL dL_law_1940 dL_law_1941 dL_law_1943 dL_law_1944 dL_law_1945 (by decide) ?_
  have hm := c_X6_reason l hlf g M2 (x + 196) md (xs (i + 1)) hW2.2.1 hR9.ok
  refine k_V1 hc [.int (xs (i + 1))] cw_L_244 rfl dL_law_1946 hm hW2.2.1.o hM hS hl.1 rfl rfl ⟨by omega, by omega⟩ ⟨by omega, by omega⟩ (Nat.le_of_ble_eq_true rfl) (fun H locs hM hS => ?_)
  exact law_tail (q := 1949) hc hlf hW2.mod hR2 hM hS hl ht (fun q9 => by obtain ⟨f, f1, f2⟩ := hf q9; exact ⟨f, (putD_out (by omega)).trans f1, f2⟩) ⟨by omega, by omega⟩ (by omega) (by omega) hK dL_law_1949 dL_law_1951 dL_law_1952 dL_law_1955 dL_law_1957 dL_law_1962 dL_law_1964 dL_law_1967 dL_law_1968 dL_law_1969 dL_law_1970 dL_law_1972 dL_law_1973 dL_law_1974 dL_law_1979 (by decide)
set_option maxHeartbeats 4000000 in
set_option maxRecDepth 100000 in
theorem sg_line (hc : Cx g p l s m args meth c cL_law 9 RL) (hlf : l.stackTraces = false) (hX : va_X b L xs s s.heap) (hbl : b < s.heap.size) (hbA : ¬ gA g b) (hW : WD g x M cs md) (hR9 : Rel n cs md) (hn : n + 3000 < 2 ^ 30) (hM : hR g M H) (hS : va_S (gA g) s.heap H locs) (hl : lv_has ls 9 (lw0 b x i)) (hi : i + 3 < L) (hL : L ≤ 2048) (hroom : 20 ≤ R.frames ∧ 2000 ≤ R.locals) (hcell : cells + 3 ≤ R.cells) (hslot : slots + 18 ≤ R.slots) (hK : LwK p l e R s m args below meth c (cells + 3) (slots + 18) Q g b x i n) : W p l e R s m args below meth c H locs cells slots Q (F0 m 1982 ls []) := by
  have hx := hc.1
  have hb := hc.2.1
  refine lv_aload_n hx hb dL_law_1982 rfl (lv_at hl 4 rfl) ?_
  refine law_arg (j := 1) hc hX hbl hbA hS (lv_at hl 5 rfl) (lv_at hl 0 rfl) (by omega) hL dL_law_1983 dL_law_1984 dL_law_1986 dL_law_1987 dL_law_1988 (by decide) ?_
  obtain ⟨M2, kk, cs2, hO, hW2, hR2, ht, hf⟩ := (si_line hR9 hW (xs (i + 1))).go hW
  refine lv_aload_n hx hb dL_law_1989 rfl (lv_at hl 2 rfl) ?_
  refine k_SX1 (n := 3) hc [.ref x, .int (xs (i + 1)), .ref (x + 204)] ⟨q_L_245, qt_L_line, qn_L, qw_L_line, by decide, by decide, by decide +kernel⟩ dL_law_1990 (c_L_line l hlf g M x (x + 204) (xs (i + 1)) hW.1.o (c_X5_line l hlf g M x cs (xs (i + 1)) hW.1) hO) hM hS hl.1 rfl rfl ⟨by omega, by omega⟩ ⟨by omega, by omega⟩ (Nat.le_of_ble_eq_true rfl) (fun H locs hM hS => ?_)
  refine W.widen (k := cells + 3) (n := slots + 18) (by omega) (by omega) ?_
  refine lv_istore (lv' := (6, .int kk) :: lw0 b x i) hx hb dL_law_1993 hl (by decide) rfl (fun ls hl => ?_)
  refine lv_aload_n hx hb dL_law_1995 rfl (lv_at hl 4 rfl) ?_
  refine law_arg (j := 1) hc hX hbl hbA hS (lv_at hl 6 rfl) (lv_at hl 1 rfl) (by omega) hL dL_law_1996 dL_law_1997 dL_law_1999 dL_law_2000 dL_law_2001 (by decide) ?_
  have hm := c_X6_line l hlf g M2 (x + 196) md (xs (i + 1)) hW2.2.1 hR9.ok hR9.vok
  refine k_V1 hc [.int (xs (i + 1))] cw_L_247 rfl dL_law_2002 hm hW2.2.1.o hM hS hl.1 rfl rfl ⟨by omega, by omega⟩ ⟨by omega, by omega⟩ (Nat.le_of_ble_eq_true rfl) (fun H locs hM hS => ?_)
  exact law_tail (q := 2005) hc hlf hW2.mod hR2 hM hS hl ht (fun q9 => by obtain ⟨f, f1, f2⟩ := hf q9; exact ⟨f, (putD_out (by omega)).trans f1, f2⟩) ⟨by omega, by omega⟩ (by omega) (by omega) hK dL_law_2005 dL_law_2007 dL_law_2008 dL_law_2011 dL_law_2013 dL_law_2018 dL_law_2020 dL_law_2023 dL_law_2024 dL_law_2025 dL_law_2026 dL_law_2028 dL_law_2029 dL_law_2030 dL_law_2035 (by decide)
set_option maxHeartbeats 4000000 in
set_option maxRecDepth 100000 in
theorem sg_character (hc : Cx g p l s m args meth c cL_law 9 RL) (hlf : l.stackTraces = false) (hX : va_X b L xs s s.heap) (hbl : b < s.heap.size) (hbA : ¬ gA g b) (hW : WD g x M cs md) (hR9 : Rel n cs md) (hn : n + 3000 < 2 ^ 30) (hM : hR g M H) (hS : va_S (gA g) s.heap H locs) (hl : lv_has ls 9 (lw0 b x i)) (hi : i + 3 < L) (hL : L ≤ 2048) (hroom : 20 ≤ R.frames ∧ 2000 ≤ R.locals) (hcell : cells + 3 ≤ R.cells) (hslot : slots + 18 ≤ R.slots) (hK : LwK p l e R s m args below meth c (cells + 3) (slots + 18) Q g b x i n) : W p l e R s m args below meth c H locs cells slots Q (F0 m 2038 ls []) := by
  have hx := hc.1
  have hb := hc.2.1
  refine lv_aload_n hx hb dL_law_2038 rfl (lv_at hl 4 rfl) ?_
  refine law_arg (j := 1) hc hX hbl hbA hS (lv_at hl 5 rfl) (lv_at hl 0 rfl) (by omega) hL dL_law_2039 dL_law_2040 dL_law_2042 dL_law_2043 dL_law_2044 (by decide) ?_
  obtain ⟨M2, kk, cs2, hO, hW2, hR2, ht, hf⟩ := (si_character hR9 hW (xs (i + 1))).go hW
  refine lv_aload_n hx hb dL_law_2045 rfl (lv_at hl 2 rfl) ?_
  refine k_SX1 (n := 3) hc [.ref x, .int (xs (i + 1)), .ref (x + 204)] ⟨q_L_248, qt_L_character, qn_L, qw_L_character, by decide, by decide, by decide +kernel⟩ dL_law_2046 (c_L_character l hlf g M x (x + 204) (xs (i + 1)) hW.1.o (c_X5_character l hlf g M x cs (xs (i + 1)) hW.1 (sim_char (i := (xs (i + 1))) hR9).1 (sim_char (i := (xs (i + 1))) hR9).2.1) hO) hM hS hl.1 rfl rfl ⟨by omega, by omega⟩ ⟨by omega, by omega⟩ (Nat.le_of_ble_eq_true rfl) (fun H locs hM hS => ?_)
  refine W.widen (k := cells + 3) (n := slots + 18) (by omega) (by omega) ?_
  refine lv_istore (lv' := (6, .int kk) :: lw0 b x i) hx hb dL_law_2049 hl (by decide) rfl (fun ls hl => ?_)
  refine lv_aload_n hx hb dL_law_2051 rfl (lv_at hl 4 rfl) ?_
  refine law_arg (j := 1) hc hX hbl hbA hS (lv_at hl 6 rfl) (lv_at hl 1 rfl) (by omega) hL dL_law_2052 dL_law_2053 dL_law_2055 dL_law_2056 dL_law_2057 (by decide) ?_
  have hm := c_X6_character l hlf g M2 (x + 196) md (xs (i + 1)) hW2.2.1 hR9.ok (sim_char (i := (xs (i + 1))) hR9).2.2.1
  refine k_V1 hc [.int (xs (i + 1))] cw_L_250 rfl dL_law_2058 hm hW2.2.1.o hM hS hl.1 rfl rfl ⟨by omega, by omega⟩ ⟨by omega, by omega⟩ (Nat.le_of_ble_eq_true rfl) (fun H locs hM hS => ?_)
  exact law_tail (q := 2061) hc hlf hW2.mod hR2 hM hS hl ht (fun q9 => by obtain ⟨f, f1, f2⟩ := hf q9; exact ⟨f, (putD_out (by omega)).trans f1, f2⟩) ⟨by omega, by omega⟩ (by omega) (by omega) hK dL_law_2061 dL_law_2063 dL_law_2064 dL_law_2067 dL_law_2069 dL_law_2074 dL_law_2076 dL_law_2079 dL_law_2080 dL_law_2081 dL_law_2082 dL_law_2084 dL_law_2085 dL_law_2086 dL_law_2091 (by decide)
set_option maxHeartbeats 4000000 in
set_option maxRecDepth 100000 in
theorem sg_account (hc : Cx g p l s m args meth c cL_law 9 RL) (hlf : l.stackTraces = false) (hX : va_X b L xs s s.heap) (hbl : b < s.heap.size) (hbA : ¬ gA g b) (hW : WD g x M cs md) (hR9 : Rel n cs md) (hn : n + 3000 < 2 ^ 30) (hM : hR g M H) (hS : va_S (gA g) s.heap H locs) (hl : lv_has ls 9 (lw0 b x i)) (hi : i + 3 < L) (hL : L ≤ 2048) (hroom : 20 ≤ R.frames ∧ 2000 ≤ R.locals) (hcell : cells + 3 ≤ R.cells) (hslot : slots + 18 ≤ R.slots) (hK : LwK p l e R s m args below meth c (cells + 3) (slots + 18) Q g b x i n) : W p l e R s m args below meth c H locs cells slots Q (F0 m 2225 ls []) := by
  have hx := hc.1
  have hb := hc.2.1
  refine lv_aload_n hx hb dL_law_2225 rfl (lv_at hl 4 rfl) ?_
  refine law_arg (j := 1) hc hX hbl hbA hS (lv_at hl 5 rfl) (lv_at hl 0 rfl) (by omega) hL dL_law_2226 dL_law_2227 dL_law_2229 dL_law_2230 dL_law_2231 (by decide) ?_
  obtain ⟨M2, kk, cs2, hO, hW2, hR2, ht, hf⟩ := (si_account hR9 hW (xs (i + 1))).go hW
  refine lv_aload_n hx hb dL_law_2232 rfl (lv_at hl 2 rfl) ?_
  refine k_SX1 (n := 3) hc [.ref x, .int (xs (i + 1)), .ref (x + 204)] ⟨q_L_258, qt_L_account, qn_L, qw_L_account, by decide, by decide, by decide +kernel⟩ dL_law_2233 (c_L_account l hlf g M x (x + 204) (xs (i + 1)) hW.1.o (c_X5_account l hlf g M x cs (xs (i + 1)) hW.1) hO) hM hS hl.1 rfl rfl ⟨by omega, by omega⟩ ⟨by omega, by omega⟩ (Nat.le_of_ble_eq_true rfl) (fun H locs hM hS => ?_)
  refine W.widen (k := cells + 3) (n := slots + 18) (by omega) (by omega) ?_
  refine lv_istore (lv' := (6, .int kk) :: lw0 b x i) hx hb dL_law_2236 hl (by decide) rfl (fun ls hl => ?_)
  refine lv_aload_n hx hb dL_law_2238 rfl (lv_at hl 4 rfl) ?_
  refine law_arg (j := 1) hc hX hbl hbA hS (lv_at hl 6 rfl) (lv_at hl 1 rfl) (by omega) hL dL_law_2239 dL_law_2240 dL_law_2242 dL_law_2243 dL_law_2244 (by decide) ?_
  have hm := c_X6_account l hlf g M2 (x + 196) md (xs (i + 1)) hW2.2.1 hR9.ok
  refine k_V1 hc [.int (xs (i + 1))] cw_L_260 rfl dL_law_2245 hm hW2.2.1.o hM hS hl.1 rfl rfl ⟨by omega, by omega⟩ ⟨by omega, by omega⟩ (Nat.le_of_ble_eq_true rfl) (fun H locs hM hS => ?_)
  exact law_tail (q := 2248) hc hlf hW2.mod hR2 hM hS hl ht (fun q9 => by obtain ⟨f, f1, f2⟩ := hf q9; exact ⟨f, (putD_out (by omega)).trans f1, f2⟩) ⟨by omega, by omega⟩ (by omega) (by omega) hK dL_law_2248 dL_law_2250 dL_law_2251 dL_law_2254 dL_law_2256 dL_law_2261 dL_law_2263 dL_law_2266 dL_law_2267 dL_law_2268 dL_law_2269 dL_law_2271 dL_law_2272 dL_law_2273 dL_law_2278 (by decide)
set_option maxHeartbeats 4000000 in
set_option maxRecDepth 100000 in
theorem sg_undo (hc : Cx g p l s m args meth c cL_law 9 RL) (hlf : l.stackTraces = false) (hX : va_X b L xs s s.heap) (hbl : b < s.heap.size) (hbA : ¬ gA g b) (hW : WD g x M cs md) (hR9 : Rel n cs md) (hn : n + 3000 < 2 ^ 30) (hM : hR g M H) (hS : va_S (gA g) s.heap H locs) (hl : lv_has ls 9 (lw0 b x i)) (hi : i + 3 < L) (hL : L ≤ 2048) (hroom : 20 ≤ R.frames ∧ 2000 ≤ R.locals) (hcell : cells + 3 ≤ R.cells) (hslot : slots + 18 ≤ R.slots) (hK : LwK p l e R s m args below meth c (cells + 3) (slots + 18) Q g b x i n) : W p l e R s m args below meth c H locs cells slots Q (F0 m 2281 ls []) := by
  have hx := hc.1
  have hb := hc.2.1
  refine lv_aload_n hx hb dL_law_2281 rfl (lv_at hl 4 rfl) ?_
  obtain ⟨M2, kk, cs2, hO, hW2, hR2, ht, hf⟩ := (si_undo hR9 hW).go hW
  refine lv_aload_n hx hb dL_law_2282 rfl (lv_at hl 2 rfl) ?_
  refine k_SX1 (n := 2) hc [.ref x, .ref (x + 204)] ⟨q_L_261, qt_L_undo, qn_L, qw_L_undo, by decide, by decide, by decide +kernel⟩ dL_law_2283 (c_L_undo l hlf g M x (x + 204)  hW.1.o (c_X5_undo l hlf g M x cs hW.1 hR9.nx) hO) hM hS hl.1 rfl rfl ⟨by omega, by omega⟩ ⟨by omega, by omega⟩ (Nat.le_of_ble_eq_true rfl) (fun H locs hM hS => ?_)
  refine W.widen (k := cells + 3) (n := slots + 18) (by omega) (by omega) ?_
  refine lv_istore (lv' := (6, .int kk) :: lw0 b x i) hx hb dL_law_2286 hl (by decide) rfl (fun ls hl => ?_)
  refine lv_aload_n hx hb dL_law_2288 rfl (lv_at hl 4 rfl) ?_
  have hm := c_X6_undo l hlf g M2 (x + 196) md hW2.2.1 hR9.un
  refine k_V1 hc [] cw_L_263 rfl dL_law_2289 hm hW2.2.1.o hM hS hl.1 rfl rfl ⟨by omega, by omega⟩ ⟨by omega, by omega⟩ (Nat.le_of_ble_eq_true rfl) (fun H locs hM hS => ?_)
  exact law_tail (q := 2292) hc hlf hW2.mod hR2 hM hS hl ht (fun q9 => by obtain ⟨f, f1, f2⟩ := hf q9; exact ⟨f, (putD_out (by omega)).trans f1, f2⟩) ⟨by omega, by omega⟩ (by omega) (by omega) hK dL_law_2292 dL_law_2294 dL_law_2295 dL_law_2298 dL_law_2300 dL_law_2305 dL_law_2307 dL_law_2310 dL_law_2311 dL_law_2312 dL_law_2313 dL_law_2315 dL_law_2316 dL_law_2317 dL_law_2322 (by decide)
set_option maxHeartbeats 4000000 in
set_option maxRecDepth 100000 in
theorem sg_restore (hc : Cx g p l s m args meth c cL_law 9 RL) (hlf : l.stackTraces = false) (hX : va_X b L xs s s.heap) (hbl : b < s.heap.size) (hbA : ¬ gA g b) (hW : WD g x M cs md) (hR9 : Rel n cs md) (hn : n + 3000 < 2 ^ 30) (hM : hR g M H) (hS : va_S (gA g) s.heap H locs) (hl : lv_has ls 9 (lw0 b x i)) (hi : i + 3 < L) (hL : L ≤ 2048) (hroom : 20 ≤ R.frames ∧ 2000 ≤ R.locals) (hcell : cells + 3 ≤ R.cells) (hslot : slots + 18 ≤ R.slots) (hK : LwK p l e R s m args below meth c (cells + 3) (slots + 18) Q g b x i n) : W p l e R s m args below meth c H locs cells slots Q (F0 m 2338 ls []) := by
  have hx := hc.1
  have hb := hc.2.1
  refine lv_aload_n hx hb dL_law_2338 rfl (lv_at hl 4 rfl) ?_
  obtain ⟨M2, kk, cs2, hO, hW2, hR2, ht, hf⟩ := (si_restore hR9 hW).go hW
  refine lv_aload_n hx hb dL_law_2339 rfl (lv_at hl 2 rfl) ?_
  refine k_SX1 (n := 2) hc [.ref x, .ref (x + 204)] ⟨q_L_268, qt_L_restore, qn_L, qw_L_restore, by decide, by decide, by decide +kernel⟩ dL_law_2340 (c_L_restore l hlf g M x (x + 204)  hW.1.o (c_X5_restore l hlf g M x cs hW.1) hO) hM hS hl.1 rfl rfl ⟨by omega, by omega⟩ ⟨by omega, by omega⟩ (Nat.le_of_ble_eq_true rfl) (fun H locs hM hS => ?_)
  refine W.widen (k := cells + 3) (n := slots + 18) (by omega) (by omega) ?_
  refine lv_istore (lv' := (6, .int kk) :: lw0 b x i) hx hb dL_law_2343 hl (by decide) rfl (fun ls hl => ?_)
  refine lv_aload_n hx hb dL_law_2345 rfl (lv_at hl 4 rfl) ?_
  have hm := c_X6_restore l hlf g M2 (x + 196) md hW2.2.1
  refine k_V1 hc [] cw_L_270 rfl dL_law_2346 hm hW2.2.1.o hM hS hl.1 rfl rfl ⟨by omega, by omega⟩ ⟨by omega, by omega⟩ (Nat.le_of_ble_eq_true rfl) (fun H locs hM hS => ?_)
  exact law_tail (q := 2349) hc hlf hW2.mod hR2 hM hS hl ht (fun q9 => by obtain ⟨f, f1, f2⟩ := hf q9; exact ⟨f, (putD_out (by omega)).trans f1, f2⟩) ⟨by omega, by omega⟩ (by omega) (by omega) hK dL_law_2349 dL_law_2351 dL_law_2352 dL_law_2355 dL_law_2357 dL_law_2362 dL_law_2364 dL_law_2367 dL_law_2368 dL_law_2369 dL_law_2370 dL_law_2372 dL_law_2373 dL_law_2374 dL_law_2379 (by decide)
end LW
