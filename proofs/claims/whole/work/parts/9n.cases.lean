abbrev l7 (i : Nat) : List (Option MV) := [some (rV 88 0), some (rV 0 0), some (rV 45 0), some (rV 87 0), some (iV (nI i)), none, none]
theorem CW.wk {σ : MS} {w : WT} (h : CW σ w) : ∃ b, WK σ b (wc w) (ws w) ∧ FCR σ (wf w) := by
  obtain ⟨b, h1, -, -, -, -, h6, -⟩ := h
  exact ⟨b, h1, h6⟩
section LB
variable {K : LwC} {n i : Nat} {σ τ : MS} {g : Nat → Int64} {w : WT}
theorem rl_arg {pc : Nat} {st : List MV} {k : Int} {kv : Int32} (h0 : decode code pc = .ok (.aload_n 0, 1)) (h1 : decode code (pc + 1) = .ok (.iload 4, 2)) (h2 : decode code (pc + 3) = .ok (.iconst k, 1)) (hk : Int32.ofInt k = kv) (h3 : decode code (pc + 4) = .ok (.iadd, 1)) (h4 : decode code (pc + 5) = .ok (.iaload, 1)) (hin : vp_in (nI i + kv) K.L) (h : RLaw K n (pc + 6) (l7 i) (iV (K.xs (nI i + kv).toNatClampNeg) :: st) σ τ g) : RLaw K n pc (l7 i) st σ τ g :=
  rl_aload_n (i := 0) h0 rfl rfl (rl_iload (i := 4) h1 rfl (rl_iconst (v := kv) h2 hk (rl_iadd h3 (rl_sld hin h4 h))))
theorem l_in {k L : Nat} (h : i + 6 ≤ L) (hL : L ≤ 3072) (hk : k ≤ 5) : vp_in (nI i + nI k) L := by
  rw [nI_add]
  exact vin (show i + k < L by omega) (Nat.le_refl _) (by omega)
theorem LB_feed (hi : i + 6 ≤ K.L) (hL : K.L ≤ 3072) (hC : CW σ w) (hM : MWd τ w) (hW : WI w) (H : ∀ σ' τ' w', CW σ' w' → MWd τ' w' → WI w' → RLaw K n 1878 (l7 i) [] σ' τ' g) : RLaw K n 236 (l7 i) [] σ τ g := by
  refine rl_aload_n (i := 1) dL_law_236 rfl rfl ?_
  refine rl_arg (kv := nI 1) dL_law_237 dL_law_238 dL_law_240 rfl dL_law_241 dL_law_242 (l_in hi hL (by decide)) ?_
  refine rl_arg (kv := nI 2) dL_law_243 dL_law_244 dL_law_246 rfl dL_law_247 dL_law_248 (l_in hi hL (by decide)) ?_
  refine rl_arg (kv := nI 3) dL_law_249 dL_law_250 dL_law_252 rfl dL_law_253 dL_law_254 (l_in hi hL (by decide)) ?_
  refine rl_arg (kv := nI 4) dL_law_255 dL_law_256 dL_law_258 rfl dL_law_259 dL_law_260 (l_in hi hL (by decide)) ?_
  refine rl_arg (kv := nI 5) dL_law_261 dL_law_262 dL_law_264 rfl dL_law_265 dL_law_266 (l_in hi hL (by decide)) ?_
  refine rl_callC (M' := mX10_feed) (d := 1) (z := 1) (As := [iV (K.xs (nI i + nI 1).toNatClampNeg), iV (K.xs (nI i + nI 2).toNatClampNeg), iV (K.xs (nI i + nI 3).toNatClampNeg), iV (K.xs (nI i + nI 4).toNatClampNeg), iV (K.xs (nI i + nI 5).toNatClampNeg)]) (ls0 := [some (rV 0 0), some (iV (K.xs (nI i + nI 1).toNatClampNeg)), some (iV (K.xs (nI i + nI 2).toNatClampNeg)), some (iV (K.xs (nI i + nI 3).toNatClampNeg)), some (iV (K.xs (nI i + nI 4).toNatClampNeg)), some (iV (K.xs (nI i + nI 5).toNatClampNeg)), none]) kX10_feed i_X10_feed e_X10_feed lL_21 dL_law_267 rfl rfl rfl rfl rfl (Nat.le_of_ble_eq_true rfl) (by decide) ?_
  refine C_feed hC hW (fun σ1 hC1 => ?_)
  refine rl_aload_n (i := 2) dL_law_270 rfl rfl ?_
  refine rl_arg (kv := nI 1) dL_law_271 dL_law_272 dL_law_274 rfl dL_law_275 dL_law_276 (l_in hi hL (by decide)) ?_
  refine rl_arg (kv := nI 2) dL_law_277 dL_law_278 dL_law_280 rfl dL_law_281 dL_law_282 (l_in hi hL (by decide)) ?_
  refine rl_arg (kv := nI 3) dL_law_283 dL_law_284 dL_law_286 rfl dL_law_287 dL_law_288 (l_in hi hL (by decide)) ?_
  refine rl_arg (kv := nI 4) dL_law_289 dL_law_290 dL_law_292 rfl dL_law_293 dL_law_294 (l_in hi hL (by decide)) ?_
  refine rl_arg (kv := nI 5) dL_law_295 dL_law_296 dL_law_298 rfl dL_law_299 dL_law_300 (l_in hi hL (by decide)) ?_
  refine rl_callM (M' := mX11_feed) (d := 0) (z := 2) (As := [iV (K.xs (nI i + nI 1).toNatClampNeg), iV (K.xs (nI i + nI 2).toNatClampNeg), iV (K.xs (nI i + nI 3).toNatClampNeg), iV (K.xs (nI i + nI 4).toNatClampNeg), iV (K.xs (nI i + nI 5).toNatClampNeg)]) (ls0 := [some (rV 45 0), some (iV (K.xs (nI i + nI 1).toNatClampNeg)), some (iV (K.xs (nI i + nI 2).toNatClampNeg)), some (iV (K.xs (nI i + nI 3).toNatClampNeg)), some (iV (K.xs (nI i + nI 4).toNatClampNeg)), some (iV (K.xs (nI i + nI 5).toNatClampNeg)), none, none]) kX11_feed i_X11_feed e_X11_feed lL_25 dL_law_301 rfl rfl rfl rfl rfl (Nat.le_of_ble_eq_true rfl) (by decide) ?_
  refine D_feed hM hW (fun τ1 hM1 => ?_)
  exact rl_icmp_eq (tgt := 1878) dL_law_304 rfl (fun _ => H _ _ _ hC1 hM1 (uFeed_wi hW)) (fun z => absurd rfl z)
theorem LB_text (hi : i + 6 ≤ K.L) (hL : K.L ≤ 3072) (hC : CW σ w) (hM : MWd τ w) (hW : WI w) (H : ∀ σ' τ' w', CW σ' w' → MWd τ' w' → WI w' → RLaw K n 1878 (l7 i) [] σ' τ' g) : RLaw K n 309 (l7 i) [] σ τ g := by
  refine rl_aload_n (i := 1) dL_law_309 rfl rfl ?_
  refine rl_arg (kv := nI 1) dL_law_310 dL_law_311 dL_law_313 rfl dL_law_314 dL_law_315 (l_in hi hL (by decide)) ?_
  refine rl_callC (M' := mX10_text) (d := 203) (z := 1) (As := [iV (K.xs (nI i + nI 1).toNatClampNeg)]) (ls0 := [some (rV 0 0), some (iV (K.xs (nI i + nI 1).toNatClampNeg)), none]) kX10_text i_X10_text e_X10_text lL_26 dL_law_316 rfl rfl rfl rfl rfl (Nat.le_of_ble_eq_true rfl) (by decide) ?_
  refine C_text (by decide) hC hW (fun σ1 hC1 => ?_)
  refine rl_aload_n (i := 2) dL_law_319 rfl rfl ?_
  refine rl_arg (kv := nI 1) dL_law_320 dL_law_321 dL_law_323 rfl dL_law_324 dL_law_325 (l_in hi hL (by decide)) ?_
  refine rl_callM (M' := mX11_text) (d := 203) (z := 1) (As := [iV (K.xs (nI i + nI 1).toNatClampNeg)]) (ls0 := [some (rV 45 0), some (iV (K.xs (nI i + nI 1).toNatClampNeg)), none]) kX11_text i_X11_text e_X11_text lL_30 dL_law_326 rfl rfl rfl rfl rfl (Nat.le_of_ble_eq_true rfl) (by decide) ?_
  refine D_text (by decide) hM hW (fun τ1 hM1 => ?_)
  exact rl_icmp_eq (tgt := 1878) dL_law_329 rfl (fun _ => H _ _ _ hC1 hM1 (uText_wi hW)) (fun z => absurd rfl z)
theorem LB_fault (hi : i + 6 ≤ K.L) (hL : K.L ≤ 3072) (hC : CW σ w) (hM : MWd τ w) (hW : WI w) (H : ∀ σ' τ' w', CW σ' w' → MWd τ' w' → WI w' → RLaw K n 1878 (l7 i) [] σ' τ' g) : RLaw K n 334 (l7 i) [] σ τ g := by
  refine rl_aload_n (i := 1) dL_law_334 rfl rfl ?_
  refine rl_arg (kv := nI 1) dL_law_335 dL_law_336 dL_law_338 rfl dL_law_339 dL_law_340 (l_in hi hL (by decide)) ?_
  refine rl_callC (M' := mX10_fault) (d := 0) (z := 0) (As := [iV (K.xs (nI i + nI 1).toNatClampNeg)]) (ls0 := [some (rV 0 0), some (iV (K.xs (nI i + nI 1).toNatClampNeg))]) kX10_fault i_X10_fault e_X10_fault lL_31 dL_law_341 rfl rfl rfl rfl rfl (Nat.le_of_ble_eq_true rfl) (by decide) ?_
  refine C_fault hC ?_
  have hC1 := hC
  refine rl_aload_n (i := 2) dL_law_344 rfl rfl ?_
  refine rl_arg (kv := nI 1) dL_law_345 dL_law_346 dL_law_348 rfl dL_law_349 dL_law_350 (l_in hi hL (by decide)) ?_
  refine rl_callM (M' := mX11_fault) (d := 0) (z := 0) (As := [iV (K.xs (nI i + nI 1).toNatClampNeg)]) (ls0 := [some (rV 45 0), some (iV (K.xs (nI i + nI 1).toNatClampNeg))]) kX11_fault i_X11_fault e_X11_fault lL_34 dL_law_351 rfl rfl rfl rfl rfl (Nat.le_of_ble_eq_true rfl) (by decide) ?_
  refine D_fault hM (fun τ1 hq => ?_)
  have hM1 := hM.q hq
  exact rl_icmp_eq (tgt := 1878) dL_law_354 rfl (fun _ => H _ _ _ hC1 hM1 (hW)) (fun z => absurd rfl z)
theorem LB_named (hi : i + 6 ≤ K.L) (hL : K.L ≤ 3072) (hC : CW σ w) (hM : MWd τ w) (hW : WI w) (H : ∀ σ' τ' w', CW σ' w' → MWd τ' w' → WI w' → RLaw K n 1878 (l7 i) [] σ' τ' g) : RLaw K n 359 (l7 i) [] σ τ g := by
  obtain ⟨b, hk, hfc⟩ := hC.wk
  refine rl_aload_n (i := 1) dL_law_359 rfl rfl ?_
  refine rl_arg (kv := nI 1) dL_law_360 dL_law_361 dL_law_363 rfl dL_law_364 dL_law_365 (l_in hi hL (by decide)) ?_
  refine rl_callC (M' := mX10_named) (d := 1) (z := 0) (As := [iV (K.xs (nI i + nI 1).toNatClampNeg)]) (ls0 := [some (rV 0 0), some (iV (K.xs (nI i + nI 1).toNatClampNeg))]) kX10_named i_X10_named e_X10_named lL_35 dL_law_366 rfl rfl rfl rfl rfl (Nat.le_of_ble_eq_true rfl) (by decide) ?_
  refine S_named hk ?_
  have hC1 := hC
  refine rl_aload_n (i := 2) dL_law_369 rfl rfl ?_
  refine rl_arg (kv := nI 1) dL_law_370 dL_law_371 dL_law_373 rfl dL_law_374 dL_law_375 (l_in hi hL (by decide)) ?_
  refine rl_callM (M' := mX11_named) (d := 1) (z := 0) (As := [iV (K.xs (nI i + nI 1).toNatClampNeg)]) (ls0 := [some (rV 45 0), some (iV (K.xs (nI i + nI 1).toNatClampNeg))]) kX11_named i_X11_named e_X11_named lL_38 dL_law_376 rfl rfl rfl rfl rfl (Nat.le_of_ble_eq_true rfl) (by decide) ?_
  refine M_named hM.1 (fun τ1 hq => ?_)
  have hM1 := hM.q hq
  exact rl_icmp_eq (tgt := 1878) dL_law_379 rfl (fun _ => H _ _ _ hC1 hM1 (hW)) (fun z => absurd rfl z)
theorem LB_level (hi : i + 6 ≤ K.L) (hL : K.L ≤ 3072) (hC : CW σ w) (hM : MWd τ w) (hW : WI w) (H : ∀ σ' τ' w', CW σ' w' → MWd τ' w' → WI w' → RLaw K n 1878 (l7 i) [] σ' τ' g) : RLaw K n 452 (l7 i) [] σ τ g := by
  obtain ⟨b, hk, hfc⟩ := hC.wk
  refine rl_aload_n (i := 1) dL_law_452 rfl rfl ?_
  refine rl_arg (kv := nI 1) dL_law_453 dL_law_454 dL_law_456 rfl dL_law_457 dL_law_458 (l_in hi hL (by decide)) ?_
  refine rl_arg (kv := nI 2) dL_law_459 dL_law_460 dL_law_462 rfl dL_law_463 dL_law_464 (l_in hi hL (by decide)) ?_
  refine rl_callC (M' := mX10_level) (d := 2) (z := 0) (As := [iV (K.xs (nI i + nI 1).toNatClampNeg), iV (K.xs (nI i + nI 2).toNatClampNeg)]) (ls0 := [some (rV 0 0), some (iV (K.xs (nI i + nI 1).toNatClampNeg)), some (iV (K.xs (nI i + nI 2).toNatClampNeg))]) kX10_level i_X10_level e_X10_level lL_49 dL_law_465 rfl rfl rfl rfl rfl (Nat.le_of_ble_eq_true rfl) (by decide) ?_
  refine S_level hk hW.2.1.2.2.1 ?_
  have hC1 := hC
  refine rl_aload_n (i := 2) dL_law_468 rfl rfl ?_
  refine rl_arg (kv := nI 1) dL_law_469 dL_law_470 dL_law_472 rfl dL_law_473 dL_law_474 (l_in hi hL (by decide)) ?_
  refine rl_arg (kv := nI 2) dL_law_475 dL_law_476 dL_law_478 rfl dL_law_479 dL_law_480 (l_in hi hL (by decide)) ?_
  refine rl_callM (M' := mX11_level) (d := 2) (z := 0) (As := [iV (K.xs (nI i + nI 1).toNatClampNeg), iV (K.xs (nI i + nI 2).toNatClampNeg)]) (ls0 := [some (rV 45 0), some (iV (K.xs (nI i + nI 1).toNatClampNeg)), some (iV (K.xs (nI i + nI 2).toNatClampNeg))]) kX11_level i_X11_level e_X11_level lL_52 dL_law_481 rfl rfl rfl rfl rfl (Nat.le_of_ble_eq_true rfl) (by decide) ?_
  refine M_level hM.1 hW.2.1.2.2.1 (fun τ1 hq => ?_)
  have hM1 := hM.q hq
  exact rl_icmp_eq (tgt := 1878) dL_law_484 rfl (fun _ => H _ _ _ hC1 hM1 (hW)) (fun z => absurd rfl z)
theorem LB_pipe (hi : i + 6 ≤ K.L) (hL : K.L ≤ 3072) (hC : CW σ w) (hM : MWd τ w) (hW : WI w) (H : ∀ σ' τ' w', CW σ' w' → MWd τ' w' → WI w' → RLaw K n 1878 (l7 i) [] σ' τ' g) : RLaw K n 489 (l7 i) [] σ τ g := by
  obtain ⟨b, hk, hfc⟩ := hC.wk
  refine rl_aload_n (i := 1) dL_law_489 rfl rfl ?_
  refine rl_arg (kv := nI 1) dL_law_490 dL_law_491 dL_law_493 rfl dL_law_494 dL_law_495 (l_in hi hL (by decide)) ?_
  refine rl_arg (kv := nI 2) dL_law_496 dL_law_497 dL_law_499 rfl dL_law_500 dL_law_501 (l_in hi hL (by decide)) ?_
  refine rl_callC (M' := mX10_pipe) (d := 2) (z := 0) (As := [iV (K.xs (nI i + nI 1).toNatClampNeg), iV (K.xs (nI i + nI 2).toNatClampNeg)]) (ls0 := [some (rV 0 0), some (iV (K.xs (nI i + nI 1).toNatClampNeg)), some (iV (K.xs (nI i + nI 2).toNatClampNeg))]) kX10_pipe i_X10_pipe e_X10_pipe lL_53 dL_law_502 rfl rfl rfl rfl rfl (Nat.le_of_ble_eq_true rfl) (by decide) ?_
  refine S_pipe hk hW.2.1.1 (fun σ1 hq => ?_)
  have hC1 := hC.q (hq.wk (by decide))
  refine rl_aload_n (i := 2) dL_law_505 rfl rfl ?_
  refine rl_arg (kv := nI 1) dL_law_506 dL_law_507 dL_law_509 rfl dL_law_510 dL_law_511 (l_in hi hL (by decide)) ?_
  refine rl_arg (kv := nI 2) dL_law_512 dL_law_513 dL_law_515 rfl dL_law_516 dL_law_517 (l_in hi hL (by decide)) ?_
  refine rl_callM (M' := mX11_pipe) (d := 2) (z := 0) (As := [iV (K.xs (nI i + nI 1).toNatClampNeg), iV (K.xs (nI i + nI 2).toNatClampNeg)]) (ls0 := [some (rV 45 0), some (iV (K.xs (nI i + nI 1).toNatClampNeg)), some (iV (K.xs (nI i + nI 2).toNatClampNeg))]) kX11_pipe i_X11_pipe e_X11_pipe lL_56 dL_law_518 rfl rfl rfl rfl rfl (Nat.le_of_ble_eq_true rfl) (by decide) ?_
  refine M_pipe hM.1 hM.2.1 hW.2.1.1 (fun τ1 hq => ?_)
  have hM1 := hM.q hq
  exact rl_icmp_eq (tgt := 1878) dL_law_521 rfl (fun _ => H _ _ _ hC1 hM1 (hW)) (fun z => absurd rfl z)
theorem LB_lock (hi : i + 6 ≤ K.L) (hL : K.L ≤ 3072) (hC : CW σ w) (hM : MWd τ w) (hW : WI w) (H : ∀ σ' τ' w', CW σ' w' → MWd τ' w' → WI w' → RLaw K n 1878 (l7 i) [] σ' τ' g) : RLaw K n 526 (l7 i) [] σ τ g := by
  obtain ⟨b, hk, hfc⟩ := hC.wk
  refine rl_aload_n (i := 1) dL_law_526 rfl rfl ?_
  refine rl_arg (kv := nI 1) dL_law_527 dL_law_528 dL_law_530 rfl dL_law_531 dL_law_532 (l_in hi hL (by decide)) ?_
  refine rl_arg (kv := nI 2) dL_law_533 dL_law_534 dL_law_536 rfl dL_law_537 dL_law_538 (l_in hi hL (by decide)) ?_
  refine rl_callC (M' := mX10_lock) (d := 1) (z := 0) (As := [iV (K.xs (nI i + nI 1).toNatClampNeg), iV (K.xs (nI i + nI 2).toNatClampNeg)]) (ls0 := [some (rV 0 0), some (iV (K.xs (nI i + nI 1).toNatClampNeg)), some (iV (K.xs (nI i + nI 2).toNatClampNeg))]) kX10_lock i_X10_lock e_X10_lock lL_57 dL_law_539 rfl rfl rfl rfl rfl (Nat.le_of_ble_eq_true rfl) (by decide) ?_
  refine S_lock hk ?_
  have hC1 := hC
  refine rl_aload_n (i := 2) dL_law_542 rfl rfl ?_
  refine rl_arg (kv := nI 1) dL_law_543 dL_law_544 dL_law_546 rfl dL_law_547 dL_law_548 (l_in hi hL (by decide)) ?_
  refine rl_arg (kv := nI 2) dL_law_549 dL_law_550 dL_law_552 rfl dL_law_553 dL_law_554 (l_in hi hL (by decide)) ?_
  refine rl_callM (M' := mX11_lock) (d := 1) (z := 0) (As := [iV (K.xs (nI i + nI 1).toNatClampNeg), iV (K.xs (nI i + nI 2).toNatClampNeg)]) (ls0 := [some (rV 45 0), some (iV (K.xs (nI i + nI 1).toNatClampNeg)), some (iV (K.xs (nI i + nI 2).toNatClampNeg))]) kX11_lock i_X11_lock e_X11_lock lL_60 dL_law_555 rfl rfl rfl rfl rfl (Nat.le_of_ble_eq_true rfl) (by decide) ?_
  refine M_lock hM.1 (fun τ1 hq => ?_)
  have hM1 := hM.q hq
  exact rl_icmp_eq (tgt := 1878) dL_law_558 rfl (fun _ => H _ _ _ hC1 hM1 (hW)) (fun z => absurd rfl z)
theorem LB_boat (hi : i + 6 ≤ K.L) (hL : K.L ≤ 3072) (hC : CW σ w) (hM : MWd τ w) (hW : WI w) (H : ∀ σ' τ' w', CW σ' w' → MWd τ' w' → WI w' → RLaw K n 1878 (l7 i) [] σ' τ' g) : RLaw K n 563 (l7 i) [] σ τ g := by
  obtain ⟨b, hk, hfc⟩ := hC.wk
  refine rl_aload_n (i := 1) dL_law_563 rfl rfl ?_
  refine rl_arg (kv := nI 1) dL_law_564 dL_law_565 dL_law_567 rfl dL_law_568 dL_law_569 (l_in hi hL (by decide)) ?_
  refine rl_arg (kv := nI 2) dL_law_570 dL_law_571 dL_law_573 rfl dL_law_574 dL_law_575 (l_in hi hL (by decide)) ?_
  refine rl_callC (M' := mX10_boat) (d := 1) (z := 0) (As := [iV (K.xs (nI i + nI 1).toNatClampNeg), iV (K.xs (nI i + nI 2).toNatClampNeg)]) (ls0 := [some (rV 0 0), some (iV (K.xs (nI i + nI 1).toNatClampNeg)), some (iV (K.xs (nI i + nI 2).toNatClampNeg))]) kX10_boat i_X10_boat e_X10_boat lL_61 dL_law_576 rfl rfl rfl rfl rfl (Nat.le_of_ble_eq_true rfl) (by decide) ?_
  refine S_boat hk ?_
  have hC1 := hC
  refine rl_aload_n (i := 2) dL_law_579 rfl rfl ?_
  refine rl_arg (kv := nI 1) dL_law_580 dL_law_581 dL_law_583 rfl dL_law_584 dL_law_585 (l_in hi hL (by decide)) ?_
  refine rl_arg (kv := nI 2) dL_law_586 dL_law_587 dL_law_589 rfl dL_law_590 dL_law_591 (l_in hi hL (by decide)) ?_
  refine rl_callM (M' := mX11_boat) (d := 1) (z := 0) (As := [iV (K.xs (nI i + nI 1).toNatClampNeg), iV (K.xs (nI i + nI 2).toNatClampNeg)]) (ls0 := [some (rV 45 0), some (iV (K.xs (nI i + nI 1).toNatClampNeg)), some (iV (K.xs (nI i + nI 2).toNatClampNeg))]) kX11_boat i_X11_boat e_X11_boat lL_64 dL_law_592 rfl rfl rfl rfl rfl (Nat.le_of_ble_eq_true rfl) (by decide) ?_
  refine M_boat hM.1 (fun τ1 hq => ?_)
  have hM1 := hM.q hq
  exact rl_icmp_eq (tgt := 1878) dL_law_595 rfl (fun _ => H _ _ _ hC1 hM1 (hW)) (fun z => absurd rfl z)
theorem LB_law (hi : i + 6 ≤ K.L) (hL : K.L ≤ 3072) (hC : CW σ w) (hM : MWd τ w) (hW : WI w) (H : ∀ σ' τ' w', CW σ' w' → MWd τ' w' → WI w' → RLaw K n 1878 (l7 i) [] σ' τ' g) : RLaw K n 600 (l7 i) [] σ τ g := by
  obtain ⟨b, hk, hfc⟩ := hC.wk
  refine rl_aload_n (i := 1) dL_law_600 rfl rfl ?_
  refine rl_arg (kv := nI 1) dL_law_601 dL_law_602 dL_law_604 rfl dL_law_605 dL_law_606 (l_in hi hL (by decide)) ?_
  refine rl_arg (kv := nI 2) dL_law_607 dL_law_608 dL_law_610 rfl dL_law_611 dL_law_612 (l_in hi hL (by decide)) ?_
  refine rl_callC (M' := mX10_law) (d := 4) (z := 0) (As := [iV (K.xs (nI i + nI 1).toNatClampNeg), iV (K.xs (nI i + nI 2).toNatClampNeg)]) (ls0 := [some (rV 0 0), some (iV (K.xs (nI i + nI 1).toNatClampNeg)), some (iV (K.xs (nI i + nI 2).toNatClampNeg))]) kX10_law i_X10_law e_X10_law lL_65 dL_law_613 rfl rfl rfl rfl rfl (Nat.le_of_ble_eq_true rfl) (by decide) ?_
  refine S_law hk hW.2.1.1 (fun σ1 hq => ?_)
  have hC1 := hC.q hq
  refine rl_aload_n (i := 2) dL_law_616 rfl rfl ?_
  refine rl_arg (kv := nI 1) dL_law_617 dL_law_618 dL_law_620 rfl dL_law_621 dL_law_622 (l_in hi hL (by decide)) ?_
  refine rl_arg (kv := nI 2) dL_law_623 dL_law_624 dL_law_626 rfl dL_law_627 dL_law_628 (l_in hi hL (by decide)) ?_
  refine rl_callM (M' := mX11_law) (d := 4) (z := 1) (As := [iV (K.xs (nI i + nI 1).toNatClampNeg), iV (K.xs (nI i + nI 2).toNatClampNeg)]) (ls0 := [some (rV 45 0), some (iV (K.xs (nI i + nI 1).toNatClampNeg)), some (iV (K.xs (nI i + nI 2).toNatClampNeg)), none]) kX11_law i_X11_law e_X11_law lL_69 dL_law_629 rfl rfl rfl rfl rfl (Nat.le_of_ble_eq_true rfl) (by decide) ?_
  refine M_law hM.1 hM.2.1 hW.2.1.1 (fun τ1 hq => ?_)
  have hM1 := hM.q hq
  refine rl_lcmp dL_law_632 ?_
  exact rl_if_eq (tgt := 1878) dL_law_633 rfl (fun _ => H _ _ _ hC1 hM1 (hW)) (fun z => absurd ((lg_cmp_eq _ _).mpr rfl) z)
theorem LB_runs (hi : i + 6 ≤ K.L) (hL : K.L ≤ 3072) (hC : CW σ w) (hM : MWd τ w) (hW : WI w) (H : ∀ σ' τ' w', CW σ' w' → MWd τ' w' → WI w' → RLaw K n 1878 (l7 i) [] σ' τ' g) : RLaw K n 638 (l7 i) [] σ τ g := by
  obtain ⟨b, hk, hfc⟩ := hC.wk
  refine rl_aload_n (i := 1) dL_law_638 rfl rfl ?_
  refine rl_arg (kv := nI 1) dL_law_639 dL_law_640 dL_law_642 rfl dL_law_643 dL_law_644 (l_in hi hL (by decide)) ?_
  refine rl_arg (kv := nI 2) dL_law_645 dL_law_646 dL_law_648 rfl dL_law_649 dL_law_650 (l_in hi hL (by decide)) ?_
  refine rl_callC (M' := mX10_runs) (d := 3) (z := 0) (As := [iV (K.xs (nI i + nI 1).toNatClampNeg), iV (K.xs (nI i + nI 2).toNatClampNeg)]) (ls0 := [some (rV 0 0), some (iV (K.xs (nI i + nI 1).toNatClampNeg)), some (iV (K.xs (nI i + nI 2).toNatClampNeg))]) kX10_runs i_X10_runs e_X10_runs lL_70 dL_law_651 rfl rfl rfl rfl rfl (Nat.le_of_ble_eq_true rfl) (by decide) ?_
  refine S_runs hk ?_
  have hC1 := hC
  refine rl_aload_n (i := 2) dL_law_654 rfl rfl ?_
  refine rl_arg (kv := nI 1) dL_law_655 dL_law_656 dL_law_658 rfl dL_law_659 dL_law_660 (l_in hi hL (by decide)) ?_
  refine rl_arg (kv := nI 2) dL_law_661 dL_law_662 dL_law_664 rfl dL_law_665 dL_law_666 (l_in hi hL (by decide)) ?_
  refine rl_callM (M' := mX11_runs) (d := 5) (z := 0) (As := [iV (K.xs (nI i + nI 1).toNatClampNeg), iV (K.xs (nI i + nI 2).toNatClampNeg)]) (ls0 := [some (rV 45 0), some (iV (K.xs (nI i + nI 1).toNatClampNeg)), some (iV (K.xs (nI i + nI 2).toNatClampNeg))]) kX11_runs i_X11_runs e_X11_runs lL_73 dL_law_667 rfl rfl rfl rfl rfl (Nat.le_of_ble_eq_true rfl) (by decide) ?_
  refine M_runs hM.1 (fun τ1 hq => ?_)
  have hM1 := hM.q hq
  exact rl_icmp_eq (tgt := 1878) dL_law_670 rfl (fun _ => H _ _ _ hC1 hM1 (hW)) (fun z => absurd rfl z)
theorem LB_draw (hi : i + 6 ≤ K.L) (hL : K.L ≤ 3072) (hC : CW σ w) (hM : MWd τ w) (hW : WI w) (H : ∀ σ' τ' w', CW σ' w' → MWd τ' w' → WI w' → RLaw K n 1878 (l7 i) [] σ' τ' g) : RLaw K n 675 (l7 i) [] σ τ g := by
  refine rl_aload_n (i := 1) dL_law_675 rfl rfl ?_
  refine rl_arg (kv := nI 1) dL_law_676 dL_law_677 dL_law_679 rfl dL_law_680 dL_law_681 (l_in hi hL (by decide)) ?_
  refine rl_arg (kv := nI 2) dL_law_682 dL_law_683 dL_law_685 rfl dL_law_686 dL_law_687 (l_in hi hL (by decide)) ?_
  refine rl_callC (M' := mX10_draw) (d := 4) (z := 0) (As := [iV (K.xs (nI i + nI 1).toNatClampNeg), iV (K.xs (nI i + nI 2).toNatClampNeg)]) (ls0 := [some (rV 0 0), some (iV (K.xs (nI i + nI 1).toNatClampNeg)), some (iV (K.xs (nI i + nI 2).toNatClampNeg))]) kX10_draw i_X10_draw e_X10_draw lL_74 dL_law_688 rfl rfl rfl rfl rfl (Nat.le_of_ble_eq_true rfl) (by decide) ?_
  refine C_draw hC hW (fun σ1 hC1 => ?_)
  refine rl_aload_n (i := 2) dL_law_691 rfl rfl ?_
  refine rl_arg (kv := nI 1) dL_law_692 dL_law_693 dL_law_695 rfl dL_law_696 dL_law_697 (l_in hi hL (by decide)) ?_
  refine rl_arg (kv := nI 2) dL_law_698 dL_law_699 dL_law_701 rfl dL_law_702 dL_law_703 (l_in hi hL (by decide)) ?_
  refine rl_callM (M' := mX11_draw) (d := 6) (z := 0) (As := [iV (K.xs (nI i + nI 1).toNatClampNeg), iV (K.xs (nI i + nI 2).toNatClampNeg)]) (ls0 := [some (rV 45 0), some (iV (K.xs (nI i + nI 1).toNatClampNeg)), some (iV (K.xs (nI i + nI 2).toNatClampNeg))]) kX11_draw i_X11_draw e_X11_draw lL_77 dL_law_704 rfl rfl rfl rfl rfl (Nat.le_of_ble_eq_true rfl) (by decide) ?_
  refine D_draw hM hW (fun τ1 hM1 => ?_)
  exact rl_icmp_eq (tgt := 1878) dL_law_707 rfl (fun _ => H _ _ _ hC1 hM1 (uDraw_wi hW)) (fun z => absurd rfl z)
theorem LB_fill (hi : i + 6 ≤ K.L) (hL : K.L ≤ 3072) (hC : CW σ w) (hM : MWd τ w) (hW : WI w) (H : ∀ σ' τ' w', CW σ' w' → MWd τ' w' → WI w' → RLaw K n 1878 (l7 i) [] σ' τ' g) : RLaw K n 712 (l7 i) [] σ τ g := by
  refine rl_aload_n (i := 1) dL_law_712 rfl rfl ?_
  refine rl_arg (kv := nI 1) dL_law_713 dL_law_714 dL_law_716 rfl dL_law_717 dL_law_718 (l_in hi hL (by decide)) ?_
  refine rl_arg (kv := nI 2) dL_law_719 dL_law_720 dL_law_722 rfl dL_law_723 dL_law_724 (l_in hi hL (by decide)) ?_
  refine rl_callC (M' := mX10_fill) (d := 3) (z := 0) (As := [iV (K.xs (nI i + nI 1).toNatClampNeg), iV (K.xs (nI i + nI 2).toNatClampNeg)]) (ls0 := [some (rV 0 0), some (iV (K.xs (nI i + nI 1).toNatClampNeg)), some (iV (K.xs (nI i + nI 2).toNatClampNeg))]) kX10_fill i_X10_fill e_X10_fill lL_78 dL_law_725 rfl rfl rfl rfl rfl (Nat.le_of_ble_eq_true rfl) (by decide) ?_
  refine C_fill hC hW (fun σ1 hC1 => ?_)
  refine rl_aload_n (i := 2) dL_law_728 rfl rfl ?_
  refine rl_arg (kv := nI 1) dL_law_729 dL_law_730 dL_law_732 rfl dL_law_733 dL_law_734 (l_in hi hL (by decide)) ?_
  refine rl_arg (kv := nI 2) dL_law_735 dL_law_736 dL_law_738 rfl dL_law_739 dL_law_740 (l_in hi hL (by decide)) ?_
  refine rl_callM (M' := mX11_fill) (d := 2) (z := 0) (As := [iV (K.xs (nI i + nI 1).toNatClampNeg), iV (K.xs (nI i + nI 2).toNatClampNeg)]) (ls0 := [some (rV 45 0), some (iV (K.xs (nI i + nI 1).toNatClampNeg)), some (iV (K.xs (nI i + nI 2).toNatClampNeg))]) kX11_fill i_X11_fill e_X11_fill lL_81 dL_law_741 rfl rfl rfl rfl rfl (Nat.le_of_ble_eq_true rfl) (by decide) ?_
  refine D_fill hM hW (fun τ1 hM1 => ?_)
  exact rl_icmp_eq (tgt := 1878) dL_law_744 rfl (fun _ => H _ _ _ hC1 hM1 (uFill_wi hW)) (fun z => absurd rfl z)
theorem LB_spill (hi : i + 6 ≤ K.L) (hL : K.L ≤ 3072) (hC : CW σ w) (hM : MWd τ w) (hW : WI w) (H : ∀ σ' τ' w', CW σ' w' → MWd τ' w' → WI w' → RLaw K n 1878 (l7 i) [] σ' τ' g) : RLaw K n 749 (l7 i) [] σ τ g := by
  refine rl_aload_n (i := 1) dL_law_749 rfl rfl ?_
  refine rl_arg (kv := nI 1) dL_law_750 dL_law_751 dL_law_753 rfl dL_law_754 dL_law_755 (l_in hi hL (by decide)) ?_
  refine rl_arg (kv := nI 2) dL_law_756 dL_law_757 dL_law_759 rfl dL_law_760 dL_law_761 (l_in hi hL (by decide)) ?_
  refine rl_callC (M' := mX10_spill) (d := 3) (z := 0) (As := [iV (K.xs (nI i + nI 1).toNatClampNeg), iV (K.xs (nI i + nI 2).toNatClampNeg)]) (ls0 := [some (rV 0 0), some (iV (K.xs (nI i + nI 1).toNatClampNeg)), some (iV (K.xs (nI i + nI 2).toNatClampNeg))]) kX10_spill i_X10_spill e_X10_spill lL_82 dL_law_762 rfl rfl rfl rfl rfl (Nat.le_of_ble_eq_true rfl) (by decide) ?_
  refine C_spill hC hW (fun σ1 hC1 => ?_)
  refine rl_aload_n (i := 2) dL_law_765 rfl rfl ?_
  refine rl_arg (kv := nI 1) dL_law_766 dL_law_767 dL_law_769 rfl dL_law_770 dL_law_771 (l_in hi hL (by decide)) ?_
  refine rl_arg (kv := nI 2) dL_law_772 dL_law_773 dL_law_775 rfl dL_law_776 dL_law_777 (l_in hi hL (by decide)) ?_
  refine rl_callM (M' := mX11_spill) (d := 2) (z := 0) (As := [iV (K.xs (nI i + nI 1).toNatClampNeg), iV (K.xs (nI i + nI 2).toNatClampNeg)]) (ls0 := [some (rV 45 0), some (iV (K.xs (nI i + nI 1).toNatClampNeg)), some (iV (K.xs (nI i + nI 2).toNatClampNeg))]) kX11_spill i_X11_spill e_X11_spill lL_85 dL_law_778 rfl rfl rfl rfl rfl (Nat.le_of_ble_eq_true rfl) (by decide) ?_
  refine D_spill hM hW (fun τ1 hM1 => ?_)
  exact rl_icmp_eq (tgt := 1878) dL_law_781 rfl (fun _ => H _ _ _ hC1 hM1 (uSpill_wi hW)) (fun z => absurd rfl z)
theorem LB_mend (hi : i + 6 ≤ K.L) (hL : K.L ≤ 3072) (hC : CW σ w) (hM : MWd τ w) (hW : WI w) (H : ∀ σ' τ' w', CW σ' w' → MWd τ' w' → WI w' → RLaw K n 1878 (l7 i) [] σ' τ' g) : RLaw K n 786 (l7 i) [] σ τ g := by
  refine rl_aload_n (i := 1) dL_law_786 rfl rfl ?_
  refine rl_arg (kv := nI 1) dL_law_787 dL_law_788 dL_law_790 rfl dL_law_791 dL_law_792 (l_in hi hL (by decide)) ?_
  refine rl_callC (M' := mX10_mend) (d := 2) (z := 0) (As := [iV (K.xs (nI i + nI 1).toNatClampNeg)]) (ls0 := [some (rV 0 0), some (iV (K.xs (nI i + nI 1).toNatClampNeg))]) kX10_mend i_X10_mend e_X10_mend lL_86 dL_law_793 rfl rfl rfl rfl rfl (Nat.le_of_ble_eq_true rfl) (by decide) ?_
  refine C_mend hC hW (fun σ1 hC1 => ?_)
  refine rl_aload_n (i := 2) dL_law_796 rfl rfl ?_
  refine rl_arg (kv := nI 1) dL_law_797 dL_law_798 dL_law_800 rfl dL_law_801 dL_law_802 (l_in hi hL (by decide)) ?_
  refine rl_callM (M' := mX11_mend) (d := 2) (z := 0) (As := [iV (K.xs (nI i + nI 1).toNatClampNeg)]) (ls0 := [some (rV 45 0), some (iV (K.xs (nI i + nI 1).toNatClampNeg))]) kX11_mend i_X11_mend e_X11_mend lL_90 dL_law_803 rfl rfl rfl rfl rfl (Nat.le_of_ble_eq_true rfl) (by decide) ?_
  refine D_mend hM hW (fun τ1 hM1 => ?_)
  exact rl_icmp_eq (tgt := 1878) dL_law_806 rfl (fun _ => H _ _ _ hC1 hM1 (uMend_wi hW)) (fun z => absurd rfl z)
theorem LB_go (hi : i + 6 ≤ K.L) (hL : K.L ≤ 3072) (hC : CW σ w) (hM : MWd τ w) (hW : WI w) (H : ∀ σ' τ' w', CW σ' w' → MWd τ' w' → WI w' → RLaw K n 1878 (l7 i) [] σ' τ' g) : RLaw K n 811 (l7 i) [] σ τ g := by
  refine rl_aload_n (i := 1) dL_law_811 rfl rfl ?_
  refine rl_arg (kv := nI 1) dL_law_812 dL_law_813 dL_law_815 rfl dL_law_816 dL_law_817 (l_in hi hL (by decide)) ?_
  refine rl_callC (M' := mX10_go) (d := 7) (z := 0) (As := [iV (K.xs (nI i + nI 1).toNatClampNeg)]) (ls0 := [some (rV 0 0), some (iV (K.xs (nI i + nI 1).toNatClampNeg))]) kX10_go i_X10_go e_X10_go lL_91 dL_law_818 rfl rfl rfl rfl rfl (Nat.le_of_ble_eq_true rfl) (by decide) ?_
  refine C_go hC hW (fun σ1 hC1 => ?_)
  refine rl_aload_n (i := 2) dL_law_821 rfl rfl ?_
  refine rl_arg (kv := nI 1) dL_law_822 dL_law_823 dL_law_825 rfl dL_law_826 dL_law_827 (l_in hi hL (by decide)) ?_
  refine rl_callM (M' := mX11_go) (d := 8) (z := 1) (As := [iV (K.xs (nI i + nI 1).toNatClampNeg)]) (ls0 := [some (rV 45 0), some (iV (K.xs (nI i + nI 1).toNatClampNeg)), none]) kX11_go i_X11_go e_X11_go lL_94 dL_law_828 rfl rfl rfl rfl rfl (Nat.le_of_ble_eq_true rfl) (by decide) ?_
  refine D_go hM hW (fun τ1 hM1 => ?_)
  exact rl_icmp_eq (tgt := 1878) dL_law_831 rfl (fun _ => H _ _ _ hC1 hM1 (uGo_wi hW)) (fun z => absurd rfl z)
theorem LB_ahead (hi : i + 6 ≤ K.L) (hL : K.L ≤ 3072) (hC : CW σ w) (hM : MWd τ w) (hW : WI w) (H : ∀ σ' τ' w', CW σ' w' → MWd τ' w' → WI w' → RLaw K n 1878 (l7 i) [] σ' τ' g) : RLaw K n 836 (l7 i) [] σ τ g := by
  obtain ⟨b, hk, hfc⟩ := hC.wk
  refine rl_aload_n (i := 1) dL_law_836 rfl rfl ?_
  refine rl_arg (kv := nI 1) dL_law_837 dL_law_838 dL_law_840 rfl dL_law_841 dL_law_842 (l_in hi hL (by decide)) ?_
  refine rl_arg (kv := nI 2) dL_law_843 dL_law_844 dL_law_846 rfl dL_law_847 dL_law_848 (l_in hi hL (by decide)) ?_
  refine rl_arg (kv := nI 3) dL_law_849 dL_law_850 dL_law_852 rfl dL_law_853 dL_law_854 (l_in hi hL (by decide)) ?_
  refine rl_callC (M' := mX10_ahead) (d := 7) (z := 0) (As := [iV (K.xs (nI i + nI 1).toNatClampNeg), iV (K.xs (nI i + nI 2).toNatClampNeg), iV (K.xs (nI i + nI 3).toNatClampNeg)]) (ls0 := [some (rV 0 0), some (iV (K.xs (nI i + nI 1).toNatClampNeg)), some (iV (K.xs (nI i + nI 2).toNatClampNeg)), some (iV (K.xs (nI i + nI 3).toNatClampNeg))]) kX10_ahead i_X10_ahead e_X10_ahead lL_95 dL_law_855 rfl rfl rfl rfl rfl (Nat.le_of_ble_eq_true rfl) (by decide) ?_
  refine S_ahead hk hW.2.1.1 (Nat.le_trans hW.2.1.2.1 (by decide)) hW.2.1.2.2.2.2 (fun σ1 hq => ?_)
  have hC1 := hC.q hq
  refine rl_aload_n (i := 2) dL_law_858 rfl rfl ?_
  refine rl_arg (kv := nI 1) dL_law_859 dL_law_860 dL_law_862 rfl dL_law_863 dL_law_864 (l_in hi hL (by decide)) ?_
  refine rl_arg (kv := nI 2) dL_law_865 dL_law_866 dL_law_868 rfl dL_law_869 dL_law_870 (l_in hi hL (by decide)) ?_
  refine rl_arg (kv := nI 3) dL_law_871 dL_law_872 dL_law_874 rfl dL_law_875 dL_law_876 (l_in hi hL (by decide)) ?_
  refine rl_callM (M' := mX11_ahead) (d := 9) (z := 0) (As := [iV (K.xs (nI i + nI 1).toNatClampNeg), iV (K.xs (nI i + nI 2).toNatClampNeg), iV (K.xs (nI i + nI 3).toNatClampNeg)]) (ls0 := [some (rV 45 0), some (iV (K.xs (nI i + nI 1).toNatClampNeg)), some (iV (K.xs (nI i + nI 2).toNatClampNeg)), some (iV (K.xs (nI i + nI 3).toNatClampNeg))]) kX11_ahead i_X11_ahead e_X11_ahead lL_99 dL_law_877 rfl rfl rfl rfl rfl (Nat.le_of_ble_eq_true rfl) (by decide) ?_
  refine M_ahead hM.1 hM.2.1 hW.2.1.1 (Nat.le_trans hW.2.1.2.1 (by decide)) hW.2.1.2.2.2.2 hW.2.1.2.2.2.1 (fun τ1 hq => ?_)
  have hM1 := hM.q hq
  exact rl_icmp_eq (tgt := 1878) dL_law_880 rfl (fun _ => H _ _ _ hC1 hM1 (hW)) (fun z => absurd rfl z)
theorem LB_upWhen (hi : i + 6 ≤ K.L) (hL : K.L ≤ 3072) (hC : CW σ w) (hM : MWd τ w) (hW : WI w) (H : ∀ σ' τ' w', CW σ' w' → MWd τ' w' → WI w' → RLaw K n 1878 (l7 i) [] σ' τ' g) : RLaw K n 885 (l7 i) [] σ τ g := by
  obtain ⟨b, hk, hfc⟩ := hC.wk
  refine rl_aload_n (i := 1) dL_law_885 rfl rfl ?_
  refine rl_arg (kv := nI 1) dL_law_886 dL_law_887 dL_law_889 rfl dL_law_890 dL_law_891 (l_in hi hL (by decide)) ?_
  refine rl_callC (M' := mX10_upWhen) (d := 6) (z := 1) (As := [iV (K.xs (nI i + nI 1).toNatClampNeg)]) (ls0 := [some (rV 0 0), some (iV (K.xs (nI i + nI 1).toNatClampNeg)), none]) kX10_upWhen i_X10_upWhen e_X10_upWhen lL_100 dL_law_892 rfl rfl rfl rfl rfl (Nat.le_of_ble_eq_true rfl) (by decide) ?_
  refine S_upWhen hk hW.2.1.1 (Nat.le_trans hW.2.1.2.1 (by decide)) (fun σ1 hq => ?_)
  have hC1 := hC.q hq
  refine rl_aload_n (i := 2) dL_law_895 rfl rfl ?_
  refine rl_arg (kv := nI 1) dL_law_896 dL_law_897 dL_law_899 rfl dL_law_900 dL_law_901 (l_in hi hL (by decide)) ?_
  refine rl_callM (M' := mX11_upWhen) (d := 8) (z := 1) (As := [iV (K.xs (nI i + nI 1).toNatClampNeg)]) (ls0 := [some (rV 45 0), some (iV (K.xs (nI i + nI 1).toNatClampNeg)), none]) kX11_upWhen i_X11_upWhen e_X11_upWhen lL_103 dL_law_902 rfl rfl rfl rfl rfl (Nat.le_of_ble_eq_true rfl) (by decide) ?_
  refine M_upWhen hM.1 hM.2.1 hW.2.1.1 (Nat.le_trans hW.2.1.2.1 (by decide)) hW.2.1.2.2.2.1 (fun τ1 hq => ?_)
  have hM1 := hM.q hq
  exact rl_icmp_eq (tgt := 1878) dL_law_905 rfl (fun _ => H _ _ _ hC1 hM1 (hW)) (fun z => absurd rfl z)
theorem LB_joined (hi : i + 6 ≤ K.L) (hL : K.L ≤ 3072) (hC : CW σ w) (hM : MWd τ w) (hW : WI w) (H : ∀ σ' τ' w', CW σ' w' → MWd τ' w' → WI w' → RLaw K n 1878 (l7 i) [] σ' τ' g) : RLaw K n 910 (l7 i) [] σ τ g := by
  obtain ⟨b, hk, hfc⟩ := hC.wk
  refine rl_aload_n (i := 1) dL_law_910 rfl rfl ?_
  refine rl_arg (kv := nI 1) dL_law_911 dL_law_912 dL_law_914 rfl dL_law_915 dL_law_916 (l_in hi hL (by decide)) ?_
  refine rl_arg (kv := nI 2) dL_law_917 dL_law_918 dL_law_920 rfl dL_law_921 dL_law_922 (l_in hi hL (by decide)) ?_
  refine rl_callC (M' := mX10_joined) (d := 2) (z := 9) (As := [iV (K.xs (nI i + nI 1).toNatClampNeg), iV (K.xs (nI i + nI 2).toNatClampNeg)]) (ls0 := [some (rV 0 0), some (iV (K.xs (nI i + nI 1).toNatClampNeg)), some (iV (K.xs (nI i + nI 2).toNatClampNeg)), none, none, none, none, none, none, none, none, none]) kX10_joined i_X10_joined e_X10_joined lL_104 dL_law_923 rfl rfl rfl rfl rfl (Nat.le_of_ble_eq_true rfl) (by decide) ?_
  refine S_joined hk hW.2.1.2.2.1 ?_
  have hC1 := hC
  refine rl_aload_n (i := 2) dL_law_926 rfl rfl ?_
  refine rl_arg (kv := nI 1) dL_law_927 dL_law_928 dL_law_930 rfl dL_law_931 dL_law_932 (l_in hi hL (by decide)) ?_
  refine rl_arg (kv := nI 2) dL_law_933 dL_law_934 dL_law_936 rfl dL_law_937 dL_law_938 (l_in hi hL (by decide)) ?_
  refine rl_callM (M' := mX11_joined) (d := 3) (z := 0) (As := [iV (K.xs (nI i + nI 1).toNatClampNeg), iV (K.xs (nI i + nI 2).toNatClampNeg)]) (ls0 := [some (rV 45 0), some (iV (K.xs (nI i + nI 1).toNatClampNeg)), some (iV (K.xs (nI i + nI 2).toNatClampNeg))]) kX11_joined i_X11_joined e_X11_joined lL_107 dL_law_939 rfl rfl rfl rfl rfl (Nat.le_of_ble_eq_true rfl) (by decide) ?_
  refine M_joined hM.1 hW.2.1.2.2.1 (fun τ1 hq => ?_)
  have hM1 := hM.q hq
  exact rl_icmp_eq (tgt := 1878) dL_law_942 rfl (fun _ => H _ _ _ hC1 hM1 (hW)) (fun z => absurd rfl z)
theorem LB_needs (hi : i + 6 ≤ K.L) (hL : K.L ≤ 3072) (hC : CW σ w) (hM : MWd τ w) (hW : WI w) (H : ∀ σ' τ' w', CW σ' w' → MWd τ' w' → WI w' → RLaw K n 1878 (l7 i) [] σ' τ' g) : RLaw K n 947 (l7 i) [] σ τ g := by
  obtain ⟨b, hk, hfc⟩ := hC.wk
  refine rl_aload_n (i := 1) dL_law_947 rfl rfl ?_
  refine rl_arg (kv := nI 1) dL_law_948 dL_law_949 dL_law_951 rfl dL_law_952 dL_law_953 (l_in hi hL (by decide)) ?_
  refine rl_arg (kv := nI 2) dL_law_954 dL_law_955 dL_law_957 rfl dL_law_958 dL_law_959 (l_in hi hL (by decide)) ?_
  refine rl_callC (M' := mX10_needs) (d := 2) (z := 0) (As := [iV (K.xs (nI i + nI 1).toNatClampNeg), iV (K.xs (nI i + nI 2).toNatClampNeg)]) (ls0 := [some (rV 0 0), some (iV (K.xs (nI i + nI 1).toNatClampNeg)), some (iV (K.xs (nI i + nI 2).toNatClampNeg))]) kX10_needs i_X10_needs e_X10_needs lL_108 dL_law_960 rfl rfl rfl rfl rfl (Nat.le_of_ble_eq_true rfl) (by decide) ?_
  refine S_needs hk hW.2.1.2.2.1 ?_
  have hC1 := hC
  refine rl_aload_n (i := 2) dL_law_963 rfl rfl ?_
  refine rl_arg (kv := nI 1) dL_law_964 dL_law_965 dL_law_967 rfl dL_law_968 dL_law_969 (l_in hi hL (by decide)) ?_
  refine rl_arg (kv := nI 2) dL_law_970 dL_law_971 dL_law_973 rfl dL_law_974 dL_law_975 (l_in hi hL (by decide)) ?_
  refine rl_callM (M' := mX11_needs) (d := 2) (z := 0) (As := [iV (K.xs (nI i + nI 1).toNatClampNeg), iV (K.xs (nI i + nI 2).toNatClampNeg)]) (ls0 := [some (rV 45 0), some (iV (K.xs (nI i + nI 1).toNatClampNeg)), some (iV (K.xs (nI i + nI 2).toNatClampNeg))]) kX11_needs i_X11_needs e_X11_needs lL_111 dL_law_976 rfl rfl rfl rfl rfl (Nat.le_of_ble_eq_true rfl) (by decide) ?_
  refine M_needs hM.1 hW.2.1.2.2.1 (fun τ1 hq => ?_)
  have hM1 := hM.q hq
  exact rl_icmp_eq (tgt := 1878) dL_law_979 rfl (fun _ => H _ _ _ hC1 hM1 (hW)) (fun z => absurd rfl z)
theorem LB_spare (hi : i + 6 ≤ K.L) (hL : K.L ≤ 3072) (hC : CW σ w) (hM : MWd τ w) (hW : WI w) (H : ∀ σ' τ' w', CW σ' w' → MWd τ' w' → WI w' → RLaw K n 1878 (l7 i) [] σ' τ' g) : RLaw K n 984 (l7 i) [] σ τ g := by
  obtain ⟨b, hk, hfc⟩ := hC.wk
  refine rl_aload_n (i := 1) dL_law_984 rfl rfl ?_
  refine rl_arg (kv := nI 1) dL_law_985 dL_law_986 dL_law_988 rfl dL_law_989 dL_law_990 (l_in hi hL (by decide)) ?_
  refine rl_arg (kv := nI 2) dL_law_991 dL_law_992 dL_law_994 rfl dL_law_995 dL_law_996 (l_in hi hL (by decide)) ?_
  refine rl_callC (M' := mX10_spare) (d := 2) (z := 0) (As := [iV (K.xs (nI i + nI 1).toNatClampNeg), iV (K.xs (nI i + nI 2).toNatClampNeg)]) (ls0 := [some (rV 0 0), some (iV (K.xs (nI i + nI 1).toNatClampNeg)), some (iV (K.xs (nI i + nI 2).toNatClampNeg))]) kX10_spare i_X10_spare e_X10_spare lL_112 dL_law_997 rfl rfl rfl rfl rfl (Nat.le_of_ble_eq_true rfl) (by decide) ?_
  refine S_spare hk hW.2.1.2.2.1 ?_
  have hC1 := hC
  refine rl_aload_n (i := 2) dL_law_1000 rfl rfl ?_
  refine rl_arg (kv := nI 1) dL_law_1001 dL_law_1002 dL_law_1004 rfl dL_law_1005 dL_law_1006 (l_in hi hL (by decide)) ?_
  refine rl_arg (kv := nI 2) dL_law_1007 dL_law_1008 dL_law_1010 rfl dL_law_1011 dL_law_1012 (l_in hi hL (by decide)) ?_
  refine rl_callM (M' := mX11_spare) (d := 3) (z := 0) (As := [iV (K.xs (nI i + nI 1).toNatClampNeg), iV (K.xs (nI i + nI 2).toNatClampNeg)]) (ls0 := [some (rV 45 0), some (iV (K.xs (nI i + nI 1).toNatClampNeg)), some (iV (K.xs (nI i + nI 2).toNatClampNeg))]) kX11_spare i_X11_spare e_X11_spare lL_115 dL_law_1013 rfl rfl rfl rfl rfl (Nat.le_of_ble_eq_true rfl) (by decide) ?_
  refine M_spare hM.1 hW.2.1.2.2.1 (fun τ1 hq => ?_)
  have hM1 := hM.q hq
  exact rl_icmp_eq (tgt := 1878) dL_law_1016 rfl (fun _ => H _ _ _ hC1 hM1 (hW)) (fun z => absurd rfl z)
theorem LB_lift (hi : i + 6 ≤ K.L) (hL : K.L ≤ 3072) (hC : CW σ w) (hM : MWd τ w) (hW : WI w) (H : ∀ σ' τ' w', CW σ' w' → MWd τ' w' → WI w' → RLaw K n 1878 (l7 i) [] σ' τ' g) : RLaw K n 1021 (l7 i) [] σ τ g := by
  obtain ⟨b, hk, hfc⟩ := hC.wk
  refine rl_aload_n (i := 1) dL_law_1021 rfl rfl ?_
  refine rl_arg (kv := nI 1) dL_law_1022 dL_law_1023 dL_law_1025 rfl dL_law_1026 dL_law_1027 (l_in hi hL (by decide)) ?_
  refine rl_callC (M' := mX10_lift) (d := 2) (z := 0) (As := [iV (K.xs (nI i + nI 1).toNatClampNeg)]) (ls0 := [some (rV 0 0), some (iV (K.xs (nI i + nI 1).toNatClampNeg))]) kX10_lift i_X10_lift e_X10_lift lL_116 dL_law_1028 rfl rfl rfl rfl rfl (Nat.le_of_ble_eq_true rfl) (by decide) ?_
  refine S_lift hk ?_
  have hC1 := hC
  refine rl_aload_n (i := 2) dL_law_1031 rfl rfl ?_
  refine rl_arg (kv := nI 1) dL_law_1032 dL_law_1033 dL_law_1035 rfl dL_law_1036 dL_law_1037 (l_in hi hL (by decide)) ?_
  refine rl_callM (M' := mX11_lift) (d := 2) (z := 0) (As := [iV (K.xs (nI i + nI 1).toNatClampNeg)]) (ls0 := [some (rV 45 0), some (iV (K.xs (nI i + nI 1).toNatClampNeg))]) kX11_lift i_X11_lift e_X11_lift lL_119 dL_law_1038 rfl rfl rfl rfl rfl (Nat.le_of_ble_eq_true rfl) (by decide) ?_
  refine M_lift hM.1 (fun τ1 hq => ?_)
  have hM1 := hM.q hq
  exact rl_icmp_eq (tgt := 1878) dL_law_1041 rfl (fun _ => H _ _ _ hC1 hM1 (hW)) (fun z => absurd rfl z)
theorem LB_fewest (hi : i + 6 ≤ K.L) (hL : K.L ≤ 3072) (hC : CW σ w) (hM : MWd τ w) (hW : WI w) (H : ∀ σ' τ' w', CW σ' w' → MWd τ' w' → WI w' → RLaw K n 1878 (l7 i) [] σ' τ' g) : RLaw K n 1046 (l7 i) [] σ τ g := by
  obtain ⟨b, hk, hfc⟩ := hC.wk
  refine rl_aload_n (i := 1) dL_law_1046 rfl rfl ?_
  refine rl_arg (kv := nI 1) dL_law_1047 dL_law_1048 dL_law_1050 rfl dL_law_1051 dL_law_1052 (l_in hi hL (by decide)) ?_
  refine rl_arg (kv := nI 2) dL_law_1053 dL_law_1054 dL_law_1056 rfl dL_law_1057 dL_law_1058 (l_in hi hL (by decide)) ?_
  refine rl_arg (kv := nI 3) dL_law_1059 dL_law_1060 dL_law_1062 rfl dL_law_1063 dL_law_1064 (l_in hi hL (by decide)) ?_
  refine rl_callC (M' := mX10_fewest) (d := 9) (z := 0) (As := [iV (K.xs (nI i + nI 1).toNatClampNeg), iV (K.xs (nI i + nI 2).toNatClampNeg), iV (K.xs (nI i + nI 3).toNatClampNeg)]) (ls0 := [some (rV 0 0), some (iV (K.xs (nI i + nI 1).toNatClampNeg)), some (iV (K.xs (nI i + nI 2).toNatClampNeg)), some (iV (K.xs (nI i + nI 3).toNatClampNeg))]) kX10_fewest i_X10_fewest e_X10_fewest lL_120 dL_law_1065 rfl rfl rfl rfl rfl (Nat.le_of_ble_eq_true rfl) (by decide) ?_
  refine S_fewest hk hW.2.1.2.2.1 (fun σ1 hq => ?_)
  have hC1 := hC.q hq
  refine rl_aload_n (i := 2) dL_law_1068 rfl rfl ?_
  refine rl_arg (kv := nI 1) dL_law_1069 dL_law_1070 dL_law_1072 rfl dL_law_1073 dL_law_1074 (l_in hi hL (by decide)) ?_
  refine rl_arg (kv := nI 2) dL_law_1075 dL_law_1076 dL_law_1078 rfl dL_law_1079 dL_law_1080 (l_in hi hL (by decide)) ?_
  refine rl_arg (kv := nI 3) dL_law_1081 dL_law_1082 dL_law_1084 rfl dL_law_1085 dL_law_1086 (l_in hi hL (by decide)) ?_
  refine rl_callM (M' := mX11_fewest) (d := 12) (z := 1) (As := [iV (K.xs (nI i + nI 1).toNatClampNeg), iV (K.xs (nI i + nI 2).toNatClampNeg), iV (K.xs (nI i + nI 3).toNatClampNeg)]) (ls0 := [some (rV 45 0), some (iV (K.xs (nI i + nI 1).toNatClampNeg)), some (iV (K.xs (nI i + nI 2).toNatClampNeg)), some (iV (K.xs (nI i + nI 3).toNatClampNeg)), none]) kX11_fewest i_X11_fewest e_X11_fewest lL_123 dL_law_1087 rfl rfl rfl rfl rfl (Nat.le_of_ble_eq_true rfl) (by decide) ?_
  refine M_fewest hM.1 (fun τ1 hq => ?_)
  have hM1 := hM.q hq
  exact rl_icmp_eq (tgt := 1878) dL_law_1090 rfl (fun _ => H _ _ _ hC1 hM1 (hW)) (fun z => absurd rfl z)
theorem LB_draws (hi : i + 6 ≤ K.L) (hL : K.L ≤ 3072) (hC : CW σ w) (hM : MWd τ w) (hW : WI w) (H : ∀ σ' τ' w', CW σ' w' → MWd τ' w' → WI w' → RLaw K n 1878 (l7 i) [] σ' τ' g) : RLaw K n 1095 (l7 i) [] σ τ g := by
  obtain ⟨b, hk, hfc⟩ := hC.wk
  refine rl_aload_n (i := 1) dL_law_1095 rfl rfl ?_
  refine rl_arg (kv := nI 1) dL_law_1096 dL_law_1097 dL_law_1099 rfl dL_law_1100 dL_law_1101 (l_in hi hL (by decide)) ?_
  refine rl_arg (kv := nI 2) dL_law_1102 dL_law_1103 dL_law_1105 rfl dL_law_1106 dL_law_1107 (l_in hi hL (by decide)) ?_
  refine rl_arg (kv := nI 3) dL_law_1108 dL_law_1109 dL_law_1111 rfl dL_law_1112 dL_law_1113 (l_in hi hL (by decide)) ?_
  refine rl_callC (M' := mX10_draws) (d := 9) (z := 0) (As := [iV (K.xs (nI i + nI 1).toNatClampNeg), iV (K.xs (nI i + nI 2).toNatClampNeg), iV (K.xs (nI i + nI 3).toNatClampNeg)]) (ls0 := [some (rV 0 0), some (iV (K.xs (nI i + nI 1).toNatClampNeg)), some (iV (K.xs (nI i + nI 2).toNatClampNeg)), some (iV (K.xs (nI i + nI 3).toNatClampNeg))]) kX10_draws i_X10_draws e_X10_draws lL_124 dL_law_1114 rfl rfl rfl rfl rfl (Nat.le_of_ble_eq_true rfl) (by decide) ?_
  refine S_draws hk hW.2.1.2.2.1 (fun σ1 hq => ?_)
  have hC1 := hC.q hq
  refine rl_aload_n (i := 2) dL_law_1117 rfl rfl ?_
  refine rl_arg (kv := nI 1) dL_law_1118 dL_law_1119 dL_law_1121 rfl dL_law_1122 dL_law_1123 (l_in hi hL (by decide)) ?_
  refine rl_arg (kv := nI 2) dL_law_1124 dL_law_1125 dL_law_1127 rfl dL_law_1128 dL_law_1129 (l_in hi hL (by decide)) ?_
  refine rl_arg (kv := nI 3) dL_law_1130 dL_law_1131 dL_law_1133 rfl dL_law_1134 dL_law_1135 (l_in hi hL (by decide)) ?_
  refine rl_callM (M' := mX11_draws) (d := 11) (z := 0) (As := [iV (K.xs (nI i + nI 1).toNatClampNeg), iV (K.xs (nI i + nI 2).toNatClampNeg), iV (K.xs (nI i + nI 3).toNatClampNeg)]) (ls0 := [some (rV 45 0), some (iV (K.xs (nI i + nI 1).toNatClampNeg)), some (iV (K.xs (nI i + nI 2).toNatClampNeg)), some (iV (K.xs (nI i + nI 3).toNatClampNeg))]) kX11_draws i_X11_draws e_X11_draws lL_127 dL_law_1136 rfl rfl rfl rfl rfl (Nat.le_of_ble_eq_true rfl) (by decide) ?_
  refine M_draws hM.1 (fun τ1 hq => ?_)
  have hM1 := hM.q hq
  exact rl_icmp_eq (tgt := 1878) dL_law_1139 rfl (fun _ => H _ _ _ hC1 hM1 (hW)) (fun z => absurd rfl z)
theorem LB_highest (hi : i + 6 ≤ K.L) (hL : K.L ≤ 3072) (hC : CW σ w) (hM : MWd τ w) (hW : WI w) (H : ∀ σ' τ' w', CW σ' w' → MWd τ' w' → WI w' → RLaw K n 1878 (l7 i) [] σ' τ' g) : RLaw K n 1144 (l7 i) [] σ τ g := by
  obtain ⟨b, hk, hfc⟩ := hC.wk
  refine rl_aload_n (i := 1) dL_law_1144 rfl rfl ?_
  refine rl_arg (kv := nI 1) dL_law_1145 dL_law_1146 dL_law_1148 rfl dL_law_1149 dL_law_1150 (l_in hi hL (by decide)) ?_
  refine rl_callC (M' := mX10_highest) (d := 1) (z := 3) (As := [iV (K.xs (nI i + nI 1).toNatClampNeg)]) (ls0 := [some (rV 0 0), some (iV (K.xs (nI i + nI 1).toNatClampNeg)), none, none, none]) kX10_highest i_X10_highest e_X10_highest lL_128 dL_law_1151 rfl rfl rfl rfl rfl (Nat.le_of_ble_eq_true rfl) (by decide) ?_
  refine S_highest hk ?_
  have hC1 := hC
  refine rl_aload_n (i := 2) dL_law_1154 rfl rfl ?_
  refine rl_arg (kv := nI 1) dL_law_1155 dL_law_1156 dL_law_1158 rfl dL_law_1159 dL_law_1160 (l_in hi hL (by decide)) ?_
  refine rl_callM (M' := mX11_highest) (d := 2) (z := 3) (As := [iV (K.xs (nI i + nI 1).toNatClampNeg)]) (ls0 := [some (rV 45 0), some (iV (K.xs (nI i + nI 1).toNatClampNeg)), none, none, none]) kX11_highest i_X11_highest e_X11_highest lL_131 dL_law_1161 rfl rfl rfl rfl rfl (Nat.le_of_ble_eq_true rfl) (by decide) ?_
  refine M_highest hM.1 (fun τ1 hq => ?_)
  have hM1 := hM.q hq
  exact rl_icmp_eq (tgt := 1878) dL_law_1164 rfl (fun _ => H _ _ _ hC1 hM1 (hW)) (fun z => absurd rfl z)
theorem LB_apart (hi : i + 6 ≤ K.L) (hL : K.L ≤ 3072) (hC : CW σ w) (hM : MWd τ w) (hW : WI w) (H : ∀ σ' τ' w', CW σ' w' → MWd τ' w' → WI w' → RLaw K n 1878 (l7 i) [] σ' τ' g) : RLaw K n 1169 (l7 i) [] σ τ g := by
  obtain ⟨b, hk, hfc⟩ := hC.wk
  refine rl_aload_n (i := 1) dL_law_1169 rfl rfl ?_
  refine rl_arg (kv := nI 1) dL_law_1170 dL_law_1171 dL_law_1173 rfl dL_law_1174 dL_law_1175 (l_in hi hL (by decide)) ?_
  refine rl_arg (kv := nI 2) dL_law_1176 dL_law_1177 dL_law_1179 rfl dL_law_1180 dL_law_1181 (l_in hi hL (by decide)) ?_
  refine rl_arg (kv := nI 3) dL_law_1182 dL_law_1183 dL_law_1185 rfl dL_law_1186 dL_law_1187 (l_in hi hL (by decide)) ?_
  refine rl_callC (M' := mX10_apart) (d := 2) (z := 0) (As := [iV (K.xs (nI i + nI 1).toNatClampNeg), iV (K.xs (nI i + nI 2).toNatClampNeg), iV (K.xs (nI i + nI 3).toNatClampNeg)]) (ls0 := [some (rV 0 0), some (iV (K.xs (nI i + nI 1).toNatClampNeg)), some (iV (K.xs (nI i + nI 2).toNatClampNeg)), some (iV (K.xs (nI i + nI 3).toNatClampNeg))]) kX10_apart i_X10_apart e_X10_apart lL_132 dL_law_1188 rfl rfl rfl rfl rfl (Nat.le_of_ble_eq_true rfl) (by decide) ?_
  refine S_apart hk hW.2.1.2.2.1 ?_
  have hC1 := hC
  refine rl_aload_n (i := 2) dL_law_1191 rfl rfl ?_
  refine rl_arg (kv := nI 1) dL_law_1192 dL_law_1193 dL_law_1195 rfl dL_law_1196 dL_law_1197 (l_in hi hL (by decide)) ?_
  refine rl_arg (kv := nI 2) dL_law_1198 dL_law_1199 dL_law_1201 rfl dL_law_1202 dL_law_1203 (l_in hi hL (by decide)) ?_
  refine rl_arg (kv := nI 3) dL_law_1204 dL_law_1205 dL_law_1207 rfl dL_law_1208 dL_law_1209 (l_in hi hL (by decide)) ?_
  refine rl_callM (M' := mX11_apart) (d := 2) (z := 0) (As := [iV (K.xs (nI i + nI 1).toNatClampNeg), iV (K.xs (nI i + nI 2).toNatClampNeg), iV (K.xs (nI i + nI 3).toNatClampNeg)]) (ls0 := [some (rV 45 0), some (iV (K.xs (nI i + nI 1).toNatClampNeg)), some (iV (K.xs (nI i + nI 2).toNatClampNeg)), some (iV (K.xs (nI i + nI 3).toNatClampNeg))]) kX11_apart i_X11_apart e_X11_apart lL_135 dL_law_1210 rfl rfl rfl rfl rfl (Nat.le_of_ble_eq_true rfl) (by decide) ?_
  refine M_apart hM.1 hW.2.1.2.2.1 (fun τ1 hq => ?_)
  have hM1 := hM.q hq
  exact rl_icmp_eq (tgt := 1878) dL_law_1213 rfl (fun _ => H _ _ _ hC1 hM1 (hW)) (fun z => absurd rfl z)
theorem LB_still (hi : i + 6 ≤ K.L) (hL : K.L ≤ 3072) (hC : CW σ w) (hM : MWd τ w) (hW : WI w) (H : ∀ σ' τ' w', CW σ' w' → MWd τ' w' → WI w' → RLaw K n 1878 (l7 i) [] σ' τ' g) : RLaw K n 1218 (l7 i) [] σ τ g := by
  obtain ⟨b, hk, hfc⟩ := hC.wk
  refine rl_aload_n (i := 1) dL_law_1218 rfl rfl ?_
  refine rl_arg (kv := nI 1) dL_law_1219 dL_law_1220 dL_law_1222 rfl dL_law_1223 dL_law_1224 (l_in hi hL (by decide)) ?_
  refine rl_arg (kv := nI 2) dL_law_1225 dL_law_1226 dL_law_1228 rfl dL_law_1229 dL_law_1230 (l_in hi hL (by decide)) ?_
  refine rl_callC (M' := mX10_still) (d := 5) (z := 1) (As := [iV (K.xs (nI i + nI 1).toNatClampNeg), iV (K.xs (nI i + nI 2).toNatClampNeg)]) (ls0 := [some (rV 0 0), some (iV (K.xs (nI i + nI 1).toNatClampNeg)), some (iV (K.xs (nI i + nI 2).toNatClampNeg)), none]) kX10_still i_X10_still e_X10_still lL_136 dL_law_1231 rfl rfl rfl rfl rfl (Nat.le_of_ble_eq_true rfl) (by decide) ?_
  refine S_still hk (fun σ1 hq => ?_)
  have hC1 := hC.q hq
  refine rl_aload_n (i := 2) dL_law_1234 rfl rfl ?_
  refine rl_arg (kv := nI 1) dL_law_1235 dL_law_1236 dL_law_1238 rfl dL_law_1239 dL_law_1240 (l_in hi hL (by decide)) ?_
  refine rl_arg (kv := nI 2) dL_law_1241 dL_law_1242 dL_law_1244 rfl dL_law_1245 dL_law_1246 (l_in hi hL (by decide)) ?_
  refine rl_callM (M' := mX11_still) (d := 7) (z := 1) (As := [iV (K.xs (nI i + nI 1).toNatClampNeg), iV (K.xs (nI i + nI 2).toNatClampNeg)]) (ls0 := [some (rV 45 0), some (iV (K.xs (nI i + nI 1).toNatClampNeg)), some (iV (K.xs (nI i + nI 2).toNatClampNeg)), none]) kX11_still i_X11_still e_X11_still lL_139 dL_law_1247 rfl rfl rfl rfl rfl (Nat.le_of_ble_eq_true rfl) (by decide) ?_
  refine M_still hM.1 (fun τ1 hq => ?_)
  have hM1 := hM.q hq
  exact rl_icmp_eq (tgt := 1878) dL_law_1250 rfl (fun _ => H _ _ _ hC1 hM1 (hW)) (fun z => absurd rfl z)
theorem LB_reach (hi : i + 6 ≤ K.L) (hL : K.L ≤ 3072) (hC : CW σ w) (hM : MWd τ w) (hW : WI w) (H : ∀ σ' τ' w', CW σ' w' → MWd τ' w' → WI w' → RLaw K n 1878 (l7 i) [] σ' τ' g) : RLaw K n 1255 (l7 i) [] σ τ g := by
  obtain ⟨b, hk, hfc⟩ := hC.wk
  refine rl_aload_n (i := 1) dL_law_1255 rfl rfl ?_
  refine rl_arg (kv := nI 1) dL_law_1256 dL_law_1257 dL_law_1259 rfl dL_law_1260 dL_law_1261 (l_in hi hL (by decide)) ?_
  refine rl_callC (M' := mX10_reach) (d := 1) (z := 2) (As := [iV (K.xs (nI i + nI 1).toNatClampNeg)]) (ls0 := [some (rV 0 0), some (iV (K.xs (nI i + nI 1).toNatClampNeg)), none, none]) kX10_reach i_X10_reach e_X10_reach lL_140 dL_law_1262 rfl rfl rfl rfl rfl (Nat.le_of_ble_eq_true rfl) (by decide) ?_
  refine S_reach hk ?_
  have hC1 := hC
  refine rl_aload_n (i := 2) dL_law_1265 rfl rfl ?_
  refine rl_arg (kv := nI 1) dL_law_1266 dL_law_1267 dL_law_1269 rfl dL_law_1270 dL_law_1271 (l_in hi hL (by decide)) ?_
  refine rl_callM (M' := mX11_reach) (d := 2) (z := 3) (As := [iV (K.xs (nI i + nI 1).toNatClampNeg)]) (ls0 := [some (rV 45 0), some (iV (K.xs (nI i + nI 1).toNatClampNeg)), none, none, none]) kX11_reach i_X11_reach e_X11_reach lL_143 dL_law_1272 rfl rfl rfl rfl rfl (Nat.le_of_ble_eq_true rfl) (by decide) ?_
  refine M_reach hM.1 (fun τ1 hq => ?_)
  have hM1 := hM.q hq
  exact rl_icmp_eq (tgt := 1878) dL_law_1275 rfl (fun _ => H _ _ _ hC1 hM1 (hW)) (fun z => absurd rfl z)
theorem LB_pass (hi : i + 6 ≤ K.L) (hL : K.L ≤ 3072) (hC : CW σ w) (hM : MWd τ w) (hW : WI w) (H : ∀ σ' τ' w', CW σ' w' → MWd τ' w' → WI w' → RLaw K n 1878 (l7 i) [] σ' τ' g) : RLaw K n 1280 (l7 i) [] σ τ g := by
  obtain ⟨b, hk, hfc⟩ := hC.wk
  refine rl_aload_n (i := 1) dL_law_1280 rfl rfl ?_
  refine rl_arg (kv := nI 1) dL_law_1281 dL_law_1282 dL_law_1284 rfl dL_law_1285 dL_law_1286 (l_in hi hL (by decide)) ?_
  refine rl_arg (kv := nI 2) dL_law_1287 dL_law_1288 dL_law_1290 rfl dL_law_1291 dL_law_1292 (l_in hi hL (by decide)) ?_
  refine rl_callC (M' := mX10_pass) (d := 1) (z := 2) (As := [iV (K.xs (nI i + nI 1).toNatClampNeg), iV (K.xs (nI i + nI 2).toNatClampNeg)]) (ls0 := [some (rV 0 0), some (iV (K.xs (nI i + nI 1).toNatClampNeg)), some (iV (K.xs (nI i + nI 2).toNatClampNeg)), none, none]) kX10_pass i_X10_pass e_X10_pass lL_144 dL_law_1293 rfl rfl rfl rfl rfl (Nat.le_of_ble_eq_true rfl) (by decide) ?_
  refine S_pass hk ?_
  have hC1 := hC
  refine rl_aload_n (i := 2) dL_law_1296 rfl rfl ?_
  refine rl_arg (kv := nI 1) dL_law_1297 dL_law_1298 dL_law_1300 rfl dL_law_1301 dL_law_1302 (l_in hi hL (by decide)) ?_
  refine rl_arg (kv := nI 2) dL_law_1303 dL_law_1304 dL_law_1306 rfl dL_law_1307 dL_law_1308 (l_in hi hL (by decide)) ?_
  refine rl_callM (M' := mX11_pass) (d := 3) (z := 1) (As := [iV (K.xs (nI i + nI 1).toNatClampNeg), iV (K.xs (nI i + nI 2).toNatClampNeg)]) (ls0 := [some (rV 45 0), some (iV (K.xs (nI i + nI 1).toNatClampNeg)), some (iV (K.xs (nI i + nI 2).toNatClampNeg)), none]) kX11_pass i_X11_pass e_X11_pass lL_147 dL_law_1309 rfl rfl rfl rfl rfl (Nat.le_of_ble_eq_true rfl) (by decide) ?_
  refine M_pass hM.1 (fun τ1 hq => ?_)
  have hM1 := hM.q hq
  exact rl_icmp_eq (tgt := 1878) dL_law_1312 rfl (fun _ => H _ _ _ hC1 hM1 (hW)) (fun z => absurd rfl z)
theorem LB_lockfuls (hi : i + 6 ≤ K.L) (hL : K.L ≤ 3072) (hC : CW σ w) (hM : MWd τ w) (hW : WI w) (H : ∀ σ' τ' w', CW σ' w' → MWd τ' w' → WI w' → RLaw K n 1878 (l7 i) [] σ' τ' g) : RLaw K n 1317 (l7 i) [] σ τ g := by
  obtain ⟨b, hk, hfc⟩ := hC.wk
  refine rl_aload_n (i := 1) dL_law_1317 rfl rfl ?_
  refine rl_arg (kv := nI 1) dL_law_1318 dL_law_1319 dL_law_1321 rfl dL_law_1322 dL_law_1323 (l_in hi hL (by decide)) ?_
  refine rl_arg (kv := nI 2) dL_law_1324 dL_law_1325 dL_law_1327 rfl dL_law_1328 dL_law_1329 (l_in hi hL (by decide)) ?_
  refine rl_callC (M' := mX10_lockfuls) (d := 2) (z := 1) (As := [iV (K.xs (nI i + nI 1).toNatClampNeg), iV (K.xs (nI i + nI 2).toNatClampNeg)]) (ls0 := [some (rV 0 0), some (iV (K.xs (nI i + nI 1).toNatClampNeg)), some (iV (K.xs (nI i + nI 2).toNatClampNeg)), none]) kX10_lockfuls i_X10_lockfuls e_X10_lockfuls lL_148 dL_law_1330 rfl rfl rfl rfl rfl (Nat.le_of_ble_eq_true rfl) (by decide) ?_
  refine S_lockfuls hk hW.2.1.2.2.1 ?_
  have hC1 := hC
  refine rl_aload_n (i := 2) dL_law_1333 rfl rfl ?_
  refine rl_arg (kv := nI 1) dL_law_1334 dL_law_1335 dL_law_1337 rfl dL_law_1338 dL_law_1339 (l_in hi hL (by decide)) ?_
  refine rl_arg (kv := nI 2) dL_law_1340 dL_law_1341 dL_law_1343 rfl dL_law_1344 dL_law_1345 (l_in hi hL (by decide)) ?_
  refine rl_callM (M' := mX11_lockfuls) (d := 2) (z := 1) (As := [iV (K.xs (nI i + nI 1).toNatClampNeg), iV (K.xs (nI i + nI 2).toNatClampNeg)]) (ls0 := [some (rV 45 0), some (iV (K.xs (nI i + nI 1).toNatClampNeg)), some (iV (K.xs (nI i + nI 2).toNatClampNeg)), none]) kX11_lockfuls i_X11_lockfuls e_X11_lockfuls lL_151 dL_law_1346 rfl rfl rfl rfl rfl (Nat.le_of_ble_eq_true rfl) (by decide) ?_
  refine M_lockfuls hM.1 hW.2.1.2.2.1 (fun τ1 hq => ?_)
  have hM1 := hM.q hq
  exact rl_icmp_eq (tgt := 1878) dL_law_1349 rfl (fun _ => H _ _ _ hC1 hM1 (hW)) (fun z => absurd rfl z)
theorem LB_game (hi : i + 6 ≤ K.L) (hL : K.L ≤ 3072) (hC : CW σ w) (hM : MWd τ w) (hW : WI w) (H : ∀ σ' τ' w', CW σ' w' → MWd τ' w' → WI w' → RLaw K n 1878 (l7 i) [] σ' τ' g) : RLaw K n 1354 (l7 i) [] σ τ g := by
  obtain ⟨b, hk, hfc⟩ := hC.wk
  refine rl_aload_n (i := 1) dL_law_1354 rfl rfl ?_
  refine rl_arg (kv := nI 1) dL_law_1355 dL_law_1356 dL_law_1358 rfl dL_law_1359 dL_law_1360 (l_in hi hL (by decide)) ?_
  refine rl_arg (kv := nI 2) dL_law_1361 dL_law_1362 dL_law_1364 rfl dL_law_1365 dL_law_1366 (l_in hi hL (by decide)) ?_
  refine rl_arg (kv := nI 3) dL_law_1367 dL_law_1368 dL_law_1370 rfl dL_law_1371 dL_law_1372 (l_in hi hL (by decide)) ?_
  refine rl_callC (M' := mX10_game) (d := 2) (z := 2) (As := [iV (K.xs (nI i + nI 1).toNatClampNeg), iV (K.xs (nI i + nI 2).toNatClampNeg), iV (K.xs (nI i + nI 3).toNatClampNeg)]) (ls0 := [some (rV 0 0), some (iV (K.xs (nI i + nI 1).toNatClampNeg)), some (iV (K.xs (nI i + nI 2).toNatClampNeg)), some (iV (K.xs (nI i + nI 3).toNatClampNeg)), none, none]) kX10_game i_X10_game e_X10_game lL_152 dL_law_1373 rfl rfl rfl rfl rfl (Nat.le_of_ble_eq_true rfl) (by decide) ?_
  refine S_game hk hW.2.1.2.2.1 ?_
  have hC1 := hC
  refine rl_aload_n (i := 2) dL_law_1376 rfl rfl ?_
  refine rl_arg (kv := nI 1) dL_law_1377 dL_law_1378 dL_law_1380 rfl dL_law_1381 dL_law_1382 (l_in hi hL (by decide)) ?_
  refine rl_arg (kv := nI 2) dL_law_1383 dL_law_1384 dL_law_1386 rfl dL_law_1387 dL_law_1388 (l_in hi hL (by decide)) ?_
  refine rl_arg (kv := nI 3) dL_law_1389 dL_law_1390 dL_law_1392 rfl dL_law_1393 dL_law_1394 (l_in hi hL (by decide)) ?_
  refine rl_callM (M' := mX11_game) (d := 3) (z := 1) (As := [iV (K.xs (nI i + nI 1).toNatClampNeg), iV (K.xs (nI i + nI 2).toNatClampNeg), iV (K.xs (nI i + nI 3).toNatClampNeg)]) (ls0 := [some (rV 45 0), some (iV (K.xs (nI i + nI 1).toNatClampNeg)), some (iV (K.xs (nI i + nI 2).toNatClampNeg)), some (iV (K.xs (nI i + nI 3).toNatClampNeg)), none]) kX11_game i_X11_game e_X11_game lL_155 dL_law_1395 rfl rfl rfl rfl rfl (Nat.le_of_ble_eq_true rfl) (by decide) ?_
  refine M_game hM.1 hW.2.1.2.2.1 (fun τ1 hq => ?_)
  have hM1 := hM.q hq
  exact rl_icmp_eq (tgt := 1878) dL_law_1398 rfl (fun _ => H _ _ _ hC1 hM1 (hW)) (fun z => absurd rfl z)
theorem LB_rests (hi : i + 6 ≤ K.L) (hL : K.L ≤ 3072) (hC : CW σ w) (hM : MWd τ w) (hW : WI w) (H : ∀ σ' τ' w', CW σ' w' → MWd τ' w' → WI w' → RLaw K n 1878 (l7 i) [] σ' τ' g) : RLaw K n 1403 (l7 i) [] σ τ g := by
  obtain ⟨b, hk, hfc⟩ := hC.wk
  refine rl_aload_n (i := 1) dL_law_1403 rfl rfl ?_
  refine rl_arg (kv := nI 1) dL_law_1404 dL_law_1405 dL_law_1407 rfl dL_law_1408 dL_law_1409 (l_in hi hL (by decide)) ?_
  refine rl_arg (kv := nI 2) dL_law_1410 dL_law_1411 dL_law_1413 rfl dL_law_1414 dL_law_1415 (l_in hi hL (by decide)) ?_
  refine rl_callC (M' := mX10_rests) (d := 2) (z := 2) (As := [iV (K.xs (nI i + nI 1).toNatClampNeg), iV (K.xs (nI i + nI 2).toNatClampNeg)]) (ls0 := [some (rV 0 0), some (iV (K.xs (nI i + nI 1).toNatClampNeg)), some (iV (K.xs (nI i + nI 2).toNatClampNeg)), none, none]) kX10_rests i_X10_rests e_X10_rests lL_156 dL_law_1416 rfl rfl rfl rfl rfl (Nat.le_of_ble_eq_true rfl) (by decide) ?_
  refine S_rests hk ?_
  have hC1 := hC
  refine rl_aload_n (i := 2) dL_law_1419 rfl rfl ?_
  refine rl_arg (kv := nI 1) dL_law_1420 dL_law_1421 dL_law_1423 rfl dL_law_1424 dL_law_1425 (l_in hi hL (by decide)) ?_
  refine rl_arg (kv := nI 2) dL_law_1426 dL_law_1427 dL_law_1429 rfl dL_law_1430 dL_law_1431 (l_in hi hL (by decide)) ?_
  refine rl_callM (M' := mX11_rests) (d := 3) (z := 0) (As := [iV (K.xs (nI i + nI 1).toNatClampNeg), iV (K.xs (nI i + nI 2).toNatClampNeg)]) (ls0 := [some (rV 45 0), some (iV (K.xs (nI i + nI 1).toNatClampNeg)), some (iV (K.xs (nI i + nI 2).toNatClampNeg))]) kX11_rests i_X11_rests e_X11_rests lL_159 dL_law_1432 rfl rfl rfl rfl rfl (Nat.le_of_ble_eq_true rfl) (by decide) ?_
  refine M_rests hM.1 (fun τ1 hq => ?_)
  have hM1 := hM.q hq
  exact rl_icmp_eq (tgt := 1878) dL_law_1435 rfl (fun _ => H _ _ _ hC1 hM1 (hW)) (fun z => absurd rfl z)
theorem LB_rest (hi : i + 6 ≤ K.L) (hL : K.L ≤ 3072) (hC : CW σ w) (hM : MWd τ w) (hW : WI w) (H : ∀ σ' τ' w', CW σ' w' → MWd τ' w' → WI w' → RLaw K n 1878 (l7 i) [] σ' τ' g) : RLaw K n 1440 (l7 i) [] σ τ g := by
  obtain ⟨b, hk, hfc⟩ := hC.wk
  refine rl_aload_n (i := 1) dL_law_1440 rfl rfl ?_
  refine rl_arg (kv := nI 1) dL_law_1441 dL_law_1442 dL_law_1444 rfl dL_law_1445 dL_law_1446 (l_in hi hL (by decide)) ?_
  refine rl_arg (kv := nI 2) dL_law_1447 dL_law_1448 dL_law_1450 rfl dL_law_1451 dL_law_1452 (l_in hi hL (by decide)) ?_
  refine rl_arg (kv := nI 3) dL_law_1453 dL_law_1454 dL_law_1456 rfl dL_law_1457 dL_law_1458 (l_in hi hL (by decide)) ?_
  refine rl_callC (M' := mX10_rest) (d := 2) (z := 2) (As := [iV (K.xs (nI i + nI 1).toNatClampNeg), iV (K.xs (nI i + nI 2).toNatClampNeg), iV (K.xs (nI i + nI 3).toNatClampNeg)]) (ls0 := [some (rV 0 0), some (iV (K.xs (nI i + nI 1).toNatClampNeg)), some (iV (K.xs (nI i + nI 2).toNatClampNeg)), some (iV (K.xs (nI i + nI 3).toNatClampNeg)), none, none]) kX10_rest i_X10_rest e_X10_rest lL_160 dL_law_1459 rfl rfl rfl rfl rfl (Nat.le_of_ble_eq_true rfl) (by decide) ?_
  refine S_rest hk ?_
  have hC1 := hC
  refine rl_aload_n (i := 2) dL_law_1462 rfl rfl ?_
  refine rl_arg (kv := nI 1) dL_law_1463 dL_law_1464 dL_law_1466 rfl dL_law_1467 dL_law_1468 (l_in hi hL (by decide)) ?_
  refine rl_arg (kv := nI 2) dL_law_1469 dL_law_1470 dL_law_1472 rfl dL_law_1473 dL_law_1474 (l_in hi hL (by decide)) ?_
  refine rl_arg (kv := nI 3) dL_law_1475 dL_law_1476 dL_law_1478 rfl dL_law_1479 dL_law_1480 (l_in hi hL (by decide)) ?_
  refine rl_callM (M' := mX11_rest) (d := 3) (z := 0) (As := [iV (K.xs (nI i + nI 1).toNatClampNeg), iV (K.xs (nI i + nI 2).toNatClampNeg), iV (K.xs (nI i + nI 3).toNatClampNeg)]) (ls0 := [some (rV 45 0), some (iV (K.xs (nI i + nI 1).toNatClampNeg)), some (iV (K.xs (nI i + nI 2).toNatClampNeg)), some (iV (K.xs (nI i + nI 3).toNatClampNeg))]) kX11_rest i_X11_rest e_X11_rest lL_163 dL_law_1481 rfl rfl rfl rfl rfl (Nat.le_of_ble_eq_true rfl) (by decide) ?_
  refine M_rest hM.1 (fun τ1 hq => ?_)
  have hM1 := hM.q hq
  exact rl_icmp_eq (tgt := 1878) dL_law_1484 rfl (fun _ => H _ _ _ hC1 hM1 (hW)) (fun z => absurd rfl z)
theorem LB_holds (hi : i + 6 ≤ K.L) (hL : K.L ≤ 3072) (hC : CW σ w) (hM : MWd τ w) (hW : WI w) (H : ∀ σ' τ' w', CW σ' w' → MWd τ' w' → WI w' → RLaw K n 1878 (l7 i) [] σ' τ' g) : RLaw K n 1489 (l7 i) [] σ τ g := by
  obtain ⟨b, hk, hfc⟩ := hC.wk
  refine rl_aload_n (i := 1) dL_law_1489 rfl rfl ?_
  refine rl_arg (kv := nI 1) dL_law_1490 dL_law_1491 dL_law_1493 rfl dL_law_1494 dL_law_1495 (l_in hi hL (by decide)) ?_
  refine rl_arg (kv := nI 2) dL_law_1496 dL_law_1497 dL_law_1499 rfl dL_law_1500 dL_law_1501 (l_in hi hL (by decide)) ?_
  refine rl_callC (M' := mX10_holds) (d := 1) (z := 5) (As := [iV (K.xs (nI i + nI 1).toNatClampNeg), iV (K.xs (nI i + nI 2).toNatClampNeg)]) (ls0 := [some (rV 0 0), some (iV (K.xs (nI i + nI 1).toNatClampNeg)), some (iV (K.xs (nI i + nI 2).toNatClampNeg)), none, none, none, none, none]) kX10_holds i_X10_holds e_X10_holds lL_164 dL_law_1502 rfl rfl rfl rfl rfl (Nat.le_of_ble_eq_true rfl) (by decide) ?_
  refine S_holds hk ?_
  have hC1 := hC
  refine rl_aload_n (i := 2) dL_law_1505 rfl rfl ?_
  refine rl_arg (kv := nI 1) dL_law_1506 dL_law_1507 dL_law_1509 rfl dL_law_1510 dL_law_1511 (l_in hi hL (by decide)) ?_
  refine rl_arg (kv := nI 2) dL_law_1512 dL_law_1513 dL_law_1515 rfl dL_law_1516 dL_law_1517 (l_in hi hL (by decide)) ?_
  refine rl_callM (M' := mX11_holds) (d := 1) (z := 10) (As := [iV (K.xs (nI i + nI 1).toNatClampNeg), iV (K.xs (nI i + nI 2).toNatClampNeg)]) (ls0 := [some (rV 45 0), some (iV (K.xs (nI i + nI 1).toNatClampNeg)), some (iV (K.xs (nI i + nI 2).toNatClampNeg)), none, none, none, none, none, none, none, none, none, none]) kX11_holds i_X11_holds e_X11_holds lL_167 dL_law_1518 rfl rfl rfl rfl rfl (Nat.le_of_ble_eq_true rfl) (by decide) ?_
  refine M_holds hM.1 (fun τ1 hq => ?_)
  have hM1 := hM.q hq
  refine rl_lcmp dL_law_1521 ?_
  exact rl_if_eq (tgt := 1878) dL_law_1522 rfl (fun _ => H _ _ _ hC1 hM1 (hW)) (fun z => absurd ((lg_cmp_eq _ _).mpr rfl) z)
theorem LB_see (hi : i + 6 ≤ K.L) (hL : K.L ≤ 3072) (hC : CW σ w) (hM : MWd τ w) (hW : WI w) (H : ∀ σ' τ' w', CW σ' w' → MWd τ' w' → WI w' → RLaw K n 1878 (l7 i) [] σ' τ' g) : RLaw K n 1527 (l7 i) [] σ τ g := by
  refine rl_aload_n (i := 1) dL_law_1527 rfl rfl ?_
  refine rl_arg (kv := nI 1) dL_law_1528 dL_law_1529 dL_law_1531 rfl dL_law_1532 dL_law_1533 (l_in hi hL (by decide)) ?_
  refine rl_arg (kv := nI 2) dL_law_1534 dL_law_1535 dL_law_1537 rfl dL_law_1538 dL_law_1539 (l_in hi hL (by decide)) ?_
  refine rl_arg (kv := nI 3) dL_law_1540 dL_law_1541 dL_law_1543 rfl dL_law_1544 dL_law_1545 (l_in hi hL (by decide)) ?_
  refine rl_arg (kv := nI 4) dL_law_1546 dL_law_1547 dL_law_1549 rfl dL_law_1550 dL_law_1551 (l_in hi hL (by decide)) ?_
  suffices hS : ∀ bb : Bool, (bb = true ↔ ¬ K.xs (nI i + nI 4).toNatClampNeg = 0) → RLaw K n 1560 (l7 i) [iV (i01 bb), iV (K.xs (nI i + nI 3).toNatClampNeg), iV (K.xs (nI i + nI 2).toNatClampNeg), iV (K.xs (nI i + nI 1).toNatClampNeg), rV 0 0] σ τ g by
    exact rl_if_eq (tgt := 1559) dL_law_1552 rfl (fun z => rl_iconst (v := i01 false) dL_law_1559 rfl (hS false ⟨fun h => Bool.noConfusion h, fun h => absurd z h⟩)) (fun z => rl_iconst (v := i01 true) dL_law_1555 rfl (rl_goto (tgt := 1560) dL_law_1556 rfl (hS true ⟨fun _ => z, fun _ => rfl⟩)))
  intro bb hbb
  refine rl_callC (M' := mX10_see) (d := 2) (z := 0) (As := [iV (K.xs (nI i + nI 1).toNatClampNeg), iV (K.xs (nI i + nI 2).toNatClampNeg), iV (K.xs (nI i + nI 3).toNatClampNeg), iV (i01 bb)]) (ls0 := [some (rV 0 0), some (iV (K.xs (nI i + nI 1).toNatClampNeg)), some (iV (K.xs (nI i + nI 2).toNatClampNeg)), some (iV (K.xs (nI i + nI 3).toNatClampNeg)), some (iV (i01 bb))]) kX10_see i_X10_see e_X10_see lL_168 dL_law_1560 rfl rfl rfl rfl rfl (Nat.le_of_ble_eq_true rfl) (by decide) ?_
  refine C_see hC hW (fun σ1 hC1 => ?_)
  refine rl_aload_n (i := 2) dL_law_1563 rfl rfl ?_
  refine rl_arg (kv := nI 1) dL_law_1564 dL_law_1565 dL_law_1567 rfl dL_law_1568 dL_law_1569 (l_in hi hL (by decide)) ?_
  refine rl_arg (kv := nI 2) dL_law_1570 dL_law_1571 dL_law_1573 rfl dL_law_1574 dL_law_1575 (l_in hi hL (by decide)) ?_
  refine rl_arg (kv := nI 3) dL_law_1576 dL_law_1577 dL_law_1579 rfl dL_law_1580 dL_law_1581 (l_in hi hL (by decide)) ?_
  refine rl_arg (kv := nI 4) dL_law_1582 dL_law_1583 dL_law_1585 rfl dL_law_1586 dL_law_1587 (l_in hi hL (by decide)) ?_
  suffices hS : ∀ v : Int32, v = i01 bb → RLaw K n 1596 (l7 i) [iV v, iV (K.xs (nI i + nI 3).toNatClampNeg), iV (K.xs (nI i + nI 2).toNatClampNeg), iV (K.xs (nI i + nI 1).toNatClampNeg), rV 45 0, iV (uSee w (K.xs (nI i + nI 1).toNatClampNeg) (K.xs (nI i + nI 2).toNatClampNeg) (K.xs (nI i + nI 3).toNatClampNeg) bb).1] σ1 τ g by
    exact rl_if_eq (tgt := 1595) dL_law_1588 rfl (fun z => rl_iconst (v := 0) dL_law_1595 rfl (hS 0 (by cases bb; rfl; exact absurd z (hbb.mp rfl)))) (fun z => rl_iconst (v := 1) dL_law_1591 rfl (rl_goto (tgt := 1596) dL_law_1592 rfl (hS 1 (by cases bb; exact absurd (hbb.mpr z) Bool.noConfusion; rfl))))
  rintro _ rfl
  refine rl_callM (M' := mX11_see) (d := 1) (z := 0) (As := [iV (K.xs (nI i + nI 1).toNatClampNeg), iV (K.xs (nI i + nI 2).toNatClampNeg), iV (K.xs (nI i + nI 3).toNatClampNeg), iV (i01 bb)]) (ls0 := [some (rV 45 0), some (iV (K.xs (nI i + nI 1).toNatClampNeg)), some (iV (K.xs (nI i + nI 2).toNatClampNeg)), some (iV (K.xs (nI i + nI 3).toNatClampNeg)), some (iV (i01 bb))]) kX11_see i_X11_see e_X11_see lL_172 dL_law_1596 rfl rfl rfl rfl rfl (Nat.le_of_ble_eq_true rfl) (by decide) ?_
  refine D_see hM hW (fun τ1 hM1 => ?_)
  exact rl_icmp_eq (tgt := 1878) dL_law_1599 rfl (fun _ => H _ _ _ hC1 hM1 (uSee_wi hW)) (fun z => absurd rfl z)
theorem LB_strike (hi : i + 6 ≤ K.L) (hL : K.L ≤ 3072) (hC : CW σ w) (hM : MWd τ w) (hW : WI w) (H : ∀ σ' τ' w', CW σ' w' → MWd τ' w' → WI w' → RLaw K n 1878 (l7 i) [] σ' τ' g) : RLaw K n 1604 (l7 i) [] σ τ g := by
  refine rl_aload_n (i := 1) dL_law_1604 rfl rfl ?_
  refine rl_arg (kv := nI 1) dL_law_1605 dL_law_1606 dL_law_1608 rfl dL_law_1609 dL_law_1610 (l_in hi hL (by decide)) ?_
  refine rl_callC (M' := mX10_strike) (d := 2) (z := 0) (As := [iV (K.xs (nI i + nI 1).toNatClampNeg)]) (ls0 := [some (rV 0 0), some (iV (K.xs (nI i + nI 1).toNatClampNeg))]) kX10_strike i_X10_strike e_X10_strike lL_173 dL_law_1611 rfl rfl rfl rfl rfl (Nat.le_of_ble_eq_true rfl) (by decide) ?_
  refine C_strike hC hW (fun σ1 hC1 => ?_)
  refine rl_aload_n (i := 2) dL_law_1614 rfl rfl ?_
  refine rl_arg (kv := nI 1) dL_law_1615 dL_law_1616 dL_law_1618 rfl dL_law_1619 dL_law_1620 (l_in hi hL (by decide)) ?_
  refine rl_callM (M' := mX11_strike) (d := 0) (z := 0) (As := [iV (K.xs (nI i + nI 1).toNatClampNeg)]) (ls0 := [some (rV 45 0), some (iV (K.xs (nI i + nI 1).toNatClampNeg))]) kX11_strike i_X11_strike e_X11_strike lL_176 dL_law_1621 rfl rfl rfl rfl rfl (Nat.le_of_ble_eq_true rfl) (by decide) ?_
  refine D_strike hM hW (fun τ1 hM1 => ?_)
  exact rl_icmp_eq (tgt := 1878) dL_law_1624 rfl (fun _ => H _ _ _ hC1 hM1 (uStrike_wi hW)) (fun z => absurd rfl z)
theorem LB_known (hi : i + 6 ≤ K.L) (hL : K.L ≤ 3072) (hC : CW σ w) (hM : MWd τ w) (hW : WI w) (H : ∀ σ' τ' w', CW σ' w' → MWd τ' w' → WI w' → RLaw K n 1878 (l7 i) [] σ' τ' g) : RLaw K n 1629 (l7 i) [] σ τ g := by
  refine rl_aload_n (i := 1) dL_law_1629 rfl rfl ?_
  refine rl_arg (kv := nI 1) dL_law_1630 dL_law_1631 dL_law_1633 rfl dL_law_1634 dL_law_1635 (l_in hi hL (by decide)) ?_
  refine rl_callC (M' := mX10_known) (d := 0) (z := 0) (As := [iV (K.xs (nI i + nI 1).toNatClampNeg)]) (ls0 := [some (rV 0 0), some (iV (K.xs (nI i + nI 1).toNatClampNeg))]) kX10_known i_X10_known e_X10_known lL_177 dL_law_1636 rfl rfl rfl rfl rfl (Nat.le_of_ble_eq_true rfl) (by decide) ?_
  refine C_known hC (fun σ1 hC1 => ?_)
  refine rl_aload_n (i := 2) dL_law_1639 rfl rfl ?_
  refine rl_arg (kv := nI 1) dL_law_1640 dL_law_1641 dL_law_1643 rfl dL_law_1644 dL_law_1645 (l_in hi hL (by decide)) ?_
  refine rl_callM (M' := mX11_known) (d := 0) (z := 0) (As := [iV (K.xs (nI i + nI 1).toNatClampNeg)]) (ls0 := [some (rV 45 0), some (iV (K.xs (nI i + nI 1).toNatClampNeg))]) kX11_known i_X11_known e_X11_known lL_180 dL_law_1646 rfl rfl rfl rfl rfl (Nat.le_of_ble_eq_true rfl) (by decide) ?_
  refine D_known hM (fun τ1 hM1 => ?_)
  exact rl_icmp_eq (tgt := 1878) dL_law_1649 rfl (fun _ => H _ _ _ hC1 hM1 (uKnown_wi hW)) (fun z => absurd rfl z)
theorem LB_leaks (hi : i + 6 ≤ K.L) (hL : K.L ≤ 3072) (hC : CW σ w) (hM : MWd τ w) (hW : WI w) (H : ∀ σ' τ' w', CW σ' w' → MWd τ' w' → WI w' → RLaw K n 1878 (l7 i) [] σ' τ' g) : RLaw K n 1654 (l7 i) [] σ τ g := by
  obtain ⟨b, hk, hfc⟩ := hC.wk
  refine rl_aload_n (i := 1) dL_law_1654 rfl rfl ?_
  refine rl_arg (kv := nI 1) dL_law_1655 dL_law_1656 dL_law_1658 rfl dL_law_1659 dL_law_1660 (l_in hi hL (by decide)) ?_
  refine rl_callC (M' := mX10_leaks) (d := 7) (z := 0) (As := [iV (K.xs (nI i + nI 1).toNatClampNeg)]) (ls0 := [some (rV 0 0), some (iV (K.xs (nI i + nI 1).toNatClampNeg))]) kX10_leaks i_X10_leaks e_X10_leaks lL_181 dL_law_1661 rfl rfl rfl rfl rfl (Nat.le_of_ble_eq_true rfl) (by decide) ?_
  refine S_leaks hk hW.2.2.2.2.2.1 hfc (fun σ1 hq => ?_)
  have hC1 := hC.q hq
  refine rl_aload_n (i := 2) dL_law_1664 rfl rfl ?_
  refine rl_arg (kv := nI 1) dL_law_1665 dL_law_1666 dL_law_1668 rfl dL_law_1669 dL_law_1670 (l_in hi hL (by decide)) ?_
  refine rl_callM (M' := mX11_leaks) (d := 10) (z := 0) (As := [iV (K.xs (nI i + nI 1).toNatClampNeg)]) (ls0 := [some (rV 45 0), some (iV (K.xs (nI i + nI 1).toNatClampNeg))]) kX11_leaks i_X11_leaks e_X11_leaks lL_184 dL_law_1671 rfl rfl rfl rfl rfl (Nat.le_of_ble_eq_true rfl) (by decide) ?_
  refine M_leaks hM.1 hM.2.1 hW.2.2.2.2.2.1 hM.2.2.2.2.2.1 (fun τ1 hq => ?_)
  have hM1 := hM.q hq
  exact rl_icmp_eq (tgt := 1878) dL_law_1674 rfl (fun _ => H _ _ _ hC1 hM1 (hW)) (fun z => absurd rfl z)
theorem LB_ask (hi : i + 6 ≤ K.L) (hL : K.L ≤ 3072) (hC : CW σ w) (hM : MWd τ w) (hW : WI w) (H : ∀ σ' τ' w', CW σ' w' → MWd τ' w' → WI w' → RLaw K n 1878 (l7 i) [] σ' τ' g) : RLaw K n 1679 (l7 i) [] σ τ g := by
  obtain ⟨b, hk, hfc⟩ := hC.wk
  refine rl_aload_n (i := 1) dL_law_1679 rfl rfl ?_
  refine rl_arg (kv := nI 1) dL_law_1680 dL_law_1681 dL_law_1683 rfl dL_law_1684 dL_law_1685 (l_in hi hL (by decide)) ?_
  refine rl_arg (kv := nI 2) dL_law_1686 dL_law_1687 dL_law_1689 rfl dL_law_1690 dL_law_1691 (l_in hi hL (by decide)) ?_
  refine rl_callC (M' := mX10_ask) (d := 7) (z := 5) (As := [iV (K.xs (nI i + nI 1).toNatClampNeg), iV (K.xs (nI i + nI 2).toNatClampNeg)]) (ls0 := [some (rV 0 0), some (iV (K.xs (nI i + nI 1).toNatClampNeg)), some (iV (K.xs (nI i + nI 2).toNatClampNeg)), none, none, none, none, none]) kX10_ask i_X10_ask e_X10_ask lL_185 dL_law_1692 rfl rfl rfl rfl rfl (Nat.le_of_ble_eq_true rfl) (by decide) ?_
  refine S_ask hk hW.2.2.2.2.2.1 hfc (fun σ1 hq => ?_)
  have hC1 := hC.q hq
  refine rl_aload_n (i := 2) dL_law_1695 rfl rfl ?_
  refine rl_arg (kv := nI 1) dL_law_1696 dL_law_1697 dL_law_1699 rfl dL_law_1700 dL_law_1701 (l_in hi hL (by decide)) ?_
  refine rl_arg (kv := nI 2) dL_law_1702 dL_law_1703 dL_law_1705 rfl dL_law_1706 dL_law_1707 (l_in hi hL (by decide)) ?_
  refine rl_callM (M' := mX11_ask) (d := 10) (z := 3) (As := [iV (K.xs (nI i + nI 1).toNatClampNeg), iV (K.xs (nI i + nI 2).toNatClampNeg)]) (ls0 := [some (rV 45 0), some (iV (K.xs (nI i + nI 1).toNatClampNeg)), some (iV (K.xs (nI i + nI 2).toNatClampNeg)), none, none, none]) kX11_ask i_X11_ask e_X11_ask lL_188 dL_law_1708 rfl rfl rfl rfl rfl (Nat.le_of_ble_eq_true rfl) (by decide) ?_
  refine M_ask hM.1 hM.2.1 hW.2.2.2.2.2.1 hM.2.2.2.2.2.1 (fun τ1 hq => ?_)
  have hM1 := hM.q hq
  exact rl_icmp_eq (tgt := 1878) dL_law_1711 rfl (fun _ => H _ _ _ hC1 hM1 (hW)) (fun z => absurd rfl z)
theorem LB_chance (hi : i + 6 ≤ K.L) (hL : K.L ≤ 3072) (hC : CW σ w) (hM : MWd τ w) (hW : WI w) (H : ∀ σ' τ' w', CW σ' w' → MWd τ' w' → WI w' → RLaw K n 1878 (l7 i) [] σ' τ' g) : RLaw K n 1716 (l7 i) [] σ τ g := by
  obtain ⟨b, hk, hfc⟩ := hC.wk
  refine rl_aload_n (i := 1) dL_law_1716 rfl rfl ?_
  refine rl_arg (kv := nI 1) dL_law_1717 dL_law_1718 dL_law_1720 rfl dL_law_1721 dL_law_1722 (l_in hi hL (by decide)) ?_
  refine rl_arg (kv := nI 2) dL_law_1723 dL_law_1724 dL_law_1726 rfl dL_law_1727 dL_law_1728 (l_in hi hL (by decide)) ?_
  refine rl_arg (kv := nI 3) dL_law_1729 dL_law_1730 dL_law_1732 rfl dL_law_1733 dL_law_1734 (l_in hi hL (by decide)) ?_
  refine rl_callC (M' := mX10_chance) (d := 7) (z := 3) (As := [iV (K.xs (nI i + nI 1).toNatClampNeg), iV (K.xs (nI i + nI 2).toNatClampNeg), iV (K.xs (nI i + nI 3).toNatClampNeg)]) (ls0 := [some (rV 0 0), some (iV (K.xs (nI i + nI 1).toNatClampNeg)), some (iV (K.xs (nI i + nI 2).toNatClampNeg)), some (iV (K.xs (nI i + nI 3).toNatClampNeg)), none, none, none]) kX10_chance i_X10_chance e_X10_chance lL_189 dL_law_1735 rfl rfl rfl rfl rfl (Nat.le_of_ble_eq_true rfl) (by decide) ?_
  refine S_chance hk hW.2.1.1 (Nat.le_trans hW.2.1.2.1 (by decide)) (fun σ1 hq => ?_)
  have hC1 := hC.q hq
  refine rl_aload_n (i := 2) dL_law_1738 rfl rfl ?_
  refine rl_arg (kv := nI 1) dL_law_1739 dL_law_1740 dL_law_1742 rfl dL_law_1743 dL_law_1744 (l_in hi hL (by decide)) ?_
  refine rl_arg (kv := nI 2) dL_law_1745 dL_law_1746 dL_law_1748 rfl dL_law_1749 dL_law_1750 (l_in hi hL (by decide)) ?_
  refine rl_arg (kv := nI 3) dL_law_1751 dL_law_1752 dL_law_1754 rfl dL_law_1755 dL_law_1756 (l_in hi hL (by decide)) ?_
  refine rl_callM (M' := mX11_chance) (d := 8) (z := 4) (As := [iV (K.xs (nI i + nI 1).toNatClampNeg), iV (K.xs (nI i + nI 2).toNatClampNeg), iV (K.xs (nI i + nI 3).toNatClampNeg)]) (ls0 := [some (rV 45 0), some (iV (K.xs (nI i + nI 1).toNatClampNeg)), some (iV (K.xs (nI i + nI 2).toNatClampNeg)), some (iV (K.xs (nI i + nI 3).toNatClampNeg)), none, none, none, none]) kX11_chance i_X11_chance e_X11_chance lL_192 dL_law_1757 rfl rfl rfl rfl rfl (Nat.le_of_ble_eq_true rfl) (by decide) ?_
  refine M_chance hM.1 hM.2.1 hW.2.1.1 (Nat.le_trans hW.2.1.2.1 (by decide)) hW.2.1.2.2.2.1 (fun τ1 hq => ?_)
  have hM1 := hM.q hq
  exact rl_icmp_eq (tgt := 1878) dL_law_1760 rfl (fun _ => H _ _ _ hC1 hM1 (hW)) (fun z => absurd rfl z)
theorem LB_tried (hi : i + 6 ≤ K.L) (hL : K.L ≤ 3072) (hC : CW σ w) (hM : MWd τ w) (hW : WI w) (H : ∀ σ' τ' w', CW σ' w' → MWd τ' w' → WI w' → RLaw K n 1878 (l7 i) [] σ' τ' g) : RLaw K n 1765 (l7 i) [] σ τ g := by
  obtain ⟨b, hk, hfc⟩ := hC.wk
  refine rl_aload_n (i := 1) dL_law_1765 rfl rfl ?_
  refine rl_arg (kv := nI 1) dL_law_1766 dL_law_1767 dL_law_1769 rfl dL_law_1770 dL_law_1771 (l_in hi hL (by decide)) ?_
  refine rl_arg (kv := nI 2) dL_law_1772 dL_law_1773 dL_law_1775 rfl dL_law_1776 dL_law_1777 (l_in hi hL (by decide)) ?_
  refine rl_arg (kv := nI 3) dL_law_1778 dL_law_1779 dL_law_1781 rfl dL_law_1782 dL_law_1783 (l_in hi hL (by decide)) ?_
  refine rl_callC (M' := mX10_tried) (d := 7) (z := 1) (As := [iV (K.xs (nI i + nI 1).toNatClampNeg), iV (K.xs (nI i + nI 2).toNatClampNeg), iV (K.xs (nI i + nI 3).toNatClampNeg)]) (ls0 := [some (rV 0 0), some (iV (K.xs (nI i + nI 1).toNatClampNeg)), some (iV (K.xs (nI i + nI 2).toNatClampNeg)), some (iV (K.xs (nI i + nI 3).toNatClampNeg)), none]) kX10_tried i_X10_tried e_X10_tried lL_193 dL_law_1784 rfl rfl rfl rfl rfl (Nat.le_of_ble_eq_true rfl) (by decide) ?_
  refine S_tried hk hW.2.1.1 (Nat.le_trans hW.2.1.2.1 (by decide)) (fun σ1 hq => ?_)
  have hC1 := hC.q hq
  refine rl_aload_n (i := 2) dL_law_1787 rfl rfl ?_
  refine rl_arg (kv := nI 1) dL_law_1788 dL_law_1789 dL_law_1791 rfl dL_law_1792 dL_law_1793 (l_in hi hL (by decide)) ?_
  refine rl_arg (kv := nI 2) dL_law_1794 dL_law_1795 dL_law_1797 rfl dL_law_1798 dL_law_1799 (l_in hi hL (by decide)) ?_
  refine rl_arg (kv := nI 3) dL_law_1800 dL_law_1801 dL_law_1803 rfl dL_law_1804 dL_law_1805 (l_in hi hL (by decide)) ?_
  refine rl_callM (M' := mX11_tried) (d := 9) (z := 1) (As := [iV (K.xs (nI i + nI 1).toNatClampNeg), iV (K.xs (nI i + nI 2).toNatClampNeg), iV (K.xs (nI i + nI 3).toNatClampNeg)]) (ls0 := [some (rV 45 0), some (iV (K.xs (nI i + nI 1).toNatClampNeg)), some (iV (K.xs (nI i + nI 2).toNatClampNeg)), some (iV (K.xs (nI i + nI 3).toNatClampNeg)), none]) kX11_tried i_X11_tried e_X11_tried lL_196 dL_law_1806 rfl rfl rfl rfl rfl (Nat.le_of_ble_eq_true rfl) (by decide) ?_
  refine M_tried hM.1 hM.2.1 hW.2.1.1 (Nat.le_trans hW.2.1.2.1 (by decide)) hW.2.1.2.2.2.1 (fun τ1 hq => ?_)
  have hM1 := hM.q hq
  exact rl_icmp_eq (tgt := 1878) dL_law_1809 rfl (fun _ => H _ _ _ hC1 hM1 (hW)) (fun z => absurd rfl z)
theorem LB_undo (hi : i + 6 ≤ K.L) (hL : K.L ≤ 3072) (hC : CW σ w) (hM : MWd τ w) (hW : WI w) (H : ∀ σ' τ' w', CW σ' w' → MWd τ' w' → WI w' → RLaw K n 1878 (l7 i) [] σ' τ' g) : RLaw K n 1814 (l7 i) [] σ τ g := by
  refine rl_aload_n (i := 1) dL_law_1814 rfl rfl ?_
  refine rl_callC (M' := mX10_undo) (d := 1) (z := 0) (As := []) (ls0 := [some (rV 0 0)]) kX10_undo i_X10_undo e_X10_undo lL_197 dL_law_1815 rfl rfl rfl rfl rfl (Nat.le_of_ble_eq_true rfl) (by decide) ?_
  refine C_undo hC hW (fun σ1 hC1 => ?_)
  refine rl_aload_n (i := 2) dL_law_1818 rfl rfl ?_
  refine rl_callM (M' := mX11_undo) (d := 1) (z := 0) (As := []) (ls0 := [some (rV 45 0)]) kX11_undo i_X11_undo e_X11_undo lL_200 dL_law_1819 rfl rfl rfl rfl rfl (Nat.le_of_ble_eq_true rfl) (by decide) ?_
  refine D_undo hM hW (fun τ1 hM1 => ?_)
  exact rl_icmp_eq (tgt := 1878) dL_law_1822 rfl (fun _ => H _ _ _ hC1 hM1 (uUndo_wi hW)) (fun z => absurd rfl z)
theorem LB_keep (hi : i + 6 ≤ K.L) (hL : K.L ≤ 3072) (hC : CW σ w) (hM : MWd τ w) (hW : WI w) (H : ∀ σ' τ' w', CW σ' w' → MWd τ' w' → WI w' → RLaw K n 1878 (l7 i) [] σ' τ' g) : RLaw K n 1827 (l7 i) [] σ τ g := by
  refine rl_aload_n (i := 1) dL_law_1827 rfl rfl ?_
  refine rl_callC (M' := mX10_keep) (d := 1) (z := 0) (As := []) (ls0 := [some (rV 0 0)]) kX10_keep i_X10_keep e_X10_keep lL_201 dL_law_1828 rfl rfl rfl rfl rfl (Nat.le_of_ble_eq_true rfl) (by decide) ?_
  refine C_keep hC (fun σ1 hC1 => ?_)
  refine rl_aload_n (i := 2) dL_law_1831 rfl rfl ?_
  refine rl_callM (M' := mX11_keep) (d := 1) (z := 0) (As := []) (ls0 := [some (rV 45 0)]) kX11_keep i_X11_keep e_X11_keep lL_204 dL_law_1832 rfl rfl rfl rfl rfl (Nat.le_of_ble_eq_true rfl) (by decide) ?_
  refine D_keep hM (fun τ1 hM1 => ?_)
  exact rl_icmp_eq (tgt := 1878) dL_law_1835 rfl (fun _ => H _ _ _ hC1 hM1 (uKeep_wi hW)) (fun z => absurd rfl z)
theorem LB_back (hi : i + 6 ≤ K.L) (hL : K.L ≤ 3072) (hC : CW σ w) (hM : MWd τ w) (hW : WI w) (H : ∀ σ' τ' w', CW σ' w' → MWd τ' w' → WI w' → RLaw K n 1878 (l7 i) [] σ' τ' g) : RLaw K n 1840 (l7 i) [] σ τ g := by
  refine rl_aload_n (i := 1) dL_law_1840 rfl rfl ?_
  refine rl_callC (M' := mX10_back) (d := 1) (z := 0) (As := []) (ls0 := [some (rV 0 0)]) kX10_back i_X10_back e_X10_back lL_205 dL_law_1841 rfl rfl rfl rfl rfl (Nat.le_of_ble_eq_true rfl) (by decide) ?_
  refine C_back hC (fun σ1 hC1 => ?_)
  refine rl_aload_n (i := 2) dL_law_1844 rfl rfl ?_
  refine rl_callM (M' := mX11_back) (d := 1) (z := 0) (As := []) (ls0 := [some (rV 45 0)]) kX11_back i_X11_back e_X11_back lL_208 dL_law_1845 rfl rfl rfl rfl rfl (Nat.le_of_ble_eq_true rfl) (by decide) ?_
  refine D_back hM (fun τ1 hM1 => ?_)
  exact rl_icmp_eq (tgt := 1878) dL_law_1848 rfl (fun _ => H _ _ _ hC1 hM1 (uBack_wi hW)) (fun z => absurd rfl z)
theorem LB_count (hi : i + 6 ≤ K.L) (hL : K.L ≤ 3072) (hC : CW σ w) (hM : MWd τ w) (hW : WI w) (H : ∀ σ' τ' w', CW σ' w' → MWd τ' w' → WI w' → RLaw K n 1878 (l7 i) [] σ' τ' g) : RLaw K n 1853 (l7 i) [] σ τ g := by
  refine rl_aload_n (i := 1) dL_law_1853 rfl rfl ?_
  refine rl_arg (kv := nI 1) dL_law_1854 dL_law_1855 dL_law_1857 rfl dL_law_1858 dL_law_1859 (l_in hi hL (by decide)) ?_
  refine rl_callC (M' := mX10_count) (d := 1) (z := 0) (As := [iV (K.xs (nI i + nI 1).toNatClampNeg)]) (ls0 := [some (rV 0 0), some (iV (K.xs (nI i + nI 1).toNatClampNeg))]) kX10_count i_X10_count e_X10_count lL_209 dL_law_1860 rfl rfl rfl rfl rfl (Nat.le_of_ble_eq_true rfl) (by decide) ?_
  refine C_count hC hW ?_
  have hC1 := hC
  refine rl_aload_n (i := 2) dL_law_1863 rfl rfl ?_
  refine rl_arg (kv := nI 1) dL_law_1864 dL_law_1865 dL_law_1867 rfl dL_law_1868 dL_law_1869 (l_in hi hL (by decide)) ?_
  refine rl_callM (M' := mX11_count) (d := 1) (z := 0) (As := [iV (K.xs (nI i + nI 1).toNatClampNeg)]) (ls0 := [some (rV 45 0), some (iV (K.xs (nI i + nI 1).toNatClampNeg))]) kX11_count i_X11_count e_X11_count lL_212 dL_law_1870 rfl rfl rfl rfl rfl (Nat.le_of_ble_eq_true rfl) (by decide) ?_
  refine D_count hM hW (fun τ1 hq => ?_)
  have hM1 := hM.q hq
  exact rl_icmp_eq (tgt := 1878) dL_law_1873 rfl (fun _ => H _ _ _ hC1 hM1 (hW)) (fun z => absurd rfl z)
end LB
