/-! The law's cases. -/
section TWC
variable {E : tl_E} {nm : String} {b L : Nat} {xs : Nat → Int32} {k n i : Nat} {u : tl_S} {l5 l6 : Option Value}
theorem tw_c0 (h : tp_JJ E.2.1 u) (hk : k + 1 ≤ 634490) (hn : n + 6 ≤ 7192633) (hi : i + 4 < L) (hL : L ≤ 2560) (K : ∀ u1, tp_JJ E.2.1 u1 → ∀ l5 l6, tl_R E (mW nm) (tw_X E b L xs) lw_Z (k + 1) (n + 6) (tl_HB E u1) 2087 (tw_ls E b i l5 l6) []) : tl_R E (mW nm) (tw_X E b L xs) lw_Z k n (tl_HB E u) 176 (tw_ls E b i l5 l6) [] := by
  obtain ⟨t, r, v, e1, hl, r2, w, e2, e3, e4, e5, e6⟩ := tx_append h (a := xs (i + 1))
  refine tl_aload_n (q := 1) dW_176 rfl (tw_arg (j := 1) dW_177 dW_178 dW_180 dW_181 dW_182 rfl rfl i9_1 (by omega) (by omega) (tl_aload_n (q := 3) dW_183 rfl ?_))
  refine tw_callH (As := [.ref E.2.1, .int (xs (i + 1)), .ref (E.2.1 + 566)]) (rest := []) (lL_append e1 hl) dW_184 cH_append ⟨hk, hn⟩ (Nat.le_of_ble_eq_true rfl) ?_
  refine tl_istore (i := 5) dW_187 (Nat.le_of_ble_eq_true rfl) ?_
  refine tl_aload_n (q := 2) dW_189 rfl (tw_arg (j := 1) dW_190 dW_191 dW_193 dW_194 dW_195 rfl rfl i9_1 (by omega) (by omega) ?_)
  refine tw_callM (As := [.int (xs (i + 1))]) (rest := []) (l10_append tw_T10 e2) (tl_recv tl_ck10 tw_T10) dW_196 cV_X10_append ⟨hk, hn⟩ (Nat.le_of_ble_eq_true rfl) ?_
  exact tw_tail (k := k + 1) (n := n + 6) (T := 199) ⟨dW_199, dW_201, dW_202, dW_205, dW_207, dW_212, dW_214, dW_217, dW_218, dW_219, dW_220, dW_222, dW_223, dW_224, dW_229⟩ (by decide) hk hn e3 (tw_h2 hl (by decide) e4 e5) (K w e6)
theorem tw_c1 (h : tp_JJ E.2.1 u) (hk : k + 1 ≤ 634490) (hn : n + 6 ≤ 7192633) (hi : i + 4 < L) (hL : L ≤ 2560) (K : ∀ u1, tp_JJ E.2.1 u1 → ∀ l5 l6, tl_R E (mW nm) (tw_X E b L xs) lw_Z (k + 1) (n + 6) (tl_HB E u1) 2087 (tw_ls E b i l5 l6) []) : tl_R E (mW nm) (tw_X E b L xs) lw_Z k n (tl_HB E u) 232 (tw_ls E b i l5 l6) [] := by
  obtain ⟨r, v, w, e1, e2, e6⟩ := tx_clearText h
  refine tl_aload_n (q := 1) dW_232 rfl (tw_callM (As := []) (l9_clearText tl_T9 e1) (tl_recv tl_ck9 tl_T9) dW_233 cV_X9_clearText ⟨by show k + 0 ≤ 634490; omega, by show n + 0 ≤ 7192633; omega⟩ (Nat.le_of_ble_eq_true rfl) ?_)
  refine tl_aload_n (q := 2) dW_236 rfl (tw_callM (As := []) (l10_clearText tw_T10 e2) (tl_recv tl_ck10 tw_T10) dW_237 cV_X10_clearText ⟨by show k + 0 + 0 ≤ 634490; omega, by show n + 0 + 0 ≤ 7192633; omega⟩ (Nat.le_of_ble_eq_true rfl) ?_)
  exact tl_icmp_eq dW_240 (by decide) (fun _ => tl_widen (k2 := k + 1) (n2 := n + 6) (by show k + 0 + 0 ≤ k + 1; omega) (by show n + 0 + 0 ≤ n + 6; omega) (K w e6 l5 l6)) (fun hne => absurd rfl hne)
theorem tw_c2 (h : tp_JJ E.2.1 u) (hk : k + 1 ≤ 634490) (hn : n + 6 ≤ 7192633) (hi : i + 4 < L) (hL : L ≤ 2560) (K : ∀ u1, tp_JJ E.2.1 u1 → ∀ l5 l6, tl_R E (mW nm) (tw_X E b L xs) lw_Z (k + 1) (n + 6) (tl_HB E u1) 2087 (tw_ls E b i l5 l6) []) : tl_R E (mW nm) (tw_X E b L xs) lw_Z k n (tl_HB E u) 245 (tw_ls E b i l5 l6) [] := by
  obtain ⟨r, v, w, e1, e2, e6⟩ := tx_errorPosition h
  refine tl_aload_n (q := 1) dW_245 rfl (tw_callM (As := []) (l9_errorPosition tl_T9 e1) (tl_recv tl_ck9 tl_T9) dW_246 cV_X9_errorPosition ⟨by show k + 0 ≤ 634490; omega, by show n + 0 ≤ 7192633; omega⟩ (Nat.le_of_ble_eq_true rfl) ?_)
  refine tl_aload_n (q := 2) dW_249 rfl (tw_callM (As := []) (l10_errorPosition tw_T10 e2) (tl_recv tl_ck10 tw_T10) dW_250 cV_X10_errorPosition ⟨by show k + 0 + 0 ≤ 634490; omega, by show n + 0 + 0 ≤ 7192633; omega⟩ (Nat.le_of_ble_eq_true rfl) ?_)
  exact tl_icmp_eq dW_253 (by decide) (fun _ => tl_widen (k2 := k + 1) (n2 := n + 6) (by show k + 0 + 0 ≤ k + 1; omega) (by show n + 0 + 0 ≤ n + 6; omega) (K w e6 l5 l6)) (fun hne => absurd rfl hne)
theorem tw_c3 (h : tp_JJ E.2.1 u) (hk : k + 1 ≤ 634490) (hn : n + 6 ≤ 7192633) (hi : i + 4 < L) (hL : L ≤ 2560) (K : ∀ u1, tp_JJ E.2.1 u1 → ∀ l5 l6, tl_R E (mW nm) (tw_X E b L xs) lw_Z (k + 1) (n + 6) (tl_HB E u1) 2087 (tw_ls E b i l5 l6) []) : tl_R E (mW nm) (tw_X E b L xs) lw_Z k n (tl_HB E u) 258 (tw_ls E b i l5 l6) [] := by
  obtain ⟨t, r, v, e1, hl, r2, w, e2, e3, e4, e5, e6⟩ := tx_load h 
  refine tl_aload_n (q := 1) dW_258 rfl (tl_aload_n (q := 3) dW_259 rfl ?_)
  refine tw_callH (As := [.ref E.2.1, .ref (E.2.1 + 566)]) (rest := []) (lL_load e1 hl) dW_260 cH_load ⟨hk, hn⟩ (Nat.le_of_ble_eq_true rfl) ?_
  refine tl_istore (i := 5) dW_263 (Nat.le_of_ble_eq_true rfl) ?_
  refine tl_aload_n (q := 2) dW_265 rfl ?_
  refine tw_callM (As := []) (rest := []) (l10_load tw_T10 e2) (tl_recv tl_ck10 tw_T10) dW_266 cV_X10_load ⟨hk, hn⟩ (Nat.le_of_ble_eq_true rfl) ?_
  exact tw_tail (k := k + 1) (n := n + 6) (T := 269) ⟨dW_269, dW_271, dW_272, dW_275, dW_277, dW_282, dW_284, dW_287, dW_288, dW_289, dW_290, dW_292, dW_293, dW_294, dW_299⟩ (by decide) hk hn e3 (tw_h2 hl (by decide) e4 e5) (K w e6)
theorem tw_c4 (h : tp_JJ E.2.1 u) (hk : k + 1 ≤ 634490) (hn : n + 6 ≤ 7192633) (hi : i + 4 < L) (hL : L ≤ 2560) (K : ∀ u1, tp_JJ E.2.1 u1 → ∀ l5 l6, tl_R E (mW nm) (tw_X E b L xs) lw_Z (k + 1) (n + 6) (tl_HB E u1) 2087 (tw_ls E b i l5 l6) []) : tl_R E (mW nm) (tw_X E b L xs) lw_Z k n (tl_HB E u) 302 (tw_ls E b i l5 l6) [] := by
  obtain ⟨t, r, v, e1, hl, r2, w, e2, e3, e4, e5, e6⟩ := tx_about h (w := xs (i + 1))
  refine tl_aload_n (q := 1) dW_302 rfl (tw_arg (j := 1) dW_303 dW_304 dW_306 dW_307 dW_308 rfl rfl i9_1 (by omega) (by omega) (tl_aload_n (q := 3) dW_309 rfl ?_))
  refine tw_callH (As := [.ref E.2.1, .int (xs (i + 1)), .ref (E.2.1 + 566)]) (rest := []) (lL_about e1 hl) dW_310 cH_about ⟨hk, hn⟩ (Nat.le_of_ble_eq_true rfl) ?_
  refine tl_istore (i := 5) dW_313 (Nat.le_of_ble_eq_true rfl) ?_
  refine tl_aload_n (q := 2) dW_315 rfl (tw_arg (j := 1) dW_316 dW_317 dW_319 dW_320 dW_321 rfl rfl i9_1 (by omega) (by omega) ?_)
  refine tw_callM (As := [.int (xs (i + 1))]) (rest := []) (l10_about tw_T10 e2) (tl_recv tl_ck10 tw_T10) dW_322 cV_X10_about ⟨hk, hn⟩ (Nat.le_of_ble_eq_true rfl) ?_
  exact tw_tail (k := k + 1) (n := n + 6) (T := 325) ⟨dW_325, dW_327, dW_328, dW_331, dW_333, dW_338, dW_340, dW_343, dW_344, dW_345, dW_346, dW_348, dW_349, dW_350, dW_355⟩ (by decide) hk hn e3 (tw_h2 hl (by decide) e4 e5) (K w e6)
theorem tw_c5 (h : tp_JJ E.2.1 u) (hk : k + 1 ≤ 634490) (hn : n + 6 ≤ 7192633) (hi : i + 4 < L) (hL : L ≤ 2560) (K : ∀ u1, tp_JJ E.2.1 u1 → ∀ l5 l6, tl_R E (mW nm) (tw_X E b L xs) lw_Z (k + 1) (n + 6) (tl_HB E u1) 2087 (tw_ls E b i l5 l6) []) : tl_R E (mW nm) (tw_X E b L xs) lw_Z k n (tl_HB E u) 358 (tw_ls E b i l5 l6) [] := by
  obtain ⟨t, r, v, e1, hl, r2, w, e2, e3, e4, e5, e6⟩ := tx_galleryOf h (g := xs (i + 1)) (w := xs (i + 2))
  refine tl_aload_n (q := 1) dW_358 rfl (tw_arg (j := 1) dW_359 dW_360 dW_362 dW_363 dW_364 rfl rfl i9_1 (by omega) (by omega) (tw_arg (j := 2) dW_365 dW_366 dW_368 dW_369 dW_370 rfl rfl i9_2 (by omega) (by omega) (tl_aload_n (q := 3) dW_371 rfl ?_)))
  refine tw_callH (As := [.ref E.2.1, .int (xs (i + 1)), .int (xs (i + 2)), .ref (E.2.1 + 566)]) (rest := []) (lL_galleryOf e1 hl) dW_372 cH_galleryOf ⟨hk, hn⟩ (Nat.le_of_ble_eq_true rfl) ?_
  refine tl_istore (i := 5) dW_375 (Nat.le_of_ble_eq_true rfl) ?_
  refine tl_aload_n (q := 2) dW_377 rfl (tw_arg (j := 1) dW_378 dW_379 dW_381 dW_382 dW_383 rfl rfl i9_1 (by omega) (by omega) (tw_arg (j := 2) dW_384 dW_385 dW_387 dW_388 dW_389 rfl rfl i9_2 (by omega) (by omega) ?_))
  refine tw_callM (As := [.int (xs (i + 1)), .int (xs (i + 2))]) (rest := []) (l10_galleryOf tw_T10 e2) (tl_recv tl_ck10 tw_T10) dW_390 cV_X10_galleryOf ⟨hk, hn⟩ (Nat.le_of_ble_eq_true rfl) ?_
  exact tw_tail (k := k + 1) (n := n + 6) (T := 393) ⟨dW_393, dW_395, dW_396, dW_399, dW_401, dW_406, dW_408, dW_411, dW_412, dW_413, dW_414, dW_416, dW_417, dW_418, dW_423⟩ (by decide) hk hn e3 (tw_h2 hl (by decide) e4 e5) (K w e6)
theorem tw_c6 (h : tp_JJ E.2.1 u) (hk : k + 1 ≤ 634490) (hn : n + 6 ≤ 7192633) (hi : i + 4 < L) (hL : L ≤ 2560) (K : ∀ u1, tp_JJ E.2.1 u1 → ∀ l5 l6, tl_R E (mW nm) (tw_X E b L xs) lw_Z (k + 1) (n + 6) (tl_HB E u1) 2087 (tw_ls E b i l5 l6) []) : tl_R E (mW nm) (tw_X E b L xs) lw_Z k n (tl_HB E u) 426 (tw_ls E b i l5 l6) [] := by
  obtain ⟨t, r, v, e1, hl, r2, w, e2, e3, e4, e5, e6⟩ := tx_minerOf h (g := xs (i + 1)) (w := xs (i + 2))
  refine tl_aload_n (q := 1) dW_426 rfl (tw_arg (j := 1) dW_427 dW_428 dW_430 dW_431 dW_432 rfl rfl i9_1 (by omega) (by omega) (tw_arg (j := 2) dW_433 dW_434 dW_436 dW_437 dW_438 rfl rfl i9_2 (by omega) (by omega) (tl_aload_n (q := 3) dW_439 rfl ?_)))
  refine tw_callH (As := [.ref E.2.1, .int (xs (i + 1)), .int (xs (i + 2)), .ref (E.2.1 + 566)]) (rest := []) (lL_minerOf e1 hl) dW_440 cH_minerOf ⟨hk, hn⟩ (Nat.le_of_ble_eq_true rfl) ?_
  refine tl_istore (i := 5) dW_443 (Nat.le_of_ble_eq_true rfl) ?_
  refine tl_aload_n (q := 2) dW_445 rfl (tw_arg (j := 1) dW_446 dW_447 dW_449 dW_450 dW_451 rfl rfl i9_1 (by omega) (by omega) (tw_arg (j := 2) dW_452 dW_453 dW_455 dW_456 dW_457 rfl rfl i9_2 (by omega) (by omega) ?_))
  refine tw_callM (As := [.int (xs (i + 1)), .int (xs (i + 2))]) (rest := []) (l10_minerOf tw_T10 e2) (tl_recv tl_ck10 tw_T10) dW_458 cV_X10_minerOf ⟨hk, hn⟩ (Nat.le_of_ble_eq_true rfl) ?_
  exact tw_tail (k := k + 1) (n := n + 6) (T := 461) ⟨dW_461, dW_463, dW_464, dW_467, dW_469, dW_474, dW_476, dW_479, dW_480, dW_481, dW_482, dW_484, dW_485, dW_486, dW_491⟩ (by decide) hk hn e3 (tw_h2 hl (by decide) e4 e5) (K w e6)
theorem tw_c7 (h : tp_JJ E.2.1 u) (hk : k + 1 ≤ 634490) (hn : n + 6 ≤ 7192633) (hi : i + 4 < L) (hL : L ≤ 2560) (K : ∀ u1, tp_JJ E.2.1 u1 → ∀ l5 l6, tl_R E (mW nm) (tw_X E b L xs) lw_Z (k + 1) (n + 6) (tl_HB E u1) 2087 (tw_ls E b i l5 l6) []) : tl_R E (mW nm) (tw_X E b L xs) lw_Z k n (tl_HB E u) 494 (tw_ls E b i l5 l6) [] := by
  obtain ⟨t, r, v, e1, hl, r2, w, e2, e3, e4, e5, e6⟩ := tx_lampOf h (g := xs (i + 1)) (w := xs (i + 2))
  refine tl_aload_n (q := 1) dW_494 rfl (tw_arg (j := 1) dW_495 dW_496 dW_498 dW_499 dW_500 rfl rfl i9_1 (by omega) (by omega) (tw_arg (j := 2) dW_501 dW_502 dW_504 dW_505 dW_506 rfl rfl i9_2 (by omega) (by omega) (tl_aload_n (q := 3) dW_507 rfl ?_)))
  refine tw_callH (As := [.ref E.2.1, .int (xs (i + 1)), .int (xs (i + 2)), .ref (E.2.1 + 566)]) (rest := []) (lL_lampOf e1 hl) dW_508 cH_lampOf ⟨hk, hn⟩ (Nat.le_of_ble_eq_true rfl) ?_
  refine tl_istore (i := 5) dW_511 (Nat.le_of_ble_eq_true rfl) ?_
  refine tl_aload_n (q := 2) dW_513 rfl (tw_arg (j := 1) dW_514 dW_515 dW_517 dW_518 dW_519 rfl rfl i9_1 (by omega) (by omega) (tw_arg (j := 2) dW_520 dW_521 dW_523 dW_524 dW_525 rfl rfl i9_2 (by omega) (by omega) ?_))
  refine tw_callM (As := [.int (xs (i + 1)), .int (xs (i + 2))]) (rest := []) (l10_lampOf tw_T10 e2) (tl_recv tl_ck10 tw_T10) dW_526 cV_X10_lampOf ⟨hk, hn⟩ (Nat.le_of_ble_eq_true rfl) ?_
  exact tw_tail (k := k + 1) (n := n + 6) (T := 529) ⟨dW_529, dW_531, dW_532, dW_535, dW_537, dW_542, dW_544, dW_547, dW_548, dW_549, dW_550, dW_552, dW_553, dW_554, dW_559⟩ (by decide) hk hn e3 (tw_h2 hl (by decide) e4 e5) (K w e6)
theorem tw_c8 (h : tp_JJ E.2.1 u) (hk : k + 1 ≤ 634490) (hn : n + 6 ≤ 7192633) (hi : i + 4 < L) (hL : L ≤ 2560) (K : ∀ u1, tp_JJ E.2.1 u1 → ∀ l5 l6, tl_R E (mW nm) (tw_X E b L xs) lw_Z (k + 1) (n + 6) (tl_HB E u1) 2087 (tw_ls E b i l5 l6) []) : tl_R E (mW nm) (tw_X E b L xs) lw_Z k n (tl_HB E u) 562 (tw_ls E b i l5 l6) [] := by
  obtain ⟨t, r, v, e1, hl, r2, w, e2, e3, e4, e5, e6⟩ := tx_lad h (w := xs (i + 1))
  refine tl_aload_n (q := 1) dW_562 rfl (tw_arg (j := 1) dW_563 dW_564 dW_566 dW_567 dW_568 rfl rfl i9_1 (by omega) (by omega) (tl_aload_n (q := 3) dW_569 rfl ?_))
  refine tw_callH (As := [.ref E.2.1, .int (xs (i + 1)), .ref (E.2.1 + 566)]) (rest := []) (lL_lad e1 hl) dW_570 cH_lad ⟨hk, hn⟩ (Nat.le_of_ble_eq_true rfl) ?_
  refine tl_istore (i := 5) dW_573 (Nat.le_of_ble_eq_true rfl) ?_
  refine tl_aload_n (q := 2) dW_575 rfl (tw_arg (j := 1) dW_576 dW_577 dW_579 dW_580 dW_581 rfl rfl i9_1 (by omega) (by omega) ?_)
  refine tw_callM (As := [.int (xs (i + 1))]) (rest := []) (l10_lad tw_T10 e2) (tl_recv tl_ck10 tw_T10) dW_582 cV_X10_lad ⟨hk, hn⟩ (Nat.le_of_ble_eq_true rfl) ?_
  exact tw_tail (k := k + 1) (n := n + 6) (T := 585) ⟨dW_585, dW_587, dW_588, dW_591, dW_593, dW_598, dW_600, dW_603, dW_604, dW_605, dW_606, dW_608, dW_609, dW_610, dW_615⟩ (by decide) hk hn e3 (tw_h2 hl (by decide) e4 e5) (K w e6)
theorem tw_c9 (h : tp_JJ E.2.1 u) (hk : k + 1 ≤ 634490) (hn : n + 6 ≤ 7192633) (hi : i + 4 < L) (hL : L ≤ 2560) (K : ∀ u1, tp_JJ E.2.1 u1 → ∀ l5 l6, tl_R E (mW nm) (tw_X E b L xs) lw_Z (k + 1) (n + 6) (tl_HB E u1) 2087 (tw_ls E b i l5 l6) []) : tl_R E (mW nm) (tw_X E b L xs) lw_Z k n (tl_HB E u) 618 (tw_ls E b i l5 l6) [] := by
  obtain ⟨t, r, v, e1, hl, r2, w, e2, e3, e4, e5, e6⟩ := tx_orderOf h (g := xs (i + 1)) (w := xs (i + 2))
  refine tl_aload_n (q := 1) dW_618 rfl (tw_arg (j := 1) dW_619 dW_620 dW_622 dW_623 dW_624 rfl rfl i9_1 (by omega) (by omega) (tw_arg (j := 2) dW_625 dW_626 dW_628 dW_629 dW_630 rfl rfl i9_2 (by omega) (by omega) (tl_aload_n (q := 3) dW_631 rfl ?_)))
  refine tw_callH (As := [.ref E.2.1, .int (xs (i + 1)), .int (xs (i + 2)), .ref (E.2.1 + 566)]) (rest := []) (lL_orderOf e1 hl) dW_632 cH_orderOf ⟨hk, hn⟩ (Nat.le_of_ble_eq_true rfl) ?_
  refine tl_istore (i := 5) dW_635 (Nat.le_of_ble_eq_true rfl) ?_
  refine tl_aload_n (q := 2) dW_637 rfl (tw_arg (j := 1) dW_638 dW_639 dW_641 dW_642 dW_643 rfl rfl i9_1 (by omega) (by omega) (tw_arg (j := 2) dW_644 dW_645 dW_647 dW_648 dW_649 rfl rfl i9_2 (by omega) (by omega) ?_))
  refine tw_callM (As := [.int (xs (i + 1)), .int (xs (i + 2))]) (rest := []) (l10_orderOf tw_T10 e2) (tl_recv tl_ck10 tw_T10) dW_650 cV_X10_orderOf ⟨hk, hn⟩ (Nat.le_of_ble_eq_true rfl) ?_
  exact tw_tail (k := k + 1) (n := n + 6) (T := 653) ⟨dW_653, dW_655, dW_656, dW_659, dW_661, dW_666, dW_668, dW_671, dW_672, dW_673, dW_674, dW_676, dW_677, dW_678, dW_683⟩ (by decide) hk hn e3 (tw_h2 hl (by decide) e4 e5) (K w e6)
theorem tw_c10 (h : tp_JJ E.2.1 u) (hk : k + 1 ≤ 634490) (hn : n + 6 ≤ 7192633) (hi : i + 4 < L) (hL : L ≤ 2560) (K : ∀ u1, tp_JJ E.2.1 u1 → ∀ l5 l6, tl_R E (mW nm) (tw_X E b L xs) lw_Z (k + 1) (n + 6) (tl_HB E u1) 2087 (tw_ls E b i l5 l6) []) : tl_R E (mW nm) (tw_X E b L xs) lw_Z k n (tl_HB E u) 686 (tw_ls E b i l5 l6) [] := by
  obtain ⟨t, r, v, e1, hl, r2, w, e2, e3, e4, e5, e6⟩ := tx_lit h (g := xs (i + 1)) (w := xs (i + 2))
  refine tl_aload_n (q := 1) dW_686 rfl (tw_arg (j := 1) dW_687 dW_688 dW_690 dW_691 dW_692 rfl rfl i9_1 (by omega) (by omega) (tw_arg (j := 2) dW_693 dW_694 dW_696 dW_697 dW_698 rfl rfl i9_2 (by omega) (by omega) (tl_aload_n (q := 3) dW_699 rfl ?_)))
  refine tw_callH (As := [.ref E.2.1, .int (xs (i + 1)), .int (xs (i + 2)), .ref (E.2.1 + 566)]) (rest := []) (lL_lit e1 hl) dW_700 cH_lit ⟨hk, hn⟩ (Nat.le_of_ble_eq_true rfl) ?_
  refine tl_istore (i := 5) dW_703 (Nat.le_of_ble_eq_true rfl) ?_
  refine tl_aload_n (q := 2) dW_705 rfl (tw_arg (j := 1) dW_706 dW_707 dW_709 dW_710 dW_711 rfl rfl i9_1 (by omega) (by omega) (tw_arg (j := 2) dW_712 dW_713 dW_715 dW_716 dW_717 rfl rfl i9_2 (by omega) (by omega) ?_))
  refine tw_callM (As := [.int (xs (i + 1)), .int (xs (i + 2))]) (rest := []) (l10_lit tw_T10 e2) (tl_recv tl_ck10 tw_T10) dW_718 cV_X10_lit ⟨hk, hn⟩ (Nat.le_of_ble_eq_true rfl) ?_
  exact tw_tail (k := k + 1) (n := n + 6) (T := 721) ⟨dW_721, dW_723, dW_724, dW_727, dW_729, dW_734, dW_736, dW_739, dW_740, dW_741, dW_742, dW_744, dW_745, dW_746, dW_751⟩ (by decide) hk hn e3 (tw_h2 hl (by decide) e4 e5) (K w e6)
theorem tw_c11 (h : tp_JJ E.2.1 u) (hk : k + 1 ≤ 634490) (hn : n + 6 ≤ 7192633) (hi : i + 4 < L) (hL : L ≤ 2560) (K : ∀ u1, tp_JJ E.2.1 u1 → ∀ l5 l6, tl_R E (mW nm) (tw_X E b L xs) lw_Z (k + 1) (n + 6) (tl_HB E u1) 2087 (tw_ls E b i l5 l6) []) : tl_R E (mW nm) (tw_X E b L xs) lw_Z k n (tl_HB E u) 754 (tw_ls E b i l5 l6) [] := by
  obtain ⟨t, r, v, e1, hl, r2, w, e2, e3, e4, e5, e6⟩ := tx_gallery h (a := xs (i + 1))
  refine tl_aload_n (q := 1) dW_754 rfl (tw_arg (j := 1) dW_755 dW_756 dW_758 dW_759 dW_760 rfl rfl i9_1 (by omega) (by omega) (tl_aload_n (q := 3) dW_761 rfl ?_))
  refine tw_callH (As := [.ref E.2.1, .int (xs (i + 1)), .ref (E.2.1 + 566)]) (rest := []) (lL_gallery e1 hl) dW_762 cH_gallery ⟨hk, hn⟩ (Nat.le_of_ble_eq_true rfl) ?_
  refine tl_istore (i := 5) dW_765 (Nat.le_of_ble_eq_true rfl) ?_
  refine tl_aload_n (q := 2) dW_767 rfl (tw_arg (j := 1) dW_768 dW_769 dW_771 dW_772 dW_773 rfl rfl i9_1 (by omega) (by omega) ?_)
  refine tw_callM (As := [.int (xs (i + 1))]) (rest := []) (l10_gallery tw_T10 e2) (tl_recv tl_ck10 tw_T10) dW_774 cV_X10_gallery ⟨hk, hn⟩ (Nat.le_of_ble_eq_true rfl) ?_
  exact tw_tail (k := k + 1) (n := n + 6) (T := 777) ⟨dW_777, dW_779, dW_780, dW_783, dW_785, dW_790, dW_792, dW_795, dW_796, dW_797, dW_798, dW_800, dW_801, dW_802, dW_807⟩ (by decide) hk hn e3 (tw_h2 hl (by decide) e4 e5) (K w e6)
theorem tw_c12 (h : tp_JJ E.2.1 u) (hk : k + 1 ≤ 634490) (hn : n + 6 ≤ 7192633) (hi : i + 4 < L) (hL : L ≤ 2560) (K : ∀ u1, tp_JJ E.2.1 u1 → ∀ l5 l6, tl_R E (mW nm) (tw_X E b L xs) lw_Z (k + 1) (n + 6) (tl_HB E u1) 2087 (tw_ls E b i l5 l6) []) : tl_R E (mW nm) (tw_X E b L xs) lw_Z k n (tl_HB E u) 810 (tw_ls E b i l5 l6) [] := by
  obtain ⟨t, r, v, e1, hl, r2, w, e2, e3, e4, e5, e6⟩ := tx_miner h (a := xs (i + 1)) (b := xs (i + 2))
  refine tl_aload_n (q := 1) dW_810 rfl (tw_arg (j := 1) dW_811 dW_812 dW_814 dW_815 dW_816 rfl rfl i9_1 (by omega) (by omega) (tw_arg (j := 2) dW_817 dW_818 dW_820 dW_821 dW_822 rfl rfl i9_2 (by omega) (by omega) (tl_aload_n (q := 3) dW_823 rfl ?_)))
  refine tw_callH (As := [.ref E.2.1, .int (xs (i + 1)), .int (xs (i + 2)), .ref (E.2.1 + 566)]) (rest := []) (lL_miner e1 hl) dW_824 cH_miner ⟨hk, hn⟩ (Nat.le_of_ble_eq_true rfl) ?_
  refine tl_istore (i := 5) dW_827 (Nat.le_of_ble_eq_true rfl) ?_
  refine tl_aload_n (q := 2) dW_829 rfl (tw_arg (j := 1) dW_830 dW_831 dW_833 dW_834 dW_835 rfl rfl i9_1 (by omega) (by omega) (tw_arg (j := 2) dW_836 dW_837 dW_839 dW_840 dW_841 rfl rfl i9_2 (by omega) (by omega) ?_))
  refine tw_callM (As := [.int (xs (i + 1)), .int (xs (i + 2))]) (rest := []) (l10_miner tw_T10 e2) (tl_recv tl_ck10 tw_T10) dW_842 cV_X10_miner ⟨hk, hn⟩ (Nat.le_of_ble_eq_true rfl) ?_
  exact tw_tail (k := k + 1) (n := n + 6) (T := 845) ⟨dW_845, dW_847, dW_848, dW_851, dW_853, dW_858, dW_860, dW_863, dW_864, dW_865, dW_866, dW_868, dW_869, dW_870, dW_875⟩ (by decide) hk hn e3 (tw_h2 hl (by decide) e4 e5) (K w e6)
theorem tw_c13 (h : tp_JJ E.2.1 u) (hk : k + 1 ≤ 634490) (hn : n + 6 ≤ 7192633) (hi : i + 4 < L) (hL : L ≤ 2560) (K : ∀ u1, tp_JJ E.2.1 u1 → ∀ l5 l6, tl_R E (mW nm) (tw_X E b L xs) lw_Z (k + 1) (n + 6) (tl_HB E u1) 2087 (tw_ls E b i l5 l6) []) : tl_R E (mW nm) (tw_X E b L xs) lw_Z k n (tl_HB E u) 878 (tw_ls E b i l5 l6) [] := by
  obtain ⟨t, r, v, e1, hl, r2, w, e2, e3, e4, e5, e6⟩ := tx_send h (a := xs (i + 1)) (b := xs (i + 2))
  refine tl_aload_n (q := 1) dW_878 rfl (tw_arg (j := 1) dW_879 dW_880 dW_882 dW_883 dW_884 rfl rfl i9_1 (by omega) (by omega) (tw_arg (j := 2) dW_885 dW_886 dW_888 dW_889 dW_890 rfl rfl i9_2 (by omega) (by omega) (tl_aload_n (q := 3) dW_891 rfl ?_)))
  refine tw_callH (As := [.ref E.2.1, .int (xs (i + 1)), .int (xs (i + 2)), .ref (E.2.1 + 566)]) (rest := []) (lL_send e1 hl) dW_892 cH_send ⟨hk, hn⟩ (Nat.le_of_ble_eq_true rfl) ?_
  refine tl_istore (i := 5) dW_895 (Nat.le_of_ble_eq_true rfl) ?_
  refine tl_aload_n (q := 2) dW_897 rfl (tw_arg (j := 1) dW_898 dW_899 dW_901 dW_902 dW_903 rfl rfl i9_1 (by omega) (by omega) (tw_arg (j := 2) dW_904 dW_905 dW_907 dW_908 dW_909 rfl rfl i9_2 (by omega) (by omega) ?_))
  refine tw_callM (As := [.int (xs (i + 1)), .int (xs (i + 2))]) (rest := []) (l10_send tw_T10 e2) (tl_recv tl_ck10 tw_T10) dW_910 cV_X10_send ⟨hk, hn⟩ (Nat.le_of_ble_eq_true rfl) ?_
  exact tw_tail (k := k + 1) (n := n + 6) (T := 913) ⟨dW_913, dW_915, dW_916, dW_919, dW_921, dW_926, dW_928, dW_931, dW_932, dW_933, dW_934, dW_936, dW_937, dW_938, dW_943⟩ (by decide) hk hn e3 (tw_h2 hl (by decide) e4 e5) (K w e6)
theorem tw_c14 (h : tp_JJ E.2.1 u) (hk : k + 1 ≤ 634490) (hn : n + 6 ≤ 7192633) (hi : i + 4 < L) (hL : L ≤ 2560) (K : ∀ u1, tp_JJ E.2.1 u1 → ∀ l5 l6, tl_R E (mW nm) (tw_X E b L xs) lw_Z (k + 1) (n + 6) (tl_HB E u1) 2087 (tw_ls E b i l5 l6) []) : tl_R E (mW nm) (tw_X E b L xs) lw_Z k n (tl_HB E u) 946 (tw_ls E b i l5 l6) [] := by
  obtain ⟨t, r, v, e1, hl, r2, w, e2, e3, e4, e5, e6⟩ := tx_lamp h (a := xs (i + 1)) (b := xs (i + 2)) (c := xs (i + 3)) (d := xs (i + 4))
  refine tl_aload_n (q := 1) dW_946 rfl (tw_arg (j := 1) dW_947 dW_948 dW_950 dW_951 dW_952 rfl rfl i9_1 (by omega) (by omega) (tw_arg (j := 2) dW_953 dW_954 dW_956 dW_957 dW_958 rfl rfl i9_2 (by omega) (by omega) (tw_arg (j := 3) dW_959 dW_960 dW_962 dW_963 dW_964 rfl rfl i9_3 (by omega) (by omega) (tw_arg (j := 4) dW_965 dW_966 dW_968 dW_969 dW_970 rfl rfl i9_4 (by omega) (by omega) (tl_aload_n (q := 3) dW_971 rfl ?_)))))
  refine tw_callH (As := [.ref E.2.1, .int (xs (i + 1)), .int (xs (i + 2)), .int (xs (i + 3)), .int (xs (i + 4)), .ref (E.2.1 + 566)]) (rest := []) (lL_lamp e1 hl) dW_972 cH_lamp ⟨hk, hn⟩ (Nat.le_of_ble_eq_true rfl) ?_
  refine tl_istore (i := 5) dW_975 (Nat.le_of_ble_eq_true rfl) ?_
  refine tl_aload_n (q := 2) dW_977 rfl (tw_arg (j := 1) dW_978 dW_979 dW_981 dW_982 dW_983 rfl rfl i9_1 (by omega) (by omega) (tw_arg (j := 2) dW_984 dW_985 dW_987 dW_988 dW_989 rfl rfl i9_2 (by omega) (by omega) (tw_arg (j := 3) dW_990 dW_991 dW_993 dW_994 dW_995 rfl rfl i9_3 (by omega) (by omega) (tw_arg (j := 4) dW_996 dW_997 dW_999 dW_1000 dW_1001 rfl rfl i9_4 (by omega) (by omega) ?_))))
  refine tw_callM (As := [.int (xs (i + 1)), .int (xs (i + 2)), .int (xs (i + 3)), .int (xs (i + 4))]) (rest := []) (l10_lamp tw_T10 e2) (tl_recv tl_ck10 tw_T10) dW_1002 cV_X10_lamp ⟨hk, hn⟩ (Nat.le_of_ble_eq_true rfl) ?_
  exact tw_tail (k := k + 1) (n := n + 6) (T := 1005) ⟨dW_1005, dW_1007, dW_1008, dW_1011, dW_1013, dW_1018, dW_1020, dW_1023, dW_1024, dW_1025, dW_1026, dW_1028, dW_1029, dW_1030, dW_1035⟩ (by decide) hk hn e3 (tw_h2 hl (by decide) e4 e5) (K w e6)
theorem tw_c15 (h : tp_JJ E.2.1 u) (hk : k + 1 ≤ 634490) (hn : n + 6 ≤ 7192633) (hi : i + 4 < L) (hL : L ≤ 2560) (K : ∀ u1, tp_JJ E.2.1 u1 → ∀ l5 l6, tl_R E (mW nm) (tw_X E b L xs) lw_Z (k + 1) (n + 6) (tl_HB E u1) 2087 (tw_ls E b i l5 l6) []) : tl_R E (mW nm) (tw_X E b L xs) lw_Z k n (tl_HB E u) 1038 (tw_ls E b i l5 l6) [] := by
  obtain ⟨t, r, v, e1, hl, r2, w, e2, e3, e4, e5, e6⟩ := tx_store h (a := xs (i + 1))
  refine tl_aload_n (q := 1) dW_1038 rfl (tw_arg (j := 1) dW_1039 dW_1040 dW_1042 dW_1043 dW_1044 rfl rfl i9_1 (by omega) (by omega) (tl_aload_n (q := 3) dW_1045 rfl ?_))
  refine tw_callH (As := [.ref E.2.1, .int (xs (i + 1)), .ref (E.2.1 + 566)]) (rest := []) (lL_store e1 hl) dW_1046 cH_store ⟨hk, hn⟩ (Nat.le_of_ble_eq_true rfl) ?_
  refine tl_istore (i := 5) dW_1049 (Nat.le_of_ble_eq_true rfl) ?_
  refine tl_aload_n (q := 2) dW_1051 rfl (tw_arg (j := 1) dW_1052 dW_1053 dW_1055 dW_1056 dW_1057 rfl rfl i9_1 (by omega) (by omega) ?_)
  refine tw_callM (As := [.int (xs (i + 1))]) (rest := []) (l10_store tw_T10 e2) (tl_recv tl_ck10 tw_T10) dW_1058 cV_X10_store ⟨hk, hn⟩ (Nat.le_of_ble_eq_true rfl) ?_
  exact tw_tail (k := k + 1) (n := n + 6) (T := 1061) ⟨dW_1061, dW_1063, dW_1064, dW_1067, dW_1069, dW_1074, dW_1076, dW_1079, dW_1080, dW_1081, dW_1082, dW_1084, dW_1085, dW_1086, dW_1091⟩ (by decide) hk hn e3 (tw_h2 hl (by decide) e4 e5) (K w e6)
theorem tw_c16 (h : tp_JJ E.2.1 u) (hk : k + 1 ≤ 634490) (hn : n + 6 ≤ 7192633) (hi : i + 4 < L) (hL : L ≤ 2560) (K : ∀ u1, tp_JJ E.2.1 u1 → ∀ l5 l6, tl_R E (mW nm) (tw_X E b L xs) lw_Z (k + 1) (n + 6) (tl_HB E u1) 2087 (tw_ls E b i l5 l6) []) : tl_R E (mW nm) (tw_X E b L xs) lw_Z k n (tl_HB E u) 1094 (tw_ls E b i l5 l6) [] := by
  obtain ⟨t, r, v, e1, hl, r2, w, e2, e3, e4, e5, e6⟩ := tx_hang h (a := xs (i + 1)) (b := xs (i + 2)) (c := xs (i + 3))
  refine tl_aload_n (q := 1) dW_1094 rfl (tw_arg (j := 1) dW_1095 dW_1096 dW_1098 dW_1099 dW_1100 rfl rfl i9_1 (by omega) (by omega) (tw_arg (j := 2) dW_1101 dW_1102 dW_1104 dW_1105 dW_1106 rfl rfl i9_2 (by omega) (by omega) (tw_arg (j := 3) dW_1107 dW_1108 dW_1110 dW_1111 dW_1112 rfl rfl i9_3 (by omega) (by omega) (tl_aload_n (q := 3) dW_1113 rfl ?_))))
  refine tw_callH (As := [.ref E.2.1, .int (xs (i + 1)), .int (xs (i + 2)), .int (xs (i + 3)), .ref (E.2.1 + 566)]) (rest := []) (lL_hang e1 hl) dW_1114 cH_hang ⟨hk, hn⟩ (Nat.le_of_ble_eq_true rfl) ?_
  refine tl_istore (i := 5) dW_1117 (Nat.le_of_ble_eq_true rfl) ?_
  refine tl_aload_n (q := 2) dW_1119 rfl (tw_arg (j := 1) dW_1120 dW_1121 dW_1123 dW_1124 dW_1125 rfl rfl i9_1 (by omega) (by omega) (tw_arg (j := 2) dW_1126 dW_1127 dW_1129 dW_1130 dW_1131 rfl rfl i9_2 (by omega) (by omega) (tw_arg (j := 3) dW_1132 dW_1133 dW_1135 dW_1136 dW_1137 rfl rfl i9_3 (by omega) (by omega) ?_)))
  refine tw_callM (As := [.int (xs (i + 1)), .int (xs (i + 2)), .int (xs (i + 3))]) (rest := []) (l10_hang tw_T10 e2) (tl_recv tl_ck10 tw_T10) dW_1138 cV_X10_hang ⟨hk, hn⟩ (Nat.le_of_ble_eq_true rfl) ?_
  exact tw_tail (k := k + 1) (n := n + 6) (T := 1141) ⟨dW_1141, dW_1143, dW_1144, dW_1147, dW_1149, dW_1154, dW_1156, dW_1159, dW_1160, dW_1161, dW_1162, dW_1164, dW_1165, dW_1166, dW_1171⟩ (by decide) hk hn e3 (tw_h2 hl (by decide) e4 e5) (K w e6)
theorem tw_c17 (h : tp_JJ E.2.1 u) (hk : k + 1 ≤ 634490) (hn : n + 6 ≤ 7192633) (hi : i + 4 < L) (hL : L ≤ 2560) (K : ∀ u1, tp_JJ E.2.1 u1 → ∀ l5 l6, tl_R E (mW nm) (tw_X E b L xs) lw_Z (k + 1) (n + 6) (tl_HB E u1) 2087 (tw_ls E b i l5 l6) []) : tl_R E (mW nm) (tw_X E b L xs) lw_Z k n (tl_HB E u) 1174 (tw_ls E b i l5 l6) [] := by
  obtain ⟨t, r, v, e1, hl, r2, w, e2, e3, e4, e5, e6⟩ := tx_fill h (a := xs (i + 1)) (b := xs (i + 2))
  refine tl_aload_n (q := 1) dW_1174 rfl (tw_arg (j := 1) dW_1175 dW_1176 dW_1178 dW_1179 dW_1180 rfl rfl i9_1 (by omega) (by omega) (tw_arg (j := 2) dW_1181 dW_1182 dW_1184 dW_1185 dW_1186 rfl rfl i9_2 (by omega) (by omega) (tl_aload_n (q := 3) dW_1187 rfl ?_)))
  refine tw_callH (As := [.ref E.2.1, .int (xs (i + 1)), .int (xs (i + 2)), .ref (E.2.1 + 566)]) (rest := []) (lL_fill e1 hl) dW_1188 cH_fill ⟨hk, hn⟩ (Nat.le_of_ble_eq_true rfl) ?_
  refine tl_istore (i := 5) dW_1191 (Nat.le_of_ble_eq_true rfl) ?_
  refine tl_aload_n (q := 2) dW_1193 rfl (tw_arg (j := 1) dW_1194 dW_1195 dW_1197 dW_1198 dW_1199 rfl rfl i9_1 (by omega) (by omega) (tw_arg (j := 2) dW_1200 dW_1201 dW_1203 dW_1204 dW_1205 rfl rfl i9_2 (by omega) (by omega) ?_))
  refine tw_callM (As := [.int (xs (i + 1)), .int (xs (i + 2))]) (rest := []) (l10_fill tw_T10 e2) (tl_recv tl_ck10 tw_T10) dW_1206 cV_X10_fill ⟨hk, hn⟩ (Nat.le_of_ble_eq_true rfl) ?_
  exact tw_tail (k := k + 1) (n := n + 6) (T := 1209) ⟨dW_1209, dW_1211, dW_1212, dW_1215, dW_1217, dW_1222, dW_1224, dW_1227, dW_1228, dW_1229, dW_1230, dW_1232, dW_1233, dW_1234, dW_1239⟩ (by decide) hk hn e3 (tw_h2 hl (by decide) e4 e5) (K w e6)
theorem tw_c18 (h : tp_JJ E.2.1 u) (hk : k + 1 ≤ 634490) (hn : n + 6 ≤ 7192633) (hi : i + 4 < L) (hL : L ≤ 2560) (K : ∀ u1, tp_JJ E.2.1 u1 → ∀ l5 l6, tl_R E (mW nm) (tw_X E b L xs) lw_Z (k + 1) (n + 6) (tl_HB E u1) 2087 (tw_ls E b i l5 l6) []) : tl_R E (mW nm) (tw_X E b L xs) lw_Z k n (tl_HB E u) 1242 (tw_ls E b i l5 l6) [] := by
  obtain ⟨t, r, v, e1, hl, r2, w, e2, e3, e4, e5, e6⟩ := tx_drop h (a := xs (i + 1))
  refine tl_aload_n (q := 1) dW_1242 rfl (tw_arg (j := 1) dW_1243 dW_1244 dW_1246 dW_1247 dW_1248 rfl rfl i9_1 (by omega) (by omega) (tl_aload_n (q := 3) dW_1249 rfl ?_))
  refine tw_callH (As := [.ref E.2.1, .int (xs (i + 1)), .ref (E.2.1 + 566)]) (rest := []) (lL_drop e1 hl) dW_1250 cH_drop ⟨hk, hn⟩ (Nat.le_of_ble_eq_true rfl) ?_
  refine tl_istore (i := 5) dW_1253 (Nat.le_of_ble_eq_true rfl) ?_
  refine tl_aload_n (q := 2) dW_1255 rfl (tw_arg (j := 1) dW_1256 dW_1257 dW_1259 dW_1260 dW_1261 rfl rfl i9_1 (by omega) (by omega) ?_)
  refine tw_callM (As := [.int (xs (i + 1))]) (rest := []) (l10_drop tw_T10 e2) (tl_recv tl_ck10 tw_T10) dW_1262 cV_X10_drop ⟨hk, hn⟩ (Nat.le_of_ble_eq_true rfl) ?_
  exact tw_tail (k := k + 1) (n := n + 6) (T := 1265) ⟨dW_1265, dW_1267, dW_1268, dW_1271, dW_1273, dW_1278, dW_1280, dW_1283, dW_1284, dW_1285, dW_1286, dW_1288, dW_1289, dW_1290, dW_1295⟩ (by decide) hk hn e3 (tw_h2 hl (by decide) e4 e5) (K w e6)
theorem tw_c19 (h : tp_JJ E.2.1 u) (hk : k + 1 ≤ 634490) (hn : n + 6 ≤ 7192633) (hi : i + 4 < L) (hL : L ≤ 2560) (K : ∀ u1, tp_JJ E.2.1 u1 → ∀ l5 l6, tl_R E (mW nm) (tw_X E b L xs) lw_Z (k + 1) (n + 6) (tl_HB E u1) 2087 (tw_ls E b i l5 l6) []) : tl_R E (mW nm) (tw_X E b L xs) lw_Z k n (tl_HB E u) 1298 (tw_ls E b i l5 l6) [] := by
  obtain ⟨t, r, v, e1, hl, r2, w, e2, e3, e4, e5, e6⟩ := tx_set h (a := xs (i + 1)) (b := xs (i + 2))
  refine tl_aload_n (q := 1) dW_1298 rfl (tw_arg (j := 1) dW_1299 dW_1300 dW_1302 dW_1303 dW_1304 rfl rfl i9_1 (by omega) (by omega) (tw_arg (j := 2) dW_1305 dW_1306 dW_1308 dW_1309 dW_1310 rfl rfl i9_2 (by omega) (by omega) (tl_aload_n (q := 3) dW_1311 rfl ?_)))
  refine tw_callH (As := [.ref E.2.1, .int (xs (i + 1)), .int (xs (i + 2)), .ref (E.2.1 + 566)]) (rest := []) (lL_set e1 hl) dW_1312 cH_set ⟨hk, hn⟩ (Nat.le_of_ble_eq_true rfl) ?_
  refine tl_istore (i := 5) dW_1315 (Nat.le_of_ble_eq_true rfl) ?_
  refine tl_aload_n (q := 2) dW_1317 rfl (tw_arg (j := 1) dW_1318 dW_1319 dW_1321 dW_1322 dW_1323 rfl rfl i9_1 (by omega) (by omega) (tw_arg (j := 2) dW_1324 dW_1325 dW_1327 dW_1328 dW_1329 rfl rfl i9_2 (by omega) (by omega) ?_))
  refine tw_callM (As := [.int (xs (i + 1)), .int (xs (i + 2))]) (rest := []) (l10_set tw_T10 e2) (tl_recv tl_ck10 tw_T10) dW_1330 cV_X10_set ⟨hk, hn⟩ (Nat.le_of_ble_eq_true rfl) ?_
  exact tw_tail (k := k + 1) (n := n + 6) (T := 1333) ⟨dW_1333, dW_1335, dW_1336, dW_1339, dW_1341, dW_1346, dW_1348, dW_1351, dW_1352, dW_1353, dW_1354, dW_1356, dW_1357, dW_1358, dW_1363⟩ (by decide) hk hn e3 (tw_h2 hl (by decide) e4 e5) (K w e6)
theorem tw_c20 (h : tp_JJ E.2.1 u) (hk : k + 1 ≤ 634490) (hn : n + 6 ≤ 7192633) (hi : i + 4 < L) (hL : L ≤ 2560) (K : ∀ u1, tp_JJ E.2.1 u1 → ∀ l5 l6, tl_R E (mW nm) (tw_X E b L xs) lw_Z (k + 1) (n + 6) (tl_HB E u1) 2087 (tw_ls E b i l5 l6) []) : tl_R E (mW nm) (tw_X E b L xs) lw_Z k n (tl_HB E u) 1366 (tw_ls E b i l5 l6) [] := by
  obtain ⟨t, r, v, e1, hl, r2, w, e2, e3, e4, e5, e6⟩ := tx_hours h (a := xs (i + 1))
  refine tl_aload_n (q := 1) dW_1366 rfl (tw_arg (j := 1) dW_1367 dW_1368 dW_1370 dW_1371 dW_1372 rfl rfl i9_1 (by omega) (by omega) (tl_aload_n (q := 3) dW_1373 rfl ?_))
  refine tw_callH (As := [.ref E.2.1, .int (xs (i + 1)), .ref (E.2.1 + 566)]) (rest := []) (lL_hours e1 hl) dW_1374 cH_hours ⟨hk, hn⟩ (Nat.le_of_ble_eq_true rfl) ?_
  refine tl_istore (i := 5) dW_1377 (Nat.le_of_ble_eq_true rfl) ?_
  refine tl_aload_n (q := 2) dW_1379 rfl (tw_arg (j := 1) dW_1380 dW_1381 dW_1383 dW_1384 dW_1385 rfl rfl i9_1 (by omega) (by omega) ?_)
  refine tw_callM (As := [.int (xs (i + 1))]) (rest := []) (l10_hours tw_T10 e2) (tl_recv tl_ck10 tw_T10) dW_1386 cV_X10_hours ⟨hk, hn⟩ (Nat.le_of_ble_eq_true rfl) ?_
  exact tw_tail (k := k + 1) (n := n + 6) (T := 1389) ⟨dW_1389, dW_1391, dW_1392, dW_1395, dW_1397, dW_1402, dW_1404, dW_1407, dW_1408, dW_1409, dW_1410, dW_1412, dW_1413, dW_1414, dW_1419⟩ (by decide) hk hn e3 (tw_h2 hl (by decide) e4 e5) (K w e6)
theorem tw_c21 (h : tp_JJ E.2.1 u) (hk : k + 1 ≤ 634490) (hn : n + 6 ≤ 7192633) (hi : i + 4 < L) (hL : L ≤ 2560) (K : ∀ u1, tp_JJ E.2.1 u1 → ∀ l5 l6, tl_R E (mW nm) (tw_X E b L xs) lw_Z (k + 1) (n + 6) (tl_HB E u1) 2087 (tw_ls E b i l5 l6) []) : tl_R E (mW nm) (tw_X E b L xs) lw_Z k n (tl_HB E u) 1422 (tw_ls E b i l5 l6) [] := by
  obtain ⟨t, r, v, e1, hl, r2, w, e2, e3, e4, e5, e6⟩ := tx_undo h 
  refine tl_aload_n (q := 1) dW_1422 rfl (tl_aload_n (q := 3) dW_1423 rfl ?_)
  refine tw_callH (As := [.ref E.2.1, .ref (E.2.1 + 566)]) (rest := []) (lL_undo e1 hl) dW_1424 cH_undo ⟨hk, hn⟩ (Nat.le_of_ble_eq_true rfl) ?_
  refine tl_istore (i := 5) dW_1427 (Nat.le_of_ble_eq_true rfl) ?_
  refine tl_aload_n (q := 2) dW_1429 rfl ?_
  refine tw_callM (As := []) (rest := []) (l10_undo tw_T10 e2) (tl_recv tl_ck10 tw_T10) dW_1430 cV_X10_undo ⟨hk, hn⟩ (Nat.le_of_ble_eq_true rfl) ?_
  exact tw_tail (k := k + 1) (n := n + 6) (T := 1433) ⟨dW_1433, dW_1435, dW_1436, dW_1439, dW_1441, dW_1446, dW_1448, dW_1451, dW_1452, dW_1453, dW_1454, dW_1456, dW_1457, dW_1458, dW_1463⟩ (by decide) hk hn e3 (tw_h2 hl (by decide) e4 e5) (K w e6)
theorem tw_c22 (h : tp_JJ E.2.1 u) (hk : k + 1 ≤ 634490) (hn : n + 6 ≤ 7192633) (hi : i + 4 < L) (hL : L ≤ 2560) (K : ∀ u1, tp_JJ E.2.1 u1 → ∀ l5 l6, tl_R E (mW nm) (tw_X E b L xs) lw_Z (k + 1) (n + 6) (tl_HB E u1) 2087 (tw_ls E b i l5 l6) []) : tl_R E (mW nm) (tw_X E b L xs) lw_Z k n (tl_HB E u) 1466 (tw_ls E b i l5 l6) [] := by
  obtain ⟨t, r, v, e1, hl, r2, w, e2, e3, e4, e5, e6⟩ := tx_darkIn h (g := xs (i + 1))
  refine tl_aload_n (q := 1) dW_1466 rfl (tw_arg (j := 1) dW_1467 dW_1468 dW_1470 dW_1471 dW_1472 rfl rfl i9_1 (by omega) (by omega) (tl_aload_n (q := 3) dW_1473 rfl ?_))
  refine tw_callH (As := [.ref E.2.1, .int (xs (i + 1)), .ref (E.2.1 + 566)]) (rest := []) (lL_darkIn e1 hl) dW_1474 cH_darkIn ⟨hk, hn⟩ (Nat.le_of_ble_eq_true rfl) ?_
  refine tl_istore (i := 5) dW_1477 (Nat.le_of_ble_eq_true rfl) ?_
  refine tl_aload_n (q := 2) dW_1479 rfl (tw_arg (j := 1) dW_1480 dW_1481 dW_1483 dW_1484 dW_1485 rfl rfl i9_1 (by omega) (by omega) ?_)
  refine tw_callM (As := [.int (xs (i + 1))]) (rest := []) (l10_darkIn tw_T10 e2) (tl_recv tl_ck10 tw_T10) dW_1486 cV_X10_darkIn ⟨hk, hn⟩ (Nat.le_of_ble_eq_true rfl) ?_
  exact tw_tail (k := k + 1) (n := n + 6) (T := 1489) ⟨dW_1489, dW_1491, dW_1492, dW_1495, dW_1497, dW_1502, dW_1504, dW_1507, dW_1508, dW_1509, dW_1510, dW_1512, dW_1513, dW_1514, dW_1519⟩ (by decide) hk hn e3 (tw_h2 hl (by decide) e4 e5) (K w e6)
theorem tw_c23 (h : tp_JJ E.2.1 u) (hk : k + 1 ≤ 634490) (hn : n + 6 ≤ 7192633) (hi : i + 4 < L) (hL : L ≤ 2560) (K : ∀ u1, tp_JJ E.2.1 u1 → ∀ l5 l6, tl_R E (mW nm) (tw_X E b L xs) lw_Z (k + 1) (n + 6) (tl_HB E u1) 2087 (tw_ls E b i l5 l6) []) : tl_R E (mW nm) (tw_X E b L xs) lw_Z k n (tl_HB E u) 1522 (tw_ls E b i l5 l6) [] := by
  obtain ⟨t, r, v, e1, hl, r2, w, e2, e3, e4, e5, e6⟩ := tx_depthIn h (g := xs (i + 1)) (n := xs (i + 2))
  refine tl_aload_n (q := 1) dW_1522 rfl (tw_arg (j := 1) dW_1523 dW_1524 dW_1526 dW_1527 dW_1528 rfl rfl i9_1 (by omega) (by omega) (tw_arg (j := 2) dW_1529 dW_1530 dW_1532 dW_1533 dW_1534 rfl rfl i9_2 (by omega) (by omega) (tl_aload_n (q := 3) dW_1535 rfl ?_)))
  refine tw_callH (As := [.ref E.2.1, .int (xs (i + 1)), .int (xs (i + 2)), .ref (E.2.1 + 566)]) (rest := []) (lL_depthIn e1 hl) dW_1536 cH_depthIn ⟨hk, hn⟩ (Nat.le_of_ble_eq_true rfl) ?_
  refine tl_istore (i := 5) dW_1539 (Nat.le_of_ble_eq_true rfl) ?_
  refine tl_aload_n (q := 2) dW_1541 rfl (tw_arg (j := 1) dW_1542 dW_1543 dW_1545 dW_1546 dW_1547 rfl rfl i9_1 (by omega) (by omega) (tw_arg (j := 2) dW_1548 dW_1549 dW_1551 dW_1552 dW_1553 rfl rfl i9_2 (by omega) (by omega) ?_))
  refine tw_callM (As := [.int (xs (i + 1)), .int (xs (i + 2))]) (rest := []) (l10_depthIn tw_T10 e2) (tl_recv tl_ck10 tw_T10) dW_1554 cV_X10_depthIn ⟨hk, hn⟩ (Nat.le_of_ble_eq_true rfl) ?_
  exact tw_tail (k := k + 1) (n := n + 6) (T := 1557) ⟨dW_1557, dW_1559, dW_1560, dW_1563, dW_1565, dW_1570, dW_1572, dW_1575, dW_1576, dW_1577, dW_1578, dW_1580, dW_1581, dW_1582, dW_1587⟩ (by decide) hk hn e3 (tw_h2 hl (by decide) e4 e5) (K w e6)
theorem tw_c24 (h : tp_JJ E.2.1 u) (hk : k + 1 ≤ 634490) (hn : n + 6 ≤ 7192633) (hi : i + 4 < L) (hL : L ≤ 2560) (K : ∀ u1, tp_JJ E.2.1 u1 → ∀ l5 l6, tl_R E (mW nm) (tw_X E b L xs) lw_Z (k + 1) (n + 6) (tl_HB E u1) 2087 (tw_ls E b i l5 l6) []) : tl_R E (mW nm) (tw_X E b L xs) lw_Z k n (tl_HB E u) 1590 (tw_ls E b i l5 l6) [] := by
  obtain ⟨r, v, w, e1, e2, e6⟩ := tx_doneIn h
  refine tl_aload_n (q := 1) dW_1590 rfl (tw_callM (As := []) (l9_doneIn tl_T9 e1) (tl_recv tl_ck9 tl_T9) dW_1591 cV_X9_doneIn ⟨by show k + 0 ≤ 634490; omega, by show n + 0 ≤ 7192633; omega⟩ (Nat.le_of_ble_eq_true rfl) ?_)
  refine tl_aload_n (q := 2) dW_1594 rfl (tw_callM (As := []) (l10_doneIn tw_T10 e2) (tl_recv tl_ck10 tw_T10) dW_1595 cV_X10_doneIn ⟨by show k + 0 + 0 ≤ 634490; omega, by show n + 0 + 0 ≤ 7192633; omega⟩ (Nat.le_of_ble_eq_true rfl) ?_)
  exact tl_icmp_eq dW_1598 (by decide) (fun _ => tl_widen (k2 := k + 1) (n2 := n + 6) (by show k + 0 + 0 ≤ k + 1; omega) (by show n + 0 + 0 ≤ n + 6; omega) (K w e6 l5 l6)) (fun hne => absurd rfl hne)
theorem tw_c25 (h : tp_JJ E.2.1 u) (hk : k + 1 ≤ 634490) (hn : n + 6 ≤ 7192633) (hi : i + 4 < L) (hL : L ≤ 2560) (K : ∀ u1, tp_JJ E.2.1 u1 → ∀ l5 l6, tl_R E (mW nm) (tw_X E b L xs) lw_Z (k + 1) (n + 6) (tl_HB E u1) 2087 (tw_ls E b i l5 l6) []) : tl_R E (mW nm) (tw_X E b L xs) lw_Z k n (tl_HB E u) 1603 (tw_ls E b i l5 l6) [] := by
  obtain ⟨t, r, v, e1, hl, r2, w, e2, e3, e4, e5, e6⟩ := tx_bestCell h (l := xs (i + 1)) (g := xs (i + 2)) (n := xs (i + 3))
  refine tl_aload_n (q := 1) dW_1603 rfl (tw_arg (j := 1) dW_1604 dW_1605 dW_1607 dW_1608 dW_1609 rfl rfl i9_1 (by omega) (by omega) (tw_arg (j := 2) dW_1610 dW_1611 dW_1613 dW_1614 dW_1615 rfl rfl i9_2 (by omega) (by omega) (tw_arg (j := 3) dW_1616 dW_1617 dW_1619 dW_1620 dW_1621 rfl rfl i9_3 (by omega) (by omega) (tl_aload_n (q := 3) dW_1622 rfl ?_))))
  refine tw_callH (As := [.ref E.2.1, .int (xs (i + 1)), .int (xs (i + 2)), .int (xs (i + 3)), .ref (E.2.1 + 566)]) (rest := []) (lL_bestCell e1 hl) dW_1623 cH_bestCell ⟨hk, hn⟩ (Nat.le_of_ble_eq_true rfl) ?_
  refine tl_istore (i := 5) dW_1626 (Nat.le_of_ble_eq_true rfl) ?_
  refine tl_aload_n (q := 2) dW_1628 rfl (tw_arg (j := 1) dW_1629 dW_1630 dW_1632 dW_1633 dW_1634 rfl rfl i9_1 (by omega) (by omega) (tw_arg (j := 2) dW_1635 dW_1636 dW_1638 dW_1639 dW_1640 rfl rfl i9_2 (by omega) (by omega) (tw_arg (j := 3) dW_1641 dW_1642 dW_1644 dW_1645 dW_1646 rfl rfl i9_3 (by omega) (by omega) ?_)))
  refine tw_callM (As := [.int (xs (i + 1)), .int (xs (i + 2)), .int (xs (i + 3))]) (rest := []) (l10_bestCell tw_T10 e2) (tl_recv tl_ck10 tw_T10) dW_1647 cV_X10_bestCell ⟨hk, hn⟩ (Nat.le_of_ble_eq_true rfl) ?_
  exact tw_tail (k := k + 1) (n := n + 6) (T := 1650) ⟨dW_1650, dW_1652, dW_1653, dW_1656, dW_1658, dW_1663, dW_1665, dW_1668, dW_1669, dW_1670, dW_1671, dW_1673, dW_1674, dW_1675, dW_1680⟩ (by decide) hk hn e3 (tw_h2 hl (by decide) e4 e5) (K w e6)
theorem tw_c26 (h : tp_JJ E.2.1 u) (hk : k + 1 ≤ 634490) (hn : n + 6 ≤ 7192633) (hi : i + 4 < L) (hL : L ≤ 2560) (K : ∀ u1, tp_JJ E.2.1 u1 → ∀ l5 l6, tl_R E (mW nm) (tw_X E b L xs) lw_Z (k + 1) (n + 6) (tl_HB E u1) 2087 (tw_ls E b i l5 l6) []) : tl_R E (mW nm) (tw_X E b L xs) lw_Z k n (tl_HB E u) 1683 (tw_ls E b i l5 l6) [] := by
  obtain ⟨t, r, v, e1, hl, r2, w, e2, e3, e4, e5, e6⟩ := tx_steps h (g := xs (i + 1)) (c := xs (i + 2)) (g2 := xs (i + 3)) (c2 := xs (i + 4))
  refine tl_aload_n (q := 1) dW_1683 rfl (tw_arg (j := 1) dW_1684 dW_1685 dW_1687 dW_1688 dW_1689 rfl rfl i9_1 (by omega) (by omega) (tw_arg (j := 2) dW_1690 dW_1691 dW_1693 dW_1694 dW_1695 rfl rfl i9_2 (by omega) (by omega) (tw_arg (j := 3) dW_1696 dW_1697 dW_1699 dW_1700 dW_1701 rfl rfl i9_3 (by omega) (by omega) (tw_arg (j := 4) dW_1702 dW_1703 dW_1705 dW_1706 dW_1707 rfl rfl i9_4 (by omega) (by omega) (tl_aload_n (q := 3) dW_1708 rfl ?_)))))
  refine tw_callH (As := [.ref E.2.1, .int (xs (i + 1)), .int (xs (i + 2)), .int (xs (i + 3)), .int (xs (i + 4)), .ref (E.2.1 + 566)]) (rest := []) (lL_steps e1 hl) dW_1709 cH_steps ⟨hk, hn⟩ (Nat.le_of_ble_eq_true rfl) ?_
  refine tl_istore (i := 5) dW_1712 (Nat.le_of_ble_eq_true rfl) ?_
  refine tl_aload_n (q := 2) dW_1714 rfl (tw_arg (j := 1) dW_1715 dW_1716 dW_1718 dW_1719 dW_1720 rfl rfl i9_1 (by omega) (by omega) (tw_arg (j := 2) dW_1721 dW_1722 dW_1724 dW_1725 dW_1726 rfl rfl i9_2 (by omega) (by omega) (tw_arg (j := 3) dW_1727 dW_1728 dW_1730 dW_1731 dW_1732 rfl rfl i9_3 (by omega) (by omega) (tw_arg (j := 4) dW_1733 dW_1734 dW_1736 dW_1737 dW_1738 rfl rfl i9_4 (by omega) (by omega) ?_))))
  refine tw_callM (As := [.int (xs (i + 1)), .int (xs (i + 2)), .int (xs (i + 3)), .int (xs (i + 4))]) (rest := []) (l10_steps tw_T10 e2) (tl_recv tl_ck10 tw_T10) dW_1739 cV_X10_steps ⟨hk, hn⟩ (Nat.le_of_ble_eq_true rfl) ?_
  exact tw_tail (k := k + 1) (n := n + 6) (T := 1742) ⟨dW_1742, dW_1744, dW_1745, dW_1748, dW_1750, dW_1755, dW_1757, dW_1760, dW_1761, dW_1762, dW_1763, dW_1765, dW_1766, dW_1767, dW_1772⟩ (by decide) hk hn e3 (tw_h2 hl (by decide) e4 e5) (K w e6)
theorem tw_c27 (h : tp_JJ E.2.1 u) (hk : k + 1 ≤ 634490) (hn : n + 6 ≤ 7192633) (hi : i + 4 < L) (hL : L ≤ 2560) (K : ∀ u1, tp_JJ E.2.1 u1 → ∀ l5 l6, tl_R E (mW nm) (tw_X E b L xs) lw_Z (k + 1) (n + 6) (tl_HB E u1) 2087 (tw_ls E b i l5 l6) []) : tl_R E (mW nm) (tw_X E b L xs) lw_Z k n (tl_HB E u) 1775 (tw_ls E b i l5 l6) [] := by
  obtain ⟨t, r, v, e1, hl, r2, w, e2, e3, e4, e5, e6⟩ := tx_runScript h (n := xs (i + 1)) (s := ((((xs (i + 2)).toInt64) <<< ((32 : Int32).toInt64 &&& 63)) ||| (((xs (i + 3)).toInt64) &&& 4294967295)))
  refine tl_aload_n (q := 1) dW_1775 rfl (tw_arg (j := 1) dW_1776 dW_1777 dW_1779 dW_1780 dW_1781 rfl rfl i9_1 (by omega) (by omega) (tw_arg (j := 2) dW_1782 dW_1783 dW_1785 dW_1786 dW_1787 rfl rfl i9_2 (by omega) (by omega) (tl_i2l dW_1788 (tl_bipush (v := 32) dW_1789 (by decide) (tl_lshl dW_1791 (tw_arg (j := 3) dW_1792 dW_1793 dW_1795 dW_1796 dW_1797 rfl rfl i9_3 (by omega) (by omega) (tl_i2l dW_1798 (tl_ldc2 dW_1799 kl_L_204 (tl_land dW_1802 (tl_lor dW_1803 (tl_aload_n (q := 3) dW_1804 rfl ?_)))))))))))
  refine tw_callH (As := [.ref E.2.1, .int (xs (i + 1)), .long ((((xs (i + 2)).toInt64) <<< ((32 : Int32).toInt64 &&& 63)) ||| (((xs (i + 3)).toInt64) &&& 4294967295)), .ref (E.2.1 + 566)]) (rest := []) (lL_runScript e1 hl) dW_1805 cH_runScript ⟨hk, hn⟩ (Nat.le_of_ble_eq_true rfl) ?_
  refine tl_istore (i := 5) dW_1808 (Nat.le_of_ble_eq_true rfl) ?_
  refine tl_aload_n (q := 2) dW_1810 rfl (tw_arg (j := 1) dW_1811 dW_1812 dW_1814 dW_1815 dW_1816 rfl rfl i9_1 (by omega) (by omega) (tw_arg (j := 2) dW_1817 dW_1818 dW_1820 dW_1821 dW_1822 rfl rfl i9_2 (by omega) (by omega) (tl_i2l dW_1823 (tl_bipush (v := 32) dW_1824 (by decide) (tl_lshl dW_1826 (tw_arg (j := 3) dW_1827 dW_1828 dW_1830 dW_1831 dW_1832 rfl rfl i9_3 (by omega) (by omega) (tl_i2l dW_1833 (tl_ldc2 dW_1834 kl_L_204 (tl_land dW_1837 (tl_lor dW_1838 ?_))))))))))
  refine tw_callM (As := [.int (xs (i + 1)), .long ((((xs (i + 2)).toInt64) <<< ((32 : Int32).toInt64 &&& 63)) ||| (((xs (i + 3)).toInt64) &&& 4294967295))]) (rest := []) (l10_runScript tw_T10 e2) (tl_recv tl_ck10 tw_T10) dW_1839 cV_X10_runScript ⟨hk, hn⟩ (Nat.le_of_ble_eq_true rfl) ?_
  exact tw_tail (k := k + 1) (n := n + 6) (T := 1842) ⟨dW_1842, dW_1844, dW_1845, dW_1848, dW_1850, dW_1855, dW_1857, dW_1860, dW_1861, dW_1862, dW_1863, dW_1865, dW_1866, dW_1867, dW_1872⟩ (by decide) hk hn e3 (tw_h2 hl (by decide) e4 e5) (K w e6)
theorem tw_c28 (h : tp_JJ E.2.1 u) (hk : k + 1 ≤ 634490) (hn : n + 6 ≤ 7192633) (hi : i + 4 < L) (hL : L ≤ 2560) (K : ∀ u1, tp_JJ E.2.1 u1 → ∀ l5 l6, tl_R E (mW nm) (tw_X E b L xs) lw_Z (k + 1) (n + 6) (tl_HB E u1) 2087 (tw_ls E b i l5 l6) []) : tl_R E (mW nm) (tw_X E b L xs) lw_Z k n (tl_HB E u) 1875 (tw_ls E b i l5 l6) [] := by
  obtain ⟨t, r, v, e1, hl, r2, w, e2, e3, e4, e5, e6⟩ := tx_simulate h (x := ((((xs (i + 1)).toInt64) <<< ((32 : Int32).toInt64 &&& 63)) ||| (((xs (i + 2)).toInt64) &&& 4294967295))) (n := xs (i + 3))
  refine tl_aload_n (q := 1) dW_1875 rfl (tw_arg (j := 1) dW_1876 dW_1877 dW_1879 dW_1880 dW_1881 rfl rfl i9_1 (by omega) (by omega) (tl_i2l dW_1882 (tl_bipush (v := 32) dW_1883 (by decide) (tl_lshl dW_1885 (tw_arg (j := 2) dW_1886 dW_1887 dW_1889 dW_1890 dW_1891 rfl rfl i9_2 (by omega) (by omega) (tl_i2l dW_1892 (tl_ldc2 dW_1893 kl_L_204 (tl_land dW_1896 (tl_lor dW_1897 (tw_arg (j := 3) dW_1898 dW_1899 dW_1901 dW_1902 dW_1903 rfl rfl i9_3 (by omega) (by omega) (tl_aload_n (q := 3) dW_1904 rfl ?_)))))))))))
  refine tw_callH (As := [.ref E.2.1, .long ((((xs (i + 1)).toInt64) <<< ((32 : Int32).toInt64 &&& 63)) ||| (((xs (i + 2)).toInt64) &&& 4294967295)), .int (xs (i + 3)), .ref (E.2.1 + 566)]) (rest := []) (lL_simulate e1 hl) dW_1905 cH_simulate ⟨hk, hn⟩ (Nat.le_of_ble_eq_true rfl) ?_
  refine tl_istore (i := 5) dW_1908 (Nat.le_of_ble_eq_true rfl) ?_
  refine tl_aload_n (q := 2) dW_1910 rfl (tw_arg (j := 1) dW_1911 dW_1912 dW_1914 dW_1915 dW_1916 rfl rfl i9_1 (by omega) (by omega) (tl_i2l dW_1917 (tl_bipush (v := 32) dW_1918 (by decide) (tl_lshl dW_1920 (tw_arg (j := 2) dW_1921 dW_1922 dW_1924 dW_1925 dW_1926 rfl rfl i9_2 (by omega) (by omega) (tl_i2l dW_1927 (tl_ldc2 dW_1928 kl_L_204 (tl_land dW_1931 (tl_lor dW_1932 (tw_arg (j := 3) dW_1933 dW_1934 dW_1936 dW_1937 dW_1938 rfl rfl i9_3 (by omega) (by omega) ?_))))))))))
  refine tw_callM (As := [.long ((((xs (i + 1)).toInt64) <<< ((32 : Int32).toInt64 &&& 63)) ||| (((xs (i + 2)).toInt64) &&& 4294967295)), .int (xs (i + 3))]) (rest := []) (l10_simulate tw_T10 e2) (tl_recv tl_ck10 tw_T10) dW_1939 cV_X10_simulate ⟨hk, hn⟩ (Nat.le_of_ble_eq_true rfl) ?_
  exact tw_tail (k := k + 1) (n := n + 6) (T := 1942) ⟨dW_1942, dW_1944, dW_1945, dW_1948, dW_1950, dW_1955, dW_1957, dW_1960, dW_1961, dW_1962, dW_1963, dW_1965, dW_1966, dW_1967, dW_1972⟩ (by decide) hk hn e3 (tw_h2 hl (by decide) e4 e5) (K w e6)
theorem tw_c29 (h : tp_JJ E.2.1 u) (hk : k + 1 ≤ 634490) (hn : n + 6 ≤ 7192633) (hi : i + 4 < L) (hL : L ≤ 2560) (K : ∀ u1, tp_JJ E.2.1 u1 → ∀ l5 l6, tl_R E (mW nm) (tw_X E b L xs) lw_Z (k + 1) (n + 6) (tl_HB E u1) 2087 (tw_ls E b i l5 l6) []) : tl_R E (mW nm) (tw_X E b L xs) lw_Z k n (tl_HB E u) 1975 (tw_ls E b i l5 l6) [] := by
  obtain ⟨t, r, v, e1, hl, r2, w, e2, e3, e4, e5, e6⟩ := tx_save h (s := xs (i + 1))
  refine tl_aload_n (q := 1) dW_1975 rfl (tw_arg (j := 1) dW_1976 dW_1977 dW_1979 dW_1980 dW_1981 rfl rfl i9_1 (by omega) (by omega) (tl_aload_n (q := 3) dW_1982 rfl ?_))
  refine tw_callH (As := [.ref E.2.1, .int (xs (i + 1)), .ref (E.2.1 + 566)]) (rest := []) (lL_save e1 hl) dW_1983 cH_save ⟨hk, hn⟩ (Nat.le_of_ble_eq_true rfl) ?_
  refine tl_istore (i := 5) dW_1986 (Nat.le_of_ble_eq_true rfl) ?_
  refine tl_aload_n (q := 2) dW_1988 rfl (tw_arg (j := 1) dW_1989 dW_1990 dW_1992 dW_1993 dW_1994 rfl rfl i9_1 (by omega) (by omega) ?_)
  refine tw_callM (As := [.int (xs (i + 1))]) (rest := []) (l10_save tw_T10 e2) (tl_recv tl_ck10 tw_T10) dW_1995 cV_X10_save ⟨hk, hn⟩ (Nat.le_of_ble_eq_true rfl) ?_
  exact tw_tail (k := k + 1) (n := n + 6) (T := 1998) ⟨dW_1998, dW_2000, dW_2001, dW_2004, dW_2006, dW_2011, dW_2013, dW_2016, dW_2017, dW_2018, dW_2019, dW_2021, dW_2022, dW_2023, dW_2028⟩ (by decide) hk hn e3 (tw_h2 hl (by decide) e4 e5) (K w e6)
theorem tw_c30 (h : tp_JJ E.2.1 u) (hk : k + 1 ≤ 634490) (hn : n + 6 ≤ 7192633) (hi : i + 4 < L) (hL : L ≤ 2560) (K : ∀ u1, tp_JJ E.2.1 u1 → ∀ l5 l6, tl_R E (mW nm) (tw_X E b L xs) lw_Z (k + 1) (n + 6) (tl_HB E u1) 2087 (tw_ls E b i l5 l6) []) : tl_R E (mW nm) (tw_X E b L xs) lw_Z k n (tl_HB E u) 2031 (tw_ls E b i l5 l6) [] := by
  obtain ⟨t, r, v, e1, hl, r2, w, e2, e3, e4, e5, e6⟩ := tx_restore h (s := xs (i + 1))
  refine tl_aload_n (q := 1) dW_2031 rfl (tw_arg (j := 1) dW_2032 dW_2033 dW_2035 dW_2036 dW_2037 rfl rfl i9_1 (by omega) (by omega) (tl_aload_n (q := 3) dW_2038 rfl ?_))
  refine tw_callH (As := [.ref E.2.1, .int (xs (i + 1)), .ref (E.2.1 + 566)]) (rest := []) (lL_restore e1 hl) dW_2039 cH_restore ⟨hk, hn⟩ (Nat.le_of_ble_eq_true rfl) ?_
  refine tl_istore (i := 5) dW_2042 (Nat.le_of_ble_eq_true rfl) ?_
  refine tl_aload_n (q := 2) dW_2044 rfl (tw_arg (j := 1) dW_2045 dW_2046 dW_2048 dW_2049 dW_2050 rfl rfl i9_1 (by omega) (by omega) ?_)
  refine tw_callM (As := [.int (xs (i + 1))]) (rest := []) (l10_restore tw_T10 e2) (tl_recv tl_ck10 tw_T10) dW_2051 cV_X10_restore ⟨hk, hn⟩ (Nat.le_of_ble_eq_true rfl) ?_
  exact tw_tail (k := k + 1) (n := n + 6) (T := 2054) ⟨dW_2054, dW_2056, dW_2057, dW_2060, dW_2062, dW_2067, dW_2069, dW_2072, dW_2073, dW_2074, dW_2075, dW_2077, dW_2078, dW_2079, dW_2084⟩ (by decide) hk hn e3 (tw_h2 hl (by decide) e4 e5) (K w e6)
end TWC
