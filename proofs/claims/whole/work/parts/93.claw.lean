set_option maxRecDepth 100000 in
set_option maxHeartbeats 4000000 in
theorem b_L_law_2612 {X : h_X} {b L : Nat} {xs : Nat → Int32} (hS0 : h_scr X b L xs) (hX : h_ok X cL_law 4 RL 2048 84000) {Q : Int32 → h_S → Prop} (hE : h_lend X b) {K18 : Nat → Nat → Nat → Int32 → h_S → Nat → Nat → Prop} (hK18 : ∀ (o0 : Nat) (o1 : Nat) (o2 : Nat) (x3 : Int32) (s : h_S) (bc bs : Nat), K18 o0 o1 o2 x3 s bc bs → h_V X 4 18 [(0, pR (some o0)), (1, pR (some o1)), (2, pR (some o2)), (3, pI x3)] [] s bc bs) {o0 : Nat} {o1 : Nat} {o2 : Nat} {x3 : Int32} (s : h_S) {bc bs : Nat} (h : w_L_law_2612 (x_G X) b L xs Q K18 o0 o1 o2 x3 s bc bs) : h_V X 4 2612 [(0, pR (some o0)), (1, pR (some o1)), (2, pR (some o2)), (3, pI x3)] [] s bc bs := by
  unfold w_L_law_2612 at h
  refine v_iinc (c := 9) (lv' := [(3, _), (0, _), (1, _), (2, _)]) hX dL_law_2612 3 rfl (by decide) (by decide) rfl ?_
  refine v_goto (tgt := 18) hX dL_law_2615 (by decide) ?_
  refine v_pick [1, 2, 3, 0] rfl ?_
  exact hK18 _ _ _ _ _ _ _ h
set_option maxRecDepth 100000 in
set_option maxHeartbeats 4000000 in
theorem b_L_law_18 {X : h_X} {b L : Nat} {xs : Nat → Int32} (hS0 : h_scr X b L xs) (hX : h_ok X cL_law 4 RL 2048 84000) {Q : Int32 → h_S → Prop} (hE : h_lend X b) : ∀ (n : Nat) (o0 : Nat) (o1 : Nat) (o2 : Nat) (x3 : Int32) (s : h_S) (bc bs : Nat), w_L_law_18 (x_G X) b L xs Q n o0 o1 o2 x3 s bc bs → h_V X 4 18 [(0, pR (some o0)), (1, pR (some o1)), (2, pR (some o2)), (3, pI x3)] [] s bc bs := by
  intro n
  induction n with
  | zero => intro _ _ _ _ s bc bs h; exact h.elim
  | succ n hK18 =>
    intro o0 o1 o2 x3 s bc bs h
    have h : w_L_law_18b (x_G X) b L xs Q (w_L_law_18 (x_G X) b L xs Q n) o0 o1 o2 x3 s bc bs := h
    unfold w_L_law_18b at h
    refine v_iload_n hX dL_law_18 3 rfl rfl ?_
    refine v_aload_n hX dL_law_19 0 rfl rfl ?_
    obtain ⟨e1, h⟩ := h
    refine v_slen hX hS0 dL_law_20 e1 ?_
    refine v_bipush (v := 9) hX dL_law_21 (by decide) ?_
    refine v_isub hX dL_law_23 ?_
    refine v_icmp_gt (tgt := 2618) hX dL_law_24 (by decide) (fun c2 => ?_) (fun c2 => ?_)
    · have h := h_T c2 h
      refine v_iconst (v := 1) hX dL_law_2618 (by decide) ?_
      exact v_lawret hX hE dL_law_2619
    · have h := h_E c2 h
      refine v_aload_n hX dL_law_27 0 rfl rfl ?_
      refine v_iload_n hX dL_law_28 3 rfl rfl ?_
      obtain ⟨e3, i4, h⟩ := h
      refine v_sld hX hS0 dL_law_29 e3 i4 ?_
      refine v_bipush (v := 63) hX dL_law_30 (by decide) ?_
      refine v_iand hX dL_law_32 ?_
      refine v_gen (fun q1173 e_q1173 => ?_)
      rw [← e_q1173] at h
      by_cases c5 : q1173 = (0 : Int32)
      · have h := h_T c5 h
        refine v_tabIn (tgt := 284) hX dL_law_33 (by rw [c5]; decide) (by rw [c5]; decide) (by rw [c5]; rfl) (by decide) ?_
        refine v_aload_n hX dL_law_284 1 rfl rfl ?_
        obtain ⟨k6, h⟩ := h
        refine v_callVi0 hX dL_law_285 c_RL_13 cV_X11_hand (ci := 12) (T := TX11) (N := 19) rfl (by exact k6) [] rfl rfl (Nat.le_of_ble_eq_true rfl) (by decide) (by decide)  (m_X11_hand h) (fun p8 s7 h => ?_)
        refine v_aload_n hX dL_law_288 2 rfl rfl ?_
        obtain ⟨k9, h⟩ := h
        refine v_callVi0 hX dL_law_289 c_RL_17 cV_X12_hand (ci := 13) (T := TX12) (N := 115) rfl (by exact k9) [] rfl rfl (Nat.le_of_ble_eq_true rfl) (by decide) (by decide)  (m_X12_hand h) (fun p11 s10 h => ?_)
        refine v_icmp_eq (tgt := 2612) hX dL_law_292 (by decide) (fun c12 => ?_) (fun c12 => ?_)
        · have h := h_T c12 h
          refine v_pick [0, 1, 2, 3] rfl ?_
          exact b_L_law_2612 hS0 hX hE hK18 _ h
        · have h := h_E c12 h
          refine v_iconst (v := 0) hX dL_law_295 (by decide) ?_
          exact h.elim
      · have h := h_E c5 h
        by_cases c13 : q1173 = (1 : Int32)
        · have h := h_T c13 h
          refine v_tabIn (tgt := 297) hX dL_law_33 (by rw [c13]; decide) (by rw [c13]; decide) (by rw [c13]; rfl) (by decide) ?_
          refine v_aload_n hX dL_law_297 1 rfl rfl ?_
          refine v_aload_n hX dL_law_298 0 rfl rfl ?_
          refine v_iload_n hX dL_law_299 3 rfl rfl ?_
          refine v_iconst (v := 1) hX dL_law_300 (by decide) ?_
          refine v_iadd hX dL_law_301 ?_
          obtain ⟨e14, i15, h⟩ := h
          refine v_sld hX hS0 dL_law_302 e14 i15 ?_
          refine v_aload_n hX dL_law_303 0 rfl rfl ?_
          refine v_iload_n hX dL_law_304 3 rfl rfl ?_
          refine v_iconst (v := 2) hX dL_law_305 (by decide) ?_
          refine v_iadd hX dL_law_306 ?_
          obtain ⟨e16, i17, h⟩ := h
          refine v_sld hX hS0 dL_law_307 e16 i17 ?_
          obtain ⟨k18, h⟩ := h
          refine v_callVi0 hX dL_law_308 c_RL_18 cV_X11_group (ci := 12) (T := TX11) (N := 19) rfl (by exact k18) [pI _, pI _] rfl rfl (Nat.le_of_ble_eq_true rfl) (by decide) (by decide)  (m_X11_group h) (fun p20 s19 h => ?_)
          refine v_aload_n hX dL_law_311 2 rfl rfl ?_
          refine v_aload_n hX dL_law_312 0 rfl rfl ?_
          refine v_iload_n hX dL_law_313 3 rfl rfl ?_
          refine v_iconst (v := 1) hX dL_law_314 (by decide) ?_
          refine v_iadd hX dL_law_315 ?_
          obtain ⟨e21, i22, h⟩ := h
          refine v_sld hX hS0 dL_law_316 e21 i22 ?_
          refine v_aload_n hX dL_law_317 0 rfl rfl ?_
          refine v_iload_n hX dL_law_318 3 rfl rfl ?_
          refine v_iconst (v := 2) hX dL_law_319 (by decide) ?_
          refine v_iadd hX dL_law_320 ?_
          obtain ⟨e23, i24, h⟩ := h
          refine v_sld hX hS0 dL_law_321 e23 i24 ?_
          obtain ⟨k25, h⟩ := h
          refine v_callVi0 hX dL_law_322 c_RL_22 cV_X12_group (ci := 13) (T := TX12) (N := 115) rfl (by exact k25) [pI _, pI _] rfl rfl (Nat.le_of_ble_eq_true rfl) (by decide) (by decide)  (m_X12_group h) (fun p27 s26 h => ?_)
          refine v_icmp_eq (tgt := 2612) hX dL_law_325 (by decide) (fun c28 => ?_) (fun c28 => ?_)
          · have h := h_T c28 h
            refine v_pick [0, 1, 2, 3] rfl ?_
            exact b_L_law_2612 hS0 hX hE hK18 _ h
          · have h := h_E c28 h
            refine v_iconst (v := 0) hX dL_law_328 (by decide) ?_
            exact h.elim
        · have h := h_E c13 h
          by_cases c29 : q1173 = (2 : Int32)
          · have h := h_T c29 h
            refine v_tabIn (tgt := 330) hX dL_law_33 (by rw [c29]; decide) (by rw [c29]; decide) (by rw [c29]; rfl) (by decide) ?_
            refine v_aload_n hX dL_law_330 1 rfl rfl ?_
            refine v_aload_n hX dL_law_331 0 rfl rfl ?_
            refine v_iload_n hX dL_law_332 3 rfl rfl ?_
            refine v_iconst (v := 1) hX dL_law_333 (by decide) ?_
            refine v_iadd hX dL_law_334 ?_
            obtain ⟨e30, i31, h⟩ := h
            refine v_sld hX hS0 dL_law_335 e30 i31 ?_
            obtain ⟨k32, h⟩ := h
            obtain ⟨mc35, ms36, b37, b38, h⟩ := h
            refine v_callVi hX dL_law_336 c_RL_23 cV_X11_writing (ci := 12) (T := TX11) (N := 19) rfl (by exact k32) [pI _] rfl rfl (Nat.le_of_ble_eq_true rfl) (by decide) (by decide) b37 b38 (m_X11_writing h) (fun p34 s33 h => ?_)
            refine v_aload_n hX dL_law_339 2 rfl rfl ?_
            refine v_aload_n hX dL_law_340 0 rfl rfl ?_
            refine v_iload_n hX dL_law_341 3 rfl rfl ?_
            refine v_iconst (v := 1) hX dL_law_342 (by decide) ?_
            refine v_iadd hX dL_law_343 ?_
            obtain ⟨e39, i40, h⟩ := h
            refine v_sld hX hS0 dL_law_344 e39 i40 ?_
            obtain ⟨k41, h⟩ := h
            refine v_callVi0 hX dL_law_345 c_RL_27 cV_X12_writing (ci := 13) (T := TX12) (N := 115) rfl (by exact k41) [pI _] rfl rfl (Nat.le_of_ble_eq_true rfl) (by decide) (by decide)  (m_X12_writing h) (fun p43 s42 h => ?_)
            refine v_icmp_eq (tgt := 2612) hX dL_law_348 (by decide) (fun c44 => ?_) (fun c44 => ?_)
            · have h := h_T c44 h
              refine v_pick [0, 1, 2, 3] rfl ?_
              exact b_L_law_2612 hS0 hX hE hK18 _ h
            · have h := h_E c44 h
              refine v_iconst (v := 0) hX dL_law_351 (by decide) ?_
              exact h.elim
          · have h := h_E c29 h
            by_cases c45 : q1173 = (3 : Int32)
            · have h := h_T c45 h
              refine v_tabIn (tgt := 353) hX dL_law_33 (by rw [c45]; decide) (by rw [c45]; decide) (by rw [c45]; rfl) (by decide) ?_
              refine v_aload_n hX dL_law_353 1 rfl rfl ?_
              refine v_aload_n hX dL_law_354 0 rfl rfl ?_
              refine v_iload_n hX dL_law_355 3 rfl rfl ?_
              refine v_iconst (v := 1) hX dL_law_356 (by decide) ?_
              refine v_iadd hX dL_law_357 ?_
              obtain ⟨e46, i47, h⟩ := h
              refine v_sld hX hS0 dL_law_358 e46 i47 ?_
              refine v_aload_n hX dL_law_359 0 rfl rfl ?_
              refine v_iload_n hX dL_law_360 3 rfl rfl ?_
              refine v_iconst (v := 2) hX dL_law_361 (by decide) ?_
              refine v_iadd hX dL_law_362 ?_
              obtain ⟨e48, i49, h⟩ := h
              refine v_sld hX hS0 dL_law_363 e48 i49 ?_
              refine v_aload_n hX dL_law_364 0 rfl rfl ?_
              refine v_iload_n hX dL_law_365 3 rfl rfl ?_
              refine v_iconst (v := 3) hX dL_law_366 (by decide) ?_
              refine v_iadd hX dL_law_367 ?_
              obtain ⟨e50, i51, h⟩ := h
              refine v_sld hX hS0 dL_law_368 e50 i51 ?_
              refine v_aload_n hX dL_law_369 0 rfl rfl ?_
              refine v_iload_n hX dL_law_370 3 rfl rfl ?_
              refine v_iconst (v := 4) hX dL_law_371 (by decide) ?_
              refine v_iadd hX dL_law_372 ?_
              obtain ⟨e52, i53, h⟩ := h
              refine v_sld hX hS0 dL_law_373 e52 i53 ?_
              refine v_aload_n hX dL_law_374 0 rfl rfl ?_
              refine v_iload_n hX dL_law_375 3 rfl rfl ?_
              refine v_iconst (v := 5) hX dL_law_376 (by decide) ?_
              refine v_iadd hX dL_law_377 ?_
              obtain ⟨e54, i55, h⟩ := h
              refine v_sld hX hS0 dL_law_378 e54 i55 ?_
              refine v_aload_n hX dL_law_379 0 rfl rfl ?_
              refine v_iload_n hX dL_law_380 3 rfl rfl ?_
              refine v_bipush (v := 6) hX dL_law_381 (by decide) ?_
              refine v_iadd hX dL_law_383 ?_
              obtain ⟨e56, i57, h⟩ := h
              refine v_sld hX hS0 dL_law_384 e56 i57 ?_
              obtain ⟨k58, h⟩ := h
              obtain ⟨mc61, ms62, b63, b64, h⟩ := h
              refine v_callVi hX dL_law_385 c_RL_28 cV_X11_put (ci := 12) (T := TX11) (N := 19) rfl (by exact k58) [pI _, pI _, pI _, pI _, pI _, pI _] rfl rfl (Nat.le_of_ble_eq_true rfl) (by decide) (by decide) b63 b64 (m_X11_put h) (fun p60 s59 h => ?_)
              refine v_aload_n hX dL_law_388 2 rfl rfl ?_
              refine v_aload_n hX dL_law_389 0 rfl rfl ?_
              refine v_iload_n hX dL_law_390 3 rfl rfl ?_
              refine v_iconst (v := 1) hX dL_law_391 (by decide) ?_
              refine v_iadd hX dL_law_392 ?_
              obtain ⟨e65, i66, h⟩ := h
              refine v_sld hX hS0 dL_law_393 e65 i66 ?_
              refine v_aload_n hX dL_law_394 0 rfl rfl ?_
              refine v_iload_n hX dL_law_395 3 rfl rfl ?_
              refine v_iconst (v := 2) hX dL_law_396 (by decide) ?_
              refine v_iadd hX dL_law_397 ?_
              obtain ⟨e67, i68, h⟩ := h
              refine v_sld hX hS0 dL_law_398 e67 i68 ?_
              refine v_aload_n hX dL_law_399 0 rfl rfl ?_
              refine v_iload_n hX dL_law_400 3 rfl rfl ?_
              refine v_iconst (v := 3) hX dL_law_401 (by decide) ?_
              refine v_iadd hX dL_law_402 ?_
              obtain ⟨e69, i70, h⟩ := h
              refine v_sld hX hS0 dL_law_403 e69 i70 ?_
              refine v_aload_n hX dL_law_404 0 rfl rfl ?_
              refine v_iload_n hX dL_law_405 3 rfl rfl ?_
              refine v_iconst (v := 4) hX dL_law_406 (by decide) ?_
              refine v_iadd hX dL_law_407 ?_
              obtain ⟨e71, i72, h⟩ := h
              refine v_sld hX hS0 dL_law_408 e71 i72 ?_
              refine v_aload_n hX dL_law_409 0 rfl rfl ?_
              refine v_iload_n hX dL_law_410 3 rfl rfl ?_
              refine v_iconst (v := 5) hX dL_law_411 (by decide) ?_
              refine v_iadd hX dL_law_412 ?_
              obtain ⟨e73, i74, h⟩ := h
              refine v_sld hX hS0 dL_law_413 e73 i74 ?_
              refine v_aload_n hX dL_law_414 0 rfl rfl ?_
              refine v_iload_n hX dL_law_415 3 rfl rfl ?_
              refine v_bipush (v := 6) hX dL_law_416 (by decide) ?_
              refine v_iadd hX dL_law_418 ?_
              obtain ⟨e75, i76, h⟩ := h
              refine v_sld hX hS0 dL_law_419 e75 i76 ?_
              obtain ⟨k77, h⟩ := h
              refine v_callVi0 hX dL_law_420 c_RL_32 cV_X12_put (ci := 13) (T := TX12) (N := 115) rfl (by exact k77) [pI _, pI _, pI _, pI _, pI _, pI _] rfl rfl (Nat.le_of_ble_eq_true rfl) (by decide) (by decide)  (m_X12_put h) (fun p79 s78 h => ?_)
              refine v_icmp_eq (tgt := 2612) hX dL_law_423 (by decide) (fun c80 => ?_) (fun c80 => ?_)
              · have h := h_T c80 h
                refine v_pick [0, 1, 2, 3] rfl ?_
                exact b_L_law_2612 hS0 hX hE hK18 _ h
              · have h := h_E c80 h
                refine v_iconst (v := 0) hX dL_law_426 (by decide) ?_
                exact h.elim
            · have h := h_E c45 h
              by_cases c81 : q1173 = (4 : Int32)
              · have h := h_T c81 h
                refine v_tabIn (tgt := 428) hX dL_law_33 (by rw [c81]; decide) (by rw [c81]; decide) (by rw [c81]; rfl) (by decide) ?_
                refine v_aload_n hX dL_law_428 1 rfl rfl ?_
                refine v_aload_n hX dL_law_429 0 rfl rfl ?_
                refine v_iload_n hX dL_law_430 3 rfl rfl ?_
                refine v_iconst (v := 1) hX dL_law_431 (by decide) ?_
                refine v_iadd hX dL_law_432 ?_
                obtain ⟨e82, i83, h⟩ := h
                refine v_sld hX hS0 dL_law_433 e82 i83 ?_
                refine v_aload_n hX dL_law_434 0 rfl rfl ?_
                refine v_iload_n hX dL_law_435 3 rfl rfl ?_
                refine v_iconst (v := 2) hX dL_law_436 (by decide) ?_
                refine v_iadd hX dL_law_437 ?_
                obtain ⟨e84, i85, h⟩ := h
                refine v_sld hX hS0 dL_law_438 e84 i85 ?_
                refine v_aload_n hX dL_law_439 0 rfl rfl ?_
                refine v_iload_n hX dL_law_440 3 rfl rfl ?_
                refine v_iconst (v := 3) hX dL_law_441 (by decide) ?_
                refine v_iadd hX dL_law_442 ?_
                obtain ⟨e86, i87, h⟩ := h
                refine v_sld hX hS0 dL_law_443 e86 i87 ?_
                refine v_aload_n hX dL_law_444 0 rfl rfl ?_
                refine v_iload_n hX dL_law_445 3 rfl rfl ?_
                refine v_iconst (v := 4) hX dL_law_446 (by decide) ?_
                refine v_iadd hX dL_law_447 ?_
                obtain ⟨e88, i89, h⟩ := h
                refine v_sld hX hS0 dL_law_448 e88 i89 ?_
                obtain ⟨k90, h⟩ := h
                obtain ⟨mc93, ms94, b95, b96, h⟩ := h
                refine v_callVi hX dL_law_449 c_RL_33 cV_X11_seen (ci := 12) (T := TX11) (N := 19) rfl (by exact k90) [pI _, pI _, pI _, pI _] rfl rfl (Nat.le_of_ble_eq_true rfl) (by decide) (by decide) b95 b96 (m_X11_seen h) (fun p92 s91 h => ?_)
                refine v_aload_n hX dL_law_452 2 rfl rfl ?_
                refine v_aload_n hX dL_law_453 0 rfl rfl ?_
                refine v_iload_n hX dL_law_454 3 rfl rfl ?_
                refine v_iconst (v := 1) hX dL_law_455 (by decide) ?_
                refine v_iadd hX dL_law_456 ?_
                obtain ⟨e97, i98, h⟩ := h
                refine v_sld hX hS0 dL_law_457 e97 i98 ?_
                refine v_aload_n hX dL_law_458 0 rfl rfl ?_
                refine v_iload_n hX dL_law_459 3 rfl rfl ?_
                refine v_iconst (v := 2) hX dL_law_460 (by decide) ?_
                refine v_iadd hX dL_law_461 ?_
                obtain ⟨e99, i100, h⟩ := h
                refine v_sld hX hS0 dL_law_462 e99 i100 ?_
                refine v_aload_n hX dL_law_463 0 rfl rfl ?_
                refine v_iload_n hX dL_law_464 3 rfl rfl ?_
                refine v_iconst (v := 3) hX dL_law_465 (by decide) ?_
                refine v_iadd hX dL_law_466 ?_
                obtain ⟨e101, i102, h⟩ := h
                refine v_sld hX hS0 dL_law_467 e101 i102 ?_
                refine v_aload_n hX dL_law_468 0 rfl rfl ?_
                refine v_iload_n hX dL_law_469 3 rfl rfl ?_
                refine v_iconst (v := 4) hX dL_law_470 (by decide) ?_
                refine v_iadd hX dL_law_471 ?_
                obtain ⟨e103, i104, h⟩ := h
                refine v_sld hX hS0 dL_law_472 e103 i104 ?_
                obtain ⟨k105, h⟩ := h
                refine v_callVi0 hX dL_law_473 c_RL_37 cV_X12_seen (ci := 13) (T := TX12) (N := 115) rfl (by exact k105) [pI _, pI _, pI _, pI _] rfl rfl (Nat.le_of_ble_eq_true rfl) (by decide) (by decide)  (m_X12_seen h) (fun p107 s106 h => ?_)
                refine v_icmp_eq (tgt := 2612) hX dL_law_476 (by decide) (fun c108 => ?_) (fun c108 => ?_)
                · have h := h_T c108 h
                  refine v_pick [0, 1, 2, 3] rfl ?_
                  exact b_L_law_2612 hS0 hX hE hK18 _ h
                · have h := h_E c108 h
                  refine v_iconst (v := 0) hX dL_law_479 (by decide) ?_
                  exact h.elim
              · have h := h_E c81 h
                by_cases c109 : q1173 = (5 : Int32)
                · have h := h_T c109 h
                  refine v_tabIn (tgt := 481) hX dL_law_33 (by rw [c109]; decide) (by rw [c109]; decide) (by rw [c109]; rfl) (by decide) ?_
                  refine v_aload_n hX dL_law_481 1 rfl rfl ?_
                  refine v_aload_n hX dL_law_482 0 rfl rfl ?_
                  refine v_iload_n hX dL_law_483 3 rfl rfl ?_
                  refine v_iconst (v := 1) hX dL_law_484 (by decide) ?_
                  refine v_iadd hX dL_law_485 ?_
                  obtain ⟨e110, i111, h⟩ := h
                  refine v_sld hX hS0 dL_law_486 e110 i111 ?_
                  refine v_aload_n hX dL_law_487 0 rfl rfl ?_
                  refine v_iload_n hX dL_law_488 3 rfl rfl ?_
                  refine v_iconst (v := 2) hX dL_law_489 (by decide) ?_
                  refine v_iadd hX dL_law_490 ?_
                  obtain ⟨e112, i113, h⟩ := h
                  refine v_sld hX hS0 dL_law_491 e112 i113 ?_
                  refine v_aload_n hX dL_law_492 0 rfl rfl ?_
                  refine v_iload_n hX dL_law_493 3 rfl rfl ?_
                  refine v_iconst (v := 3) hX dL_law_494 (by decide) ?_
                  refine v_iadd hX dL_law_495 ?_
                  obtain ⟨e114, i115, h⟩ := h
                  refine v_sld hX hS0 dL_law_496 e114 i115 ?_
                  refine v_aload_n hX dL_law_497 0 rfl rfl ?_
                  refine v_iload_n hX dL_law_498 3 rfl rfl ?_
                  refine v_iconst (v := 4) hX dL_law_499 (by decide) ?_
                  refine v_iadd hX dL_law_500 ?_
                  obtain ⟨e116, i117, h⟩ := h
                  refine v_sld hX hS0 dL_law_501 e116 i117 ?_
                  refine v_aload_n hX dL_law_502 0 rfl rfl ?_
                  refine v_iload_n hX dL_law_503 3 rfl rfl ?_
                  refine v_iconst (v := 5) hX dL_law_504 (by decide) ?_
                  refine v_iadd hX dL_law_505 ?_
                  obtain ⟨e118, i119, h⟩ := h
                  refine v_sld hX hS0 dL_law_506 e118 i119 ?_
                  refine v_aload_n hX dL_law_507 0 rfl rfl ?_
                  refine v_iload_n hX dL_law_508 3 rfl rfl ?_
                  refine v_bipush (v := 6) hX dL_law_509 (by decide) ?_
                  refine v_iadd hX dL_law_511 ?_
                  obtain ⟨e120, i121, h⟩ := h
                  refine v_sld hX hS0 dL_law_512 e120 i121 ?_
                  obtain ⟨k122, h⟩ := h
                  obtain ⟨mc125, ms126, b127, b128, h⟩ := h
                  refine v_callVi hX dL_law_513 c_RL_38 cV_X11_span (ci := 12) (T := TX11) (N := 19) rfl (by exact k122) [pI _, pI _, pI _, pI _, pI _, pI _] rfl rfl (Nat.le_of_ble_eq_true rfl) (by decide) (by decide) b127 b128 (m_X11_span h) (fun p124 s123 h => ?_)
                  refine v_aload_n hX dL_law_516 2 rfl rfl ?_
                  refine v_aload_n hX dL_law_517 0 rfl rfl ?_
                  refine v_iload_n hX dL_law_518 3 rfl rfl ?_
                  refine v_iconst (v := 1) hX dL_law_519 (by decide) ?_
                  refine v_iadd hX dL_law_520 ?_
                  obtain ⟨e129, i130, h⟩ := h
                  refine v_sld hX hS0 dL_law_521 e129 i130 ?_
                  refine v_aload_n hX dL_law_522 0 rfl rfl ?_
                  refine v_iload_n hX dL_law_523 3 rfl rfl ?_
                  refine v_iconst (v := 2) hX dL_law_524 (by decide) ?_
                  refine v_iadd hX dL_law_525 ?_
                  obtain ⟨e131, i132, h⟩ := h
                  refine v_sld hX hS0 dL_law_526 e131 i132 ?_
                  refine v_aload_n hX dL_law_527 0 rfl rfl ?_
                  refine v_iload_n hX dL_law_528 3 rfl rfl ?_
                  refine v_iconst (v := 3) hX dL_law_529 (by decide) ?_
                  refine v_iadd hX dL_law_530 ?_
                  obtain ⟨e133, i134, h⟩ := h
                  refine v_sld hX hS0 dL_law_531 e133 i134 ?_
                  refine v_aload_n hX dL_law_532 0 rfl rfl ?_
                  refine v_iload_n hX dL_law_533 3 rfl rfl ?_
                  refine v_iconst (v := 4) hX dL_law_534 (by decide) ?_
                  refine v_iadd hX dL_law_535 ?_
                  obtain ⟨e135, i136, h⟩ := h
                  refine v_sld hX hS0 dL_law_536 e135 i136 ?_
                  refine v_aload_n hX dL_law_537 0 rfl rfl ?_
                  refine v_iload_n hX dL_law_538 3 rfl rfl ?_
                  refine v_iconst (v := 5) hX dL_law_539 (by decide) ?_
                  refine v_iadd hX dL_law_540 ?_
                  obtain ⟨e137, i138, h⟩ := h
                  refine v_sld hX hS0 dL_law_541 e137 i138 ?_
                  refine v_aload_n hX dL_law_542 0 rfl rfl ?_
                  refine v_iload_n hX dL_law_543 3 rfl rfl ?_
                  refine v_bipush (v := 6) hX dL_law_544 (by decide) ?_
                  refine v_iadd hX dL_law_546 ?_
                  obtain ⟨e139, i140, h⟩ := h
                  refine v_sld hX hS0 dL_law_547 e139 i140 ?_
                  obtain ⟨k141, h⟩ := h
                  refine v_callVi0 hX dL_law_548 c_RL_41 cV_X12_span (ci := 13) (T := TX12) (N := 115) rfl (by exact k141) [pI _, pI _, pI _, pI _, pI _, pI _] rfl rfl (Nat.le_of_ble_eq_true rfl) (by decide) (by decide)  (m_X12_span h) (fun p143 s142 h => ?_)
                  refine v_icmp_eq (tgt := 2612) hX dL_law_551 (by decide) (fun c144 => ?_) (fun c144 => ?_)
                  · have h := h_T c144 h
                    refine v_pick [0, 1, 2, 3] rfl ?_
                    exact b_L_law_2612 hS0 hX hE hK18 _ h
                  · have h := h_E c144 h
                    refine v_iconst (v := 0) hX dL_law_554 (by decide) ?_
                    exact h.elim
                · have h := h_E c109 h
                  by_cases c145 : q1173 = (6 : Int32)
                  · have h := h_T c145 h
                    refine v_tabIn (tgt := 556) hX dL_law_33 (by rw [c145]; decide) (by rw [c145]; decide) (by rw [c145]; rfl) (by decide) ?_
                    refine v_aload_n hX dL_law_556 1 rfl rfl ?_
                    refine v_aload_n hX dL_law_557 0 rfl rfl ?_
                    refine v_iload_n hX dL_law_558 3 rfl rfl ?_
                    refine v_iconst (v := 1) hX dL_law_559 (by decide) ?_
                    refine v_iadd hX dL_law_560 ?_
                    obtain ⟨e146, i147, h⟩ := h
                    refine v_sld hX hS0 dL_law_561 e146 i147 ?_
                    refine v_aload_n hX dL_law_562 0 rfl rfl ?_
                    refine v_iload_n hX dL_law_563 3 rfl rfl ?_
                    refine v_iconst (v := 2) hX dL_law_564 (by decide) ?_
                    refine v_iadd hX dL_law_565 ?_
                    obtain ⟨e148, i149, h⟩ := h
                    refine v_sld hX hS0 dL_law_566 e148 i149 ?_
                    refine v_aload_n hX dL_law_567 0 rfl rfl ?_
                    refine v_iload_n hX dL_law_568 3 rfl rfl ?_
                    refine v_iconst (v := 3) hX dL_law_569 (by decide) ?_
                    refine v_iadd hX dL_law_570 ?_
                    obtain ⟨e150, i151, h⟩ := h
                    refine v_sld hX hS0 dL_law_571 e150 i151 ?_
                    refine v_aload_n hX dL_law_572 0 rfl rfl ?_
                    refine v_iload_n hX dL_law_573 3 rfl rfl ?_
                    refine v_iconst (v := 4) hX dL_law_574 (by decide) ?_
                    refine v_iadd hX dL_law_575 ?_
                    obtain ⟨e152, i153, h⟩ := h
                    refine v_sld hX hS0 dL_law_576 e152 i153 ?_
                    refine v_aload_n hX dL_law_577 0 rfl rfl ?_
                    refine v_iload_n hX dL_law_578 3 rfl rfl ?_
                    refine v_iconst (v := 5) hX dL_law_579 (by decide) ?_
                    refine v_iadd hX dL_law_580 ?_
                    obtain ⟨e154, i155, h⟩ := h
                    refine v_sld hX hS0 dL_law_581 e154 i155 ?_
                    obtain ⟨k156, h⟩ := h
                    obtain ⟨mc159, ms160, b161, b162, h⟩ := h
                    refine v_callVi hX dL_law_582 c_RL_42 cV_X11_live (ci := 12) (T := TX11) (N := 19) rfl (by exact k156) [pI _, pI _, pI _, pI _, pI _] rfl rfl (Nat.le_of_ble_eq_true rfl) (by decide) (by decide) b161 b162 (m_X11_live h) (fun p158 s157 h => ?_)
                    refine v_aload_n hX dL_law_585 2 rfl rfl ?_
                    refine v_aload_n hX dL_law_586 0 rfl rfl ?_
                    refine v_iload_n hX dL_law_587 3 rfl rfl ?_
                    refine v_iconst (v := 1) hX dL_law_588 (by decide) ?_
                    refine v_iadd hX dL_law_589 ?_
                    obtain ⟨e163, i164, h⟩ := h
                    refine v_sld hX hS0 dL_law_590 e163 i164 ?_
                    refine v_aload_n hX dL_law_591 0 rfl rfl ?_
                    refine v_iload_n hX dL_law_592 3 rfl rfl ?_
                    refine v_iconst (v := 2) hX dL_law_593 (by decide) ?_
                    refine v_iadd hX dL_law_594 ?_
                    obtain ⟨e165, i166, h⟩ := h
                    refine v_sld hX hS0 dL_law_595 e165 i166 ?_
                    refine v_aload_n hX dL_law_596 0 rfl rfl ?_
                    refine v_iload_n hX dL_law_597 3 rfl rfl ?_
                    refine v_iconst (v := 3) hX dL_law_598 (by decide) ?_
                    refine v_iadd hX dL_law_599 ?_
                    obtain ⟨e167, i168, h⟩ := h
                    refine v_sld hX hS0 dL_law_600 e167 i168 ?_
                    refine v_aload_n hX dL_law_601 0 rfl rfl ?_
                    refine v_iload_n hX dL_law_602 3 rfl rfl ?_
                    refine v_iconst (v := 4) hX dL_law_603 (by decide) ?_
                    refine v_iadd hX dL_law_604 ?_
                    obtain ⟨e169, i170, h⟩ := h
                    refine v_sld hX hS0 dL_law_605 e169 i170 ?_
                    refine v_aload_n hX dL_law_606 0 rfl rfl ?_
                    refine v_iload_n hX dL_law_607 3 rfl rfl ?_
                    refine v_iconst (v := 5) hX dL_law_608 (by decide) ?_
                    refine v_iadd hX dL_law_609 ?_
                    obtain ⟨e171, i172, h⟩ := h
                    refine v_sld hX hS0 dL_law_610 e171 i172 ?_
                    obtain ⟨k173, h⟩ := h
                    refine v_callVi0 hX dL_law_611 c_RL_46 cV_X12_live (ci := 13) (T := TX12) (N := 115) rfl (by exact k173) [pI _, pI _, pI _, pI _, pI _] rfl rfl (Nat.le_of_ble_eq_true rfl) (by decide) (by decide)  (m_X12_live h) (fun p175 s174 h => ?_)
                    refine v_icmp_eq (tgt := 2612) hX dL_law_614 (by decide) (fun c176 => ?_) (fun c176 => ?_)
                    · have h := h_T c176 h
                      refine v_pick [0, 1, 2, 3] rfl ?_
                      exact b_L_law_2612 hS0 hX hE hK18 _ h
                    · have h := h_E c176 h
                      refine v_iconst (v := 0) hX dL_law_617 (by decide) ?_
                      exact h.elim
                  · have h := h_E c145 h
                    by_cases c177 : q1173 = (7 : Int32)
                    · have h := h_T c177 h
                      refine v_tabIn (tgt := 619) hX dL_law_33 (by rw [c177]; decide) (by rw [c177]; decide) (by rw [c177]; rfl) (by decide) ?_
                      refine v_aload_n hX dL_law_619 1 rfl rfl ?_
                      refine v_aload_n hX dL_law_620 0 rfl rfl ?_
                      refine v_iload_n hX dL_law_621 3 rfl rfl ?_
                      refine v_iconst (v := 1) hX dL_law_622 (by decide) ?_
                      refine v_iadd hX dL_law_623 ?_
                      obtain ⟨e178, i179, h⟩ := h
                      refine v_sld hX hS0 dL_law_624 e178 i179 ?_
                      refine v_aload_n hX dL_law_625 0 rfl rfl ?_
                      refine v_iload_n hX dL_law_626 3 rfl rfl ?_
                      refine v_iconst (v := 2) hX dL_law_627 (by decide) ?_
                      refine v_iadd hX dL_law_628 ?_
                      obtain ⟨e180, i181, h⟩ := h
                      refine v_sld hX hS0 dL_law_629 e180 i181 ?_
                      refine v_aload_n hX dL_law_630 0 rfl rfl ?_
                      refine v_iload_n hX dL_law_631 3 rfl rfl ?_
                      refine v_iconst (v := 3) hX dL_law_632 (by decide) ?_
                      refine v_iadd hX dL_law_633 ?_
                      obtain ⟨e182, i183, h⟩ := h
                      refine v_sld hX hS0 dL_law_634 e182 i183 ?_
                      obtain ⟨k184, h⟩ := h
                      obtain ⟨mc187, ms188, b189, b190, h⟩ := h
                      refine v_callVi hX dL_law_635 c_RL_47 cV_X11_cut (ci := 12) (T := TX11) (N := 19) rfl (by exact k184) [pI _, pI _, pI _] rfl rfl (Nat.le_of_ble_eq_true rfl) (by decide) (by decide) b189 b190 (m_X11_cut h) (fun p186 s185 h => ?_)
                      refine v_aload_n hX dL_law_638 2 rfl rfl ?_
                      refine v_aload_n hX dL_law_639 0 rfl rfl ?_
                      refine v_iload_n hX dL_law_640 3 rfl rfl ?_
                      refine v_iconst (v := 1) hX dL_law_641 (by decide) ?_
                      refine v_iadd hX dL_law_642 ?_
                      obtain ⟨e191, i192, h⟩ := h
                      refine v_sld hX hS0 dL_law_643 e191 i192 ?_
                      refine v_aload_n hX dL_law_644 0 rfl rfl ?_
                      refine v_iload_n hX dL_law_645 3 rfl rfl ?_
                      refine v_iconst (v := 2) hX dL_law_646 (by decide) ?_
                      refine v_iadd hX dL_law_647 ?_
                      obtain ⟨e193, i194, h⟩ := h
                      refine v_sld hX hS0 dL_law_648 e193 i194 ?_
                      refine v_aload_n hX dL_law_649 0 rfl rfl ?_
                      refine v_iload_n hX dL_law_650 3 rfl rfl ?_
                      refine v_iconst (v := 3) hX dL_law_651 (by decide) ?_
                      refine v_iadd hX dL_law_652 ?_
                      obtain ⟨e195, i196, h⟩ := h
                      refine v_sld hX hS0 dL_law_653 e195 i196 ?_
                      obtain ⟨k197, h⟩ := h
                      refine v_callVi0 hX dL_law_654 c_RL_51 cV_X12_cut (ci := 13) (T := TX12) (N := 115) rfl (by exact k197) [pI _, pI _, pI _] rfl rfl (Nat.le_of_ble_eq_true rfl) (by decide) (by decide)  (m_X12_cut h) (fun p199 s198 h => ?_)
                      refine v_icmp_eq (tgt := 2612) hX dL_law_657 (by decide) (fun c200 => ?_) (fun c200 => ?_)
                      · have h := h_T c200 h
                        refine v_pick [0, 1, 2, 3] rfl ?_
                        exact b_L_law_2612 hS0 hX hE hK18 _ h
                      · have h := h_E c200 h
                        refine v_iconst (v := 0) hX dL_law_660 (by decide) ?_
                        exact h.elim
                    · have h := h_E c177 h
                      by_cases c201 : q1173 = (8 : Int32)
                      · have h := h_T c201 h
                        refine v_tabIn (tgt := 662) hX dL_law_33 (by rw [c201]; decide) (by rw [c201]; decide) (by rw [c201]; rfl) (by decide) ?_
                        refine v_aload_n hX dL_law_662 1 rfl rfl ?_
                        refine v_aload_n hX dL_law_663 0 rfl rfl ?_
                        refine v_iload_n hX dL_law_664 3 rfl rfl ?_
                        refine v_iconst (v := 1) hX dL_law_665 (by decide) ?_
                        refine v_iadd hX dL_law_666 ?_
                        obtain ⟨e202, i203, h⟩ := h
                        refine v_sld hX hS0 dL_law_667 e202 i203 ?_
                        refine v_aload_n hX dL_law_668 0 rfl rfl ?_
                        refine v_iload_n hX dL_law_669 3 rfl rfl ?_
                        refine v_iconst (v := 2) hX dL_law_670 (by decide) ?_
                        refine v_iadd hX dL_law_671 ?_
                        obtain ⟨e204, i205, h⟩ := h
                        refine v_sld hX hS0 dL_law_672 e204 i205 ?_
                        refine v_aload_n hX dL_law_673 0 rfl rfl ?_
                        refine v_iload_n hX dL_law_674 3 rfl rfl ?_
                        refine v_iconst (v := 3) hX dL_law_675 (by decide) ?_
                        refine v_iadd hX dL_law_676 ?_
                        obtain ⟨e206, i207, h⟩ := h
                        refine v_sld hX hS0 dL_law_677 e206 i207 ?_
                        refine v_aload_n hX dL_law_678 0 rfl rfl ?_
                        refine v_iload_n hX dL_law_679 3 rfl rfl ?_
                        refine v_iconst (v := 4) hX dL_law_680 (by decide) ?_
                        refine v_iadd hX dL_law_681 ?_
                        obtain ⟨e208, i209, h⟩ := h
                        refine v_sld hX hS0 dL_law_682 e208 i209 ?_
                        obtain ⟨k210, h⟩ := h
                        obtain ⟨mc213, ms214, b215, b216, h⟩ := h
                        refine v_callVi hX dL_law_683 c_RL_52 cV_X11_move (ci := 12) (T := TX11) (N := 19) rfl (by exact k210) [pI _, pI _, pI _, pI _] rfl rfl (Nat.le_of_ble_eq_true rfl) (by decide) (by decide) b215 b216 (m_X11_move h) (fun p212 s211 h => ?_)
                        refine v_aload_n hX dL_law_686 2 rfl rfl ?_
                        refine v_aload_n hX dL_law_687 0 rfl rfl ?_
                        refine v_iload_n hX dL_law_688 3 rfl rfl ?_
                        refine v_iconst (v := 1) hX dL_law_689 (by decide) ?_
                        refine v_iadd hX dL_law_690 ?_
                        obtain ⟨e217, i218, h⟩ := h
                        refine v_sld hX hS0 dL_law_691 e217 i218 ?_
                        refine v_aload_n hX dL_law_692 0 rfl rfl ?_
                        refine v_iload_n hX dL_law_693 3 rfl rfl ?_
                        refine v_iconst (v := 2) hX dL_law_694 (by decide) ?_
                        refine v_iadd hX dL_law_695 ?_
                        obtain ⟨e219, i220, h⟩ := h
                        refine v_sld hX hS0 dL_law_696 e219 i220 ?_
                        refine v_aload_n hX dL_law_697 0 rfl rfl ?_
                        refine v_iload_n hX dL_law_698 3 rfl rfl ?_
                        refine v_iconst (v := 3) hX dL_law_699 (by decide) ?_
                        refine v_iadd hX dL_law_700 ?_
                        obtain ⟨e221, i222, h⟩ := h
                        refine v_sld hX hS0 dL_law_701 e221 i222 ?_
                        refine v_aload_n hX dL_law_702 0 rfl rfl ?_
                        refine v_iload_n hX dL_law_703 3 rfl rfl ?_
                        refine v_iconst (v := 4) hX dL_law_704 (by decide) ?_
                        refine v_iadd hX dL_law_705 ?_
                        obtain ⟨e223, i224, h⟩ := h
                        refine v_sld hX hS0 dL_law_706 e223 i224 ?_
                        obtain ⟨k225, h⟩ := h
                        refine v_callVi0 hX dL_law_707 c_RL_55 cV_X12_move (ci := 13) (T := TX12) (N := 115) rfl (by exact k225) [pI _, pI _, pI _, pI _] rfl rfl (Nat.le_of_ble_eq_true rfl) (by decide) (by decide)  (m_X12_move h) (fun p227 s226 h => ?_)
                        refine v_icmp_eq (tgt := 2612) hX dL_law_710 (by decide) (fun c228 => ?_) (fun c228 => ?_)
                        · have h := h_T c228 h
                          refine v_pick [0, 1, 2, 3] rfl ?_
                          exact b_L_law_2612 hS0 hX hE hK18 _ h
                        · have h := h_E c228 h
                          refine v_iconst (v := 0) hX dL_law_713 (by decide) ?_
                          exact h.elim
                      · have h := h_E c201 h
                        by_cases c229 : q1173 = (9 : Int32)
                        · have h := h_T c229 h
                          refine v_tabIn (tgt := 715) hX dL_law_33 (by rw [c229]; decide) (by rw [c229]; decide) (by rw [c229]; rfl) (by decide) ?_
                          refine v_aload_n hX dL_law_715 1 rfl rfl ?_
                          refine v_aload_n hX dL_law_716 0 rfl rfl ?_
                          refine v_iload_n hX dL_law_717 3 rfl rfl ?_
                          refine v_iconst (v := 1) hX dL_law_718 (by decide) ?_
                          refine v_iadd hX dL_law_719 ?_
                          obtain ⟨e230, i231, h⟩ := h
                          refine v_sld hX hS0 dL_law_720 e230 i231 ?_
                          refine v_aload_n hX dL_law_721 0 rfl rfl ?_
                          refine v_iload_n hX dL_law_722 3 rfl rfl ?_
                          refine v_iconst (v := 2) hX dL_law_723 (by decide) ?_
                          refine v_iadd hX dL_law_724 ?_
                          obtain ⟨e232, i233, h⟩ := h
                          refine v_sld hX hS0 dL_law_725 e232 i233 ?_
                          obtain ⟨k234, h⟩ := h
                          obtain ⟨mc237, ms238, b239, b240, h⟩ := h
                          refine v_callVi hX dL_law_726 c_RL_56 cV_X11_again (ci := 12) (T := TX11) (N := 19) rfl (by exact k234) [pI _, pI _] rfl rfl (Nat.le_of_ble_eq_true rfl) (by decide) (by decide) b239 b240 (m_X11_again h) (fun p236 s235 h => ?_)
                          refine v_aload_n hX dL_law_729 2 rfl rfl ?_
                          refine v_aload_n hX dL_law_730 0 rfl rfl ?_
                          refine v_iload_n hX dL_law_731 3 rfl rfl ?_
                          refine v_iconst (v := 1) hX dL_law_732 (by decide) ?_
                          refine v_iadd hX dL_law_733 ?_
                          obtain ⟨e241, i242, h⟩ := h
                          refine v_sld hX hS0 dL_law_734 e241 i242 ?_
                          refine v_aload_n hX dL_law_735 0 rfl rfl ?_
                          refine v_iload_n hX dL_law_736 3 rfl rfl ?_
                          refine v_iconst (v := 2) hX dL_law_737 (by decide) ?_
                          refine v_iadd hX dL_law_738 ?_
                          obtain ⟨e243, i244, h⟩ := h
                          refine v_sld hX hS0 dL_law_739 e243 i244 ?_
                          obtain ⟨k245, h⟩ := h
                          refine v_callVi0 hX dL_law_740 c_RL_59 cV_X12_again (ci := 13) (T := TX12) (N := 115) rfl (by exact k245) [pI _, pI _] rfl rfl (Nat.le_of_ble_eq_true rfl) (by decide) (by decide)  (m_X12_again h) (fun p247 s246 h => ?_)
                          refine v_icmp_eq (tgt := 2612) hX dL_law_743 (by decide) (fun c248 => ?_) (fun c248 => ?_)
                          · have h := h_T c248 h
                            refine v_pick [0, 1, 2, 3] rfl ?_
                            exact b_L_law_2612 hS0 hX hE hK18 _ h
                          · have h := h_E c248 h
                            refine v_iconst (v := 0) hX dL_law_746 (by decide) ?_
                            exact h.elim
                        · have h := h_E c229 h
                          by_cases c249 : q1173 = (10 : Int32)
                          · have h := h_T c249 h
                            refine v_tabIn (tgt := 748) hX dL_law_33 (by rw [c249]; decide) (by rw [c249]; decide) (by rw [c249]; rfl) (by decide) ?_
                            refine v_aload_n hX dL_law_748 1 rfl rfl ?_
                            refine v_aload_n hX dL_law_749 0 rfl rfl ?_
                            refine v_iload_n hX dL_law_750 3 rfl rfl ?_
                            refine v_iconst (v := 1) hX dL_law_751 (by decide) ?_
                            refine v_iadd hX dL_law_752 ?_
                            obtain ⟨e250, i251, h⟩ := h
                            refine v_sld hX hS0 dL_law_753 e250 i251 ?_
                            refine v_aload_n hX dL_law_754 0 rfl rfl ?_
                            refine v_iload_n hX dL_law_755 3 rfl rfl ?_
                            refine v_iconst (v := 2) hX dL_law_756 (by decide) ?_
                            refine v_iadd hX dL_law_757 ?_
                            obtain ⟨e252, i253, h⟩ := h
                            refine v_sld hX hS0 dL_law_758 e252 i253 ?_
                            obtain ⟨k254, h⟩ := h
                            obtain ⟨mc257, ms258, b259, b260, h⟩ := h
                            refine v_callVi hX dL_law_759 c_RL_60 cV_X11_length (ci := 12) (T := TX11) (N := 19) rfl (by exact k254) [pI _, pI _] rfl rfl (Nat.le_of_ble_eq_true rfl) (by decide) (by decide) b259 b260 (m_X11_length h) (fun p256 s255 h => ?_)
                            refine v_aload_n hX dL_law_762 2 rfl rfl ?_
                            refine v_aload_n hX dL_law_763 0 rfl rfl ?_
                            refine v_iload_n hX dL_law_764 3 rfl rfl ?_
                            refine v_iconst (v := 1) hX dL_law_765 (by decide) ?_
                            refine v_iadd hX dL_law_766 ?_
                            obtain ⟨e261, i262, h⟩ := h
                            refine v_sld hX hS0 dL_law_767 e261 i262 ?_
                            refine v_aload_n hX dL_law_768 0 rfl rfl ?_
                            refine v_iload_n hX dL_law_769 3 rfl rfl ?_
                            refine v_iconst (v := 2) hX dL_law_770 (by decide) ?_
                            refine v_iadd hX dL_law_771 ?_
                            obtain ⟨e263, i264, h⟩ := h
                            refine v_sld hX hS0 dL_law_772 e263 i264 ?_
                            obtain ⟨k265, h⟩ := h
                            refine v_callVi0 hX dL_law_773 c_RL_63 cV_X12_length (ci := 13) (T := TX12) (N := 115) rfl (by exact k265) [pI _, pI _] rfl rfl (Nat.le_of_ble_eq_true rfl) (by decide) (by decide)  (m_X12_length h) (fun p267 s266 h => ?_)
                            refine v_icmp_eq (tgt := 2612) hX dL_law_776 (by decide) (fun c268 => ?_) (fun c268 => ?_)
                            · have h := h_T c268 h
                              refine v_pick [0, 1, 2, 3] rfl ?_
                              exact b_L_law_2612 hS0 hX hE hK18 _ h
                            · have h := h_E c268 h
                              refine v_iconst (v := 0) hX dL_law_779 (by decide) ?_
                              exact h.elim
                          · have h := h_E c249 h
                            by_cases c269 : q1173 = (11 : Int32)
                            · have h := h_T c269 h
                              refine v_tabIn (tgt := 781) hX dL_law_33 (by rw [c269]; decide) (by rw [c269]; decide) (by rw [c269]; rfl) (by decide) ?_
                              refine v_aload_n hX dL_law_781 1 rfl rfl ?_
                              refine v_aload_n hX dL_law_782 0 rfl rfl ?_
                              refine v_iload_n hX dL_law_783 3 rfl rfl ?_
                              refine v_iconst (v := 1) hX dL_law_784 (by decide) ?_
                              refine v_iadd hX dL_law_785 ?_
                              obtain ⟨e270, i271, h⟩ := h
                              refine v_sld hX hS0 dL_law_786 e270 i271 ?_
                              refine v_aload_n hX dL_law_787 0 rfl rfl ?_
                              refine v_iload_n hX dL_law_788 3 rfl rfl ?_
                              refine v_iconst (v := 2) hX dL_law_789 (by decide) ?_
                              refine v_iadd hX dL_law_790 ?_
                              obtain ⟨e272, i273, h⟩ := h
                              refine v_sld hX hS0 dL_law_791 e272 i273 ?_
                              refine v_aload_n hX dL_law_792 0 rfl rfl ?_
                              refine v_iload_n hX dL_law_793 3 rfl rfl ?_
                              refine v_iconst (v := 3) hX dL_law_794 (by decide) ?_
                              refine v_iadd hX dL_law_795 ?_
                              obtain ⟨e274, i275, h⟩ := h
                              refine v_sld hX hS0 dL_law_796 e274 i275 ?_
                              obtain ⟨k276, h⟩ := h
                              obtain ⟨mc279, ms280, b281, b282, h⟩ := h
                              refine v_callVi hX dL_law_797 c_RL_64 cV_X11_shown (ci := 12) (T := TX11) (N := 19) rfl (by exact k276) [pI _, pI _, pI _] rfl rfl (Nat.le_of_ble_eq_true rfl) (by decide) (by decide) b281 b282 (m_X11_shown h) (fun p278 s277 h => ?_)
                              refine v_aload_n hX dL_law_800 2 rfl rfl ?_
                              refine v_aload_n hX dL_law_801 0 rfl rfl ?_
                              refine v_iload_n hX dL_law_802 3 rfl rfl ?_
                              refine v_iconst (v := 1) hX dL_law_803 (by decide) ?_
                              refine v_iadd hX dL_law_804 ?_
                              obtain ⟨e283, i284, h⟩ := h
                              refine v_sld hX hS0 dL_law_805 e283 i284 ?_
                              refine v_aload_n hX dL_law_806 0 rfl rfl ?_
                              refine v_iload_n hX dL_law_807 3 rfl rfl ?_
                              refine v_iconst (v := 2) hX dL_law_808 (by decide) ?_
                              refine v_iadd hX dL_law_809 ?_
                              obtain ⟨e285, i286, h⟩ := h
                              refine v_sld hX hS0 dL_law_810 e285 i286 ?_
                              refine v_aload_n hX dL_law_811 0 rfl rfl ?_
                              refine v_iload_n hX dL_law_812 3 rfl rfl ?_
                              refine v_iconst (v := 3) hX dL_law_813 (by decide) ?_
                              refine v_iadd hX dL_law_814 ?_
                              obtain ⟨e287, i288, h⟩ := h
                              refine v_sld hX hS0 dL_law_815 e287 i288 ?_
                              obtain ⟨k289, h⟩ := h
                              refine v_callVi0 hX dL_law_816 c_RL_67 cV_X12_shown (ci := 13) (T := TX12) (N := 115) rfl (by exact k289) [pI _, pI _, pI _] rfl rfl (Nat.le_of_ble_eq_true rfl) (by decide) (by decide)  (m_X12_shown h) (fun p291 s290 h => ?_)
                              refine v_icmp_eq (tgt := 2612) hX dL_law_819 (by decide) (fun c292 => ?_) (fun c292 => ?_)
                              · have h := h_T c292 h
                                refine v_pick [0, 1, 2, 3] rfl ?_
                                exact b_L_law_2612 hS0 hX hE hK18 _ h
                              · have h := h_E c292 h
                                refine v_iconst (v := 0) hX dL_law_822 (by decide) ?_
                                exact h.elim
                            · have h := h_E c269 h
                              by_cases c293 : q1173 = (12 : Int32)
                              · have h := h_T c293 h
                                refine v_tabIn (tgt := 824) hX dL_law_33 (by rw [c293]; decide) (by rw [c293]; decide) (by rw [c293]; rfl) (by decide) ?_
                                refine v_aload_n hX dL_law_824 1 rfl rfl ?_
                                refine v_aload_n hX dL_law_825 0 rfl rfl ?_
                                refine v_iload_n hX dL_law_826 3 rfl rfl ?_
                                refine v_iconst (v := 1) hX dL_law_827 (by decide) ?_
                                refine v_iadd hX dL_law_828 ?_
                                obtain ⟨e294, i295, h⟩ := h
                                refine v_sld hX hS0 dL_law_829 e294 i295 ?_
                                obtain ⟨k296, h⟩ := h
                                refine v_callVi0 hX dL_law_830 c_RL_68 cV_X11_pieces (ci := 12) (T := TX11) (N := 19) rfl (by exact k296) [pI _] rfl rfl (Nat.le_of_ble_eq_true rfl) (by decide) (by decide)  (m_X11_pieces h) (fun p298 s297 h => ?_)
                                refine v_aload_n hX dL_law_833 2 rfl rfl ?_
                                refine v_aload_n hX dL_law_834 0 rfl rfl ?_
                                refine v_iload_n hX dL_law_835 3 rfl rfl ?_
                                refine v_iconst (v := 1) hX dL_law_836 (by decide) ?_
                                refine v_iadd hX dL_law_837 ?_
                                obtain ⟨e299, i300, h⟩ := h
                                refine v_sld hX hS0 dL_law_838 e299 i300 ?_
                                obtain ⟨k301, h⟩ := h
                                refine v_callVi0 hX dL_law_839 c_RL_71 cV_X12_pieces (ci := 13) (T := TX12) (N := 115) rfl (by exact k301) [pI _] rfl rfl (Nat.le_of_ble_eq_true rfl) (by decide) (by decide)  (m_X12_pieces h) (fun p303 s302 h => ?_)
                                refine v_icmp_eq (tgt := 2612) hX dL_law_842 (by decide) (fun c304 => ?_) (fun c304 => ?_)
                                · have h := h_T c304 h
                                  refine v_pick [0, 1, 2, 3] rfl ?_
                                  exact b_L_law_2612 hS0 hX hE hK18 _ h
                                · have h := h_E c304 h
                                  refine v_iconst (v := 0) hX dL_law_845 (by decide) ?_
                                  exact h.elim
                              · have h := h_E c293 h
                                by_cases c305 : q1173 = (13 : Int32)
                                · have h := h_T c305 h
                                  refine v_tabIn (tgt := 847) hX dL_law_33 (by rw [c305]; decide) (by rw [c305]; decide) (by rw [c305]; rfl) (by decide) ?_
                                  refine v_aload_n hX dL_law_847 1 rfl rfl ?_
                                  refine v_aload_n hX dL_law_848 0 rfl rfl ?_
                                  refine v_iload_n hX dL_law_849 3 rfl rfl ?_
                                  refine v_iconst (v := 1) hX dL_law_850 (by decide) ?_
                                  refine v_iadd hX dL_law_851 ?_
                                  obtain ⟨e306, i307, h⟩ := h
                                  refine v_sld hX hS0 dL_law_852 e306 i307 ?_
                                  refine v_aload_n hX dL_law_853 0 rfl rfl ?_
                                  refine v_iload_n hX dL_law_854 3 rfl rfl ?_
                                  refine v_iconst (v := 2) hX dL_law_855 (by decide) ?_
                                  refine v_iadd hX dL_law_856 ?_
                                  obtain ⟨e308, i309, h⟩ := h
                                  refine v_sld hX hS0 dL_law_857 e308 i309 ?_
                                  refine v_aload_n hX dL_law_858 0 rfl rfl ?_
                                  refine v_iload_n hX dL_law_859 3 rfl rfl ?_
                                  refine v_iconst (v := 3) hX dL_law_860 (by decide) ?_
                                  refine v_iadd hX dL_law_861 ?_
                                  obtain ⟨e310, i311, h⟩ := h
                                  refine v_sld hX hS0 dL_law_862 e310 i311 ?_
                                  obtain ⟨k312, h⟩ := h
                                  refine v_callVi0 hX dL_law_863 c_RL_72 cV_X11_piece (ci := 12) (T := TX11) (N := 19) rfl (by exact k312) [pI _, pI _, pI _] rfl rfl (Nat.le_of_ble_eq_true rfl) (by decide) (by decide)  (m_X11_piece h) (fun p314 s313 h => ?_)
                                  refine v_aload_n hX dL_law_866 2 rfl rfl ?_
                                  refine v_aload_n hX dL_law_867 0 rfl rfl ?_
                                  refine v_iload_n hX dL_law_868 3 rfl rfl ?_
                                  refine v_iconst (v := 1) hX dL_law_869 (by decide) ?_
                                  refine v_iadd hX dL_law_870 ?_
                                  obtain ⟨e315, i316, h⟩ := h
                                  refine v_sld hX hS0 dL_law_871 e315 i316 ?_
                                  refine v_aload_n hX dL_law_872 0 rfl rfl ?_
                                  refine v_iload_n hX dL_law_873 3 rfl rfl ?_
                                  refine v_iconst (v := 2) hX dL_law_874 (by decide) ?_
                                  refine v_iadd hX dL_law_875 ?_
                                  obtain ⟨e317, i318, h⟩ := h
                                  refine v_sld hX hS0 dL_law_876 e317 i318 ?_
                                  refine v_aload_n hX dL_law_877 0 rfl rfl ?_
                                  refine v_iload_n hX dL_law_878 3 rfl rfl ?_
                                  refine v_iconst (v := 3) hX dL_law_879 (by decide) ?_
                                  refine v_iadd hX dL_law_880 ?_
                                  obtain ⟨e319, i320, h⟩ := h
                                  refine v_sld hX hS0 dL_law_881 e319 i320 ?_
                                  obtain ⟨k321, h⟩ := h
                                  refine v_callVi0 hX dL_law_882 c_RL_75 cV_X12_piece (ci := 13) (T := TX12) (N := 115) rfl (by exact k321) [pI _, pI _, pI _] rfl rfl (Nat.le_of_ble_eq_true rfl) (by decide) (by decide)  (m_X12_piece h) (fun p323 s322 h => ?_)
                                  refine v_icmp_eq (tgt := 2612) hX dL_law_885 (by decide) (fun c324 => ?_) (fun c324 => ?_)
                                  · have h := h_T c324 h
                                    refine v_pick [0, 1, 2, 3] rfl ?_
                                    exact b_L_law_2612 hS0 hX hE hK18 _ h
                                  · have h := h_E c324 h
                                    refine v_iconst (v := 0) hX dL_law_888 (by decide) ?_
                                    exact h.elim
                                · have h := h_E c305 h
                                  by_cases c325 : q1173 = (14 : Int32)
                                  · have h := h_T c325 h
                                    refine v_tabIn (tgt := 890) hX dL_law_33 (by rw [c325]; decide) (by rw [c325]; decide) (by rw [c325]; rfl) (by decide) ?_
                                    refine v_aload_n hX dL_law_890 1 rfl rfl ?_
                                    refine v_aload_n hX dL_law_891 0 rfl rfl ?_
                                    refine v_iload_n hX dL_law_892 3 rfl rfl ?_
                                    refine v_iconst (v := 1) hX dL_law_893 (by decide) ?_
                                    refine v_iadd hX dL_law_894 ?_
                                    obtain ⟨e326, i327, h⟩ := h
                                    refine v_sld hX hS0 dL_law_895 e326 i327 ?_
                                    refine v_aload_n hX dL_law_896 0 rfl rfl ?_
                                    refine v_iload_n hX dL_law_897 3 rfl rfl ?_
                                    refine v_iconst (v := 2) hX dL_law_898 (by decide) ?_
                                    refine v_iadd hX dL_law_899 ?_
                                    obtain ⟨e328, i329, h⟩ := h
                                    refine v_sld hX hS0 dL_law_900 e328 i329 ?_
                                    obtain ⟨k330, h⟩ := h
                                    refine v_callVi0 hX dL_law_901 c_RL_76 cV_X11_word (ci := 12) (T := TX11) (N := 19) rfl (by exact k330) [pI _, pI _] rfl rfl (Nat.le_of_ble_eq_true rfl) (by decide) (by decide)  (m_X11_word h) (fun p332 s331 h => ?_)
                                    refine v_aload_n hX dL_law_904 2 rfl rfl ?_
                                    refine v_aload_n hX dL_law_905 0 rfl rfl ?_
                                    refine v_iload_n hX dL_law_906 3 rfl rfl ?_
                                    refine v_iconst (v := 1) hX dL_law_907 (by decide) ?_
                                    refine v_iadd hX dL_law_908 ?_
                                    obtain ⟨e333, i334, h⟩ := h
                                    refine v_sld hX hS0 dL_law_909 e333 i334 ?_
                                    refine v_aload_n hX dL_law_910 0 rfl rfl ?_
                                    refine v_iload_n hX dL_law_911 3 rfl rfl ?_
                                    refine v_iconst (v := 2) hX dL_law_912 (by decide) ?_
                                    refine v_iadd hX dL_law_913 ?_
                                    obtain ⟨e335, i336, h⟩ := h
                                    refine v_sld hX hS0 dL_law_914 e335 i336 ?_
                                    obtain ⟨k337, h⟩ := h
                                    refine v_callVi0 hX dL_law_915 c_RL_79 cV_X12_word (ci := 13) (T := TX12) (N := 115) rfl (by exact k337) [pI _, pI _] rfl rfl (Nat.le_of_ble_eq_true rfl) (by decide) (by decide)  (m_X12_word h) (fun p339 s338 h => ?_)
                                    refine v_icmp_eq (tgt := 2612) hX dL_law_918 (by decide) (fun c340 => ?_) (fun c340 => ?_)
                                    · have h := h_T c340 h
                                      refine v_pick [0, 1, 2, 3] rfl ?_
                                      exact b_L_law_2612 hS0 hX hE hK18 _ h
                                    · have h := h_E c340 h
                                      refine v_iconst (v := 0) hX dL_law_921 (by decide) ?_
                                      exact h.elim
                                  · have h := h_E c325 h
                                    by_cases c341 : q1173 = (15 : Int32)
                                    · have h := h_T c341 h
                                      refine v_tabIn (tgt := 923) hX dL_law_33 (by rw [c341]; decide) (by rw [c341]; decide) (by rw [c341]; rfl) (by decide) ?_
                                      refine v_aload_n hX dL_law_923 1 rfl rfl ?_
                                      refine v_aload_n hX dL_law_924 0 rfl rfl ?_
                                      refine v_iload_n hX dL_law_925 3 rfl rfl ?_
                                      refine v_iconst (v := 1) hX dL_law_926 (by decide) ?_
                                      refine v_iadd hX dL_law_927 ?_
                                      obtain ⟨e342, i343, h⟩ := h
                                      refine v_sld hX hS0 dL_law_928 e342 i343 ?_
                                      obtain ⟨k344, h⟩ := h
                                      obtain ⟨mc347, ms348, b349, b350, h⟩ := h
                                      refine v_callVi hX dL_law_929 c_RL_80 cV_X11_version (ci := 12) (T := TX11) (N := 19) rfl (by exact k344) [pI _] rfl rfl (Nat.le_of_ble_eq_true rfl) (by decide) (by decide) b349 b350 (m_X11_version h) (fun p346 s345 h => ?_)
                                      refine v_aload_n hX dL_law_932 2 rfl rfl ?_
                                      refine v_aload_n hX dL_law_933 0 rfl rfl ?_
                                      refine v_iload_n hX dL_law_934 3 rfl rfl ?_
                                      refine v_iconst (v := 1) hX dL_law_935 (by decide) ?_
                                      refine v_iadd hX dL_law_936 ?_
                                      obtain ⟨e351, i352, h⟩ := h
                                      refine v_sld hX hS0 dL_law_937 e351 i352 ?_
                                      obtain ⟨k353, h⟩ := h
                                      refine v_callVi0 hX dL_law_938 c_RL_83 cV_X12_version (ci := 13) (T := TX12) (N := 115) rfl (by exact k353) [pI _] rfl rfl (Nat.le_of_ble_eq_true rfl) (by decide) (by decide)  (m_X12_version h) (fun p355 s354 h => ?_)
                                      refine v_icmp_eq (tgt := 2612) hX dL_law_941 (by decide) (fun c356 => ?_) (fun c356 => ?_)
                                      · have h := h_T c356 h
                                        refine v_pick [0, 1, 2, 3] rfl ?_
                                        exact b_L_law_2612 hS0 hX hE hK18 _ h
                                      · have h := h_E c356 h
                                        refine v_iconst (v := 0) hX dL_law_944 (by decide) ?_
                                        exact h.elim
                                    · have h := h_E c341 h
                                      by_cases c357 : q1173 = (16 : Int32)
                                      · have h := h_T c357 h
                                        refine v_tabIn (tgt := 946) hX dL_law_33 (by rw [c357]; decide) (by rw [c357]; decide) (by rw [c357]; rfl) (by decide) ?_
                                        refine v_aload_n hX dL_law_946 1 rfl rfl ?_
                                        refine v_aload_n hX dL_law_947 0 rfl rfl ?_
                                        refine v_iload_n hX dL_law_948 3 rfl rfl ?_
                                        refine v_iconst (v := 1) hX dL_law_949 (by decide) ?_
                                        refine v_iadd hX dL_law_950 ?_
                                        obtain ⟨e358, i359, h⟩ := h
                                        refine v_sld hX hS0 dL_law_951 e358 i359 ?_
                                        obtain ⟨k360, h⟩ := h
                                        refine v_callVi0 hX dL_law_952 c_RL_84 cV_X11_give (ci := 12) (T := TX11) (N := 19) rfl (by exact k360) [pI _] rfl rfl (Nat.le_of_ble_eq_true rfl) (by decide) (by decide)  (m_X11_give h) (fun p362 s361 h => ?_)
                                        refine v_aload_n hX dL_law_955 2 rfl rfl ?_
                                        refine v_aload_n hX dL_law_956 0 rfl rfl ?_
                                        refine v_iload_n hX dL_law_957 3 rfl rfl ?_
                                        refine v_iconst (v := 1) hX dL_law_958 (by decide) ?_
                                        refine v_iadd hX dL_law_959 ?_
                                        obtain ⟨e363, i364, h⟩ := h
                                        refine v_sld hX hS0 dL_law_960 e363 i364 ?_
                                        obtain ⟨k365, h⟩ := h
                                        refine v_callVi0 hX dL_law_961 c_RL_87 cV_X12_give (ci := 13) (T := TX12) (N := 115) rfl (by exact k365) [pI _] rfl rfl (Nat.le_of_ble_eq_true rfl) (by decide) (by decide)  (m_X12_give h) (fun p367 s366 h => ?_)
                                        refine v_icmp_eq (tgt := 2612) hX dL_law_964 (by decide) (fun c368 => ?_) (fun c368 => ?_)
                                        · have h := h_T c368 h
                                          refine v_pick [0, 1, 2, 3] rfl ?_
                                          exact b_L_law_2612 hS0 hX hE hK18 _ h
                                        · have h := h_E c368 h
                                          refine v_iconst (v := 0) hX dL_law_967 (by decide) ?_
                                          exact h.elim
                                      · have h := h_E c357 h
                                        by_cases c369 : q1173 = (17 : Int32)
                                        · have h := h_T c369 h
                                          refine v_tabIn (tgt := 969) hX dL_law_33 (by rw [c369]; decide) (by rw [c369]; decide) (by rw [c369]; rfl) (by decide) ?_
                                          refine v_aload_n hX dL_law_969 1 rfl rfl ?_
                                          refine v_aload_n hX dL_law_970 0 rfl rfl ?_
                                          refine v_iload_n hX dL_law_971 3 rfl rfl ?_
                                          refine v_iconst (v := 1) hX dL_law_972 (by decide) ?_
                                          refine v_iadd hX dL_law_973 ?_
                                          obtain ⟨e370, i371, h⟩ := h
                                          refine v_sld hX hS0 dL_law_974 e370 i371 ?_
                                          obtain ⟨k372, h⟩ := h
                                          refine v_callVi0 hX dL_law_975 c_RL_88 cV_X11_back (ci := 12) (T := TX11) (N := 19) rfl (by exact k372) [pI _] rfl rfl (Nat.le_of_ble_eq_true rfl) (by decide) (by decide)  (m_X11_back h) (fun p374 s373 h => ?_)
                                          refine v_aload_n hX dL_law_978 2 rfl rfl ?_
                                          refine v_aload_n hX dL_law_979 0 rfl rfl ?_
                                          refine v_iload_n hX dL_law_980 3 rfl rfl ?_
                                          refine v_iconst (v := 1) hX dL_law_981 (by decide) ?_
                                          refine v_iadd hX dL_law_982 ?_
                                          obtain ⟨e375, i376, h⟩ := h
                                          refine v_sld hX hS0 dL_law_983 e375 i376 ?_
                                          obtain ⟨k377, h⟩ := h
                                          refine v_callVi0 hX dL_law_984 c_RL_91 cV_X12_back (ci := 13) (T := TX12) (N := 115) rfl (by exact k377) [pI _] rfl rfl (Nat.le_of_ble_eq_true rfl) (by decide) (by decide)  (m_X12_back h) (fun p379 s378 h => ?_)
                                          refine v_icmp_eq (tgt := 2612) hX dL_law_987 (by decide) (fun c380 => ?_) (fun c380 => ?_)
                                          · have h := h_T c380 h
                                            refine v_pick [0, 1, 2, 3] rfl ?_
                                            exact b_L_law_2612 hS0 hX hE hK18 _ h
                                          · have h := h_E c380 h
                                            refine v_iconst (v := 0) hX dL_law_990 (by decide) ?_
                                            exact h.elim
                                        · have h := h_E c369 h
                                          by_cases c381 : q1173 = (18 : Int32)
                                          · have h := h_T c381 h
                                            refine v_tabIn (tgt := 992) hX dL_law_33 (by rw [c381]; decide) (by rw [c381]; decide) (by rw [c381]; rfl) (by decide) ?_
                                            refine v_aload_n hX dL_law_992 1 rfl rfl ?_
                                            refine v_aload_n hX dL_law_993 0 rfl rfl ?_
                                            refine v_iload_n hX dL_law_994 3 rfl rfl ?_
                                            refine v_iconst (v := 1) hX dL_law_995 (by decide) ?_
                                            refine v_iadd hX dL_law_996 ?_
                                            obtain ⟨e382, i383, h⟩ := h
                                            refine v_sld hX hS0 dL_law_997 e382 i383 ?_
                                            refine v_aload_n hX dL_law_998 0 rfl rfl ?_
                                            refine v_iload_n hX dL_law_999 3 rfl rfl ?_
                                            refine v_iconst (v := 2) hX dL_law_1000 (by decide) ?_
                                            refine v_iadd hX dL_law_1001 ?_
                                            obtain ⟨e384, i385, h⟩ := h
                                            refine v_sld hX hS0 dL_law_1002 e384 i385 ?_
                                            obtain ⟨k386, h⟩ := h
                                            refine v_callVi0 hX dL_law_1003 c_RL_92 cV_X11_about (ci := 12) (T := TX11) (N := 19) rfl (by exact k386) [pI _, pI _] rfl rfl (Nat.le_of_ble_eq_true rfl) (by decide) (by decide)  (m_X11_about h) (fun p388 s387 h => ?_)
                                            refine v_aload_n hX dL_law_1006 2 rfl rfl ?_
                                            refine v_aload_n hX dL_law_1007 0 rfl rfl ?_
                                            refine v_iload_n hX dL_law_1008 3 rfl rfl ?_
                                            refine v_iconst (v := 1) hX dL_law_1009 (by decide) ?_
                                            refine v_iadd hX dL_law_1010 ?_
                                            obtain ⟨e389, i390, h⟩ := h
                                            refine v_sld hX hS0 dL_law_1011 e389 i390 ?_
                                            refine v_aload_n hX dL_law_1012 0 rfl rfl ?_
                                            refine v_iload_n hX dL_law_1013 3 rfl rfl ?_
                                            refine v_iconst (v := 2) hX dL_law_1014 (by decide) ?_
                                            refine v_iadd hX dL_law_1015 ?_
                                            obtain ⟨e391, i392, h⟩ := h
                                            refine v_sld hX hS0 dL_law_1016 e391 i392 ?_
                                            obtain ⟨k393, h⟩ := h
                                            refine v_callVi0 hX dL_law_1017 c_RL_95 cV_X12_about (ci := 13) (T := TX12) (N := 115) rfl (by exact k393) [pI _, pI _] rfl rfl (Nat.le_of_ble_eq_true rfl) (by decide) (by decide)  (m_X12_about h) (fun p395 s394 h => ?_)
                                            refine v_icmp_eq (tgt := 2612) hX dL_law_1020 (by decide) (fun c396 => ?_) (fun c396 => ?_)
                                            · have h := h_T c396 h
                                              refine v_pick [0, 1, 2, 3] rfl ?_
                                              exact b_L_law_2612 hS0 hX hE hK18 _ h
                                            · have h := h_E c396 h
                                              refine v_iconst (v := 0) hX dL_law_1023 (by decide) ?_
                                              exact h.elim
                                          · have h := h_E c381 h
                                            by_cases c397 : q1173 = (19 : Int32)
                                            · have h := h_T c397 h
                                              refine v_tabIn (tgt := 1025) hX dL_law_33 (by rw [c397]; decide) (by rw [c397]; decide) (by rw [c397]; rfl) (by decide) ?_
                                              refine v_aload_n hX dL_law_1025 1 rfl rfl ?_
                                              refine v_aload_n hX dL_law_1026 0 rfl rfl ?_
                                              refine v_iload_n hX dL_law_1027 3 rfl rfl ?_
                                              refine v_iconst (v := 1) hX dL_law_1028 (by decide) ?_
                                              refine v_iadd hX dL_law_1029 ?_
                                              obtain ⟨e398, i399, h⟩ := h
                                              refine v_sld hX hS0 dL_law_1030 e398 i399 ?_
                                              refine v_aload_n hX dL_law_1031 0 rfl rfl ?_
                                              refine v_iload_n hX dL_law_1032 3 rfl rfl ?_
                                              refine v_iconst (v := 2) hX dL_law_1033 (by decide) ?_
                                              refine v_iadd hX dL_law_1034 ?_
                                              obtain ⟨e400, i401, h⟩ := h
                                              refine v_sld hX hS0 dL_law_1035 e400 i401 ?_
                                              obtain ⟨k402, h⟩ := h
                                              refine v_callVi0 hX dL_law_1036 c_RL_96 cV_X11_at (ci := 12) (T := TX11) (N := 19) rfl (by exact k402) [pI _, pI _] rfl rfl (Nat.le_of_ble_eq_true rfl) (by decide) (by decide)  (m_X11_at h) (fun p404 s403 h => ?_)
                                              refine v_aload_n hX dL_law_1039 2 rfl rfl ?_
                                              refine v_aload_n hX dL_law_1040 0 rfl rfl ?_
                                              refine v_iload_n hX dL_law_1041 3 rfl rfl ?_
                                              refine v_iconst (v := 1) hX dL_law_1042 (by decide) ?_
                                              refine v_iadd hX dL_law_1043 ?_
                                              obtain ⟨e405, i406, h⟩ := h
                                              refine v_sld hX hS0 dL_law_1044 e405 i406 ?_
                                              refine v_aload_n hX dL_law_1045 0 rfl rfl ?_
                                              refine v_iload_n hX dL_law_1046 3 rfl rfl ?_
                                              refine v_iconst (v := 2) hX dL_law_1047 (by decide) ?_
                                              refine v_iadd hX dL_law_1048 ?_
                                              obtain ⟨e407, i408, h⟩ := h
                                              refine v_sld hX hS0 dL_law_1049 e407 i408 ?_
                                              obtain ⟨k409, h⟩ := h
                                              refine v_callVi0 hX dL_law_1050 c_RL_99 cV_X12_at (ci := 13) (T := TX12) (N := 115) rfl (by exact k409) [pI _, pI _] rfl rfl (Nat.le_of_ble_eq_true rfl) (by decide) (by decide)  (m_X12_at h) (fun p411 s410 h => ?_)
                                              refine v_icmp_eq (tgt := 2612) hX dL_law_1053 (by decide) (fun c412 => ?_) (fun c412 => ?_)
                                              · have h := h_T c412 h
                                                refine v_pick [0, 1, 2, 3] rfl ?_
                                                exact b_L_law_2612 hS0 hX hE hK18 _ h
                                              · have h := h_E c412 h
                                                refine v_iconst (v := 0) hX dL_law_1056 (by decide) ?_
                                                exact h.elim
                                            · have h := h_E c397 h
                                              by_cases c413 : q1173 = (20 : Int32)
                                              · have h := h_T c413 h
                                                refine v_tabIn (tgt := 1058) hX dL_law_33 (by rw [c413]; decide) (by rw [c413]; decide) (by rw [c413]; rfl) (by decide) ?_
                                                refine v_aload_n hX dL_law_1058 1 rfl rfl ?_
                                                refine v_aload_n hX dL_law_1059 0 rfl rfl ?_
                                                refine v_iload_n hX dL_law_1060 3 rfl rfl ?_
                                                refine v_iconst (v := 1) hX dL_law_1061 (by decide) ?_
                                                refine v_iadd hX dL_law_1062 ?_
                                                obtain ⟨e414, i415, h⟩ := h
                                                refine v_sld hX hS0 dL_law_1063 e414 i415 ?_
                                                refine v_aload_n hX dL_law_1064 0 rfl rfl ?_
                                                refine v_iload_n hX dL_law_1065 3 rfl rfl ?_
                                                refine v_iconst (v := 2) hX dL_law_1066 (by decide) ?_
                                                refine v_iadd hX dL_law_1067 ?_
                                                obtain ⟨e416, i417, h⟩ := h
                                                refine v_sld hX hS0 dL_law_1068 e416 i417 ?_
                                                refine v_aload_n hX dL_law_1069 0 rfl rfl ?_
                                                refine v_iload_n hX dL_law_1070 3 rfl rfl ?_
                                                refine v_iconst (v := 3) hX dL_law_1071 (by decide) ?_
                                                refine v_iadd hX dL_law_1072 ?_
                                                obtain ⟨e418, i419, h⟩ := h
                                                refine v_sld hX hS0 dL_law_1073 e418 i419 ?_
                                                obtain ⟨k420, h⟩ := h
                                                refine v_callVi0 hX dL_law_1074 c_RL_100 cV_X11_compare (ci := 12) (T := TX11) (N := 19) rfl (by exact k420) [pI _, pI _, pI _] rfl rfl (Nat.le_of_ble_eq_true rfl) (by decide) (by decide)  (m_X11_compare h) (fun p422 s421 h => ?_)
                                                refine v_aload_n hX dL_law_1077 2 rfl rfl ?_
                                                refine v_aload_n hX dL_law_1078 0 rfl rfl ?_
                                                refine v_iload_n hX dL_law_1079 3 rfl rfl ?_
                                                refine v_iconst (v := 1) hX dL_law_1080 (by decide) ?_
                                                refine v_iadd hX dL_law_1081 ?_
                                                obtain ⟨e423, i424, h⟩ := h
                                                refine v_sld hX hS0 dL_law_1082 e423 i424 ?_
                                                refine v_aload_n hX dL_law_1083 0 rfl rfl ?_
                                                refine v_iload_n hX dL_law_1084 3 rfl rfl ?_
                                                refine v_iconst (v := 2) hX dL_law_1085 (by decide) ?_
                                                refine v_iadd hX dL_law_1086 ?_
                                                obtain ⟨e425, i426, h⟩ := h
                                                refine v_sld hX hS0 dL_law_1087 e425 i426 ?_
                                                refine v_aload_n hX dL_law_1088 0 rfl rfl ?_
                                                refine v_iload_n hX dL_law_1089 3 rfl rfl ?_
                                                refine v_iconst (v := 3) hX dL_law_1090 (by decide) ?_
                                                refine v_iadd hX dL_law_1091 ?_
                                                obtain ⟨e427, i428, h⟩ := h
                                                refine v_sld hX hS0 dL_law_1092 e427 i428 ?_
                                                obtain ⟨k429, h⟩ := h
                                                refine v_callVi0 hX dL_law_1093 c_RL_103 cV_X12_compare (ci := 13) (T := TX12) (N := 115) rfl (by exact k429) [pI _, pI _, pI _] rfl rfl (Nat.le_of_ble_eq_true rfl) (by decide) (by decide)  (m_X12_compare h) (fun p431 s430 h => ?_)
                                                refine v_icmp_eq (tgt := 2612) hX dL_law_1096 (by decide) (fun c432 => ?_) (fun c432 => ?_)
                                                · have h := h_T c432 h
                                                  refine v_pick [0, 1, 2, 3] rfl ?_
                                                  exact b_L_law_2612 hS0 hX hE hK18 _ h
                                                · have h := h_E c432 h
                                                  refine v_iconst (v := 0) hX dL_law_1099 (by decide) ?_
                                                  exact h.elim
                                              · have h := h_E c413 h
                                                by_cases c433 : q1173 = (21 : Int32)
                                                · have h := h_T c433 h
                                                  refine v_tabIn (tgt := 1101) hX dL_law_33 (by rw [c433]; decide) (by rw [c433]; decide) (by rw [c433]; rfl) (by decide) ?_
                                                  refine v_aload_n hX dL_law_1101 1 rfl rfl ?_
                                                  refine v_aload_n hX dL_law_1102 0 rfl rfl ?_
                                                  refine v_iload_n hX dL_law_1103 3 rfl rfl ?_
                                                  refine v_iconst (v := 1) hX dL_law_1104 (by decide) ?_
                                                  refine v_iadd hX dL_law_1105 ?_
                                                  obtain ⟨e434, i435, h⟩ := h
                                                  refine v_sld hX hS0 dL_law_1106 e434 i435 ?_
                                                  refine v_aload_n hX dL_law_1107 0 rfl rfl ?_
                                                  refine v_iload_n hX dL_law_1108 3 rfl rfl ?_
                                                  refine v_iconst (v := 2) hX dL_law_1109 (by decide) ?_
                                                  refine v_iadd hX dL_law_1110 ?_
                                                  obtain ⟨e436, i437, h⟩ := h
                                                  refine v_sld hX hS0 dL_law_1111 e436 i437 ?_
                                                  refine v_aload_n hX dL_law_1112 0 rfl rfl ?_
                                                  refine v_iload_n hX dL_law_1113 3 rfl rfl ?_
                                                  refine v_iconst (v := 3) hX dL_law_1114 (by decide) ?_
                                                  refine v_iadd hX dL_law_1115 ?_
                                                  obtain ⟨e438, i439, h⟩ := h
                                                  refine v_sld hX hS0 dL_law_1116 e438 i439 ?_
                                                  obtain ⟨k440, h⟩ := h
                                                  obtain ⟨mc443, ms444, b445, b446, h⟩ := h
                                                  refine v_callVi hX dL_law_1117 c_RL_104 cV_X11_join (ci := 12) (T := TX11) (N := 19) rfl (by exact k440) [pI _, pI _, pI _] rfl rfl (Nat.le_of_ble_eq_true rfl) (by decide) (by decide) b445 b446 (m_X11_join h) (fun p442 s441 h => ?_)
                                                  refine v_aload_n hX dL_law_1120 2 rfl rfl ?_
                                                  refine v_aload_n hX dL_law_1121 0 rfl rfl ?_
                                                  refine v_iload_n hX dL_law_1122 3 rfl rfl ?_
                                                  refine v_iconst (v := 1) hX dL_law_1123 (by decide) ?_
                                                  refine v_iadd hX dL_law_1124 ?_
                                                  obtain ⟨e447, i448, h⟩ := h
                                                  refine v_sld hX hS0 dL_law_1125 e447 i448 ?_
                                                  refine v_aload_n hX dL_law_1126 0 rfl rfl ?_
                                                  refine v_iload_n hX dL_law_1127 3 rfl rfl ?_
                                                  refine v_iconst (v := 2) hX dL_law_1128 (by decide) ?_
                                                  refine v_iadd hX dL_law_1129 ?_
                                                  obtain ⟨e449, i450, h⟩ := h
                                                  refine v_sld hX hS0 dL_law_1130 e449 i450 ?_
                                                  refine v_aload_n hX dL_law_1131 0 rfl rfl ?_
                                                  refine v_iload_n hX dL_law_1132 3 rfl rfl ?_
                                                  refine v_iconst (v := 3) hX dL_law_1133 (by decide) ?_
                                                  refine v_iadd hX dL_law_1134 ?_
                                                  obtain ⟨e451, i452, h⟩ := h
                                                  refine v_sld hX hS0 dL_law_1135 e451 i452 ?_
                                                  obtain ⟨k453, h⟩ := h
                                                  refine v_callVi0 hX dL_law_1136 c_RL_107 cV_X12_join (ci := 13) (T := TX12) (N := 115) rfl (by exact k453) [pI _, pI _, pI _] rfl rfl (Nat.le_of_ble_eq_true rfl) (by decide) (by decide)  (m_X12_join h) (fun p455 s454 h => ?_)
                                                  refine v_icmp_eq (tgt := 2612) hX dL_law_1139 (by decide) (fun c456 => ?_) (fun c456 => ?_)
                                                  · have h := h_T c456 h
                                                    refine v_pick [0, 1, 2, 3] rfl ?_
                                                    exact b_L_law_2612 hS0 hX hE hK18 _ h
                                                  · have h := h_E c456 h
                                                    refine v_iconst (v := 0) hX dL_law_1142 (by decide) ?_
                                                    exact h.elim
                                                · have h := h_E c433 h
                                                  by_cases c457 : q1173 = (22 : Int32)
                                                  · have h := h_T c457 h
                                                    refine v_tabIn (tgt := 1144) hX dL_law_33 (by rw [c457]; decide) (by rw [c457]; decide) (by rw [c457]; rfl) (by decide) ?_
                                                    refine v_aload_n hX dL_law_1144 1 rfl rfl ?_
                                                    refine v_aload_n hX dL_law_1145 0 rfl rfl ?_
                                                    refine v_iload_n hX dL_law_1146 3 rfl rfl ?_
                                                    refine v_iconst (v := 1) hX dL_law_1147 (by decide) ?_
                                                    refine v_iadd hX dL_law_1148 ?_
                                                    obtain ⟨e458, i459, h⟩ := h
                                                    refine v_sld hX hS0 dL_law_1149 e458 i459 ?_
                                                    refine v_aload_n hX dL_law_1150 0 rfl rfl ?_
                                                    refine v_iload_n hX dL_law_1151 3 rfl rfl ?_
                                                    refine v_iconst (v := 2) hX dL_law_1152 (by decide) ?_
                                                    refine v_iadd hX dL_law_1153 ?_
                                                    obtain ⟨e460, i461, h⟩ := h
                                                    refine v_sld hX hS0 dL_law_1154 e460 i461 ?_
                                                    obtain ⟨k462, h⟩ := h
                                                    refine v_callVi0 hX dL_law_1155 c_RL_108 cV_X11_clash (ci := 12) (T := TX11) (N := 19) rfl (by exact k462) [pI _, pI _] rfl rfl (Nat.le_of_ble_eq_true rfl) (by decide) (by decide)  (m_X11_clash h) (fun p464 s463 h => ?_)
                                                    refine v_aload_n hX dL_law_1158 2 rfl rfl ?_
                                                    refine v_aload_n hX dL_law_1159 0 rfl rfl ?_
                                                    refine v_iload_n hX dL_law_1160 3 rfl rfl ?_
                                                    refine v_iconst (v := 1) hX dL_law_1161 (by decide) ?_
                                                    refine v_iadd hX dL_law_1162 ?_
                                                    obtain ⟨e465, i466, h⟩ := h
                                                    refine v_sld hX hS0 dL_law_1163 e465 i466 ?_
                                                    refine v_aload_n hX dL_law_1164 0 rfl rfl ?_
                                                    refine v_iload_n hX dL_law_1165 3 rfl rfl ?_
                                                    refine v_iconst (v := 2) hX dL_law_1166 (by decide) ?_
                                                    refine v_iadd hX dL_law_1167 ?_
                                                    obtain ⟨e467, i468, h⟩ := h
                                                    refine v_sld hX hS0 dL_law_1168 e467 i468 ?_
                                                    obtain ⟨k469, h⟩ := h
                                                    refine v_callVi0 hX dL_law_1169 c_RL_111 cV_X12_clash (ci := 13) (T := TX12) (N := 115) rfl (by exact k469) [pI _, pI _] rfl rfl (Nat.le_of_ble_eq_true rfl) (by decide) (by decide)  (m_X12_clash h) (fun p471 s470 h => ?_)
                                                    refine v_icmp_eq (tgt := 2612) hX dL_law_1172 (by decide) (fun c472 => ?_) (fun c472 => ?_)
                                                    · have h := h_T c472 h
                                                      refine v_pick [0, 1, 2, 3] rfl ?_
                                                      exact b_L_law_2612 hS0 hX hE hK18 _ h
                                                    · have h := h_E c472 h
                                                      refine v_iconst (v := 0) hX dL_law_1175 (by decide) ?_
                                                      exact h.elim
                                                  · have h := h_E c457 h
                                                    by_cases c473 : q1173 = (23 : Int32)
                                                    · have h := h_T c473 h
                                                      refine v_tabIn (tgt := 1177) hX dL_law_33 (by rw [c473]; decide) (by rw [c473]; decide) (by rw [c473]; rfl) (by decide) ?_
                                                      refine v_aload_n hX dL_law_1177 1 rfl rfl ?_
                                                      refine v_aload_n hX dL_law_1178 0 rfl rfl ?_
                                                      refine v_iload_n hX dL_law_1179 3 rfl rfl ?_
                                                      refine v_iconst (v := 1) hX dL_law_1180 (by decide) ?_
                                                      refine v_iadd hX dL_law_1181 ?_
                                                      obtain ⟨e474, i475, h⟩ := h
                                                      refine v_sld hX hS0 dL_law_1182 e474 i475 ?_
                                                      refine v_aload_n hX dL_law_1183 0 rfl rfl ?_
                                                      refine v_iload_n hX dL_law_1184 3 rfl rfl ?_
                                                      refine v_iconst (v := 2) hX dL_law_1185 (by decide) ?_
                                                      refine v_iadd hX dL_law_1186 ?_
                                                      obtain ⟨e476, i477, h⟩ := h
                                                      refine v_sld hX hS0 dL_law_1187 e476 i477 ?_
                                                      obtain ⟨k478, h⟩ := h
                                                      obtain ⟨mc481, ms482, b483, b484, h⟩ := h
                                                      refine v_callVi hX dL_law_1188 c_RL_112 cV_X11_settle (ci := 12) (T := TX11) (N := 19) rfl (by exact k478) [pI _, pI _] rfl rfl (Nat.le_of_ble_eq_true rfl) (by decide) (by decide) b483 b484 (m_X11_settle h) (fun p480 s479 h => ?_)
                                                      refine v_aload_n hX dL_law_1191 2 rfl rfl ?_
                                                      refine v_aload_n hX dL_law_1192 0 rfl rfl ?_
                                                      refine v_iload_n hX dL_law_1193 3 rfl rfl ?_
                                                      refine v_iconst (v := 1) hX dL_law_1194 (by decide) ?_
                                                      refine v_iadd hX dL_law_1195 ?_
                                                      obtain ⟨e485, i486, h⟩ := h
                                                      refine v_sld hX hS0 dL_law_1196 e485 i486 ?_
                                                      refine v_aload_n hX dL_law_1197 0 rfl rfl ?_
                                                      refine v_iload_n hX dL_law_1198 3 rfl rfl ?_
                                                      refine v_iconst (v := 2) hX dL_law_1199 (by decide) ?_
                                                      refine v_iadd hX dL_law_1200 ?_
                                                      obtain ⟨e487, i488, h⟩ := h
                                                      refine v_sld hX hS0 dL_law_1201 e487 i488 ?_
                                                      obtain ⟨k489, h⟩ := h
                                                      refine v_callVi0 hX dL_law_1202 c_RL_115 cV_X12_settle (ci := 13) (T := TX12) (N := 115) rfl (by exact k489) [pI _, pI _] rfl rfl (Nat.le_of_ble_eq_true rfl) (by decide) (by decide)  (m_X12_settle h) (fun p491 s490 h => ?_)
                                                      refine v_icmp_eq (tgt := 2612) hX dL_law_1205 (by decide) (fun c492 => ?_) (fun c492 => ?_)
                                                      · have h := h_T c492 h
                                                        refine v_pick [0, 1, 2, 3] rfl ?_
                                                        exact b_L_law_2612 hS0 hX hE hK18 _ h
                                                      · have h := h_E c492 h
                                                        refine v_iconst (v := 0) hX dL_law_1208 (by decide) ?_
                                                        exact h.elim
                                                    · have h := h_E c473 h
                                                      by_cases c493 : q1173 = (24 : Int32)
                                                      · have h := h_T c493 h
                                                        refine v_tabIn (tgt := 1210) hX dL_law_33 (by rw [c493]; decide) (by rw [c493]; decide) (by rw [c493]; rfl) (by decide) ?_
                                                        refine v_aload_n hX dL_law_1210 1 rfl rfl ?_
                                                        refine v_aload_n hX dL_law_1211 0 rfl rfl ?_
                                                        refine v_iload_n hX dL_law_1212 3 rfl rfl ?_
                                                        refine v_iconst (v := 1) hX dL_law_1213 (by decide) ?_
                                                        refine v_iadd hX dL_law_1214 ?_
                                                        obtain ⟨e494, i495, h⟩ := h
                                                        refine v_sld hX hS0 dL_law_1215 e494 i495 ?_
                                                        refine v_aload_n hX dL_law_1216 0 rfl rfl ?_
                                                        refine v_iload_n hX dL_law_1217 3 rfl rfl ?_
                                                        refine v_iconst (v := 2) hX dL_law_1218 (by decide) ?_
                                                        refine v_iadd hX dL_law_1219 ?_
                                                        obtain ⟨e496, i497, h⟩ := h
                                                        refine v_sld hX hS0 dL_law_1220 e496 i497 ?_
                                                        refine v_aload_n hX dL_law_1221 0 rfl rfl ?_
                                                        refine v_iload_n hX dL_law_1222 3 rfl rfl ?_
                                                        refine v_iconst (v := 3) hX dL_law_1223 (by decide) ?_
                                                        refine v_iadd hX dL_law_1224 ?_
                                                        obtain ⟨e498, i499, h⟩ := h
                                                        refine v_sld hX hS0 dL_law_1225 e498 i499 ?_
                                                        refine v_aload_n hX dL_law_1226 0 rfl rfl ?_
                                                        refine v_iload_n hX dL_law_1227 3 rfl rfl ?_
                                                        refine v_iconst (v := 4) hX dL_law_1228 (by decide) ?_
                                                        refine v_iadd hX dL_law_1229 ?_
                                                        obtain ⟨e500, i501, h⟩ := h
                                                        refine v_sld hX hS0 dL_law_1230 e500 i501 ?_
                                                        refine v_aload_n hX dL_law_1231 0 rfl rfl ?_
                                                        refine v_iload_n hX dL_law_1232 3 rfl rfl ?_
                                                        refine v_iconst (v := 5) hX dL_law_1233 (by decide) ?_
                                                        refine v_iadd hX dL_law_1234 ?_
                                                        obtain ⟨e502, i503, h⟩ := h
                                                        refine v_sld hX hS0 dL_law_1235 e502 i503 ?_
                                                        obtain ⟨k504, h⟩ := h
                                                        obtain ⟨mc507, ms508, b509, b510, h⟩ := h
                                                        refine v_callVi hX dL_law_1236 c_RL_116 cV_X11_link (ci := 12) (T := TX11) (N := 19) rfl (by exact k504) [pI _, pI _, pI _, pI _, pI _] rfl rfl (Nat.le_of_ble_eq_true rfl) (by decide) (by decide) b509 b510 (m_X11_link h) (fun p506 s505 h => ?_)
                                                        refine v_aload_n hX dL_law_1239 2 rfl rfl ?_
                                                        refine v_aload_n hX dL_law_1240 0 rfl rfl ?_
                                                        refine v_iload_n hX dL_law_1241 3 rfl rfl ?_
                                                        refine v_iconst (v := 1) hX dL_law_1242 (by decide) ?_
                                                        refine v_iadd hX dL_law_1243 ?_
                                                        obtain ⟨e511, i512, h⟩ := h
                                                        refine v_sld hX hS0 dL_law_1244 e511 i512 ?_
                                                        refine v_aload_n hX dL_law_1245 0 rfl rfl ?_
                                                        refine v_iload_n hX dL_law_1246 3 rfl rfl ?_
                                                        refine v_iconst (v := 2) hX dL_law_1247 (by decide) ?_
                                                        refine v_iadd hX dL_law_1248 ?_
                                                        obtain ⟨e513, i514, h⟩ := h
                                                        refine v_sld hX hS0 dL_law_1249 e513 i514 ?_
                                                        refine v_aload_n hX dL_law_1250 0 rfl rfl ?_
                                                        refine v_iload_n hX dL_law_1251 3 rfl rfl ?_
                                                        refine v_iconst (v := 3) hX dL_law_1252 (by decide) ?_
                                                        refine v_iadd hX dL_law_1253 ?_
                                                        obtain ⟨e515, i516, h⟩ := h
                                                        refine v_sld hX hS0 dL_law_1254 e515 i516 ?_
                                                        refine v_aload_n hX dL_law_1255 0 rfl rfl ?_
                                                        refine v_iload_n hX dL_law_1256 3 rfl rfl ?_
                                                        refine v_iconst (v := 4) hX dL_law_1257 (by decide) ?_
                                                        refine v_iadd hX dL_law_1258 ?_
                                                        obtain ⟨e517, i518, h⟩ := h
                                                        refine v_sld hX hS0 dL_law_1259 e517 i518 ?_
                                                        refine v_aload_n hX dL_law_1260 0 rfl rfl ?_
                                                        refine v_iload_n hX dL_law_1261 3 rfl rfl ?_
                                                        refine v_iconst (v := 5) hX dL_law_1262 (by decide) ?_
                                                        refine v_iadd hX dL_law_1263 ?_
                                                        obtain ⟨e519, i520, h⟩ := h
                                                        refine v_sld hX hS0 dL_law_1264 e519 i520 ?_
                                                        obtain ⟨k521, h⟩ := h
                                                        refine v_callVi0 hX dL_law_1265 c_RL_119 cV_X12_link (ci := 13) (T := TX12) (N := 115) rfl (by exact k521) [pI _, pI _, pI _, pI _, pI _] rfl rfl (Nat.le_of_ble_eq_true rfl) (by decide) (by decide)  (m_X12_link h) (fun p523 s522 h => ?_)
                                                        refine v_icmp_eq (tgt := 2612) hX dL_law_1268 (by decide) (fun c524 => ?_) (fun c524 => ?_)
                                                        · have h := h_T c524 h
                                                          refine v_pick [0, 1, 2, 3] rfl ?_
                                                          exact b_L_law_2612 hS0 hX hE hK18 _ h
                                                        · have h := h_E c524 h
                                                          refine v_iconst (v := 0) hX dL_law_1271 (by decide) ?_
                                                          exact h.elim
                                                      · have h := h_E c493 h
                                                        by_cases c525 : q1173 = (25 : Int32)
                                                        · have h := h_T c525 h
                                                          refine v_tabIn (tgt := 1273) hX dL_law_33 (by rw [c525]; decide) (by rw [c525]; decide) (by rw [c525]; rfl) (by decide) ?_
                                                          refine v_aload_n hX dL_law_1273 1 rfl rfl ?_
                                                          refine v_aload_n hX dL_law_1274 0 rfl rfl ?_
                                                          refine v_iload_n hX dL_law_1275 3 rfl rfl ?_
                                                          refine v_iconst (v := 1) hX dL_law_1276 (by decide) ?_
                                                          refine v_iadd hX dL_law_1277 ?_
                                                          obtain ⟨e526, i527, h⟩ := h
                                                          refine v_sld hX hS0 dL_law_1278 e526 i527 ?_
                                                          refine v_aload_n hX dL_law_1279 0 rfl rfl ?_
                                                          refine v_iload_n hX dL_law_1280 3 rfl rfl ?_
                                                          refine v_iconst (v := 2) hX dL_law_1281 (by decide) ?_
                                                          refine v_iadd hX dL_law_1282 ?_
                                                          obtain ⟨e528, i529, h⟩ := h
                                                          refine v_sld hX hS0 dL_law_1283 e528 i529 ?_
                                                          obtain ⟨k530, h⟩ := h
                                                          refine v_callVi0 hX dL_law_1284 c_RL_120 cV_X11_ofLink (ci := 12) (T := TX11) (N := 19) rfl (by exact k530) [pI _, pI _] rfl rfl (Nat.le_of_ble_eq_true rfl) (by decide) (by decide)  (m_X11_ofLink h) (fun p532 s531 h => ?_)
                                                          refine v_aload_n hX dL_law_1287 2 rfl rfl ?_
                                                          refine v_aload_n hX dL_law_1288 0 rfl rfl ?_
                                                          refine v_iload_n hX dL_law_1289 3 rfl rfl ?_
                                                          refine v_iconst (v := 1) hX dL_law_1290 (by decide) ?_
                                                          refine v_iadd hX dL_law_1291 ?_
                                                          obtain ⟨e533, i534, h⟩ := h
                                                          refine v_sld hX hS0 dL_law_1292 e533 i534 ?_
                                                          refine v_aload_n hX dL_law_1293 0 rfl rfl ?_
                                                          refine v_iload_n hX dL_law_1294 3 rfl rfl ?_
                                                          refine v_iconst (v := 2) hX dL_law_1295 (by decide) ?_
                                                          refine v_iadd hX dL_law_1296 ?_
                                                          obtain ⟨e535, i536, h⟩ := h
                                                          refine v_sld hX hS0 dL_law_1297 e535 i536 ?_
                                                          obtain ⟨k537, h⟩ := h
                                                          refine v_callVi0 hX dL_law_1298 c_RL_123 cV_X12_ofLink (ci := 13) (T := TX12) (N := 115) rfl (by exact k537) [pI _, pI _] rfl rfl (Nat.le_of_ble_eq_true rfl) (by decide) (by decide)  (m_X12_ofLink h) (fun p539 s538 h => ?_)
                                                          refine v_icmp_eq (tgt := 2612) hX dL_law_1301 (by decide) (fun c540 => ?_) (fun c540 => ?_)
                                                          · have h := h_T c540 h
                                                            refine v_pick [0, 1, 2, 3] rfl ?_
                                                            exact b_L_law_2612 hS0 hX hE hK18 _ h
                                                          · have h := h_E c540 h
                                                            refine v_iconst (v := 0) hX dL_law_1304 (by decide) ?_
                                                            exact h.elim
                                                        · have h := h_E c525 h
                                                          by_cases c541 : q1173 = (26 : Int32)
                                                          · have h := h_T c541 h
                                                            refine v_tabIn (tgt := 1306) hX dL_law_33 (by rw [c541]; decide) (by rw [c541]; decide) (by rw [c541]; rfl) (by decide) ?_
                                                            refine v_aload_n hX dL_law_1306 1 rfl rfl ?_
                                                            refine v_aload_n hX dL_law_1307 0 rfl rfl ?_
                                                            refine v_iload_n hX dL_law_1308 3 rfl rfl ?_
                                                            refine v_iconst (v := 1) hX dL_law_1309 (by decide) ?_
                                                            refine v_iadd hX dL_law_1310 ?_
                                                            obtain ⟨e542, i543, h⟩ := h
                                                            refine v_sld hX hS0 dL_law_1311 e542 i543 ?_
                                                            refine v_aload_n hX dL_law_1312 0 rfl rfl ?_
                                                            refine v_iload_n hX dL_law_1313 3 rfl rfl ?_
                                                            refine v_iconst (v := 2) hX dL_law_1314 (by decide) ?_
                                                            refine v_iadd hX dL_law_1315 ?_
                                                            obtain ⟨e544, i545, h⟩ := h
                                                            refine v_sld hX hS0 dL_law_1316 e544 i545 ?_
                                                            refine v_aload_n hX dL_law_1317 0 rfl rfl ?_
                                                            refine v_iload_n hX dL_law_1318 3 rfl rfl ?_
                                                            refine v_iconst (v := 3) hX dL_law_1319 (by decide) ?_
                                                            refine v_iadd hX dL_law_1320 ?_
                                                            obtain ⟨e546, i547, h⟩ := h
                                                            refine v_sld hX hS0 dL_law_1321 e546 i547 ?_
                                                            obtain ⟨k548, h⟩ := h
                                                            refine v_callVi0 hX dL_law_1322 c_RL_124 cV_X11_ends (ci := 12) (T := TX11) (N := 19) rfl (by exact k548) [pI _, pI _, pI _] rfl rfl (Nat.le_of_ble_eq_true rfl) (by decide) (by decide)  (m_X11_ends h) (fun p550 s549 h => ?_)
                                                            refine v_aload_n hX dL_law_1325 2 rfl rfl ?_
                                                            refine v_aload_n hX dL_law_1326 0 rfl rfl ?_
                                                            refine v_iload_n hX dL_law_1327 3 rfl rfl ?_
                                                            refine v_iconst (v := 1) hX dL_law_1328 (by decide) ?_
                                                            refine v_iadd hX dL_law_1329 ?_
                                                            obtain ⟨e551, i552, h⟩ := h
                                                            refine v_sld hX hS0 dL_law_1330 e551 i552 ?_
                                                            refine v_aload_n hX dL_law_1331 0 rfl rfl ?_
                                                            refine v_iload_n hX dL_law_1332 3 rfl rfl ?_
                                                            refine v_iconst (v := 2) hX dL_law_1333 (by decide) ?_
                                                            refine v_iadd hX dL_law_1334 ?_
                                                            obtain ⟨e553, i554, h⟩ := h
                                                            refine v_sld hX hS0 dL_law_1335 e553 i554 ?_
                                                            refine v_aload_n hX dL_law_1336 0 rfl rfl ?_
                                                            refine v_iload_n hX dL_law_1337 3 rfl rfl ?_
                                                            refine v_iconst (v := 3) hX dL_law_1338 (by decide) ?_
                                                            refine v_iadd hX dL_law_1339 ?_
                                                            obtain ⟨e555, i556, h⟩ := h
                                                            refine v_sld hX hS0 dL_law_1340 e555 i556 ?_
                                                            obtain ⟨k557, h⟩ := h
                                                            refine v_callVi0 hX dL_law_1341 c_RL_127 cV_X12_ends (ci := 13) (T := TX12) (N := 115) rfl (by exact k557) [pI _, pI _, pI _] rfl rfl (Nat.le_of_ble_eq_true rfl) (by decide) (by decide)  (m_X12_ends h) (fun p559 s558 h => ?_)
                                                            refine v_icmp_eq (tgt := 2612) hX dL_law_1344 (by decide) (fun c560 => ?_) (fun c560 => ?_)
                                                            · have h := h_T c560 h
                                                              refine v_pick [0, 1, 2, 3] rfl ?_
                                                              exact b_L_law_2612 hS0 hX hE hK18 _ h
                                                            · have h := h_E c560 h
                                                              refine v_iconst (v := 0) hX dL_law_1347 (by decide) ?_
                                                              exact h.elim
                                                          · have h := h_E c541 h
                                                            by_cases c561 : q1173 = (27 : Int32)
                                                            · have h := h_T c561 h
                                                              refine v_tabIn (tgt := 1349) hX dL_law_33 (by rw [c561]; decide) (by rw [c561]; decide) (by rw [c561]; rfl) (by decide) ?_
                                                              refine v_aload_n hX dL_law_1349 1 rfl rfl ?_
                                                              refine v_aload_n hX dL_law_1350 0 rfl rfl ?_
                                                              refine v_iload_n hX dL_law_1351 3 rfl rfl ?_
                                                              refine v_iconst (v := 1) hX dL_law_1352 (by decide) ?_
                                                              refine v_iadd hX dL_law_1353 ?_
                                                              obtain ⟨e562, i563, h⟩ := h
                                                              refine v_sld hX hS0 dL_law_1354 e562 i563 ?_
                                                              refine v_aload_n hX dL_law_1355 0 rfl rfl ?_
                                                              refine v_iload_n hX dL_law_1356 3 rfl rfl ?_
                                                              refine v_iconst (v := 2) hX dL_law_1357 (by decide) ?_
                                                              refine v_iadd hX dL_law_1358 ?_
                                                              obtain ⟨e564, i565, h⟩ := h
                                                              refine v_sld hX hS0 dL_law_1359 e564 i565 ?_
                                                              refine v_aload_n hX dL_law_1360 0 rfl rfl ?_
                                                              refine v_iload_n hX dL_law_1361 3 rfl rfl ?_
                                                              refine v_iconst (v := 3) hX dL_law_1362 (by decide) ?_
                                                              refine v_iadd hX dL_law_1363 ?_
                                                              obtain ⟨e566, i567, h⟩ := h
                                                              refine v_sld hX hS0 dL_law_1364 e566 i567 ?_
                                                              refine v_aload_n hX dL_law_1365 0 rfl rfl ?_
                                                              refine v_iload_n hX dL_law_1366 3 rfl rfl ?_
                                                              refine v_iconst (v := 4) hX dL_law_1367 (by decide) ?_
                                                              refine v_iadd hX dL_law_1368 ?_
                                                              obtain ⟨e568, i569, h⟩ := h
                                                              refine v_sld hX hS0 dL_law_1369 e568 i569 ?_
                                                              refine v_aload_n hX dL_law_1370 0 rfl rfl ?_
                                                              refine v_iload_n hX dL_law_1371 3 rfl rfl ?_
                                                              refine v_iconst (v := 5) hX dL_law_1372 (by decide) ?_
                                                              refine v_iadd hX dL_law_1373 ?_
                                                              obtain ⟨e570, i571, h⟩ := h
                                                              refine v_sld hX hS0 dL_law_1374 e570 i571 ?_
                                                              obtain ⟨k572, h⟩ := h
                                                              refine v_callVi0 hX dL_law_1375 c_RL_128 cV_X11_part (ci := 12) (T := TX11) (N := 19) rfl (by exact k572) [pI _, pI _, pI _, pI _, pI _] rfl rfl (Nat.le_of_ble_eq_true rfl) (by decide) (by decide)  (m_X11_part h) (fun p574 s573 h => ?_)
                                                              refine v_aload_n hX dL_law_1378 2 rfl rfl ?_
                                                              refine v_aload_n hX dL_law_1379 0 rfl rfl ?_
                                                              refine v_iload_n hX dL_law_1380 3 rfl rfl ?_
                                                              refine v_iconst (v := 1) hX dL_law_1381 (by decide) ?_
                                                              refine v_iadd hX dL_law_1382 ?_
                                                              obtain ⟨e575, i576, h⟩ := h
                                                              refine v_sld hX hS0 dL_law_1383 e575 i576 ?_
                                                              refine v_aload_n hX dL_law_1384 0 rfl rfl ?_
                                                              refine v_iload_n hX dL_law_1385 3 rfl rfl ?_
                                                              refine v_iconst (v := 2) hX dL_law_1386 (by decide) ?_
                                                              refine v_iadd hX dL_law_1387 ?_
                                                              obtain ⟨e577, i578, h⟩ := h
                                                              refine v_sld hX hS0 dL_law_1388 e577 i578 ?_
                                                              refine v_aload_n hX dL_law_1389 0 rfl rfl ?_
                                                              refine v_iload_n hX dL_law_1390 3 rfl rfl ?_
                                                              refine v_iconst (v := 3) hX dL_law_1391 (by decide) ?_
                                                              refine v_iadd hX dL_law_1392 ?_
                                                              obtain ⟨e579, i580, h⟩ := h
                                                              refine v_sld hX hS0 dL_law_1393 e579 i580 ?_
                                                              refine v_aload_n hX dL_law_1394 0 rfl rfl ?_
                                                              refine v_iload_n hX dL_law_1395 3 rfl rfl ?_
                                                              refine v_iconst (v := 4) hX dL_law_1396 (by decide) ?_
                                                              refine v_iadd hX dL_law_1397 ?_
                                                              obtain ⟨e581, i582, h⟩ := h
                                                              refine v_sld hX hS0 dL_law_1398 e581 i582 ?_
                                                              refine v_aload_n hX dL_law_1399 0 rfl rfl ?_
                                                              refine v_iload_n hX dL_law_1400 3 rfl rfl ?_
                                                              refine v_iconst (v := 5) hX dL_law_1401 (by decide) ?_
                                                              refine v_iadd hX dL_law_1402 ?_
                                                              obtain ⟨e583, i584, h⟩ := h
                                                              refine v_sld hX hS0 dL_law_1403 e583 i584 ?_
                                                              obtain ⟨k585, h⟩ := h
                                                              refine v_callVi0 hX dL_law_1404 c_RL_131 cV_X12_part (ci := 13) (T := TX12) (N := 115) rfl (by exact k585) [pI _, pI _, pI _, pI _, pI _] rfl rfl (Nat.le_of_ble_eq_true rfl) (by decide) (by decide)  (m_X12_part h) (fun p587 s586 h => ?_)
                                                              refine v_icmp_eq (tgt := 2612) hX dL_law_1407 (by decide) (fun c588 => ?_) (fun c588 => ?_)
                                                              · have h := h_T c588 h
                                                                refine v_pick [0, 1, 2, 3] rfl ?_
                                                                exact b_L_law_2612 hS0 hX hE hK18 _ h
                                                              · have h := h_E c588 h
                                                                refine v_iconst (v := 0) hX dL_law_1410 (by decide) ?_
                                                                exact h.elim
                                                            · have h := h_E c561 h
                                                              by_cases c589 : q1173 = (28 : Int32)
                                                              · have h := h_T c589 h
                                                                refine v_tabIn (tgt := 1412) hX dL_law_33 (by rw [c589]; decide) (by rw [c589]; decide) (by rw [c589]; rfl) (by decide) ?_
                                                                refine v_aload_n hX dL_law_1412 1 rfl rfl ?_
                                                                refine v_aload_n hX dL_law_1413 0 rfl rfl ?_
                                                                refine v_iload_n hX dL_law_1414 3 rfl rfl ?_
                                                                refine v_iconst (v := 1) hX dL_law_1415 (by decide) ?_
                                                                refine v_iadd hX dL_law_1416 ?_
                                                                obtain ⟨e590, i591, h⟩ := h
                                                                refine v_sld hX hS0 dL_law_1417 e590 i591 ?_
                                                                refine v_aload_n hX dL_law_1418 0 rfl rfl ?_
                                                                refine v_iload_n hX dL_law_1419 3 rfl rfl ?_
                                                                refine v_iconst (v := 2) hX dL_law_1420 (by decide) ?_
                                                                refine v_iadd hX dL_law_1421 ?_
                                                                obtain ⟨e592, i593, h⟩ := h
                                                                refine v_sld hX hS0 dL_law_1422 e592 i593 ?_
                                                                refine v_aload_n hX dL_law_1423 0 rfl rfl ?_
                                                                refine v_iload_n hX dL_law_1424 3 rfl rfl ?_
                                                                refine v_iconst (v := 3) hX dL_law_1425 (by decide) ?_
                                                                refine v_iadd hX dL_law_1426 ?_
                                                                obtain ⟨e594, i595, h⟩ := h
                                                                refine v_sld hX hS0 dL_law_1427 e594 i595 ?_
                                                                refine v_aload_n hX dL_law_1428 0 rfl rfl ?_
                                                                refine v_iload_n hX dL_law_1429 3 rfl rfl ?_
                                                                refine v_iconst (v := 4) hX dL_law_1430 (by decide) ?_
                                                                refine v_iadd hX dL_law_1431 ?_
                                                                obtain ⟨e596, i597, h⟩ := h
                                                                refine v_sld hX hS0 dL_law_1432 e596 i597 ?_
                                                                refine v_aload_n hX dL_law_1433 0 rfl rfl ?_
                                                                refine v_iload_n hX dL_law_1434 3 rfl rfl ?_
                                                                refine v_iconst (v := 5) hX dL_law_1435 (by decide) ?_
                                                                refine v_iadd hX dL_law_1436 ?_
                                                                obtain ⟨e598, i599, h⟩ := h
                                                                refine v_sld hX hS0 dL_law_1437 e598 i599 ?_
                                                                obtain ⟨k600, h⟩ := h
                                                                obtain ⟨mc603, ms604, b605, b606, h⟩ := h
                                                                refine v_callVi hX dL_law_1438 c_RL_132 cV_X11_right (ci := 12) (T := TX11) (N := 19) rfl (by exact k600) [pI _, pI _, pI _, pI _, pI _] rfl rfl (Nat.le_of_ble_eq_true rfl) (by decide) (by decide) b605 b606 (m_X11_right h) (fun p602 s601 h => ?_)
                                                                refine v_aload_n hX dL_law_1441 2 rfl rfl ?_
                                                                refine v_aload_n hX dL_law_1442 0 rfl rfl ?_
                                                                refine v_iload_n hX dL_law_1443 3 rfl rfl ?_
                                                                refine v_iconst (v := 1) hX dL_law_1444 (by decide) ?_
                                                                refine v_iadd hX dL_law_1445 ?_
                                                                obtain ⟨e607, i608, h⟩ := h
                                                                refine v_sld hX hS0 dL_law_1446 e607 i608 ?_
                                                                refine v_aload_n hX dL_law_1447 0 rfl rfl ?_
                                                                refine v_iload_n hX dL_law_1448 3 rfl rfl ?_
                                                                refine v_iconst (v := 2) hX dL_law_1449 (by decide) ?_
                                                                refine v_iadd hX dL_law_1450 ?_
                                                                obtain ⟨e609, i610, h⟩ := h
                                                                refine v_sld hX hS0 dL_law_1451 e609 i610 ?_
                                                                refine v_aload_n hX dL_law_1452 0 rfl rfl ?_
                                                                refine v_iload_n hX dL_law_1453 3 rfl rfl ?_
                                                                refine v_iconst (v := 3) hX dL_law_1454 (by decide) ?_
                                                                refine v_iadd hX dL_law_1455 ?_
                                                                obtain ⟨e611, i612, h⟩ := h
                                                                refine v_sld hX hS0 dL_law_1456 e611 i612 ?_
                                                                refine v_aload_n hX dL_law_1457 0 rfl rfl ?_
                                                                refine v_iload_n hX dL_law_1458 3 rfl rfl ?_
                                                                refine v_iconst (v := 4) hX dL_law_1459 (by decide) ?_
                                                                refine v_iadd hX dL_law_1460 ?_
                                                                obtain ⟨e613, i614, h⟩ := h
                                                                refine v_sld hX hS0 dL_law_1461 e613 i614 ?_
                                                                refine v_aload_n hX dL_law_1462 0 rfl rfl ?_
                                                                refine v_iload_n hX dL_law_1463 3 rfl rfl ?_
                                                                refine v_iconst (v := 5) hX dL_law_1464 (by decide) ?_
                                                                refine v_iadd hX dL_law_1465 ?_
                                                                obtain ⟨e615, i616, h⟩ := h
                                                                refine v_sld hX hS0 dL_law_1466 e615 i616 ?_
                                                                obtain ⟨k617, h⟩ := h
                                                                refine v_callVi0 hX dL_law_1467 c_RL_135 cV_X12_right (ci := 13) (T := TX12) (N := 115) rfl (by exact k617) [pI _, pI _, pI _, pI _, pI _] rfl rfl (Nat.le_of_ble_eq_true rfl) (by decide) (by decide)  (m_X12_right h) (fun p619 s618 h => ?_)
                                                                refine v_icmp_eq (tgt := 2612) hX dL_law_1470 (by decide) (fun c620 => ?_) (fun c620 => ?_)
                                                                · have h := h_T c620 h
                                                                  refine v_pick [0, 1, 2, 3] rfl ?_
                                                                  exact b_L_law_2612 hS0 hX hE hK18 _ h
                                                                · have h := h_E c620 h
                                                                  refine v_iconst (v := 0) hX dL_law_1473 (by decide) ?_
                                                                  exact h.elim
                                                              · have h := h_E c589 h
                                                                by_cases c621 : q1173 = (29 : Int32)
                                                                · have h := h_T c621 h
                                                                  refine v_tabIn (tgt := 1475) hX dL_law_33 (by rw [c621]; decide) (by rw [c621]; decide) (by rw [c621]; rfl) (by decide) ?_
                                                                  refine v_aload_n hX dL_law_1475 1 rfl rfl ?_
                                                                  refine v_aload_n hX dL_law_1476 0 rfl rfl ?_
                                                                  refine v_iload_n hX dL_law_1477 3 rfl rfl ?_
                                                                  refine v_iconst (v := 1) hX dL_law_1478 (by decide) ?_
                                                                  refine v_iadd hX dL_law_1479 ?_
                                                                  obtain ⟨e622, i623, h⟩ := h
                                                                  refine v_sld hX hS0 dL_law_1480 e622 i623 ?_
                                                                  refine v_aload_n hX dL_law_1481 0 rfl rfl ?_
                                                                  refine v_iload_n hX dL_law_1482 3 rfl rfl ?_
                                                                  refine v_iconst (v := 2) hX dL_law_1483 (by decide) ?_
                                                                  refine v_iadd hX dL_law_1484 ?_
                                                                  obtain ⟨e624, i625, h⟩ := h
                                                                  refine v_sld hX hS0 dL_law_1485 e624 i625 ?_
                                                                  refine v_aload_n hX dL_law_1486 0 rfl rfl ?_
                                                                  refine v_iload_n hX dL_law_1487 3 rfl rfl ?_
                                                                  refine v_iconst (v := 3) hX dL_law_1488 (by decide) ?_
                                                                  refine v_iadd hX dL_law_1489 ?_
                                                                  obtain ⟨e626, i627, h⟩ := h
                                                                  refine v_sld hX hS0 dL_law_1490 e626 i627 ?_
                                                                  obtain ⟨k628, h⟩ := h
                                                                  obtain ⟨mc631, ms632, b633, b634, h⟩ := h
                                                                  refine v_callVi hX dL_law_1491 c_RL_136 cV_X11_lend (ci := 12) (T := TX11) (N := 19) rfl (by exact k628) [pI _, pI _, pI _] rfl rfl (Nat.le_of_ble_eq_true rfl) (by decide) (by decide) b633 b634 (m_X11_lend h) (fun p630 s629 h => ?_)
                                                                  refine v_aload_n hX dL_law_1494 2 rfl rfl ?_
                                                                  refine v_aload_n hX dL_law_1495 0 rfl rfl ?_
                                                                  refine v_iload_n hX dL_law_1496 3 rfl rfl ?_
                                                                  refine v_iconst (v := 1) hX dL_law_1497 (by decide) ?_
                                                                  refine v_iadd hX dL_law_1498 ?_
                                                                  obtain ⟨e635, i636, h⟩ := h
                                                                  refine v_sld hX hS0 dL_law_1499 e635 i636 ?_
                                                                  refine v_aload_n hX dL_law_1500 0 rfl rfl ?_
                                                                  refine v_iload_n hX dL_law_1501 3 rfl rfl ?_
                                                                  refine v_iconst (v := 2) hX dL_law_1502 (by decide) ?_
                                                                  refine v_iadd hX dL_law_1503 ?_
                                                                  obtain ⟨e637, i638, h⟩ := h
                                                                  refine v_sld hX hS0 dL_law_1504 e637 i638 ?_
                                                                  refine v_aload_n hX dL_law_1505 0 rfl rfl ?_
                                                                  refine v_iload_n hX dL_law_1506 3 rfl rfl ?_
                                                                  refine v_iconst (v := 3) hX dL_law_1507 (by decide) ?_
                                                                  refine v_iadd hX dL_law_1508 ?_
                                                                  obtain ⟨e639, i640, h⟩ := h
                                                                  refine v_sld hX hS0 dL_law_1509 e639 i640 ?_
                                                                  obtain ⟨k641, h⟩ := h
                                                                  refine v_callVi0 hX dL_law_1510 c_RL_139 cV_X12_lend (ci := 13) (T := TX12) (N := 115) rfl (by exact k641) [pI _, pI _, pI _] rfl rfl (Nat.le_of_ble_eq_true rfl) (by decide) (by decide)  (m_X12_lend h) (fun p643 s642 h => ?_)
                                                                  refine v_icmp_eq (tgt := 2612) hX dL_law_1513 (by decide) (fun c644 => ?_) (fun c644 => ?_)
                                                                  · have h := h_T c644 h
                                                                    refine v_pick [0, 1, 2, 3] rfl ?_
                                                                    exact b_L_law_2612 hS0 hX hE hK18 _ h
                                                                  · have h := h_E c644 h
                                                                    refine v_iconst (v := 0) hX dL_law_1516 (by decide) ?_
                                                                    exact h.elim
                                                                · have h := h_E c621 h
                                                                  by_cases c645 : q1173 = (30 : Int32)
                                                                  · have h := h_T c645 h
                                                                    refine v_tabIn (tgt := 1518) hX dL_law_33 (by rw [c645]; decide) (by rw [c645]; decide) (by rw [c645]; rfl) (by decide) ?_
                                                                    refine v_aload_n hX dL_law_1518 1 rfl rfl ?_
                                                                    refine v_aload_n hX dL_law_1519 0 rfl rfl ?_
                                                                    refine v_iload_n hX dL_law_1520 3 rfl rfl ?_
                                                                    refine v_iconst (v := 1) hX dL_law_1521 (by decide) ?_
                                                                    refine v_iadd hX dL_law_1522 ?_
                                                                    obtain ⟨e646, i647, h⟩ := h
                                                                    refine v_sld hX hS0 dL_law_1523 e646 i647 ?_
                                                                    obtain ⟨k648, h⟩ := h
                                                                    refine v_callVi0 hX dL_law_1524 c_RL_140 cV_X11_take (ci := 12) (T := TX11) (N := 19) rfl (by exact k648) [pI _] rfl rfl (Nat.le_of_ble_eq_true rfl) (by decide) (by decide)  (m_X11_take h) (fun p650 s649 h => ?_)
                                                                    refine v_aload_n hX dL_law_1527 2 rfl rfl ?_
                                                                    refine v_aload_n hX dL_law_1528 0 rfl rfl ?_
                                                                    refine v_iload_n hX dL_law_1529 3 rfl rfl ?_
                                                                    refine v_iconst (v := 1) hX dL_law_1530 (by decide) ?_
                                                                    refine v_iadd hX dL_law_1531 ?_
                                                                    obtain ⟨e651, i652, h⟩ := h
                                                                    refine v_sld hX hS0 dL_law_1532 e651 i652 ?_
                                                                    obtain ⟨k653, h⟩ := h
                                                                    refine v_callVi0 hX dL_law_1533 c_RL_143 cV_X12_take (ci := 13) (T := TX12) (N := 115) rfl (by exact k653) [pI _] rfl rfl (Nat.le_of_ble_eq_true rfl) (by decide) (by decide)  (m_X12_take h) (fun p655 s654 h => ?_)
                                                                    refine v_icmp_eq (tgt := 2612) hX dL_law_1536 (by decide) (fun c656 => ?_) (fun c656 => ?_)
                                                                    · have h := h_T c656 h
                                                                      refine v_pick [0, 1, 2, 3] rfl ?_
                                                                      exact b_L_law_2612 hS0 hX hE hK18 _ h
                                                                    · have h := h_E c656 h
                                                                      refine v_iconst (v := 0) hX dL_law_1539 (by decide) ?_
                                                                      exact h.elim
                                                                  · have h := h_E c645 h
                                                                    by_cases c657 : q1173 = (31 : Int32)
                                                                    · have h := h_T c657 h
                                                                      refine v_tabIn (tgt := 1541) hX dL_law_33 (by rw [c657]; decide) (by rw [c657]; decide) (by rw [c657]; rfl) (by decide) ?_
                                                                      refine v_aload_n hX dL_law_1541 1 rfl rfl ?_
                                                                      refine v_aload_n hX dL_law_1542 0 rfl rfl ?_
                                                                      refine v_iload_n hX dL_law_1543 3 rfl rfl ?_
                                                                      refine v_iconst (v := 1) hX dL_law_1544 (by decide) ?_
                                                                      refine v_iadd hX dL_law_1545 ?_
                                                                      obtain ⟨e658, i659, h⟩ := h
                                                                      refine v_sld hX hS0 dL_law_1546 e658 i659 ?_
                                                                      refine v_aload_n hX dL_law_1547 0 rfl rfl ?_
                                                                      refine v_iload_n hX dL_law_1548 3 rfl rfl ?_
                                                                      refine v_iconst (v := 2) hX dL_law_1549 (by decide) ?_
                                                                      refine v_iadd hX dL_law_1550 ?_
                                                                      obtain ⟨e660, i661, h⟩ := h
                                                                      refine v_sld hX hS0 dL_law_1551 e660 i661 ?_
                                                                      obtain ⟨k662, h⟩ := h
                                                                      refine v_callVi0 hX dL_law_1552 c_RL_144 cV_X11_ofRight (ci := 12) (T := TX11) (N := 19) rfl (by exact k662) [pI _, pI _] rfl rfl (Nat.le_of_ble_eq_true rfl) (by decide) (by decide)  (m_X11_ofRight h) (fun p664 s663 h => ?_)
                                                                      refine v_aload_n hX dL_law_1555 2 rfl rfl ?_
                                                                      refine v_aload_n hX dL_law_1556 0 rfl rfl ?_
                                                                      refine v_iload_n hX dL_law_1557 3 rfl rfl ?_
                                                                      refine v_iconst (v := 1) hX dL_law_1558 (by decide) ?_
                                                                      refine v_iadd hX dL_law_1559 ?_
                                                                      obtain ⟨e665, i666, h⟩ := h
                                                                      refine v_sld hX hS0 dL_law_1560 e665 i666 ?_
                                                                      refine v_aload_n hX dL_law_1561 0 rfl rfl ?_
                                                                      refine v_iload_n hX dL_law_1562 3 rfl rfl ?_
                                                                      refine v_iconst (v := 2) hX dL_law_1563 (by decide) ?_
                                                                      refine v_iadd hX dL_law_1564 ?_
                                                                      obtain ⟨e667, i668, h⟩ := h
                                                                      refine v_sld hX hS0 dL_law_1565 e667 i668 ?_
                                                                      obtain ⟨k669, h⟩ := h
                                                                      refine v_callVi0 hX dL_law_1566 c_RL_147 cV_X12_ofRight (ci := 13) (T := TX12) (N := 115) rfl (by exact k669) [pI _, pI _] rfl rfl (Nat.le_of_ble_eq_true rfl) (by decide) (by decide)  (m_X12_ofRight h) (fun p671 s670 h => ?_)
                                                                      refine v_icmp_eq (tgt := 2612) hX dL_law_1569 (by decide) (fun c672 => ?_) (fun c672 => ?_)
                                                                      · have h := h_T c672 h
                                                                        refine v_pick [0, 1, 2, 3] rfl ?_
                                                                        exact b_L_law_2612 hS0 hX hE hK18 _ h
                                                                      · have h := h_E c672 h
                                                                        refine v_iconst (v := 0) hX dL_law_1572 (by decide) ?_
                                                                        exact h.elim
                                                                    · have h := h_E c657 h
                                                                      by_cases c673 : q1173 = (32 : Int32)
                                                                      · have h := h_T c673 h
                                                                        refine v_tabIn (tgt := 1574) hX dL_law_33 (by rw [c673]; decide) (by rw [c673]; decide) (by rw [c673]; rfl) (by decide) ?_
                                                                        refine v_aload_n hX dL_law_1574 1 rfl rfl ?_
                                                                        refine v_aload_n hX dL_law_1575 0 rfl rfl ?_
                                                                        refine v_iload_n hX dL_law_1576 3 rfl rfl ?_
                                                                        refine v_iconst (v := 1) hX dL_law_1577 (by decide) ?_
                                                                        refine v_iadd hX dL_law_1578 ?_
                                                                        obtain ⟨e674, i675, h⟩ := h
                                                                        refine v_sld hX hS0 dL_law_1579 e674 i675 ?_
                                                                        refine v_aload_n hX dL_law_1580 0 rfl rfl ?_
                                                                        refine v_iload_n hX dL_law_1581 3 rfl rfl ?_
                                                                        refine v_iconst (v := 2) hX dL_law_1582 (by decide) ?_
                                                                        refine v_iadd hX dL_law_1583 ?_
                                                                        obtain ⟨e676, i677, h⟩ := h
                                                                        refine v_sld hX hS0 dL_law_1584 e676 i677 ?_
                                                                        refine v_aload_n hX dL_law_1585 0 rfl rfl ?_
                                                                        refine v_iload_n hX dL_law_1586 3 rfl rfl ?_
                                                                        refine v_iconst (v := 3) hX dL_law_1587 (by decide) ?_
                                                                        refine v_iadd hX dL_law_1588 ?_
                                                                        obtain ⟨e678, i679, h⟩ := h
                                                                        refine v_sld hX hS0 dL_law_1589 e678 i679 ?_
                                                                        refine v_aload_n hX dL_law_1590 0 rfl rfl ?_
                                                                        refine v_iload_n hX dL_law_1591 3 rfl rfl ?_
                                                                        refine v_iconst (v := 4) hX dL_law_1592 (by decide) ?_
                                                                        refine v_iadd hX dL_law_1593 ?_
                                                                        obtain ⟨e680, i681, h⟩ := h
                                                                        refine v_sld hX hS0 dL_law_1594 e680 i681 ?_
                                                                        obtain ⟨k682, h⟩ := h
                                                                        refine v_callVi0 hX dL_law_1595 c_RL_148 cV_X11_may (ci := 12) (T := TX11) (N := 19) rfl (by exact k682) [pI _, pI _, pI _, pI _] rfl rfl (Nat.le_of_ble_eq_true rfl) (by decide) (by decide)  (m_X11_may h) (fun p684 s683 h => ?_)
                                                                        refine v_aload_n hX dL_law_1598 2 rfl rfl ?_
                                                                        refine v_aload_n hX dL_law_1599 0 rfl rfl ?_
                                                                        refine v_iload_n hX dL_law_1600 3 rfl rfl ?_
                                                                        refine v_iconst (v := 1) hX dL_law_1601 (by decide) ?_
                                                                        refine v_iadd hX dL_law_1602 ?_
                                                                        obtain ⟨e685, i686, h⟩ := h
                                                                        refine v_sld hX hS0 dL_law_1603 e685 i686 ?_
                                                                        refine v_aload_n hX dL_law_1604 0 rfl rfl ?_
                                                                        refine v_iload_n hX dL_law_1605 3 rfl rfl ?_
                                                                        refine v_iconst (v := 2) hX dL_law_1606 (by decide) ?_
                                                                        refine v_iadd hX dL_law_1607 ?_
                                                                        obtain ⟨e687, i688, h⟩ := h
                                                                        refine v_sld hX hS0 dL_law_1608 e687 i688 ?_
                                                                        refine v_aload_n hX dL_law_1609 0 rfl rfl ?_
                                                                        refine v_iload_n hX dL_law_1610 3 rfl rfl ?_
                                                                        refine v_iconst (v := 3) hX dL_law_1611 (by decide) ?_
                                                                        refine v_iadd hX dL_law_1612 ?_
                                                                        obtain ⟨e689, i690, h⟩ := h
                                                                        refine v_sld hX hS0 dL_law_1613 e689 i690 ?_
                                                                        refine v_aload_n hX dL_law_1614 0 rfl rfl ?_
                                                                        refine v_iload_n hX dL_law_1615 3 rfl rfl ?_
                                                                        refine v_iconst (v := 4) hX dL_law_1616 (by decide) ?_
                                                                        refine v_iadd hX dL_law_1617 ?_
                                                                        obtain ⟨e691, i692, h⟩ := h
                                                                        refine v_sld hX hS0 dL_law_1618 e691 i692 ?_
                                                                        obtain ⟨k693, h⟩ := h
                                                                        refine v_callVi0 hX dL_law_1619 c_RL_151 cV_X12_may (ci := 13) (T := TX12) (N := 115) rfl (by exact k693) [pI _, pI _, pI _, pI _] rfl rfl (Nat.le_of_ble_eq_true rfl) (by decide) (by decide)  (m_X12_may h) (fun p695 s694 h => ?_)
                                                                        refine v_icmp_eq (tgt := 2612) hX dL_law_1622 (by decide) (fun c696 => ?_) (fun c696 => ?_)
                                                                        · have h := h_T c696 h
                                                                          refine v_pick [0, 1, 2, 3] rfl ?_
                                                                          exact b_L_law_2612 hS0 hX hE hK18 _ h
                                                                        · have h := h_E c696 h
                                                                          refine v_iconst (v := 0) hX dL_law_1625 (by decide) ?_
                                                                          exact h.elim
                                                                      · have h := h_E c673 h
                                                                        by_cases c697 : q1173 = (33 : Int32)
                                                                        · have h := h_T c697 h
                                                                          refine v_tabIn (tgt := 1627) hX dL_law_33 (by rw [c697]; decide) (by rw [c697]; decide) (by rw [c697]; rfl) (by decide) ?_
                                                                          refine v_aload_n hX dL_law_1627 1 rfl rfl ?_
                                                                          refine v_aload_n hX dL_law_1628 0 rfl rfl ?_
                                                                          refine v_iload_n hX dL_law_1629 3 rfl rfl ?_
                                                                          refine v_iconst (v := 1) hX dL_law_1630 (by decide) ?_
                                                                          refine v_iadd hX dL_law_1631 ?_
                                                                          obtain ⟨e698, i699, h⟩ := h
                                                                          refine v_sld hX hS0 dL_law_1632 e698 i699 ?_
                                                                          refine v_aload_n hX dL_law_1633 0 rfl rfl ?_
                                                                          refine v_iload_n hX dL_law_1634 3 rfl rfl ?_
                                                                          refine v_iconst (v := 2) hX dL_law_1635 (by decide) ?_
                                                                          refine v_iadd hX dL_law_1636 ?_
                                                                          obtain ⟨e700, i701, h⟩ := h
                                                                          refine v_sld hX hS0 dL_law_1637 e700 i701 ?_
                                                                          refine v_aload_n hX dL_law_1638 0 rfl rfl ?_
                                                                          refine v_iload_n hX dL_law_1639 3 rfl rfl ?_
                                                                          refine v_iconst (v := 3) hX dL_law_1640 (by decide) ?_
                                                                          refine v_iadd hX dL_law_1641 ?_
                                                                          obtain ⟨e702, i703, h⟩ := h
                                                                          refine v_sld hX hS0 dL_law_1642 e702 i703 ?_
                                                                          refine v_aload_n hX dL_law_1643 0 rfl rfl ?_
                                                                          refine v_iload_n hX dL_law_1644 3 rfl rfl ?_
                                                                          refine v_iconst (v := 4) hX dL_law_1645 (by decide) ?_
                                                                          refine v_iadd hX dL_law_1646 ?_
                                                                          obtain ⟨e704, i705, h⟩ := h
                                                                          refine v_sld hX hS0 dL_law_1647 e704 i705 ?_
                                                                          obtain ⟨k706, h⟩ := h
                                                                          refine v_callVi0 hX dL_law_1648 c_RL_152 cV_X11_why (ci := 12) (T := TX11) (N := 19) rfl (by exact k706) [pI _, pI _, pI _, pI _] rfl rfl (Nat.le_of_ble_eq_true rfl) (by decide) (by decide)  (m_X11_why h) (fun p708 s707 h => ?_)
                                                                          refine v_aload_n hX dL_law_1651 2 rfl rfl ?_
                                                                          refine v_aload_n hX dL_law_1652 0 rfl rfl ?_
                                                                          refine v_iload_n hX dL_law_1653 3 rfl rfl ?_
                                                                          refine v_iconst (v := 1) hX dL_law_1654 (by decide) ?_
                                                                          refine v_iadd hX dL_law_1655 ?_
                                                                          obtain ⟨e709, i710, h⟩ := h
                                                                          refine v_sld hX hS0 dL_law_1656 e709 i710 ?_
                                                                          refine v_aload_n hX dL_law_1657 0 rfl rfl ?_
                                                                          refine v_iload_n hX dL_law_1658 3 rfl rfl ?_
                                                                          refine v_iconst (v := 2) hX dL_law_1659 (by decide) ?_
                                                                          refine v_iadd hX dL_law_1660 ?_
                                                                          obtain ⟨e711, i712, h⟩ := h
                                                                          refine v_sld hX hS0 dL_law_1661 e711 i712 ?_
                                                                          refine v_aload_n hX dL_law_1662 0 rfl rfl ?_
                                                                          refine v_iload_n hX dL_law_1663 3 rfl rfl ?_
                                                                          refine v_iconst (v := 3) hX dL_law_1664 (by decide) ?_
                                                                          refine v_iadd hX dL_law_1665 ?_
                                                                          obtain ⟨e713, i714, h⟩ := h
                                                                          refine v_sld hX hS0 dL_law_1666 e713 i714 ?_
                                                                          refine v_aload_n hX dL_law_1667 0 rfl rfl ?_
                                                                          refine v_iload_n hX dL_law_1668 3 rfl rfl ?_
                                                                          refine v_iconst (v := 4) hX dL_law_1669 (by decide) ?_
                                                                          refine v_iadd hX dL_law_1670 ?_
                                                                          obtain ⟨e715, i716, h⟩ := h
                                                                          refine v_sld hX hS0 dL_law_1671 e715 i716 ?_
                                                                          obtain ⟨k717, h⟩ := h
                                                                          refine v_callVi0 hX dL_law_1672 c_RL_155 cV_X12_why (ci := 13) (T := TX12) (N := 115) rfl (by exact k717) [pI _, pI _, pI _, pI _] rfl rfl (Nat.le_of_ble_eq_true rfl) (by decide) (by decide)  (m_X12_why h) (fun p719 s718 h => ?_)
                                                                          refine v_icmp_eq (tgt := 2612) hX dL_law_1675 (by decide) (fun c720 => ?_) (fun c720 => ?_)
                                                                          · have h := h_T c720 h
                                                                            refine v_pick [0, 1, 2, 3] rfl ?_
                                                                            exact b_L_law_2612 hS0 hX hE hK18 _ h
                                                                          · have h := h_E c720 h
                                                                            refine v_iconst (v := 0) hX dL_law_1678 (by decide) ?_
                                                                            exact h.elim
                                                                        · have h := h_E c697 h
                                                                          by_cases c721 : q1173 = (34 : Int32)
                                                                          · have h := h_T c721 h
                                                                            refine v_tabIn (tgt := 1680) hX dL_law_33 (by rw [c721]; decide) (by rw [c721]; decide) (by rw [c721]; rfl) (by decide) ?_
                                                                            refine v_aload_n hX dL_law_1680 1 rfl rfl ?_
                                                                            refine v_aload_n hX dL_law_1681 0 rfl rfl ?_
                                                                            refine v_iload_n hX dL_law_1682 3 rfl rfl ?_
                                                                            refine v_iconst (v := 1) hX dL_law_1683 (by decide) ?_
                                                                            refine v_iadd hX dL_law_1684 ?_
                                                                            obtain ⟨e722, i723, h⟩ := h
                                                                            refine v_sld hX hS0 dL_law_1685 e722 i723 ?_
                                                                            refine v_aload_n hX dL_law_1686 0 rfl rfl ?_
                                                                            refine v_iload_n hX dL_law_1687 3 rfl rfl ?_
                                                                            refine v_iconst (v := 2) hX dL_law_1688 (by decide) ?_
                                                                            refine v_iadd hX dL_law_1689 ?_
                                                                            obtain ⟨e724, i725, h⟩ := h
                                                                            refine v_sld hX hS0 dL_law_1690 e724 i725 ?_
                                                                            refine v_aload_n hX dL_law_1691 0 rfl rfl ?_
                                                                            refine v_iload_n hX dL_law_1692 3 rfl rfl ?_
                                                                            refine v_iconst (v := 3) hX dL_law_1693 (by decide) ?_
                                                                            refine v_iadd hX dL_law_1694 ?_
                                                                            obtain ⟨e726, i727, h⟩ := h
                                                                            refine v_sld hX hS0 dL_law_1695 e726 i727 ?_
                                                                            refine v_aload_n hX dL_law_1696 0 rfl rfl ?_
                                                                            refine v_iload_n hX dL_law_1697 3 rfl rfl ?_
                                                                            refine v_iconst (v := 4) hX dL_law_1698 (by decide) ?_
                                                                            refine v_iadd hX dL_law_1699 ?_
                                                                            obtain ⟨e728, i729, h⟩ := h
                                                                            refine v_sld hX hS0 dL_law_1700 e728 i729 ?_
                                                                            obtain ⟨k730, h⟩ := h
                                                                            refine v_callVi0 hX dL_law_1701 c_RL_156 cV_X11_view (ci := 12) (T := TX11) (N := 19) rfl (by exact k730) [pI _, pI _, pI _, pI _] rfl rfl (Nat.le_of_ble_eq_true rfl) (by decide) (by decide)  (m_X11_view h) (fun p732 s731 h => ?_)
                                                                            refine v_aload_n hX dL_law_1704 2 rfl rfl ?_
                                                                            refine v_aload_n hX dL_law_1705 0 rfl rfl ?_
                                                                            refine v_iload_n hX dL_law_1706 3 rfl rfl ?_
                                                                            refine v_iconst (v := 1) hX dL_law_1707 (by decide) ?_
                                                                            refine v_iadd hX dL_law_1708 ?_
                                                                            obtain ⟨e733, i734, h⟩ := h
                                                                            refine v_sld hX hS0 dL_law_1709 e733 i734 ?_
                                                                            refine v_aload_n hX dL_law_1710 0 rfl rfl ?_
                                                                            refine v_iload_n hX dL_law_1711 3 rfl rfl ?_
                                                                            refine v_iconst (v := 2) hX dL_law_1712 (by decide) ?_
                                                                            refine v_iadd hX dL_law_1713 ?_
                                                                            obtain ⟨e735, i736, h⟩ := h
                                                                            refine v_sld hX hS0 dL_law_1714 e735 i736 ?_
                                                                            refine v_aload_n hX dL_law_1715 0 rfl rfl ?_
                                                                            refine v_iload_n hX dL_law_1716 3 rfl rfl ?_
                                                                            refine v_iconst (v := 3) hX dL_law_1717 (by decide) ?_
                                                                            refine v_iadd hX dL_law_1718 ?_
                                                                            obtain ⟨e737, i738, h⟩ := h
                                                                            refine v_sld hX hS0 dL_law_1719 e737 i738 ?_
                                                                            refine v_aload_n hX dL_law_1720 0 rfl rfl ?_
                                                                            refine v_iload_n hX dL_law_1721 3 rfl rfl ?_
                                                                            refine v_iconst (v := 4) hX dL_law_1722 (by decide) ?_
                                                                            refine v_iadd hX dL_law_1723 ?_
                                                                            obtain ⟨e739, i740, h⟩ := h
                                                                            refine v_sld hX hS0 dL_law_1724 e739 i740 ?_
                                                                            obtain ⟨k741, h⟩ := h
                                                                            refine v_callVi0 hX dL_law_1725 c_RL_159 cV_X12_view (ci := 13) (T := TX12) (N := 115) rfl (by exact k741) [pI _, pI _, pI _, pI _] rfl rfl (Nat.le_of_ble_eq_true rfl) (by decide) (by decide)  (m_X12_view h) (fun p743 s742 h => ?_)
                                                                            refine v_icmp_eq (tgt := 2612) hX dL_law_1728 (by decide) (fun c744 => ?_) (fun c744 => ?_)
                                                                            · have h := h_T c744 h
                                                                              refine v_pick [0, 1, 2, 3] rfl ?_
                                                                              exact b_L_law_2612 hS0 hX hE hK18 _ h
                                                                            · have h := h_E c744 h
                                                                              refine v_iconst (v := 0) hX dL_law_1731 (by decide) ?_
                                                                              exact h.elim
                                                                          · have h := h_E c721 h
                                                                            by_cases c745 : q1173 = (35 : Int32)
                                                                            · have h := h_T c745 h
                                                                              refine v_tabIn (tgt := 1733) hX dL_law_33 (by rw [c745]; decide) (by rw [c745]; decide) (by rw [c745]; rfl) (by decide) ?_
                                                                              refine v_aload_n hX dL_law_1733 1 rfl rfl ?_
                                                                              refine v_aload_n hX dL_law_1734 0 rfl rfl ?_
                                                                              refine v_iload_n hX dL_law_1735 3 rfl rfl ?_
                                                                              refine v_iconst (v := 1) hX dL_law_1736 (by decide) ?_
                                                                              refine v_iadd hX dL_law_1737 ?_
                                                                              obtain ⟨e746, i747, h⟩ := h
                                                                              refine v_sld hX hS0 dL_law_1738 e746 i747 ?_
                                                                              refine v_aload_n hX dL_law_1739 0 rfl rfl ?_
                                                                              refine v_iload_n hX dL_law_1740 3 rfl rfl ?_
                                                                              refine v_iconst (v := 2) hX dL_law_1741 (by decide) ?_
                                                                              refine v_iadd hX dL_law_1742 ?_
                                                                              obtain ⟨e748, i749, h⟩ := h
                                                                              refine v_sld hX hS0 dL_law_1743 e748 i749 ?_
                                                                              obtain ⟨k750, h⟩ := h
                                                                              refine v_callVi0 hX dL_law_1744 c_RL_160 cV_X11_rule (ci := 12) (T := TX11) (N := 19) rfl (by exact k750) [pI _, pI _] rfl rfl (Nat.le_of_ble_eq_true rfl) (by decide) (by decide)  (m_X11_rule h) (fun p752 s751 h => ?_)
                                                                              refine v_aload_n hX dL_law_1747 2 rfl rfl ?_
                                                                              refine v_aload_n hX dL_law_1748 0 rfl rfl ?_
                                                                              refine v_iload_n hX dL_law_1749 3 rfl rfl ?_
                                                                              refine v_iconst (v := 1) hX dL_law_1750 (by decide) ?_
                                                                              refine v_iadd hX dL_law_1751 ?_
                                                                              obtain ⟨e753, i754, h⟩ := h
                                                                              refine v_sld hX hS0 dL_law_1752 e753 i754 ?_
                                                                              refine v_aload_n hX dL_law_1753 0 rfl rfl ?_
                                                                              refine v_iload_n hX dL_law_1754 3 rfl rfl ?_
                                                                              refine v_iconst (v := 2) hX dL_law_1755 (by decide) ?_
                                                                              refine v_iadd hX dL_law_1756 ?_
                                                                              obtain ⟨e755, i756, h⟩ := h
                                                                              refine v_sld hX hS0 dL_law_1757 e755 i756 ?_
                                                                              obtain ⟨k757, h⟩ := h
                                                                              refine v_callVi0 hX dL_law_1758 c_RL_163 cV_X12_rule (ci := 13) (T := TX12) (N := 115) rfl (by exact k757) [pI _, pI _] rfl rfl (Nat.le_of_ble_eq_true rfl) (by decide) (by decide)  (m_X12_rule h) (fun p759 s758 h => ?_)
                                                                              refine v_icmp_eq (tgt := 2612) hX dL_law_1761 (by decide) (fun c760 => ?_) (fun c760 => ?_)
                                                                              · have h := h_T c760 h
                                                                                refine v_pick [0, 1, 2, 3] rfl ?_
                                                                                exact b_L_law_2612 hS0 hX hE hK18 _ h
                                                                              · have h := h_E c760 h
                                                                                refine v_iconst (v := 0) hX dL_law_1764 (by decide) ?_
                                                                                exact h.elim
                                                                            · have h := h_E c745 h
                                                                              by_cases c761 : q1173 = (36 : Int32)
                                                                              · have h := h_T c761 h
                                                                                refine v_tabIn (tgt := 1766) hX dL_law_33 (by rw [c761]; decide) (by rw [c761]; decide) (by rw [c761]; rfl) (by decide) ?_
                                                                                refine v_aload_n hX dL_law_1766 1 rfl rfl ?_
                                                                                refine v_aload_n hX dL_law_1767 0 rfl rfl ?_
                                                                                refine v_iload_n hX dL_law_1768 3 rfl rfl ?_
                                                                                refine v_iconst (v := 1) hX dL_law_1769 (by decide) ?_
                                                                                refine v_iadd hX dL_law_1770 ?_
                                                                                obtain ⟨e762, i763, h⟩ := h
                                                                                refine v_sld hX hS0 dL_law_1771 e762 i763 ?_
                                                                                refine v_aload_n hX dL_law_1772 0 rfl rfl ?_
                                                                                refine v_iload_n hX dL_law_1773 3 rfl rfl ?_
                                                                                refine v_iconst (v := 2) hX dL_law_1774 (by decide) ?_
                                                                                refine v_iadd hX dL_law_1775 ?_
                                                                                obtain ⟨e764, i765, h⟩ := h
                                                                                refine v_sld hX hS0 dL_law_1776 e764 i765 ?_
                                                                                obtain ⟨k766, h⟩ := h
                                                                                refine v_callVi0 hX dL_law_1777 c_RL_164 cV_X11_read (ci := 12) (T := TX11) (N := 19) rfl (by exact k766) [pI _, pI _] rfl rfl (Nat.le_of_ble_eq_true rfl) (by decide) (by decide)  (m_X11_read h) (fun p768 s767 h => ?_)
                                                                                refine v_aload_n hX dL_law_1780 2 rfl rfl ?_
                                                                                refine v_aload_n hX dL_law_1781 0 rfl rfl ?_
                                                                                refine v_iload_n hX dL_law_1782 3 rfl rfl ?_
                                                                                refine v_iconst (v := 1) hX dL_law_1783 (by decide) ?_
                                                                                refine v_iadd hX dL_law_1784 ?_
                                                                                obtain ⟨e769, i770, h⟩ := h
                                                                                refine v_sld hX hS0 dL_law_1785 e769 i770 ?_
                                                                                refine v_aload_n hX dL_law_1786 0 rfl rfl ?_
                                                                                refine v_iload_n hX dL_law_1787 3 rfl rfl ?_
                                                                                refine v_iconst (v := 2) hX dL_law_1788 (by decide) ?_
                                                                                refine v_iadd hX dL_law_1789 ?_
                                                                                obtain ⟨e771, i772, h⟩ := h
                                                                                refine v_sld hX hS0 dL_law_1790 e771 i772 ?_
                                                                                obtain ⟨k773, h⟩ := h
                                                                                refine v_callVi0 hX dL_law_1791 c_RL_167 cV_X12_read (ci := 13) (T := TX12) (N := 115) rfl (by exact k773) [pI _, pI _] rfl rfl (Nat.le_of_ble_eq_true rfl) (by decide) (by decide)  (m_X12_read h) (fun p775 s774 h => ?_)
                                                                                refine v_icmp_eq (tgt := 2612) hX dL_law_1794 (by decide) (fun c776 => ?_) (fun c776 => ?_)
                                                                                · have h := h_T c776 h
                                                                                  refine v_pick [0, 1, 2, 3] rfl ?_
                                                                                  exact b_L_law_2612 hS0 hX hE hK18 _ h
                                                                                · have h := h_E c776 h
                                                                                  refine v_iconst (v := 0) hX dL_law_1797 (by decide) ?_
                                                                                  exact h.elim
                                                                              · have h := h_E c761 h
                                                                                by_cases c777 : q1173 = (37 : Int32)
                                                                                · have h := h_T c777 h
                                                                                  refine v_tabIn (tgt := 1799) hX dL_law_33 (by rw [c777]; decide) (by rw [c777]; decide) (by rw [c777]; rfl) (by decide) ?_
                                                                                  refine v_aload_n hX dL_law_1799 1 rfl rfl ?_
                                                                                  refine v_aload_n hX dL_law_1800 0 rfl rfl ?_
                                                                                  refine v_iload_n hX dL_law_1801 3 rfl rfl ?_
                                                                                  refine v_iconst (v := 1) hX dL_law_1802 (by decide) ?_
                                                                                  refine v_iadd hX dL_law_1803 ?_
                                                                                  obtain ⟨e778, i779, h⟩ := h
                                                                                  refine v_sld hX hS0 dL_law_1804 e778 i779 ?_
                                                                                  refine v_aload_n hX dL_law_1805 0 rfl rfl ?_
                                                                                  refine v_iload_n hX dL_law_1806 3 rfl rfl ?_
                                                                                  refine v_iconst (v := 2) hX dL_law_1807 (by decide) ?_
                                                                                  refine v_iadd hX dL_law_1808 ?_
                                                                                  obtain ⟨e780, i781, h⟩ := h
                                                                                  refine v_sld hX hS0 dL_law_1809 e780 i781 ?_
                                                                                  obtain ⟨k782, h⟩ := h
                                                                                  refine v_callVi0 hX dL_law_1810 c_RL_168 cV_X11_owes (ci := 12) (T := TX11) (N := 19) rfl (by exact k782) [pI _, pI _] rfl rfl (Nat.le_of_ble_eq_true rfl) (by decide) (by decide)  (m_X11_owes h) (fun p784 s783 h => ?_)
                                                                                  refine v_aload_n hX dL_law_1813 2 rfl rfl ?_
                                                                                  refine v_aload_n hX dL_law_1814 0 rfl rfl ?_
                                                                                  refine v_iload_n hX dL_law_1815 3 rfl rfl ?_
                                                                                  refine v_iconst (v := 1) hX dL_law_1816 (by decide) ?_
                                                                                  refine v_iadd hX dL_law_1817 ?_
                                                                                  obtain ⟨e785, i786, h⟩ := h
                                                                                  refine v_sld hX hS0 dL_law_1818 e785 i786 ?_
                                                                                  refine v_aload_n hX dL_law_1819 0 rfl rfl ?_
                                                                                  refine v_iload_n hX dL_law_1820 3 rfl rfl ?_
                                                                                  refine v_iconst (v := 2) hX dL_law_1821 (by decide) ?_
                                                                                  refine v_iadd hX dL_law_1822 ?_
                                                                                  obtain ⟨e787, i788, h⟩ := h
                                                                                  refine v_sld hX hS0 dL_law_1823 e787 i788 ?_
                                                                                  obtain ⟨k789, h⟩ := h
                                                                                  refine v_callVi0 hX dL_law_1824 c_RL_171 cV_X12_owes (ci := 13) (T := TX12) (N := 115) rfl (by exact k789) [pI _, pI _] rfl rfl (Nat.le_of_ble_eq_true rfl) (by decide) (by decide)  (m_X12_owes h) (fun p791 s790 h => ?_)
                                                                                  refine v_icmp_eq (tgt := 2612) hX dL_law_1827 (by decide) (fun c792 => ?_) (fun c792 => ?_)
                                                                                  · have h := h_T c792 h
                                                                                    refine v_pick [0, 1, 2, 3] rfl ?_
                                                                                    exact b_L_law_2612 hS0 hX hE hK18 _ h
                                                                                  · have h := h_E c792 h
                                                                                    refine v_iconst (v := 0) hX dL_law_1830 (by decide) ?_
                                                                                    exact h.elim
                                                                                · have h := h_E c777 h
                                                                                  by_cases c793 : q1173 = (38 : Int32)
                                                                                  · have h := h_T c793 h
                                                                                    refine v_tabIn (tgt := 1832) hX dL_law_33 (by rw [c793]; decide) (by rw [c793]; decide) (by rw [c793]; rfl) (by decide) ?_
                                                                                    refine v_aload_n hX dL_law_1832 1 rfl rfl ?_
                                                                                    refine v_aload_n hX dL_law_1833 0 rfl rfl ?_
                                                                                    refine v_iload_n hX dL_law_1834 3 rfl rfl ?_
                                                                                    refine v_iconst (v := 1) hX dL_law_1835 (by decide) ?_
                                                                                    refine v_iadd hX dL_law_1836 ?_
                                                                                    obtain ⟨e794, i795, h⟩ := h
                                                                                    refine v_sld hX hS0 dL_law_1837 e794 i795 ?_
                                                                                    refine v_aload_n hX dL_law_1838 0 rfl rfl ?_
                                                                                    refine v_iload_n hX dL_law_1839 3 rfl rfl ?_
                                                                                    refine v_iconst (v := 2) hX dL_law_1840 (by decide) ?_
                                                                                    refine v_iadd hX dL_law_1841 ?_
                                                                                    obtain ⟨e796, i797, h⟩ := h
                                                                                    refine v_sld hX hS0 dL_law_1842 e796 i797 ?_
                                                                                    refine v_aload_n hX dL_law_1843 0 rfl rfl ?_
                                                                                    refine v_iload_n hX dL_law_1844 3 rfl rfl ?_
                                                                                    refine v_iconst (v := 3) hX dL_law_1845 (by decide) ?_
                                                                                    refine v_iadd hX dL_law_1846 ?_
                                                                                    obtain ⟨e798, i799, h⟩ := h
                                                                                    refine v_sld hX hS0 dL_law_1847 e798 i799 ?_
                                                                                    obtain ⟨k800, h⟩ := h
                                                                                    refine v_callVi0 hX dL_law_1848 c_RL_172 cV_X11_pay (ci := 12) (T := TX11) (N := 19) rfl (by exact k800) [pI _, pI _, pI _] rfl rfl (Nat.le_of_ble_eq_true rfl) (by decide) (by decide)  (m_X11_pay h) (fun p802 s801 h => ?_)
                                                                                    refine v_aload_n hX dL_law_1851 2 rfl rfl ?_
                                                                                    refine v_aload_n hX dL_law_1852 0 rfl rfl ?_
                                                                                    refine v_iload_n hX dL_law_1853 3 rfl rfl ?_
                                                                                    refine v_iconst (v := 1) hX dL_law_1854 (by decide) ?_
                                                                                    refine v_iadd hX dL_law_1855 ?_
                                                                                    obtain ⟨e803, i804, h⟩ := h
                                                                                    refine v_sld hX hS0 dL_law_1856 e803 i804 ?_
                                                                                    refine v_aload_n hX dL_law_1857 0 rfl rfl ?_
                                                                                    refine v_iload_n hX dL_law_1858 3 rfl rfl ?_
                                                                                    refine v_iconst (v := 2) hX dL_law_1859 (by decide) ?_
                                                                                    refine v_iadd hX dL_law_1860 ?_
                                                                                    obtain ⟨e805, i806, h⟩ := h
                                                                                    refine v_sld hX hS0 dL_law_1861 e805 i806 ?_
                                                                                    refine v_aload_n hX dL_law_1862 0 rfl rfl ?_
                                                                                    refine v_iload_n hX dL_law_1863 3 rfl rfl ?_
                                                                                    refine v_iconst (v := 3) hX dL_law_1864 (by decide) ?_
                                                                                    refine v_iadd hX dL_law_1865 ?_
                                                                                    obtain ⟨e807, i808, h⟩ := h
                                                                                    refine v_sld hX hS0 dL_law_1866 e807 i808 ?_
                                                                                    obtain ⟨k809, h⟩ := h
                                                                                    refine v_callVi0 hX dL_law_1867 c_RL_175 cV_X12_pay (ci := 13) (T := TX12) (N := 115) rfl (by exact k809) [pI _, pI _, pI _] rfl rfl (Nat.le_of_ble_eq_true rfl) (by decide) (by decide)  (m_X12_pay h) (fun p811 s810 h => ?_)
                                                                                    refine v_icmp_eq (tgt := 2612) hX dL_law_1870 (by decide) (fun c812 => ?_) (fun c812 => ?_)
                                                                                    · have h := h_T c812 h
                                                                                      refine v_pick [0, 1, 2, 3] rfl ?_
                                                                                      exact b_L_law_2612 hS0 hX hE hK18 _ h
                                                                                    · have h := h_E c812 h
                                                                                      refine v_iconst (v := 0) hX dL_law_1873 (by decide) ?_
                                                                                      exact h.elim
                                                                                  · have h := h_E c793 h
                                                                                    by_cases c813 : q1173 = (39 : Int32)
                                                                                    · have h := h_T c813 h
                                                                                      refine v_tabIn (tgt := 1875) hX dL_law_33 (by rw [c813]; decide) (by rw [c813]; decide) (by rw [c813]; rfl) (by decide) ?_
                                                                                      refine v_aload_n hX dL_law_1875 1 rfl rfl ?_
                                                                                      refine v_aload_n hX dL_law_1876 0 rfl rfl ?_
                                                                                      refine v_iload_n hX dL_law_1877 3 rfl rfl ?_
                                                                                      refine v_iconst (v := 1) hX dL_law_1878 (by decide) ?_
                                                                                      refine v_iadd hX dL_law_1879 ?_
                                                                                      obtain ⟨e814, i815, h⟩ := h
                                                                                      refine v_sld hX hS0 dL_law_1880 e814 i815 ?_
                                                                                      refine v_aload_n hX dL_law_1881 0 rfl rfl ?_
                                                                                      refine v_iload_n hX dL_law_1882 3 rfl rfl ?_
                                                                                      refine v_iconst (v := 2) hX dL_law_1883 (by decide) ?_
                                                                                      refine v_iadd hX dL_law_1884 ?_
                                                                                      obtain ⟨e816, i817, h⟩ := h
                                                                                      refine v_sld hX hS0 dL_law_1885 e816 i817 ?_
                                                                                      obtain ⟨k818, h⟩ := h
                                                                                      obtain ⟨mc821, ms822, b823, b824, h⟩ := h
                                                                                      refine v_callVi hX dL_law_1886 c_RL_176 cV_X11_steps (ci := 12) (T := TX11) (N := 19) rfl (by exact k818) [pI _, pI _] rfl rfl (Nat.le_of_ble_eq_true rfl) (by decide) (by decide) b823 b824 (m_X11_steps h) (fun p820 s819 h => ?_)
                                                                                      refine v_aload_n hX dL_law_1889 2 rfl rfl ?_
                                                                                      refine v_aload_n hX dL_law_1890 0 rfl rfl ?_
                                                                                      refine v_iload_n hX dL_law_1891 3 rfl rfl ?_
                                                                                      refine v_iconst (v := 1) hX dL_law_1892 (by decide) ?_
                                                                                      refine v_iadd hX dL_law_1893 ?_
                                                                                      obtain ⟨e825, i826, h⟩ := h
                                                                                      refine v_sld hX hS0 dL_law_1894 e825 i826 ?_
                                                                                      refine v_aload_n hX dL_law_1895 0 rfl rfl ?_
                                                                                      refine v_iload_n hX dL_law_1896 3 rfl rfl ?_
                                                                                      refine v_iconst (v := 2) hX dL_law_1897 (by decide) ?_
                                                                                      refine v_iadd hX dL_law_1898 ?_
                                                                                      obtain ⟨e827, i828, h⟩ := h
                                                                                      refine v_sld hX hS0 dL_law_1899 e827 i828 ?_
                                                                                      obtain ⟨k829, h⟩ := h
                                                                                      refine v_callVi0 hX dL_law_1900 c_RL_179 cV_X12_steps (ci := 13) (T := TX12) (N := 115) rfl (by exact k829) [pI _, pI _] rfl rfl (Nat.le_of_ble_eq_true rfl) (by decide) (by decide)  (m_X12_steps h) (fun p831 s830 h => ?_)
                                                                                      refine v_icmp_eq (tgt := 2612) hX dL_law_1903 (by decide) (fun c832 => ?_) (fun c832 => ?_)
                                                                                      · have h := h_T c832 h
                                                                                        refine v_pick [0, 1, 2, 3] rfl ?_
                                                                                        exact b_L_law_2612 hS0 hX hE hK18 _ h
                                                                                      · have h := h_E c832 h
                                                                                        refine v_iconst (v := 0) hX dL_law_1906 (by decide) ?_
                                                                                        exact h.elim
                                                                                    · have h := h_E c813 h
                                                                                      by_cases c833 : q1173 = (40 : Int32)
                                                                                      · have h := h_T c833 h
                                                                                        refine v_tabIn (tgt := 1908) hX dL_law_33 (by rw [c833]; decide) (by rw [c833]; decide) (by rw [c833]; rfl) (by decide) ?_
                                                                                        refine v_aload_n hX dL_law_1908 1 rfl rfl ?_
                                                                                        refine v_aload_n hX dL_law_1909 0 rfl rfl ?_
                                                                                        refine v_iload_n hX dL_law_1910 3 rfl rfl ?_
                                                                                        refine v_iconst (v := 1) hX dL_law_1911 (by decide) ?_
                                                                                        refine v_iadd hX dL_law_1912 ?_
                                                                                        obtain ⟨e834, i835, h⟩ := h
                                                                                        refine v_sld hX hS0 dL_law_1913 e834 i835 ?_
                                                                                        refine v_aload_n hX dL_law_1914 0 rfl rfl ?_
                                                                                        refine v_iload_n hX dL_law_1915 3 rfl rfl ?_
                                                                                        refine v_iconst (v := 2) hX dL_law_1916 (by decide) ?_
                                                                                        refine v_iadd hX dL_law_1917 ?_
                                                                                        obtain ⟨e836, i837, h⟩ := h
                                                                                        refine v_sld hX hS0 dL_law_1918 e836 i837 ?_
                                                                                        refine v_aload_n hX dL_law_1919 0 rfl rfl ?_
                                                                                        refine v_iload_n hX dL_law_1920 3 rfl rfl ?_
                                                                                        refine v_iconst (v := 3) hX dL_law_1921 (by decide) ?_
                                                                                        refine v_iadd hX dL_law_1922 ?_
                                                                                        obtain ⟨e838, i839, h⟩ := h
                                                                                        refine v_sld hX hS0 dL_law_1923 e838 i839 ?_
                                                                                        obtain ⟨k840, h⟩ := h
                                                                                        obtain ⟨mc843, ms844, b845, b846, h⟩ := h
                                                                                        refine v_callVi hX dL_law_1924 c_RL_180 cV_X11_chain (ci := 12) (T := TX11) (N := 19) rfl (by exact k840) [pI _, pI _, pI _] rfl rfl (Nat.le_of_ble_eq_true rfl) (by decide) (by decide) b845 b846 (m_X11_chain h) (fun p842 s841 h => ?_)
                                                                                        refine v_aload_n hX dL_law_1927 2 rfl rfl ?_
                                                                                        refine v_aload_n hX dL_law_1928 0 rfl rfl ?_
                                                                                        refine v_iload_n hX dL_law_1929 3 rfl rfl ?_
                                                                                        refine v_iconst (v := 1) hX dL_law_1930 (by decide) ?_
                                                                                        refine v_iadd hX dL_law_1931 ?_
                                                                                        obtain ⟨e847, i848, h⟩ := h
                                                                                        refine v_sld hX hS0 dL_law_1932 e847 i848 ?_
                                                                                        refine v_aload_n hX dL_law_1933 0 rfl rfl ?_
                                                                                        refine v_iload_n hX dL_law_1934 3 rfl rfl ?_
                                                                                        refine v_iconst (v := 2) hX dL_law_1935 (by decide) ?_
                                                                                        refine v_iadd hX dL_law_1936 ?_
                                                                                        obtain ⟨e849, i850, h⟩ := h
                                                                                        refine v_sld hX hS0 dL_law_1937 e849 i850 ?_
                                                                                        refine v_aload_n hX dL_law_1938 0 rfl rfl ?_
                                                                                        refine v_iload_n hX dL_law_1939 3 rfl rfl ?_
                                                                                        refine v_iconst (v := 3) hX dL_law_1940 (by decide) ?_
                                                                                        refine v_iadd hX dL_law_1941 ?_
                                                                                        obtain ⟨e851, i852, h⟩ := h
                                                                                        refine v_sld hX hS0 dL_law_1942 e851 i852 ?_
                                                                                        obtain ⟨k853, h⟩ := h
                                                                                        refine v_callVi0 hX dL_law_1943 c_RL_183 cV_X12_chain (ci := 13) (T := TX12) (N := 115) rfl (by exact k853) [pI _, pI _, pI _] rfl rfl (Nat.le_of_ble_eq_true rfl) (by decide) (by decide)  (m_X12_chain h) (fun p855 s854 h => ?_)
                                                                                        refine v_icmp_eq (tgt := 2612) hX dL_law_1946 (by decide) (fun c856 => ?_) (fun c856 => ?_)
                                                                                        · have h := h_T c856 h
                                                                                          refine v_pick [0, 1, 2, 3] rfl ?_
                                                                                          exact b_L_law_2612 hS0 hX hE hK18 _ h
                                                                                        · have h := h_E c856 h
                                                                                          refine v_iconst (v := 0) hX dL_law_1949 (by decide) ?_
                                                                                          exact h.elim
                                                                                      · have h := h_E c833 h
                                                                                        by_cases c857 : q1173 = (41 : Int32)
                                                                                        · have h := h_T c857 h
                                                                                          refine v_tabIn (tgt := 1951) hX dL_law_33 (by rw [c857]; decide) (by rw [c857]; decide) (by rw [c857]; rfl) (by decide) ?_
                                                                                          refine v_aload_n hX dL_law_1951 1 rfl rfl ?_
                                                                                          refine v_aload_n hX dL_law_1952 0 rfl rfl ?_
                                                                                          refine v_iload_n hX dL_law_1953 3 rfl rfl ?_
                                                                                          refine v_iconst (v := 1) hX dL_law_1954 (by decide) ?_
                                                                                          refine v_iadd hX dL_law_1955 ?_
                                                                                          obtain ⟨e858, i859, h⟩ := h
                                                                                          refine v_sld hX hS0 dL_law_1956 e858 i859 ?_
                                                                                          refine v_aload_n hX dL_law_1957 0 rfl rfl ?_
                                                                                          refine v_iload_n hX dL_law_1958 3 rfl rfl ?_
                                                                                          refine v_iconst (v := 2) hX dL_law_1959 (by decide) ?_
                                                                                          refine v_iadd hX dL_law_1960 ?_
                                                                                          obtain ⟨e860, i861, h⟩ := h
                                                                                          refine v_sld hX hS0 dL_law_1961 e860 i861 ?_
                                                                                          obtain ⟨k862, h⟩ := h
                                                                                          refine v_callVi0 hX dL_law_1962 c_RL_184 cV_X11_quotes (ci := 12) (T := TX11) (N := 19) rfl (by exact k862) [pI _, pI _] rfl rfl (Nat.le_of_ble_eq_true rfl) (by decide) (by decide)  (m_X11_quotes h) (fun p864 s863 h => ?_)
                                                                                          refine v_aload_n hX dL_law_1965 2 rfl rfl ?_
                                                                                          refine v_aload_n hX dL_law_1966 0 rfl rfl ?_
                                                                                          refine v_iload_n hX dL_law_1967 3 rfl rfl ?_
                                                                                          refine v_iconst (v := 1) hX dL_law_1968 (by decide) ?_
                                                                                          refine v_iadd hX dL_law_1969 ?_
                                                                                          obtain ⟨e865, i866, h⟩ := h
                                                                                          refine v_sld hX hS0 dL_law_1970 e865 i866 ?_
                                                                                          refine v_aload_n hX dL_law_1971 0 rfl rfl ?_
                                                                                          refine v_iload_n hX dL_law_1972 3 rfl rfl ?_
                                                                                          refine v_iconst (v := 2) hX dL_law_1973 (by decide) ?_
                                                                                          refine v_iadd hX dL_law_1974 ?_
                                                                                          obtain ⟨e867, i868, h⟩ := h
                                                                                          refine v_sld hX hS0 dL_law_1975 e867 i868 ?_
                                                                                          obtain ⟨k869, h⟩ := h
                                                                                          refine v_callVi0 hX dL_law_1976 c_RL_187 cV_X12_quotes (ci := 13) (T := TX12) (N := 115) rfl (by exact k869) [pI _, pI _] rfl rfl (Nat.le_of_ble_eq_true rfl) (by decide) (by decide)  (m_X12_quotes h) (fun p871 s870 h => ?_)
                                                                                          refine v_icmp_eq (tgt := 2612) hX dL_law_1979 (by decide) (fun c872 => ?_) (fun c872 => ?_)
                                                                                          · have h := h_T c872 h
                                                                                            refine v_pick [0, 1, 2, 3] rfl ?_
                                                                                            exact b_L_law_2612 hS0 hX hE hK18 _ h
                                                                                          · have h := h_E c872 h
                                                                                            refine v_iconst (v := 0) hX dL_law_1982 (by decide) ?_
                                                                                            exact h.elim
                                                                                        · have h := h_E c857 h
                                                                                          by_cases c873 : q1173 = (42 : Int32)
                                                                                          · have h := h_T c873 h
                                                                                            refine v_tabIn (tgt := 1984) hX dL_law_33 (by rw [c873]; decide) (by rw [c873]; decide) (by rw [c873]; rfl) (by decide) ?_
                                                                                            refine v_aload_n hX dL_law_1984 1 rfl rfl ?_
                                                                                            refine v_aload_n hX dL_law_1985 0 rfl rfl ?_
                                                                                            refine v_iload_n hX dL_law_1986 3 rfl rfl ?_
                                                                                            refine v_iconst (v := 1) hX dL_law_1987 (by decide) ?_
                                                                                            refine v_iadd hX dL_law_1988 ?_
                                                                                            obtain ⟨e874, i875, h⟩ := h
                                                                                            refine v_sld hX hS0 dL_law_1989 e874 i875 ?_
                                                                                            refine v_aload_n hX dL_law_1990 0 rfl rfl ?_
                                                                                            refine v_iload_n hX dL_law_1991 3 rfl rfl ?_
                                                                                            refine v_iconst (v := 2) hX dL_law_1992 (by decide) ?_
                                                                                            refine v_iadd hX dL_law_1993 ?_
                                                                                            obtain ⟨e876, i877, h⟩ := h
                                                                                            refine v_sld hX hS0 dL_law_1994 e876 i877 ?_
                                                                                            refine v_aload_n hX dL_law_1995 0 rfl rfl ?_
                                                                                            refine v_iload_n hX dL_law_1996 3 rfl rfl ?_
                                                                                            refine v_iconst (v := 3) hX dL_law_1997 (by decide) ?_
                                                                                            refine v_iadd hX dL_law_1998 ?_
                                                                                            obtain ⟨e878, i879, h⟩ := h
                                                                                            refine v_sld hX hS0 dL_law_1999 e878 i879 ?_
                                                                                            refine v_aload_n hX dL_law_2000 0 rfl rfl ?_
                                                                                            refine v_iload_n hX dL_law_2001 3 rfl rfl ?_
                                                                                            refine v_iconst (v := 4) hX dL_law_2002 (by decide) ?_
                                                                                            refine v_iadd hX dL_law_2003 ?_
                                                                                            obtain ⟨e880, i881, h⟩ := h
                                                                                            refine v_sld hX hS0 dL_law_2004 e880 i881 ?_
                                                                                            refine v_aload_n hX dL_law_2005 0 rfl rfl ?_
                                                                                            refine v_iload_n hX dL_law_2006 3 rfl rfl ?_
                                                                                            refine v_iconst (v := 5) hX dL_law_2007 (by decide) ?_
                                                                                            refine v_iadd hX dL_law_2008 ?_
                                                                                            obtain ⟨e882, i883, h⟩ := h
                                                                                            refine v_sld hX hS0 dL_law_2009 e882 i883 ?_
                                                                                            obtain ⟨k884, h⟩ := h
                                                                                            obtain ⟨mc887, ms888, b889, b890, h⟩ := h
                                                                                            refine v_callVi hX dL_law_2010 c_RL_188 cV_X11_seek (ci := 12) (T := TX11) (N := 19) rfl (by exact k884) [pI _, pI _, pI _, pI _, pI _] rfl rfl (Nat.le_of_ble_eq_true rfl) (by decide) (by decide) b889 b890 (m_X11_seek h) (fun p886 s885 h => ?_)
                                                                                            refine v_aload_n hX dL_law_2013 2 rfl rfl ?_
                                                                                            refine v_aload_n hX dL_law_2014 0 rfl rfl ?_
                                                                                            refine v_iload_n hX dL_law_2015 3 rfl rfl ?_
                                                                                            refine v_iconst (v := 1) hX dL_law_2016 (by decide) ?_
                                                                                            refine v_iadd hX dL_law_2017 ?_
                                                                                            obtain ⟨e891, i892, h⟩ := h
                                                                                            refine v_sld hX hS0 dL_law_2018 e891 i892 ?_
                                                                                            refine v_aload_n hX dL_law_2019 0 rfl rfl ?_
                                                                                            refine v_iload_n hX dL_law_2020 3 rfl rfl ?_
                                                                                            refine v_iconst (v := 2) hX dL_law_2021 (by decide) ?_
                                                                                            refine v_iadd hX dL_law_2022 ?_
                                                                                            obtain ⟨e893, i894, h⟩ := h
                                                                                            refine v_sld hX hS0 dL_law_2023 e893 i894 ?_
                                                                                            refine v_aload_n hX dL_law_2024 0 rfl rfl ?_
                                                                                            refine v_iload_n hX dL_law_2025 3 rfl rfl ?_
                                                                                            refine v_iconst (v := 3) hX dL_law_2026 (by decide) ?_
                                                                                            refine v_iadd hX dL_law_2027 ?_
                                                                                            obtain ⟨e895, i896, h⟩ := h
                                                                                            refine v_sld hX hS0 dL_law_2028 e895 i896 ?_
                                                                                            refine v_aload_n hX dL_law_2029 0 rfl rfl ?_
                                                                                            refine v_iload_n hX dL_law_2030 3 rfl rfl ?_
                                                                                            refine v_iconst (v := 4) hX dL_law_2031 (by decide) ?_
                                                                                            refine v_iadd hX dL_law_2032 ?_
                                                                                            obtain ⟨e897, i898, h⟩ := h
                                                                                            refine v_sld hX hS0 dL_law_2033 e897 i898 ?_
                                                                                            refine v_aload_n hX dL_law_2034 0 rfl rfl ?_
                                                                                            refine v_iload_n hX dL_law_2035 3 rfl rfl ?_
                                                                                            refine v_iconst (v := 5) hX dL_law_2036 (by decide) ?_
                                                                                            refine v_iadd hX dL_law_2037 ?_
                                                                                            obtain ⟨e899, i900, h⟩ := h
                                                                                            refine v_sld hX hS0 dL_law_2038 e899 i900 ?_
                                                                                            obtain ⟨k901, h⟩ := h
                                                                                            refine v_callVi0 hX dL_law_2039 c_RL_191 cV_X12_seek (ci := 13) (T := TX12) (N := 115) rfl (by exact k901) [pI _, pI _, pI _, pI _, pI _] rfl rfl (Nat.le_of_ble_eq_true rfl) (by decide) (by decide)  (m_X12_seek h) (fun p903 s902 h => ?_)
                                                                                            refine v_icmp_eq (tgt := 2612) hX dL_law_2042 (by decide) (fun c904 => ?_) (fun c904 => ?_)
                                                                                            · have h := h_T c904 h
                                                                                              refine v_pick [0, 1, 2, 3] rfl ?_
                                                                                              exact b_L_law_2612 hS0 hX hE hK18 _ h
                                                                                            · have h := h_E c904 h
                                                                                              refine v_iconst (v := 0) hX dL_law_2045 (by decide) ?_
                                                                                              exact h.elim
                                                                                          · have h := h_E c873 h
                                                                                            by_cases c905 : q1173 = (43 : Int32)
                                                                                            · have h := h_T c905 h
                                                                                              refine v_tabIn (tgt := 2047) hX dL_law_33 (by rw [c905]; decide) (by rw [c905]; decide) (by rw [c905]; rfl) (by decide) ?_
                                                                                              refine v_aload_n hX dL_law_2047 1 rfl rfl ?_
                                                                                              refine v_aload_n hX dL_law_2048 0 rfl rfl ?_
                                                                                              refine v_iload_n hX dL_law_2049 3 rfl rfl ?_
                                                                                              refine v_iconst (v := 1) hX dL_law_2050 (by decide) ?_
                                                                                              refine v_iadd hX dL_law_2051 ?_
                                                                                              obtain ⟨e906, i907, h⟩ := h
                                                                                              refine v_sld hX hS0 dL_law_2052 e906 i907 ?_
                                                                                              refine v_aload_n hX dL_law_2053 0 rfl rfl ?_
                                                                                              refine v_iload_n hX dL_law_2054 3 rfl rfl ?_
                                                                                              refine v_iconst (v := 2) hX dL_law_2055 (by decide) ?_
                                                                                              refine v_iadd hX dL_law_2056 ?_
                                                                                              obtain ⟨e908, i909, h⟩ := h
                                                                                              refine v_sld hX hS0 dL_law_2057 e908 i909 ?_
                                                                                              obtain ⟨k910, h⟩ := h
                                                                                              refine v_callVi0 hX dL_law_2058 c_RL_192 cV_X11_hit (ci := 12) (T := TX11) (N := 19) rfl (by exact k910) [pI _, pI _] rfl rfl (Nat.le_of_ble_eq_true rfl) (by decide) (by decide)  (m_X11_hit h) (fun p912 s911 h => ?_)
                                                                                              refine v_aload_n hX dL_law_2061 2 rfl rfl ?_
                                                                                              refine v_aload_n hX dL_law_2062 0 rfl rfl ?_
                                                                                              refine v_iload_n hX dL_law_2063 3 rfl rfl ?_
                                                                                              refine v_iconst (v := 1) hX dL_law_2064 (by decide) ?_
                                                                                              refine v_iadd hX dL_law_2065 ?_
                                                                                              obtain ⟨e913, i914, h⟩ := h
                                                                                              refine v_sld hX hS0 dL_law_2066 e913 i914 ?_
                                                                                              refine v_aload_n hX dL_law_2067 0 rfl rfl ?_
                                                                                              refine v_iload_n hX dL_law_2068 3 rfl rfl ?_
                                                                                              refine v_iconst (v := 2) hX dL_law_2069 (by decide) ?_
                                                                                              refine v_iadd hX dL_law_2070 ?_
                                                                                              obtain ⟨e915, i916, h⟩ := h
                                                                                              refine v_sld hX hS0 dL_law_2071 e915 i916 ?_
                                                                                              obtain ⟨k917, h⟩ := h
                                                                                              refine v_callVi0 hX dL_law_2072 c_RL_195 cV_X12_hit (ci := 13) (T := TX12) (N := 115) rfl (by exact k917) [pI _, pI _] rfl rfl (Nat.le_of_ble_eq_true rfl) (by decide) (by decide)  (m_X12_hit h) (fun p919 s918 h => ?_)
                                                                                              refine v_icmp_eq (tgt := 2612) hX dL_law_2075 (by decide) (fun c920 => ?_) (fun c920 => ?_)
                                                                                              · have h := h_T c920 h
                                                                                                refine v_pick [0, 1, 2, 3] rfl ?_
                                                                                                exact b_L_law_2612 hS0 hX hE hK18 _ h
                                                                                              · have h := h_E c920 h
                                                                                                refine v_iconst (v := 0) hX dL_law_2078 (by decide) ?_
                                                                                                exact h.elim
                                                                                            · have h := h_E c905 h
                                                                                              by_cases c921 : q1173 = (44 : Int32)
                                                                                              · have h := h_T c921 h
                                                                                                refine v_tabIn (tgt := 2080) hX dL_law_33 (by rw [c921]; decide) (by rw [c921]; decide) (by rw [c921]; rfl) (by decide) ?_
                                                                                                refine v_aload_n hX dL_law_2080 1 rfl rfl ?_
                                                                                                refine v_aload_n hX dL_law_2081 0 rfl rfl ?_
                                                                                                refine v_iload_n hX dL_law_2082 3 rfl rfl ?_
                                                                                                refine v_iconst (v := 1) hX dL_law_2083 (by decide) ?_
                                                                                                refine v_iadd hX dL_law_2084 ?_
                                                                                                obtain ⟨e922, i923, h⟩ := h
                                                                                                refine v_sld hX hS0 dL_law_2085 e922 i923 ?_
                                                                                                obtain ⟨k924, h⟩ := h
                                                                                                refine v_callVi0 hX dL_law_2086 c_RL_196 cV_X11_seal (ci := 12) (T := TX11) (N := 19) rfl (by exact k924) [pI _] rfl rfl (Nat.le_of_ble_eq_true rfl) (by decide) (by decide)  (m_X11_seal h) (fun p926 s925 h => ?_)
                                                                                                refine v_aload_n hX dL_law_2089 2 rfl rfl ?_
                                                                                                refine v_aload_n hX dL_law_2090 0 rfl rfl ?_
                                                                                                refine v_iload_n hX dL_law_2091 3 rfl rfl ?_
                                                                                                refine v_iconst (v := 1) hX dL_law_2092 (by decide) ?_
                                                                                                refine v_iadd hX dL_law_2093 ?_
                                                                                                obtain ⟨e927, i928, h⟩ := h
                                                                                                refine v_sld hX hS0 dL_law_2094 e927 i928 ?_
                                                                                                obtain ⟨k929, h⟩ := h
                                                                                                refine v_callVi0 hX dL_law_2095 c_RL_199 cV_X12_seal (ci := 13) (T := TX12) (N := 115) rfl (by exact k929) [pI _] rfl rfl (Nat.le_of_ble_eq_true rfl) (by decide) (by decide)  (m_X12_seal h) (fun p931 s930 h => ?_)
                                                                                                refine v_icmp_eq (tgt := 2612) hX dL_law_2098 (by decide) (fun c932 => ?_) (fun c932 => ?_)
                                                                                                · have h := h_T c932 h
                                                                                                  refine v_pick [0, 1, 2, 3] rfl ?_
                                                                                                  exact b_L_law_2612 hS0 hX hE hK18 _ h
                                                                                                · have h := h_E c932 h
                                                                                                  refine v_iconst (v := 0) hX dL_law_2101 (by decide) ?_
                                                                                                  exact h.elim
                                                                                              · have h := h_E c921 h
                                                                                                by_cases c933 : q1173 = (45 : Int32)
                                                                                                · have h := h_T c933 h
                                                                                                  refine v_tabIn (tgt := 2103) hX dL_law_33 (by rw [c933]; decide) (by rw [c933]; decide) (by rw [c933]; rfl) (by decide) ?_
                                                                                                  refine v_aload_n hX dL_law_2103 1 rfl rfl ?_
                                                                                                  refine v_aload_n hX dL_law_2104 0 rfl rfl ?_
                                                                                                  refine v_iload_n hX dL_law_2105 3 rfl rfl ?_
                                                                                                  refine v_iconst (v := 1) hX dL_law_2106 (by decide) ?_
                                                                                                  refine v_iadd hX dL_law_2107 ?_
                                                                                                  obtain ⟨e934, i935, h⟩ := h
                                                                                                  refine v_sld hX hS0 dL_law_2108 e934 i935 ?_
                                                                                                  refine v_aload_n hX dL_law_2109 0 rfl rfl ?_
                                                                                                  refine v_iload_n hX dL_law_2110 3 rfl rfl ?_
                                                                                                  refine v_iconst (v := 2) hX dL_law_2111 (by decide) ?_
                                                                                                  refine v_iadd hX dL_law_2112 ?_
                                                                                                  obtain ⟨e936, i937, h⟩ := h
                                                                                                  refine v_sld hX hS0 dL_law_2113 e936 i937 ?_
                                                                                                  refine v_aload_n hX dL_law_2114 0 rfl rfl ?_
                                                                                                  refine v_iload_n hX dL_law_2115 3 rfl rfl ?_
                                                                                                  refine v_iconst (v := 3) hX dL_law_2116 (by decide) ?_
                                                                                                  refine v_iadd hX dL_law_2117 ?_
                                                                                                  obtain ⟨e938, i939, h⟩ := h
                                                                                                  refine v_sld hX hS0 dL_law_2118 e938 i939 ?_
                                                                                                  obtain ⟨k940, h⟩ := h
                                                                                                  refine v_callVi0 hX dL_law_2119 c_RL_200 cV_X11_side (ci := 12) (T := TX11) (N := 19) rfl (by exact k940) [pI _, pI _, pI _] rfl rfl (Nat.le_of_ble_eq_true rfl) (by decide) (by decide)  (m_X11_side h) (fun p942 s941 h => ?_)
                                                                                                  refine v_aload_n hX dL_law_2122 2 rfl rfl ?_
                                                                                                  refine v_aload_n hX dL_law_2123 0 rfl rfl ?_
                                                                                                  refine v_iload_n hX dL_law_2124 3 rfl rfl ?_
                                                                                                  refine v_iconst (v := 1) hX dL_law_2125 (by decide) ?_
                                                                                                  refine v_iadd hX dL_law_2126 ?_
                                                                                                  obtain ⟨e943, i944, h⟩ := h
                                                                                                  refine v_sld hX hS0 dL_law_2127 e943 i944 ?_
                                                                                                  refine v_aload_n hX dL_law_2128 0 rfl rfl ?_
                                                                                                  refine v_iload_n hX dL_law_2129 3 rfl rfl ?_
                                                                                                  refine v_iconst (v := 2) hX dL_law_2130 (by decide) ?_
                                                                                                  refine v_iadd hX dL_law_2131 ?_
                                                                                                  obtain ⟨e945, i946, h⟩ := h
                                                                                                  refine v_sld hX hS0 dL_law_2132 e945 i946 ?_
                                                                                                  refine v_aload_n hX dL_law_2133 0 rfl rfl ?_
                                                                                                  refine v_iload_n hX dL_law_2134 3 rfl rfl ?_
                                                                                                  refine v_iconst (v := 3) hX dL_law_2135 (by decide) ?_
                                                                                                  refine v_iadd hX dL_law_2136 ?_
                                                                                                  obtain ⟨e947, i948, h⟩ := h
                                                                                                  refine v_sld hX hS0 dL_law_2137 e947 i948 ?_
                                                                                                  obtain ⟨k949, h⟩ := h
                                                                                                  refine v_callVi0 hX dL_law_2138 c_RL_203 cV_X12_side (ci := 13) (T := TX12) (N := 115) rfl (by exact k949) [pI _, pI _, pI _] rfl rfl (Nat.le_of_ble_eq_true rfl) (by decide) (by decide)  (m_X12_side h) (fun p951 s950 h => ?_)
                                                                                                  refine v_icmp_eq (tgt := 2612) hX dL_law_2141 (by decide) (fun c952 => ?_) (fun c952 => ?_)
                                                                                                  · have h := h_T c952 h
                                                                                                    refine v_pick [0, 1, 2, 3] rfl ?_
                                                                                                    exact b_L_law_2612 hS0 hX hE hK18 _ h
                                                                                                  · have h := h_E c952 h
                                                                                                    refine v_iconst (v := 0) hX dL_law_2144 (by decide) ?_
                                                                                                    exact h.elim
                                                                                                · have h := h_E c933 h
                                                                                                  by_cases c953 : q1173 = (46 : Int32)
                                                                                                  · have h := h_T c953 h
                                                                                                    refine v_tabIn (tgt := 2146) hX dL_law_33 (by rw [c953]; decide) (by rw [c953]; decide) (by rw [c953]; rfl) (by decide) ?_
                                                                                                    refine v_aload_n hX dL_law_2146 1 rfl rfl ?_
                                                                                                    refine v_aload_n hX dL_law_2147 0 rfl rfl ?_
                                                                                                    refine v_iload_n hX dL_law_2148 3 rfl rfl ?_
                                                                                                    refine v_iconst (v := 1) hX dL_law_2149 (by decide) ?_
                                                                                                    refine v_iadd hX dL_law_2150 ?_
                                                                                                    obtain ⟨e954, i955, h⟩ := h
                                                                                                    refine v_sld hX hS0 dL_law_2151 e954 i955 ?_
                                                                                                    refine v_aload_n hX dL_law_2152 0 rfl rfl ?_
                                                                                                    refine v_iload_n hX dL_law_2153 3 rfl rfl ?_
                                                                                                    refine v_iconst (v := 2) hX dL_law_2154 (by decide) ?_
                                                                                                    refine v_iadd hX dL_law_2155 ?_
                                                                                                    obtain ⟨e956, i957, h⟩ := h
                                                                                                    refine v_sld hX hS0 dL_law_2156 e956 i957 ?_
                                                                                                    refine v_aload_n hX dL_law_2157 0 rfl rfl ?_
                                                                                                    refine v_iload_n hX dL_law_2158 3 rfl rfl ?_
                                                                                                    refine v_iconst (v := 3) hX dL_law_2159 (by decide) ?_
                                                                                                    refine v_iadd hX dL_law_2160 ?_
                                                                                                    obtain ⟨e958, i959, h⟩ := h
                                                                                                    refine v_sld hX hS0 dL_law_2161 e958 i959 ?_
                                                                                                    refine v_aload_n hX dL_law_2162 0 rfl rfl ?_
                                                                                                    refine v_iload_n hX dL_law_2163 3 rfl rfl ?_
                                                                                                    refine v_iconst (v := 4) hX dL_law_2164 (by decide) ?_
                                                                                                    refine v_iadd hX dL_law_2165 ?_
                                                                                                    obtain ⟨e960, i961, h⟩ := h
                                                                                                    refine v_sld hX hS0 dL_law_2166 e960 i961 ?_
                                                                                                    refine v_aload_n hX dL_law_2167 0 rfl rfl ?_
                                                                                                    refine v_iload_n hX dL_law_2168 3 rfl rfl ?_
                                                                                                    refine v_iconst (v := 5) hX dL_law_2169 (by decide) ?_
                                                                                                    refine v_iadd hX dL_law_2170 ?_
                                                                                                    obtain ⟨e962, i963, h⟩ := h
                                                                                                    refine v_sld hX hS0 dL_law_2171 e962 i963 ?_
                                                                                                    refine v_aload_n hX dL_law_2172 0 rfl rfl ?_
                                                                                                    refine v_iload_n hX dL_law_2173 3 rfl rfl ?_
                                                                                                    refine v_bipush (v := 6) hX dL_law_2174 (by decide) ?_
                                                                                                    refine v_iadd hX dL_law_2176 ?_
                                                                                                    obtain ⟨e964, i965, h⟩ := h
                                                                                                    refine v_sld hX hS0 dL_law_2177 e964 i965 ?_
                                                                                                    refine v_aload_n hX dL_law_2178 0 rfl rfl ?_
                                                                                                    refine v_iload_n hX dL_law_2179 3 rfl rfl ?_
                                                                                                    refine v_bipush (v := 7) hX dL_law_2180 (by decide) ?_
                                                                                                    refine v_iadd hX dL_law_2182 ?_
                                                                                                    obtain ⟨e966, i967, h⟩ := h
                                                                                                    refine v_sld hX hS0 dL_law_2183 e966 i967 ?_
                                                                                                    refine v_aload_n hX dL_law_2184 0 rfl rfl ?_
                                                                                                    refine v_iload_n hX dL_law_2185 3 rfl rfl ?_
                                                                                                    refine v_bipush (v := 8) hX dL_law_2186 (by decide) ?_
                                                                                                    refine v_iadd hX dL_law_2188 ?_
                                                                                                    obtain ⟨e968, i969, h⟩ := h
                                                                                                    refine v_sld hX hS0 dL_law_2189 e968 i969 ?_
                                                                                                    obtain ⟨k970, h⟩ := h
                                                                                                    refine v_callVi0 hX dL_law_2190 c_RL_204 cV_X11_prove (ci := 12) (T := TX11) (N := 19) rfl (by exact k970) [pI _, pI _, pI _, pI _, pI _, pI _, pI _, pI _] rfl rfl (Nat.le_of_ble_eq_true rfl) (by decide) (by decide)  (m_X11_prove h) (fun p972 s971 h => ?_)
                                                                                                    refine v_aload_n hX dL_law_2193 2 rfl rfl ?_
                                                                                                    refine v_aload_n hX dL_law_2194 0 rfl rfl ?_
                                                                                                    refine v_iload_n hX dL_law_2195 3 rfl rfl ?_
                                                                                                    refine v_iconst (v := 1) hX dL_law_2196 (by decide) ?_
                                                                                                    refine v_iadd hX dL_law_2197 ?_
                                                                                                    obtain ⟨e973, i974, h⟩ := h
                                                                                                    refine v_sld hX hS0 dL_law_2198 e973 i974 ?_
                                                                                                    refine v_aload_n hX dL_law_2199 0 rfl rfl ?_
                                                                                                    refine v_iload_n hX dL_law_2200 3 rfl rfl ?_
                                                                                                    refine v_iconst (v := 2) hX dL_law_2201 (by decide) ?_
                                                                                                    refine v_iadd hX dL_law_2202 ?_
                                                                                                    obtain ⟨e975, i976, h⟩ := h
                                                                                                    refine v_sld hX hS0 dL_law_2203 e975 i976 ?_
                                                                                                    refine v_aload_n hX dL_law_2204 0 rfl rfl ?_
                                                                                                    refine v_iload_n hX dL_law_2205 3 rfl rfl ?_
                                                                                                    refine v_iconst (v := 3) hX dL_law_2206 (by decide) ?_
                                                                                                    refine v_iadd hX dL_law_2207 ?_
                                                                                                    obtain ⟨e977, i978, h⟩ := h
                                                                                                    refine v_sld hX hS0 dL_law_2208 e977 i978 ?_
                                                                                                    refine v_aload_n hX dL_law_2209 0 rfl rfl ?_
                                                                                                    refine v_iload_n hX dL_law_2210 3 rfl rfl ?_
                                                                                                    refine v_iconst (v := 4) hX dL_law_2211 (by decide) ?_
                                                                                                    refine v_iadd hX dL_law_2212 ?_
                                                                                                    obtain ⟨e979, i980, h⟩ := h
                                                                                                    refine v_sld hX hS0 dL_law_2213 e979 i980 ?_
                                                                                                    refine v_aload_n hX dL_law_2214 0 rfl rfl ?_
                                                                                                    refine v_iload_n hX dL_law_2215 3 rfl rfl ?_
                                                                                                    refine v_iconst (v := 5) hX dL_law_2216 (by decide) ?_
                                                                                                    refine v_iadd hX dL_law_2217 ?_
                                                                                                    obtain ⟨e981, i982, h⟩ := h
                                                                                                    refine v_sld hX hS0 dL_law_2218 e981 i982 ?_
                                                                                                    refine v_aload_n hX dL_law_2219 0 rfl rfl ?_
                                                                                                    refine v_iload_n hX dL_law_2220 3 rfl rfl ?_
                                                                                                    refine v_bipush (v := 6) hX dL_law_2221 (by decide) ?_
                                                                                                    refine v_iadd hX dL_law_2223 ?_
                                                                                                    obtain ⟨e983, i984, h⟩ := h
                                                                                                    refine v_sld hX hS0 dL_law_2224 e983 i984 ?_
                                                                                                    refine v_aload_n hX dL_law_2225 0 rfl rfl ?_
                                                                                                    refine v_iload_n hX dL_law_2226 3 rfl rfl ?_
                                                                                                    refine v_bipush (v := 7) hX dL_law_2227 (by decide) ?_
                                                                                                    refine v_iadd hX dL_law_2229 ?_
                                                                                                    obtain ⟨e985, i986, h⟩ := h
                                                                                                    refine v_sld hX hS0 dL_law_2230 e985 i986 ?_
                                                                                                    refine v_aload_n hX dL_law_2231 0 rfl rfl ?_
                                                                                                    refine v_iload_n hX dL_law_2232 3 rfl rfl ?_
                                                                                                    refine v_bipush (v := 8) hX dL_law_2233 (by decide) ?_
                                                                                                    refine v_iadd hX dL_law_2235 ?_
                                                                                                    obtain ⟨e987, i988, h⟩ := h
                                                                                                    refine v_sld hX hS0 dL_law_2236 e987 i988 ?_
                                                                                                    obtain ⟨k989, h⟩ := h
                                                                                                    refine v_callVi0 hX dL_law_2237 c_RL_208 cV_X12_prove (ci := 13) (T := TX12) (N := 115) rfl (by exact k989) [pI _, pI _, pI _, pI _, pI _, pI _, pI _, pI _] rfl rfl (Nat.le_of_ble_eq_true rfl) (by decide) (by decide)  (m_X12_prove h) (fun p991 s990 h => ?_)
                                                                                                    refine v_icmp_eq (tgt := 2612) hX dL_law_2240 (by decide) (fun c992 => ?_) (fun c992 => ?_)
                                                                                                    · have h := h_T c992 h
                                                                                                      refine v_pick [0, 1, 2, 3] rfl ?_
                                                                                                      exact b_L_law_2612 hS0 hX hE hK18 _ h
                                                                                                    · have h := h_E c992 h
                                                                                                      refine v_iconst (v := 0) hX dL_law_2243 (by decide) ?_
                                                                                                      exact h.elim
                                                                                                  · have h := h_E c953 h
                                                                                                    by_cases c993 : q1173 = (47 : Int32)
                                                                                                    · have h := h_T c993 h
                                                                                                      refine v_tabIn (tgt := 2245) hX dL_law_33 (by rw [c993]; decide) (by rw [c993]; decide) (by rw [c993]; rfl) (by decide) ?_
                                                                                                      refine v_aload_n hX dL_law_2245 1 rfl rfl ?_
                                                                                                      refine v_aload_n hX dL_law_2246 0 rfl rfl ?_
                                                                                                      refine v_iload_n hX dL_law_2247 3 rfl rfl ?_
                                                                                                      refine v_iconst (v := 1) hX dL_law_2248 (by decide) ?_
                                                                                                      refine v_iadd hX dL_law_2249 ?_
                                                                                                      obtain ⟨e994, i995, h⟩ := h
                                                                                                      refine v_sld hX hS0 dL_law_2250 e994 i995 ?_
                                                                                                      obtain ⟨k996, h⟩ := h
                                                                                                      refine v_callVi0 hX dL_law_2251 c_RL_209 cV_X11_stamp (ci := 12) (T := TX11) (N := 19) rfl (by exact k996) [pI _] rfl rfl (Nat.le_of_ble_eq_true rfl) (by decide) (by decide)  (m_X11_stamp h) (fun p998 s997 h => ?_)
                                                                                                      refine v_aload_n hX dL_law_2254 2 rfl rfl ?_
                                                                                                      refine v_aload_n hX dL_law_2255 0 rfl rfl ?_
                                                                                                      refine v_iload_n hX dL_law_2256 3 rfl rfl ?_
                                                                                                      refine v_iconst (v := 1) hX dL_law_2257 (by decide) ?_
                                                                                                      refine v_iadd hX dL_law_2258 ?_
                                                                                                      obtain ⟨e999, i1000, h⟩ := h
                                                                                                      refine v_sld hX hS0 dL_law_2259 e999 i1000 ?_
                                                                                                      obtain ⟨k1001, h⟩ := h
                                                                                                      refine v_callVi0 hX dL_law_2260 c_RL_212 cV_X12_stamp (ci := 13) (T := TX12) (N := 115) rfl (by exact k1001) [pI _] rfl rfl (Nat.le_of_ble_eq_true rfl) (by decide) (by decide)  (m_X12_stamp h) (fun p1003 s1002 h => ?_)
                                                                                                      refine v_icmp_eq (tgt := 2612) hX dL_law_2263 (by decide) (fun c1004 => ?_) (fun c1004 => ?_)
                                                                                                      · have h := h_T c1004 h
                                                                                                        refine v_pick [0, 1, 2, 3] rfl ?_
                                                                                                        exact b_L_law_2612 hS0 hX hE hK18 _ h
                                                                                                      · have h := h_E c1004 h
                                                                                                        refine v_iconst (v := 0) hX dL_law_2266 (by decide) ?_
                                                                                                        exact h.elim
                                                                                                    · have h := h_E c993 h
                                                                                                      by_cases c1005 : q1173 = (48 : Int32)
                                                                                                      · have h := h_T c1005 h
                                                                                                        refine v_tabIn (tgt := 2268) hX dL_law_33 (by rw [c1005]; decide) (by rw [c1005]; decide) (by rw [c1005]; rfl) (by decide) ?_
                                                                                                        refine v_aload_n hX dL_law_2268 1 rfl rfl ?_
                                                                                                        refine v_aload_n hX dL_law_2269 0 rfl rfl ?_
                                                                                                        refine v_iload_n hX dL_law_2270 3 rfl rfl ?_
                                                                                                        refine v_iconst (v := 1) hX dL_law_2271 (by decide) ?_
                                                                                                        refine v_iadd hX dL_law_2272 ?_
                                                                                                        obtain ⟨e1006, i1007, h⟩ := h
                                                                                                        refine v_sld hX hS0 dL_law_2273 e1006 i1007 ?_
                                                                                                        refine v_aload_n hX dL_law_2274 0 rfl rfl ?_
                                                                                                        refine v_iload_n hX dL_law_2275 3 rfl rfl ?_
                                                                                                        refine v_iconst (v := 2) hX dL_law_2276 (by decide) ?_
                                                                                                        refine v_iadd hX dL_law_2277 ?_
                                                                                                        obtain ⟨e1008, i1009, h⟩ := h
                                                                                                        refine v_sld hX hS0 dL_law_2278 e1008 i1009 ?_
                                                                                                        refine v_aload_n hX dL_law_2279 0 rfl rfl ?_
                                                                                                        refine v_iload_n hX dL_law_2280 3 rfl rfl ?_
                                                                                                        refine v_iconst (v := 3) hX dL_law_2281 (by decide) ?_
                                                                                                        refine v_iadd hX dL_law_2282 ?_
                                                                                                        obtain ⟨e1010, i1011, h⟩ := h
                                                                                                        refine v_sld hX hS0 dL_law_2283 e1010 i1011 ?_
                                                                                                        obtain ⟨k1012, h⟩ := h
                                                                                                        refine v_callVi0 hX dL_law_2284 c_RL_213 cV_X11_sheet (ci := 12) (T := TX11) (N := 19) rfl (by exact k1012) [pI _, pI _, pI _] rfl rfl (Nat.le_of_ble_eq_true rfl) (by decide) (by decide)  (m_X11_sheet h) (fun p1014 s1013 h => ?_)
                                                                                                        refine v_aload_n hX dL_law_2287 2 rfl rfl ?_
                                                                                                        refine v_aload_n hX dL_law_2288 0 rfl rfl ?_
                                                                                                        refine v_iload_n hX dL_law_2289 3 rfl rfl ?_
                                                                                                        refine v_iconst (v := 1) hX dL_law_2290 (by decide) ?_
                                                                                                        refine v_iadd hX dL_law_2291 ?_
                                                                                                        obtain ⟨e1015, i1016, h⟩ := h
                                                                                                        refine v_sld hX hS0 dL_law_2292 e1015 i1016 ?_
                                                                                                        refine v_aload_n hX dL_law_2293 0 rfl rfl ?_
                                                                                                        refine v_iload_n hX dL_law_2294 3 rfl rfl ?_
                                                                                                        refine v_iconst (v := 2) hX dL_law_2295 (by decide) ?_
                                                                                                        refine v_iadd hX dL_law_2296 ?_
                                                                                                        obtain ⟨e1017, i1018, h⟩ := h
                                                                                                        refine v_sld hX hS0 dL_law_2297 e1017 i1018 ?_
                                                                                                        refine v_aload_n hX dL_law_2298 0 rfl rfl ?_
                                                                                                        refine v_iload_n hX dL_law_2299 3 rfl rfl ?_
                                                                                                        refine v_iconst (v := 3) hX dL_law_2300 (by decide) ?_
                                                                                                        refine v_iadd hX dL_law_2301 ?_
                                                                                                        obtain ⟨e1019, i1020, h⟩ := h
                                                                                                        refine v_sld hX hS0 dL_law_2302 e1019 i1020 ?_
                                                                                                        obtain ⟨k1021, h⟩ := h
                                                                                                        refine v_callVi0 hX dL_law_2303 c_RL_216 cV_X12_sheet (ci := 13) (T := TX12) (N := 115) rfl (by exact k1021) [pI _, pI _, pI _] rfl rfl (Nat.le_of_ble_eq_true rfl) (by decide) (by decide)  (m_X12_sheet h) (fun p1023 s1022 h => ?_)
                                                                                                        refine v_icmp_eq (tgt := 2612) hX dL_law_2306 (by decide) (fun c1024 => ?_) (fun c1024 => ?_)
                                                                                                        · have h := h_T c1024 h
                                                                                                          refine v_pick [0, 1, 2, 3] rfl ?_
                                                                                                          exact b_L_law_2612 hS0 hX hE hK18 _ h
                                                                                                        · have h := h_E c1024 h
                                                                                                          refine v_iconst (v := 0) hX dL_law_2309 (by decide) ?_
                                                                                                          exact h.elim
                                                                                                      · have h := h_E c1005 h
                                                                                                        by_cases c1025 : q1173 = (49 : Int32)
                                                                                                        · have h := h_T c1025 h
                                                                                                          refine v_tabIn (tgt := 2311) hX dL_law_33 (by rw [c1025]; decide) (by rw [c1025]; decide) (by rw [c1025]; rfl) (by decide) ?_
                                                                                                          refine v_aload_n hX dL_law_2311 1 rfl rfl ?_
                                                                                                          refine v_aload_n hX dL_law_2312 0 rfl rfl ?_
                                                                                                          refine v_iload_n hX dL_law_2313 3 rfl rfl ?_
                                                                                                          refine v_iconst (v := 1) hX dL_law_2314 (by decide) ?_
                                                                                                          refine v_iadd hX dL_law_2315 ?_
                                                                                                          obtain ⟨e1026, i1027, h⟩ := h
                                                                                                          refine v_sld hX hS0 dL_law_2316 e1026 i1027 ?_
                                                                                                          obtain ⟨k1028, h⟩ := h
                                                                                                          refine v_callVi0 hX dL_law_2317 c_RL_217 cV_X11_lose (ci := 12) (T := TX11) (N := 19) rfl (by exact k1028) [pI _] rfl rfl (Nat.le_of_ble_eq_true rfl) (by decide) (by decide)  (m_X11_lose h) (fun p1030 s1029 h => ?_)
                                                                                                          refine v_aload_n hX dL_law_2320 2 rfl rfl ?_
                                                                                                          refine v_aload_n hX dL_law_2321 0 rfl rfl ?_
                                                                                                          refine v_iload_n hX dL_law_2322 3 rfl rfl ?_
                                                                                                          refine v_iconst (v := 1) hX dL_law_2323 (by decide) ?_
                                                                                                          refine v_iadd hX dL_law_2324 ?_
                                                                                                          obtain ⟨e1031, i1032, h⟩ := h
                                                                                                          refine v_sld hX hS0 dL_law_2325 e1031 i1032 ?_
                                                                                                          obtain ⟨k1033, h⟩ := h
                                                                                                          refine v_callVi0 hX dL_law_2326 c_RL_220 cV_X12_lose (ci := 13) (T := TX12) (N := 115) rfl (by exact k1033) [pI _] rfl rfl (Nat.le_of_ble_eq_true rfl) (by decide) (by decide)  (m_X12_lose h) (fun p1035 s1034 h => ?_)
                                                                                                          refine v_icmp_eq (tgt := 2612) hX dL_law_2329 (by decide) (fun c1036 => ?_) (fun c1036 => ?_)
                                                                                                          · have h := h_T c1036 h
                                                                                                            refine v_pick [0, 1, 2, 3] rfl ?_
                                                                                                            exact b_L_law_2612 hS0 hX hE hK18 _ h
                                                                                                          · have h := h_E c1036 h
                                                                                                            refine v_iconst (v := 0) hX dL_law_2332 (by decide) ?_
                                                                                                            exact h.elim
                                                                                                        · have h := h_E c1025 h
                                                                                                          by_cases c1037 : q1173 = (50 : Int32)
                                                                                                          · have h := h_T c1037 h
                                                                                                            refine v_tabIn (tgt := 2334) hX dL_law_33 (by rw [c1037]; decide) (by rw [c1037]; decide) (by rw [c1037]; rfl) (by decide) ?_
                                                                                                            refine v_aload_n hX dL_law_2334 1 rfl rfl ?_
                                                                                                            refine v_aload_n hX dL_law_2335 0 rfl rfl ?_
                                                                                                            refine v_iload_n hX dL_law_2336 3 rfl rfl ?_
                                                                                                            refine v_iconst (v := 1) hX dL_law_2337 (by decide) ?_
                                                                                                            refine v_iadd hX dL_law_2338 ?_
                                                                                                            obtain ⟨e1038, i1039, h⟩ := h
                                                                                                            refine v_sld hX hS0 dL_law_2339 e1038 i1039 ?_
                                                                                                            refine v_aload_n hX dL_law_2340 0 rfl rfl ?_
                                                                                                            refine v_iload_n hX dL_law_2341 3 rfl rfl ?_
                                                                                                            refine v_iconst (v := 2) hX dL_law_2342 (by decide) ?_
                                                                                                            refine v_iadd hX dL_law_2343 ?_
                                                                                                            obtain ⟨e1040, i1041, h⟩ := h
                                                                                                            refine v_sld hX hS0 dL_law_2344 e1040 i1041 ?_
                                                                                                            refine v_aload_n hX dL_law_2345 0 rfl rfl ?_
                                                                                                            refine v_iload_n hX dL_law_2346 3 rfl rfl ?_
                                                                                                            refine v_iconst (v := 3) hX dL_law_2347 (by decide) ?_
                                                                                                            refine v_iadd hX dL_law_2348 ?_
                                                                                                            obtain ⟨e1042, i1043, h⟩ := h
                                                                                                            refine v_sld hX hS0 dL_law_2349 e1042 i1043 ?_
                                                                                                            obtain ⟨k1044, h⟩ := h
                                                                                                            refine v_callVi0 hX dL_law_2350 c_RL_221 cV_X11_set (ci := 12) (T := TX11) (N := 19) rfl (by exact k1044) [pI _, pI _, pI _] rfl rfl (Nat.le_of_ble_eq_true rfl) (by decide) (by decide)  (m_X11_set h) (fun p1046 s1045 h => ?_)
                                                                                                            refine v_aload_n hX dL_law_2353 2 rfl rfl ?_
                                                                                                            refine v_aload_n hX dL_law_2354 0 rfl rfl ?_
                                                                                                            refine v_iload_n hX dL_law_2355 3 rfl rfl ?_
                                                                                                            refine v_iconst (v := 1) hX dL_law_2356 (by decide) ?_
                                                                                                            refine v_iadd hX dL_law_2357 ?_
                                                                                                            obtain ⟨e1047, i1048, h⟩ := h
                                                                                                            refine v_sld hX hS0 dL_law_2358 e1047 i1048 ?_
                                                                                                            refine v_aload_n hX dL_law_2359 0 rfl rfl ?_
                                                                                                            refine v_iload_n hX dL_law_2360 3 rfl rfl ?_
                                                                                                            refine v_iconst (v := 2) hX dL_law_2361 (by decide) ?_
                                                                                                            refine v_iadd hX dL_law_2362 ?_
                                                                                                            obtain ⟨e1049, i1050, h⟩ := h
                                                                                                            refine v_sld hX hS0 dL_law_2363 e1049 i1050 ?_
                                                                                                            refine v_aload_n hX dL_law_2364 0 rfl rfl ?_
                                                                                                            refine v_iload_n hX dL_law_2365 3 rfl rfl ?_
                                                                                                            refine v_iconst (v := 3) hX dL_law_2366 (by decide) ?_
                                                                                                            refine v_iadd hX dL_law_2367 ?_
                                                                                                            obtain ⟨e1051, i1052, h⟩ := h
                                                                                                            refine v_sld hX hS0 dL_law_2368 e1051 i1052 ?_
                                                                                                            obtain ⟨k1053, h⟩ := h
                                                                                                            refine v_callVi0 hX dL_law_2369 c_RL_224 cV_X12_set (ci := 13) (T := TX12) (N := 115) rfl (by exact k1053) [pI _, pI _, pI _] rfl rfl (Nat.le_of_ble_eq_true rfl) (by decide) (by decide)  (m_X12_set h) (fun p1055 s1054 h => ?_)
                                                                                                            refine v_icmp_eq (tgt := 2612) hX dL_law_2372 (by decide) (fun c1056 => ?_) (fun c1056 => ?_)
                                                                                                            · have h := h_T c1056 h
                                                                                                              refine v_pick [0, 1, 2, 3] rfl ?_
                                                                                                              exact b_L_law_2612 hS0 hX hE hK18 _ h
                                                                                                            · have h := h_E c1056 h
                                                                                                              refine v_iconst (v := 0) hX dL_law_2375 (by decide) ?_
                                                                                                              exact h.elim
                                                                                                          · have h := h_E c1037 h
                                                                                                            by_cases c1057 : q1173 = (51 : Int32)
                                                                                                            · have h := h_T c1057 h
                                                                                                              refine v_tabIn (tgt := 2377) hX dL_law_33 (by rw [c1057]; decide) (by rw [c1057]; decide) (by rw [c1057]; rfl) (by decide) ?_
                                                                                                              refine v_aload_n hX dL_law_2377 1 rfl rfl ?_
                                                                                                              refine v_aload_n hX dL_law_2378 0 rfl rfl ?_
                                                                                                              refine v_iload_n hX dL_law_2379 3 rfl rfl ?_
                                                                                                              refine v_iconst (v := 1) hX dL_law_2380 (by decide) ?_
                                                                                                              refine v_iadd hX dL_law_2381 ?_
                                                                                                              obtain ⟨e1058, i1059, h⟩ := h
                                                                                                              refine v_sld hX hS0 dL_law_2382 e1058 i1059 ?_
                                                                                                              refine v_aload_n hX dL_law_2383 0 rfl rfl ?_
                                                                                                              refine v_iload_n hX dL_law_2384 3 rfl rfl ?_
                                                                                                              refine v_iconst (v := 2) hX dL_law_2385 (by decide) ?_
                                                                                                              refine v_iadd hX dL_law_2386 ?_
                                                                                                              obtain ⟨e1060, i1061, h⟩ := h
                                                                                                              refine v_sld hX hS0 dL_law_2387 e1060 i1061 ?_
                                                                                                              refine v_aload_n hX dL_law_2388 0 rfl rfl ?_
                                                                                                              refine v_iload_n hX dL_law_2389 3 rfl rfl ?_
                                                                                                              refine v_iconst (v := 3) hX dL_law_2390 (by decide) ?_
                                                                                                              refine v_iadd hX dL_law_2391 ?_
                                                                                                              obtain ⟨e1062, i1063, h⟩ := h
                                                                                                              refine v_sld hX hS0 dL_law_2392 e1062 i1063 ?_
                                                                                                              obtain ⟨k1064, h⟩ := h
                                                                                                              refine v_callVl0 hX dL_law_2393 c_RL_225 cV_X11_cell (ci := 12) (T := TX11) (N := 19) rfl (by exact k1064) [pI _, pI _, pI _] rfl rfl (Nat.le_of_ble_eq_true rfl) (by decide) (by decide)  (m_X11_cell h) (fun p1066 s1065 h => ?_)
                                                                                                              refine v_aload_n hX dL_law_2396 2 rfl rfl ?_
                                                                                                              refine v_aload_n hX dL_law_2397 0 rfl rfl ?_
                                                                                                              refine v_iload_n hX dL_law_2398 3 rfl rfl ?_
                                                                                                              refine v_iconst (v := 1) hX dL_law_2399 (by decide) ?_
                                                                                                              refine v_iadd hX dL_law_2400 ?_
                                                                                                              obtain ⟨e1067, i1068, h⟩ := h
                                                                                                              refine v_sld hX hS0 dL_law_2401 e1067 i1068 ?_
                                                                                                              refine v_aload_n hX dL_law_2402 0 rfl rfl ?_
                                                                                                              refine v_iload_n hX dL_law_2403 3 rfl rfl ?_
                                                                                                              refine v_iconst (v := 2) hX dL_law_2404 (by decide) ?_
                                                                                                              refine v_iadd hX dL_law_2405 ?_
                                                                                                              obtain ⟨e1069, i1070, h⟩ := h
                                                                                                              refine v_sld hX hS0 dL_law_2406 e1069 i1070 ?_
                                                                                                              refine v_aload_n hX dL_law_2407 0 rfl rfl ?_
                                                                                                              refine v_iload_n hX dL_law_2408 3 rfl rfl ?_
                                                                                                              refine v_iconst (v := 3) hX dL_law_2409 (by decide) ?_
                                                                                                              refine v_iadd hX dL_law_2410 ?_
                                                                                                              obtain ⟨e1071, i1072, h⟩ := h
                                                                                                              refine v_sld hX hS0 dL_law_2411 e1071 i1072 ?_
                                                                                                              obtain ⟨k1073, h⟩ := h
                                                                                                              refine v_callVl0 hX dL_law_2412 c_RL_229 cV_X12_cell (ci := 13) (T := TX12) (N := 115) rfl (by exact k1073) [pI _, pI _, pI _] rfl rfl (Nat.le_of_ble_eq_true rfl) (by decide) (by decide)  (m_X12_cell h) (fun p1075 s1074 h => ?_)
                                                                                                              refine v_lcmp hX dL_law_2415 ?_
                                                                                                              refine v_if_eq (tgt := 2612) hX dL_law_2416 (by decide) (fun c1076 => ?_) (fun c1076 => ?_)
                                                                                                              · have h := h_T c1076 h
                                                                                                                refine v_pick [0, 1, 2, 3] rfl ?_
                                                                                                                exact b_L_law_2612 hS0 hX hE hK18 _ h
                                                                                                              · have h := h_E c1076 h
                                                                                                                refine v_iconst (v := 0) hX dL_law_2419 (by decide) ?_
                                                                                                                exact h.elim
                                                                                                            · have h := h_E c1057 h
                                                                                                              by_cases c1077 : q1173 = (52 : Int32)
                                                                                                              · have h := h_T c1077 h
                                                                                                                refine v_tabIn (tgt := 2421) hX dL_law_33 (by rw [c1077]; decide) (by rw [c1077]; decide) (by rw [c1077]; rfl) (by decide) ?_
                                                                                                                refine v_aload_n hX dL_law_2421 1 rfl rfl ?_
                                                                                                                refine v_aload_n hX dL_law_2422 0 rfl rfl ?_
                                                                                                                refine v_iload_n hX dL_law_2423 3 rfl rfl ?_
                                                                                                                refine v_iconst (v := 1) hX dL_law_2424 (by decide) ?_
                                                                                                                refine v_iadd hX dL_law_2425 ?_
                                                                                                                obtain ⟨e1078, i1079, h⟩ := h
                                                                                                                refine v_sld hX hS0 dL_law_2426 e1078 i1079 ?_
                                                                                                                refine v_aload_n hX dL_law_2427 0 rfl rfl ?_
                                                                                                                refine v_iload_n hX dL_law_2428 3 rfl rfl ?_
                                                                                                                refine v_iconst (v := 2) hX dL_law_2429 (by decide) ?_
                                                                                                                refine v_iadd hX dL_law_2430 ?_
                                                                                                                obtain ⟨e1080, i1081, h⟩ := h
                                                                                                                refine v_sld hX hS0 dL_law_2431 e1080 i1081 ?_
                                                                                                                refine v_aload_n hX dL_law_2432 0 rfl rfl ?_
                                                                                                                refine v_iload_n hX dL_law_2433 3 rfl rfl ?_
                                                                                                                refine v_iconst (v := 3) hX dL_law_2434 (by decide) ?_
                                                                                                                refine v_iadd hX dL_law_2435 ?_
                                                                                                                obtain ⟨e1082, i1083, h⟩ := h
                                                                                                                refine v_sld hX hS0 dL_law_2436 e1082 i1083 ?_
                                                                                                                refine v_aload_n hX dL_law_2437 0 rfl rfl ?_
                                                                                                                refine v_iload_n hX dL_law_2438 3 rfl rfl ?_
                                                                                                                refine v_iconst (v := 4) hX dL_law_2439 (by decide) ?_
                                                                                                                refine v_iadd hX dL_law_2440 ?_
                                                                                                                obtain ⟨e1084, i1085, h⟩ := h
                                                                                                                refine v_sld hX hS0 dL_law_2441 e1084 i1085 ?_
                                                                                                                refine v_aload_n hX dL_law_2442 0 rfl rfl ?_
                                                                                                                refine v_iload_n hX dL_law_2443 3 rfl rfl ?_
                                                                                                                refine v_iconst (v := 5) hX dL_law_2444 (by decide) ?_
                                                                                                                refine v_iadd hX dL_law_2445 ?_
                                                                                                                obtain ⟨e1086, i1087, h⟩ := h
                                                                                                                refine v_sld hX hS0 dL_law_2446 e1086 i1087 ?_
                                                                                                                obtain ⟨k1088, h⟩ := h
                                                                                                                refine v_callVi0 hX dL_law_2447 c_RL_230 cV_X11_copy (ci := 12) (T := TX11) (N := 19) rfl (by exact k1088) [pI _, pI _, pI _, pI _, pI _] rfl rfl (Nat.le_of_ble_eq_true rfl) (by decide) (by decide)  (m_X11_copy h) (fun p1090 s1089 h => ?_)
                                                                                                                refine v_aload_n hX dL_law_2450 2 rfl rfl ?_
                                                                                                                refine v_aload_n hX dL_law_2451 0 rfl rfl ?_
                                                                                                                refine v_iload_n hX dL_law_2452 3 rfl rfl ?_
                                                                                                                refine v_iconst (v := 1) hX dL_law_2453 (by decide) ?_
                                                                                                                refine v_iadd hX dL_law_2454 ?_
                                                                                                                obtain ⟨e1091, i1092, h⟩ := h
                                                                                                                refine v_sld hX hS0 dL_law_2455 e1091 i1092 ?_
                                                                                                                refine v_aload_n hX dL_law_2456 0 rfl rfl ?_
                                                                                                                refine v_iload_n hX dL_law_2457 3 rfl rfl ?_
                                                                                                                refine v_iconst (v := 2) hX dL_law_2458 (by decide) ?_
                                                                                                                refine v_iadd hX dL_law_2459 ?_
                                                                                                                obtain ⟨e1093, i1094, h⟩ := h
                                                                                                                refine v_sld hX hS0 dL_law_2460 e1093 i1094 ?_
                                                                                                                refine v_aload_n hX dL_law_2461 0 rfl rfl ?_
                                                                                                                refine v_iload_n hX dL_law_2462 3 rfl rfl ?_
                                                                                                                refine v_iconst (v := 3) hX dL_law_2463 (by decide) ?_
                                                                                                                refine v_iadd hX dL_law_2464 ?_
                                                                                                                obtain ⟨e1095, i1096, h⟩ := h
                                                                                                                refine v_sld hX hS0 dL_law_2465 e1095 i1096 ?_
                                                                                                                refine v_aload_n hX dL_law_2466 0 rfl rfl ?_
                                                                                                                refine v_iload_n hX dL_law_2467 3 rfl rfl ?_
                                                                                                                refine v_iconst (v := 4) hX dL_law_2468 (by decide) ?_
                                                                                                                refine v_iadd hX dL_law_2469 ?_
                                                                                                                obtain ⟨e1097, i1098, h⟩ := h
                                                                                                                refine v_sld hX hS0 dL_law_2470 e1097 i1098 ?_
                                                                                                                refine v_aload_n hX dL_law_2471 0 rfl rfl ?_
                                                                                                                refine v_iload_n hX dL_law_2472 3 rfl rfl ?_
                                                                                                                refine v_iconst (v := 5) hX dL_law_2473 (by decide) ?_
                                                                                                                refine v_iadd hX dL_law_2474 ?_
                                                                                                                obtain ⟨e1099, i1100, h⟩ := h
                                                                                                                refine v_sld hX hS0 dL_law_2475 e1099 i1100 ?_
                                                                                                                obtain ⟨k1101, h⟩ := h
                                                                                                                refine v_callVi0 hX dL_law_2476 c_RL_233 cV_X12_copy (ci := 13) (T := TX12) (N := 115) rfl (by exact k1101) [pI _, pI _, pI _, pI _, pI _] rfl rfl (Nat.le_of_ble_eq_true rfl) (by decide) (by decide)  (m_X12_copy h) (fun p1103 s1102 h => ?_)
                                                                                                                refine v_icmp_eq (tgt := 2612) hX dL_law_2479 (by decide) (fun c1104 => ?_) (fun c1104 => ?_)
                                                                                                                · have h := h_T c1104 h
                                                                                                                  refine v_pick [0, 1, 2, 3] rfl ?_
                                                                                                                  exact b_L_law_2612 hS0 hX hE hK18 _ h
                                                                                                                · have h := h_E c1104 h
                                                                                                                  refine v_iconst (v := 0) hX dL_law_2482 (by decide) ?_
                                                                                                                  exact h.elim
                                                                                                              · have h := h_E c1077 h
                                                                                                                by_cases c1105 : q1173 = (53 : Int32)
                                                                                                                · have h := h_T c1105 h
                                                                                                                  refine v_tabIn (tgt := 2484) hX dL_law_33 (by rw [c1105]; decide) (by rw [c1105]; decide) (by rw [c1105]; rfl) (by decide) ?_
                                                                                                                  refine v_aload_n hX dL_law_2484 1 rfl rfl ?_
                                                                                                                  refine v_aload_n hX dL_law_2485 0 rfl rfl ?_
                                                                                                                  refine v_iload_n hX dL_law_2486 3 rfl rfl ?_
                                                                                                                  refine v_iconst (v := 1) hX dL_law_2487 (by decide) ?_
                                                                                                                  refine v_iadd hX dL_law_2488 ?_
                                                                                                                  obtain ⟨e1106, i1107, h⟩ := h
                                                                                                                  refine v_sld hX hS0 dL_law_2489 e1106 i1107 ?_
                                                                                                                  obtain ⟨k1108, h⟩ := h
                                                                                                                  refine v_callVi0 hX dL_law_2490 c_RL_234 cV_X11_tell (ci := 12) (T := TX11) (N := 19) rfl (by exact k1108) [pI _] rfl rfl (Nat.le_of_ble_eq_true rfl) (by decide) (by decide)  (m_X11_tell h) (fun p1110 s1109 h => ?_)
                                                                                                                  refine v_aload_n hX dL_law_2493 2 rfl rfl ?_
                                                                                                                  refine v_aload_n hX dL_law_2494 0 rfl rfl ?_
                                                                                                                  refine v_iload_n hX dL_law_2495 3 rfl rfl ?_
                                                                                                                  refine v_iconst (v := 1) hX dL_law_2496 (by decide) ?_
                                                                                                                  refine v_iadd hX dL_law_2497 ?_
                                                                                                                  obtain ⟨e1111, i1112, h⟩ := h
                                                                                                                  refine v_sld hX hS0 dL_law_2498 e1111 i1112 ?_
                                                                                                                  obtain ⟨k1113, h⟩ := h
                                                                                                                  refine v_callVi0 hX dL_law_2499 c_RL_237 cV_X12_tell (ci := 13) (T := TX12) (N := 115) rfl (by exact k1113) [pI _] rfl rfl (Nat.le_of_ble_eq_true rfl) (by decide) (by decide)  (m_X12_tell h) (fun p1115 s1114 h => ?_)
                                                                                                                  refine v_icmp_eq (tgt := 2612) hX dL_law_2502 (by decide) (fun c1116 => ?_) (fun c1116 => ?_)
                                                                                                                  · have h := h_T c1116 h
                                                                                                                    refine v_pick [0, 1, 2, 3] rfl ?_
                                                                                                                    exact b_L_law_2612 hS0 hX hE hK18 _ h
                                                                                                                  · have h := h_E c1116 h
                                                                                                                    refine v_iconst (v := 0) hX dL_law_2505 (by decide) ?_
                                                                                                                    exact h.elim
                                                                                                                · have h := h_E c1105 h
                                                                                                                  by_cases c1117 : q1173 = (54 : Int32)
                                                                                                                  · have h := h_T c1117 h
                                                                                                                    refine v_tabIn (tgt := 2507) hX dL_law_33 (by rw [c1117]; decide) (by rw [c1117]; decide) (by rw [c1117]; rfl) (by decide) ?_
                                                                                                                    refine v_aload_n hX dL_law_2507 1 rfl rfl ?_
                                                                                                                    refine v_aload_n hX dL_law_2508 0 rfl rfl ?_
                                                                                                                    refine v_iload_n hX dL_law_2509 3 rfl rfl ?_
                                                                                                                    refine v_iconst (v := 1) hX dL_law_2510 (by decide) ?_
                                                                                                                    refine v_iadd hX dL_law_2511 ?_
                                                                                                                    obtain ⟨e1118, i1119, h⟩ := h
                                                                                                                    refine v_sld hX hS0 dL_law_2512 e1118 i1119 ?_
                                                                                                                    obtain ⟨k1120, h⟩ := h
                                                                                                                    refine v_callVi0 hX dL_law_2513 c_RL_238 cV_X11_name (ci := 12) (T := TX11) (N := 19) rfl (by exact k1120) [pI _] rfl rfl (Nat.le_of_ble_eq_true rfl) (by decide) (by decide)  (m_X11_name h) (fun p1122 s1121 h => ?_)
                                                                                                                    refine v_aload_n hX dL_law_2516 2 rfl rfl ?_
                                                                                                                    refine v_aload_n hX dL_law_2517 0 rfl rfl ?_
                                                                                                                    refine v_iload_n hX dL_law_2518 3 rfl rfl ?_
                                                                                                                    refine v_iconst (v := 1) hX dL_law_2519 (by decide) ?_
                                                                                                                    refine v_iadd hX dL_law_2520 ?_
                                                                                                                    obtain ⟨e1123, i1124, h⟩ := h
                                                                                                                    refine v_sld hX hS0 dL_law_2521 e1123 i1124 ?_
                                                                                                                    obtain ⟨k1125, h⟩ := h
                                                                                                                    refine v_callVi0 hX dL_law_2522 c_RL_241 cV_X12_name (ci := 13) (T := TX12) (N := 115) rfl (by exact k1125) [pI _] rfl rfl (Nat.le_of_ble_eq_true rfl) (by decide) (by decide)  (m_X12_name h) (fun p1127 s1126 h => ?_)
                                                                                                                    refine v_icmp_eq (tgt := 2612) hX dL_law_2525 (by decide) (fun c1128 => ?_) (fun c1128 => ?_)
                                                                                                                    · have h := h_T c1128 h
                                                                                                                      refine v_pick [0, 1, 2, 3] rfl ?_
                                                                                                                      exact b_L_law_2612 hS0 hX hE hK18 _ h
                                                                                                                    · have h := h_E c1128 h
                                                                                                                      refine v_iconst (v := 0) hX dL_law_2528 (by decide) ?_
                                                                                                                      exact h.elim
                                                                                                                  · have h := h_E c1117 h
                                                                                                                    by_cases c1129 : q1173 = (55 : Int32)
                                                                                                                    · have h := h_T c1129 h
                                                                                                                      refine v_tabIn (tgt := 2530) hX dL_law_33 (by rw [c1129]; decide) (by rw [c1129]; decide) (by rw [c1129]; rfl) (by decide) ?_
                                                                                                                      refine v_aload_n hX dL_law_2530 1 rfl rfl ?_
                                                                                                                      refine v_aload_n hX dL_law_2531 0 rfl rfl ?_
                                                                                                                      refine v_iload_n hX dL_law_2532 3 rfl rfl ?_
                                                                                                                      refine v_iconst (v := 1) hX dL_law_2533 (by decide) ?_
                                                                                                                      refine v_iadd hX dL_law_2534 ?_
                                                                                                                      obtain ⟨e1130, i1131, h⟩ := h
                                                                                                                      refine v_sld hX hS0 dL_law_2535 e1130 i1131 ?_
                                                                                                                      refine v_aload_n hX dL_law_2536 0 rfl rfl ?_
                                                                                                                      refine v_iload_n hX dL_law_2537 3 rfl rfl ?_
                                                                                                                      refine v_iconst (v := 2) hX dL_law_2538 (by decide) ?_
                                                                                                                      refine v_iadd hX dL_law_2539 ?_
                                                                                                                      obtain ⟨e1132, i1133, h⟩ := h
                                                                                                                      refine v_sld hX hS0 dL_law_2540 e1132 i1133 ?_
                                                                                                                      obtain ⟨k1134, h⟩ := h
                                                                                                                      refine v_callVi0 hX dL_law_2541 c_RL_242 cV_X11_as (ci := 12) (T := TX11) (N := 19) rfl (by exact k1134) [pI _, pI _] rfl rfl (Nat.le_of_ble_eq_true rfl) (by decide) (by decide)  (m_X11_as h) (fun p1136 s1135 h => ?_)
                                                                                                                      refine v_aload_n hX dL_law_2544 2 rfl rfl ?_
                                                                                                                      refine v_aload_n hX dL_law_2545 0 rfl rfl ?_
                                                                                                                      refine v_iload_n hX dL_law_2546 3 rfl rfl ?_
                                                                                                                      refine v_iconst (v := 1) hX dL_law_2547 (by decide) ?_
                                                                                                                      refine v_iadd hX dL_law_2548 ?_
                                                                                                                      obtain ⟨e1137, i1138, h⟩ := h
                                                                                                                      refine v_sld hX hS0 dL_law_2549 e1137 i1138 ?_
                                                                                                                      refine v_aload_n hX dL_law_2550 0 rfl rfl ?_
                                                                                                                      refine v_iload_n hX dL_law_2551 3 rfl rfl ?_
                                                                                                                      refine v_iconst (v := 2) hX dL_law_2552 (by decide) ?_
                                                                                                                      refine v_iadd hX dL_law_2553 ?_
                                                                                                                      obtain ⟨e1139, i1140, h⟩ := h
                                                                                                                      refine v_sld hX hS0 dL_law_2554 e1139 i1140 ?_
                                                                                                                      obtain ⟨k1141, h⟩ := h
                                                                                                                      refine v_callVi0 hX dL_law_2555 c_RL_245 cV_X12_as (ci := 13) (T := TX12) (N := 115) rfl (by exact k1141) [pI _, pI _] rfl rfl (Nat.le_of_ble_eq_true rfl) (by decide) (by decide)  (m_X12_as h) (fun p1143 s1142 h => ?_)
                                                                                                                      refine v_icmp_eq (tgt := 2612) hX dL_law_2558 (by decide) (fun c1144 => ?_) (fun c1144 => ?_)
                                                                                                                      · have h := h_T c1144 h
                                                                                                                        refine v_pick [0, 1, 2, 3] rfl ?_
                                                                                                                        exact b_L_law_2612 hS0 hX hE hK18 _ h
                                                                                                                      · have h := h_E c1144 h
                                                                                                                        refine v_iconst (v := 0) hX dL_law_2561 (by decide) ?_
                                                                                                                        exact h.elim
                                                                                                                    · have h := h_E c1129 h
                                                                                                                      by_cases c1145 : q1173 = (56 : Int32)
                                                                                                                      · have h := h_T c1145 h
                                                                                                                        refine v_tabIn (tgt := 2563) hX dL_law_33 (by rw [c1145]; decide) (by rw [c1145]; decide) (by rw [c1145]; rfl) (by decide) ?_
                                                                                                                        refine v_aload_n hX dL_law_2563 1 rfl rfl ?_
                                                                                                                        obtain ⟨k1146, h⟩ := h
                                                                                                                        refine v_callVi0 hX dL_law_2564 c_RL_246 cV_X11_trace (ci := 12) (T := TX11) (N := 19) rfl (by exact k1146) [] rfl rfl (Nat.le_of_ble_eq_true rfl) (by decide) (by decide)  (m_X11_trace h) (fun p1148 s1147 h => ?_)
                                                                                                                        refine v_aload_n hX dL_law_2567 2 rfl rfl ?_
                                                                                                                        obtain ⟨k1149, h⟩ := h
                                                                                                                        refine v_callVi0 hX dL_law_2568 c_RL_249 cV_X12_trace (ci := 13) (T := TX12) (N := 115) rfl (by exact k1149) [] rfl rfl (Nat.le_of_ble_eq_true rfl) (by decide) (by decide)  (m_X12_trace h) (fun p1151 s1150 h => ?_)
                                                                                                                        refine v_icmp_eq (tgt := 2612) hX dL_law_2571 (by decide) (fun c1152 => ?_) (fun c1152 => ?_)
                                                                                                                        · have h := h_T c1152 h
                                                                                                                          refine v_pick [0, 1, 2, 3] rfl ?_
                                                                                                                          exact b_L_law_2612 hS0 hX hE hK18 _ h
                                                                                                                        · have h := h_E c1152 h
                                                                                                                          refine v_iconst (v := 0) hX dL_law_2574 (by decide) ?_
                                                                                                                          exact h.elim
                                                                                                                      · have h := h_E c1145 h
                                                                                                                        by_cases c1153 : q1173 = (57 : Int32)
                                                                                                                        · have h := h_T c1153 h
                                                                                                                          refine v_tabIn (tgt := 2576) hX dL_law_33 (by rw [c1153]; decide) (by rw [c1153]; decide) (by rw [c1153]; rfl) (by decide) ?_
                                                                                                                          refine v_aload_n hX dL_law_2576 1 rfl rfl ?_
                                                                                                                          obtain ⟨k1154, h⟩ := h
                                                                                                                          refine v_callVi0 hX dL_law_2577 c_RL_250 cV_X11_fault (ci := 12) (T := TX11) (N := 19) rfl (by exact k1154) [] rfl rfl (Nat.le_of_ble_eq_true rfl) (by decide) (by decide)  (m_X11_fault h) (fun p1156 s1155 h => ?_)
                                                                                                                          refine v_aload_n hX dL_law_2580 2 rfl rfl ?_
                                                                                                                          obtain ⟨k1157, h⟩ := h
                                                                                                                          refine v_callVi0 hX dL_law_2581 c_RL_253 cV_X12_fault (ci := 13) (T := TX12) (N := 115) rfl (by exact k1157) [] rfl rfl (Nat.le_of_ble_eq_true rfl) (by decide) (by decide)  (m_X12_fault h) (fun p1159 s1158 h => ?_)
                                                                                                                          refine v_icmp_eq (tgt := 2612) hX dL_law_2584 (by decide) (fun c1160 => ?_) (fun c1160 => ?_)
                                                                                                                          · have h := h_T c1160 h
                                                                                                                            refine v_pick [0, 1, 2, 3] rfl ?_
                                                                                                                            exact b_L_law_2612 hS0 hX hE hK18 _ h
                                                                                                                          · have h := h_E c1160 h
                                                                                                                            refine v_iconst (v := 0) hX dL_law_2587 (by decide) ?_
                                                                                                                            exact h.elim
                                                                                                                        · have h := h_E c1153 h
                                                                                                                          by_cases c1161 : q1173 = (58 : Int32)
                                                                                                                          · have h := h_T c1161 h
                                                                                                                            refine v_tabIn (tgt := 2589) hX dL_law_33 (by rw [c1161]; decide) (by rw [c1161]; decide) (by rw [c1161]; rfl) (by decide) ?_
                                                                                                                            refine v_aload_n hX dL_law_2589 1 rfl rfl ?_
                                                                                                                            refine v_aload_n hX dL_law_2590 0 rfl rfl ?_
                                                                                                                            refine v_iload_n hX dL_law_2591 3 rfl rfl ?_
                                                                                                                            refine v_iconst (v := 1) hX dL_law_2592 (by decide) ?_
                                                                                                                            refine v_iadd hX dL_law_2593 ?_
                                                                                                                            obtain ⟨e1162, i1163, h⟩ := h
                                                                                                                            refine v_sld hX hS0 dL_law_2594 e1162 i1163 ?_
                                                                                                                            obtain ⟨k1164, h⟩ := h
                                                                                                                            refine v_callVi0 hX dL_law_2595 c_RL_254 cV_X11_many (ci := 12) (T := TX11) (N := 19) rfl (by exact k1164) [pI _] rfl rfl (Nat.le_of_ble_eq_true rfl) (by decide) (by decide)  (m_X11_many h) (fun p1166 s1165 h => ?_)
                                                                                                                            refine v_aload_n hX dL_law_2598 2 rfl rfl ?_
                                                                                                                            refine v_aload_n hX dL_law_2599 0 rfl rfl ?_
                                                                                                                            refine v_iload_n hX dL_law_2600 3 rfl rfl ?_
                                                                                                                            refine v_iconst (v := 1) hX dL_law_2601 (by decide) ?_
                                                                                                                            refine v_iadd hX dL_law_2602 ?_
                                                                                                                            obtain ⟨e1167, i1168, h⟩ := h
                                                                                                                            refine v_sld hX hS0 dL_law_2603 e1167 i1168 ?_
                                                                                                                            obtain ⟨k1169, h⟩ := h
                                                                                                                            refine v_callVi0 hX dL_law_2604 c_RL_257 cV_X12_many (ci := 13) (T := TX12) (N := 115) rfl (by exact k1169) [pI _] rfl rfl (Nat.le_of_ble_eq_true rfl) (by decide) (by decide)  (m_X12_many h) (fun p1171 s1170 h => ?_)
                                                                                                                            refine v_icmp_eq (tgt := 2612) hX dL_law_2607 (by decide) (fun c1172 => ?_) (fun c1172 => ?_)
                                                                                                                            · have h := h_T c1172 h
                                                                                                                              refine v_pick [0, 1, 2, 3] rfl ?_
                                                                                                                              exact b_L_law_2612 hS0 hX hE hK18 _ h
                                                                                                                            · have h := h_E c1172 h
                                                                                                                              refine v_iconst (v := 0) hX dL_law_2610 (by decide) ?_
                                                                                                                              exact h.elim
                                                                                                                          · have h := h_E c1161 h
                                                                                                                            refine v_tabOut (tgt := 2612) hX dL_law_33 (by have := h_ti c5 (n := 0) rfl; have := h_ti c13 (n := 1) rfl; have := h_ti c29 (n := 2) rfl; have := h_ti c45 (n := 3) rfl; have := h_ti c81 (n := 4) rfl; have := h_ti c109 (n := 5) rfl; have := h_ti c145 (n := 6) rfl; have := h_ti c177 (n := 7) rfl; have := h_ti c201 (n := 8) rfl; have := h_ti c229 (n := 9) rfl; have := h_ti c249 (n := 10) rfl; have := h_ti c269 (n := 11) rfl; have := h_ti c293 (n := 12) rfl; have := h_ti c305 (n := 13) rfl; have := h_ti c325 (n := 14) rfl; have := h_ti c341 (n := 15) rfl; have := h_ti c357 (n := 16) rfl; have := h_ti c369 (n := 17) rfl; have := h_ti c381 (n := 18) rfl; have := h_ti c397 (n := 19) rfl; have := h_ti c413 (n := 20) rfl; have := h_ti c433 (n := 21) rfl; have := h_ti c457 (n := 22) rfl; have := h_ti c473 (n := 23) rfl; have := h_ti c493 (n := 24) rfl; have := h_ti c525 (n := 25) rfl; have := h_ti c541 (n := 26) rfl; have := h_ti c561 (n := 27) rfl; have := h_ti c589 (n := 28) rfl; have := h_ti c621 (n := 29) rfl; have := h_ti c645 (n := 30) rfl; have := h_ti c657 (n := 31) rfl; have := h_ti c673 (n := 32) rfl; have := h_ti c697 (n := 33) rfl; have := h_ti c721 (n := 34) rfl; have := h_ti c745 (n := 35) rfl; have := h_ti c761 (n := 36) rfl; have := h_ti c777 (n := 37) rfl; have := h_ti c793 (n := 38) rfl; have := h_ti c813 (n := 39) rfl; have := h_ti c833 (n := 40) rfl; have := h_ti c857 (n := 41) rfl; have := h_ti c873 (n := 42) rfl; have := h_ti c905 (n := 43) rfl; have := h_ti c921 (n := 44) rfl; have := h_ti c933 (n := 45) rfl; have := h_ti c953 (n := 46) rfl; have := h_ti c993 (n := 47) rfl; have := h_ti c1005 (n := 48) rfl; have := h_ti c1025 (n := 49) rfl; have := h_ti c1037 (n := 50) rfl; have := h_ti c1057 (n := 51) rfl; have := h_ti c1077 (n := 52) rfl; have := h_ti c1105 (n := 53) rfl; have := h_ti c1117 (n := 54) rfl; have := h_ti c1129 (n := 55) rfl; have := h_ti c1145 (n := 56) rfl; have := h_ti c1153 (n := 57) rfl; have := h_ti c1161 (n := 58) rfl; omega) (by decide) ?_
                                                                                                                            refine v_pick [0, 1, 2, 3] rfl ?_
                                                                                                                            exact b_L_law_2612 hS0 hX hE hK18 _ h
set_option maxRecDepth 100000 in
set_option maxHeartbeats 4000000 in
theorem law_V {X : h_X} {b L : Nat} {xs : Nat → Int32} (hS0 : h_scr X b L xs) (hX : h_ok X cL_law 4 RL 2048 84000) (hE : h_lend X b) {Q : Int32 → h_S → Prop} {o0 : Nat} {s : h_S} {mc ms : Nat} (h : w_L_law (x_G X) b L xs o0 s mc ms Q) : h_V X 4 0 [(0, pR (some o0))] [] s mc ms := by
  unfold w_L_law at h
  obtain ⟨b3, b4, h⟩ := h
  refine v_new hX dL_law_0 n_RL_7 b3 b4 (fun q1 k2 => ?_)
  have h := h q1 k2
  refine v_dup hX dL_law_3 rfl ?_
  obtain ⟨mc10, ms11, b12, b13, h⟩ := h
  refine v_callIv hX dL_law_4 c_RL_9 cI_X11_init [] rfl rfl (Nat.le_of_ble_eq_true rfl) (by decide) (by decide) b12 b13 (m_X11_init h) (fun s8 h => ?_)
  refine v_astore_n (lv' := [(1, _), (0, _)]) hX dL_law_7 rfl (by decide) rfl ?_
  obtain ⟨b16, b17, h⟩ := h
  refine v_new hX dL_law_8 n_RL_10 b16 b17 (fun q14 k15 => ?_)
  have h := h q14 k15
  refine v_dup hX dL_law_11 rfl ?_
  obtain ⟨mc23, ms24, b25, b26, h⟩ := h
  refine v_callIv hX dL_law_12 c_RL_12 cI_X12_init [] rfl rfl (Nat.le_of_ble_eq_true rfl) (by decide) (by decide) b25 b26 (m_X12_init h) (fun s21 h => ?_)
  refine v_astore_n (lv' := [(2, _), (1, _), (0, _)]) hX dL_law_15 rfl (by decide) rfl ?_
  refine v_iconst (v := 0) hX dL_law_16 (by decide) ?_
  refine v_istore_n (lv' := [(3, _), (2, _), (1, _), (0, _)]) hX dL_law_17 rfl (by decide) rfl ?_
  refine v_pick [3, 2, 1, 0] rfl ?_
  obtain ⟨n, h⟩ := h
  exact b_L_law_18 hS0 hX hE n _ _ _ _ _ _ _ h
