section LAWC
variable {G : gT} {p : Program} {e : Env} {s : State} {mi : MethodId} {b : Nat} {bl : List Frame} {mt : Method} {cd : Code} {mn : String} {L : Nat} {xs : Nat → Int32} {rc rs o h0 i : Nat}
set_option maxHeartbeats 4000000 in
set_option maxRecDepth 100000 in
theorem lcall_meet (hx : LX G p e s mi b bl mt cd mn L xs) (hi : i + 6 ≤ L) (hrc : 115 ≤ rc) (hrs : 7360 ≤ rs) {hp : cH} {sz : Nat} (hV : IV h0 o hp sz) (kk : ∀ hp2 sz2, IV h0 o hp2 sz2 → NX G p e s mi b bl mt cd o h0 i (rc - 115) (rs - 7360) 1130 hp2 sz2) : NX G p e s mi b bl mt cd o h0 i rc rs 376 hp sz := by
  obtain ⟨P, d, _, ad, im, rw, c, S, R, H, g, Gs, m, pA, pB, id, hb, sorts, rows, hand, ga, qA, qB, draft, frame, one, two, turned, pI, pJ, fA, fB, fC, rfl, hp0, ho, hB, hI, hC, hS, hK, hH, hG, hG2, hA, hA2, hBq, hB2, hm, hid, had, hsz⟩ := hV
  have h5 := hx.2.1
  have hob := hC.1.1
  obtain ⟨K, k1, ⟨hp1, sz1, im1, rw1, y1, y2, y3⟩, s', r', w_draft, w_frame, w_one, w_two, w_turned, z1, z2⟩ := st_meet hp0 ho hB hI hC hS hK draft frame one two turned (xs (i + 1)) (xs (i + 2))
  have hkp : ∀ b, h0 ≤ b → b < h0 + 12 → hp1 b = z5 h0 (mw h0 hb (nI d) (lN P) (nI c) sorts rows hand (nI g) ga (nI m) qA qB id draft frame one two turned pI pJ fA fB fC) b := y3.k had hsz
  have hr : rng h0 hp1 := rng_mw.k hkp
  obtain ⟨O, hO, w⟩ := kk (z5 h0 (mw h0 hp1 (nI d) (lN P) (nI K.2.1) s' r' hand (nI g) ga (nI m) qA qB id w_draft w_frame w_one w_two w_turned pI pJ fA fB fC)) sz1 (IV.kp (im := im) (rw := rw) (sorts := sorts) (rows := rows) hp0 ho hB k1 y2 z2 hH hG hG2 hA hA2 hBq hB2 hm (Nat.le_refl m) hid had (Nat.le_trans hsz y3.2) hr w_draft w_frame w_one w_two w_turned pI pJ fA fB fC)
  have C := hx.1 O
  refine ⟨O, hO, ?_⟩
  refine r_aload_n C 1 rfl dL_376 rfl ?_
  refine l_arg hx hi 1 (by decide) (by decide) dL_377 dL_378 dL_379 dL_380 dL_381 ?_
  refine l_arg hx hi 2 (by decide) (by decide) dL_382 dL_383 dL_384 dL_385 dL_386 ?_
  refine q_callV C 0 (rc - 28) (rs - 64 * 28) (k_X5_meet y1) rfl hob rfl okX5_meet inX5_meet lkL_42 rfl (Nat.le_of_ble_eq_true rfl) ⟨Nat.le_of_ble_eq_true rfl, Nat.le_of_ble_eq_true rfl⟩ dL_387 (by omega) (by omega) ?_
  refine r_cv (hp2 := mw h0 hp1 (nI d) (lN P) (nI c) sorts rows hand (nI g) ga (nI m) qA qB id draft frame one two turned pI pJ fA fB fC) (cv1 h5 hkp) ?_
  refine r_aload_n C 2 rfl dL_390 rfl ?_
  refine l_arg hx hi 1 (by decide) (by decide) dL_391 dL_392 dL_393 dL_394 dL_395 ?_
  refine l_arg hx hi 2 (by decide) (by decide) dL_396 dL_397 dL_398 dL_399 dL_400 ?_
  refine q_callV C 1 (rc - 28) (rs - 64 * 28) (c_meet z1) rfl mw_self rfl ok_meet in_meet lkL_45 rfl (Nat.le_of_ble_eq_true rfl) ⟨Nat.le_of_ble_eq_true rfl, Nat.le_of_ble_eq_true rfl⟩ dL_401 (by omega) (by omega) ?_
  refine r_icmp_eq C (tgt := 1130) dL_404 (by decide) (fun _ => ?_) (fun q => absurd rfl q)
  exact r_cv (cv2 h5) (r_rc (by omega) (by omega) w)
set_option maxHeartbeats 4000000 in
set_option maxRecDepth 100000 in
theorem lcall_on (hx : LX G p e s mi b bl mt cd mn L xs) (hi : i + 6 ≤ L) (hrc : 115 ≤ rc) (hrs : 7360 ≤ rs) {hp : cH} {sz : Nat} (hV : IV h0 o hp sz) (kk : ∀ hp2 sz2, IV h0 o hp2 sz2 → NX G p e s mi b bl mt cd o h0 i (rc - 115) (rs - 7360) 1130 hp2 sz2) : NX G p e s mi b bl mt cd o h0 i rc rs 409 hp sz := by
  obtain ⟨P, d, _, ad, im, rw, c, S, R, H, g, Gs, m, pA, pB, id, hb, sorts, rows, hand, ga, qA, qB, draft, frame, one, two, turned, pI, pJ, fA, fB, fC, rfl, hp0, ho, hB, hI, hC, hS, hK, hH, hG, hG2, hA, hA2, hBq, hB2, hm, hid, had, hsz⟩ := hV
  have h5 := hx.2.1
  have hob := hC.1.1
  obtain ⟨v, hp1, sz1, w_draft, w_one, y1, y3, z1⟩ := st_on hp0 ho hB hI hC hS hK draft one two (xs (i + 1)) (xs (i + 2))
  have hkp : ∀ b, h0 ≤ b → b < h0 + 12 → hp1 b = z5 h0 (mw h0 hb (nI d) (lN P) (nI c) sorts rows hand (nI g) ga (nI m) qA qB id draft frame one two turned pI pJ fA fB fC) b := (cF.g (o := o) (ad := ad) y3).k had hsz
  have hr : rng h0 hp1 := rng_mw.k hkp
  obtain ⟨O, hO, w⟩ := kk (z5 h0 (mw h0 hp1 (nI d) (lN P) (nI c) sorts rows hand (nI g) ga (nI m) qA qB id w_draft frame w_one two turned pI pJ fA fB fC)) sz1 (IV.mk hp0 ho hB hI (hC.gg y3) hS hK hH hG hG2 hA hA2 hBq hB2 hm hid had (Nat.le_trans hsz y3.2) hr w_draft frame w_one two turned pI pJ fA fB fC)
  have C := hx.1 O
  refine ⟨O, hO, ?_⟩
  refine r_aload_n C 1 rfl dL_409 rfl ?_
  refine l_arg hx hi 1 (by decide) (by decide) dL_410 dL_411 dL_412 dL_413 dL_414 ?_
  refine l_arg hx hi 2 (by decide) (by decide) dL_415 dL_416 dL_417 dL_418 dL_419 ?_
  refine q_callV C 0 (rc - 7) (rs - 64 * 7) (k_X5_on y1) rfl hob rfl okX5_on inX5_on lkL_46 rfl (Nat.le_of_ble_eq_true rfl) ⟨Nat.le_of_ble_eq_true rfl, Nat.le_of_ble_eq_true rfl⟩ dL_420 (by omega) (by omega) ?_
  refine r_cv (hp2 := mw h0 hp1 (nI d) (lN P) (nI c) sorts rows hand (nI g) ga (nI m) qA qB id draft frame one two turned pI pJ fA fB fC) (cv1 h5 hkp) ?_
  refine r_aload_n C 2 rfl dL_423 rfl ?_
  refine l_arg hx hi 1 (by decide) (by decide) dL_424 dL_425 dL_426 dL_427 dL_428 ?_
  refine l_arg hx hi 2 (by decide) (by decide) dL_429 dL_430 dL_431 dL_432 dL_433 ?_
  refine q_callV C 1 (rc - 7) (rs - 64 * 7) (c_on z1) rfl mw_self rfl ok_on in_on lkL_49 rfl (Nat.le_of_ble_eq_true rfl) ⟨Nat.le_of_ble_eq_true rfl, Nat.le_of_ble_eq_true rfl⟩ dL_434 (by omega) (by omega) ?_
  refine r_icmp_eq C (tgt := 1130) dL_437 (by decide) (fun _ => ?_) (fun q => absurd rfl q)
  exact r_cv (cv2 h5) (r_rc (by omega) (by omega) w)
set_option maxHeartbeats 4000000 in
set_option maxRecDepth 100000 in
theorem lcall_cross (hx : LX G p e s mi b bl mt cd mn L xs) (hi : i + 6 ≤ L) (hrc : 115 ≤ rc) (hrs : 7360 ≤ rs) {hp : cH} {sz : Nat} (hV : IV h0 o hp sz) (kk : ∀ hp2 sz2, IV h0 o hp2 sz2 → NX G p e s mi b bl mt cd o h0 i (rc - 115) (rs - 7360) 1130 hp2 sz2) : NX G p e s mi b bl mt cd o h0 i rc rs 442 hp sz := by
  obtain ⟨P, d, _, ad, im, rw, c, S, R, H, g, Gs, m, pA, pB, id, hb, sorts, rows, hand, ga, qA, qB, draft, frame, one, two, turned, pI, pJ, fA, fB, fC, rfl, hp0, ho, hB, hI, hC, hS, hK, hH, hG, hG2, hA, hA2, hBq, hB2, hm, hid, had, hsz⟩ := hV
  have h5 := hx.2.1
  have hob := hC.1.1
  obtain ⟨v, hp1, sz1, w_frame, w_placeI, w_placeJ, y1, y3, z1⟩ := st_cross hp0 ho hB hI hC hS hK frame pI pJ (xs (i + 1)) (xs (i + 2)) (xs (i + 3)) (xs (i + 4))
  have hkp : ∀ b, h0 ≤ b → b < h0 + 12 → hp1 b = z5 h0 (mw h0 hb (nI d) (lN P) (nI c) sorts rows hand (nI g) ga (nI m) qA qB id draft frame one two turned pI pJ fA fB fC) b := (cF.g (o := o) (ad := ad) y3).k had hsz
  have hr : rng h0 hp1 := rng_mw.k hkp
  obtain ⟨O, hO, w⟩ := kk (z5 h0 (mw h0 hp1 (nI d) (lN P) (nI c) sorts rows hand (nI g) ga (nI m) qA qB id draft w_frame one two turned w_placeI w_placeJ fA fB fC)) sz1 (IV.mk hp0 ho hB hI (hC.gg y3) hS hK hH hG hG2 hA hA2 hBq hB2 hm hid had (Nat.le_trans hsz y3.2) hr draft w_frame one two turned w_placeI w_placeJ fA fB fC)
  have C := hx.1 O
  refine ⟨O, hO, ?_⟩
  refine r_aload_n C 1 rfl dL_442 rfl ?_
  refine l_arg hx hi 1 (by decide) (by decide) dL_443 dL_444 dL_445 dL_446 dL_447 ?_
  refine l_arg hx hi 2 (by decide) (by decide) dL_448 dL_449 dL_450 dL_451 dL_452 ?_
  refine l_arg hx hi 3 (by decide) (by decide) dL_453 dL_454 dL_455 dL_456 dL_457 ?_
  refine l_arg hx hi 4 (by decide) (by decide) dL_458 dL_459 dL_460 dL_461 dL_462 ?_
  refine q_callV C 0 (rc - 19) (rs - 64 * 19) (k_X5_cross y1) rfl hob rfl okX5_cross inX5_cross lkL_50 rfl (Nat.le_of_ble_eq_true rfl) ⟨Nat.le_of_ble_eq_true rfl, Nat.le_of_ble_eq_true rfl⟩ dL_463 (by omega) (by omega) ?_
  refine r_cv (hp2 := mw h0 hp1 (nI d) (lN P) (nI c) sorts rows hand (nI g) ga (nI m) qA qB id draft frame one two turned pI pJ fA fB fC) (cv1 h5 hkp) ?_
  refine r_aload_n C 2 rfl dL_466 rfl ?_
  refine l_arg hx hi 1 (by decide) (by decide) dL_467 dL_468 dL_469 dL_470 dL_471 ?_
  refine l_arg hx hi 2 (by decide) (by decide) dL_472 dL_473 dL_474 dL_475 dL_476 ?_
  refine l_arg hx hi 3 (by decide) (by decide) dL_477 dL_478 dL_479 dL_480 dL_481 ?_
  refine l_arg hx hi 4 (by decide) (by decide) dL_482 dL_483 dL_484 dL_485 dL_486 ?_
  refine q_callV C 2 (rc - 19) (rs - 64 * 19) (c_cross z1) rfl mw_self rfl ok_cross in_cross lkL_54 rfl (Nat.le_of_ble_eq_true rfl) ⟨Nat.le_of_ble_eq_true rfl, Nat.le_of_ble_eq_true rfl⟩ dL_487 (by omega) (by omega) ?_
  refine r_leq C (tgt := 1130) dL_490 dL_491 (by decide) (fun _ => ?_) (fun q => absurd rfl q)
  exact r_cv (cv2 h5) (r_rc (by omega) (by omega) w)
set_option maxHeartbeats 4000000 in
set_option maxRecDepth 100000 in
theorem lcall_fourth (hx : LX G p e s mi b bl mt cd mn L xs) (hi : i + 6 ≤ L) (hrc : 115 ≤ rc) (hrs : 7360 ≤ rs) {hp : cH} {sz : Nat} (hV : IV h0 o hp sz) (kk : ∀ hp2 sz2, IV h0 o hp2 sz2 → NX G p e s mi b bl mt cd o h0 i (rc - 115) (rs - 7360) 1130 hp2 sz2) : NX G p e s mi b bl mt cd o h0 i rc rs 496 hp sz := by
  obtain ⟨P, d, _, ad, im, rw, c, S, R, H, g, Gs, m, pA, pB, id, hb, sorts, rows, hand, ga, qA, qB, draft, frame, one, two, turned, pI, pJ, fA, fB, fC, rfl, hp0, ho, hB, hI, hC, hS, hK, hH, hG, hG2, hA, hA2, hBq, hB2, hm, hid, had, hsz⟩ := hV
  have h5 := hx.2.1
  have hob := hC.1.1
  obtain ⟨K, k1, ⟨hp1, sz1, im1, rw1, y1, y2, y3⟩, s', r', w_draft, w_frame, w_placeI, w_placeJ, z1, z2⟩ := st_fourth hp0 ho hB hI hC hS hK draft frame pI pJ (xs (i + 1)) (xs (i + 2)) (xs (i + 3)) (aJ2 (xs (i + 4)) (xs (i + 5)))
  have hkp : ∀ b, h0 ≤ b → b < h0 + 12 → hp1 b = z5 h0 (mw h0 hb (nI d) (lN P) (nI c) sorts rows hand (nI g) ga (nI m) qA qB id draft frame one two turned pI pJ fA fB fC) b := y3.k had hsz
  have hr : rng h0 hp1 := rng_mw.k hkp
  obtain ⟨O, hO, w⟩ := kk (z5 h0 (mw h0 hp1 (nI d) (lN P) (nI K.2.1) s' r' hand (nI g) ga (nI m) qA qB id w_draft w_frame one two turned w_placeI w_placeJ fA fB fC)) sz1 (IV.kp (im := im) (rw := rw) (sorts := sorts) (rows := rows) hp0 ho hB k1 y2 z2 hH hG hG2 hA hA2 hBq hB2 hm (Nat.le_refl m) hid had (Nat.le_trans hsz y3.2) hr w_draft w_frame one two turned w_placeI w_placeJ fA fB fC)
  have C := hx.1 O
  refine ⟨O, hO, ?_⟩
  refine r_aload_n C 1 rfl dL_496 rfl ?_
  refine l_arg hx hi 1 (by decide) (by decide) dL_497 dL_498 dL_499 dL_500 dL_501 ?_
  refine l_arg hx hi 2 (by decide) (by decide) dL_502 dL_503 dL_504 dL_505 dL_506 ?_
  refine l_arg hx hi 3 (by decide) (by decide) dL_507 dL_508 dL_509 dL_510 dL_511 ?_
  refine l_argJ hx hi 4 5 (by decide) (by decide) (by decide) (by decide) dL_512 dL_513 dL_514 dL_515 dL_516 dL_517 dL_518 dL_520 dL_521 dL_522 dL_523 dL_524 dL_525 dL_526 dL_527 dL_530 dL_531 ?_
  refine q_callV C 0 (rc - 20) (rs - 64 * 20) (k_X5_fourth y1) rfl hob rfl okX5_fourth inX5_fourth lkL_55 rfl (Nat.le_of_ble_eq_true rfl) ⟨Nat.le_of_ble_eq_true rfl, Nat.le_of_ble_eq_true rfl⟩ dL_532 (by omega) (by omega) ?_
  refine r_cv (hp2 := mw h0 hp1 (nI d) (lN P) (nI c) sorts rows hand (nI g) ga (nI m) qA qB id draft frame one two turned pI pJ fA fB fC) (cv1 h5 hkp) ?_
  refine r_aload_n C 2 rfl dL_535 rfl ?_
  refine l_arg hx hi 1 (by decide) (by decide) dL_536 dL_537 dL_538 dL_539 dL_540 ?_
  refine l_arg hx hi 2 (by decide) (by decide) dL_541 dL_542 dL_543 dL_544 dL_545 ?_
  refine l_arg hx hi 3 (by decide) (by decide) dL_546 dL_547 dL_548 dL_549 dL_550 ?_
  refine l_argJ hx hi 4 5 (by decide) (by decide) (by decide) (by decide) dL_551 dL_552 dL_553 dL_554 dL_555 dL_556 dL_557 dL_559 dL_560 dL_561 dL_562 dL_563 dL_564 dL_565 dL_566 dL_569 dL_570 ?_
  refine q_callV C 1 (rc - 20) (rs - 64 * 20) (c_fourth z1) rfl mw_self rfl ok_fourth in_fourth lkL_59 rfl (Nat.le_of_ble_eq_true rfl) ⟨Nat.le_of_ble_eq_true rfl, Nat.le_of_ble_eq_true rfl⟩ dL_571 (by omega) (by omega) ?_
  refine r_icmp_eq C (tgt := 1130) dL_574 (by decide) (fun _ => ?_) (fun q => absurd rfl q)
  exact r_cv (cv2 h5) (r_rc (by omega) (by omega) w)
set_option maxHeartbeats 4000000 in
set_option maxRecDepth 100000 in
theorem lcall_pair (hx : LX G p e s mi b bl mt cd mn L xs) (hi : i + 6 ≤ L) (hrc : 115 ≤ rc) (hrs : 7360 ≤ rs) {hp : cH} {sz : Nat} (hV : IV h0 o hp sz) (kk : ∀ hp2 sz2, IV h0 o hp2 sz2 → NX G p e s mi b bl mt cd o h0 i (rc - 115) (rs - 7360) 1130 hp2 sz2) : NX G p e s mi b bl mt cd o h0 i rc rs 579 hp sz := by
  obtain ⟨P, d, _, ad, im, rw, c, S, R, H, g, Gs, m, pA, pB, id, hb, sorts, rows, hand, ga, qA, qB, draft, frame, one, two, turned, pI, pJ, fA, fB, fC, rfl, hp0, ho, hB, hI, hC, hS, hK, hH, hG, hG2, hA, hA2, hBq, hB2, hm, hid, had, hsz⟩ := hV
  have h5 := hx.2.1
  have hob := hC.1.1
  obtain ⟨v, hp1, m', pA', pB', qA', qB', y1, y2, y3, z1, z2, z3, z4, z5', z6⟩ := st_pair hC hS hA hA2 hBq hB2 hm (xs (i + 1)) (xs (i + 2))
  have hkp : ∀ b, h0 ≤ b → b < h0 + 12 → hp1 b = z5 h0 (mw h0 hb (nI d) (lN P) (nI c) sorts rows hand (nI g) ga (nI m) qA qB id draft frame one two turned pI pJ fA fB fC) b := y3.k had hsz
  have hr : rng h0 hp1 := rng_mw.k hkp
  obtain ⟨O, hO, w⟩ := kk (z5 h0 (mw h0 hp1 (nI d) (lN P) (nI c) sorts rows hand (nI g) ga (nI m') qA' qB' id draft frame one two turned pI pJ fA fB fC)) sz (IV.mk hp0 ho hB hI y2 hS hK hH hG hG2 z2 z4 z3 z5' z6 hid had hsz hr draft frame one two turned pI pJ fA fB fC)
  have C := hx.1 O
  refine ⟨O, hO, ?_⟩
  refine r_aload_n C 1 rfl dL_579 rfl ?_
  refine l_arg hx hi 1 (by decide) (by decide) dL_580 dL_581 dL_582 dL_583 dL_584 ?_
  refine l_arg hx hi 2 (by decide) (by decide) dL_585 dL_586 dL_587 dL_588 dL_589 ?_
  refine q_callV C 0 (rc - 0) (rs - 64 * 0) (k_X5_pair y1) rfl hob rfl okX5_pair inX5_pair lkL_60 rfl (Nat.le_of_ble_eq_true rfl) ⟨Nat.le_of_ble_eq_true rfl, Nat.le_of_ble_eq_true rfl⟩ dL_590 (by omega) (by omega) ?_
  refine r_cv (hp2 := mw h0 hp1 (nI d) (lN P) (nI c) sorts rows hand (nI g) ga (nI m) qA qB id draft frame one two turned pI pJ fA fB fC) (cv1 h5 hkp) ?_
  refine r_aload_n C 2 rfl dL_593 rfl ?_
  refine l_arg hx hi 1 (by decide) (by decide) dL_594 dL_595 dL_596 dL_597 dL_598 ?_
  refine l_arg hx hi 2 (by decide) (by decide) dL_599 dL_600 dL_601 dL_602 dL_603 ?_
  refine q_callV C 1 (rc - 0) (rs - 64 * 0) (c_pair z1) rfl mw_self rfl ok_pair in_pair lkL_63 rfl (Nat.le_of_ble_eq_true rfl) ⟨Nat.le_of_ble_eq_true rfl, Nat.le_of_ble_eq_true rfl⟩ dL_604 (by omega) (by omega) ?_
  refine r_icmp_eq C (tgt := 1130) dL_607 (by decide) (fun _ => ?_) (fun q => absurd rfl q)
  exact r_cv (cv2 h5) (r_rc (by omega) (by omega) w)
set_option maxHeartbeats 4000000 in
set_option maxRecDepth 100000 in
theorem lcall_map (hx : LX G p e s mi b bl mt cd mn L xs) (hi : i + 6 ≤ L) (hrc : 115 ≤ rc) (hrs : 7360 ≤ rs) {hp : cH} {sz : Nat} (hV : IV h0 o hp sz) (kk : ∀ hp2 sz2, IV h0 o hp2 sz2 → NX G p e s mi b bl mt cd o h0 i (rc - 115) (rs - 7360) 1130 hp2 sz2) : NX G p e s mi b bl mt cd o h0 i rc rs 612 hp sz := by
  obtain ⟨P, d, _, ad, im, rw, c, S, R, H, g, Gs, m, pA, pB, id, hb, sorts, rows, hand, ga, qA, qB, draft, frame, one, two, turned, pI, pJ, fA, fB, fC, rfl, hp0, ho, hB, hI, hC, hS, hK, hH, hG, hG2, hA, hA2, hBq, hB2, hm, hid, had, hsz⟩ := hV
  have h5 := hx.2.1
  have hob := hC.1.1
  obtain ⟨K, m', k1, k2, ⟨hp1, sz1, im1, rw1, y1, y2, y3⟩, s', r', w_draft, w_frame, w_one, w_two, z1, z2⟩ := st_map hp0 ho hB hI hC hS hK hA hA2 hBq hB2 draft frame one two 
  have hkp : ∀ b, h0 ≤ b → b < h0 + 12 → hp1 b = z5 h0 (mw h0 hb (nI d) (lN P) (nI c) sorts rows hand (nI g) ga (nI m) qA qB id draft frame one two turned pI pJ fA fB fC) b := y3.k had hsz
  have hr : rng h0 hp1 := rng_mw.k hkp
  obtain ⟨O, hO, w⟩ := kk (z5 h0 (mw h0 hp1 (nI d) (lN P) (nI K.2.1) s' r' hand (nI g) ga (nI m') qA qB id w_draft w_frame w_one w_two turned pI pJ fA fB fC)) sz1 (IV.kp (im := im) (rw := rw) (sorts := sorts) (rows := rows) hp0 ho hB k1 y2 z2 hH hG hG2 hA hA2 hBq hB2 hm (show m' ≤ m by omega) hid had (Nat.le_trans hsz y3.2) hr w_draft w_frame w_one w_two turned pI pJ fA fB fC)
  have C := hx.1 O
  refine ⟨O, hO, ?_⟩
  refine r_aload_n C 1 rfl dL_612 rfl ?_
  refine q_callV C 0 (rc - 56) (rs - 64 * 56) (k_X5_map y1) rfl hob rfl okX5_map inX5_map lkL_64 rfl (Nat.le_of_ble_eq_true rfl) ⟨Nat.le_of_ble_eq_true rfl, Nat.le_of_ble_eq_true rfl⟩ dL_613 (by omega) (by omega) ?_
  refine r_cv (hp2 := mw h0 hp1 (nI d) (lN P) (nI c) sorts rows hand (nI g) ga (nI m) qA qB id draft frame one two turned pI pJ fA fB fC) (cv1 h5 hkp) ?_
  refine r_aload_n C 2 rfl dL_616 rfl ?_
  refine q_callV C 1 (rc - 56) (rs - 64 * 56) (c_map z1) rfl mw_self rfl ok_map in_map lkL_68 rfl (Nat.le_of_ble_eq_true rfl) ⟨Nat.le_of_ble_eq_true rfl, Nat.le_of_ble_eq_true rfl⟩ dL_617 (by omega) (by omega) ?_
  refine r_icmp_eq C (tgt := 1130) dL_620 (by decide) (fun _ => ?_) (fun q => absurd rfl q)
  exact r_cv (cv2 h5) (r_rc (by omega) (by omega) w)
end LAWC
