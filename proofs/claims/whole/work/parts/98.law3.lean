section LAWC
variable {G : gT} {p : Program} {e : Env} {s : State} {mi : MethodId} {b : Nat} {bl : List Frame} {mt : Method} {cd : Code} {mn : String} {L : Nat} {xs : Nat → Int32} {rc rs o h0 i : Nat}
set_option maxHeartbeats 4000000 in
set_option maxRecDepth 100000 in
theorem lcall_apply (hx : LX G p e s mi b bl mt cd mn L xs) (hi : i + 6 ≤ L) (hrc : 115 ≤ rc) (hrs : 7360 ≤ rs) {hp : cH} {sz : Nat} (hV : IV h0 o hp sz) (kk : ∀ hp2 sz2, IV h0 o hp2 sz2 → NX G p e s mi b bl mt cd o h0 i (rc - 115) (rs - 7360) 1130 hp2 sz2) : NX G p e s mi b bl mt cd o h0 i rc rs 625 hp sz := by
  obtain ⟨P, d, _, ad, im, rw, c, S, R, H, g, Gs, m, pA, pB, id, hb, sorts, rows, hand, ga, qA, qB, draft, frame, one, two, turned, pI, pJ, fA, fB, fC, rfl, hp0, ho, hB, hI, hC, hS, hK, hH, hG, hG2, hA, hA2, hBq, hB2, hm, hid, had, hsz⟩ := hV
  have h5 := hx.2.1
  have hob := hC.1.1
  obtain ⟨K, k1, ⟨hp1, sz1, im1, rw1, y1, y2, y3⟩, s', r', w_draft, w_frame, w_one, w_two, w_turned, z1, z2⟩ := st_apply hp0 ho hB hI hC hS hK draft frame one two turned (xs (i + 1)) (xs (i + 2))
  have hkp : ∀ b, h0 ≤ b → b < h0 + 12 → hp1 b = z5 h0 (mw h0 hb (nI d) (lN P) (nI c) sorts rows hand (nI g) ga (nI m) qA qB id draft frame one two turned pI pJ fA fB fC) b := y3.k had hsz
  have hr : rng h0 hp1 := rng_mw.k hkp
  obtain ⟨O, hO, w⟩ := kk (z5 h0 (mw h0 hp1 (nI d) (lN P) (nI K.2.1) s' r' hand (nI g) ga (nI m) qA qB id w_draft w_frame w_one w_two w_turned pI pJ fA fB fC)) sz1 (IV.kp (im := im) (rw := rw) (sorts := sorts) (rows := rows) hp0 ho hB k1 y2 z2 hH hG hG2 hA hA2 hBq hB2 hm (Nat.le_refl m) hid had (Nat.le_trans hsz y3.2) hr w_draft w_frame w_one w_two w_turned pI pJ fA fB fC)
  have C := hx.1 O
  refine ⟨O, hO, ?_⟩
  refine r_aload_n C 1 rfl dL_625 rfl ?_
  refine l_arg hx hi 1 (by decide) (by decide) dL_626 dL_627 dL_628 dL_629 dL_630 ?_
  refine l_arg hx hi 2 (by decide) (by decide) dL_631 dL_632 dL_633 dL_634 dL_635 ?_
  refine q_callV C 0 (rc - 47) (rs - 64 * 47) (k_X5_apply y1) rfl hob rfl okX5_apply inX5_apply lkL_69 rfl (Nat.le_of_ble_eq_true rfl) ⟨Nat.le_of_ble_eq_true rfl, Nat.le_of_ble_eq_true rfl⟩ dL_636 (by omega) (by omega) ?_
  refine r_cv (hp2 := mw h0 hp1 (nI d) (lN P) (nI c) sorts rows hand (nI g) ga (nI m) qA qB id draft frame one two turned pI pJ fA fB fC) (cv1 h5 hkp) ?_
  refine r_aload_n C 2 rfl dL_639 rfl ?_
  refine l_arg hx hi 1 (by decide) (by decide) dL_640 dL_641 dL_642 dL_643 dL_644 ?_
  refine l_arg hx hi 2 (by decide) (by decide) dL_645 dL_646 dL_647 dL_648 dL_649 ?_
  refine q_callV C 1 (rc - 47) (rs - 64 * 47) (c_apply z1) rfl mw_self rfl ok_apply in_apply lkL_72 rfl (Nat.le_of_ble_eq_true rfl) ⟨Nat.le_of_ble_eq_true rfl, Nat.le_of_ble_eq_true rfl⟩ dL_650 (by omega) (by omega) ?_
  refine r_icmp_eq C (tgt := 1130) dL_653 (by decide) (fun _ => ?_) (fun q => absurd rfl q)
  exact r_cv (cv2 h5) (r_rc (by omega) (by omega) w)
set_option maxHeartbeats 4000000 in
set_option maxRecDepth 100000 in
theorem lcall_compose (hx : LX G p e s mi b bl mt cd mn L xs) (hi : i + 6 ≤ L) (hrc : 115 ≤ rc) (hrs : 7360 ≤ rs) {hp : cH} {sz : Nat} (hV : IV h0 o hp sz) (kk : ∀ hp2 sz2, IV h0 o hp2 sz2 → NX G p e s mi b bl mt cd o h0 i (rc - 115) (rs - 7360) 1130 hp2 sz2) : NX G p e s mi b bl mt cd o h0 i rc rs 658 hp sz := by
  obtain ⟨P, d, _, ad, im, rw, c, S, R, H, g, Gs, m, pA, pB, id, hb, sorts, rows, hand, ga, qA, qB, draft, frame, one, two, turned, pI, pJ, fA, fB, fC, rfl, hp0, ho, hB, hI, hC, hS, hK, hH, hG, hG2, hA, hA2, hBq, hB2, hm, hid, had, hsz⟩ := hV
  have h5 := hx.2.1
  have hob := hC.1.1
  obtain ⟨K, k1, ⟨hp1, sz1, im1, rw1, y1, y2, y3⟩, s', r', w_draft, z1, z2⟩ := st_compose hp0 ho hB hI hC hS hK draft (xs (i + 1)) (xs (i + 2))
  have hkp : ∀ b, h0 ≤ b → b < h0 + 12 → hp1 b = z5 h0 (mw h0 hb (nI d) (lN P) (nI c) sorts rows hand (nI g) ga (nI m) qA qB id draft frame one two turned pI pJ fA fB fC) b := y3.k had hsz
  have hr : rng h0 hp1 := rng_mw.k hkp
  obtain ⟨O, hO, w⟩ := kk (z5 h0 (mw h0 hp1 (nI d) (lN P) (nI K.2.1) s' r' hand (nI g) ga (nI m) qA qB id w_draft frame one two turned pI pJ fA fB fC)) sz1 (IV.kp (im := im) (rw := rw) (sorts := sorts) (rows := rows) hp0 ho hB k1 y2 z2 hH hG hG2 hA hA2 hBq hB2 hm (Nat.le_refl m) hid had (Nat.le_trans hsz y3.2) hr w_draft frame one two turned pI pJ fA fB fC)
  have C := hx.1 O
  refine ⟨O, hO, ?_⟩
  refine r_aload_n C 1 rfl dL_658 rfl ?_
  refine l_arg hx hi 1 (by decide) (by decide) dL_659 dL_660 dL_661 dL_662 dL_663 ?_
  refine l_arg hx hi 2 (by decide) (by decide) dL_664 dL_665 dL_666 dL_667 dL_668 ?_
  refine q_callV C 0 (rc - 3) (rs - 64 * 3) (k_X5_compose y1) rfl hob rfl okX5_compose inX5_compose lkL_73 rfl (Nat.le_of_ble_eq_true rfl) ⟨Nat.le_of_ble_eq_true rfl, Nat.le_of_ble_eq_true rfl⟩ dL_669 (by omega) (by omega) ?_
  refine r_cv (hp2 := mw h0 hp1 (nI d) (lN P) (nI c) sorts rows hand (nI g) ga (nI m) qA qB id draft frame one two turned pI pJ fA fB fC) (cv1 h5 hkp) ?_
  refine r_aload_n C 2 rfl dL_672 rfl ?_
  refine l_arg hx hi 1 (by decide) (by decide) dL_673 dL_674 dL_675 dL_676 dL_677 ?_
  refine l_arg hx hi 2 (by decide) (by decide) dL_678 dL_679 dL_680 dL_681 dL_682 ?_
  refine q_callV C 1 (rc - 3) (rs - 64 * 3) (c_compose z1) rfl mw_self rfl ok_compose in_compose lkL_76 rfl (Nat.le_of_ble_eq_true rfl) ⟨Nat.le_of_ble_eq_true rfl, Nat.le_of_ble_eq_true rfl⟩ dL_683 (by omega) (by omega) ?_
  refine r_icmp_eq C (tgt := 1130) dL_686 (by decide) (fun _ => ?_) (fun q => absurd rfl q)
  exact r_cv (cv2 h5) (r_rc (by omega) (by omega) w)
set_option maxHeartbeats 4000000 in
set_option maxRecDepth 100000 in
theorem lcall_inverse (hx : LX G p e s mi b bl mt cd mn L xs) (hi : i + 6 ≤ L) (hrc : 115 ≤ rc) (hrs : 7360 ≤ rs) {hp : cH} {sz : Nat} (hV : IV h0 o hp sz) (kk : ∀ hp2 sz2, IV h0 o hp2 sz2 → NX G p e s mi b bl mt cd o h0 i (rc - 115) (rs - 7360) 1130 hp2 sz2) : NX G p e s mi b bl mt cd o h0 i rc rs 691 hp sz := by
  obtain ⟨P, d, _, ad, im, rw, c, S, R, H, g, Gs, m, pA, pB, id, hb, sorts, rows, hand, ga, qA, qB, draft, frame, one, two, turned, pI, pJ, fA, fB, fC, rfl, hp0, ho, hB, hI, hC, hS, hK, hH, hG, hG2, hA, hA2, hBq, hB2, hm, hid, had, hsz⟩ := hV
  have h5 := hx.2.1
  have hob := hC.1.1
  obtain ⟨K, k1, ⟨hp1, sz1, im1, rw1, y1, y2, y3⟩, s', r', w_draft, w_frame, w_turned, z1, z2⟩ := st_inverse hp0 ho hB hI hC hS hK draft frame turned (xs (i + 1))
  have hkp : ∀ b, h0 ≤ b → b < h0 + 12 → hp1 b = z5 h0 (mw h0 hb (nI d) (lN P) (nI c) sorts rows hand (nI g) ga (nI m) qA qB id draft frame one two turned pI pJ fA fB fC) b := y3.k had hsz
  have hr : rng h0 hp1 := rng_mw.k hkp
  obtain ⟨O, hO, w⟩ := kk (z5 h0 (mw h0 hp1 (nI d) (lN P) (nI K.2.1) s' r' hand (nI g) ga (nI m) qA qB id w_draft w_frame one two w_turned pI pJ fA fB fC)) sz1 (IV.kp (im := im) (rw := rw) (sorts := sorts) (rows := rows) hp0 ho hB k1 y2 z2 hH hG hG2 hA hA2 hBq hB2 hm (Nat.le_refl m) hid had (Nat.le_trans hsz y3.2) hr w_draft w_frame one two w_turned pI pJ fA fB fC)
  have C := hx.1 O
  refine ⟨O, hO, ?_⟩
  refine r_aload_n C 1 rfl dL_691 rfl ?_
  refine l_arg hx hi 1 (by decide) (by decide) dL_692 dL_693 dL_694 dL_695 dL_696 ?_
  refine q_callV C 0 (rc - 13) (rs - 64 * 13) (k_X5_inverse y1) rfl hob rfl okX5_inverse inX5_inverse lkL_77 rfl (Nat.le_of_ble_eq_true rfl) ⟨Nat.le_of_ble_eq_true rfl, Nat.le_of_ble_eq_true rfl⟩ dL_697 (by omega) (by omega) ?_
  refine r_cv (hp2 := mw h0 hp1 (nI d) (lN P) (nI c) sorts rows hand (nI g) ga (nI m) qA qB id draft frame one two turned pI pJ fA fB fC) (cv1 h5 hkp) ?_
  refine r_aload_n C 2 rfl dL_700 rfl ?_
  refine l_arg hx hi 1 (by decide) (by decide) dL_701 dL_702 dL_703 dL_704 dL_705 ?_
  refine q_callV C 1 (rc - 13) (rs - 64 * 13) (c_inverse z1) rfl mw_self rfl ok_inverse in_inverse lkL_80 rfl (Nat.le_of_ble_eq_true rfl) ⟨Nat.le_of_ble_eq_true rfl, Nat.le_of_ble_eq_true rfl⟩ dL_706 (by omega) (by omega) ?_
  refine r_icmp_eq C (tgt := 1130) dL_709 (by decide) (fun _ => ?_) (fun q => absurd rfl q)
  exact r_cv (cv2 h5) (r_rc (by omega) (by omega) w)
set_option maxHeartbeats 4000000 in
set_option maxRecDepth 100000 in
theorem lcall_order (hx : LX G p e s mi b bl mt cd mn L xs) (hi : i + 6 ≤ L) (hrc : 115 ≤ rc) (hrs : 7360 ≤ rs) {hp : cH} {sz : Nat} (hV : IV h0 o hp sz) (kk : ∀ hp2 sz2, IV h0 o hp2 sz2 → NX G p e s mi b bl mt cd o h0 i (rc - 115) (rs - 7360) 1130 hp2 sz2) : NX G p e s mi b bl mt cd o h0 i rc rs 714 hp sz := by
  obtain ⟨P, d, _, ad, im, rw, c, S, R, H, g, Gs, m, pA, pB, id, hb, sorts, rows, hand, ga, qA, qB, draft, frame, one, two, turned, pI, pJ, fA, fB, fC, rfl, hp0, ho, hB, hI, hC, hS, hK, hH, hG, hG2, hA, hA2, hBq, hB2, hm, hid, had, hsz⟩ := hV
  have h5 := hx.2.1
  have hob := hC.1.1
  obtain ⟨v, hp1, sz1, w_draft, w_one, y1, y3, z1⟩ := st_order hp0 ho hB hI hC hS hK draft one (xs (i + 1))
  have hkp : ∀ b, h0 ≤ b → b < h0 + 12 → hp1 b = z5 h0 (mw h0 hb (nI d) (lN P) (nI c) sorts rows hand (nI g) ga (nI m) qA qB id draft frame one two turned pI pJ fA fB fC) b := (cF.g (o := o) (ad := ad) y3).k had hsz
  have hr : rng h0 hp1 := rng_mw.k hkp
  obtain ⟨O, hO, w⟩ := kk (z5 h0 (mw h0 hp1 (nI d) (lN P) (nI c) sorts rows hand (nI g) ga (nI m) qA qB id w_draft frame w_one two turned pI pJ fA fB fC)) sz1 (IV.mk hp0 ho hB hI (hC.gg y3) hS hK hH hG hG2 hA hA2 hBq hB2 hm hid had (Nat.le_trans hsz y3.2) hr w_draft frame w_one two turned pI pJ fA fB fC)
  have C := hx.1 O
  refine ⟨O, hO, ?_⟩
  refine r_aload_n C 1 rfl dL_714 rfl ?_
  refine l_arg hx hi 1 (by decide) (by decide) dL_715 dL_716 dL_717 dL_718 dL_719 ?_
  refine q_callV C 0 (rc - 115) (rs - 64 * 115) (k_X5_order y1) rfl hob rfl okX5_order inX5_order lkL_81 rfl (Nat.le_of_ble_eq_true rfl) ⟨Nat.le_of_ble_eq_true rfl, Nat.le_of_ble_eq_true rfl⟩ dL_720 (by omega) (by omega) ?_
  refine r_cv (hp2 := mw h0 hp1 (nI d) (lN P) (nI c) sorts rows hand (nI g) ga (nI m) qA qB id draft frame one two turned pI pJ fA fB fC) (cv1 h5 hkp) ?_
  refine r_aload_n C 2 rfl dL_723 rfl ?_
  refine l_arg hx hi 1 (by decide) (by decide) dL_724 dL_725 dL_726 dL_727 dL_728 ?_
  refine q_callV C 1 (rc - 115) (rs - 64 * 115) (c_order z1) rfl mw_self rfl ok_order in_order lkL_84 rfl (Nat.le_of_ble_eq_true rfl) ⟨Nat.le_of_ble_eq_true rfl, Nat.le_of_ble_eq_true rfl⟩ dL_729 (by omega) (by omega) ?_
  refine r_icmp_eq C (tgt := 1130) dL_732 (by decide) (fun _ => ?_) (fun q => absurd rfl q)
  exact r_cv (cv2 h5) (r_rc (by omega) (by omega) w)
set_option maxHeartbeats 4000000 in
set_option maxRecDepth 100000 in
theorem lcall_gather (hx : LX G p e s mi b bl mt cd mn L xs) (hi : i + 6 ≤ L) (hrc : 115 ≤ rc) (hrs : 7360 ≤ rs) {hp : cH} {sz : Nat} (hV : IV h0 o hp sz) (kk : ∀ hp2 sz2, IV h0 o hp2 sz2 → NX G p e s mi b bl mt cd o h0 i (rc - 115) (rs - 7360) 1130 hp2 sz2) : NX G p e s mi b bl mt cd o h0 i rc rs 737 hp sz := by
  obtain ⟨P, d, _, ad, im, rw, c, S, R, H, g, Gs, m, pA, pB, id, hb, sorts, rows, hand, ga, qA, qB, draft, frame, one, two, turned, pI, pJ, fA, fB, fC, rfl, hp0, ho, hB, hI, hC, hS, hK, hH, hG, hG2, hA, hA2, hBq, hB2, hm, hid, had, hsz⟩ := hV
  have h5 := hx.2.1
  have hob := hC.1.1
  obtain ⟨v, hp1, g', Gs', ga', y1, y2, y3, z1, z2, z3⟩ := st_gather hC hS hG hG2 (xs (i + 1))
  have hkp : ∀ b, h0 ≤ b → b < h0 + 12 → hp1 b = z5 h0 (mw h0 hb (nI d) (lN P) (nI c) sorts rows hand (nI g) ga (nI m) qA qB id draft frame one two turned pI pJ fA fB fC) b := y3.k had hsz
  have hr : rng h0 hp1 := rng_mw.k hkp
  obtain ⟨O, hO, w⟩ := kk (z5 h0 (mw h0 hp1 (nI d) (lN P) (nI c) sorts rows hand (nI g') ga' (nI m) qA qB id draft frame one two turned pI pJ fA fB fC)) sz (IV.mk hp0 ho hB hI y2 hS hK hH z2 z3 hA hA2 hBq hB2 hm hid had hsz hr draft frame one two turned pI pJ fA fB fC)
  have C := hx.1 O
  refine ⟨O, hO, ?_⟩
  refine r_aload_n C 1 rfl dL_737 rfl ?_
  refine l_arg hx hi 1 (by decide) (by decide) dL_738 dL_739 dL_740 dL_741 dL_742 ?_
  refine q_callV C 0 (rc - 0) (rs - 64 * 0) (k_X5_gather y1) rfl hob rfl okX5_gather inX5_gather lkL_85 rfl (Nat.le_of_ble_eq_true rfl) ⟨Nat.le_of_ble_eq_true rfl, Nat.le_of_ble_eq_true rfl⟩ dL_743 (by omega) (by omega) ?_
  refine r_cv (hp2 := mw h0 hp1 (nI d) (lN P) (nI c) sorts rows hand (nI g) ga (nI m) qA qB id draft frame one two turned pI pJ fA fB fC) (cv1 h5 hkp) ?_
  refine r_aload_n C 2 rfl dL_746 rfl ?_
  refine l_arg hx hi 1 (by decide) (by decide) dL_747 dL_748 dL_749 dL_750 dL_751 ?_
  refine q_callV C 1 (rc - 0) (rs - 64 * 0) (c_gather z1) rfl mw_self rfl ok_gather in_gather lkL_88 rfl (Nat.le_of_ble_eq_true rfl) ⟨Nat.le_of_ble_eq_true rfl, Nat.le_of_ble_eq_true rfl⟩ dL_752 (by omega) (by omega) ?_
  refine r_icmp_eq C (tgt := 1130) dL_755 (by decide) (fun _ => ?_) (fun q => absurd rfl q)
  exact r_cv (cv2 h5) (r_rc (by omega) (by omega) w)
set_option maxHeartbeats 4000000 in
set_option maxRecDepth 100000 in
theorem lcall_forget (hx : LX G p e s mi b bl mt cd mn L xs) (hi : i + 6 ≤ L) (hrc : 115 ≤ rc) (hrs : 7360 ≤ rs) {hp : cH} {sz : Nat} (hV : IV h0 o hp sz) (kk : ∀ hp2 sz2, IV h0 o hp2 sz2 → NX G p e s mi b bl mt cd o h0 i (rc - 115) (rs - 7360) 1130 hp2 sz2) : NX G p e s mi b bl mt cd o h0 i rc rs 760 hp sz := by
  obtain ⟨P, d, _, ad, im, rw, c, S, R, H, g, Gs, m, pA, pB, id, hb, sorts, rows, hand, ga, qA, qB, draft, frame, one, two, turned, pI, pJ, fA, fB, fC, rfl, hp0, ho, hB, hI, hC, hS, hK, hH, hG, hG2, hA, hA2, hBq, hB2, hm, hid, had, hsz⟩ := hV
  have h5 := hx.2.1
  have hob := hC.1.1
  obtain ⟨hp1, y1, y2, y3, z1⟩ := st_forget hC 
  have hkp : ∀ b, h0 ≤ b → b < h0 + 12 → hp1 b = z5 h0 (mw h0 hb (nI d) (lN P) (nI c) sorts rows hand (nI g) ga (nI m) qA qB id draft frame one two turned pI pJ fA fB fC) b := y3.k had hsz
  have hr : rng h0 hp1 := rng_mw.k hkp
  obtain ⟨O, hO, w⟩ := kk (z5 h0 (mw h0 hp1 (nI d) (lN P) (nI c) sorts rows hand (nI 0) ga (nI m) qA qB id draft frame one two turned pI pJ fA fB fC)) sz (IV.mk hp0 ho hB hI y2 hS hK hH (fun k hk => absurd hk (Nat.not_lt_zero k)) (fun k hk => absurd hk (Nat.not_lt_zero k)) hA hA2 hBq hB2 hm hid had hsz hr draft frame one two turned pI pJ fA fB fC)
  have C := hx.1 O
  refine ⟨O, hO, ?_⟩
  refine r_aload_n C 1 rfl dL_760 rfl ?_
  refine q_callV C 0 (rc - 0) (rs - 64 * 0) (k_X5_forget y1) rfl hob rfl okX5_forget inX5_forget lkL_89 rfl (Nat.le_of_ble_eq_true rfl) ⟨Nat.le_of_ble_eq_true rfl, Nat.le_of_ble_eq_true rfl⟩ dL_761 (by omega) (by omega) ?_
  refine r_cv (hp2 := mw h0 hp1 (nI d) (lN P) (nI c) sorts rows hand (nI g) ga (nI m) qA qB id draft frame one two turned pI pJ fA fB fC) (cv1 h5 hkp) ?_
  refine r_aload_n C 2 rfl dL_764 rfl ?_
  refine q_callV C 1 (rc - 0) (rs - 64 * 0) (c_forget z1) rfl mw_self rfl ok_forget in_forget lkL_92 rfl (Nat.le_of_ble_eq_true rfl) ⟨Nat.le_of_ble_eq_true rfl, Nat.le_of_ble_eq_true rfl⟩ dL_765 (by omega) (by omega) ?_
  refine r_icmp_eq C (tgt := 1130) dL_768 (by decide) (fun _ => ?_) (fun q => absurd rfl q)
  exact r_cv (cv2 h5) (r_rc (by omega) (by omega) w)
end LAWC
