section LAWC
variable {G : gT} {p : Program} {e : Env} {s : State} {mi : MethodId} {b : Nat} {bl : List Frame} {mt : Method} {cd : Code} {mn : String} {L : Nat} {xs : Nat → Int32} {rc rs o h0 i : Nat}
set_option maxHeartbeats 4000000 in
set_option maxRecDepth 100000 in
theorem lcall_quadric (hx : LX G p e s mi b bl mt cd mn L xs) (hi : i + 6 ≤ L) (hrc : 115 ≤ rc) (hrs : 7360 ≤ rs) {hp : cH} {sz : Nat} (hV : IV h0 o hp sz) (kk : ∀ hp2 sz2, IV h0 o hp2 sz2 → NX G p e s mi b bl mt cd o h0 i (rc - 115) (rs - 7360) 1130 hp2 sz2) : NX G p e s mi b bl mt cd o h0 i rc rs 773 hp sz := by
  obtain ⟨P, d, _, ad, im, rw, c, S, R, H, g, Gs, m, pA, pB, id, hb, sorts, rows, hand, ga, qA, qB, draft, frame, one, two, turned, pI, pJ, fA, fB, fC, rfl, hp0, ho, hB, hI, hC, hS, hK, hH, hG, hG2, hA, hA2, hBq, hB2, hm, hid, had, hsz⟩ := hV
  have h5 := hx.2.1
  have hob := hC.1.1
  obtain ⟨K, k1, ⟨hp1, sz1, im1, rw1, y1, y2, y3⟩, s', r', w_draft, w_frame, z1, z2⟩ := st_quadric hp0 ho hB hI hC hS hK hG hG2 draft frame 
  have hkp : ∀ b, h0 ≤ b → b < h0 + 12 → hp1 b = z5 h0 (mw h0 hb (nI d) (lN P) (nI c) sorts rows hand (nI g) ga (nI m) qA qB id draft frame one two turned pI pJ fA fB fC) b := y3.k had hsz
  have hr : rng h0 hp1 := rng_mw.k hkp
  obtain ⟨O, hO, w⟩ := kk (z5 h0 (mw h0 hp1 (nI d) (lN P) (nI K.2.1) s' r' hand (nI g) ga (nI m) qA qB id w_draft w_frame one two turned pI pJ fA fB fC)) sz1 (IV.kp (im := im) (rw := rw) (sorts := sorts) (rows := rows) hp0 ho hB k1 y2 z2 hH hG hG2 hA hA2 hBq hB2 hm (Nat.le_refl m) hid had (Nat.le_trans hsz y3.2) hr w_draft w_frame one two turned pI pJ fA fB fC)
  have C := hx.1 O
  refine ⟨O, hO, ?_⟩
  refine r_aload_n C 1 rfl dL_773 rfl ?_
  refine q_callV C 0 (rc - 24) (rs - 64 * 24) (k_X5_quadric y1) rfl hob rfl okX5_quadric inX5_quadric lkL_93 rfl (Nat.le_of_ble_eq_true rfl) ⟨Nat.le_of_ble_eq_true rfl, Nat.le_of_ble_eq_true rfl⟩ dL_774 (by omega) (by omega) ?_
  refine r_cv (hp2 := mw h0 hp1 (nI d) (lN P) (nI c) sorts rows hand (nI g) ga (nI m) qA qB id draft frame one two turned pI pJ fA fB fC) (cv1 h5 hkp) ?_
  refine r_aload_n C 2 rfl dL_777 rfl ?_
  refine q_callV C 1 (rc - 24) (rs - 64 * 24) (c_quadric z1) rfl mw_self rfl ok_quadric in_quadric lkL_96 rfl (Nat.le_of_ble_eq_true rfl) ⟨Nat.le_of_ble_eq_true rfl, Nat.le_of_ble_eq_true rfl⟩ dL_778 (by omega) (by omega) ?_
  refine r_icmp_eq C (tgt := 1130) dL_781 (by decide) (fun _ => ?_) (fun q => absurd rfl q)
  exact r_cv (cv2 h5) (r_rc (by omega) (by omega) w)
set_option maxHeartbeats 4000000 in
set_option maxRecDepth 100000 in
theorem lcall_rank (hx : LX G p e s mi b bl mt cd mn L xs) (hi : i + 6 ≤ L) (hrc : 115 ≤ rc) (hrs : 7360 ≤ rs) {hp : cH} {sz : Nat} (hV : IV h0 o hp sz) (kk : ∀ hp2 sz2, IV h0 o hp2 sz2 → NX G p e s mi b bl mt cd o h0 i (rc - 115) (rs - 7360) 1130 hp2 sz2) : NX G p e s mi b bl mt cd o h0 i rc rs 786 hp sz := by
  obtain ⟨P, d, _, ad, im, rw, c, S, R, H, g, Gs, m, pA, pB, id, hb, sorts, rows, hand, ga, qA, qB, draft, frame, one, two, turned, pI, pJ, fA, fB, fC, rfl, hp0, ho, hB, hI, hC, hS, hK, hH, hG, hG2, hA, hA2, hBq, hB2, hm, hid, had, hsz⟩ := hV
  have h5 := hx.2.1
  have hob := hC.1.1
  obtain ⟨v, hp1, sz1, w_frame, y1, y3, z1⟩ := st_rank hp0 ho hB hI hC hS hK frame (xs (i + 1))
  have hkp : ∀ b, h0 ≤ b → b < h0 + 12 → hp1 b = z5 h0 (mw h0 hb (nI d) (lN P) (nI c) sorts rows hand (nI g) ga (nI m) qA qB id draft frame one two turned pI pJ fA fB fC) b := (cF.g (o := o) (ad := ad) y3).k had hsz
  have hr : rng h0 hp1 := rng_mw.k hkp
  obtain ⟨O, hO, w⟩ := kk (z5 h0 (mw h0 hp1 (nI d) (lN P) (nI c) sorts rows hand (nI g) ga (nI m) qA qB id draft w_frame one two turned pI pJ fA fB fC)) sz1 (IV.mk hp0 ho hB hI (hC.gg y3) hS hK hH hG hG2 hA hA2 hBq hB2 hm hid had (Nat.le_trans hsz y3.2) hr draft w_frame one two turned pI pJ fA fB fC)
  have C := hx.1 O
  refine ⟨O, hO, ?_⟩
  refine r_aload_n C 1 rfl dL_786 rfl ?_
  refine l_arg hx hi 1 (by decide) (by decide) dL_787 dL_788 dL_789 dL_790 dL_791 ?_
  refine q_callV C 0 (rc - 10) (rs - 64 * 10) (k_X5_rank y1) rfl hob rfl okX5_rank inX5_rank lkL_97 rfl (Nat.le_of_ble_eq_true rfl) ⟨Nat.le_of_ble_eq_true rfl, Nat.le_of_ble_eq_true rfl⟩ dL_792 (by omega) (by omega) ?_
  refine r_cv (hp2 := mw h0 hp1 (nI d) (lN P) (nI c) sorts rows hand (nI g) ga (nI m) qA qB id draft frame one two turned pI pJ fA fB fC) (cv1 h5 hkp) ?_
  refine r_aload_n C 2 rfl dL_795 rfl ?_
  refine l_arg hx hi 1 (by decide) (by decide) dL_796 dL_797 dL_798 dL_799 dL_800 ?_
  refine q_callV C 1 (rc - 10) (rs - 64 * 10) (c_rank z1) rfl mw_self rfl ok_rank in_rank lkL_100 rfl (Nat.le_of_ble_eq_true rfl) ⟨Nat.le_of_ble_eq_true rfl, Nat.le_of_ble_eq_true rfl⟩ dL_801 (by omega) (by omega) ?_
  refine r_icmp_eq C (tgt := 1130) dL_804 (by decide) (fun _ => ?_) (fun q => absurd rfl q)
  exact r_cv (cv2 h5) (r_rc (by omega) (by omega) w)
set_option maxHeartbeats 4000000 in
set_option maxRecDepth 100000 in
theorem lcall_polar (hx : LX G p e s mi b bl mt cd mn L xs) (hi : i + 6 ≤ L) (hrc : 115 ≤ rc) (hrs : 7360 ≤ rs) {hp : cH} {sz : Nat} (hV : IV h0 o hp sz) (kk : ∀ hp2 sz2, IV h0 o hp2 sz2 → NX G p e s mi b bl mt cd o h0 i (rc - 115) (rs - 7360) 1130 hp2 sz2) : NX G p e s mi b bl mt cd o h0 i rc rs 809 hp sz := by
  obtain ⟨P, d, _, ad, im, rw, c, S, R, H, g, Gs, m, pA, pB, id, hb, sorts, rows, hand, ga, qA, qB, draft, frame, one, two, turned, pI, pJ, fA, fB, fC, rfl, hp0, ho, hB, hI, hC, hS, hK, hH, hG, hG2, hA, hA2, hBq, hB2, hm, hid, had, hsz⟩ := hV
  have h5 := hx.2.1
  have hob := hC.1.1
  obtain ⟨K, k1, ⟨hp1, sz1, im1, rw1, y1, y2, y3⟩, s', r', w_draft, w_frame, w_turned, z1, z2⟩ := st_polar hp0 ho hB hI hC hS hK draft frame turned (xs (i + 1)) (xs (i + 2))
  have hkp : ∀ b, h0 ≤ b → b < h0 + 12 → hp1 b = z5 h0 (mw h0 hb (nI d) (lN P) (nI c) sorts rows hand (nI g) ga (nI m) qA qB id draft frame one two turned pI pJ fA fB fC) b := y3.k had hsz
  have hr : rng h0 hp1 := rng_mw.k hkp
  obtain ⟨O, hO, w⟩ := kk (z5 h0 (mw h0 hp1 (nI d) (lN P) (nI K.2.1) s' r' hand (nI g) ga (nI m) qA qB id w_draft w_frame one two w_turned pI pJ fA fB fC)) sz1 (IV.kp (im := im) (rw := rw) (sorts := sorts) (rows := rows) hp0 ho hB k1 y2 z2 hH hG hG2 hA hA2 hBq hB2 hm (Nat.le_refl m) hid had (Nat.le_trans hsz y3.2) hr w_draft w_frame one two w_turned pI pJ fA fB fC)
  have C := hx.1 O
  refine ⟨O, hO, ?_⟩
  refine r_aload_n C 1 rfl dL_809 rfl ?_
  refine l_arg hx hi 1 (by decide) (by decide) dL_810 dL_811 dL_812 dL_813 dL_814 ?_
  refine l_arg hx hi 2 (by decide) (by decide) dL_815 dL_816 dL_817 dL_818 dL_819 ?_
  refine q_callV C 0 (rc - 17) (rs - 64 * 17) (k_X5_polar y1) rfl hob rfl okX5_polar inX5_polar lkL_101 rfl (Nat.le_of_ble_eq_true rfl) ⟨Nat.le_of_ble_eq_true rfl, Nat.le_of_ble_eq_true rfl⟩ dL_820 (by omega) (by omega) ?_
  refine r_cv (hp2 := mw h0 hp1 (nI d) (lN P) (nI c) sorts rows hand (nI g) ga (nI m) qA qB id draft frame one two turned pI pJ fA fB fC) (cv1 h5 hkp) ?_
  refine r_aload_n C 2 rfl dL_823 rfl ?_
  refine l_arg hx hi 1 (by decide) (by decide) dL_824 dL_825 dL_826 dL_827 dL_828 ?_
  refine l_arg hx hi 2 (by decide) (by decide) dL_829 dL_830 dL_831 dL_832 dL_833 ?_
  refine q_callV C 1 (rc - 17) (rs - 64 * 17) (c_polar z1) rfl mw_self rfl ok_polar in_polar lkL_104 rfl (Nat.le_of_ble_eq_true rfl) ⟨Nat.le_of_ble_eq_true rfl, Nat.le_of_ble_eq_true rfl⟩ dL_834 (by omega) (by omega) ?_
  refine r_icmp_eq C (tgt := 1130) dL_837 (by decide) (fun _ => ?_) (fun q => absurd rfl q)
  exact r_cv (cv2 h5) (r_rc (by omega) (by omega) w)
set_option maxHeartbeats 4000000 in
set_option maxRecDepth 100000 in
theorem lcall_touches (hx : LX G p e s mi b bl mt cd mn L xs) (hi : i + 6 ≤ L) (hrc : 115 ≤ rc) (hrs : 7360 ≤ rs) {hp : cH} {sz : Nat} (hV : IV h0 o hp sz) (kk : ∀ hp2 sz2, IV h0 o hp2 sz2 → NX G p e s mi b bl mt cd o h0 i (rc - 115) (rs - 7360) 1130 hp2 sz2) : NX G p e s mi b bl mt cd o h0 i rc rs 842 hp sz := by
  obtain ⟨P, d, _, ad, im, rw, c, S, R, H, g, Gs, m, pA, pB, id, hb, sorts, rows, hand, ga, qA, qB, draft, frame, one, two, turned, pI, pJ, fA, fB, fC, rfl, hp0, ho, hB, hI, hC, hS, hK, hH, hG, hG2, hA, hA2, hBq, hB2, hm, hid, had, hsz⟩ := hV
  have h5 := hx.2.1
  have hob := hC.1.1
  obtain ⟨v, hp1, sz1, w_frame, w_one, w_two, w_formA, w_formB, w_formC, y1, y3, z1⟩ := st_touches hp0 ho hB hI hC hS hK frame one two fA fB fC (xs (i + 1)) (xs (i + 2))
  have hkp : ∀ b, h0 ≤ b → b < h0 + 12 → hp1 b = z5 h0 (mw h0 hb (nI d) (lN P) (nI c) sorts rows hand (nI g) ga (nI m) qA qB id draft frame one two turned pI pJ fA fB fC) b := (cF.g (o := o) (ad := ad) y3).k had hsz
  have hr : rng h0 hp1 := rng_mw.k hkp
  obtain ⟨O, hO, w⟩ := kk (z5 h0 (mw h0 hp1 (nI d) (lN P) (nI c) sorts rows hand (nI g) ga (nI m) qA qB id draft w_frame w_one w_two turned pI pJ w_formA w_formB w_formC)) sz1 (IV.mk hp0 ho hB hI (hC.gg y3) hS hK hH hG hG2 hA hA2 hBq hB2 hm hid had (Nat.le_trans hsz y3.2) hr draft w_frame w_one w_two turned pI pJ w_formA w_formB w_formC)
  have C := hx.1 O
  refine ⟨O, hO, ?_⟩
  refine r_aload_n C 1 rfl dL_842 rfl ?_
  refine l_arg hx hi 1 (by decide) (by decide) dL_843 dL_844 dL_845 dL_846 dL_847 ?_
  refine l_arg hx hi 2 (by decide) (by decide) dL_848 dL_849 dL_850 dL_851 dL_852 ?_
  refine q_callV C 0 (rc - 23) (rs - 64 * 23) (k_X5_touches y1) rfl hob rfl okX5_touches inX5_touches lkL_105 rfl (Nat.le_of_ble_eq_true rfl) ⟨Nat.le_of_ble_eq_true rfl, Nat.le_of_ble_eq_true rfl⟩ dL_853 (by omega) (by omega) ?_
  refine r_cv (hp2 := mw h0 hp1 (nI d) (lN P) (nI c) sorts rows hand (nI g) ga (nI m) qA qB id draft frame one two turned pI pJ fA fB fC) (cv1 h5 hkp) ?_
  refine r_aload_n C 2 rfl dL_856 rfl ?_
  refine l_arg hx hi 1 (by decide) (by decide) dL_857 dL_858 dL_859 dL_860 dL_861 ?_
  refine l_arg hx hi 2 (by decide) (by decide) dL_862 dL_863 dL_864 dL_865 dL_866 ?_
  refine q_callV C 2 (rc - 23) (rs - 64 * 23) (c_touches z1) rfl mw_self rfl ok_touches in_touches lkL_109 rfl (Nat.le_of_ble_eq_true rfl) ⟨Nat.le_of_ble_eq_true rfl, Nat.le_of_ble_eq_true rfl⟩ dL_867 (by omega) (by omega) ?_
  refine r_leq C (tgt := 1130) dL_870 dL_871 (by decide) (fun _ => ?_) (fun q => absurd rfl q)
  exact r_cv (cv2 h5) (r_rc (by omega) (by omega) w)
set_option maxHeartbeats 4000000 in
set_option maxRecDepth 100000 in
theorem lcall_common (hx : LX G p e s mi b bl mt cd mn L xs) (hi : i + 6 ≤ L) (hrc : 115 ≤ rc) (hrs : 7360 ≤ rs) {hp : cH} {sz : Nat} (hV : IV h0 o hp sz) (kk : ∀ hp2 sz2, IV h0 o hp2 sz2 → NX G p e s mi b bl mt cd o h0 i (rc - 115) (rs - 7360) 1130 hp2 sz2) : NX G p e s mi b bl mt cd o h0 i rc rs 876 hp sz := by
  obtain ⟨P, d, _, ad, im, rw, c, S, R, H, g, Gs, m, pA, pB, id, hb, sorts, rows, hand, ga, qA, qB, draft, frame, one, two, turned, pI, pJ, fA, fB, fC, rfl, hp0, ho, hB, hI, hC, hS, hK, hH, hG, hG2, hA, hA2, hBq, hB2, hm, hid, had, hsz⟩ := hV
  have h5 := hx.2.1
  have hob := hC.1.1
  obtain ⟨K, k1, ⟨hp1, sz1, im1, rw1, y1, y2, y3⟩, s', r', w_draft, w_frame, w_one, w_two, w_formA, w_formB, w_formC, z1, z2⟩ := st_common hp0 ho hB hI hC hS hK draft frame one two fA fB fC (xs (i + 1)) (xs (i + 2)) (xs (i + 3))
  have hkp : ∀ b, h0 ≤ b → b < h0 + 12 → hp1 b = z5 h0 (mw h0 hb (nI d) (lN P) (nI c) sorts rows hand (nI g) ga (nI m) qA qB id draft frame one two turned pI pJ fA fB fC) b := y3.k had hsz
  have hr : rng h0 hp1 := rng_mw.k hkp
  obtain ⟨O, hO, w⟩ := kk (z5 h0 (mw h0 hp1 (nI d) (lN P) (nI K.2.1) s' r' hand (nI g) ga (nI m) qA qB id w_draft w_frame w_one w_two turned pI pJ w_formA w_formB w_formC)) sz1 (IV.kp (im := im) (rw := rw) (sorts := sorts) (rows := rows) hp0 ho hB k1 y2 z2 hH hG hG2 hA hA2 hBq hB2 hm (Nat.le_refl m) hid had (Nat.le_trans hsz y3.2) hr w_draft w_frame w_one w_two turned pI pJ w_formA w_formB w_formC)
  have C := hx.1 O
  refine ⟨O, hO, ?_⟩
  refine r_aload_n C 1 rfl dL_876 rfl ?_
  refine l_arg hx hi 1 (by decide) (by decide) dL_877 dL_878 dL_879 dL_880 dL_881 ?_
  refine l_arg hx hi 2 (by decide) (by decide) dL_882 dL_883 dL_884 dL_885 dL_886 ?_
  refine l_arg hx hi 3 (by decide) (by decide) dL_887 dL_888 dL_889 dL_890 dL_891 ?_
  refine q_callV C 0 (rc - 29) (rs - 64 * 29) (k_X5_common y1) rfl hob rfl okX5_common inX5_common lkL_110 rfl (Nat.le_of_ble_eq_true rfl) ⟨Nat.le_of_ble_eq_true rfl, Nat.le_of_ble_eq_true rfl⟩ dL_892 (by omega) (by omega) ?_
  refine r_cv (hp2 := mw h0 hp1 (nI d) (lN P) (nI c) sorts rows hand (nI g) ga (nI m) qA qB id draft frame one two turned pI pJ fA fB fC) (cv1 h5 hkp) ?_
  refine r_aload_n C 2 rfl dL_895 rfl ?_
  refine l_arg hx hi 1 (by decide) (by decide) dL_896 dL_897 dL_898 dL_899 dL_900 ?_
  refine l_arg hx hi 2 (by decide) (by decide) dL_901 dL_902 dL_903 dL_904 dL_905 ?_
  refine l_arg hx hi 3 (by decide) (by decide) dL_906 dL_907 dL_908 dL_909 dL_910 ?_
  refine q_callV C 1 (rc - 29) (rs - 64 * 29) (c_common z1) rfl mw_self rfl ok_common in_common lkL_114 rfl (Nat.le_of_ble_eq_true rfl) ⟨Nat.le_of_ble_eq_true rfl, Nat.le_of_ble_eq_true rfl⟩ dL_911 (by omega) (by omega) ?_
  refine r_icmp_eq C (tgt := 1130) dL_914 (by decide) (fun _ => ?_) (fun q => absurd rfl q)
  exact r_cv (cv2 h5) (r_rc (by omega) (by omega) w)
set_option maxHeartbeats 4000000 in
set_option maxRecDepth 100000 in
theorem lcall_root (hx : LX G p e s mi b bl mt cd mn L xs) (hi : i + 6 ≤ L) (hrc : 115 ≤ rc) (hrs : 7360 ≤ rs) {hp : cH} {sz : Nat} (hV : IV h0 o hp sz) (kk : ∀ hp2 sz2, IV h0 o hp2 sz2 → NX G p e s mi b bl mt cd o h0 i (rc - 115) (rs - 7360) 1130 hp2 sz2) : NX G p e s mi b bl mt cd o h0 i rc rs 919 hp sz := by
  obtain ⟨P, d, _, ad, im, rw, c, S, R, H, g, Gs, m, pA, pB, id, hb, sorts, rows, hand, ga, qA, qB, draft, frame, one, two, turned, pI, pJ, fA, fB, fC, rfl, hp0, ho, hB, hI, hC, hS, hK, hH, hG, hG2, hA, hA2, hBq, hB2, hm, hid, had, hsz⟩ := hV
  have h5 := hx.2.1
  have hob := hC.1.1
  obtain ⟨v, y1, z1⟩ := st_root hp0 ho hB hC (aJ2 (xs (i + 1)) (xs (i + 2)))
  have hkp : ∀ b, h0 ≤ b → b < h0 + 12 → (z5 h0 (mw h0 hb (nI d) (lN P) (nI c) sorts rows hand (nI g) ga (nI m) qA qB id draft frame one two turned pI pJ fA fB fC)) b = z5 h0 (mw h0 hb (nI d) (lN P) (nI c) sorts rows hand (nI g) ga (nI m) qA qB id draft frame one two turned pI pJ fA fB fC) b := fun _ _ _ => rfl
  have hr : rng h0 (z5 h0 (mw h0 hb (nI d) (lN P) (nI c) sorts rows hand (nI g) ga (nI m) qA qB id draft frame one two turned pI pJ fA fB fC)) := rng_mw.k hkp
  obtain ⟨O, hO, w⟩ := kk (z5 h0 (mw h0 (z5 h0 (mw h0 hb (nI d) (lN P) (nI c) sorts rows hand (nI g) ga (nI m) qA qB id draft frame one two turned pI pJ fA fB fC)) (nI d) (lN P) (nI c) sorts rows hand (nI g) ga (nI m) qA qB id draft frame one two turned pI pJ fA fB fC)) sz (IV.mk hp0 ho hB hI hC hS hK hH hG hG2 hA hA2 hBq hB2 hm hid had hsz hr draft frame one two turned pI pJ fA fB fC)
  have C := hx.1 O
  refine ⟨O, hO, ?_⟩
  refine r_aload_n C 1 rfl dL_919 rfl ?_
  refine l_argJ hx hi 1 2 (by decide) (by decide) (by decide) (by decide) dL_920 dL_921 dL_922 dL_923 dL_924 dL_925 dL_926 dL_928 dL_929 dL_930 dL_931 dL_932 dL_933 dL_934 dL_935 dL_938 dL_939 ?_
  refine q_callV C 0 (rc - 0) (rs - 64 * 0) (k_X5_root y1) rfl hob rfl okX5_root inX5_root lkL_115 rfl (Nat.le_of_ble_eq_true rfl) ⟨Nat.le_of_ble_eq_true rfl, Nat.le_of_ble_eq_true rfl⟩ dL_940 (by omega) (by omega) ?_
  refine r_cv (hp2 := mw h0 (z5 h0 (mw h0 hb (nI d) (lN P) (nI c) sorts rows hand (nI g) ga (nI m) qA qB id draft frame one two turned pI pJ fA fB fC)) (nI d) (lN P) (nI c) sorts rows hand (nI g) ga (nI m) qA qB id draft frame one two turned pI pJ fA fB fC) (cv1 h5 hkp) ?_
  refine r_aload_n C 2 rfl dL_943 rfl ?_
  refine l_argJ hx hi 1 2 (by decide) (by decide) (by decide) (by decide) dL_944 dL_945 dL_946 dL_947 dL_948 dL_949 dL_950 dL_952 dL_953 dL_954 dL_955 dL_956 dL_957 dL_958 dL_959 dL_962 dL_963 ?_
  refine q_callV C 1 (rc - 0) (rs - 64 * 0) (c_root z1) rfl mw_self rfl ok_root in_root lkL_119 rfl (Nat.le_of_ble_eq_true rfl) ⟨Nat.le_of_ble_eq_true rfl, Nat.le_of_ble_eq_true rfl⟩ dL_964 (by omega) (by omega) ?_
  refine r_icmp_eq C (tgt := 1130) dL_967 (by decide) (fun _ => ?_) (fun q => absurd rfl q)
  exact r_cv (cv2 h5) (r_rc (by omega) (by omega) w)
end LAWC
