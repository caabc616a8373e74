section LAWC
variable {G : gT} {p : Program} {e : Env} {s : State} {mi : MethodId} {b : Nat} {bl : List Frame} {mt : Method} {cd : Code} {mn : String} {L : Nat} {xs : Nat → Int32} {rc rs o h0 i : Nat}
set_option maxHeartbeats 4000000 in
set_option maxRecDepth 100000 in
theorem lcall_dual (hx : LX G p e s mi b bl mt cd mn L xs) (hi : i + 6 ≤ L) (hrc : 115 ≤ rc) (hrs : 7360 ≤ rs) {hp : cH} {sz : Nat} (hV : IV h0 o hp sz) (kk : ∀ hp2 sz2, IV h0 o hp2 sz2 → NX G p e s mi b bl mt cd o h0 i (rc - 115) (rs - 7360) 1130 hp2 sz2) : NX G p e s mi b bl mt cd o h0 i rc rs 972 hp sz := by
  obtain ⟨P, d, _, ad, im, rw, c, S, R, H, g, Gs, m, pA, pB, id, hb, sorts, rows, hand, ga, qA, qB, draft, frame, one, two, turned, pI, pJ, fA, fB, fC, rfl, hp0, ho, hB, hI, hC, hS, hK, hH, hG, hG2, hA, hA2, hBq, hB2, hm, hid, had, hsz⟩ := hV
  have h5 := hx.2.1
  have hob := hC.1.1
  obtain ⟨K, k1, ⟨hp1, sz1, im1, rw1, y1, y2, y3⟩, s', r', w_draft, w_frame, w_turned, z1, z2⟩ := st_dual hp0 ho hB hI hC hS hK draft frame turned (xs (i + 1))
  have hkp : ∀ b, h0 ≤ b → b < h0 + 12 → hp1 b = z5 h0 (mw h0 hb (nI d) (lN P) (nI c) sorts rows hand (nI g) ga (nI m) qA qB id draft frame one two turned pI pJ fA fB fC) b := y3.k had hsz
  have hr : rng h0 hp1 := rng_mw.k hkp
  obtain ⟨O, hO, w⟩ := kk (z5 h0 (mw h0 hp1 (nI d) (lN P) (nI K.2.1) s' r' hand (nI g) ga (nI m) qA qB id w_draft w_frame one two w_turned pI pJ fA fB fC)) sz1 (IV.kp (im := im) (rw := rw) (sorts := sorts) (rows := rows) hp0 ho hB k1 y2 z2 hH hG hG2 hA hA2 hBq hB2 hm (Nat.le_refl m) hid had (Nat.le_trans hsz y3.2) hr w_draft w_frame one two w_turned pI pJ fA fB fC)
  have C := hx.1 O
  refine ⟨O, hO, ?_⟩
  refine r_aload_n C 1 rfl dL_972 rfl ?_
  refine l_arg hx hi 1 (by decide) (by decide) dL_973 dL_974 dL_975 dL_976 dL_977 ?_
  refine q_callV C 0 (rc - 21) (rs - 64 * 21) (k_X5_dual y1) rfl hob rfl okX5_dual inX5_dual lkL_120 rfl (Nat.le_of_ble_eq_true rfl) ⟨Nat.le_of_ble_eq_true rfl, Nat.le_of_ble_eq_true rfl⟩ dL_978 (by omega) (by omega) ?_
  refine r_cv (hp2 := mw h0 hp1 (nI d) (lN P) (nI c) sorts rows hand (nI g) ga (nI m) qA qB id draft frame one two turned pI pJ fA fB fC) (cv1 h5 hkp) ?_
  refine r_aload_n C 2 rfl dL_981 rfl ?_
  refine l_arg hx hi 1 (by decide) (by decide) dL_982 dL_983 dL_984 dL_985 dL_986 ?_
  refine q_callV C 1 (rc - 21) (rs - 64 * 21) (c_dual z1) rfl mw_self rfl ok_dual in_dual lkL_123 rfl (Nat.le_of_ble_eq_true rfl) ⟨Nat.le_of_ble_eq_true rfl, Nat.le_of_ble_eq_true rfl⟩ dL_987 (by omega) (by omega) ?_
  refine r_icmp_eq C (tgt := 1130) dL_990 (by decide) (fun _ => ?_) (fun q => absurd rfl q)
  exact r_cv (cv2 h5) (r_rc (by omega) (by omega) w)
set_option maxHeartbeats 4000000 in
set_option maxRecDepth 100000 in
theorem lcall_ideal (hx : LX G p e s mi b bl mt cd mn L xs) (hi : i + 6 ≤ L) (hrc : 115 ≤ rc) (hrs : 7360 ≤ rs) {hp : cH} {sz : Nat} (hV : IV h0 o hp sz) (kk : ∀ hp2 sz2, IV h0 o hp2 sz2 → NX G p e s mi b bl mt cd o h0 i (rc - 115) (rs - 7360) 1130 hp2 sz2) : NX G p e s mi b bl mt cd o h0 i rc rs 995 hp sz := by
  obtain ⟨P, d, _, ad, im, rw, c, S, R, H, g, Gs, m, pA, pB, id, hb, sorts, rows, hand, ga, qA, qB, draft, frame, one, two, turned, pI, pJ, fA, fB, fC, rfl, hp0, ho, hB, hI, hC, hS, hK, hH, hG, hG2, hA, hA2, hBq, hB2, hm, hid, had, hsz⟩ := hV
  have h5 := hx.2.1
  have hob := hC.1.1
  obtain ⟨v, hp1, id', y1, y2, y3, z1, z2⟩ := st_ideal hC hS (xs (i + 1))
  have hid' : id' = -1 ∨ ∃ e, e < c ∧ id' = nI e ∧ S e = d - 1 := by
    rcases z2 with q | q
    · rw [q]
      exact hid
    · exact Or.inr q
  have hkp : ∀ b, h0 ≤ b → b < h0 + 12 → hp1 b = z5 h0 (mw h0 hb (nI d) (lN P) (nI c) sorts rows hand (nI g) ga (nI m) qA qB id draft frame one two turned pI pJ fA fB fC) b := y3.k had hsz
  have hr : rng h0 hp1 := rng_mw.k hkp
  obtain ⟨O, hO, w⟩ := kk (z5 h0 (mw h0 hp1 (nI d) (lN P) (nI c) sorts rows hand (nI g) ga (nI m) qA qB id' draft frame one two turned pI pJ fA fB fC)) sz (IV.mk hp0 ho hB hI y2 hS hK hH hG hG2 hA hA2 hBq hB2 hm hid' had hsz hr draft frame one two turned pI pJ fA fB fC)
  have C := hx.1 O
  refine ⟨O, hO, ?_⟩
  refine r_aload_n C 1 rfl dL_995 rfl ?_
  refine l_arg hx hi 1 (by decide) (by decide) dL_996 dL_997 dL_998 dL_999 dL_1000 ?_
  refine q_callV C 0 (rc - 0) (rs - 64 * 0) (k_X5_ideal y1) rfl hob rfl okX5_ideal inX5_ideal lkL_124 rfl (Nat.le_of_ble_eq_true rfl) ⟨Nat.le_of_ble_eq_true rfl, Nat.le_of_ble_eq_true rfl⟩ dL_1001 (by omega) (by omega) ?_
  refine r_cv (hp2 := mw h0 hp1 (nI d) (lN P) (nI c) sorts rows hand (nI g) ga (nI m) qA qB id draft frame one two turned pI pJ fA fB fC) (cv1 h5 hkp) ?_
  refine r_aload_n C 2 rfl dL_1004 rfl ?_
  refine l_arg hx hi 1 (by decide) (by decide) dL_1005 dL_1006 dL_1007 dL_1008 dL_1009 ?_
  refine q_callV C 1 (rc - 0) (rs - 64 * 0) (c_ideal z1) rfl mw_self rfl ok_ideal in_ideal lkL_127 rfl (Nat.le_of_ble_eq_true rfl) ⟨Nat.le_of_ble_eq_true rfl, Nat.le_of_ble_eq_true rfl⟩ dL_1010 (by omega) (by omega) ?_
  refine r_icmp_eq C (tgt := 1130) dL_1013 (by decide) (fun _ => ?_) (fun q => absurd rfl q)
  exact r_cv (cv2 h5) (r_rc (by omega) (by omega) w)
set_option maxHeartbeats 4000000 in
set_option maxRecDepth 100000 in
theorem lcall_parallel (hx : LX G p e s mi b bl mt cd mn L xs) (hi : i + 6 ≤ L) (hrc : 115 ≤ rc) (hrs : 7360 ≤ rs) {hp : cH} {sz : Nat} (hV : IV h0 o hp sz) (kk : ∀ hp2 sz2, IV h0 o hp2 sz2 → NX G p e s mi b bl mt cd o h0 i (rc - 115) (rs - 7360) 1130 hp2 sz2) : NX G p e s mi b bl mt cd o h0 i rc rs 1018 hp sz := by
  obtain ⟨P, d, _, ad, im, rw, c, S, R, H, g, Gs, m, pA, pB, id, hb, sorts, rows, hand, ga, qA, qB, draft, frame, one, two, turned, pI, pJ, fA, fB, fC, rfl, hp0, ho, hB, hI, hC, hS, hK, hH, hG, hG2, hA, hA2, hBq, hB2, hm, hid, had, hsz⟩ := hV
  have h5 := hx.2.1
  have hob := hC.1.1
  obtain ⟨v, hp1, sz1, w_draft, w_frame, w_one, w_two, w_turned, y1, y3, z1⟩ := st_parallel hp0 ho hB hI hC hS hK hid draft frame one two turned (xs (i + 1)) (xs (i + 2))
  have hkp : ∀ b, h0 ≤ b → b < h0 + 12 → hp1 b = z5 h0 (mw h0 hb (nI d) (lN P) (nI c) sorts rows hand (nI g) ga (nI m) qA qB id draft frame one two turned pI pJ fA fB fC) b := (cF.g (o := o) (ad := ad) y3).k had hsz
  have hr : rng h0 hp1 := rng_mw.k hkp
  obtain ⟨O, hO, w⟩ := kk (z5 h0 (mw h0 hp1 (nI d) (lN P) (nI c) sorts rows hand (nI g) ga (nI m) qA qB id w_draft w_frame w_one w_two w_turned pI pJ fA fB fC)) sz1 (IV.mk hp0 ho hB hI (hC.gg y3) hS hK hH hG hG2 hA hA2 hBq hB2 hm hid had (Nat.le_trans hsz y3.2) hr w_draft w_frame w_one w_two w_turned pI pJ fA fB fC)
  have C := hx.1 O
  refine ⟨O, hO, ?_⟩
  refine r_aload_n C 1 rfl dL_1018 rfl ?_
  refine l_arg hx hi 1 (by decide) (by decide) dL_1019 dL_1020 dL_1021 dL_1022 dL_1023 ?_
  refine l_arg hx hi 2 (by decide) (by decide) dL_1024 dL_1025 dL_1026 dL_1027 dL_1028 ?_
  refine q_callV C 0 (rc - 30) (rs - 64 * 30) (k_X5_parallel y1) rfl hob rfl okX5_parallel inX5_parallel lkL_128 rfl (Nat.le_of_ble_eq_true rfl) ⟨Nat.le_of_ble_eq_true rfl, Nat.le_of_ble_eq_true rfl⟩ dL_1029 (by omega) (by omega) ?_
  refine r_cv (hp2 := mw h0 hp1 (nI d) (lN P) (nI c) sorts rows hand (nI g) ga (nI m) qA qB id draft frame one two turned pI pJ fA fB fC) (cv1 h5 hkp) ?_
  refine r_aload_n C 2 rfl dL_1032 rfl ?_
  refine l_arg hx hi 1 (by decide) (by decide) dL_1033 dL_1034 dL_1035 dL_1036 dL_1037 ?_
  refine l_arg hx hi 2 (by decide) (by decide) dL_1038 dL_1039 dL_1040 dL_1041 dL_1042 ?_
  refine q_callV C 1 (rc - 30) (rs - 64 * 30) (c_parallel z1) rfl mw_self rfl ok_parallel in_parallel lkL_131 rfl (Nat.le_of_ble_eq_true rfl) ⟨Nat.le_of_ble_eq_true rfl, Nat.le_of_ble_eq_true rfl⟩ dL_1043 (by omega) (by omega) ?_
  refine r_icmp_eq C (tgt := 1130) dL_1046 (by decide) (fun _ => ?_) (fun q => absurd rfl q)
  exact r_cv (cv2 h5) (r_rc (by omega) (by omega) w)
set_option maxHeartbeats 4000000 in
set_option maxRecDepth 100000 in
theorem lcall_middle (hx : LX G p e s mi b bl mt cd mn L xs) (hi : i + 6 ≤ L) (hrc : 115 ≤ rc) (hrs : 7360 ≤ rs) {hp : cH} {sz : Nat} (hV : IV h0 o hp sz) (kk : ∀ hp2 sz2, IV h0 o hp2 sz2 → NX G p e s mi b bl mt cd o h0 i (rc - 115) (rs - 7360) 1130 hp2 sz2) : NX G p e s mi b bl mt cd o h0 i rc rs 1051 hp sz := by
  obtain ⟨P, d, _, ad, im, rw, c, S, R, H, g, Gs, m, pA, pB, id, hb, sorts, rows, hand, ga, qA, qB, draft, frame, one, two, turned, pI, pJ, fA, fB, fC, rfl, hp0, ho, hB, hI, hC, hS, hK, hH, hG, hG2, hA, hA2, hBq, hB2, hm, hid, had, hsz⟩ := hV
  have h5 := hx.2.1
  have hob := hC.1.1
  obtain ⟨K, k1, ⟨hp1, sz1, im1, rw1, y1, y2, y3⟩, s', r', w_draft, z1, z2⟩ := st_middle hp0 ho hB hI hC hS hK hid draft (xs (i + 1)) (xs (i + 2))
  have hkp : ∀ b, h0 ≤ b → b < h0 + 12 → hp1 b = z5 h0 (mw h0 hb (nI d) (lN P) (nI c) sorts rows hand (nI g) ga (nI m) qA qB id draft frame one two turned pI pJ fA fB fC) b := y3.k had hsz
  have hr : rng h0 hp1 := rng_mw.k hkp
  obtain ⟨O, hO, w⟩ := kk (z5 h0 (mw h0 hp1 (nI d) (lN P) (nI K.2.1) s' r' hand (nI g) ga (nI m) qA qB id w_draft frame one two turned pI pJ fA fB fC)) sz1 (IV.kp (im := im) (rw := rw) (sorts := sorts) (rows := rows) hp0 ho hB k1 y2 z2 hH hG hG2 hA hA2 hBq hB2 hm (Nat.le_refl m) hid had (Nat.le_trans hsz y3.2) hr w_draft frame one two turned pI pJ fA fB fC)
  have C := hx.1 O
  refine ⟨O, hO, ?_⟩
  refine r_aload_n C 1 rfl dL_1051 rfl ?_
  refine l_arg hx hi 1 (by decide) (by decide) dL_1052 dL_1053 dL_1054 dL_1055 dL_1056 ?_
  refine l_arg hx hi 2 (by decide) (by decide) dL_1057 dL_1058 dL_1059 dL_1060 dL_1061 ?_
  refine q_callV C 0 (rc - 3) (rs - 64 * 3) (k_X5_middle y1) rfl hob rfl okX5_middle inX5_middle lkL_132 rfl (Nat.le_of_ble_eq_true rfl) ⟨Nat.le_of_ble_eq_true rfl, Nat.le_of_ble_eq_true rfl⟩ dL_1062 (by omega) (by omega) ?_
  refine r_cv (hp2 := mw h0 hp1 (nI d) (lN P) (nI c) sorts rows hand (nI g) ga (nI m) qA qB id draft frame one two turned pI pJ fA fB fC) (cv1 h5 hkp) ?_
  refine r_aload_n C 2 rfl dL_1065 rfl ?_
  refine l_arg hx hi 1 (by decide) (by decide) dL_1066 dL_1067 dL_1068 dL_1069 dL_1070 ?_
  refine l_arg hx hi 2 (by decide) (by decide) dL_1071 dL_1072 dL_1073 dL_1074 dL_1075 ?_
  refine q_callV C 1 (rc - 3) (rs - 64 * 3) (c_middle z1) rfl mw_self rfl ok_middle in_middle lkL_135 rfl (Nat.le_of_ble_eq_true rfl) ⟨Nat.le_of_ble_eq_true rfl, Nat.le_of_ble_eq_true rfl⟩ dL_1076 (by omega) (by omega) ?_
  refine r_icmp_eq C (tgt := 1130) dL_1079 (by decide) (fun _ => ?_) (fun q => absurd rfl q)
  exact r_cv (cv2 h5) (r_rc (by omega) (by omega) w)
set_option maxHeartbeats 4000000 in
set_option maxRecDepth 100000 in
theorem lcall_holds (hx : LX G p e s mi b bl mt cd mn L xs) (hi : i + 6 ≤ L) (hrc : 115 ≤ rc) (hrs : 7360 ≤ rs) {hp : cH} {sz : Nat} (hV : IV h0 o hp sz) (kk : ∀ hp2 sz2, IV h0 o hp2 sz2 → NX G p e s mi b bl mt cd o h0 i (rc - 115) (rs - 7360) 1130 hp2 sz2) : NX G p e s mi b bl mt cd o h0 i rc rs 1084 hp sz := by
  obtain ⟨P, d, _, ad, im, rw, c, S, R, H, g, Gs, m, pA, pB, id, hb, sorts, rows, hand, ga, qA, qB, draft, frame, one, two, turned, pI, pJ, fA, fB, fC, rfl, hp0, ho, hB, hI, hC, hS, hK, hH, hG, hG2, hA, hA2, hBq, hB2, hm, hid, had, hsz⟩ := hV
  have h5 := hx.2.1
  have hob := hC.1.1
  obtain ⟨v, hp1, sz1, w_draft, w_frame, w_one, w_two, w_turned, y1, y3, z1⟩ := st_holds hp0 ho hB hI hC hS hK hG hG2 draft frame one two turned (xs (i + 1))
  have hkp : ∀ b, h0 ≤ b → b < h0 + 12 → hp1 b = z5 h0 (mw h0 hb (nI d) (lN P) (nI c) sorts rows hand (nI g) ga (nI m) qA qB id draft frame one two turned pI pJ fA fB fC) b := (cF.g (o := o) (ad := ad) y3).k had hsz
  have hr : rng h0 hp1 := rng_mw.k hkp
  obtain ⟨O, hO, w⟩ := kk (z5 h0 (mw h0 hp1 (nI d) (lN P) (nI c) sorts rows hand (nI g) ga (nI m) qA qB id w_draft w_frame w_one w_two w_turned pI pJ fA fB fC)) sz1 (IV.mk hp0 ho hB hI (hC.gg y3) hS hK hH hG hG2 hA hA2 hBq hB2 hm hid had (Nat.le_trans hsz y3.2) hr w_draft w_frame w_one w_two w_turned pI pJ fA fB fC)
  have C := hx.1 O
  refine ⟨O, hO, ?_⟩
  refine r_aload_n C 1 rfl dL_1084 rfl ?_
  refine l_arg hx hi 1 (by decide) (by decide) dL_1085 dL_1086 dL_1087 dL_1088 dL_1089 ?_
  refine q_callV C 0 (rc - 98) (rs - 64 * 98) (k_X5_holds y1) rfl hob rfl okX5_holds inX5_holds lkL_136 rfl (Nat.le_of_ble_eq_true rfl) ⟨Nat.le_of_ble_eq_true rfl, Nat.le_of_ble_eq_true rfl⟩ dL_1090 (by omega) (by omega) ?_
  refine r_cv (hp2 := mw h0 hp1 (nI d) (lN P) (nI c) sorts rows hand (nI g) ga (nI m) qA qB id draft frame one two turned pI pJ fA fB fC) (cv1 h5 hkp) ?_
  refine r_aload_n C 2 rfl dL_1093 rfl ?_
  refine l_arg hx hi 1 (by decide) (by decide) dL_1094 dL_1095 dL_1096 dL_1097 dL_1098 ?_
  refine q_callV C 1 (rc - 98) (rs - 64 * 98) (c_holds z1) rfl mw_self rfl ok_holds in_holds lkL_139 rfl (Nat.le_of_ble_eq_true rfl) ⟨Nat.le_of_ble_eq_true rfl, Nat.le_of_ble_eq_true rfl⟩ dL_1099 (by omega) (by omega) ?_
  refine r_icmp_eq C (tgt := 1130) dL_1102 (by decide) (fun _ => ?_) (fun q => absurd rfl q)
  exact r_cv (cv2 h5) (r_rc (by omega) (by omega) w)
set_option maxHeartbeats 4000000 in
set_option maxRecDepth 100000 in
theorem lcall_told (hx : LX G p e s mi b bl mt cd mn L xs) (hi : i + 6 ≤ L) (hrc : 115 ≤ rc) (hrs : 7360 ≤ rs) {hp : cH} {sz : Nat} (hV : IV h0 o hp sz) (kk : ∀ hp2 sz2, IV h0 o hp2 sz2 → NX G p e s mi b bl mt cd o h0 i (rc - 115) (rs - 7360) 1130 hp2 sz2) : NX G p e s mi b bl mt cd o h0 i rc rs 1107 hp sz := by
  obtain ⟨P, d, _, ad, im, rw, c, S, R, H, g, Gs, m, pA, pB, id, hb, sorts, rows, hand, ga, qA, qB, draft, frame, one, two, turned, pI, pJ, fA, fB, fC, rfl, hp0, ho, hB, hI, hC, hS, hK, hH, hG, hG2, hA, hA2, hBq, hB2, hm, hid, had, hsz⟩ := hV
  have h5 := hx.2.1
  have hob := hC.1.1
  obtain ⟨v, y1, z1⟩ := st_told hp0.1 hB hC (xs (i + 1))
  have hkp : ∀ b, h0 ≤ b → b < h0 + 12 → (z5 h0 (mw h0 hb (nI d) (lN P) (nI c) sorts rows hand (nI g) ga (nI m) qA qB id draft frame one two turned pI pJ fA fB fC)) b = z5 h0 (mw h0 hb (nI d) (lN P) (nI c) sorts rows hand (nI g) ga (nI m) qA qB id draft frame one two turned pI pJ fA fB fC) b := fun _ _ _ => rfl
  have hr : rng h0 (z5 h0 (mw h0 hb (nI d) (lN P) (nI c) sorts rows hand (nI g) ga (nI m) qA qB id draft frame one two turned pI pJ fA fB fC)) := rng_mw.k hkp
  obtain ⟨O, hO, w⟩ := kk (z5 h0 (mw h0 (z5 h0 (mw h0 hb (nI d) (lN P) (nI c) sorts rows hand (nI g) ga (nI m) qA qB id draft frame one two turned pI pJ fA fB fC)) (nI d) (lN P) (nI c) sorts rows hand (nI g) ga (nI m) qA qB id draft frame one two turned pI pJ fA fB fC)) sz (IV.mk hp0 ho hB hI hC hS hK hH hG hG2 hA hA2 hBq hB2 hm hid had hsz hr draft frame one two turned pI pJ fA fB fC)
  have C := hx.1 O
  refine ⟨O, hO, ?_⟩
  refine r_aload_n C 1 rfl dL_1107 rfl ?_
  refine l_arg hx hi 1 (by decide) (by decide) dL_1108 dL_1109 dL_1110 dL_1111 dL_1112 ?_
  refine q_callV C 0 (rc - 0) (rs - 64 * 0) (k_X5_told y1) rfl hob rfl okX5_told inX5_told lkL_140 rfl (Nat.le_of_ble_eq_true rfl) ⟨Nat.le_of_ble_eq_true rfl, Nat.le_of_ble_eq_true rfl⟩ dL_1113 (by omega) (by omega) ?_
  refine r_cv (hp2 := mw h0 (z5 h0 (mw h0 hb (nI d) (lN P) (nI c) sorts rows hand (nI g) ga (nI m) qA qB id draft frame one two turned pI pJ fA fB fC)) (nI d) (lN P) (nI c) sorts rows hand (nI g) ga (nI m) qA qB id draft frame one two turned pI pJ fA fB fC) (cv1 h5 hkp) ?_
  refine r_aload_n C 2 rfl dL_1116 rfl ?_
  refine l_arg hx hi 1 (by decide) (by decide) dL_1117 dL_1118 dL_1119 dL_1120 dL_1121 ?_
  refine q_callV C 1 (rc - 0) (rs - 64 * 0) (c_told z1) rfl mw_self rfl ok_told in_told lkL_143 rfl (Nat.le_of_ble_eq_true rfl) ⟨Nat.le_of_ble_eq_true rfl, Nat.le_of_ble_eq_true rfl⟩ dL_1122 (by omega) (by omega) ?_
  refine r_icmp_eq C (tgt := 1130) dL_1125 (by decide) (fun _ => ?_) (fun q => absurd rfl q)
  exact r_cv (cv2 h5) (r_rc (by omega) (by omega) w)
end LAWC
