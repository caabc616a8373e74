theorem lkL_9 : Cond.methodLink RL 9 yX5_init ∈ lw_w := tq1 (List.mem_of_getElem? (i := 13) rfl) rfl
theorem lkL_12 : Cond.methodLink RL 12 yX6_init ∈ lw_w := tq3 (List.mem_of_getElem? (i := 160) rfl) rfl
theorem lkL_13 : Cond.methodLink RL 13 yX5_begin ∈ lw_w := tq1 (List.mem_of_getElem? (i := 134) rfl) rfl
theorem lkL_17 : Cond.methodLink RL 17 yX6_begin ∈ lw_w := tq4 (List.mem_of_getElem? (i := 0) rfl) rfl
theorem lkL_20 : Cond.methodLink RL 20 yX5_put ∈ lw_w := tq1 (List.mem_of_getElem? (i := 141) rfl) rfl
theorem lkL_24 : Cond.methodLink RL 24 yX6_put ∈ lw_w := tq4 (List.mem_of_getElem? (i := 25) rfl) rfl
theorem lkL_25 : Cond.methodLink RL 25 yX5_make ∈ lw_w := tq1 (List.mem_of_getElem? (i := 152) rfl) rfl
theorem lkL_29 : Cond.methodLink RL 29 yX6_make ∈ lw_w := tq4 (List.mem_of_getElem? (i := 29) rfl) rfl
theorem lkL_30 : Cond.methodLink RL 30 yX5_number ∈ lw_w := tq2 (List.mem_of_getElem? (i := 44) rfl) rfl
theorem lkL_33 : Cond.methodLink RL 33 yX6_number ∈ lw_w := tq4 (List.mem_of_getElem? (i := 81) rfl) rfl
theorem lkL_34 : Cond.methodLink RL 34 yX5_sort ∈ lw_w := tq2 (List.mem_of_getElem? (i := 52) rfl) rfl
theorem lkL_37 : Cond.methodLink RL 37 yX6_sort ∈ lw_w := tq4 (List.mem_of_getElem? (i := 89) rfl) rfl
theorem lkL_38 : Cond.methodLink RL 38 yX5_join ∈ lw_w := tq2 (List.mem_of_getElem? (i := 56) rfl) rfl
theorem lkL_41 : Cond.methodLink RL 41 yX6_join ∈ lw_w := tq4 (List.mem_of_getElem? (i := 93) rfl) rfl
theorem lkL_42 : Cond.methodLink RL 42 yX5_meet ∈ lw_w := tq2 (List.mem_of_getElem? (i := 124) rfl) rfl
theorem lkL_45 : Cond.methodLink RL 45 yX6_meet ∈ lw_w := tq4 (List.mem_of_getElem? (i := 140) rfl) rfl
theorem lkL_46 : Cond.methodLink RL 46 yX5_on ∈ lw_w := tq2 (List.mem_of_getElem? (i := 138) rfl) rfl
theorem lkL_49 : Cond.methodLink RL 49 yX6_on ∈ lw_w := tq4 (List.mem_of_getElem? (i := 160) rfl) rfl
theorem lkL_50 : Cond.methodLink RL 50 yX5_cross ∈ lw_w := tq2 (List.mem_of_getElem? (i := 165) rfl) rfl
theorem lkL_54 : Cond.methodLink RL 54 yX6_cross ∈ lw_w := tq4 (List.mem_of_getElem? (i := 176) rfl) rfl
theorem lkL_55 : Cond.methodLink RL 55 yX5_fourth ∈ lw_w := tq2 (List.mem_of_getElem? (i := 198) rfl) rfl
theorem lkL_59 : Cond.methodLink RL 59 yX6_fourth ∈ lw_w := tq4 (List.mem_of_getElem? (i := 206) rfl) rfl
theorem lkL_60 : Cond.methodLink RL 60 yX5_pair ∈ lw_w := tq2 (List.mem_of_getElem? (i := 210) rfl) rfl
theorem lkL_63 : Cond.methodLink RL 63 yX6_pair ∈ lw_w := tq5 (List.mem_of_getElem? (i := 14) rfl) rfl
theorem lkL_64 : Cond.methodLink RL 64 yX5_map ∈ lw_w := tq2 (List.mem_of_getElem? (i := 214) rfl) rfl
theorem lkL_68 : Cond.methodLink RL 68 yX6_map ∈ lw_w := tq4 (List.mem_of_getElem? (i := 210) rfl) rfl
theorem lkL_69 : Cond.methodLink RL 69 yX5_apply ∈ lw_w := tq2 (List.mem_of_getElem? (i := 234) rfl) rfl
theorem lkL_72 : Cond.methodLink RL 72 yX6_apply ∈ lw_w := tq4 (List.mem_of_getElem? (i := 238) rfl) rfl
theorem lkL_73 : Cond.methodLink RL 73 yX5_compose ∈ lw_w := tq3 (List.mem_of_getElem? (i := 7) rfl) rfl
theorem lkL_76 : Cond.methodLink RL 76 yX6_compose ∈ lw_w := tq4 (List.mem_of_getElem? (i := 222) rfl) rfl
theorem lkL_77 : Cond.methodLink RL 77 yX5_inverse ∈ lw_w := tq3 (List.mem_of_getElem? (i := 11) rfl) rfl
theorem lkL_80 : Cond.methodLink RL 80 yX6_inverse ∈ lw_w := tq4 (List.mem_of_getElem? (i := 230) rfl) rfl
theorem lkL_81 : Cond.methodLink RL 81 yX5_order ∈ lw_w := tq3 (List.mem_of_getElem? (i := 15) rfl) rfl
theorem lkL_84 : Cond.methodLink RL 84 yX6_order ∈ lw_w := tq5 (List.mem_of_getElem? (i := 10) rfl) rfl
theorem lkL_85 : Cond.methodLink RL 85 yX5_gather ∈ lw_w := tq3 (List.mem_of_getElem? (i := 37) rfl) rfl
theorem lkL_88 : Cond.methodLink RL 88 yX6_gather ∈ lw_w := tq5 (List.mem_of_getElem? (i := 18) rfl) rfl
theorem lkL_89 : Cond.methodLink RL 89 yX5_forget ∈ lw_w := tq3 (List.mem_of_getElem? (i := 41) rfl) rfl
theorem lkL_92 : Cond.methodLink RL 92 yX6_forget ∈ lw_w := tq5 (List.mem_of_getElem? (i := 22) rfl) rfl
theorem lkL_93 : Cond.methodLink RL 93 yX5_quadric ∈ lw_w := tq3 (List.mem_of_getElem? (i := 45) rfl) rfl
theorem lkL_96 : Cond.methodLink RL 96 yX6_quadric ∈ lw_w := tq5 (List.mem_of_getElem? (i := 26) rfl) rfl
theorem lkL_97 : Cond.methodLink RL 97 yX5_rank ∈ lw_w := tq3 (List.mem_of_getElem? (i := 63) rfl) rfl
theorem lkL_100 : Cond.methodLink RL 100 yX6_rank ∈ lw_w := tq5 (List.mem_of_getElem? (i := 34) rfl) rfl
theorem lkL_101 : Cond.methodLink RL 101 yX5_polar ∈ lw_w := tq3 (List.mem_of_getElem? (i := 67) rfl) rfl
theorem lkL_104 : Cond.methodLink RL 104 yX6_polar ∈ lw_w := tq5 (List.mem_of_getElem? (i := 42) rfl) rfl
theorem lkL_105 : Cond.methodLink RL 105 yX5_touches ∈ lw_w := tq3 (List.mem_of_getElem? (i := 71) rfl) rfl
theorem lkL_109 : Cond.methodLink RL 109 yX6_touches ∈ lw_w := tq5 (List.mem_of_getElem? (i := 46) rfl) rfl
theorem lkL_110 : Cond.methodLink RL 110 yX5_common ∈ lw_w := tq3 (List.mem_of_getElem? (i := 102) rfl) rfl
theorem lkL_114 : Cond.methodLink RL 114 yX6_common ∈ lw_w := tq5 (List.mem_of_getElem? (i := 58) rfl) rfl
theorem lkL_115 : Cond.methodLink RL 115 yX5_root ∈ lw_w := tq3 (List.mem_of_getElem? (i := 110) rfl) rfl
theorem lkL_119 : Cond.methodLink RL 119 yX6_root ∈ lw_w := tq4 (List.mem_of_getElem? (i := 1) rfl) rfl
theorem lkL_120 : Cond.methodLink RL 120 yX5_dual ∈ lw_w := tq3 (List.mem_of_getElem? (i := 115) rfl) rfl
theorem lkL_123 : Cond.methodLink RL 123 yX6_dual ∈ lw_w := tq5 (List.mem_of_getElem? (i := 62) rfl) rfl
theorem lkL_124 : Cond.methodLink RL 124 yX5_ideal ∈ lw_w := tq3 (List.mem_of_getElem? (i := 120) rfl) rfl
theorem lkL_127 : Cond.methodLink RL 127 yX6_ideal ∈ lw_w := tq5 (List.mem_of_getElem? (i := 66) rfl) rfl
theorem lkL_128 : Cond.methodLink RL 128 yX5_parallel ∈ lw_w := tq3 (List.mem_of_getElem? (i := 124) rfl) rfl
theorem lkL_131 : Cond.methodLink RL 131 yX6_parallel ∈ lw_w := tq5 (List.mem_of_getElem? (i := 74) rfl) rfl
theorem lkL_132 : Cond.methodLink RL 132 yX5_middle ∈ lw_w := tq3 (List.mem_of_getElem? (i := 136) rfl) rfl
theorem lkL_135 : Cond.methodLink RL 135 yX6_middle ∈ lw_w := tq5 (List.mem_of_getElem? (i := 86) rfl) rfl
theorem lkL_136 : Cond.methodLink RL 136 yX5_holds ∈ lw_w := tq3 (List.mem_of_getElem? (i := 141) rfl) rfl
theorem lkL_139 : Cond.methodLink RL 139 yX6_holds ∈ lw_w := tq5 (List.mem_of_getElem? (i := 90) rfl) rfl
theorem lkL_140 : Cond.methodLink RL 140 yX5_told ∈ lw_w := tq3 (List.mem_of_getElem? (i := 154) rfl) rfl
theorem lkL_143 : Cond.methodLink RL 143 yX6_told ∈ lw_w := tq5 (List.mem_of_getElem? (i := 110) rfl) rfl
section LAWC
variable {G : gT} {p : Program} {e : Env} {s : State} {mi : MethodId} {b : Nat} {bl : List Frame} {mt : Method} {cd : Code} {mn : String} {L : Nat} {xs : Nat → Int32} {rc rs o h0 i : Nat}
set_option maxHeartbeats 4000000 in
set_option maxRecDepth 100000 in
theorem lcall_begin (hx : LX G p e s mi b bl mt cd mn L xs) (hi : i + 6 ≤ L) (hrc : 115 ≤ rc) (hrs : 7360 ≤ rs) {hp : cH} {sz : Nat} (hV : IV h0 o hp sz) (kk : ∀ hp2 sz2, IV h0 o hp2 sz2 → NX G p e s mi b bl mt cd o h0 i (rc - 115) (rs - 7360) 1130 hp2 sz2) : NX G p e s mi b bl mt cd o h0 i rc rs 168 hp sz := by
  obtain ⟨P, d, _, ad, im, rw, c, S, R, H, g, Gs, m, pA, pB, id, hb, sorts, rows, hand, ga, qA, qB, draft, frame, one, two, turned, pI, pJ, fA, fB, fC, rfl, hp0, ho, hB, hI, hC, hS, hK, hH, hG, hG2, hA, hA2, hBq, hB2, hm, hid, had, hsz⟩ := hV
  have h5 := hx.2.1
  have hob := hC.1.1
  rcases st_begin hC hand (nI d) (lN P) (nI c) (nI g) (nI m) id (xs (i + 1)) (xs (i + 2)) with ⟨y1, z1⟩ | ⟨P', d', hz, hp1, hand', n1, n2, n3, n4, y1, y2, y3, z1, z2⟩
  · have hkp : ∀ b, h0 ≤ b → b < h0 + 12 → (z5 h0 (mw h0 hb (nI d) (lN P) (nI c) sorts rows hand (nI g) ga (nI m) qA qB id draft frame one two turned pI pJ fA fB fC)) b = z5 h0 (mw h0 hb (nI d) (lN P) (nI c) sorts rows hand (nI g) ga (nI m) qA qB id draft frame one two turned pI pJ fA fB fC) b := fun _ _ _ => rfl
    have hr : rng h0 (z5 h0 (mw h0 hb (nI d) (lN P) (nI c) sorts rows hand (nI g) ga (nI m) qA qB id draft frame one two turned pI pJ fA fB fC)) := rng_mw.k hkp
    obtain ⟨O, hO, w⟩ := kk (z5 h0 (mw h0 (z5 h0 (mw h0 hb (nI d) (lN P) (nI c) sorts rows hand (nI g) ga (nI m) qA qB id draft frame one two turned pI pJ fA fB fC)) (nI d) (lN P) (nI c) sorts rows hand (nI g) ga (nI m) qA qB id draft frame one two turned pI pJ fA fB fC)) sz (IV.mk hp0 ho hB hI hC hS hK hH hG hG2 hA hA2 hBq hB2 hm hid had hsz hr draft frame one two turned pI pJ fA fB fC)
    have C := hx.1 O
    refine ⟨O, hO, ?_⟩
    refine r_aload_n C 1 rfl dL_168 rfl ?_
    refine l_arg hx hi 1 (by decide) (by decide) dL_169 dL_170 dL_171 dL_172 dL_173 ?_
    refine l_arg hx hi 2 (by decide) (by decide) dL_174 dL_175 dL_176 dL_177 dL_178 ?_
    refine q_callV C 0 (rc - 3) (rs - 64 * 3) (k_X5_begin y1) rfl hob rfl okX5_begin inX5_begin lkL_13 rfl (Nat.le_of_ble_eq_true rfl) ⟨Nat.le_of_ble_eq_true rfl, Nat.le_of_ble_eq_true rfl⟩ dL_179 (by omega) (by omega) ?_
    refine r_cv (hp2 := mw h0 (z5 h0 (mw h0 hb (nI d) (lN P) (nI c) sorts rows hand (nI g) ga (nI m) qA qB id draft frame one two turned pI pJ fA fB fC)) (nI d) (lN P) (nI c) sorts rows hand (nI g) ga (nI m) qA qB id draft frame one two turned pI pJ fA fB fC) (cv1 h5 hkp) ?_
    refine r_aload_n C 2 rfl dL_182 rfl ?_
    refine l_arg hx hi 1 (by decide) (by decide) dL_183 dL_184 dL_185 dL_186 dL_187 ?_
    refine l_arg hx hi 2 (by decide) (by decide) dL_188 dL_189 dL_190 dL_191 dL_192 ?_
    refine q_callV C 1 (rc - 3) (rs - 64 * 3) (c_begin z1) rfl mw_self rfl ok_begin in_begin lkL_17 rfl (Nat.le_of_ble_eq_true rfl) ⟨Nat.le_of_ble_eq_true rfl, Nat.le_of_ble_eq_true rfl⟩ dL_193 (by omega) (by omega) ?_
    refine r_icmp_eq C (tgt := 1130) dL_196 (by decide) (fun _ => ?_) (fun q => absurd rfl q)
    exact r_cv (cv2 h5) (r_rc (by omega) (by omega) w)
  · have hkp : ∀ b, h0 ≤ b → b < h0 + 12 → hp1 b = z5 h0 (mw h0 hb (nI d) (lN P) (nI c) sorts rows hand (nI g) ga (nI m) qA qB id draft frame one two turned pI pJ fA fB fC) b := y3.k had hsz
    have hr : rng h0 hp1 := rng_mw.k hkp
    obtain ⟨O, hO, w⟩ := kk (z5 h0 (mw h0 hp1 (nI d') (lN P') (nI 0) sorts rows hand' (nI 0) ga (nI 0) qA qB (-1) draft frame one two turned pI pJ fA fB fC)) (sz + 1 + 1 + 1) (IV.mk n1 n2 n3 ⟨fun a ha => absurd ha (Nat.not_lt_zero a), fun a _ ha => absurd ha (Nat.not_lt_zero a)⟩ (y2 (fun _ => 0) (fun _ => 0) (fun _ => 0) (fun _ _ => 0) (fun _ => 0) (fun _ => 0) (fun _ => 0)) (fun k hk => absurd hk (Nat.not_lt_zero k)) ⟨Nat.zero_le 60, fun a _ ha => absurd ha (Nat.not_lt_zero a)⟩ z2 (fun k hk => absurd hk (Nat.not_lt_zero k)) (fun k hk => absurd hk (Nat.not_lt_zero k)) (fun k hk => absurd hk (Nat.not_lt_zero k)) (fun k hk => absurd hk (Nat.not_lt_zero k)) (fun k hk => absurd hk (Nat.not_lt_zero k)) (fun k hk => absurd hk (Nat.not_lt_zero k)) (Nat.zero_le _) (Or.inl rfl) (show adr h0 o (adn ad sz) from had) (Nat.le_trans hsz y3.2) hr draft frame one two turned pI pJ fA fB fC)
    have C := hx.1 O
    refine ⟨O, hO, ?_⟩
    refine r_aload_n C 1 rfl dL_168 rfl ?_
    refine l_arg hx hi 1 (by decide) (by decide) dL_169 dL_170 dL_171 dL_172 dL_173 ?_
    refine l_arg hx hi 2 (by decide) (by decide) dL_174 dL_175 dL_176 dL_177 dL_178 ?_
    refine q_callV C 0 (rc - 3) (rs - 64 * 3) (k_X5_begin y1) rfl hob rfl okX5_begin inX5_begin lkL_13 rfl (Nat.le_of_ble_eq_true rfl) ⟨Nat.le_of_ble_eq_true rfl, Nat.le_of_ble_eq_true rfl⟩ dL_179 (by omega) (by omega) ?_
    refine r_cv (hp2 := mw h0 hp1 (nI d) (lN P) (nI c) sorts rows hand (nI g) ga (nI m) qA qB id draft frame one two turned pI pJ fA fB fC) (cv1 h5 hkp) ?_
    refine r_aload_n C 2 rfl dL_182 rfl ?_
    refine l_arg hx hi 1 (by decide) (by decide) dL_183 dL_184 dL_185 dL_186 dL_187 ?_
    refine l_arg hx hi 2 (by decide) (by decide) dL_188 dL_189 dL_190 dL_191 dL_192 ?_
    refine q_callV C 1 (rc - 3) (rs - 64 * 3) (c_begin z1) rfl mw_self rfl ok_begin in_begin lkL_17 rfl (Nat.le_of_ble_eq_true rfl) ⟨Nat.le_of_ble_eq_true rfl, Nat.le_of_ble_eq_true rfl⟩ dL_193 (by omega) (by omega) ?_
    refine r_icmp_eq C (tgt := 1130) dL_196 (by decide) (fun _ => ?_) (fun q => absurd rfl q)
    exact r_cv (cv2 h5) (r_rc (by omega) (by omega) w)
set_option maxHeartbeats 4000000 in
set_option maxRecDepth 100000 in
theorem lcall_put (hx : LX G p e s mi b bl mt cd mn L xs) (hi : i + 6 ≤ L) (hrc : 115 ≤ rc) (hrs : 7360 ≤ rs) {hp : cH} {sz : Nat} (hV : IV h0 o hp sz) (kk : ∀ hp2 sz2, IV h0 o hp2 sz2 → NX G p e s mi b bl mt cd o h0 i (rc - 115) (rs - 7360) 1130 hp2 sz2) : NX G p e s mi b bl mt cd o h0 i rc rs 201 hp sz := by
  obtain ⟨P, d, _, ad, im, rw, c, S, R, H, g, Gs, m, pA, pB, id, hb, sorts, rows, hand, ga, qA, qB, draft, frame, one, two, turned, pI, pJ, fA, fB, fC, rfl, hp0, ho, hB, hI, hC, hS, hK, hH, hG, hG2, hA, hA2, hBq, hB2, hm, hid, had, hsz⟩ := hV
  have h5 := hx.2.1
  have hob := hC.1.1
  obtain ⟨v, hp1, H', hand', y1, y2, y3, z1, z2⟩ := st_put hp0.1 hB hC hH (xs (i + 1)) (aJ2 (xs (i + 2)) (xs (i + 3)))
  have hkp : ∀ b, h0 ≤ b → b < h0 + 12 → hp1 b = z5 h0 (mw h0 hb (nI d) (lN P) (nI c) sorts rows hand (nI g) ga (nI m) qA qB id draft frame one two turned pI pJ fA fB fC) b := y3.k had hsz
  have hr : rng h0 hp1 := rng_mw.k hkp
  obtain ⟨O, hO, w⟩ := kk (z5 h0 (mw h0 hp1 (nI d) (lN P) (nI c) sorts rows hand' (nI g) ga (nI m) qA qB id draft frame one two turned pI pJ fA fB fC)) sz (IV.mk hp0 ho hB hI y2 hS hK z2 hG hG2 hA hA2 hBq hB2 hm hid had hsz hr draft frame one two turned pI pJ fA fB fC)
  have C := hx.1 O
  refine ⟨O, hO, ?_⟩
  refine r_aload_n C 1 rfl dL_201 rfl ?_
  refine l_arg hx hi 1 (by decide) (by decide) dL_202 dL_203 dL_204 dL_205 dL_206 ?_
  refine l_argJ hx hi 2 3 (by decide) (by decide) (by decide) (by decide) dL_207 dL_208 dL_209 dL_210 dL_211 dL_212 dL_213 dL_215 dL_216 dL_217 dL_218 dL_219 dL_220 dL_221 dL_222 dL_225 dL_226 ?_
  refine q_callV C 0 (rc - 0) (rs - 64 * 0) (k_X5_put y1) rfl hob rfl okX5_put inX5_put lkL_20 rfl (Nat.le_of_ble_eq_true rfl) ⟨Nat.le_of_ble_eq_true rfl, Nat.le_of_ble_eq_true rfl⟩ dL_227 (by omega) (by omega) ?_
  refine r_cv (hp2 := mw h0 hp1 (nI d) (lN P) (nI c) sorts rows hand (nI g) ga (nI m) qA qB id draft frame one two turned pI pJ fA fB fC) (cv1 h5 hkp) ?_
  refine r_aload_n C 2 rfl dL_230 rfl ?_
  refine l_arg hx hi 1 (by decide) (by decide) dL_231 dL_232 dL_233 dL_234 dL_235 ?_
  refine l_argJ hx hi 2 3 (by decide) (by decide) (by decide) (by decide) dL_236 dL_237 dL_238 dL_239 dL_240 dL_241 dL_242 dL_244 dL_245 dL_246 dL_247 dL_248 dL_249 dL_250 dL_251 dL_254 dL_255 ?_
  refine q_callV C 1 (rc - 0) (rs - 64 * 0) (c_put z1) rfl mw_self rfl ok_put in_put lkL_24 rfl (Nat.le_of_ble_eq_true rfl) ⟨Nat.le_of_ble_eq_true rfl, Nat.le_of_ble_eq_true rfl⟩ dL_256 (by omega) (by omega) ?_
  refine r_icmp_eq C (tgt := 1130) dL_259 (by decide) (fun _ => ?_) (fun q => absurd rfl q)
  exact r_cv (cv2 h5) (r_rc (by omega) (by omega) w)
set_option maxHeartbeats 4000000 in
set_option maxRecDepth 100000 in
theorem lcall_make (hx : LX G p e s mi b bl mt cd mn L xs) (hi : i + 6 ≤ L) (hrc : 115 ≤ rc) (hrs : 7360 ≤ rs) {hp : cH} {sz : Nat} (hV : IV h0 o hp sz) (kk : ∀ hp2 sz2, IV h0 o hp2 sz2 → NX G p e s mi b bl mt cd o h0 i (rc - 115) (rs - 7360) 1130 hp2 sz2) : NX G p e s mi b bl mt cd o h0 i rc rs 264 hp sz := by
  obtain ⟨P, d, _, ad, im, rw, c, S, R, H, g, Gs, m, pA, pB, id, hb, sorts, rows, hand, ga, qA, qB, draft, frame, one, two, turned, pI, pJ, fA, fB, fC, rfl, hp0, ho, hB, hI, hC, hS, hK, hH, hG, hG2, hA, hA2, hBq, hB2, hm, hid, had, hsz⟩ := hV
  have h5 := hx.2.1
  have hob := hC.1.1
  obtain ⟨K, k1, ⟨hp1, sz1, im1, rw1, y1, y2, y3⟩, s', r', w_draft, w_frame, z1, z2⟩ := st_make hp0 ho hB hI hC hS hK hH draft frame (xs (i + 1))
  have hkp : ∀ b, h0 ≤ b → b < h0 + 12 → hp1 b = z5 h0 (mw h0 hb (nI d) (lN P) (nI c) sorts rows hand (nI g) ga (nI m) qA qB id draft frame one two turned pI pJ fA fB fC) b := y3.k had hsz
  have hr : rng h0 hp1 := rng_mw.k hkp
  obtain ⟨O, hO, w⟩ := kk (z5 h0 (mw h0 hp1 (nI d) (lN P) (nI K.2.1) s' r' hand (nI g) ga (nI m) qA qB id w_draft w_frame one two turned pI pJ fA fB fC)) sz1 (IV.kp (im := im) (rw := rw) (sorts := sorts) (rows := rows) hp0 ho hB k1 y2 z2 hH hG hG2 hA hA2 hBq hB2 hm (Nat.le_refl m) hid had (Nat.le_trans hsz y3.2) hr w_draft w_frame one two turned pI pJ fA fB fC)
  have C := hx.1 O
  refine ⟨O, hO, ?_⟩
  refine r_aload_n C 1 rfl dL_264 rfl ?_
  refine l_arg hx hi 1 (by decide) (by decide) dL_265 dL_266 dL_267 dL_268 dL_269 ?_
  refine q_callV C 0 (rc - 16) (rs - 64 * 16) (k_X5_make y1) rfl hob rfl okX5_make inX5_make lkL_25 rfl (Nat.le_of_ble_eq_true rfl) ⟨Nat.le_of_ble_eq_true rfl, Nat.le_of_ble_eq_true rfl⟩ dL_270 (by omega) (by omega) ?_
  refine r_cv (hp2 := mw h0 hp1 (nI d) (lN P) (nI c) sorts rows hand (nI g) ga (nI m) qA qB id draft frame one two turned pI pJ fA fB fC) (cv1 h5 hkp) ?_
  refine r_aload_n C 2 rfl dL_273 rfl ?_
  refine l_arg hx hi 1 (by decide) (by decide) dL_274 dL_275 dL_276 dL_277 dL_278 ?_
  refine q_callV C 1 (rc - 16) (rs - 64 * 16) (c_make z1) rfl mw_self rfl ok_make in_make lkL_29 rfl (Nat.le_of_ble_eq_true rfl) ⟨Nat.le_of_ble_eq_true rfl, Nat.le_of_ble_eq_true rfl⟩ dL_279 (by omega) (by omega) ?_
  refine r_icmp_eq C (tgt := 1130) dL_282 (by decide) (fun _ => ?_) (fun q => absurd rfl q)
  exact r_cv (cv2 h5) (r_rc (by omega) (by omega) w)
set_option maxHeartbeats 4000000 in
set_option maxRecDepth 100000 in
theorem lcall_number (hx : LX G p e s mi b bl mt cd mn L xs) (hi : i + 6 ≤ L) (hrc : 115 ≤ rc) (hrs : 7360 ≤ rs) {hp : cH} {sz : Nat} (hV : IV h0 o hp sz) (kk : ∀ hp2 sz2, IV h0 o hp2 sz2 → NX G p e s mi b bl mt cd o h0 i (rc - 115) (rs - 7360) 1130 hp2 sz2) : NX G p e s mi b bl mt cd o h0 i rc rs 287 hp sz := by
  obtain ⟨P, d, _, ad, im, rw, c, S, R, H, g, Gs, m, pA, pB, id, hb, sorts, rows, hand, ga, qA, qB, draft, frame, one, two, turned, pI, pJ, fA, fB, fC, rfl, hp0, ho, hB, hI, hC, hS, hK, hH, hG, hG2, hA, hA2, hBq, hB2, hm, hid, had, hsz⟩ := hV
  have h5 := hx.2.1
  have hob := hC.1.1
  obtain ⟨v, y1, z1⟩ := st_number hB hC hS hK (xs (i + 1)) (xs (i + 2))
  have hkp : ∀ b, h0 ≤ b → b < h0 + 12 → (z5 h0 (mw h0 hb (nI d) (lN P) (nI c) sorts rows hand (nI g) ga (nI m) qA qB id draft frame one two turned pI pJ fA fB fC)) b = z5 h0 (mw h0 hb (nI d) (lN P) (nI c) sorts rows hand (nI g) ga (nI m) qA qB id draft frame one two turned pI pJ fA fB fC) b := fun _ _ _ => rfl
  have hr : rng h0 (z5 h0 (mw h0 hb (nI d) (lN P) (nI c) sorts rows hand (nI g) ga (nI m) qA qB id draft frame one two turned pI pJ fA fB fC)) := rng_mw.k hkp
  obtain ⟨O, hO, w⟩ := kk (z5 h0 (mw h0 (z5 h0 (mw h0 hb (nI d) (lN P) (nI c) sorts rows hand (nI g) ga (nI m) qA qB id draft frame one two turned pI pJ fA fB fC)) (nI d) (lN P) (nI c) sorts rows hand (nI g) ga (nI m) qA qB id draft frame one two turned pI pJ fA fB fC)) sz (IV.mk hp0 ho hB hI hC hS hK hH hG hG2 hA hA2 hBq hB2 hm hid had hsz hr draft frame one two turned pI pJ fA fB fC)
  have C := hx.1 O
  refine ⟨O, hO, ?_⟩
  refine r_aload_n C 1 rfl dL_287 rfl ?_
  refine l_arg hx hi 1 (by decide) (by decide) dL_288 dL_289 dL_290 dL_291 dL_292 ?_
  refine l_arg hx hi 2 (by decide) (by decide) dL_293 dL_294 dL_295 dL_296 dL_297 ?_
  refine q_callV C 0 (rc - 0) (rs - 64 * 0) (k_X5_number y1) rfl hob rfl okX5_number inX5_number lkL_30 rfl (Nat.le_of_ble_eq_true rfl) ⟨Nat.le_of_ble_eq_true rfl, Nat.le_of_ble_eq_true rfl⟩ dL_298 (by omega) (by omega) ?_
  refine r_cv (hp2 := mw h0 (z5 h0 (mw h0 hb (nI d) (lN P) (nI c) sorts rows hand (nI g) ga (nI m) qA qB id draft frame one two turned pI pJ fA fB fC)) (nI d) (lN P) (nI c) sorts rows hand (nI g) ga (nI m) qA qB id draft frame one two turned pI pJ fA fB fC) (cv1 h5 hkp) ?_
  refine r_aload_n C 2 rfl dL_301 rfl ?_
  refine l_arg hx hi 1 (by decide) (by decide) dL_302 dL_303 dL_304 dL_305 dL_306 ?_
  refine l_arg hx hi 2 (by decide) (by decide) dL_307 dL_308 dL_309 dL_310 dL_311 ?_
  refine q_callV C 1 (rc - 0) (rs - 64 * 0) (c_number z1) rfl mw_self rfl ok_number in_number lkL_33 rfl (Nat.le_of_ble_eq_true rfl) ⟨Nat.le_of_ble_eq_true rfl, Nat.le_of_ble_eq_true rfl⟩ dL_312 (by omega) (by omega) ?_
  refine r_icmp_eq C (tgt := 1130) dL_315 (by decide) (fun _ => ?_) (fun q => absurd rfl q)
  exact r_cv (cv2 h5) (r_rc (by omega) (by omega) w)
set_option maxHeartbeats 4000000 in
set_option maxRecDepth 100000 in
theorem lcall_sort (hx : LX G p e s mi b bl mt cd mn L xs) (hi : i + 6 ≤ L) (hrc : 115 ≤ rc) (hrs : 7360 ≤ rs) {hp : cH} {sz : Nat} (hV : IV h0 o hp sz) (kk : ∀ hp2 sz2, IV h0 o hp2 sz2 → NX G p e s mi b bl mt cd o h0 i (rc - 115) (rs - 7360) 1130 hp2 sz2) : NX G p e s mi b bl mt cd o h0 i rc rs 320 hp sz := by
  obtain ⟨P, d, _, ad, im, rw, c, S, R, H, g, Gs, m, pA, pB, id, hb, sorts, rows, hand, ga, qA, qB, draft, frame, one, two, turned, pI, pJ, fA, fB, fC, rfl, hp0, ho, hB, hI, hC, hS, hK, hH, hG, hG2, hA, hA2, hBq, hB2, hm, hid, had, hsz⟩ := hV
  have h5 := hx.2.1
  have hob := hC.1.1
  obtain ⟨v, y1, z1⟩ := st_sort hC hS (xs (i + 1))
  have hkp : ∀ b, h0 ≤ b → b < h0 + 12 → (z5 h0 (mw h0 hb (nI d) (lN P) (nI c) sorts rows hand (nI g) ga (nI m) qA qB id draft frame one two turned pI pJ fA fB fC)) b = z5 h0 (mw h0 hb (nI d) (lN P) (nI c) sorts rows hand (nI g) ga (nI m) qA qB id draft frame one two turned pI pJ fA fB fC) b := fun _ _ _ => rfl
  have hr : rng h0 (z5 h0 (mw h0 hb (nI d) (lN P) (nI c) sorts rows hand (nI g) ga (nI m) qA qB id draft frame one two turned pI pJ fA fB fC)) := rng_mw.k hkp
  obtain ⟨O, hO, w⟩ := kk (z5 h0 (mw h0 (z5 h0 (mw h0 hb (nI d) (lN P) (nI c) sorts rows hand (nI g) ga (nI m) qA qB id draft frame one two turned pI pJ fA fB fC)) (nI d) (lN P) (nI c) sorts rows hand (nI g) ga (nI m) qA qB id draft frame one two turned pI pJ fA fB fC)) sz (IV.mk hp0 ho hB hI hC hS hK hH hG hG2 hA hA2 hBq hB2 hm hid had hsz hr draft frame one two turned pI pJ fA fB fC)
  have C := hx.1 O
  refine ⟨O, hO, ?_⟩
  refine r_aload_n C 1 rfl dL_320 rfl ?_
  refine l_arg hx hi 1 (by decide) (by decide) dL_321 dL_322 dL_323 dL_324 dL_325 ?_
  refine q_callV C 0 (rc - 0) (rs - 64 * 0) (k_X5_sort y1) rfl hob rfl okX5_sort inX5_sort lkL_34 rfl (Nat.le_of_ble_eq_true rfl) ⟨Nat.le_of_ble_eq_true rfl, Nat.le_of_ble_eq_true rfl⟩ dL_326 (by omega) (by omega) ?_
  refine r_cv (hp2 := mw h0 (z5 h0 (mw h0 hb (nI d) (lN P) (nI c) sorts rows hand (nI g) ga (nI m) qA qB id draft frame one two turned pI pJ fA fB fC)) (nI d) (lN P) (nI c) sorts rows hand (nI g) ga (nI m) qA qB id draft frame one two turned pI pJ fA fB fC) (cv1 h5 hkp) ?_
  refine r_aload_n C 2 rfl dL_329 rfl ?_
  refine l_arg hx hi 1 (by decide) (by decide) dL_330 dL_331 dL_332 dL_333 dL_334 ?_
  refine q_callV C 1 (rc - 0) (rs - 64 * 0) (c_sort z1) rfl mw_self rfl ok_sort in_sort lkL_37 rfl (Nat.le_of_ble_eq_true rfl) ⟨Nat.le_of_ble_eq_true rfl, Nat.le_of_ble_eq_true rfl⟩ dL_335 (by omega) (by omega) ?_
  refine r_icmp_eq C (tgt := 1130) dL_338 (by decide) (fun _ => ?_) (fun q => absurd rfl q)
  exact r_cv (cv2 h5) (r_rc (by omega) (by omega) w)
set_option maxHeartbeats 4000000 in
set_option maxRecDepth 100000 in
theorem lcall_join (hx : LX G p e s mi b bl mt cd mn L xs) (hi : i + 6 ≤ L) (hrc : 115 ≤ rc) (hrs : 7360 ≤ rs) {hp : cH} {sz : Nat} (hV : IV h0 o hp sz) (kk : ∀ hp2 sz2, IV h0 o hp2 sz2 → NX G p e s mi b bl mt cd o h0 i (rc - 115) (rs - 7360) 1130 hp2 sz2) : NX G p e s mi b bl mt cd o h0 i rc rs 343 hp sz := by
  obtain ⟨P, d, _, ad, im, rw, c, S, R, H, g, Gs, m, pA, pB, id, hb, sorts, rows, hand, ga, qA, qB, draft, frame, one, two, turned, pI, pJ, fA, fB, fC, rfl, hp0, ho, hB, hI, hC, hS, hK, hH, hG, hG2, hA, hA2, hBq, hB2, hm, hid, had, hsz⟩ := hV
  have h5 := hx.2.1
  have hob := hC.1.1
  obtain ⟨K, k1, ⟨hp1, sz1, im1, rw1, y1, y2, y3⟩, s', r', w_draft, w_frame, w_one, w_two, z1, z2⟩ := st_join hp0 ho hB hI hC hS hK draft frame one two (xs (i + 1)) (xs (i + 2))
  have hkp : ∀ b, h0 ≤ b → b < h0 + 12 → hp1 b = z5 h0 (mw h0 hb (nI d) (lN P) (nI c) sorts rows hand (nI g) ga (nI m) qA qB id draft frame one two turned pI pJ fA fB fC) b := y3.k had hsz
  have hr : rng h0 hp1 := rng_mw.k hkp
  obtain ⟨O, hO, w⟩ := kk (z5 h0 (mw h0 hp1 (nI d) (lN P) (nI K.2.1) s' r' hand (nI g) ga (nI m) qA qB id w_draft w_frame w_one w_two turned pI pJ fA fB fC)) sz1 (IV.kp (im := im) (rw := rw) (sorts := sorts) (rows := rows) hp0 ho hB k1 y2 z2 hH hG hG2 hA hA2 hBq hB2 hm (Nat.le_refl m) hid had (Nat.le_trans hsz y3.2) hr w_draft w_frame w_one w_two turned pI pJ fA fB fC)
  have C := hx.1 O
  refine ⟨O, hO, ?_⟩
  refine r_aload_n C 1 rfl dL_343 rfl ?_
  refine l_arg hx hi 1 (by decide) (by decide) dL_344 dL_345 dL_346 dL_347 dL_348 ?_
  refine l_arg hx hi 2 (by decide) (by decide) dL_349 dL_350 dL_351 dL_352 dL_353 ?_
  refine q_callV C 0 (rc - 31) (rs - 64 * 31) (k_X5_join y1) rfl hob rfl okX5_join inX5_join lkL_38 rfl (Nat.le_of_ble_eq_true rfl) ⟨Nat.le_of_ble_eq_true rfl, Nat.le_of_ble_eq_true rfl⟩ dL_354 (by omega) (by omega) ?_
  refine r_cv (hp2 := mw h0 hp1 (nI d) (lN P) (nI c) sorts rows hand (nI g) ga (nI m) qA qB id draft frame one two turned pI pJ fA fB fC) (cv1 h5 hkp) ?_
  refine r_aload_n C 2 rfl dL_357 rfl ?_
  refine l_arg hx hi 1 (by decide) (by decide) dL_358 dL_359 dL_360 dL_361 dL_362 ?_
  refine l_arg hx hi 2 (by decide) (by decide) dL_363 dL_364 dL_365 dL_366 dL_367 ?_
  refine q_callV C 1 (rc - 31) (rs - 64 * 31) (c_join z1) rfl mw_self rfl ok_join in_join lkL_41 rfl (Nat.le_of_ble_eq_true rfl) ⟨Nat.le_of_ble_eq_true rfl, Nat.le_of_ble_eq_true rfl⟩ dL_368 (by omega) (by omega) ?_
  refine r_icmp_eq C (tgt := 1130) dL_371 (by decide) (fun _ => ?_) (fun q => absurd rfl q)
  exact r_cv (cv2 h5) (r_rc (by omega) (by omega) w)
end LAWC
