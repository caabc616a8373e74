noncomputable def f_X5_parallel (hp : cH) (sz : Nat) (l0 : Nat) (l1 : Int32) (l2 : Int32) : Option (Int32 × cH × Nat) := (gR hp l0 5 0).bind fun w1 => if isO hp w1 3 = true then (f_X3_lower hp w1 l1 l2).bind fun r5 => (gR hp l0 5 0).bind fun w6 => if isO hp w6 3 = true then (f_X3_higher hp w6 l1 l2).bind fun r10 => Option.elim r5 (some ((-2 : Int32), hp, sz)) (fun a11 => Option.elim r10 (some ((-2 : Int32), hp, sz)) (fun a12 => if isO hp l0 5 = true then (f_X5_isBetweenLineAndFlat hp l0 a11).bind fun r15 => if r15 = 0 then (some ((-2 : Int32), hp, sz)) else ((f_X5_isBetweenLineAndFlat hp l0 a12).bind fun r17 => if r17 = 0 then (some ((-2 : Int32), hp, sz)) else ((gR hp l0 5 0).bind fun w18 => (gI hp l0 5 12).bind fun w20 => (gI hp l0 5 6).bind fun w22 => if isO hp w18 3 = true then (f_X3_row hp w18 w20 w22).bind fun r26 => Option.elim r26 (some ((-1 : Int32), hp, sz)) (fun a27 => (f_X5_liesFar hp sz l0 a11 a27).bind fun (r29, hp30, z31) => if r29 = 0 then (if isO hp30 l0 5 = true then (f_X5_liesFar hp30 z31 l0 a12 a27).bind fun (r34, hp35, z36) => if r34 = 0 then (if l1 = l2 then ((f_X5_oneIf ((1 : Int32))).bind fun r38 => some (r38, hp35, z36)) else (if isO hp35 l0 5 = true then (f_X5_meetFar hp35 z36 l0 a11 a12 a27).bind fun (r41, hp42, z43) => if r41 = 0 then ((f_X5_oneIf ((0 : Int32))).bind fun r45 => some (r45, hp42, z43)) else ((f_X5_oneIf ((1 : Int32))).bind fun r47 => some (r47, hp42, z43)) else none)) else (some ((-1 : Int32), hp35, z36)) else none) else (some ((-1 : Int32), hp30, z31))) else none)) else none)) else none else none
set_option maxHeartbeats 4000000 in
set_option maxRecDepth 100000 in
theorem k_X5_parallel {G : gT} {hp : cH} {sz : Nat} {l0 : Nat} {l1 : Int32} {l2 : Int32} {o0 : Int32} {oh : cH} {oz : Nat} (h : f_X5_parallel hp sz l0 l1 l2 = some (o0, oh, oz)) : aM G yX5_parallel cX5_parallel 6 (some .int) 6 100 30 (64 * 30) [.ref l0, .int l1, .int l2] hp sz ((some (.int o0), oh, oz) : oT) := by
  refine aM.of RX5 (by decide) rfl (Nat.le_of_ble_eq_true rfl) (fun K C => ?_)
  have hO : ((some (.int o0), oh, oz) : oT) = ((some (.int o0), oh, oz) : oT) := rfl
  refine r_lve (lv' := [(0, .ref l0), (1, .int l1), (2, .int l2)]) rfl ?_
  unfold f_X5_parallel at h
  refine r_aload_n C 0 rfl dX5_parallel_0 rfl ?_
  replace h := bd_i h
  obtain ⟨w1, e2, h⟩ := h
  refine k_gR C e2 rfl inX5_ (by decide) flX5_10 dX5_parallel_1 ?_
  refine r_iload_n C 1 rfl dX5_parallel_4 rfl ?_
  refine r_iload_n C 2 rfl dX5_parallel_5 rfl ?_
  replace h := gd_t h
  obtain ⟨ho3, h⟩ := h
  obtain ⟨_, ho3⟩ := isO_s ho3
  replace h := bd_i h
  obtain ⟨r5, q4, h⟩ := h
  refine q_callV C 0 30 (64 * 30) (k_X3_lower q4) rfl ho3 rfl okX3_lower inX3_lower lkX5_79 rfl (Nat.le_of_ble_eq_true rfl) ⟨by decide, by decide⟩ dX5_parallel_6 (by omega) (by omega) ?_
  refine r_astore_nq C (lv' := [(3, va_rf r5), (0, .ref l0), (1, .int l1), (2, .int l2)]) dX5_parallel_9 rfl (by decide) rfl ?_
  refine r_aload_n C 1 rfl dX5_parallel_10 rfl ?_
  replace h := bd_i h
  obtain ⟨w6, e7, h⟩ := h
  refine k_gR C e7 rfl inX5_ (by decide) flX5_10 dX5_parallel_11 ?_
  refine r_iload_n C 2 rfl dX5_parallel_14 rfl ?_
  refine r_iload_n C 3 rfl dX5_parallel_15 rfl ?_
  replace h := gd_t h
  obtain ⟨ho8, h⟩ := h
  obtain ⟨_, ho8⟩ := isO_s ho8
  replace h := bd_i h
  obtain ⟨r10, q9, h⟩ := h
  refine q_callV C 0 30 (64 * 30) (k_X3_higher q9) rfl ho8 rfl okX3_higher inX3_higher lkX5_83 rfl (Nat.le_of_ble_eq_true rfl) ⟨by decide, by decide⟩ dX5_parallel_16 (by omega) (by omega) ?_
  refine r_astoreq C (lv' := [(4, va_rf r10), (3, va_rf r5), (0, .ref l0), (1, .int l1), (2, .int l2)]) dX5_parallel_19 (by decide) (by simp [rf_cat]) ?_
  refine r_aload_nq C 1 rfl dX5_parallel_21 rfl ?_
  refine k_ifnull C (tgt := 47) dX5_parallel_22 (by decide) (fun hx => ?_) (fun a11 hx => ?_)
  · subst hx
    replace h := oe_n rfl h
    refine r_bipush C (v := -2) dX5_parallel_47 (by decide) ?_
    cases h
    exact r_ireturn C (Eq.symm hO) dX5_parallel_49
  · subst hx
    replace h := oe_s rfl h
    refine r_aloadq C 0 rfl dX5_parallel_25 ?_
    refine k_ifnull C (tgt := 47) dX5_parallel_27 (by decide) (fun hx => ?_) (fun a12 hx => ?_)
    · subst hx
      replace h := oe_n rfl h
      refine r_bipush C (v := -2) dX5_parallel_47 (by decide) ?_
      cases h
      exact r_ireturn C (Eq.symm hO) dX5_parallel_49
    · subst hx
      replace h := oe_s rfl h
      refine r_aload_n C 2 rfl dX5_parallel_30 rfl ?_
      refine r_aload_n C 1 rfl dX5_parallel_31 rfl ?_
      replace h := gd_t h
      obtain ⟨ho13, h⟩ := h
      obtain ⟨_, ho13⟩ := isO_s ho13
      replace h := bd_i h
      obtain ⟨r15, q14, h⟩ := h
      refine q_callV C 0 30 (64 * 30) (k_X5_isBetweenLineAndFlat q14) rfl ho13 rfl okX5_isBetweenLineAndFlat inX5_isBetweenLineAndFlat lkX5_105 rfl (Nat.le_of_ble_eq_true rfl) ⟨by decide, by decide⟩ dX5_parallel_32 (by omega) (by omega) ?_
      refine r_if_eq C (tgt := 47) dX5_parallel_35 (by decide) (fun hc => ?_) (fun hc => ?_)
      · replace h := br_p hc h
        refine r_bipush C (v := -2) dX5_parallel_47 (by decide) ?_
        cases h
        exact r_ireturn C (Eq.symm hO) dX5_parallel_49
      · replace h := br_n hc h
        refine r_aload_n C 2 rfl dX5_parallel_38 rfl ?_
        refine r_aload C 0 rfl dX5_parallel_39 ?_
        replace h := bd_i h
        obtain ⟨r17, q16, h⟩ := h
        refine q_callV C 0 30 (64 * 30) (k_X5_isBetweenLineAndFlat q16) rfl ho13 rfl okX5_isBetweenLineAndFlat inX5_isBetweenLineAndFlat lkX5_105 rfl (Nat.le_of_ble_eq_true rfl) ⟨by decide, by decide⟩ dX5_parallel_41 (by omega) (by omega) ?_
        refine r_if_ne C (tgt := 50) dX5_parallel_44 (by decide) (fun hc => ?_) (fun hc => ?_)
        · replace h := br_n hc h
          refine r_aload_n C 2 rfl dX5_parallel_50 rfl ?_
          replace h := bd_i h
          obtain ⟨w18, e19, h⟩ := h
          refine k_gR C e19 rfl inX5_ (by decide) flX5_10 dX5_parallel_51 ?_
          refine r_aload_n C 2 rfl dX5_parallel_54 rfl ?_
          replace h := bd_i h
          obtain ⟨w20, e21, h⟩ := h
          refine k_gI C e21 rfl inX5_ (by decide) flX5_234 dX5_parallel_55 ?_
          refine r_aload_n C 2 rfl dX5_parallel_58 rfl ?_
          replace h := bd_i h
          obtain ⟨w22, e23, h⟩ := h
          refine k_gI C e23 rfl inX5_ (by decide) flX5_109 dX5_parallel_59 ?_
          replace h := gd_t h
          obtain ⟨ho24, h⟩ := h
          obtain ⟨_, ho24⟩ := isO_s ho24
          replace h := bd_i h
          obtain ⟨r26, q25, h⟩ := h
          refine q_callV C 0 30 (64 * 30) (k_X3_row q25) rfl ho24 rfl okX3_row inX3_row lkX5_166 rfl (Nat.le_of_ble_eq_true rfl) ⟨by decide, by decide⟩ dX5_parallel_62 (by omega) (by omega) ?_
          refine r_astoreq C (lv' := [(5, va_rf r26), (4, .ref a12), (3, .ref a11), (0, .ref l0), (1, .int l1), (2, .int l2)]) dX5_parallel_65 (by decide) rfl ?_
          refine r_aloadq C 0 rfl dX5_parallel_67 ?_
          refine k_ifnull C (tgt := 93) dX5_parallel_69 (by decide) (fun hx => ?_) (fun a27 hx => ?_)
          · subst hx
            replace h := oe_n rfl h
            refine r_iconst C (v := -1) dX5_parallel_93 (by decide) ?_
            cases h
            exact r_ireturn C (Eq.symm hO) dX5_parallel_94
          · subst hx
            replace h := oe_s rfl h
            refine r_aload_n C 3 rfl dX5_parallel_72 rfl ?_
            refine r_aload_n C 2 rfl dX5_parallel_73 rfl ?_
            refine r_aload C 0 rfl dX5_parallel_74 ?_
            replace h := bd_i h
            obtain ⟨⟨r29, hp30, z31⟩, q28, h⟩ := h
            refine q_callV C 0 28 (64 * 28) (k_X5_liesFar q28) rfl ho13 rfl okX5_liesFar inX5_liesFar lkX5_237 rfl (Nat.le_of_ble_eq_true rfl) ⟨by decide, by decide⟩ dX5_parallel_76 (by omega) (by omega) ?_
            refine r_if_ne C (tgt := 93) dX5_parallel_79 (by decide) (fun hc => ?_) (fun hc => ?_)
            · replace h := br_n hc h
              refine r_iconst C (v := -1) dX5_parallel_93 (by decide) ?_
              cases h
              exact r_ireturn C (Eq.symm hO) dX5_parallel_94
            · replace h := br_p hc h
              refine r_aload_n C 3 rfl dX5_parallel_82 rfl ?_
              refine r_aload C 1 rfl dX5_parallel_83 ?_
              refine r_aload C 0 rfl dX5_parallel_85 ?_
              replace h := gd_t h
              obtain ⟨ho32, h⟩ := h
              obtain ⟨_, ho32⟩ := isO_s ho32
              replace h := bd_i h
              obtain ⟨⟨r34, hp35, z36⟩, q33, h⟩ := h
              refine q_callV C 0 26 (64 * 26) (k_X5_liesFar q33) rfl ho32 rfl okX5_liesFar inX5_liesFar lkX5_237 rfl (Nat.le_of_ble_eq_true rfl) ⟨by decide, by decide⟩ dX5_parallel_87 (by omega) (by omega) ?_
              refine r_if_eq C (tgt := 95) dX5_parallel_90 (by decide) (fun hc => ?_) (fun hc => ?_)
              · replace h := br_p hc h
                refine r_iload_n C 4 rfl dX5_parallel_95 rfl ?_
                refine r_iload_n C 5 rfl dX5_parallel_96 rfl ?_
                refine r_icmp_eq C (tgt := 112) dX5_parallel_97 (by decide) (fun hc => ?_) (fun hc => ?_)
                · replace h := br_p hc h
                  refine r_iconst C (v := 1) dX5_parallel_112 (by decide) ?_
                  refine r_goto C (tgt := 117) dX5_parallel_113 (by decide) ?_
                  replace h := bd_i h
                  obtain ⟨r38, q37, h⟩ := h
                  refine q_callS C 0 26 (64 * 26) (k_X5_oneIf q37) rfl okX5_oneIf inX5_oneIf lkX5_129 rfl (Nat.le_of_ble_eq_true rfl) ⟨by decide, by decide⟩ dX5_parallel_117 (by omega) (by omega) ?_
                  cases h
                  exact r_ireturn C (Eq.symm hO) dX5_parallel_120
                · replace h := br_n hc h
                  refine r_aload_n C 3 rfl dX5_parallel_100 rfl ?_
                  refine r_aload_n C 2 rfl dX5_parallel_101 rfl ?_
                  refine r_aload C 1 rfl dX5_parallel_102 ?_
                  refine r_aload C 0 rfl dX5_parallel_104 ?_
                  replace h := gd_t h
                  obtain ⟨ho39, h⟩ := h
                  obtain ⟨_, ho39⟩ := isO_s ho39
                  replace h := bd_i h
                  obtain ⟨⟨r41, hp42, z43⟩, q40, h⟩ := h
                  refine q_callV C 0 0 (64 * 0) (k_X5_meetFar q40) rfl ho39 rfl okX5_meetFar inX5_meetFar lkX5_241 rfl (Nat.le_of_ble_eq_true rfl) ⟨by decide, by decide⟩ dX5_parallel_106 (by omega) (by omega) ?_
                  refine r_if_eq C (tgt := 116) dX5_parallel_109 (by decide) (fun hc => ?_) (fun hc => ?_)
                  · replace h := br_p hc h
                    refine r_iconst C (v := 0) dX5_parallel_116 (by decide) ?_
                    replace h := bd_i h
                    obtain ⟨r45, q44, h⟩ := h
                    refine q_callS C 0 0 (64 * 0) (k_X5_oneIf q44) rfl okX5_oneIf inX5_oneIf lkX5_129 rfl (Nat.le_of_ble_eq_true rfl) ⟨by decide, by decide⟩ dX5_parallel_117 (by omega) (by omega) ?_
                    cases h
                    exact r_ireturn C (Eq.symm hO) dX5_parallel_120
                  · replace h := br_n hc h
                    refine r_iconst C (v := 1) dX5_parallel_112 (by decide) ?_
                    refine r_goto C (tgt := 117) dX5_parallel_113 (by decide) ?_
                    replace h := bd_i h
                    obtain ⟨r47, q46, h⟩ := h
                    refine q_callS C 0 0 (64 * 0) (k_X5_oneIf q46) rfl okX5_oneIf inX5_oneIf lkX5_129 rfl (Nat.le_of_ble_eq_true rfl) ⟨by decide, by decide⟩ dX5_parallel_117 (by omega) (by omega) ?_
                    cases h
                    exact r_ireturn C (Eq.symm hO) dX5_parallel_120
              · replace h := br_n hc h
                refine r_iconst C (v := -1) dX5_parallel_93 (by decide) ?_
                cases h
                exact r_ireturn C (Eq.symm hO) dX5_parallel_94
        · replace h := br_p hc h
          refine r_bipush C (v := -2) dX5_parallel_47 (by decide) ?_
          cases h
          exact r_ireturn C (Eq.symm hO) dX5_parallel_49
noncomputable def f_X5_middle (hp : cH) (sz : Nat) (l0 : Nat) (l1 : Int32) (l2 : Int32) : Option (Int32 × cH × Nat) := (gR hp l0 5 0).bind fun w1 => if isO hp w1 3 = true then (f_X3_row hp w1 l1 ((0 : Int32))).bind fun r5 => (gR hp l0 5 0).bind fun w6 => if isO hp w6 3 = true then (f_X3_row hp w6 l2 ((0 : Int32))).bind fun r10 => Option.elim r5 (some ((-2 : Int32), hp, sz)) (fun a11 => Option.elim r10 (some ((-2 : Int32), hp, sz)) (fun a12 => (gR hp l0 5 0).bind fun w13 => (gI hp l0 5 12).bind fun w15 => (gI hp l0 5 6).bind fun w17 => if isO hp w13 3 = true then (f_X3_row hp w13 w15 w17).bind fun r21 => Option.elim r21 (some ((-1 : Int32), hp, sz)) (fun a22 => if l1 = l2 then (some ((-1 : Int32), hp, sz)) else ((gR hp l0 5 8).bind fun w23 => if isO hp w23 2 = true then (f_X2_dot hp w23 a22 a11).bind fun r27 => (gR hp l0 5 8).bind fun w28 => if isO hp w28 2 = true then (f_X2_dot hp w28 a22 a12).bind fun r32 => if r27 = ((0 : Int64)) then (some ((-1 : Int32), hp, sz)) else (if r32 = ((0 : Int64)) then (some ((-1 : Int32), hp, sz)) else ((gR hp l0 5 8).bind fun w33 => if isO hp w33 2 = true then (f_X2_sum hp sz w33 r32 a11 r27 a12).bind fun (r37, hp38, z39) => if isO hp38 l0 5 = true then (f_X5_keep hp38 z39 l0 ((0 : Int32)) ((some r37))).bind fun (r42, hp43, z44) => some (r42, hp43, z44) else none else none)) else none else none)) else none)) else none else none
set_option maxHeartbeats 4000000 in
set_option maxRecDepth 100000 in
theorem k_X5_middle {G : gT} {hp : cH} {sz : Nat} {l0 : Nat} {l1 : Int32} {l2 : Int32} {o0 : Int32} {oh : cH} {oz : Nat} (h : f_X5_middle hp sz l0 l1 l2 = some (o0, oh, oz)) : aM G yX5_middle cX5_middle 10 (some .int) 4 69 3 (64 * 3) [.ref l0, .int l1, .int l2] hp sz ((some (.int o0), oh, oz) : oT) := by
  refine aM.of RX5 (by decide) rfl (Nat.le_of_ble_eq_true rfl) (fun K C => ?_)
  have hO : ((some (.int o0), oh, oz) : oT) = ((some (.int o0), oh, oz) : oT) := rfl
  refine r_lve (lv' := [(0, .ref l0), (1, .int l1), (2, .int l2)]) rfl ?_
  unfold f_X5_middle at h
  refine r_aload_n C 0 rfl dX5_middle_0 rfl ?_
  replace h := bd_i h
  obtain ⟨w1, e2, h⟩ := h
  refine k_gR C e2 rfl inX5_ (by decide) flX5_10 dX5_middle_1 ?_
  refine r_iload_n C 1 rfl dX5_middle_4 rfl ?_
  refine r_iconst C (v := 0) dX5_middle_5 (by decide) ?_
  replace h := gd_t h
  obtain ⟨ho3, h⟩ := h
  obtain ⟨_, ho3⟩ := isO_s ho3
  replace h := bd_i h
  obtain ⟨r5, q4, h⟩ := h
  refine q_callV C 0 3 (64 * 3) (k_X3_row q4) rfl ho3 rfl okX3_row inX3_row lkX5_166 rfl (Nat.le_of_ble_eq_true rfl) ⟨by decide, by decide⟩ dX5_middle_6 (by omega) (by omega) ?_
  refine r_astore_nq C (lv' := [(3, va_rf r5), (0, .ref l0), (1, .int l1), (2, .int l2)]) dX5_middle_9 rfl (by decide) rfl ?_
  refine r_aload_n C 1 rfl dX5_middle_10 rfl ?_
  replace h := bd_i h
  obtain ⟨w6, e7, h⟩ := h
  refine k_gR C e7 rfl inX5_ (by decide) flX5_10 dX5_middle_11 ?_
  refine r_iload_n C 3 rfl dX5_middle_14 rfl ?_
  refine r_iconst C (v := 0) dX5_middle_15 (by decide) ?_
  replace h := gd_t h
  obtain ⟨ho8, h⟩ := h
  obtain ⟨_, ho8⟩ := isO_s ho8
  replace h := bd_i h
  obtain ⟨r10, q9, h⟩ := h
  refine q_callV C 0 3 (64 * 3) (k_X3_row q9) rfl ho8 rfl okX3_row inX3_row lkX5_166 rfl (Nat.le_of_ble_eq_true rfl) ⟨by decide, by decide⟩ dX5_middle_16 (by omega) (by omega) ?_
  refine r_astoreq C (lv' := [(4, va_rf r10), (3, va_rf r5), (0, .ref l0), (1, .int l1), (2, .int l2)]) dX5_middle_19 (by decide) (by simp [rf_cat]) ?_
  refine r_aload_nq C 1 rfl dX5_middle_21 rfl ?_
  refine k_ifnull C (tgt := 30) dX5_middle_22 (by decide) (fun hx => ?_) (fun a11 hx => ?_)
  · subst hx
    replace h := oe_n rfl h
    refine r_bipush C (v := -2) dX5_middle_30 (by decide) ?_
    cases h
    exact r_ireturn C (Eq.symm hO) dX5_middle_32
  · subst hx
    replace h := oe_s rfl h
    refine r_aloadq C 0 rfl dX5_middle_25 ?_
    refine k_ifnonnull C (tgt := 33) dX5_middle_27 (by decide) (fun a12 hx => ?_) (fun hx => ?_)
    · subst hx
      replace h := oe_s rfl h
      refine r_aload_n C 2 rfl dX5_middle_33 rfl ?_
      replace h := bd_i h
      obtain ⟨w13, e14, h⟩ := h
      refine k_gR C e14 rfl inX5_ (by decide) flX5_10 dX5_middle_34 ?_
      refine r_aload_n C 2 rfl dX5_middle_37 rfl ?_
      replace h := bd_i h
      obtain ⟨w15, e16, h⟩ := h
      refine k_gI C e16 rfl inX5_ (by decide) flX5_234 dX5_middle_38 ?_
      refine r_aload_n C 2 rfl dX5_middle_41 rfl ?_
      replace h := bd_i h
      obtain ⟨w17, e18, h⟩ := h
      refine k_gI C e18 rfl inX5_ (by decide) flX5_109 dX5_middle_42 ?_
      replace h := gd_t h
      obtain ⟨ho19, h⟩ := h
      obtain ⟨_, ho19⟩ := isO_s ho19
      replace h := bd_i h
      obtain ⟨r21, q20, h⟩ := h
      refine q_callV C 0 3 (64 * 3) (k_X3_row q20) rfl ho19 rfl okX3_row inX3_row lkX5_166 rfl (Nat.le_of_ble_eq_true rfl) ⟨by decide, by decide⟩ dX5_middle_45 (by omega) (by omega) ?_
      refine r_astoreq C (lv' := [(5, va_rf r21), (4, .ref a12), (3, .ref a11), (0, .ref l0), (1, .int l1), (2, .int l2)]) dX5_middle_48 (by decide) rfl ?_
      refine r_aloadq C 0 rfl dX5_middle_50 ?_
      refine k_ifnull C (tgt := 60) dX5_middle_52 (by decide) (fun hx => ?_) (fun a22 hx => ?_)
      · subst hx
        replace h := oe_n rfl h
        refine r_iconst C (v := -1) dX5_middle_60 (by decide) ?_
        cases h
        exact r_ireturn C (Eq.symm hO) dX5_middle_61
      · subst hx
        replace h := oe_s rfl h
        refine r_iload_n C 4 rfl dX5_middle_55 rfl ?_
        refine r_iload_n C 5 rfl dX5_middle_56 rfl ?_
        refine r_icmp_ne C (tgt := 62) dX5_middle_57 (by decide) (fun hc => ?_) (fun hc => ?_)
        · replace h := br_n hc h
          refine r_aload_n C 3 rfl dX5_middle_62 rfl ?_
          replace h := bd_i h
          obtain ⟨w23, e24, h⟩ := h
          refine k_gR C e24 rfl inX5_ (by decide) flX5_142 dX5_middle_63 ?_
          refine r_aload C 0 rfl dX5_middle_66 ?_
          refine r_aload_n C 2 rfl dX5_middle_68 rfl ?_
          replace h := gd_t h
          obtain ⟨ho25, h⟩ := h
          obtain ⟨_, ho25⟩ := isO_s ho25
          replace h := bd_i h
          obtain ⟨r27, q26, h⟩ := h
          refine q_callV C 0 3 (64 * 3) (k_X2_dot q26) rfl ho25 rfl okX2_dot inX2_dot lkX5_245 rfl (Nat.le_of_ble_eq_true rfl) ⟨by decide, by decide⟩ dX5_middle_69 (by omega) (by omega) ?_
          refine r_lstore C (lv' := [(6, .long r27), (5, .ref a22), (4, .ref a12), (3, .ref a11), (0, .ref l0), (1, .int l1), (2, .int l2)]) dX5_middle_72 (by decide) rfl ?_
          refine r_aload_n C 4 rfl dX5_middle_74 rfl ?_
          replace h := bd_i h
          obtain ⟨w28, e29, h⟩ := h
          refine k_gR C e29 rfl inX5_ (by decide) flX5_142 dX5_middle_75 ?_
          refine r_aload C 1 rfl dX5_middle_78 ?_
          refine r_aload C 2 rfl dX5_middle_80 ?_
          replace h := gd_t h
          obtain ⟨ho30, h⟩ := h
          obtain ⟨_, ho30⟩ := isO_s ho30
          replace h := bd_i h
          obtain ⟨r32, q31, h⟩ := h
          refine q_callV C 0 3 (64 * 3) (k_X2_dot q31) rfl ho30 rfl okX2_dot inX2_dot lkX5_245 rfl (Nat.le_of_ble_eq_true rfl) ⟨by decide, by decide⟩ dX5_middle_82 (by omega) (by omega) ?_
          refine r_lstore C (lv' := [(8, .long r32), (6, .long r27), (5, .ref a22), (4, .ref a12), (3, .ref a11), (0, .ref l0), (1, .int l1), (2, .int l2)]) dX5_middle_85 (by decide) rfl ?_
          refine r_lload C 1 rfl dX5_middle_87 ?_
          refine r_lconst C (v := 0) dX5_middle_89 (by decide) ?_
          refine r_leq C (tgt := 101) dX5_middle_90 dX5_middle_91 (by decide) (fun hc => ?_) (fun hc => ?_)
          · replace h := br_p hc h
            refine r_iconst C (v := -1) dX5_middle_101 (by decide) ?_
            refine r_goto C (tgt := 124) dX5_middle_102 (by decide) ?_
            cases h
            exact r_ireturn C (Eq.symm hO) dX5_middle_124
          · replace h := br_n hc h
            refine r_lload C 0 rfl dX5_middle_94 ?_
            refine r_lconst C (v := 0) dX5_middle_96 (by decide) ?_
            refine r_lne C (tgt := 105) dX5_middle_97 dX5_middle_98 (by decide) (fun hc => ?_) (fun hc => ?_)
            · replace h := br_n hc h
              refine r_aload_n C 5 rfl dX5_middle_105 rfl ?_
              refine r_iconst C (v := 0) dX5_middle_106 (by decide) ?_
              refine r_aload_n C 5 rfl dX5_middle_107 rfl ?_
              replace h := bd_i h
              obtain ⟨w33, e34, h⟩ := h
              refine k_gR C e34 rfl inX5_ (by decide) flX5_142 dX5_middle_108 ?_
              refine r_lload C 0 rfl dX5_middle_111 ?_
              refine r_aload_n C 4 rfl dX5_middle_113 rfl ?_
              refine r_lload C 1 rfl dX5_middle_114 ?_
              refine r_aload C 3 rfl dX5_middle_116 ?_
              replace h := gd_t h
              obtain ⟨ho35, h⟩ := h
              obtain ⟨_, ho35⟩ := isO_s ho35
              replace h := bd_i h
              obtain ⟨⟨r37, hp38, z39⟩, q36, h⟩ := h
              refine q_callV C 2 2 (64 * 2) (k_X2_sum q36) rfl ho35 rfl okX2_sum inX2_sum lkX5_249 rfl (Nat.le_of_ble_eq_true rfl) ⟨by decide, by decide⟩ dX5_middle_118 (by omega) (by omega) ?_
              replace h := gd_t h
              obtain ⟨ho40, h⟩ := h
              obtain ⟨_, ho40⟩ := isO_s ho40
              replace h := bd_i h
              obtain ⟨⟨r42, hp43, z44⟩, q41, h⟩ := h
              refine q_callV C 0 0 (64 * 0) (k_X5_keep q41) rfl ho40 rfl okX5_keep inX5_keep lkX5_62 rfl (Nat.le_of_ble_eq_true rfl) ⟨by decide, by decide⟩ dX5_middle_121 (by omega) (by omega) ?_
              cases h
              exact r_ireturn C (Eq.symm hO) dX5_middle_124
            · replace h := br_p hc h
              refine r_iconst C (v := -1) dX5_middle_101 (by decide) ?_
              refine r_goto C (tgt := 124) dX5_middle_102 (by decide) ?_
              cases h
              exact r_ireturn C (Eq.symm hO) dX5_middle_124
        · replace h := br_p hc h
          refine r_iconst C (v := -1) dX5_middle_60 (by decide) ?_
          cases h
          exact r_ireturn C (Eq.symm hO) dX5_middle_61
    · subst hx
      replace h := oe_n rfl h
      refine r_bipush C (v := -2) dX5_middle_30 (by decide) ?_
      cases h
      exact r_ireturn C (Eq.symm hO) dX5_middle_32
noncomputable def f_X5_isSupposed_L115 (l0 : Nat) (l2 : Nat) (l3 : Nat) (l4 : Int32) (hp : cH) (sz : Nat) (rc : Nat) : Option ((Int32 × cH × Nat × Nat) ⊕ ((cH × Nat × Nat) ⊕ (Int32 × cH × Nat))) := (aN hp l3).bind fun w3 => if w3 ≤ l4 then (some (.inr (.inl (hp, sz, rc)))) else ((gR hp l0 5 9).bind fun w5 => (lR 3 hp l2 l4).bind fun u7 => (lR 3 hp l2 (l4 + ((3 : Int32)))).bind fun u9 => u7.bind fun a11 => u9.bind fun a13 => if isO hp w5 4 = true then if 2 ≤ rc then (f_X4_lineThrough hp sz w5 a11 a13).bind fun (r17, hp18, z19) => (sR 3 hp18 l3 l4 r17).bind fun hp20 => (lR 3 hp20 l3 l4).bind fun u22 => u22.bind fun a24 => (f_X2_isZero hp20 a24).bind fun r27 => if r27 = 0 then (some (.inl (l4 + 1, hp20, z19, (rc - 2)))) else (some (.inr (.inr ((0 : Int32), hp20, z19)))) else none else none)
noncomputable def f_X5_isSupposed (hp : cH) (sz : Nat) (l0 : Nat) (l1 : Int32) (l2 : Nat) : Option (Int32 × cH × Nat) := if l1 = ((2 : Int32)) then ((gR hp l0 5 8).bind fun w95 => (gR hp l0 5 9).bind fun w97 => if isO hp w97 4 = true then (f_X4_quadricConditions hp sz w97 l2).bind fun (r101, hp102, z103) => if isO hp102 w95 2 = true then (f_X2_rankOf hp102 z103 w95 r101).bind fun (r106, hp107, z108) => if ((6 : Int32)) ≤ r106 then (some ((0 : Int32), hp107, z108)) else (some ((1 : Int32), hp107, z108)) else none else none) else (if l1 = 0 then ((gR hp l0 5 8).bind fun w41 => (nR 3 hp sz ((3 : Int32))).bind fun hp43 => (lR 3 hp43 l2 ((0 : Int32))).bind fun u45 => u45.bind fun a47 => (sR 3 hp43 sz ((0 : Int32)) a47).bind fun hp49 => (lR 3 hp49 l2 ((2 : Int32))).bind fun u51 => u51.bind fun a53 => (sR 3 hp49 sz ((1 : Int32)) a53).bind fun hp55 => (lR 3 hp55 l2 ((4 : Int32))).bind fun u57 => u57.bind fun a59 => (sR 3 hp55 sz ((2 : Int32)) a59).bind fun hp61 => if isO hp61 w41 2 = true then (f_X2_rankOf hp61 ((sz + 1)) w41 sz).bind fun (r65, hp66, z67) => if ((3 : Int32)) ≤ r65 then (some ((0 : Int32), hp66, z67)) else ((gR hp66 l0 5 8).bind fun w68 => (nR 3 hp66 z67 ((3 : Int32))).bind fun hp70 => (lR 3 hp70 l2 ((1 : Int32))).bind fun u72 => u72.bind fun a74 => (sR 3 hp70 z67 ((0 : Int32)) a74).bind fun hp76 => (lR 3 hp76 l2 ((3 : Int32))).bind fun u78 => u78.bind fun a80 => (sR 3 hp76 z67 ((1 : Int32)) a80).bind fun hp82 => (lR 3 hp82 l2 ((5 : Int32))).bind fun u84 => u84.bind fun a86 => (sR 3 hp82 z67 ((2 : Int32)) a86).bind fun hp88 => if isO hp88 w68 2 = true then (f_X2_rankOf hp88 ((z67 + 1)) w68 z67).bind fun (r92, hp93, z94) => if ((3 : Int32)) ≤ r92 then (some ((0 : Int32), hp93, z94)) else (some ((1 : Int32), hp93, z94)) else none) else none) else ((nR 3 hp sz ((3 : Int32))).bind fun hp1 => (itX (fun s => f_X5_isSupposed_L115 l0 l2 sz s.1 s.2.1 s.2.2.1 s.2.2.2) ((0 : Int32), hp1, (sz + 1), 58)).bind fun r32 => match r32 with | .inl (hp28, z29, rc30) => ((gR hp28 l0 5 8).bind fun w34 => if isO hp28 w34 2 = true then if 10 ≤ rc30 then (f_X2_rankOf hp28 z29 w34 sz).bind fun (r38, hp39, z40) => if ((3 : Int32)) ≤ r38 then (some ((0 : Int32), hp39, z40)) else (some ((1 : Int32), hp39, z40)) else none else none) | .inr o33 => some o33))
set_option maxHeartbeats 4000000 in
set_option maxRecDepth 100000 in
theorem w_X5_isSupposed_L115 {K : kT} {O : oT} (C : aC K cX5_isSupposed RX5 "isSupposed" 4 72 59 (64 * 59) 5 (some .boolean) O) {hp : cH} {sz rc : Nat} {l0 : Nat} {l2 : Nat} {l3 : Nat} {l4 : Int32} {r : ((cH × Nat × Nat) ⊕ (Int32 × cH × Nat))} (h : itX (fun s => f_X5_isSupposed_L115 l0 l2 l3 s.1 s.2.1 s.2.2.1 s.2.2.2) (l4, hp, sz, rc) = some r) (hr : Sum.elim (fun r => aW K r.1 r.2.1 r.2.2 (64 * r.2.2) 161 [(0, .ref l0), (3, .ref l3)] []) (fun o => ((some (.int o.1), o.2.1, o.2.2) : oT) = O) r) : aW K hp sz rc (64 * rc) 115 [(0, .ref l0), (2, .ref l2), (3, .ref l3), (4, .int l4)] [] := by
  refine it_walk (f := fun s => f_X5_isSupposed_L115 l0 l2 l3 s.1 s.2.1 s.2.2.1 s.2.2.2) (P := fun s => aW K s.2.1 s.2.2.1 s.2.2.2 (64 * s.2.2.2) 115 [(0, .ref l0), (2, .ref l2), (3, .ref l3), (4, .int s.1)] []) (R := fun r => Sum.elim (fun r => aW K r.1 r.2.1 r.2.2 (64 * r.2.2) 161 [(0, .ref l0), (3, .ref l3)] []) (fun o => ((some (.int o.1), o.2.1, o.2.2) : oT) = O) r) ?_ h hr
  clear h hr
  rintro ⟨l4, hp, sz, rc⟩ x h kl kr
  show aW K hp sz rc (64 * rc) 115 [(0, .ref l0), (2, .ref l2), (3, .ref l3), (4, .int l4)] []
  replace h : f_X5_isSupposed_L115 l0 l2 l3 l4 hp sz rc = some x := h
  unfold f_X5_isSupposed_L115 at h
  refine r_iload C 3 rfl dX5_isSupposed_115 ?_
  refine r_aload_n C 2 rfl dX5_isSupposed_117 rfl ?_
  replace h := bd_i h
  obtain ⟨w3, e4, h⟩ := h
  refine k_alen C e4 dX5_isSupposed_118 ?_
  refine r_icmp_ge C (tgt := 161) dX5_isSupposed_119 (by decide) (fun hc => ?_) (fun hc => ?_)
  · replace h := br_p hc h
    refine r_lv (lv' := [(0, .ref l0), (3, .ref l3)]) [0, 2] rfl ?_
    exact kr _ (sm_i h)
  · replace h := br_n hc h
    refine r_aload_n C 2 rfl dX5_isSupposed_122 rfl ?_
    refine r_iload C 3 rfl dX5_isSupposed_123 ?_
    refine r_aload_n C 0 rfl dX5_isSupposed_125 rfl ?_
    replace h := bd_i h
    obtain ⟨w5, e6, h⟩ := h
    refine k_gR C e6 rfl inX5_ (by decide) flX5_86 dX5_isSupposed_126 ?_
    refine r_aload_n C 1 rfl dX5_isSupposed_129 rfl ?_
    refine r_iload C 3 rfl dX5_isSupposed_130 ?_
    replace h := bd_i h
    obtain ⟨u7, e8, h⟩ := h
    refine k_lR C (by decide) e8 dX5_isSupposed_132 ?_
    refine r_aload_n C 1 rfl dX5_isSupposed_133 rfl ?_
    refine r_iload C 3 rfl dX5_isSupposed_134 ?_
    refine r_iconst C (v := 3) dX5_isSupposed_136 (by decide) ?_
    refine r_iadd C dX5_isSupposed_137 ?_
    replace h := bd_i h
    obtain ⟨u9, e10, h⟩ := h
    refine k_lR C (by decide) e10 dX5_isSupposed_138 ?_
    replace h := bd_i h
    obtain ⟨a11, e12, h⟩ := h
    subst e12
    replace h := bd_i h
    obtain ⟨a13, e14, h⟩ := h
    subst e14
    replace h := gd_t h
    obtain ⟨ho15, h⟩ := h
    obtain ⟨_, ho15⟩ := isO_s ho15
    replace h := gd_t h
    obtain ⟨hrc, h⟩ := h
    replace h := bd_i h
    obtain ⟨⟨r17, hp18, z19⟩, q16, h⟩ := h
    refine q_callV C 2 (rc - 2) (64 * (rc - 2)) (k_X4_lineThrough q16) rfl ho15 rfl okX4_lineThrough inX4_lineThrough lkX5_90 rfl (Nat.le_of_ble_eq_true rfl) ⟨by decide, by decide⟩ dX5_isSupposed_139 (by omega) (by omega) ?_
    replace h := bd_i h
    obtain ⟨hp20, e21, h⟩ := h
    refine k_sR C (by decide) e21 dX5_isSupposed_142 ?_
    refine r_aload_n C 2 rfl dX5_isSupposed_143 rfl ?_
    refine r_iload C 3 rfl dX5_isSupposed_144 ?_
    replace h := bd_i h
    obtain ⟨u22, e23, h⟩ := h
    refine k_lR C (by decide) e23 dX5_isSupposed_146 ?_
    replace h := bd_i h
    obtain ⟨a24, e25, h⟩ := h
    subst e25
    replace h := bd_i h
    obtain ⟨r27, q26, h⟩ := h
    refine q_callS C 0 (rc - 2) (64 * (rc - 2)) (k_X2_isZero q26) rfl okX2_isZero inX2_isZero lkX5_264 rfl (Nat.le_of_ble_eq_true rfl) ⟨by decide, by decide⟩ dX5_isSupposed_147 (by omega) (by omega) ?_
    refine r_if_eq C (tgt := 155) dX5_isSupposed_150 (by decide) (fun hc => ?_) (fun hc => ?_)
    · replace h := br_p hc h
      refine r_iinc C (v := l4 + 1) (lv' := [(4, .int (l4 + 1)), (0, .ref l0), (2, .ref l2), (3, .ref l3)]) 3 rfl dX5_isSupposed_155 rfl (by decide) rfl ?_
      refine r_goto C (tgt := 115) dX5_isSupposed_158 (by decide) ?_
      refine r_lv (lv' := [(0, .ref l0), (2, .ref l2), (3, .ref l3), (4, .int (l4 + 1))]) [1, 2, 3, 0] rfl ?_
      exact kl _ (sm_i h)
    · replace h := br_n hc h
      refine r_iconst C (v := 0) dX5_isSupposed_153 (by decide) ?_
      exact r_zreturn C rfl (Eq.symm (kr _ (sm_i h))) dX5_isSupposed_154
set_option maxHeartbeats 4000000 in
set_option maxRecDepth 100000 in
theorem k_X5_isSupposed {G : gT} {hp : cH} {sz : Nat} {l0 : Nat} {l1 : Int32} {l2 : Nat} {o0 : Int32} {oh : cH} {oz : Nat} (h : f_X5_isSupposed hp sz l0 l1 l2 = some (o0, oh, oz)) : aM G yX5_isSupposed cX5_isSupposed 5 (some .boolean) 4 72 59 (64 * 59) [.ref l0, .int l1, .ref l2] hp sz ((some (.int o0), oh, oz) : oT) := by
  refine aM.of RX5 (by decide) rfl (Nat.le_of_ble_eq_true rfl) (fun K C => ?_)
  have hO : ((some (.int o0), oh, oz) : oT) = ((some (.int o0), oh, oz) : oT) := rfl
  refine r_lve (lv' := [(0, .ref l0), (1, .int l1), (2, .ref l2)]) rfl ?_
  unfold f_X5_isSupposed at h
  refine r_iload_n C 1 rfl dX5_isSupposed_0 rfl ?_
  refine r_iconst C (v := 2) dX5_isSupposed_1 (by decide) ?_
  refine r_icmp_ne C (tgt := 31) dX5_isSupposed_2 (by decide) (fun hc => ?_) (fun hc => ?_)
  · replace h := br_n hc h
    refine r_iload_n C 1 rfl dX5_isSupposed_31 rfl ?_
    refine r_if_ne C (tgt := 107) dX5_isSupposed_32 (by decide) (fun hc => ?_) (fun hc => ?_)
    · replace h := br_n hc h
      refine r_iconst C (v := 3) dX5_isSupposed_107 (by decide) ?_
      replace h := bd_i h
      obtain ⟨hp1, e2, h⟩ := h
      refine k_nR3 C 58 cnX5_263 e2 dX5_isSupposed_108 (by omega) ?_
      refine r_astore_n C (lv' := [(3, .ref sz), (0, .ref l0), (1, .int l1), (2, .ref l2)]) dX5_isSupposed_111 rfl (by decide) rfl ?_
      refine r_iconst C (v := 0) dX5_isSupposed_112 (by decide) ?_
      refine r_istore C (lv' := [(4, .int ((0 : Int32))), (3, .ref sz), (0, .ref l0), (1, .int l1), (2, .ref l2)]) dX5_isSupposed_113 (by decide) rfl ?_
      refine r_lv (lv' := [(0, .ref l0), (2, .ref l2), (3, .ref sz), (4, .int ((0 : Int32)))]) [2, 4, 1, 0] rfl ?_
      replace h := bd_i h
      obtain ⟨r32, q31, h⟩ := h
      rcases r32 with ⟨hp28, z29, rc30⟩ | o33
      · refine w_X5_isSupposed_L115 C  q31 ?_
        show aW K hp28 z29 rc30 (64 * rc30) 161 [(0, .ref l0), (3, .ref sz)] []
        refine r_aload_n C 0 rfl dX5_isSupposed_161 rfl ?_
        replace h := bd_i h
        obtain ⟨w34, e35, h⟩ := h
        refine k_gR C e35 rfl inX5_ (by decide) flX5_142 dX5_isSupposed_162 ?_
        refine r_aload_n C 1 rfl dX5_isSupposed_165 rfl ?_
        replace h := gd_t h
        obtain ⟨ho36, h⟩ := h
        obtain ⟨_, ho36⟩ := isO_s ho36
        replace h := gd_t h
        obtain ⟨hrc, h⟩ := h
        replace h := bd_i h
        obtain ⟨⟨r38, hp39, z40⟩, q37, h⟩ := h
        refine q_callV C 0 (rc30 - 10) (64 * (rc30 - 10)) (k_X2_rankOf q37) rfl ho36 rfl okX2_rankOf inX2_rankOf lkX5_146 rfl (Nat.le_of_ble_eq_true rfl) ⟨by decide, by decide⟩ dX5_isSupposed_166 (by omega) (by omega) ?_
        refine r_iconst C (v := 3) dX5_isSupposed_169 (by decide) ?_
        refine r_icmp_ge C (tgt := 177) dX5_isSupposed_170 (by decide) (fun hc => ?_) (fun hc => ?_)
        · replace h := br_p hc h
          refine r_iconst C (v := 0) dX5_isSupposed_177 (by decide) ?_
          cases h
          exact r_zreturn C rfl (Eq.symm hO) dX5_isSupposed_178
        · replace h := br_n hc h
          refine r_iconst C (v := 1) dX5_isSupposed_173 (by decide) ?_
          refine r_goto C (tgt := 178) dX5_isSupposed_174 (by decide) ?_
          cases h
          exact r_zreturn C rfl (Eq.symm hO) dX5_isSupposed_178
      · cases h
        exact w_X5_isSupposed_L115 C  q31 hO
    · replace h := br_p hc h
      refine r_aload_n C 0 rfl dX5_isSupposed_35 rfl ?_
      replace h := bd_i h
      obtain ⟨w41, e42, h⟩ := h
      refine k_gR C e42 rfl inX5_ (by decide) flX5_142 dX5_isSupposed_36 ?_
      refine r_iconst C (v := 3) dX5_isSupposed_39 (by decide) ?_
      replace h := bd_i h
      obtain ⟨hp43, e44, h⟩ := h
      refine k_nR3 C 58 cnX5_263 e44 dX5_isSupposed_40 (by omega) ?_
      refine r_dup C dX5_isSupposed_43 rfl ?_
      refine r_iconst C (v := 0) dX5_isSupposed_44 (by decide) ?_
      refine r_aload_n C 2 rfl dX5_isSupposed_45 rfl ?_
      refine r_iconst C (v := 0) dX5_isSupposed_46 (by decide) ?_
      replace h := bd_i h
      obtain ⟨u45, e46, h⟩ := h
      refine k_lR C (by decide) e46 dX5_isSupposed_47 ?_
      replace h := bd_i h
      obtain ⟨a47, e48, h⟩ := h
      subst e48
      replace h := bd_i h
      obtain ⟨hp49, e50, h⟩ := h
      refine k_sR C (by decide) e50 dX5_isSupposed_48 ?_
      refine r_dup C dX5_isSupposed_49 rfl ?_
      refine r_iconst C (v := 1) dX5_isSupposed_50 (by decide) ?_
      refine r_aload_n C 2 rfl dX5_isSupposed_51 rfl ?_
      refine r_iconst C (v := 2) dX5_isSupposed_52 (by decide) ?_
      replace h := bd_i h
      obtain ⟨u51, e52, h⟩ := h
      refine k_lR C (by decide) e52 dX5_isSupposed_53 ?_
      replace h := bd_i h
      obtain ⟨a53, e54, h⟩ := h
      subst e54
      replace h := bd_i h
      obtain ⟨hp55, e56, h⟩ := h
      refine k_sR C (by decide) e56 dX5_isSupposed_54 ?_
      refine r_dup C dX5_isSupposed_55 rfl ?_
      refine r_iconst C (v := 2) dX5_isSupposed_56 (by decide) ?_
      refine r_aload_n C 2 rfl dX5_isSupposed_57 rfl ?_
      refine r_iconst C (v := 4) dX5_isSupposed_58 (by decide) ?_
      replace h := bd_i h
      obtain ⟨u57, e58, h⟩ := h
      refine k_lR C (by decide) e58 dX5_isSupposed_59 ?_
      replace h := bd_i h
      obtain ⟨a59, e60, h⟩ := h
      subst e60
      replace h := bd_i h
      obtain ⟨hp61, e62, h⟩ := h
      refine k_sR C (by decide) e62 dX5_isSupposed_60 ?_
      replace h := gd_t h
      obtain ⟨ho63, h⟩ := h
      obtain ⟨_, ho63⟩ := isO_s ho63
      replace h := bd_i h
      obtain ⟨⟨r65, hp66, z67⟩, q64, h⟩ := h
      refine q_callV C 0 48 (64 * 48) (k_X2_rankOf q64) rfl ho63 rfl okX2_rankOf inX2_rankOf lkX5_146 rfl (Nat.le_of_ble_eq_true rfl) ⟨by decide, by decide⟩ dX5_isSupposed_61 (by omega) (by omega) ?_
      refine r_iconst C (v := 3) dX5_isSupposed_64 (by decide) ?_
      refine r_icmp_ge C (tgt := 105) dX5_isSupposed_65 (by decide) (fun hc => ?_) (fun hc => ?_)
      · replace h := br_p hc h
        refine r_iconst C (v := 0) dX5_isSupposed_105 (by decide) ?_
        cases h
        exact r_zreturn C rfl (Eq.symm hO) dX5_isSupposed_106
      · replace h := br_n hc h
        refine r_aload_n C 0 rfl dX5_isSupposed_68 rfl ?_
        replace h := bd_i h
        obtain ⟨w68, e69, h⟩ := h
        refine k_gR C e69 rfl inX5_ (by decide) flX5_142 dX5_isSupposed_69 ?_
        refine r_iconst C (v := 3) dX5_isSupposed_72 (by decide) ?_
        replace h := bd_i h
        obtain ⟨hp70, e71, h⟩ := h
        refine k_nR3 C 47 cnX5_263 e71 dX5_isSupposed_73 (by omega) ?_
        refine r_dup C dX5_isSupposed_76 rfl ?_
        refine r_iconst C (v := 0) dX5_isSupposed_77 (by decide) ?_
        refine r_aload_n C 2 rfl dX5_isSupposed_78 rfl ?_
        refine r_iconst C (v := 1) dX5_isSupposed_79 (by decide) ?_
        replace h := bd_i h
        obtain ⟨u72, e73, h⟩ := h
        refine k_lR C (by decide) e73 dX5_isSupposed_80 ?_
        replace h := bd_i h
        obtain ⟨a74, e75, h⟩ := h
        subst e75
        replace h := bd_i h
        obtain ⟨hp76, e77, h⟩ := h
        refine k_sR C (by decide) e77 dX5_isSupposed_81 ?_
        refine r_dup C dX5_isSupposed_82 rfl ?_
        refine r_iconst C (v := 1) dX5_isSupposed_83 (by decide) ?_
        refine r_aload_n C 2 rfl dX5_isSupposed_84 rfl ?_
        refine r_iconst C (v := 3) dX5_isSupposed_85 (by decide) ?_
        replace h := bd_i h
        obtain ⟨u78, e79, h⟩ := h
        refine k_lR C (by decide) e79 dX5_isSupposed_86 ?_
        replace h := bd_i h
        obtain ⟨a80, e81, h⟩ := h
        subst e81
        replace h := bd_i h
        obtain ⟨hp82, e83, h⟩ := h
        refine k_sR C (by decide) e83 dX5_isSupposed_87 ?_
        refine r_dup C dX5_isSupposed_88 rfl ?_
        refine r_iconst C (v := 2) dX5_isSupposed_89 (by decide) ?_
        refine r_aload_n C 2 rfl dX5_isSupposed_90 rfl ?_
        refine r_iconst C (v := 5) dX5_isSupposed_91 (by decide) ?_
        replace h := bd_i h
        obtain ⟨u84, e85, h⟩ := h
        refine k_lR C (by decide) e85 dX5_isSupposed_92 ?_
        replace h := bd_i h
        obtain ⟨a86, e87, h⟩ := h
        subst e87
        replace h := bd_i h
        obtain ⟨hp88, e89, h⟩ := h
        refine k_sR C (by decide) e89 dX5_isSupposed_93 ?_
        replace h := gd_t h
        obtain ⟨ho90, h⟩ := h
        obtain ⟨_, ho90⟩ := isO_s ho90
        replace h := bd_i h
        obtain ⟨⟨r92, hp93, z94⟩, q91, h⟩ := h
        refine q_callV C 0 37 (64 * 37) (k_X2_rankOf q91) rfl ho90 rfl okX2_rankOf inX2_rankOf lkX5_146 rfl (Nat.le_of_ble_eq_true rfl) ⟨by decide, by decide⟩ dX5_isSupposed_94 (by omega) (by omega) ?_
        refine r_iconst C (v := 3) dX5_isSupposed_97 (by decide) ?_
        refine r_icmp_ge C (tgt := 105) dX5_isSupposed_98 (by decide) (fun hc => ?_) (fun hc => ?_)
        · replace h := br_p hc h
          refine r_iconst C (v := 0) dX5_isSupposed_105 (by decide) ?_
          cases h
          exact r_zreturn C rfl (Eq.symm hO) dX5_isSupposed_106
        · replace h := br_n hc h
          refine r_iconst C (v := 1) dX5_isSupposed_101 (by decide) ?_
          refine r_goto C (tgt := 106) dX5_isSupposed_102 (by decide) ?_
          cases h
          exact r_zreturn C rfl (Eq.symm hO) dX5_isSupposed_106
  · replace h := br_p hc h
    refine r_aload_n C 0 rfl dX5_isSupposed_5 rfl ?_
    replace h := bd_i h
    obtain ⟨w95, e96, h⟩ := h
    refine k_gR C e96 rfl inX5_ (by decide) flX5_142 dX5_isSupposed_6 ?_
    refine r_aload_n C 0 rfl dX5_isSupposed_9 rfl ?_
    replace h := bd_i h
    obtain ⟨w97, e98, h⟩ := h
    refine k_gR C e98 rfl inX5_ (by decide) flX5_86 dX5_isSupposed_10 ?_
    refine r_aload_n C 2 rfl dX5_isSupposed_13 rfl ?_
    replace h := gd_t h
    obtain ⟨ho99, h⟩ := h
    obtain ⟨_, ho99⟩ := isO_s ho99
    replace h := bd_i h
    obtain ⟨⟨r101, hp102, z103⟩, q100, h⟩ := h
    refine q_callV C 1 49 (64 * 49) (k_X4_quadricConditions q100) rfl ho99 rfl okX4_quadricConditions inX4_quadricConditions lkX5_303 rfl (Nat.le_of_ble_eq_true rfl) ⟨by decide, by decide⟩ dX5_isSupposed_14 (by omega) (by omega) ?_
    replace h := gd_t h
    obtain ⟨ho104, h⟩ := h
    obtain ⟨_, ho104⟩ := isO_s ho104
    replace h := bd_i h
    obtain ⟨⟨r106, hp107, z108⟩, q105, h⟩ := h
    refine q_callV C 0 39 (64 * 39) (k_X2_rankOf q105) rfl ho104 rfl okX2_rankOf inX2_rankOf lkX5_146 rfl (Nat.le_of_ble_eq_true rfl) ⟨by decide, by decide⟩ dX5_isSupposed_17 (by omega) (by omega) ?_
    refine r_bipush C (v := 6) dX5_isSupposed_20 (by decide) ?_
    refine r_icmp_ge C (tgt := 29) dX5_isSupposed_22 (by decide) (fun hc => ?_) (fun hc => ?_)
    · replace h := br_p hc h
      refine r_iconst C (v := 0) dX5_isSupposed_29 (by decide) ?_
      cases h
      exact r_zreturn C rfl (Eq.symm hO) dX5_isSupposed_30
    · replace h := br_n hc h
      refine r_iconst C (v := 1) dX5_isSupposed_25 (by decide) ?_
      refine r_goto C (tgt := 30) dX5_isSupposed_26 (by decide) ?_
      cases h
      exact r_zreturn C rfl (Eq.symm hO) dX5_isSupposed_30
noncomputable def f_X5_holds_L77 (l0 : Nat) (l2 : Nat) (l3 : Nat → Int32) (l4 : Nat) (l5 : Int32) (hp : cH) (sz : Nat) (rc : Nat) : Option ((Int32 × cH × Nat × Nat) ⊕ ((cH × Nat × Nat) ⊕ (Int32 × cH × Nat))) := (aN hp l4).bind fun w22 => if w22 ≤ l5 then (some (.inr (.inl (hp, sz, rc)))) else ((gR hp l0 5 9).bind fun w24 => if gi (((4 : Int32)) * l5) 12 then (lR 3 hp l2 (l3 (((4 : Int32)) * l5).toNatClampNeg)).bind fun u26 => if gi ((((4 : Int32)) * l5) + ((1 : Int32))) 12 then (lR 3 hp l2 (l3 ((((4 : Int32)) * l5) + ((1 : Int32))).toNatClampNeg)).bind fun u28 => u26.bind fun a30 => u28.bind fun a32 => if isO hp w24 4 = true then if 2 ≤ rc then (f_X4_lineThrough hp sz w24 a30 a32).bind fun (r36, hp37, z38) => (gR hp37 l0 5 9).bind fun w39 => if gi ((((4 : Int32)) * l5) + ((2 : Int32))) 12 then (lR 3 hp37 l2 (l3 ((((4 : Int32)) * l5) + ((2 : Int32))).toNatClampNeg)).bind fun u41 => if gi ((((4 : Int32)) * l5) + ((3 : Int32))) 12 then (lR 3 hp37 l2 (l3 ((((4 : Int32)) * l5) + ((3 : Int32))).toNatClampNeg)).bind fun u43 => u41.bind fun a45 => u43.bind fun a47 => if isO hp37 w39 4 = true then if 2 ≤ (rc - 2) then (f_X4_lineThrough hp37 z38 w39 a45 a47).bind fun (r51, hp52, z53) => (gR hp52 l0 5 9).bind fun w54 => if isO hp52 w54 4 = true then if 2 ≤ ((rc - 2) - 2) then (f_X4_crossing hp52 z53 w54 r36 r51).bind fun (r58, hp59, z60) => (sR 3 hp59 l4 l5 r58).bind fun hp61 => (lR 3 hp61 l4 l5).bind fun u63 => u63.bind fun a65 => (f_X2_isZero hp61 a65).bind fun r68 => if r68 = 0 then (some (.inl (l5 + 1, hp61, z60, (((rc - 2) - 2) - 2)))) else (some (.inr (.inr ((-1 : Int32), hp61, z60)))) else none else none else none else none else none else none else none else none else none else none)
noncomputable def f_X5_holds (hp : cH) (sz : Nat) (l0 : Nat) (l1 : Int32) : Option (Int32 × cH × Nat) := (gI hp l0 5 5).bind fun w1 => if w1 = ((2 : Int32)) then (if l1 < 0 then (some ((-2 : Int32), hp, sz)) else (if l1 ≤ ((2 : Int32)) then ((gI hp l0 5 10).bind fun w3 => if w3 = ((6 : Int32)) then ((gR hp l0 5 2).bind fun w5 => if isO hp l0 5 = true then (f_X5_pointRows hp sz l0 w5 ((6 : Int32))).bind fun (r9, hp10, z11) => if isO hp10 l0 5 = true then (f_X5_isSupposed hp10 z11 l0 l1 r9).bind fun (r14, hp15, z16) => if r14 = 0 then (some ((-1 : Int32), hp15, z16)) else (if l1 = ((1 : Int32)) then ((nR 3 hp15 z16 ((3 : Int32))).bind fun hp89 => (itX (fun s => f_X5_holds_L77 l0 r9 sTri z16 s.1 s.2.1 s.2.2.1 s.2.2.2) ((0 : Int32), hp89, (z16 + 1), 28)).bind fun r95 => match r95 with | .inl (hp91, z92, rc93) => ((gR hp91 l0 5 8).bind fun w97 => if isO hp91 w97 2 = true then if 10 ≤ rc93 then (f_X2_rankOf hp91 z92 w97 z16).bind fun (r101, hp102, z103) => if ((3 : Int32)) ≤ r101 then ((f_X5_oneIf ((0 : Int32))).bind fun r105 => some (r105, hp102, z103)) else ((f_X5_oneIf ((1 : Int32))).bind fun r107 => some (r107, hp102, z103)) else none else none) | .inr o96 => some o96) else ((nR 3 hp15 z16 ((3 : Int32))).bind fun hp20 => (itX (fun s => f_X5_holds_L77 l0 r9 sHex z16 s.1 s.2.1 s.2.2.1 s.2.2.2) ((0 : Int32), hp20, (z16 + 1), 28)).bind fun r73 => match r73 with | .inl (hp69, z70, rc71) => ((gR hp69 l0 5 8).bind fun w75 => if isO hp69 w75 2 = true then if 10 ≤ rc71 then (f_X2_rankOf hp69 z70 w75 z16).bind fun (r79, hp80, z81) => if ((3 : Int32)) ≤ r79 then ((f_X5_oneIf ((0 : Int32))).bind fun r83 => some (r83, hp80, z81)) else ((f_X5_oneIf ((1 : Int32))).bind fun r85 => some (r85, hp80, z81)) else none else none) | .inr o74 => some o74)) else none else none) else (some ((-1 : Int32), hp, sz))) else (some ((-2 : Int32), hp, sz)))) else (some ((-2 : Int32), hp, sz))
set_option maxHeartbeats 4000000 in
set_option maxRecDepth 100000 in
theorem w_X5_holds_L77 {K : kT} {O : oT} (C : aC K cX5_holds RX5 "holds" 5 88 98 (64 * 98) 8 (some .int) O) {hp : cH} {sz rc : Nat} {l0 : Nat} {l2 : Nat} {l3 : Nat → Int32} {t3 : Nat} (T3 : sT K t3 l3) {l4 : Nat} {l5 : Int32} {r : ((cH × Nat × Nat) ⊕ (Int32 × cH × Nat))} (h : itX (fun s => f_X5_holds_L77 l0 l2 l3 l4 s.1 s.2.1 s.2.2.1 s.2.2.2) (l5, hp, sz, rc) = some r) (hr : Sum.elim (fun r => aW K r.1 r.2.1 r.2.2 (64 * r.2.2) 176 [(0, .ref l0), (4, .ref l4)] []) (fun o => ((some (.int o.1), o.2.1, o.2.2) : oT) = O) r) : aW K hp sz rc (64 * rc) 77 [(0, .ref l0), (2, .ref l2), (3, .ref t3), (4, .ref l4), (5, .int l5)] [] := by
  refine it_walk (f := fun s => f_X5_holds_L77 l0 l2 l3 l4 s.1 s.2.1 s.2.2.1 s.2.2.2) (P := fun s => aW K s.2.1 s.2.2.1 s.2.2.2 (64 * s.2.2.2) 77 [(0, .ref l0), (2, .ref l2), (3, .ref t3), (4, .ref l4), (5, .int s.1)] []) (R := fun r => Sum.elim (fun r => aW K r.1 r.2.1 r.2.2 (64 * r.2.2) 176 [(0, .ref l0), (4, .ref l4)] []) (fun o => ((some (.int o.1), o.2.1, o.2.2) : oT) = O) r) ?_ h hr
  clear h hr
  rintro ⟨l5, hp, sz, rc⟩ x h kl kr
  show aW K hp sz rc (64 * rc) 77 [(0, .ref l0), (2, .ref l2), (3, .ref t3), (4, .ref l4), (5, .int l5)] []
  replace h : f_X5_holds_L77 l0 l2 l3 l4 l5 hp sz rc = some x := h
  unfold f_X5_holds_L77 at h
  refine r_iload C 4 rfl dX5_holds_77 ?_
  refine r_aload C 3 rfl dX5_holds_79 ?_
  replace h := bd_i h
  obtain ⟨w22, e23, h⟩ := h
  refine k_alen C e23 dX5_holds_81 ?_
  refine r_icmp_ge C (tgt := 176) dX5_holds_82 (by decide) (fun hc => ?_) (fun hc => ?_)
  · replace h := br_p hc h
    refine r_lv (lv' := [(0, .ref l0), (4, .ref l4)]) [0, 3] rfl ?_
    exact kr _ (sm_i h)
  · replace h := br_n hc h
    refine r_aload_n C 0 rfl dX5_holds_85 rfl ?_
    replace h := bd_i h
    obtain ⟨w24, e25, h⟩ := h
    refine k_gR C e25 rfl inX5_ (by decide) flX5_86 dX5_holds_86 ?_
    refine r_aload_n C 1 rfl dX5_holds_89 rfl ?_
    refine r_aload_n C 2 rfl dX5_holds_90 rfl ?_
    refine r_iconst C (v := 4) dX5_holds_91 (by decide) ?_
    refine r_iload C 4 rfl dX5_holds_92 ?_
    refine r_imul C dX5_holds_94 ?_
    replace h := gd_t h
    obtain ⟨hi, h⟩ := h
    refine k_ls C T3 hi dX5_holds_95 ?_
    replace h := bd_i h
    obtain ⟨u26, e27, h⟩ := h
    refine k_lR C (by decide) e27 dX5_holds_96 ?_
    refine r_aload_n C 1 rfl dX5_holds_97 rfl ?_
    refine r_aload_n C 2 rfl dX5_holds_98 rfl ?_
    refine r_iconst C (v := 4) dX5_holds_99 (by decide) ?_
    refine r_iload C 4 rfl dX5_holds_100 ?_
    refine r_imul C dX5_holds_102 ?_
    refine r_iconst C (v := 1) dX5_holds_103 (by decide) ?_
    refine r_iadd C dX5_holds_104 ?_
    replace h := gd_t h
    obtain ⟨hi, h⟩ := h
    refine k_ls C T3 hi dX5_holds_105 ?_
    replace h := bd_i h
    obtain ⟨u28, e29, h⟩ := h
    refine k_lR C (by decide) e29 dX5_holds_106 ?_
    replace h := bd_i h
    obtain ⟨a30, e31, h⟩ := h
    subst e31
    replace h := bd_i h
    obtain ⟨a32, e33, h⟩ := h
    subst e33
    replace h := gd_t h
    obtain ⟨ho34, h⟩ := h
    obtain ⟨_, ho34⟩ := isO_s ho34
    replace h := gd_t h
    obtain ⟨hrc, h⟩ := h
    replace h := bd_i h
    obtain ⟨⟨r36, hp37, z38⟩, q35, h⟩ := h
    refine q_callV C 0 (rc - 2) (64 * (rc - 2)) (k_X4_lineThrough q35) rfl ho34 rfl okX4_lineThrough inX4_lineThrough lkX5_90 rfl (Nat.le_of_ble_eq_true rfl) ⟨by decide, by decide⟩ dX5_holds_107 (by omega) (by omega) ?_
    refine r_astore C (lv' := [(6, .ref r36), (0, .ref l0), (2, .ref l2), (3, .ref t3), (4, .ref l4), (5, .int l5)]) dX5_holds_110 (by decide) rfl ?_
    refine r_aload_n C 1 rfl dX5_holds_112 rfl ?_
    replace h := bd_i h
    obtain ⟨w39, e40, h⟩ := h
    refine k_gR C e40 rfl inX5_ (by decide) flX5_86 dX5_holds_113 ?_
    refine r_aload_n C 2 rfl dX5_holds_116 rfl ?_
    refine r_aload_n C 3 rfl dX5_holds_117 rfl ?_
    refine r_iconst C (v := 4) dX5_holds_118 (by decide) ?_
    refine r_iload C 5 rfl dX5_holds_119 ?_
    refine r_imul C dX5_holds_121 ?_
    refine r_iconst C (v := 2) dX5_holds_122 (by decide) ?_
    refine r_iadd C dX5_holds_123 ?_
    replace h := gd_t h
    obtain ⟨hi, h⟩ := h
    refine k_ls C T3 hi dX5_holds_124 ?_
    replace h := bd_i h
    obtain ⟨u41, e42, h⟩ := h
    refine k_lR C (by decide) e42 dX5_holds_125 ?_
    refine r_aload_n C 2 rfl dX5_holds_126 rfl ?_
    refine r_aload_n C 3 rfl dX5_holds_127 rfl ?_
    refine r_iconst C (v := 4) dX5_holds_128 (by decide) ?_
    refine r_iload C 5 rfl dX5_holds_129 ?_
    refine r_imul C dX5_holds_131 ?_
    refine r_iconst C (v := 3) dX5_holds_132 (by decide) ?_
    refine r_iadd C dX5_holds_133 ?_
    replace h := gd_t h
    obtain ⟨hi, h⟩ := h
    refine k_ls C T3 hi dX5_holds_134 ?_
    replace h := bd_i h
    obtain ⟨u43, e44, h⟩ := h
    refine k_lR C (by decide) e44 dX5_holds_135 ?_
    replace h := bd_i h
    obtain ⟨a45, e46, h⟩ := h
    subst e46
    replace h := bd_i h
    obtain ⟨a47, e48, h⟩ := h
    subst e48
    replace h := gd_t h
    obtain ⟨ho49, h⟩ := h
    obtain ⟨_, ho49⟩ := isO_s ho49
    replace h := gd_t h
    obtain ⟨hrc, h⟩ := h
    replace h := bd_i h
    obtain ⟨⟨r51, hp52, z53⟩, q50, h⟩ := h
    refine q_callV C 0 ((rc - 2) - 2) (64 * ((rc - 2) - 2)) (k_X4_lineThrough q50) rfl ho49 rfl okX4_lineThrough inX4_lineThrough lkX5_90 rfl (Nat.le_of_ble_eq_true rfl) ⟨by decide, by decide⟩ dX5_holds_136 (by omega) (by omega) ?_
    refine r_astore C (lv' := [(7, .ref r51), (6, .ref r36), (0, .ref l0), (2, .ref l2), (3, .ref t3), (4, .ref l4), (5, .int l5)]) dX5_holds_139 (by decide) rfl ?_
    refine r_aload C 5 rfl dX5_holds_141 ?_
    refine r_iload C 6 rfl dX5_holds_143 ?_
    refine r_aload_n C 2 rfl dX5_holds_145 rfl ?_
    replace h := bd_i h
    obtain ⟨w54, e55, h⟩ := h
    refine k_gR C e55 rfl inX5_ (by decide) flX5_86 dX5_holds_146 ?_
    refine r_aload C 1 rfl dX5_holds_149 ?_
    refine r_aload C 0 rfl dX5_holds_151 ?_
    replace h := gd_t h
    obtain ⟨ho56, h⟩ := h
    obtain ⟨_, ho56⟩ := isO_s ho56
    replace h := gd_t h
    obtain ⟨hrc, h⟩ := h
    replace h := bd_i h
    obtain ⟨⟨r58, hp59, z60⟩, q57, h⟩ := h
    refine q_callV C 2 (((rc - 2) - 2) - 2) (64 * (((rc - 2) - 2) - 2)) (k_X4_crossing q57) rfl ho56 rfl okX4_crossing inX4_crossing lkX5_112 rfl (Nat.le_of_ble_eq_true rfl) ⟨by decide, by decide⟩ dX5_holds_153 (by omega) (by omega) ?_
    replace h := bd_i h
    obtain ⟨hp61, e62, h⟩ := h
    refine k_sR C (by decide) e62 dX5_holds_156 ?_
    refine r_aload C 5 rfl dX5_holds_157 ?_
    refine r_iload C 6 rfl dX5_holds_159 ?_
    replace h := bd_i h
    obtain ⟨u63, e64, h⟩ := h
    refine k_lR C (by decide) e64 dX5_holds_161 ?_
    replace h := bd_i h
    obtain ⟨a65, e66, h⟩ := h
    subst e66
    replace h := bd_i h
    obtain ⟨r68, q67, h⟩ := h
    refine q_callS C 0 (((rc - 2) - 2) - 2) (64 * (((rc - 2) - 2) - 2)) (k_X2_isZero q67) rfl okX2_isZero inX2_isZero lkX5_264 rfl (Nat.le_of_ble_eq_true rfl) ⟨by decide, by decide⟩ dX5_holds_162 (by omega) (by omega) ?_
    refine r_if_eq C (tgt := 170) dX5_holds_165 (by decide) (fun hc => ?_) (fun hc => ?_)
    · replace h := br_p hc h
      refine r_iinc C (v := l5 + 1) (lv' := [(5, .int (l5 + 1)), (7, .ref r51), (6, .ref r36), (0, .ref l0), (2, .ref l2), (3, .ref t3), (4, .ref l4)]) 6 rfl dX5_holds_170 rfl (by decide) rfl ?_
      refine r_goto C (tgt := 77) dX5_holds_173 (by decide) ?_
      refine r_lv (lv' := [(0, .ref l0), (2, .ref l2), (3, .ref t3), (4, .ref l4), (5, .int (l5 + 1))]) [3, 4, 5, 6, 0] rfl ?_
      exact kl _ (sm_i h)
    · replace h := br_n hc h
      refine r_iconst C (v := -1) dX5_holds_168 (by decide) ?_
      exact r_ireturn C (Eq.symm (kr _ (sm_i h))) dX5_holds_169
set_option maxHeartbeats 4000000 in
set_option maxRecDepth 100000 in
theorem k_X5_holds {G : gT} {hp : cH} {sz : Nat} {l0 : Nat} {l1 : Int32} {o0 : Int32} {oh : cH} {oz : Nat} (h : f_X5_holds hp sz l0 l1 = some (o0, oh, oz)) : aM G yX5_holds cX5_holds 8 (some .int) 5 88 98 (64 * 98) [.ref l0, .int l1] hp sz ((some (.int o0), oh, oz) : oT) := by
  refine aM.of RX5 (by decide) rfl (Nat.le_of_ble_eq_true rfl) (fun K C => ?_)
  have hO : ((some (.int o0), oh, oz) : oT) = ((some (.int o0), oh, oz) : oT) := rfl
  refine r_lve (lv' := [(0, .ref l0), (1, .int l1)]) rfl ?_
  unfold f_X5_holds at h
  refine r_aload_n C 0 rfl dX5_holds_0 rfl ?_
  replace h := bd_i h
  obtain ⟨w1, e2, h⟩ := h
  refine k_gI C e2 rfl inX5_ (by decide) flX5_96 dX5_holds_1 ?_
  refine r_iconst C (v := 2) dX5_holds_4 (by decide) ?_
  refine r_icmp_ne C (tgt := 17) dX5_holds_5 (by decide) (fun hc => ?_) (fun hc => ?_)
  · replace h := br_n hc h
    refine r_bipush C (v := -2) dX5_holds_17 (by decide) ?_
    cases h
    exact r_ireturn C (Eq.symm hO) dX5_holds_19
  · replace h := br_p hc h
    refine r_iload_n C 1 rfl dX5_holds_8 rfl ?_
    refine r_if_lt C (tgt := 17) dX5_holds_9 (by decide) (fun hc => ?_) (fun hc => ?_)
    · replace h := br_p hc h
      refine r_bipush C (v := -2) dX5_holds_17 (by decide) ?_
      cases h
      exact r_ireturn C (Eq.symm hO) dX5_holds_19
    · replace h := br_n hc h
      refine r_iload_n C 1 rfl dX5_holds_12 rfl ?_
      refine r_iconst C (v := 2) dX5_holds_13 (by decide) ?_
      refine r_icmp_le C (tgt := 20) dX5_holds_14 (by decide) (fun hc => ?_) (fun hc => ?_)
      · replace h := br_p hc h
        refine r_aload_n C 0 rfl dX5_holds_20 rfl ?_
        replace h := bd_i h
        obtain ⟨w3, e4, h⟩ := h
        refine k_gI C e4 rfl inX5_ (by decide) flX5_207 dX5_holds_21 ?_
        refine r_bipush C (v := 6) dX5_holds_24 (by decide) ?_
        refine r_icmp_eq C (tgt := 31) dX5_holds_26 (by decide) (fun hc => ?_) (fun hc => ?_)
        · replace h := br_p hc h
          refine r_aload_n C 0 rfl dX5_holds_31 rfl ?_
          refine r_aload_n C 0 rfl dX5_holds_32 rfl ?_
          replace h := bd_i h
          obtain ⟨w5, e6, h⟩ := h
          refine k_gR C e6 rfl inX5_ (by decide) flX5_20 dX5_holds_33 ?_
          refine r_bipush C (v := 6) dX5_holds_36 (by decide) ?_
          replace h := gd_t h
          obtain ⟨ho7, h⟩ := h
          obtain ⟨_, ho7⟩ := isO_s ho7
          replace h := bd_i h
          obtain ⟨⟨r9, hp10, z11⟩, q8, h⟩ := h
          refine q_callV C 0 88 (64 * 88) (k_X5_pointRows q8) rfl ho7 rfl okX5_pointRows inX5_pointRows lkX5_172 rfl (Nat.le_of_ble_eq_true rfl) ⟨by decide, by decide⟩ dX5_holds_38 (by omega) (by omega) ?_
          refine r_astore_n C (lv' := [(2, .ref r9), (0, .ref l0), (1, .int l1)]) dX5_holds_41 rfl (by decide) rfl ?_
          refine r_aload_n C 1 rfl dX5_holds_42 rfl ?_
          refine r_iload_n C 2 rfl dX5_holds_43 rfl ?_
          refine r_aload_n C 0 rfl dX5_holds_44 rfl ?_
          replace h := gd_t h
          obtain ⟨ho12, h⟩ := h
          obtain ⟨_, ho12⟩ := isO_s ho12
          replace h := bd_i h
          obtain ⟨⟨r14, hp15, z16⟩, q13, h⟩ := h
          refine q_callV C 0 29 (64 * 29) (k_X5_isSupposed q13) rfl ho12 rfl okX5_isSupposed inX5_isSupposed lkX5_253 rfl (Nat.le_of_ble_eq_true rfl) ⟨by decide, by decide⟩ dX5_holds_45 (by omega) (by omega) ?_
          refine r_if_ne C (tgt := 53) dX5_holds_48 (by decide) (fun hc => ?_) (fun hc => ?_)
          · replace h := br_n hc h
            refine r_iload_n C 2 rfl dX5_holds_53 rfl ?_
            refine r_iconst C (v := 1) dX5_holds_54 (by decide) ?_
            refine r_icmp_ne C (tgt := 64) dX5_holds_55 (by decide) (fun hc => ?_) (fun hc => ?_)
            · replace h := br_n hc h
              obtain ⟨t17, z18, T19⟩ := k_hex C
              refine k_gs C z18 flX5_260 dX5_holds_64 ?_
              refine r_astore_n C (lv' := [(3, .ref t17), (2, .ref r9), (0, .ref l0), (1, .int l1)]) dX5_holds_67 rfl (by decide) rfl ?_
              refine r_iconst C (v := 3) dX5_holds_68 (by decide) ?_
              replace h := bd_i h
              obtain ⟨hp20, e21, h⟩ := h
              refine k_nR3 C 28 cnX5_263 e21 dX5_holds_69 (by omega) ?_
              refine r_astore C (lv' := [(4, .ref z16), (3, .ref t17), (2, .ref r9), (0, .ref l0), (1, .int l1)]) dX5_holds_72 (by decide) rfl ?_
              refine r_iconst C (v := 0) dX5_holds_74 (by decide) ?_
              refine r_istore C (lv' := [(5, .int ((0 : Int32))), (4, .ref z16), (3, .ref t17), (2, .ref r9), (0, .ref l0), (1, .int l1)]) dX5_holds_75 (by decide) rfl ?_
              refine r_lv (lv' := [(0, .ref l0), (2, .ref r9), (3, .ref t17), (4, .ref z16), (5, .int ((0 : Int32)))]) [4, 3, 2, 1, 0] rfl ?_
              replace h := bd_i h
              obtain ⟨r73, q72, h⟩ := h
              rcases r73 with ⟨hp69, z70, rc71⟩ | o74
              · refine w_X5_holds_L77 C T19 q72 ?_
                show aW K hp69 z70 rc71 (64 * rc71) 176 [(0, .ref l0), (4, .ref z16)] []
                refine r_aload_n C 0 rfl dX5_holds_176 rfl ?_
                replace h := bd_i h
                obtain ⟨w75, e76, h⟩ := h
                refine k_gR C e76 rfl inX5_ (by decide) flX5_142 dX5_holds_177 ?_
                refine r_aload C 1 rfl dX5_holds_180 ?_
                replace h := gd_t h
                obtain ⟨ho77, h⟩ := h
                obtain ⟨_, ho77⟩ := isO_s ho77
                replace h := gd_t h
                obtain ⟨hrc, h⟩ := h
                replace h := bd_i h
                obtain ⟨⟨r79, hp80, z81⟩, q78, h⟩ := h
                refine q_callV C 0 (rc71 - 10) (64 * (rc71 - 10)) (k_X2_rankOf q78) rfl ho77 rfl okX2_rankOf inX2_rankOf lkX5_146 rfl (Nat.le_of_ble_eq_true rfl) ⟨by decide, by decide⟩ dX5_holds_182 (by omega) (by omega) ?_
                refine r_iconst C (v := 3) dX5_holds_185 (by decide) ?_
                refine r_icmp_ge C (tgt := 193) dX5_holds_186 (by decide) (fun hc => ?_) (fun hc => ?_)
                · replace h := br_p hc h
                  refine r_iconst C (v := 0) dX5_holds_193 (by decide) ?_
                  replace h := bd_i h
                  obtain ⟨r83, q82, h⟩ := h
                  refine q_callS C 0 (rc71 - 10) (64 * (rc71 - 10)) (k_X5_oneIf q82) rfl okX5_oneIf inX5_oneIf lkX5_129 rfl (Nat.le_of_ble_eq_true rfl) ⟨by decide, by decide⟩ dX5_holds_194 (by omega) (by omega) ?_
                  cases h
                  exact r_ireturn C (Eq.symm hO) dX5_holds_197
                · replace h := br_n hc h
                  refine r_iconst C (v := 1) dX5_holds_189 (by decide) ?_
                  refine r_goto C (tgt := 194) dX5_holds_190 (by decide) ?_
                  replace h := bd_i h
                  obtain ⟨r85, q84, h⟩ := h
                  refine q_callS C 0 (rc71 - 10) (64 * (rc71 - 10)) (k_X5_oneIf q84) rfl okX5_oneIf inX5_oneIf lkX5_129 rfl (Nat.le_of_ble_eq_true rfl) ⟨by decide, by decide⟩ dX5_holds_194 (by omega) (by omega) ?_
                  cases h
                  exact r_ireturn C (Eq.symm hO) dX5_holds_197
              · cases h
                exact w_X5_holds_L77 C T19 q72 hO
            · replace h := br_p hc h
              obtain ⟨t86, z87, T88⟩ := k_tri C
              refine k_gs C z87 flX5_257 dX5_holds_58 ?_
              refine r_goto C (tgt := 67) dX5_holds_61 (by decide) ?_
              refine r_astore_n C (lv' := [(3, .ref t86), (2, .ref r9), (0, .ref l0), (1, .int l1)]) dX5_holds_67 rfl (by decide) rfl ?_
              refine r_iconst C (v := 3) dX5_holds_68 (by decide) ?_
              replace h := bd_i h
              obtain ⟨hp89, e90, h⟩ := h
              refine k_nR3 C 28 cnX5_263 e90 dX5_holds_69 (by omega) ?_
              refine r_astore C (lv' := [(4, .ref z16), (3, .ref t86), (2, .ref r9), (0, .ref l0), (1, .int l1)]) dX5_holds_72 (by decide) rfl ?_
              refine r_iconst C (v := 0) dX5_holds_74 (by decide) ?_
              refine r_istore C (lv' := [(5, .int ((0 : Int32))), (4, .ref z16), (3, .ref t86), (2, .ref r9), (0, .ref l0), (1, .int l1)]) dX5_holds_75 (by decide) rfl ?_
              refine r_lv (lv' := [(0, .ref l0), (2, .ref r9), (3, .ref t86), (4, .ref z16), (5, .int ((0 : Int32)))]) [4, 3, 2, 1, 0] rfl ?_
              replace h := bd_i h
              obtain ⟨r95, q94, h⟩ := h
              rcases r95 with ⟨hp91, z92, rc93⟩ | o96
              · refine w_X5_holds_L77 C T88 q94 ?_
                show aW K hp91 z92 rc93 (64 * rc93) 176 [(0, .ref l0), (4, .ref z16)] []
                refine r_aload_n C 0 rfl dX5_holds_176 rfl ?_
                replace h := bd_i h
                obtain ⟨w97, e98, h⟩ := h
                refine k_gR C e98 rfl inX5_ (by decide) flX5_142 dX5_holds_177 ?_
                refine r_aload C 1 rfl dX5_holds_180 ?_
                replace h := gd_t h
                obtain ⟨ho99, h⟩ := h
                obtain ⟨_, ho99⟩ := isO_s ho99
                replace h := gd_t h
                obtain ⟨hrc, h⟩ := h
                replace h := bd_i h
                obtain ⟨⟨r101, hp102, z103⟩, q100, h⟩ := h
                refine q_callV C 0 (rc93 - 10) (64 * (rc93 - 10)) (k_X2_rankOf q100) rfl ho99 rfl okX2_rankOf inX2_rankOf lkX5_146 rfl (Nat.le_of_ble_eq_true rfl) ⟨by decide, by decide⟩ dX5_holds_182 (by omega) (by omega) ?_
                refine r_iconst C (v := 3) dX5_holds_185 (by decide) ?_
                refine r_icmp_ge C (tgt := 193) dX5_holds_186 (by decide) (fun hc => ?_) (fun hc => ?_)
                · replace h := br_p hc h
                  refine r_iconst C (v := 0) dX5_holds_193 (by decide) ?_
                  replace h := bd_i h
                  obtain ⟨r105, q104, h⟩ := h
                  refine q_callS C 0 (rc93 - 10) (64 * (rc93 - 10)) (k_X5_oneIf q104) rfl okX5_oneIf inX5_oneIf lkX5_129 rfl (Nat.le_of_ble_eq_true rfl) ⟨by decide, by decide⟩ dX5_holds_194 (by omega) (by omega) ?_
                  cases h
                  exact r_ireturn C (Eq.symm hO) dX5_holds_197
                · replace h := br_n hc h
                  refine r_iconst C (v := 1) dX5_holds_189 (by decide) ?_
                  refine r_goto C (tgt := 194) dX5_holds_190 (by decide) ?_
                  replace h := bd_i h
                  obtain ⟨r107, q106, h⟩ := h
                  refine q_callS C 0 (rc93 - 10) (64 * (rc93 - 10)) (k_X5_oneIf q106) rfl okX5_oneIf inX5_oneIf lkX5_129 rfl (Nat.le_of_ble_eq_true rfl) ⟨by decide, by decide⟩ dX5_holds_194 (by omega) (by omega) ?_
                  cases h
                  exact r_ireturn C (Eq.symm hO) dX5_holds_197
              · cases h
                exact w_X5_holds_L77 C T88 q94 hO
          · replace h := br_p hc h
            refine r_iconst C (v := -1) dX5_holds_51 (by decide) ?_
            cases h
            exact r_ireturn C (Eq.symm hO) dX5_holds_52
        · replace h := br_n hc h
          refine r_iconst C (v := -1) dX5_holds_29 (by decide) ?_
          cases h
          exact r_ireturn C (Eq.symm hO) dX5_holds_30
      · replace h := br_n hc h
        refine r_bipush C (v := -2) dX5_holds_17 (by decide) ?_
        cases h
        exact r_ireturn C (Eq.symm hO) dX5_holds_19
noncomputable def f_X5_told (hp : cH) (l0 : Nat) (l1 : Int32) : Option Int32 := if l1 = 0 then ((gI hp l0 5 5).bind fun w1 => some w1) else (if l1 = 1 then ((gR hp l0 5 7).bind fun w3 => (gJ hp w3 0 0).bind fun w5 => some w5.toInt32) else (if l1 = 2 then ((gR hp l0 5 0).bind fun w7 => (gI hp w7 3 1).bind fun w9 => some w9) else (if l1 = 3 then ((gI hp l0 5 10).bind fun w11 => some w11) else (if l1 = 4 then ((gI hp l0 5 11).bind fun w13 => some w13) else (if l1 = 5 then ((gI hp l0 5 12).bind fun w15 => some w15) else (some ((-2 : Int32))))))))
set_option maxHeartbeats 4000000 in
set_option maxRecDepth 100000 in
theorem k_X5_told {G : gT} {hp : cH} {sz : Nat} {l0 : Nat} {l1 : Int32} {o0 : Int32} (h : f_X5_told hp l0 l1 = some o0) : aM G yX5_told cX5_told 2 (some .int) 0 0 0 (64 * 0) [.ref l0, .int l1] hp sz ((some (.int o0), hp, sz) : oT) := by
  refine aM.of RX5 (by decide) rfl (Nat.le_of_ble_eq_true rfl) (fun K C => ?_)
  have hO : ((some (.int o0), hp, sz) : oT) = ((some (.int o0), hp, sz) : oT) := rfl
  refine r_lve (lv' := [(0, .ref l0), (1, .int l1)]) rfl ?_
  unfold f_X5_told at h
  refine r_iload_n C 1 rfl dX5_told_0 rfl ?_
  by_cases hk0 : l1 = 0
  · replace h := br_p hk0 h
    refine r_tabIn C (0) hk0 (tgt := 40) dX5_told_1 (by decide) (by decide) rfl (by decide) ?_
    refine r_aload_n C 0 rfl dX5_told_40 rfl ?_
    replace h := bd_i h
    obtain ⟨w1, e2, h⟩ := h
    refine k_gI C e2 rfl inX5_ (by decide) flX5_96 dX5_told_41 ?_
    cases h
    exact r_ireturn C (Eq.symm hO) dX5_told_44
  · replace h := br_n hk0 h
    by_cases hk1 : l1 = 1
    · replace h := br_p hk1 h
      refine r_tabIn C (1) hk1 (tgt := 45) dX5_told_1 (by decide) (by decide) rfl (by decide) ?_
      refine r_aload_n C 0 rfl dX5_told_45 rfl ?_
      replace h := bd_i h
      obtain ⟨w3, e4, h⟩ := h
      refine k_gR C e4 rfl inX5_ (by decide) flX5_40 dX5_told_46 ?_
      replace h := bd_i h
      obtain ⟨w5, e6, h⟩ := h
      refine k_gJ C e6 rfl inX0_ (by decide) flX5_158 dX5_told_49 ?_
      refine r_l2i C dX5_told_52 ?_
      cases h
      exact r_ireturn C (Eq.symm hO) dX5_told_53
    · replace h := br_n hk1 h
      by_cases hk2 : l1 = 2
      · replace h := br_p hk2 h
        refine r_tabIn C (2) hk2 (tgt := 54) dX5_told_1 (by decide) (by decide) rfl (by decide) ?_
        refine r_aload_n C 0 rfl dX5_told_54 rfl ?_
        replace h := bd_i h
        obtain ⟨w7, e8, h⟩ := h
        refine k_gR C e8 rfl inX5_ (by decide) flX5_10 dX5_told_55 ?_
        replace h := bd_i h
        obtain ⟨w9, e10, h⟩ := h
        refine k_gI C e10 rfl inX3_ (by decide) flX5_268 dX5_told_58 ?_
        cases h
        exact r_ireturn C (Eq.symm hO) dX5_told_61
      · replace h := br_n hk2 h
        by_cases hk3 : l1 = 3
        · replace h := br_p hk3 h
          refine r_tabIn C (3) hk3 (tgt := 62) dX5_told_1 (by decide) (by decide) rfl (by decide) ?_
          refine r_aload_n C 0 rfl dX5_told_62 rfl ?_
          replace h := bd_i h
          obtain ⟨w11, e12, h⟩ := h
          refine k_gI C e12 rfl inX5_ (by decide) flX5_207 dX5_told_63 ?_
          cases h
          exact r_ireturn C (Eq.symm hO) dX5_told_66
        · replace h := br_n hk3 h
          by_cases hk4 : l1 = 4
          · replace h := br_p hk4 h
            refine r_tabIn C (4) hk4 (tgt := 67) dX5_told_1 (by decide) (by decide) rfl (by decide) ?_
            refine r_aload_n C 0 rfl dX5_told_67 rfl ?_
            replace h := bd_i h
            obtain ⟨w13, e14, h⟩ := h
            refine k_gI C e14 rfl inX5_ (by decide) flX5_169 dX5_told_68 ?_
            cases h
            exact r_ireturn C (Eq.symm hO) dX5_told_71
          · replace h := br_n hk4 h
            by_cases hk5 : l1 = 5
            · replace h := br_p hk5 h
              refine r_tabIn C (5) hk5 (tgt := 72) dX5_told_1 (by decide) (by decide) rfl (by decide) ?_
              refine r_aload_n C 0 rfl dX5_told_72 rfl ?_
              replace h := bd_i h
              obtain ⟨w15, e16, h⟩ := h
              refine k_gI C e16 rfl inX5_ (by decide) flX5_234 dX5_told_73 ?_
              cases h
              exact r_ireturn C (Eq.symm hO) dX5_told_76
            · replace h := br_n hk5 h
              have hs0 := lv_neT hk0 (a := 0) (by decide)
              have hs1 := lv_neT hk1 (a := 1) (by decide)
              have hs2 := lv_neT hk2 (a := 2) (by decide)
              have hs3 := lv_neT hk3 (a := 3) (by decide)
              have hs4 := lv_neT hk4 (a := 4) (by decide)
              have hs5 := lv_neT hk5 (a := 5) (by decide)
              refine r_tabOut C (tgt := 77) dX5_told_1 (by omega) (by decide) ?_
              refine r_bipush C (v := -2) dX5_told_77 (by decide) ?_
              cases h
              exact r_ireturn C (Eq.symm hO) dX5_told_79
