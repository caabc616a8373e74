noncomputable def f_X4_lineIsOnPlane (hp : cH) (sz : Nat) (l0 : Nat) (l1 : Nat) (l2 : Nat) : Option (Int32 × cH × Nat) := if isO hp l0 4 = true then (f_X4_pointOnPlane hp sz l0 l1 l2).bind fun (r3, hp4, z5) => (f_X2_isZero hp4 r3).bind fun r7 => if r7 = 0 ∨ r7 = 1 then some (r7, hp4, z5) else none else none
set_option maxHeartbeats 4000000 in
set_option maxRecDepth 100000 in
theorem k_X4_lineIsOnPlane {G : gT} {hp : cH} {sz : Nat} {l0 : Nat} {l1 : Nat} {l2 : Nat} {o0 : Int32} {oh : cH} {oz : Nat} (h : f_X4_lineIsOnPlane hp sz l0 l1 l2 = some (o0, oh, oz)) : aM G yX4_lineIsOnPlane cX4_lineIsOnPlane 3 (some .boolean) 4 67 2 (64 * 2) [.ref l0, .ref l1, .ref l2] hp sz ((some (.int o0), oh, oz) : oT) := by
  refine aM.of RX4 (by decide) rfl (Nat.le_of_ble_eq_true rfl) (fun K C => ?_)
  have hO : ((some (.int o0), oh, oz) : oT) = ((some (.int o0), oh, oz) : oT) := rfl
  refine r_lve (lv' := [(0, .ref l0), (1, .ref l1), (2, .ref l2)]) rfl ?_
  unfold f_X4_lineIsOnPlane at h
  refine r_aload_n C 0 rfl dX4_lineIsOnPlane_0 rfl ?_
  refine r_aload_n C 1 rfl dX4_lineIsOnPlane_1 rfl ?_
  refine r_aload_n C 2 rfl dX4_lineIsOnPlane_2 rfl ?_
  replace h := gd_t h
  obtain ⟨ho1, h⟩ := h
  obtain ⟨_, ho1⟩ := isO_s ho1
  replace h := bd_i h
  obtain ⟨⟨r3, hp4, z5⟩, q2, h⟩ := h
  refine q_callV C 0 0 (64 * 0) (k_X4_pointOnPlane q2) rfl ho1 rfl okX4_pointOnPlane inX4_pointOnPlane lkX4_66 rfl (Nat.le_of_ble_eq_true rfl) ⟨by decide, by decide⟩ dX4_lineIsOnPlane_3 (by omega) (by omega) ?_
  replace h := bd_i h
  obtain ⟨r7, q6, h⟩ := h
  refine q_callS C 0 0 (64 * 0) (k_X2_isZero q6) rfl okX2_isZero inX2_isZero lkX4_69 rfl (Nat.le_of_ble_eq_true rfl) ⟨by decide, by decide⟩ dX4_lineIsOnPlane_6 (by omega) (by omega) ?_
  replace h := gd_t h
  obtain ⟨hz, h⟩ := h
  cases h
  exact r_zreturn C (nb01 hz) (Eq.symm hO) dX4_lineIsOnPlane_9
noncomputable def f_X5_on (hp : cH) (sz : Nat) (l0 : Nat) (l1 : Int32) (l2 : Int32) : Option (Int32 × cH × Nat) := (gR hp l0 5 0).bind fun w1 => if isO hp w1 3 = true then (f_X3_lower hp w1 l1 l2).bind fun r5 => (gR hp l0 5 0).bind fun w6 => if isO hp w6 3 = true then (f_X3_higher hp w6 l1 l2).bind fun r10 => Option.elim r5 (some ((-2 : Int32), hp, sz)) (fun a11 => Option.elim r10 (some ((-2 : Int32), hp, sz)) (fun a12 => (gI hp a11 1 0).bind fun w13 => if w13 = 0 then ((gR hp a11 1 1).bind fun w49 => if isO hp l0 5 = true then (f_X5_pointIsOn hp sz l0 w49 a12).bind fun (r53, hp54, z55) => some (r53, hp54, z55) else none) else ((gI hp l0 5 5).bind fun w15 => if w15 = ((2 : Int32)) then (some ((-2 : Int32), hp, sz)) else ((gI hp a11 1 0).bind fun w17 => if w17 = ((1 : Int32)) then ((gI hp a12 1 0).bind fun w19 => if w19 = ((1 : Int32)) then ((gR hp l0 5 9).bind fun w36 => (gR hp a11 1 1).bind fun w38 => (gR hp a12 1 1).bind fun w40 => if isO hp w36 4 = true then (f_X4_linesMeet hp sz w36 w38 w40).bind fun (r44, hp45, z46) => (f_X5_oneIf r44).bind fun r48 => some (r48, hp45, z46) else none) else ((gI hp a12 1 0).bind fun w21 => if w21 = ((2 : Int32)) then ((gR hp l0 5 9).bind fun w23 => (gR hp a11 1 1).bind fun w25 => (gR hp a12 1 1).bind fun w27 => if isO hp w23 4 = true then (f_X4_lineIsOnPlane hp sz w23 w25 w27).bind fun (r31, hp32, z33) => (f_X5_oneIf r31).bind fun r35 => some (r35, hp32, z33) else none) else (some ((-2 : Int32), hp, sz)))) else (some ((-2 : Int32), hp, sz)))))) else none else none
set_option maxHeartbeats 4000000 in
set_option maxRecDepth 100000 in
theorem k_X5_on {G : gT} {hp : cH} {sz : Nat} {l0 : Nat} {l1 : Int32} {l2 : Int32} {o0 : Int32} {oh : cH} {oz : Nat} (h : f_X5_on hp sz l0 l1 l2 = some (o0, oh, oz)) : aM G yX5_on cX5_on 5 (some .int) 6 95 7 (64 * 7) [.ref l0, .int l1, .int l2] hp sz ((some (.int o0), oh, oz) : oT) := by
  refine aM.of RX5 (by decide) rfl (Nat.le_of_ble_eq_true rfl) (fun K C => ?_)
  have hO : ((some (.int o0), oh, oz) : oT) = ((some (.int o0), oh, oz) : oT) := rfl
  refine r_lve (lv' := [(0, .ref l0), (1, .int l1), (2, .int l2)]) rfl ?_
  unfold f_X5_on at h
  refine r_aload_n C 0 rfl dX5_on_0 rfl ?_
  replace h := bd_i h
  obtain ⟨w1, e2, h⟩ := h
  refine k_gR C e2 rfl inX5_ (by decide) flX5_10 dX5_on_1 ?_
  refine r_iload_n C 1 rfl dX5_on_4 rfl ?_
  refine r_iload_n C 2 rfl dX5_on_5 rfl ?_
  replace h := gd_t h
  obtain ⟨ho3, h⟩ := h
  obtain ⟨_, ho3⟩ := isO_s ho3
  replace h := bd_i h
  obtain ⟨r5, q4, h⟩ := h
  refine q_callV C 0 7 (64 * 7) (k_X3_lower q4) rfl ho3 rfl okX3_lower inX3_lower lkX5_79 rfl (Nat.le_of_ble_eq_true rfl) ⟨by decide, by decide⟩ dX5_on_6 (by omega) (by omega) ?_
  refine r_astore_nq C (lv' := [(3, va_rf r5), (0, .ref l0), (1, .int l1), (2, .int l2)]) dX5_on_9 rfl (by decide) rfl ?_
  refine r_aload_n C 1 rfl dX5_on_10 rfl ?_
  replace h := bd_i h
  obtain ⟨w6, e7, h⟩ := h
  refine k_gR C e7 rfl inX5_ (by decide) flX5_10 dX5_on_11 ?_
  refine r_iload_n C 2 rfl dX5_on_14 rfl ?_
  refine r_iload_n C 3 rfl dX5_on_15 rfl ?_
  replace h := gd_t h
  obtain ⟨ho8, h⟩ := h
  obtain ⟨_, ho8⟩ := isO_s ho8
  replace h := bd_i h
  obtain ⟨r10, q9, h⟩ := h
  refine q_callV C 0 7 (64 * 7) (k_X3_higher q9) rfl ho8 rfl okX3_higher inX3_higher lkX5_83 rfl (Nat.le_of_ble_eq_true rfl) ⟨by decide, by decide⟩ dX5_on_16 (by omega) (by omega) ?_
  refine r_astoreq C (lv' := [(4, va_rf r10), (3, va_rf r5), (0, .ref l0), (1, .int l1), (2, .int l2)]) dX5_on_19 (by decide) (by simp [rf_cat]) ?_
  refine r_aload_nq C 1 rfl dX5_on_21 rfl ?_
  refine k_ifnull C (tgt := 30) dX5_on_22 (by decide) (fun hx => ?_) (fun a11 hx => ?_)
  · subst hx
    replace h := oe_n rfl h
    refine r_bipush C (v := -2) dX5_on_30 (by decide) ?_
    cases h
    exact r_ireturn C (Eq.symm hO) dX5_on_32
  · subst hx
    replace h := oe_s rfl h
    refine r_aloadq C 0 rfl dX5_on_25 ?_
    refine k_ifnonnull C (tgt := 33) dX5_on_27 (by decide) (fun a12 hx => ?_) (fun hx => ?_)
    · subst hx
      replace h := oe_s rfl h
      refine r_aload_n C 1 rfl dX5_on_33 rfl ?_
      replace h := bd_i h
      obtain ⟨w13, e14, h⟩ := h
      refine k_gI C e14 rfl inX1_ (by decide) flX5_75 dX5_on_34 ?_
      refine r_if_ne C (tgt := 51) dX5_on_37 (by decide) (fun hc => ?_) (fun hc => ?_)
      · replace h := br_n hc h
        refine r_aload_n C 2 rfl dX5_on_51 rfl ?_
        replace h := bd_i h
        obtain ⟨w15, e16, h⟩ := h
        refine k_gI C e16 rfl inX5_ (by decide) flX5_96 dX5_on_52 ?_
        refine r_iconst C (v := 2) dX5_on_55 (by decide) ?_
        refine r_icmp_eq C (tgt := 67) dX5_on_56 (by decide) (fun hc => ?_) (fun hc => ?_)
        · replace h := br_p hc h
          refine r_bipush C (v := -2) dX5_on_67 (by decide) ?_
          cases h
          exact r_ireturn C (Eq.symm hO) dX5_on_69
        · replace h := br_n hc h
          refine r_aload_n C 1 rfl dX5_on_59 rfl ?_
          replace h := bd_i h
          obtain ⟨w17, e18, h⟩ := h
          refine k_gI C e18 rfl inX1_ (by decide) flX5_75 dX5_on_60 ?_
          refine r_iconst C (v := 1) dX5_on_63 (by decide) ?_
          refine r_icmp_eq C (tgt := 70) dX5_on_64 (by decide) (fun hc => ?_) (fun hc => ?_)
          · replace h := br_p hc h
            refine r_aload C 0 rfl dX5_on_70 ?_
            replace h := bd_i h
            obtain ⟨w19, e20, h⟩ := h
            refine k_gI C e20 rfl inX1_ (by decide) flX5_75 dX5_on_72 ?_
            refine r_iconst C (v := 1) dX5_on_75 (by decide) ?_
            refine r_icmp_ne C (tgt := 99) dX5_on_76 (by decide) (fun hc => ?_) (fun hc => ?_)
            · replace h := br_n hc h
              refine r_aload C 0 rfl dX5_on_99 ?_
              replace h := bd_i h
              obtain ⟨w21, e22, h⟩ := h
              refine k_gI C e22 rfl inX1_ (by decide) flX5_75 dX5_on_101 ?_
              refine r_iconst C (v := 2) dX5_on_104 (by decide) ?_
              refine r_icmp_ne C (tgt := 130) dX5_on_105 (by decide) (fun hc => ?_) (fun hc => ?_)
              · replace h := br_n hc h
                refine r_bipush C (v := -2) dX5_on_130 (by decide) ?_
                cases h
                exact r_ireturn C (Eq.symm hO) dX5_on_132
              · replace h := br_p hc h
                refine r_aload_n C 2 rfl dX5_on_108 rfl ?_
                replace h := bd_i h
                obtain ⟨w23, e24, h⟩ := h
                refine k_gR C e24 rfl inX5_ (by decide) flX5_86 dX5_on_109 ?_
                refine r_aload_n C 1 rfl dX5_on_112 rfl ?_
                replace h := bd_i h
                obtain ⟨w25, e26, h⟩ := h
                refine k_gR C e26 rfl inX1_ (by decide) flX5_70 dX5_on_113 ?_
                refine r_aload C 0 rfl dX5_on_116 ?_
                replace h := bd_i h
                obtain ⟨w27, e28, h⟩ := h
                refine k_gR C e28 rfl inX1_ (by decide) flX5_70 dX5_on_118 ?_
                replace h := gd_t h
                obtain ⟨ho29, h⟩ := h
                obtain ⟨_, ho29⟩ := isO_s ho29
                replace h := bd_i h
                obtain ⟨⟨r31, hp32, z33⟩, q30, h⟩ := h
                refine q_callV C 0 5 (64 * 5) (k_X4_lineIsOnPlane q30) rfl ho29 rfl okX4_lineIsOnPlane inX4_lineIsOnPlane lkX5_133 rfl (Nat.le_of_ble_eq_true rfl) ⟨by decide, by decide⟩ dX5_on_121 (by omega) (by omega) ?_
                replace h := bd_i h
                obtain ⟨r35, q34, h⟩ := h
                refine q_callS C 0 5 (64 * 5) (k_X5_oneIf q34) rfl okX5_oneIf inX5_oneIf lkX5_129 rfl (Nat.le_of_ble_eq_true rfl) ⟨by decide, by decide⟩ dX5_on_124 (by omega) (by omega) ?_
                refine r_goto C (tgt := 132) dX5_on_127 (by decide) ?_
                cases h
                exact r_ireturn C (Eq.symm hO) dX5_on_132
            · replace h := br_p hc h
              refine r_aload_n C 2 rfl dX5_on_79 rfl ?_
              replace h := bd_i h
              obtain ⟨w36, e37, h⟩ := h
              refine k_gR C e37 rfl inX5_ (by decide) flX5_86 dX5_on_80 ?_
              refine r_aload_n C 1 rfl dX5_on_83 rfl ?_
              replace h := bd_i h
              obtain ⟨w38, e39, h⟩ := h
              refine k_gR C e39 rfl inX1_ (by decide) flX5_70 dX5_on_84 ?_
              refine r_aload C 0 rfl dX5_on_87 ?_
              replace h := bd_i h
              obtain ⟨w40, e41, h⟩ := h
              refine k_gR C e41 rfl inX1_ (by decide) flX5_70 dX5_on_89 ?_
              replace h := gd_t h
              obtain ⟨ho42, h⟩ := h
              obtain ⟨_, ho42⟩ := isO_s ho42
              replace h := bd_i h
              obtain ⟨⟨r44, hp45, z46⟩, q43, h⟩ := h
              refine q_callV C 0 6 (64 * 6) (k_X4_linesMeet q43) rfl ho42 rfl okX4_linesMeet inX4_linesMeet lkX5_125 rfl (Nat.le_of_ble_eq_true rfl) ⟨by decide, by decide⟩ dX5_on_92 (by omega) (by omega) ?_
              replace h := bd_i h
              obtain ⟨r48, q47, h⟩ := h
              refine q_callS C 0 6 (64 * 6) (k_X5_oneIf q47) rfl okX5_oneIf inX5_oneIf lkX5_129 rfl (Nat.le_of_ble_eq_true rfl) ⟨by decide, by decide⟩ dX5_on_95 (by omega) (by omega) ?_
              cases h
              exact r_ireturn C (Eq.symm hO) dX5_on_98
          · replace h := br_n hc h
            refine r_bipush C (v := -2) dX5_on_67 (by decide) ?_
            cases h
            exact r_ireturn C (Eq.symm hO) dX5_on_69
      · replace h := br_p hc h
        refine r_aload_n C 2 rfl dX5_on_40 rfl ?_
        refine r_aload_n C 1 rfl dX5_on_41 rfl ?_
        replace h := bd_i h
        obtain ⟨w49, e50, h⟩ := h
        refine k_gR C e50 rfl inX1_ (by decide) flX5_70 dX5_on_42 ?_
        refine r_aload C 0 rfl dX5_on_45 ?_
        replace h := gd_t h
        obtain ⟨ho51, h⟩ := h
        obtain ⟨_, ho51⟩ := isO_s ho51
        replace h := bd_i h
        obtain ⟨⟨r53, hp54, z55⟩, q52, h⟩ := h
        refine q_callV C 0 3 (64 * 3) (k_X5_pointIsOn q52) rfl ho51 rfl okX5_pointIsOn inX5_pointIsOn lkX5_121 rfl (Nat.le_of_ble_eq_true rfl) ⟨by decide, by decide⟩ dX5_on_47 (by omega) (by omega) ?_
        cases h
        exact r_ireturn C (Eq.symm hO) dX5_on_50
    · subst hx
      replace h := oe_n rfl h
      refine r_bipush C (v := -2) dX5_on_30 (by decide) ?_
      cases h
      exact r_ireturn C (Eq.symm hO) dX5_on_32
noncomputable def f_X3_row (hp : cH) (l0 : Nat) (l1 : Int32) (l2 : Int32) : Option (Option Nat) := if isO hp l0 3 = true then (f_X3_item hp l0 l1).bind fun r3 => Option.elim r3 (some none) (fun a4 => (gI hp a4 1 0).bind fun w5 => if w5 = l2 then ((gR hp a4 1 1).bind fun w7 => some ((some w7))) else (some none)) else none
set_option maxHeartbeats 4000000 in
set_option maxRecDepth 100000 in
theorem k_X3_row {G : gT} {hp : cH} {sz : Nat} {l0 : Nat} {l1 : Int32} {l2 : Int32} {o0 : Option Nat} (h : f_X3_row hp l0 l1 l2 = some o0) : aM G yX3_row cX3_row 4 (some (.array .long)) 1 13 0 (64 * 0) [.ref l0, .int l1, .int l2] hp sz ((some (va_rf o0), hp, sz) : oT) := by
  refine aM.of RX3 (by decide) rfl (Nat.le_of_ble_eq_true rfl) (fun K C => ?_)
  have hO : ((some (va_rf o0), hp, sz) : oT) = ((some (va_rf o0), hp, sz) : oT) := rfl
  refine r_lve (lv' := [(0, .ref l0), (1, .int l1), (2, .int l2)]) rfl ?_
  unfold f_X3_row at h
  refine r_aload_n C 0 rfl dX3_row_0 rfl ?_
  refine r_iload_n C 1 rfl dX3_row_1 rfl ?_
  replace h := gd_t h
  obtain ⟨ho1, h⟩ := h
  obtain ⟨_, ho1⟩ := isO_s ho1
  replace h := bd_i h
  obtain ⟨r3, q2, h⟩ := h
  refine q_callV C 0 0 (64 * 0) (k_X3_item q2) rfl ho1 rfl okX3_item inX3_item lkX3_21 rfl (Nat.le_of_ble_eq_true rfl) ⟨by decide, by decide⟩ dX3_row_2 (by omega) (by omega) ?_
  refine r_astore_nq C (lv' := [(3, va_rf r3), (0, .ref l0), (1, .int l1), (2, .int l2)]) dX3_row_5 rfl (by decide) rfl ?_
  refine r_aload_nq C 0 rfl dX3_row_6 rfl ?_
  refine k_ifnull C (tgt := 18) dX3_row_7 (by decide) (fun hx => ?_) (fun a4 hx => ?_)
  · subst hx
    replace h := oe_n rfl h
    refine r_null C dX3_row_18 ?_
    refine r_goto C (tgt := 26) dX3_row_19 (by decide) ?_
    cases h
    exact r_areturn C (Or.inr ⟨_, rfl⟩) (Eq.symm hO) dX3_row_26
  · subst hx
    replace h := oe_s rfl h
    refine r_aload_n C 0 rfl dX3_row_10 rfl ?_
    replace h := bd_i h
    obtain ⟨w5, e6, h⟩ := h
    refine k_gI C e6 rfl inX1_ (by decide) flX3_25 dX3_row_11 ?_
    refine r_iload_n C 3 rfl dX3_row_14 rfl ?_
    refine r_icmp_eq C (tgt := 22) dX3_row_15 (by decide) (fun hc => ?_) (fun hc => ?_)
    · replace h := br_p hc h
      refine r_aload_n C 0 rfl dX3_row_22 rfl ?_
      replace h := bd_i h
      obtain ⟨w7, e8, h⟩ := h
      refine k_gR C e8 rfl inX1_ (by decide) flX3_28 dX3_row_23 ?_
      cases h
      exact r_areturnA C (Or.inr ⟨_, rfl⟩) (Eq.symm hO) dX3_row_26
    · replace h := br_n hc h
      refine r_null C dX3_row_18 ?_
      refine r_goto C (tgt := 26) dX3_row_19 (by decide) ?_
      cases h
      exact r_areturn C (Or.inr ⟨_, rfl⟩) (Eq.symm hO) dX3_row_26
noncomputable def f_X5_rowsOfOneSort_L44 (sz : Nat) (l0 : Nat) (l1 : Nat) (l2 : Nat) (l3 : Nat) (l4 : Int32) (hp : cH) : Option ((Int32 × cH) ⊕ (cH ⊕ ((Option Nat) × cH × Nat))) := (aN hp l1).bind fun w15 => if w15 ≤ l4 then (some (.inr (.inl hp))) else ((gR hp l0 5 0).bind fun w17 => (lI hp l1 l4).bind fun w19 => (gI hp l2 1 0).bind fun w21 => if isO hp w17 3 = true then (f_X3_row hp w17 w19 w21).bind fun r25 => (sRo 3 hp l3 l4 r25).bind fun hp26 => (lR 3 hp26 l3 l4).bind fun u28 => Option.elim u28 (some (.inr (.inr (none, hp26, sz)))) (fun a30 => some (.inl (l4 + 1, hp26))) else none)
noncomputable def f_X5_rowsOfOneSort_J35 (hp : cH) (sz : Nat) (rc : Nat) (l0 : Nat) (l1 : Nat) (l2 : Nat) : Option ((Option Nat) × cH × Nat) := (aN hp l1).bind fun w11 => if 1 ≤ rc then (nR 3 hp sz w11).bind fun hp13 => (itX (fun s => f_X5_rowsOfOneSort_L44 ((sz + 1)) l0 l1 l2 sz s.1 s.2) ((0 : Int32), hp13)).bind fun r33 => match r33 with | .inl hp31 => (some ((some sz), hp31, (sz + 1))) | .inr o34 => some o34 else none
noncomputable def f_X5_rowsOfOneSort (hp : cH) (sz : Nat) (l0 : Nat) (l1 : Nat) : Option ((Option Nat) × cH × Nat) := (gR hp l0 5 0).bind fun w1 => (lI hp l1 ((0 : Int32))).bind fun w3 => if isO hp w1 3 = true then (f_X3_item hp w1 w3).bind fun r7 => Option.elim r7 (some (none, hp, sz)) (fun a8 => (gI hp a8 1 0).bind fun w9 => if w9 = 0 then (f_X5_rowsOfOneSort_J35 hp sz 1 l0 l1 a8) else ((gI hp a8 1 0).bind fun w35 => (gI hp l0 5 6).bind fun w37 => if w35 = w37 then (f_X5_rowsOfOneSort_J35 hp sz 1 l0 l1 a8) else (some (none, hp, sz)))) else none
set_option maxHeartbeats 4000000 in
set_option maxRecDepth 100000 in
theorem w_X5_rowsOfOneSort_L44 {K : kT} {O : oT} (C : aC K cX5_rowsOfOneSort RX5 "rowsOfOneSort" 2 30 1 (64 * 1) 5 (some (.array (.array .long))) O) {hp : cH} {sz rc : Nat} {l0 : Nat} {l1 : Nat} {l2 : Nat} {l3 : Nat} {l4 : Int32} {r : (cH ⊕ ((Option Nat) × cH × Nat))} (h : itX (fun s => f_X5_rowsOfOneSort_L44 sz l0 l1 l2 l3 s.1 s.2) (l4, hp) = some r) (hr : Sum.elim (fun r => aW K r sz rc (64 * rc) 85 [(3, .ref l3)] []) (fun o => ((some (va_rf o.1), o.2.1, o.2.2) : oT) = O) r) : aW K hp sz rc (64 * rc) 44 [(0, .ref l0), (1, .ref l1), (2, .ref l2), (3, .ref l3), (4, .int l4)] [] := by
  refine it_walk (f := fun s => f_X5_rowsOfOneSort_L44 sz l0 l1 l2 l3 s.1 s.2) (P := fun s => aW K s.2 sz rc (64 * rc) 44 [(0, .ref l0), (1, .ref l1), (2, .ref l2), (3, .ref l3), (4, .int s.1)] []) (R := fun r => Sum.elim (fun r => aW K r sz rc (64 * rc) 85 [(3, .ref l3)] []) (fun o => ((some (va_rf o.1), o.2.1, o.2.2) : oT) = O) r) ?_ h hr
  clear h hr
  rintro ⟨l4, hp⟩ x h kl kr
  show aW K hp sz rc (64 * rc) 44 [(0, .ref l0), (1, .ref l1), (2, .ref l2), (3, .ref l3), (4, .int l4)] []
  replace h : f_X5_rowsOfOneSort_L44 sz l0 l1 l2 l3 l4 hp = some x := h
  unfold f_X5_rowsOfOneSort_L44 at h
  refine r_iload C 4 rfl dX5_rowsOfOneSort_44 ?_
  refine r_aload_n C 1 rfl dX5_rowsOfOneSort_46 rfl ?_
  replace h := bd_i h
  obtain ⟨w15, e16, h⟩ := h
  refine k_alen C e16 dX5_rowsOfOneSort_47 ?_
  refine r_icmp_ge C (tgt := 85) dX5_rowsOfOneSort_48 (by decide) (fun hc => ?_) (fun hc => ?_)
  · replace h := br_p hc h
    refine r_lv (lv' := [(3, .ref l3)]) [3] rfl ?_
    exact kr _ (sm_i h)
  · replace h := br_n hc h
    refine r_aload_n C 3 rfl dX5_rowsOfOneSort_51 rfl ?_
    refine r_iload C 4 rfl dX5_rowsOfOneSort_52 ?_
    refine r_aload_n C 0 rfl dX5_rowsOfOneSort_54 rfl ?_
    replace h := bd_i h
    obtain ⟨w17, e18, h⟩ := h
    refine k_gR C e18 rfl inX5_ (by decide) flX5_10 dX5_rowsOfOneSort_55 ?_
    refine r_aload_n C 1 rfl dX5_rowsOfOneSort_58 rfl ?_
    refine r_iload C 4 rfl dX5_rowsOfOneSort_59 ?_
    replace h := bd_i h
    obtain ⟨w19, e20, h⟩ := h
    refine k_lI C e20 dX5_rowsOfOneSort_61 ?_
    refine r_aload_n C 2 rfl dX5_rowsOfOneSort_62 rfl ?_
    replace h := bd_i h
    obtain ⟨w21, e22, h⟩ := h
    refine k_gI C e22 rfl inX1_ (by decide) flX5_75 dX5_rowsOfOneSort_63 ?_
    replace h := gd_t h
    obtain ⟨ho23, h⟩ := h
    obtain ⟨_, ho23⟩ := isO_s ho23
    replace h := bd_i h
    obtain ⟨r25, q24, h⟩ := h
    refine q_callV C 2 rc (64 * rc) (k_X3_row q24) rfl ho23 rfl okX3_row inX3_row lkX5_166 rfl (Nat.le_of_ble_eq_true rfl) ⟨by decide, by decide⟩ dX5_rowsOfOneSort_66 (by omega) (by omega) ?_
    replace h := bd_i h
    obtain ⟨hp26, e27, h⟩ := h
    refine k_sRo C (by decide) e27 dX5_rowsOfOneSort_69 ?_
    refine r_aload_n C 3 rfl dX5_rowsOfOneSort_70 rfl ?_
    refine r_iload C 4 rfl dX5_rowsOfOneSort_71 ?_
    replace h := bd_i h
    obtain ⟨u28, e29, h⟩ := h
    refine k_lR C (by decide) e29 dX5_rowsOfOneSort_73 ?_
    refine k_ifnonnull C (tgt := 79) dX5_rowsOfOneSort_74 (by decide) (fun a30 hx => ?_) (fun hx => ?_)
    · subst hx
      replace h := oe_s rfl h
      refine r_iinc C (v := l4 + 1) (lv' := [(4, .int (l4 + 1)), (0, .ref l0), (1, .ref l1), (2, .ref l2), (3, .ref l3)]) 4 rfl dX5_rowsOfOneSort_79 rfl (by decide) rfl ?_
      refine r_goto C (tgt := 44) dX5_rowsOfOneSort_82 (by decide) ?_
      refine r_lv (lv' := [(0, .ref l0), (1, .ref l1), (2, .ref l2), (3, .ref l3), (4, .int (l4 + 1))]) [1, 2, 3, 4, 0] rfl ?_
      exact kl _ (sm_i h)
    · subst hx
      replace h := oe_n rfl h
      refine r_null C dX5_rowsOfOneSort_77 ?_
      exact r_areturn C (Or.inr ⟨_, rfl⟩) (Eq.symm (kr _ (sm_i h))) dX5_rowsOfOneSort_78
set_option maxHeartbeats 4000000 in
set_option maxRecDepth 100000 in
theorem w_X5_rowsOfOneSort_J35 {K : kT} {O : oT} (C : aC K cX5_rowsOfOneSort RX5 "rowsOfOneSort" 2 30 1 (64 * 1) 5 (some (.array (.array .long))) O) {hp : cH} {sz rc : Nat} {l0 : Nat} {l1 : Nat} {l2 : Nat} {o0 : Option Nat} {oh : cH} {oz : Nat} (h : f_X5_rowsOfOneSort_J35 hp sz rc l0 l1 l2 = some (o0, oh, oz)) (hO : ((some (va_rf o0), oh, oz) : oT) = O) : aW K hp sz rc (64 * rc) 35 [(0, .ref l0), (1, .ref l1), (2, .ref l2)] [] := by
  unfold f_X5_rowsOfOneSort_J35 at h
  refine r_aload_n C 1 rfl dX5_rowsOfOneSort_35 rfl ?_
  replace h := bd_i h
  obtain ⟨w11, e12, h⟩ := h
  refine k_alen C e12 dX5_rowsOfOneSort_36 ?_
  replace h := gd_t h
  obtain ⟨hrc, h⟩ := h
  replace h := bd_i h
  obtain ⟨hp13, e14, h⟩ := h
  refine k_nR3 C (rc - 1) cnX5_263 e14 dX5_rowsOfOneSort_37 (by omega) ?_
  refine r_astore_n C (lv' := [(3, .ref sz), (0, .ref l0), (1, .ref l1), (2, .ref l2)]) dX5_rowsOfOneSort_40 rfl (by decide) rfl ?_
  refine r_iconst C (v := 0) dX5_rowsOfOneSort_41 (by decide) ?_
  refine r_istore C (lv' := [(4, .int ((0 : Int32))), (3, .ref sz), (0, .ref l0), (1, .ref l1), (2, .ref l2)]) dX5_rowsOfOneSort_42 (by decide) rfl ?_
  refine r_lv (lv' := [(0, .ref l0), (1, .ref l1), (2, .ref l2), (3, .ref sz), (4, .int ((0 : Int32)))]) [2, 3, 4, 1, 0] rfl ?_
  replace h := bd_i h
  obtain ⟨r33, q32, h⟩ := h
  rcases r33 with hp31 | o34
  · refine w_X5_rowsOfOneSort_L44 C  q32 ?_
    show aW K hp31 ((sz + 1)) ((rc - 1)) (64 * ((rc - 1))) 85 [(3, .ref sz)] []
    refine r_aload_n C 0 rfl dX5_rowsOfOneSort_85 rfl ?_
    cases h
    exact r_areturnA C (Or.inr ⟨_, rfl⟩) (Eq.symm hO) dX5_rowsOfOneSort_86
  · cases h
    exact w_X5_rowsOfOneSort_L44 C  q32 hO
set_option maxHeartbeats 4000000 in
set_option maxRecDepth 100000 in
theorem k_X5_rowsOfOneSort {G : gT} {hp : cH} {sz : Nat} {l0 : Nat} {l1 : Nat} {o0 : Option Nat} {oh : cH} {oz : Nat} (h : f_X5_rowsOfOneSort hp sz l0 l1 = some (o0, oh, oz)) : aM G yX5_rowsOfOneSort cX5_rowsOfOneSort 5 (some (.array (.array .long))) 2 30 1 (64 * 1) [.ref l0, .ref l1] hp sz ((some (va_rf o0), oh, oz) : oT) := by
  refine aM.of RX5 (by decide) rfl (Nat.le_of_ble_eq_true rfl) (fun K C => ?_)
  have hO : ((some (va_rf o0), oh, oz) : oT) = ((some (va_rf o0), oh, oz) : oT) := rfl
  refine r_lve (lv' := [(0, .ref l0), (1, .ref l1)]) rfl ?_
  unfold f_X5_rowsOfOneSort at h
  refine r_aload_n C 0 rfl dX5_rowsOfOneSort_0 rfl ?_
  replace h := bd_i h
  obtain ⟨w1, e2, h⟩ := h
  refine k_gR C e2 rfl inX5_ (by decide) flX5_10 dX5_rowsOfOneSort_1 ?_
  refine r_aload_n C 1 rfl dX5_rowsOfOneSort_4 rfl ?_
  refine r_iconst C (v := 0) dX5_rowsOfOneSort_5 (by decide) ?_
  replace h := bd_i h
  obtain ⟨w3, e4, h⟩ := h
  refine k_lI C e4 dX5_rowsOfOneSort_6 ?_
  replace h := gd_t h
  obtain ⟨ho5, h⟩ := h
  obtain ⟨_, ho5⟩ := isO_s ho5
  replace h := bd_i h
  obtain ⟨r7, q6, h⟩ := h
  refine q_callV C 0 1 (64 * 1) (k_X3_item q6) rfl ho5 rfl okX3_item inX3_item lkX5_66 rfl (Nat.le_of_ble_eq_true rfl) ⟨by decide, by decide⟩ dX5_rowsOfOneSort_7 (by omega) (by omega) ?_
  refine r_astore_nq C (lv' := [(2, va_rf r7), (0, .ref l0), (1, .ref l1)]) dX5_rowsOfOneSort_10 rfl (by decide) rfl ?_
  refine r_aload_nq C 0 rfl dX5_rowsOfOneSort_11 rfl ?_
  refine k_ifnull C (tgt := 33) dX5_rowsOfOneSort_12 (by decide) (fun hx => ?_) (fun a8 hx => ?_)
  · subst hx
    replace h := oe_n rfl h
    refine r_null C dX5_rowsOfOneSort_33 ?_
    cases h
    exact r_areturn C (Or.inr ⟨_, rfl⟩) (Eq.symm hO) dX5_rowsOfOneSort_34
  · subst hx
    replace h := oe_s rfl h
    refine r_aload_n C 0 rfl dX5_rowsOfOneSort_15 rfl ?_
    replace h := bd_i h
    obtain ⟨w9, e10, h⟩ := h
    refine k_gI C e10 rfl inX1_ (by decide) flX5_75 dX5_rowsOfOneSort_16 ?_
    refine r_if_eq C (tgt := 35) dX5_rowsOfOneSort_19 (by decide) (fun hc => ?_) (fun hc => ?_)
    · replace h := br_p hc h
      refine r_lv (lv' := [(0, .ref l0), (1, .ref l1), (2, .ref a8)]) [1, 2, 0] rfl ?_
      exact w_X5_rowsOfOneSort_J35 C  h hO
    · replace h := br_n hc h
      refine r_aload_n C 0 rfl dX5_rowsOfOneSort_22 rfl ?_
      replace h := bd_i h
      obtain ⟨w35, e36, h⟩ := h
      refine k_gI C e36 rfl inX1_ (by decide) flX5_75 dX5_rowsOfOneSort_23 ?_
      refine r_aload_n C 1 rfl dX5_rowsOfOneSort_26 rfl ?_
      replace h := bd_i h
      obtain ⟨w37, e38, h⟩ := h
      refine k_gI C e38 rfl inX5_ (by decide) flX5_109 dX5_rowsOfOneSort_27 ?_
      refine r_icmp_eq C (tgt := 35) dX5_rowsOfOneSort_30 (by decide) (fun hc => ?_) (fun hc => ?_)
      · replace h := br_p hc h
        refine r_lv (lv' := [(0, .ref l0), (1, .ref l1), (2, .ref a8)]) [1, 2, 0] rfl ?_
        exact w_X5_rowsOfOneSort_J35 C  h hO
      · replace h := br_n hc h
        refine r_null C dX5_rowsOfOneSort_33 ?_
        cases h
        exact r_areturn C (Or.inr ⟨_, rfl⟩) (Eq.symm hO) dX5_rowsOfOneSort_34
noncomputable def f_X2_rankOf_L8 (l1 : Nat) (l2 : Nat) (l3 : Int32) (hp : cH) (sz : Nat) (rc : Nat) : Option ((Int32 × cH × Nat × Nat) ⊕ (cH × Nat × Nat)) := (aN hp l1).bind fun w5 => if w5 ≤ l3 then (some (.inr (hp, sz, rc))) else ((lR 3 hp l1 l3).bind fun u7 => u7.bind fun a9 => if 1 ≤ rc then (nC hp sz a9).bind fun hp11 => (aJ hp11 sz).bind fun w13 => (sR 3 hp11 l2 l3 sz).bind fun hp15 => some (.inl (l3 + 1, hp15, (sz + 1), (rc - 1))) else none)
noncomputable def f_X2_rankOf (hp : cH) (sz : Nat) (l0 : Nat) (l1 : Nat) : Option (Int32 × cH × Nat) := (aN hp l1).bind fun w1 => (nR 3 hp sz w1).bind fun hp3 => (itX (fun s => f_X2_rankOf_L8 l1 sz s.1 s.2.1 s.2.2.1 s.2.2.2) ((0 : Int32), hp3, (sz + 1), 9)).bind fun (hp17, z18, rc19) => (aN hp17 l1).bind fun w21 => if w21 = 0 then (some ((0 : Int32), hp17, z18)) else ((lR 3 hp17 sz ((0 : Int32))).bind fun u23 => u23.bind fun a25 => (aN hp17 a25).bind fun w27 => if isO hp17 l0 2 = true then (f_X2_eliminate hp17 l0 sz w27).bind fun (r31, hp32) => some (r31, hp32, z18) else none)
set_option maxHeartbeats 4000000 in
set_option maxRecDepth 100000 in
theorem w_X2_rankOf_L8 {K : kT} {O : oT} (C : aC K cX2_rankOf RX2 "rankOf" 3 57 10 (64 * 10) 4 (some .int) O) {hp : cH} {sz rc : Nat} {l0 : Nat} {l1 : Nat} {l2 : Nat} {l3 : Int32} {eh : cH} {ez : Nat} {ec : Nat} (h : itX (fun s => f_X2_rankOf_L8 l1 l2 s.1 s.2.1 s.2.2.1 s.2.2.2) (l3, hp, sz, rc) = some (eh, ez, ec)) (hr : aW K eh ez ec (64 * ec) 32 [(0, .ref l0), (1, .ref l1), (2, .ref l2)] []) : aW K hp sz rc (64 * rc) 8 [(0, .ref l0), (1, .ref l1), (2, .ref l2), (3, .int l3)] [] := by
  refine it_walk (f := fun s => f_X2_rankOf_L8 l1 l2 s.1 s.2.1 s.2.2.1 s.2.2.2) (P := fun s => aW K s.2.1 s.2.2.1 s.2.2.2 (64 * s.2.2.2) 8 [(0, .ref l0), (1, .ref l1), (2, .ref l2), (3, .int s.1)] []) (R := fun r => aW K r.1 r.2.1 r.2.2 (64 * r.2.2) 32 [(0, .ref l0), (1, .ref l1), (2, .ref l2)] []) ?_ h hr
  clear h hr
  rintro ⟨l3, hp, sz, rc⟩ x h kl kr
  show aW K hp sz rc (64 * rc) 8 [(0, .ref l0), (1, .ref l1), (2, .ref l2), (3, .int l3)] []
  replace h : f_X2_rankOf_L8 l1 l2 l3 hp sz rc = some x := h
  unfold f_X2_rankOf_L8 at h
  refine r_iload_n C 3 rfl dX2_rankOf_8 rfl ?_
  refine r_aload_n C 1 rfl dX2_rankOf_9 rfl ?_
  replace h := bd_i h
  obtain ⟨w5, e6, h⟩ := h
  refine k_alen C e6 dX2_rankOf_10 ?_
  refine r_icmp_ge C (tgt := 32) dX2_rankOf_11 (by decide) (fun hc => ?_) (fun hc => ?_)
  · replace h := br_p hc h
    refine r_lv (lv' := [(0, .ref l0), (1, .ref l1), (2, .ref l2)]) [0, 1, 2] rfl ?_
    exact kr _ (sm_i h)
  · replace h := br_n hc h
    refine r_aload_n C 2 rfl dX2_rankOf_14 rfl ?_
    refine r_iload_n C 3 rfl dX2_rankOf_15 rfl ?_
    refine r_aload_n C 1 rfl dX2_rankOf_16 rfl ?_
    refine r_iload_n C 3 rfl dX2_rankOf_17 rfl ?_
    replace h := bd_i h
    obtain ⟨u7, e8, h⟩ := h
    refine k_lR C (by decide) e8 dX2_rankOf_18 ?_
    replace h := bd_i h
    obtain ⟨a9, e10, h⟩ := h
    subst e10
    replace h := gd_t h
    obtain ⟨hrc, h⟩ := h
    replace h := bd_i h
    obtain ⟨hp11, e12, h⟩ := h
    refine k_nC C (rc - 1) lkX2_21 e12 ⟨by decide, (Nat.le_of_ble_eq_true rfl)⟩ dX2_rankOf_19 (by omega) ?_
    replace h := bd_i h
    obtain ⟨w13, e14, h⟩ := h
    refine k_cast C cnX2_22 e14 dX2_rankOf_22 ?_
    replace h := bd_i h
    obtain ⟨hp15, e16, h⟩ := h
    refine k_sR C (by decide) e16 dX2_rankOf_25 ?_
    refine r_iinc C (v := l3 + 1) (lv' := [(3, .int (l3 + 1)), (0, .ref l0), (1, .ref l1), (2, .ref l2)]) 3 rfl dX2_rankOf_26 rfl (by decide) rfl ?_
    refine r_goto C (tgt := 8) dX2_rankOf_29 (by decide) ?_
    refine r_lv (lv' := [(0, .ref l0), (1, .ref l1), (2, .ref l2), (3, .int (l3 + 1))]) [1, 2, 3, 0] rfl ?_
    exact kl _ (sm_i h)
set_option maxHeartbeats 4000000 in
set_option maxRecDepth 100000 in
theorem k_X2_rankOf {G : gT} {hp : cH} {sz : Nat} {l0 : Nat} {l1 : Nat} {o0 : Int32} {oh : cH} {oz : Nat} (h : f_X2_rankOf hp sz l0 l1 = some (o0, oh, oz)) : aM G yX2_rankOf cX2_rankOf 4 (some .int) 3 57 10 (64 * 10) [.ref l0, .ref l1] hp sz ((some (.int o0), oh, oz) : oT) := by
  refine aM.of RX2 (by decide) rfl (Nat.le_of_ble_eq_true rfl) (fun K C => ?_)
  have hO : ((some (.int o0), oh, oz) : oT) = ((some (.int o0), oh, oz) : oT) := rfl
  refine r_lve (lv' := [(0, .ref l0), (1, .ref l1)]) rfl ?_
  unfold f_X2_rankOf at h
  refine r_aload_n C 1 rfl dX2_rankOf_0 rfl ?_
  replace h := bd_i h
  obtain ⟨w1, e2, h⟩ := h
  refine k_alen C e2 dX2_rankOf_1 ?_
  replace h := bd_i h
  obtain ⟨hp3, e4, h⟩ := h
  refine k_nR3 C 9 cnX2_22 e4 dX2_rankOf_2 (by omega) ?_
  refine r_astore_n C (lv' := [(2, .ref sz), (0, .ref l0), (1, .ref l1)]) dX2_rankOf_5 rfl (by decide) rfl ?_
  refine r_iconst C (v := 0) dX2_rankOf_6 (by decide) ?_
  refine r_istore_n C (lv' := [(3, .int ((0 : Int32))), (2, .ref sz), (0, .ref l0), (1, .ref l1)]) dX2_rankOf_7 rfl (by decide) rfl ?_
  refine r_lv (lv' := [(0, .ref l0), (1, .ref l1), (2, .ref sz), (3, .int ((0 : Int32)))]) [2, 3, 1, 0] rfl ?_
  replace h := bd_i h
  obtain ⟨⟨hp17, z18, rc19⟩, q20, h⟩ := h
  refine w_X2_rankOf_L8 C  q20 ?_
  refine r_aload_n C 1 rfl dX2_rankOf_32 rfl ?_
  replace h := bd_i h
  obtain ⟨w21, e22, h⟩ := h
  refine k_alen C e22 dX2_rankOf_33 ?_
  refine r_if_ne C (tgt := 41) dX2_rankOf_34 (by decide) (fun hc => ?_) (fun hc => ?_)
  · replace h := br_n hc h
    refine r_aload_n C 0 rfl dX2_rankOf_41 rfl ?_
    refine r_aload_n C 2 rfl dX2_rankOf_42 rfl ?_
    refine r_aload_n C 2 rfl dX2_rankOf_43 rfl ?_
    refine r_iconst C (v := 0) dX2_rankOf_44 (by decide) ?_
    replace h := bd_i h
    obtain ⟨u23, e24, h⟩ := h
    refine k_lR C (by decide) e24 dX2_rankOf_45 ?_
    replace h := bd_i h
    obtain ⟨a25, e26, h⟩ := h
    subst e26
    replace h := bd_i h
    obtain ⟨w27, e28, h⟩ := h
    refine k_alen C e28 dX2_rankOf_46 ?_
    replace h := gd_t h
    obtain ⟨ho29, h⟩ := h
    obtain ⟨_, ho29⟩ := isO_s ho29
    replace h := bd_i h
    obtain ⟨⟨r31, hp32⟩, q30, h⟩ := h
    refine q_callV C 0 rc19 (64 * rc19) (k_X2_eliminate q30) rfl ho29 rfl okX2_eliminate inX2_eliminate lkX2_63 rfl (Nat.le_of_ble_eq_true rfl) ⟨by decide, by decide⟩ dX2_rankOf_47 (by omega) (by omega) ?_
    cases h
    exact r_ireturn C (Eq.symm hO) dX2_rankOf_50
  · replace h := br_p hc h
    refine r_iconst C (v := 0) dX2_rankOf_37 (by decide) ?_
    refine r_goto C (tgt := 50) dX2_rankOf_38 (by decide) ?_
    cases h
    exact r_ireturn C (Eq.symm hO) dX2_rankOf_50
noncomputable def f_X4_placeOfBrackets_L2 (l0 : Nat) (l1 : Nat) (l2 : Int32) (hp : cH) (sz : Nat) (rc : Nat) : Option ((Int32 × cH × Nat × Nat) ⊕ ((cH × Nat × Nat) ⊕ (Int32 × cH × Nat))) := (aN hp l1).bind fun w1 => if w1 ≤ l2 then (some (.inr (.inl (hp, sz, rc)))) else ((lR 3 hp l1 ((0 : Int32))).bind fun u3 => (lR 3 hp l1 l2).bind fun u5 => u3.bind fun a7 => u5.bind fun a9 => if isO hp l0 4 = true then if 1 ≤ rc then (f_X4_wedge hp sz l0 a7 a9).bind fun (r13, hp14, z15) => (f_X2_isZero hp14 r13).bind fun r17 => if r17 = 0 then ((f_X2_lead hp14 r13).bind fun r19 => some (.inr (.inr (r19, hp14, z15)))) else (some (.inl (l2 + 1, hp14, z15, (rc - 1)))) else none else none)
noncomputable def f_X4_placeOfBrackets (hp : cH) (sz : Nat) (l0 : Nat) (l1 : Nat) : Option (Int32 × cH × Nat) := (itX (fun s => f_X4_placeOfBrackets_L2 l0 l1 s.1 s.2.1 s.2.2.1 s.2.2.2) ((1 : Int32), hp, sz, 3)).bind fun r24 => match r24 with | .inl (hp20, z21, rc22) => (some ((0 : Int32), hp20, z21)) | .inr o25 => some o25
set_option maxHeartbeats 4000000 in
set_option maxRecDepth 100000 in
theorem w_X4_placeOfBrackets_L2 {K : kT} {O : oT} (C : aC K cX4_placeOfBrackets RX4 "placeOfBrackets" 2 39 3 (64 * 3) 4 (some .int) O) {hp : cH} {sz rc : Nat} {l0 : Nat} {l1 : Nat} {l2 : Int32} {r : ((cH × Nat × Nat) ⊕ (Int32 × cH × Nat))} (h : itX (fun s => f_X4_placeOfBrackets_L2 l0 l1 s.1 s.2.1 s.2.2.1 s.2.2.2) (l2, hp, sz, rc) = some r) (hr : Sum.elim (fun r => aW K r.1 r.2.1 r.2.2 (64 * r.2.2) 37 [] []) (fun o => ((some (.int o.1), o.2.1, o.2.2) : oT) = O) r) : aW K hp sz rc (64 * rc) 2 [(0, .ref l0), (1, .ref l1), (2, .int l2)] [] := by
  refine it_walk (f := fun s => f_X4_placeOfBrackets_L2 l0 l1 s.1 s.2.1 s.2.2.1 s.2.2.2) (P := fun s => aW K s.2.1 s.2.2.1 s.2.2.2 (64 * s.2.2.2) 2 [(0, .ref l0), (1, .ref l1), (2, .int s.1)] []) (R := fun r => Sum.elim (fun r => aW K r.1 r.2.1 r.2.2 (64 * r.2.2) 37 [] []) (fun o => ((some (.int o.1), o.2.1, o.2.2) : oT) = O) r) ?_ h hr
  clear h hr
  rintro ⟨l2, hp, sz, rc⟩ x h kl kr
  show aW K hp sz rc (64 * rc) 2 [(0, .ref l0), (1, .ref l1), (2, .int l2)] []
  replace h : f_X4_placeOfBrackets_L2 l0 l1 l2 hp sz rc = some x := h
  unfold f_X4_placeOfBrackets_L2 at h
  refine r_iload_n C 2 rfl dX4_placeOfBrackets_2 rfl ?_
  refine r_aload_n C 1 rfl dX4_placeOfBrackets_3 rfl ?_
  replace h := bd_i h
  obtain ⟨w1, e2, h⟩ := h
  refine k_alen C e2 dX4_placeOfBrackets_4 ?_
  refine r_icmp_ge C (tgt := 37) dX4_placeOfBrackets_5 (by decide) (fun hc => ?_) (fun hc => ?_)
  · replace h := br_p hc h
    refine r_lv (lv' := []) [] rfl ?_
    exact kr _ (sm_i h)
  · replace h := br_n hc h
    refine r_aload_n C 0 rfl dX4_placeOfBrackets_8 rfl ?_
    refine r_aload_n C 1 rfl dX4_placeOfBrackets_9 rfl ?_
    refine r_iconst C (v := 0) dX4_placeOfBrackets_10 (by decide) ?_
    replace h := bd_i h
    obtain ⟨u3, e4, h⟩ := h
    refine k_lR C (by decide) e4 dX4_placeOfBrackets_11 ?_
    refine r_aload_n C 1 rfl dX4_placeOfBrackets_12 rfl ?_
    refine r_iload_n C 2 rfl dX4_placeOfBrackets_13 rfl ?_
    replace h := bd_i h
    obtain ⟨u5, e6, h⟩ := h
    refine k_lR C (by decide) e6 dX4_placeOfBrackets_14 ?_
    replace h := bd_i h
    obtain ⟨a7, e8, h⟩ := h
    subst e8
    replace h := bd_i h
    obtain ⟨a9, e10, h⟩ := h
    subst e10
    replace h := gd_t h
    obtain ⟨ho11, h⟩ := h
    obtain ⟨_, ho11⟩ := isO_s ho11
    replace h := gd_t h
    obtain ⟨hrc, h⟩ := h
    replace h := bd_i h
    obtain ⟨⟨r13, hp14, z15⟩, q12, h⟩ := h
    refine q_callV C 0 (rc - 1) (64 * (rc - 1)) (k_X4_wedge q12) rfl ho11 rfl okX4_wedge inX4_wedge lkX4_40 rfl (Nat.le_of_ble_eq_true rfl) ⟨by decide, by decide⟩ dX4_placeOfBrackets_15 (by omega) (by omega) ?_
    refine r_astore_n C (lv' := [(3, .ref r13), (0, .ref l0), (1, .ref l1), (2, .int l2)]) dX4_placeOfBrackets_18 rfl (by decide) rfl ?_
    refine r_aload_n C 0 rfl dX4_placeOfBrackets_19 rfl ?_
    replace h := bd_i h
    obtain ⟨r17, q16, h⟩ := h
    refine q_callS C 0 (rc - 1) (64 * (rc - 1)) (k_X2_isZero q16) rfl okX2_isZero inX2_isZero lkX4_69 rfl (Nat.le_of_ble_eq_true rfl) ⟨by decide, by decide⟩ dX4_placeOfBrackets_20 (by omega) (by omega) ?_
    refine r_if_ne C (tgt := 31) dX4_placeOfBrackets_23 (by decide) (fun hc => ?_) (fun hc => ?_)
    · replace h := br_n hc h
      refine r_iinc C (v := l2 + 1) (lv' := [(2, .int (l2 + 1)), (3, .ref r13), (0, .ref l0), (1, .ref l1)]) 3 rfl dX4_placeOfBrackets_31 rfl (by decide) rfl ?_
      refine r_goto C (tgt := 2) dX4_placeOfBrackets_34 (by decide) ?_
      refine r_lv (lv' := [(0, .ref l0), (1, .ref l1), (2, .int (l2 + 1))]) [2, 3, 0] rfl ?_
      exact kl _ (sm_i h)
    · replace h := br_p hc h
      refine r_aload_n C 0 rfl dX4_placeOfBrackets_26 rfl ?_
      replace h := bd_i h
      obtain ⟨r19, q18, h⟩ := h
      refine q_callS C 0 (rc - 1) (64 * (rc - 1)) (k_X2_lead q18) rfl okX2_lead inX2_lead lkX4_115 rfl (Nat.le_of_ble_eq_true rfl) ⟨by decide, by decide⟩ dX4_placeOfBrackets_27 (by omega) (by omega) ?_
      exact r_ireturn C (Eq.symm (kr _ (sm_i h))) dX4_placeOfBrackets_30
set_option maxHeartbeats 4000000 in
set_option maxRecDepth 100000 in
theorem k_X4_placeOfBrackets {G : gT} {hp : cH} {sz : Nat} {l0 : Nat} {l1 : Nat} {o0 : Int32} {oh : cH} {oz : Nat} (h : f_X4_placeOfBrackets hp sz l0 l1 = some (o0, oh, oz)) : aM G yX4_placeOfBrackets cX4_placeOfBrackets 4 (some .int) 2 39 3 (64 * 3) [.ref l0, .ref l1] hp sz ((some (.int o0), oh, oz) : oT) := by
  refine aM.of RX4 (by decide) rfl (Nat.le_of_ble_eq_true rfl) (fun K C => ?_)
  have hO : ((some (.int o0), oh, oz) : oT) = ((some (.int o0), oh, oz) : oT) := rfl
  refine r_lve (lv' := [(0, .ref l0), (1, .ref l1)]) rfl ?_
  unfold f_X4_placeOfBrackets at h
  refine r_iconst C (v := 1) dX4_placeOfBrackets_0 (by decide) ?_
  refine r_istore_n C (lv' := [(2, .int ((1 : Int32))), (0, .ref l0), (1, .ref l1)]) dX4_placeOfBrackets_1 rfl (by decide) rfl ?_
  refine r_lv (lv' := [(0, .ref l0), (1, .ref l1), (2, .int ((1 : Int32)))]) [1, 2, 0] rfl ?_
  replace h := bd_i h
  obtain ⟨r24, q23, h⟩ := h
  rcases r24 with ⟨hp20, z21, rc22⟩ | o25
  · refine w_X4_placeOfBrackets_L2 C  q23 ?_
    show aW K hp20 z21 rc22 (64 * rc22) 37 [] []
    refine r_iconst C (v := 0) dX4_placeOfBrackets_37 (by decide) ?_
    cases h
    exact r_ireturn C (Eq.symm hO) dX4_placeOfBrackets_38
  · cases h
    exact w_X4_placeOfBrackets_L2 C  q23 hO
noncomputable def f_X4_bracket (hp : cH) (sz : Nat) (l0 : Nat) (l1 : Nat) (l2 : Nat) (l3 : Int32) : Option (Int64 × cH × Nat) := if isO hp l0 4 = true then (f_X4_wedge hp sz l0 l1 l2).bind fun (r3, hp4, z5) => (lJ hp4 r3 l3).bind fun w6 => some (w6, hp4, z5) else none
set_option maxHeartbeats 4000000 in
set_option maxRecDepth 100000 in
theorem k_X4_bracket {G : gT} {hp : cH} {sz : Nat} {l0 : Nat} {l1 : Nat} {l2 : Nat} {l3 : Int32} {o0 : Int64} {oh : cH} {oz : Nat} (h : f_X4_bracket hp sz l0 l1 l2 l3 = some (o0, oh, oz)) : aM G yX4_bracket cX4_bracket 4 (some .long) 2 39 1 (64 * 1) [.ref l0, .ref l1, .ref l2, .int l3] hp sz ((some (.long o0), oh, oz) : oT) := by
  refine aM.of RX4 (by decide) rfl (Nat.le_of_ble_eq_true rfl) (fun K C => ?_)
  have hO : ((some (.long o0), oh, oz) : oT) = ((some (.long o0), oh, oz) : oT) := rfl
  refine r_lve (lv' := [(0, .ref l0), (1, .ref l1), (2, .ref l2), (3, .int l3)]) rfl ?_
  unfold f_X4_bracket at h
  refine r_aload_n C 0 rfl dX4_bracket_0 rfl ?_
  refine r_aload_n C 1 rfl dX4_bracket_1 rfl ?_
  refine r_aload_n C 2 rfl dX4_bracket_2 rfl ?_
  replace h := gd_t h
  obtain ⟨ho1, h⟩ := h
  obtain ⟨_, ho1⟩ := isO_s ho1
  replace h := bd_i h
  obtain ⟨⟨r3, hp4, z5⟩, q2, h⟩ := h
  refine q_callV C 0 0 (64 * 0) (k_X4_wedge q2) rfl ho1 rfl okX4_wedge inX4_wedge lkX4_40 rfl (Nat.le_of_ble_eq_true rfl) ⟨by decide, by decide⟩ dX4_bracket_3 (by omega) (by omega) ?_
  refine r_iload_n C 3 rfl dX4_bracket_6 rfl ?_
  replace h := bd_i h
  obtain ⟨w6, e7, h⟩ := h
  refine k_lJ C e7 dX4_bracket_7 ?_
  cases h
  exact r_lreturn C (Eq.symm hO) dX4_bracket_8
noncomputable def f_X4_crossRatio (hp : cH) (sz : Nat) (l0 : Nat) (l1 : Nat) : Option (Int64 × cH × Nat) := if isO hp l0 4 = true then (f_X4_placeOfBrackets hp sz l0 l1).bind fun (r3, hp4, z5) => (gR hp4 l0 4 1).bind fun w6 => (lR 3 hp4 l1 ((0 : Int32))).bind fun u8 => (lR 3 hp4 l1 ((2 : Int32))).bind fun u10 => u8.bind fun a12 => u10.bind fun a14 => if isO hp4 l0 4 = true then (f_X4_bracket hp4 z5 l0 a12 a14 r3).bind fun (r18, hp19, z20) => (lR 3 hp19 l1 ((1 : Int32))).bind fun u21 => (lR 3 hp19 l1 ((3 : Int32))).bind fun u23 => u21.bind fun a25 => u23.bind fun a27 => if isO hp19 l0 4 = true then (f_X4_bracket hp19 z20 l0 a25 a27 r3).bind fun (r31, hp32, z33) => if isO hp32 w6 0 = true then (f_X0_times hp32 w6 r18 r31).bind fun r36 => (gR hp32 l0 4 1).bind fun w37 => (lR 3 hp32 l1 ((1 : Int32))).bind fun u39 => (lR 3 hp32 l1 ((2 : Int32))).bind fun u41 => u39.bind fun a43 => u41.bind fun a45 => if isO hp32 l0 4 = true then (f_X4_bracket hp32 z33 l0 a43 a45 r3).bind fun (r49, hp50, z51) => (lR 3 hp50 l1 ((0 : Int32))).bind fun u52 => (lR 3 hp50 l1 ((3 : Int32))).bind fun u54 => u52.bind fun a56 => u54.bind fun a58 => if isO hp50 l0 4 = true then (f_X4_bracket hp50 z51 l0 a56 a58 r3).bind fun (r62, hp63, z64) => if isO hp63 w37 0 = true then (f_X0_times hp63 w37 r49 r62).bind fun r67 => if r67 = ((0 : Int64)) then (if r36 = ((0 : Int64)) then (some ((-1 : Int64), hp63, z64)) else ((gR hp63 l0 4 1).bind fun w78 => (gJ hp63 w78 0 0).bind fun w80 => some (w80, hp63, z64))) else ((gR hp63 l0 4 1).bind fun w68 => (gR hp63 l0 4 1).bind fun w70 => if isO hp63 w70 0 = true then (f_X0_reciprocal hp63 w70 r67).bind fun r74 => if isO hp63 w68 0 = true then (f_X0_times hp63 w68 r36 r74).bind fun r77 => some (r77, hp63, z64) else none else none) else none else none else none else none else none else none else none
set_option maxHeartbeats 4000000 in
set_option maxRecDepth 100000 in
theorem k_X4_crossRatio {G : gT} {hp : cH} {sz : Nat} {l0 : Nat} {l1 : Nat} {o0 : Int64} {oh : cH} {oz : Nat} (h : f_X4_crossRatio hp sz l0 l1 = some (o0, oh, oz)) : aM G yX4_crossRatio cX4_crossRatio 7 (some .long) 3 57 7 (64 * 7) [.ref l0, .ref l1] hp sz ((some (.long o0), oh, oz) : oT) := by
  refine aM.of RX4 (by decide) rfl (Nat.le_of_ble_eq_true rfl) (fun K C => ?_)
  have hO : ((some (.long o0), oh, oz) : oT) = ((some (.long o0), oh, oz) : oT) := rfl
  refine r_lve (lv' := [(0, .ref l0), (1, .ref l1)]) rfl ?_
  unfold f_X4_crossRatio at h
  refine r_aload_n C 0 rfl dX4_crossRatio_0 rfl ?_
  refine r_aload_n C 1 rfl dX4_crossRatio_1 rfl ?_
  replace h := gd_t h
  obtain ⟨ho1, h⟩ := h
  obtain ⟨_, ho1⟩ := isO_s ho1
  replace h := bd_i h
  obtain ⟨⟨r3, hp4, z5⟩, q2, h⟩ := h
  refine q_callV C 0 4 (64 * 4) (k_X4_placeOfBrackets q2) rfl ho1 rfl okX4_placeOfBrackets inX4_placeOfBrackets lkX4_97 rfl (Nat.le_of_ble_eq_true rfl) ⟨by decide, by decide⟩ dX4_crossRatio_2 (by omega) (by omega) ?_
  refine r_istore_n C (lv' := [(2, .int r3), (0, .ref l0), (1, .ref l1)]) dX4_crossRatio_5 rfl (by decide) rfl ?_
  refine r_aload_n C 1 rfl dX4_crossRatio_6 rfl ?_
  replace h := bd_i h
  obtain ⟨w6, e7, h⟩ := h
  refine k_gR C e7 rfl inX4_ (by decide) flX4_21 dX4_crossRatio_7 ?_
  refine r_aload_n C 1 rfl dX4_crossRatio_10 rfl ?_
  refine r_aload_n C 2 rfl dX4_crossRatio_11 rfl ?_
  refine r_iconst C (v := 0) dX4_crossRatio_12 (by decide) ?_
  replace h := bd_i h
  obtain ⟨u8, e9, h⟩ := h
  refine k_lR C (by decide) e9 dX4_crossRatio_13 ?_
  refine r_aload_n C 2 rfl dX4_crossRatio_14 rfl ?_
  refine r_iconst C (v := 2) dX4_crossRatio_15 (by decide) ?_
  replace h := bd_i h
  obtain ⟨u10, e11, h⟩ := h
  refine k_lR C (by decide) e11 dX4_crossRatio_16 ?_
  refine r_iload_n C 0 rfl dX4_crossRatio_17 rfl ?_
  replace h := bd_i h
  obtain ⟨a12, e13, h⟩ := h
  subst e13
  replace h := bd_i h
  obtain ⟨a14, e15, h⟩ := h
  subst e15
  replace h := gd_t h
  obtain ⟨ho16, h⟩ := h
  obtain ⟨_, ho16⟩ := isO_s ho16
  replace h := bd_i h
  obtain ⟨⟨r18, hp19, z20⟩, q17, h⟩ := h
  refine q_callV C 1 3 (64 * 3) (k_X4_bracket q17) rfl ho16 rfl okX4_bracket inX4_bracket lkX4_101 rfl (Nat.le_of_ble_eq_true rfl) ⟨by decide, by decide⟩ dX4_crossRatio_18 (by omega) (by omega) ?_
  refine r_aload_n C 1 rfl dX4_crossRatio_21 rfl ?_
  refine r_aload_n C 2 rfl dX4_crossRatio_22 rfl ?_
  refine r_iconst C (v := 1) dX4_crossRatio_23 (by decide) ?_
  replace h := bd_i h
  obtain ⟨u21, e22, h⟩ := h
  refine k_lR C (by decide) e22 dX4_crossRatio_24 ?_
  refine r_aload_n C 2 rfl dX4_crossRatio_25 rfl ?_
  refine r_iconst C (v := 3) dX4_crossRatio_26 (by decide) ?_
  replace h := bd_i h
  obtain ⟨u23, e24, h⟩ := h
  refine k_lR C (by decide) e24 dX4_crossRatio_27 ?_
  refine r_iload_n C 0 rfl dX4_crossRatio_28 rfl ?_
  replace h := bd_i h
  obtain ⟨a25, e26, h⟩ := h
  subst e26
  replace h := bd_i h
  obtain ⟨a27, e28, h⟩ := h
  subst e28
  replace h := gd_t h
  obtain ⟨ho29, h⟩ := h
  obtain ⟨_, ho29⟩ := isO_s ho29
  replace h := bd_i h
  obtain ⟨⟨r31, hp32, z33⟩, q30, h⟩ := h
  refine q_callV C 3 2 (64 * 2) (k_X4_bracket q30) rfl ho29 rfl okX4_bracket inX4_bracket lkX4_101 rfl (Nat.le_of_ble_eq_true rfl) ⟨by decide, by decide⟩ dX4_crossRatio_29 (by omega) (by omega) ?_
  replace h := gd_t h
  obtain ⟨ho34, h⟩ := h
  obtain ⟨_, ho34⟩ := isO_s ho34
  replace h := bd_i h
  obtain ⟨r36, q35, h⟩ := h
  refine q_callV C 0 2 (64 * 2) (k_X0_times q35) rfl ho34 rfl okX0_times inX0_times lkX4_27 rfl (Nat.le_of_ble_eq_true rfl) ⟨by decide, by decide⟩ dX4_crossRatio_32 (by omega) (by omega) ?_
  refine r_lstore_n C (lv' := [(3, .long r36), (2, .int r3), (0, .ref l0), (1, .ref l1)]) dX4_crossRatio_35 rfl (by decide) rfl ?_
  refine r_aload_n C 2 rfl dX4_crossRatio_36 rfl ?_
  replace h := bd_i h
  obtain ⟨w37, e38, h⟩ := h
  refine k_gR C e38 rfl inX4_ (by decide) flX4_21 dX4_crossRatio_37 ?_
  refine r_aload_n C 2 rfl dX4_crossRatio_40 rfl ?_
  refine r_aload_n C 3 rfl dX4_crossRatio_41 rfl ?_
  refine r_iconst C (v := 1) dX4_crossRatio_42 (by decide) ?_
  replace h := bd_i h
  obtain ⟨u39, e40, h⟩ := h
  refine k_lR C (by decide) e40 dX4_crossRatio_43 ?_
  refine r_aload_n C 3 rfl dX4_crossRatio_44 rfl ?_
  refine r_iconst C (v := 2) dX4_crossRatio_45 (by decide) ?_
  replace h := bd_i h
  obtain ⟨u41, e42, h⟩ := h
  refine k_lR C (by decide) e42 dX4_crossRatio_46 ?_
  refine r_iload_n C 1 rfl dX4_crossRatio_47 rfl ?_
  replace h := bd_i h
  obtain ⟨a43, e44, h⟩ := h
  subst e44
  replace h := bd_i h
  obtain ⟨a45, e46, h⟩ := h
  subst e46
  replace h := gd_t h
  obtain ⟨ho47, h⟩ := h
  obtain ⟨_, ho47⟩ := isO_s ho47
  replace h := bd_i h
  obtain ⟨⟨r49, hp50, z51⟩, q48, h⟩ := h
  refine q_callV C 1 1 (64 * 1) (k_X4_bracket q48) rfl ho47 rfl okX4_bracket inX4_bracket lkX4_101 rfl (Nat.le_of_ble_eq_true rfl) ⟨by decide, by decide⟩ dX4_crossRatio_48 (by omega) (by omega) ?_
  refine r_aload_n C 2 rfl dX4_crossRatio_51 rfl ?_
  refine r_aload_n C 3 rfl dX4_crossRatio_52 rfl ?_
  refine r_iconst C (v := 0) dX4_crossRatio_53 (by decide) ?_
  replace h := bd_i h
  obtain ⟨u52, e53, h⟩ := h
  refine k_lR C (by decide) e53 dX4_crossRatio_54 ?_
  refine r_aload_n C 3 rfl dX4_crossRatio_55 rfl ?_
  refine r_iconst C (v := 3) dX4_crossRatio_56 (by decide) ?_
  replace h := bd_i h
  obtain ⟨u54, e55, h⟩ := h
  refine k_lR C (by decide) e55 dX4_crossRatio_57 ?_
  refine r_iload_n C 1 rfl dX4_crossRatio_58 rfl ?_
  replace h := bd_i h
  obtain ⟨a56, e57, h⟩ := h
  subst e57
  replace h := bd_i h
  obtain ⟨a58, e59, h⟩ := h
  subst e59
  replace h := gd_t h
  obtain ⟨ho60, h⟩ := h
  obtain ⟨_, ho60⟩ := isO_s ho60
  replace h := bd_i h
  obtain ⟨⟨r62, hp63, z64⟩, q61, h⟩ := h
  refine q_callV C 3 0 (64 * 0) (k_X4_bracket q61) rfl ho60 rfl okX4_bracket inX4_bracket lkX4_101 rfl (Nat.le_of_ble_eq_true rfl) ⟨by decide, by decide⟩ dX4_crossRatio_59 (by omega) (by omega) ?_
  replace h := gd_t h
  obtain ⟨ho65, h⟩ := h
  obtain ⟨_, ho65⟩ := isO_s ho65
  replace h := bd_i h
  obtain ⟨r67, q66, h⟩ := h
  refine q_callV C 0 0 (64 * 0) (k_X0_times q66) rfl ho65 rfl okX0_times inX0_times lkX4_27 rfl (Nat.le_of_ble_eq_true rfl) ⟨by decide, by decide⟩ dX4_crossRatio_62 (by omega) (by omega) ?_
  refine r_lstore C (lv' := [(5, .long r67), (3, .long r36), (2, .int r3), (0, .ref l0), (1, .ref l1)]) dX4_crossRatio_65 (by decide) rfl ?_
  refine r_lload C 0 rfl dX4_crossRatio_67 ?_
  refine r_lconst C (v := 0) dX4_crossRatio_69 (by decide) ?_
  refine r_lne C (tgt := 94) dX4_crossRatio_70 dX4_crossRatio_71 (by decide) (fun hc => ?_) (fun hc => ?_)
  · replace h := br_n hc h
    refine r_aload_n C 3 rfl dX4_crossRatio_94 rfl ?_
    replace h := bd_i h
    obtain ⟨w68, e69, h⟩ := h
    refine k_gR C e69 rfl inX4_ (by decide) flX4_21 dX4_crossRatio_95 ?_
    refine r_lload_n C 1 rfl dX4_crossRatio_98 rfl ?_
    refine r_aload_n C 3 rfl dX4_crossRatio_99 rfl ?_
    replace h := bd_i h
    obtain ⟨w70, e71, h⟩ := h
    refine k_gR C e71 rfl inX4_ (by decide) flX4_21 dX4_crossRatio_100 ?_
    refine r_lload C 0 rfl dX4_crossRatio_103 ?_
    replace h := gd_t h
    obtain ⟨ho72, h⟩ := h
    obtain ⟨_, ho72⟩ := isO_s ho72
    replace h := bd_i h
    obtain ⟨r74, q73, h⟩ := h
    refine q_callV C 3 0 (64 * 0) (k_X0_reciprocal q73) rfl ho72 rfl okX0_reciprocal inX0_reciprocal lkX4_83 rfl (Nat.le_of_ble_eq_true rfl) ⟨by decide, by decide⟩ dX4_crossRatio_105 (by omega) (by omega) ?_
    replace h := gd_t h
    obtain ⟨ho75, h⟩ := h
    obtain ⟨_, ho75⟩ := isO_s ho75
    replace h := bd_i h
    obtain ⟨r77, q76, h⟩ := h
    refine q_callV C 0 0 (64 * 0) (k_X0_times q76) rfl ho75 rfl okX0_times inX0_times lkX4_27 rfl (Nat.le_of_ble_eq_true rfl) ⟨by decide, by decide⟩ dX4_crossRatio_108 (by omega) (by omega) ?_
    cases h
    exact r_lreturn C (Eq.symm hO) dX4_crossRatio_111
  · replace h := br_p hc h
    refine r_lload_n C 1 rfl dX4_crossRatio_74 rfl ?_
    refine r_lconst C (v := 0) dX4_crossRatio_75 (by decide) ?_
    refine r_lne C (tgt := 86) dX4_crossRatio_76 dX4_crossRatio_77 (by decide) (fun hc => ?_) (fun hc => ?_)
    · replace h := br_n hc h
      refine r_aload_n C 3 rfl dX4_crossRatio_86 rfl ?_
      replace h := bd_i h
      obtain ⟨w78, e79, h⟩ := h
      refine k_gR C e79 rfl inX4_ (by decide) flX4_21 dX4_crossRatio_87 ?_
      replace h := bd_i h
      obtain ⟨w80, e81, h⟩ := h
      refine k_gJ C e81 rfl inX0_ (by decide) flX4_107 dX4_crossRatio_90 ?_
      cases h
      exact r_lreturn C (Eq.symm hO) dX4_crossRatio_93
    · replace h := br_p hc h
      refine r_ldc2 C (v := -1) clX4_105 dX4_crossRatio_80 ?_
      refine r_goto C (tgt := 93) dX4_crossRatio_83 (by decide) ?_
      cases h
      exact r_lreturn C (Eq.symm hO) dX4_crossRatio_93
noncomputable def f_X5_cross (hp : cH) (sz : Nat) (l0 : Nat) (l1 : Int32) (l2 : Int32) (l3 : Int32) (l4 : Int32) : Option (Int64 × cH × Nat) := (nI_ hp sz ((4 : Int32))).bind fun hp1 => (sI hp1 sz ((0 : Int32)) l1).bind fun hp3 => (sI hp3 sz ((1 : Int32)) l2).bind fun hp5 => (sI hp5 sz ((2 : Int32)) l3).bind fun hp7 => (sI hp7 sz ((3 : Int32)) l4).bind fun hp9 => if isO hp9 l0 5 = true then (f_X5_rowsOfOneSort hp9 ((sz + 1)) l0 sz).bind fun (r13, hp14, z15) => Option.elim r13 (some ((-2 : Int64), hp14, z15)) (fun a16 => (gR hp14 l0 5 8).bind fun w17 => if isO hp14 w17 2 = true then (f_X2_rankOf hp14 z15 w17 a16).bind fun (r21, hp22, z23) => if r21 = ((2 : Int32)) then ((gR hp22 l0 5 9).bind fun w24 => if isO hp22 w24 4 = true then (f_X4_crossRatio hp22 z23 w24 a16).bind fun (r28, hp29, z30) => some (r28, hp29, z30) else none) else (some ((-1 : Int64), hp22, z23)) else none) else none
set_option maxHeartbeats 4000000 in
set_option maxRecDepth 100000 in
theorem k_X5_cross {G : gT} {hp : cH} {sz : Nat} {l0 : Nat} {l1 : Int32} {l2 : Int32} {l3 : Int32} {l4 : Int32} {o0 : Int64} {oh : cH} {oz : Nat} (h : f_X5_cross hp sz l0 l1 l2 l3 l4 = some (o0, oh, oz)) : aM G yX5_cross cX5_cross 6 (some .long) 4 75 19 (64 * 19) [.ref l0, .int l1, .int l2, .int l3, .int l4] hp sz ((some (.long o0), oh, oz) : oT) := by
  refine aM.of RX5 (by decide) rfl (Nat.le_of_ble_eq_true rfl) (fun K C => ?_)
  have hO : ((some (.long o0), oh, oz) : oT) = ((some (.long o0), oh, oz) : oT) := rfl
  refine r_lve (lv' := [(0, .ref l0), (1, .int l1), (2, .int l2), (3, .int l3), (4, .int l4)]) rfl ?_
  unfold f_X5_cross at h
  refine r_aload_n C 0 rfl dX5_cross_0 rfl ?_
  refine r_iconst C (v := 4) dX5_cross_1 (by decide) ?_
  replace h := bd_i h
  obtain ⟨hp1, e2, h⟩ := h
  refine k_nI C 18 e2 dX5_cross_2 (by omega) ?_
  refine r_dup C dX5_cross_4 rfl ?_
  refine r_iconst C (v := 0) dX5_cross_5 (by decide) ?_
  refine r_iload_n C 1 rfl dX5_cross_6 rfl ?_
  replace h := bd_i h
  obtain ⟨hp3, e4, h⟩ := h
  refine k_sI C e4 dX5_cross_7 ?_
  refine r_dup C dX5_cross_8 rfl ?_
  refine r_iconst C (v := 1) dX5_cross_9 (by decide) ?_
  refine r_iload_n C 2 rfl dX5_cross_10 rfl ?_
  replace h := bd_i h
  obtain ⟨hp5, e6, h⟩ := h
  refine k_sI C e6 dX5_cross_11 ?_
  refine r_dup C dX5_cross_12 rfl ?_
  refine r_iconst C (v := 2) dX5_cross_13 (by decide) ?_
  refine r_iload_n C 3 rfl dX5_cross_14 rfl ?_
  replace h := bd_i h
  obtain ⟨hp7, e8, h⟩ := h
  refine k_sI C e8 dX5_cross_15 ?_
  refine r_dup C dX5_cross_16 rfl ?_
  refine r_iconst C (v := 3) dX5_cross_17 (by decide) ?_
  refine r_iload C 4 rfl dX5_cross_18 ?_
  replace h := bd_i h
  obtain ⟨hp9, e10, h⟩ := h
  refine k_sI C e10 dX5_cross_20 ?_
  replace h := gd_t h
  obtain ⟨ho11, h⟩ := h
  obtain ⟨_, ho11⟩ := isO_s ho11
  replace h := bd_i h
  obtain ⟨⟨r13, hp14, z15⟩, q12, h⟩ := h
  refine q_callV C 0 17 (64 * 17) (k_X5_rowsOfOneSort q12) rfl ho11 rfl okX5_rowsOfOneSort inX5_rowsOfOneSort lkX5_136 rfl (Nat.le_of_ble_eq_true rfl) ⟨by decide, by decide⟩ dX5_cross_21 (by omega) (by omega) ?_
  refine r_astoreq C (lv' := [(5, va_rf r13), (0, .ref l0), (1, .int l1), (2, .int l2), (3, .int l3), (4, .int l4)]) dX5_cross_24 (by decide) rfl ?_
  refine r_aloadq C 0 rfl dX5_cross_26 ?_
  refine k_ifnonnull C (tgt := 35) dX5_cross_28 (by decide) (fun a16 hx => ?_) (fun hx => ?_)
  · subst hx
    replace h := oe_s rfl h
    refine r_aload_n C 1 rfl dX5_cross_35 rfl ?_
    replace h := bd_i h
    obtain ⟨w17, e18, h⟩ := h
    refine k_gR C e18 rfl inX5_ (by decide) flX5_142 dX5_cross_36 ?_
    refine r_aload C 0 rfl dX5_cross_39 ?_
    replace h := gd_t h
    obtain ⟨ho19, h⟩ := h
    obtain ⟨_, ho19⟩ := isO_s ho19
    replace h := bd_i h
    obtain ⟨⟨r21, hp22, z23⟩, q20, h⟩ := h
    refine q_callV C 0 7 (64 * 7) (k_X2_rankOf q20) rfl ho19 rfl okX2_rankOf inX2_rankOf lkX5_146 rfl (Nat.le_of_ble_eq_true rfl) ⟨by decide, by decide⟩ dX5_cross_41 (by omega) (by omega) ?_
    refine r_iconst C (v := 2) dX5_cross_44 (by decide) ?_
    refine r_icmp_ne C (tgt := 60) dX5_cross_45 (by decide) (fun hc => ?_) (fun hc => ?_)
    · replace h := br_n hc h
      refine r_ldc2 C (v := -1) clX5_156 dX5_cross_60 ?_
      cases h
      exact r_lreturn C (Eq.symm hO) dX5_cross_63
    · replace h := br_p hc h
      refine r_aload_n C 1 rfl dX5_cross_48 rfl ?_
      replace h := bd_i h
      obtain ⟨w24, e25, h⟩ := h
      refine k_gR C e25 rfl inX5_ (by decide) flX5_86 dX5_cross_49 ?_
      refine r_aload C 0 rfl dX5_cross_52 ?_
      replace h := gd_t h
      obtain ⟨ho26, h⟩ := h
      obtain ⟨_, ho26⟩ := isO_s ho26
      replace h := bd_i h
      obtain ⟨⟨r28, hp29, z30⟩, q27, h⟩ := h
      refine q_callV C 0 0 (64 * 0) (k_X4_crossRatio q27) rfl ho26 rfl okX4_crossRatio inX4_crossRatio lkX5_152 rfl (Nat.le_of_ble_eq_true rfl) ⟨by decide, by decide⟩ dX5_cross_54 (by omega) (by omega) ?_
      refine r_goto C (tgt := 63) dX5_cross_57 (by decide) ?_
      cases h
      exact r_lreturn C (Eq.symm hO) dX5_cross_63
  · subst hx
    replace h := oe_n rfl h
    refine r_ldc2 C (v := -2) clX5_140 dX5_cross_31 ?_
    cases h
    exact r_lreturn C (Eq.symm hO) dX5_cross_34
noncomputable def f_X2_sum_L11 (l0 : Nat) (l1 : Int64) (l3 : Nat) (l4 : Int64) (l6 : Nat) (l7 : Nat) (l8 : Int32) (hp : cH) : Option ((Int32 × cH) ⊕ cH) := (gI hp l0 2 1).bind fun w5 => if w5 ≤ l8 then (some (.inr hp)) else ((gR hp l0 2 0).bind fun w7 => (gR hp l0 2 0).bind fun w9 => (lJ hp l3 l8).bind fun w11 => if isO hp w9 0 = true then (f_X0_times hp w9 l1 w11).bind fun r15 => (gR hp l0 2 0).bind fun w16 => (lJ hp l6 l8).bind fun w18 => if isO hp w16 0 = true then (f_X0_times hp w16 l4 w18).bind fun r22 => if isO hp w7 0 = true then (f_X0_plus hp w7 r15 r22).bind fun r25 => (sJ hp l7 l8 r25).bind fun hp26 => some (.inl (l8 + 1, hp26)) else none else none else none)
noncomputable def f_X2_sum (hp : cH) (sz : Nat) (l0 : Nat) (l1 : Int64) (l3 : Nat) (l4 : Int64) (l6 : Nat) : Option (Nat × cH × Nat) := (gI hp l0 2 1).bind fun w1 => (nJ hp sz w1).bind fun hp3 => (itX (fun s => f_X2_sum_L11 l0 l1 l3 l4 l6 sz s.1 s.2) ((0 : Int32), hp3)).bind fun hp28 => some (sz, hp28, (sz + 1))
set_option maxHeartbeats 4000000 in
set_option maxRecDepth 100000 in
theorem w_X2_sum_L11 {K : kT} {O : oT} (C : aC K cX2_sum RX2 "sum" 1 21 1 (64 * 1) 9 (some (.array .long)) O) {hp : cH} {sz rc : Nat} {l0 : Nat} {l1 : Int64} {l3 : Nat} {l4 : Int64} {l6 : Nat} {l7 : Nat} {l8 : Int32} {eh : cH} (h : itX (fun s => f_X2_sum_L11 l0 l1 l3 l4 l6 l7 s.1 s.2) (l8, hp) = some eh) (hr : aW K eh sz rc (64 * rc) 64 [(7, .ref l7)] []) : aW K hp sz rc (64 * rc) 11 [(0, .ref l0), (1, .long l1), (3, .ref l3), (4, .long l4), (6, .ref l6), (7, .ref l7), (8, .int l8)] [] := by
  refine it_walk (f := fun s => f_X2_sum_L11 l0 l1 l3 l4 l6 l7 s.1 s.2) (P := fun s => aW K s.2 sz rc (64 * rc) 11 [(0, .ref l0), (1, .long l1), (3, .ref l3), (4, .long l4), (6, .ref l6), (7, .ref l7), (8, .int s.1)] []) (R := fun r => aW K r sz rc (64 * rc) 64 [(7, .ref l7)] []) ?_ h hr
  clear h hr
  rintro ⟨l8, hp⟩ x h kl kr
  show aW K hp sz rc (64 * rc) 11 [(0, .ref l0), (1, .long l1), (3, .ref l3), (4, .long l4), (6, .ref l6), (7, .ref l7), (8, .int l8)] []
  replace h : f_X2_sum_L11 l0 l1 l3 l4 l6 l7 l8 hp = some x := h
  unfold f_X2_sum_L11 at h
  refine r_iload C 6 rfl dX2_sum_11 ?_
  refine r_aload_n C 0 rfl dX2_sum_13 rfl ?_
  replace h := bd_i h
  obtain ⟨w5, e6, h⟩ := h
  refine k_gI C e6 rfl inX2_ (by decide) flX2_13 dX2_sum_14 ?_
  refine r_icmp_ge C (tgt := 64) dX2_sum_17 (by decide) (fun hc => ?_) (fun hc => ?_)
  · replace h := br_p hc h
    refine r_lv (lv' := [(7, .ref l7)]) [5] rfl ?_
    exact kr _ (sm_i h)
  · replace h := br_n hc h
    refine r_aload C 5 rfl dX2_sum_20 ?_
    refine r_iload C 6 rfl dX2_sum_22 ?_
    refine r_aload_n C 0 rfl dX2_sum_24 rfl ?_
    replace h := bd_i h
    obtain ⟨w7, e8, h⟩ := h
    refine k_gR C e8 rfl inX2_ (by decide) flX2_7 dX2_sum_25 ?_
    refine r_aload_n C 0 rfl dX2_sum_28 rfl ?_
    replace h := bd_i h
    obtain ⟨w9, e10, h⟩ := h
    refine k_gR C e10 rfl inX2_ (by decide) flX2_7 dX2_sum_29 ?_
    refine r_lload_n C 1 rfl dX2_sum_32 rfl ?_
    refine r_aload_n C 2 rfl dX2_sum_33 rfl ?_
    refine r_iload C 6 rfl dX2_sum_34 ?_
    replace h := bd_i h
    obtain ⟨w11, e12, h⟩ := h
    refine k_lJ C e12 dX2_sum_36 ?_
    replace h := gd_t h
    obtain ⟨ho13, h⟩ := h
    obtain ⟨_, ho13⟩ := isO_s ho13
    replace h := bd_i h
    obtain ⟨r15, q14, h⟩ := h
    refine q_callV C 3 rc (64 * rc) (k_X0_times q14) rfl ho13 rfl okX0_times inX0_times lkX2_37 rfl (Nat.le_of_ble_eq_true rfl) ⟨by decide, by decide⟩ dX2_sum_37 (by omega) (by omega) ?_
    refine r_aload_n C 0 rfl dX2_sum_40 rfl ?_
    replace h := bd_i h
    obtain ⟨w16, e17, h⟩ := h
    refine k_gR C e17 rfl inX2_ (by decide) flX2_7 dX2_sum_41 ?_
    refine r_lload C 3 rfl dX2_sum_44 ?_
    refine r_aload C 4 rfl dX2_sum_46 ?_
    refine r_iload C 6 rfl dX2_sum_48 ?_
    replace h := bd_i h
    obtain ⟨w18, e19, h⟩ := h
    refine k_lJ C e19 dX2_sum_50 ?_
    replace h := gd_t h
    obtain ⟨ho20, h⟩ := h
    obtain ⟨_, ho20⟩ := isO_s ho20
    replace h := bd_i h
    obtain ⟨r22, q21, h⟩ := h
    refine q_callV C 5 rc (64 * rc) (k_X0_times q21) rfl ho20 rfl okX0_times inX0_times lkX2_37 rfl (Nat.le_of_ble_eq_true rfl) ⟨by decide, by decide⟩ dX2_sum_51 (by omega) (by omega) ?_
    replace h := gd_t h
    obtain ⟨ho23, h⟩ := h
    obtain ⟨_, ho23⟩ := isO_s ho23
    replace h := bd_i h
    obtain ⟨r25, q24, h⟩ := h
    refine q_callV C 2 rc (64 * rc) (k_X0_plus q24) rfl ho23 rfl okX0_plus inX0_plus lkX2_41 rfl (Nat.le_of_ble_eq_true rfl) ⟨by decide, by decide⟩ dX2_sum_54 (by omega) (by omega) ?_
    replace h := bd_i h
    obtain ⟨hp26, e27, h⟩ := h
    refine k_sJ C e27 dX2_sum_57 ?_
    refine r_iinc C (v := l8 + 1) (lv' := [(8, .int (l8 + 1)), (0, .ref l0), (1, .long l1), (3, .ref l3), (4, .long l4), (6, .ref l6), (7, .ref l7)]) 6 rfl dX2_sum_58 rfl (by decide) rfl ?_
    refine r_goto C (tgt := 11) dX2_sum_61 (by decide) ?_
    refine r_lv (lv' := [(0, .ref l0), (1, .long l1), (3, .ref l3), (4, .long l4), (6, .ref l6), (7, .ref l7), (8, .int (l8 + 1))]) [1, 2, 3, 4, 5, 6, 0] rfl ?_
    exact kl _ (sm_i h)
set_option maxHeartbeats 4000000 in
set_option maxRecDepth 100000 in
theorem k_X2_sum {G : gT} {hp : cH} {sz : Nat} {l0 : Nat} {l1 : Int64} {l3 : Nat} {l4 : Int64} {l6 : Nat} {o0 : Nat} {oh : cH} {oz : Nat} (h : f_X2_sum hp sz l0 l1 l3 l4 l6 = some (o0, oh, oz)) : aM G yX2_sum cX2_sum 9 (some (.array .long)) 1 21 1 (64 * 1) [.ref l0, .long l1, .ref l3, .long l4, .ref l6] hp sz ((some (.ref o0), oh, oz) : oT) := by
  refine aM.of RX2 (by decide) rfl (Nat.le_of_ble_eq_true rfl) (fun K C => ?_)
  have hO : ((some (.ref o0), oh, oz) : oT) = ((some (.ref o0), oh, oz) : oT) := rfl
  refine r_lve (lv' := [(0, .ref l0), (1, .long l1), (3, .ref l3), (4, .long l4), (6, .ref l6)]) rfl ?_
  unfold f_X2_sum at h
  refine r_aload_n C 0 rfl dX2_sum_0 rfl ?_
  replace h := bd_i h
  obtain ⟨w1, e2, h⟩ := h
  refine k_gI C e2 rfl inX2_ (by decide) flX2_13 dX2_sum_1 ?_
  replace h := bd_i h
  obtain ⟨hp3, e4, h⟩ := h
  refine k_nJ C 0 e4 dX2_sum_4 (by omega) ?_
  refine r_astore C (lv' := [(7, .ref sz), (0, .ref l0), (1, .long l1), (3, .ref l3), (4, .long l4), (6, .ref l6)]) dX2_sum_6 (by decide) rfl ?_
  refine r_iconst C (v := 0) dX2_sum_8 (by decide) ?_
  refine r_istore C (lv' := [(8, .int ((0 : Int32))), (7, .ref sz), (0, .ref l0), (1, .long l1), (3, .ref l3), (4, .long l4), (6, .ref l6)]) dX2_sum_9 (by decide) rfl ?_
  refine r_lv (lv' := [(0, .ref l0), (1, .long l1), (3, .ref l3), (4, .long l4), (6, .ref l6), (7, .ref sz), (8, .int ((0 : Int32)))]) [2, 3, 4, 5, 6, 1, 0] rfl ?_
  replace h := bd_i h
  obtain ⟨hp28, q29, h⟩ := h
  refine w_X2_sum_L11 C  q29 ?_
  refine r_aload C 0 rfl dX2_sum_64 ?_
  cases h
  exact r_areturnA C (Or.inr ⟨_, rfl⟩) (Eq.symm hO) dX2_sum_66
noncomputable def f_X4_fourthOf (hp : cH) (sz : Nat) (l0 : Nat) (l1 : Nat) (l2 : Int64) : Option ((Option Nat) × cH × Nat) := (gR hp l0 4 1).bind fun w1 => (gJ hp w1 0 0).bind fun w3 => if l2 = w3 then ((lR 3 hp l1 ((0 : Int32))).bind fun u61 => some (u61, hp, sz)) else (if isO hp l0 4 = true then (f_X4_placeOfBrackets hp sz l0 l1).bind fun (r7, hp8, z9) => (gR hp8 l0 4 1).bind fun w10 => (lR 3 hp8 l1 ((1 : Int32))).bind fun u12 => (lR 3 hp8 l1 ((2 : Int32))).bind fun u14 => u12.bind fun a16 => u14.bind fun a18 => if isO hp8 l0 4 = true then (f_X4_bracket hp8 z9 l0 a16 a18 r7).bind fun (r22, hp23, z24) => if isO hp23 w10 0 = true then (f_X0_times hp23 w10 l2 r22).bind fun r27 => (gR hp23 l0 4 1).bind fun w28 => (lR 3 hp23 l1 ((0 : Int32))).bind fun u30 => (lR 3 hp23 l1 ((2 : Int32))).bind fun u32 => u30.bind fun a34 => u32.bind fun a36 => if isO hp23 l0 4 = true then (f_X4_bracket hp23 z24 l0 a34 a36 r7).bind fun (r40, hp41, z42) => if isO hp41 w28 0 = true then (f_X0_negative hp41 w28 r40).bind fun r45 => (gR hp41 l0 4 0).bind fun w46 => (lR 3 hp41 l1 ((0 : Int32))).bind fun u48 => (lR 3 hp41 l1 ((1 : Int32))).bind fun u50 => u48.bind fun a52 => u50.bind fun a54 => if isO hp41 w46 2 = true then (f_X2_sum hp41 z42 w46 r27 a52 r45 a54).bind fun (r58, hp59, z60) => some ((some r58), hp59, z60) else none else none else none else none else none else none)
set_option maxHeartbeats 4000000 in
set_option maxRecDepth 100000 in
theorem k_X4_fourthOf {G : gT} {hp : cH} {sz : Nat} {l0 : Nat} {l1 : Nat} {l2 : Int64} {o0 : Option Nat} {oh : cH} {oz : Nat} (h : f_X4_fourthOf hp sz l0 l1 l2 = some (o0, oh, oz)) : aM G yX4_fourthOf cX4_fourthOf 9 (some (.array .long)) 3 57 6 (64 * 6) [.ref l0, .ref l1, .long l2] hp sz ((some (va_rf o0), oh, oz) : oT) := by
  refine aM.of RX4 (by decide) rfl (Nat.le_of_ble_eq_true rfl) (fun K C => ?_)
  have hO : ((some (va_rf o0), oh, oz) : oT) = ((some (va_rf o0), oh, oz) : oT) := rfl
  refine r_lve (lv' := [(0, .ref l0), (1, .ref l1), (2, .long l2)]) rfl ?_
  unfold f_X4_fourthOf at h
  refine r_lload_n C 2 rfl dX4_fourthOf_0 rfl ?_
  refine r_aload_n C 0 rfl dX4_fourthOf_1 rfl ?_
  replace h := bd_i h
  obtain ⟨w1, e2, h⟩ := h
  refine k_gR C e2 rfl inX4_ (by decide) flX4_21 dX4_fourthOf_2 ?_
  replace h := bd_i h
  obtain ⟨w3, e4, h⟩ := h
  refine k_gJ C e4 rfl inX0_ (by decide) flX4_107 dX4_fourthOf_5 ?_
  refine r_lne C (tgt := 16) dX4_fourthOf_8 dX4_fourthOf_9 (by decide) (fun hc => ?_) (fun hc => ?_)
  · replace h := br_n hc h
    refine r_aload_n C 0 rfl dX4_fourthOf_16 rfl ?_
    refine r_aload_n C 1 rfl dX4_fourthOf_17 rfl ?_
    replace h := gd_t h
    obtain ⟨ho5, h⟩ := h
    obtain ⟨_, ho5⟩ := isO_s ho5
    replace h := bd_i h
    obtain ⟨⟨r7, hp8, z9⟩, q6, h⟩ := h
    refine q_callV C 0 3 (64 * 3) (k_X4_placeOfBrackets q6) rfl ho5 rfl okX4_placeOfBrackets inX4_placeOfBrackets lkX4_97 rfl (Nat.le_of_ble_eq_true rfl) ⟨by decide, by decide⟩ dX4_fourthOf_18 (by omega) (by omega) ?_
    refine r_istore C (lv' := [(4, .int r7), (0, .ref l0), (1, .ref l1), (2, .long l2)]) dX4_fourthOf_21 (by decide) rfl ?_
    refine r_aload_n C 1 rfl dX4_fourthOf_23 rfl ?_
    replace h := bd_i h
    obtain ⟨w10, e11, h⟩ := h
    refine k_gR C e11 rfl inX4_ (by decide) flX4_21 dX4_fourthOf_24 ?_
    refine r_lload_n C 3 rfl dX4_fourthOf_27 rfl ?_
    refine r_aload_n C 1 rfl dX4_fourthOf_28 rfl ?_
    refine r_aload_n C 2 rfl dX4_fourthOf_29 rfl ?_
    refine r_iconst C (v := 1) dX4_fourthOf_30 (by decide) ?_
    replace h := bd_i h
    obtain ⟨u12, e13, h⟩ := h
    refine k_lR C (by decide) e13 dX4_fourthOf_31 ?_
    refine r_aload_n C 2 rfl dX4_fourthOf_32 rfl ?_
    refine r_iconst C (v := 2) dX4_fourthOf_33 (by decide) ?_
    replace h := bd_i h
    obtain ⟨u14, e15, h⟩ := h
    refine k_lR C (by decide) e15 dX4_fourthOf_34 ?_
    refine r_iload C 0 rfl dX4_fourthOf_35 ?_
    replace h := bd_i h
    obtain ⟨a16, e17, h⟩ := h
    subst e17
    replace h := bd_i h
    obtain ⟨a18, e19, h⟩ := h
    subst e19
    replace h := gd_t h
    obtain ⟨ho20, h⟩ := h
    obtain ⟨_, ho20⟩ := isO_s ho20
    replace h := bd_i h
    obtain ⟨⟨r22, hp23, z24⟩, q21, h⟩ := h
    refine q_callV C 3 2 (64 * 2) (k_X4_bracket q21) rfl ho20 rfl okX4_bracket inX4_bracket lkX4_101 rfl (Nat.le_of_ble_eq_true rfl) ⟨by decide, by decide⟩ dX4_fourthOf_37 (by omega) (by omega) ?_
    replace h := gd_t h
    obtain ⟨ho25, h⟩ := h
    obtain ⟨_, ho25⟩ := isO_s ho25
    replace h := bd_i h
    obtain ⟨r27, q26, h⟩ := h
    refine q_callV C 0 2 (64 * 2) (k_X0_times q26) rfl ho25 rfl okX0_times inX0_times lkX4_27 rfl (Nat.le_of_ble_eq_true rfl) ⟨by decide, by decide⟩ dX4_fourthOf_40 (by omega) (by omega) ?_
    refine r_lstore C (lv' := [(5, .long r27), (4, .int r7), (0, .ref l0), (1, .ref l1), (2, .long l2)]) dX4_fourthOf_43 (by decide) rfl ?_
    refine r_aload_n C 2 rfl dX4_fourthOf_45 rfl ?_
    replace h := bd_i h
    obtain ⟨w28, e29, h⟩ := h
    refine k_gR C e29 rfl inX4_ (by decide) flX4_21 dX4_fourthOf_46 ?_
    refine r_aload_n C 2 rfl dX4_fourthOf_49 rfl ?_
    refine r_aload_n C 3 rfl dX4_fourthOf_50 rfl ?_
    refine r_iconst C (v := 0) dX4_fourthOf_51 (by decide) ?_
    replace h := bd_i h
    obtain ⟨u30, e31, h⟩ := h
    refine k_lR C (by decide) e31 dX4_fourthOf_52 ?_
    refine r_aload_n C 3 rfl dX4_fourthOf_53 rfl ?_
    refine r_iconst C (v := 2) dX4_fourthOf_54 (by decide) ?_
    replace h := bd_i h
    obtain ⟨u32, e33, h⟩ := h
    refine k_lR C (by decide) e33 dX4_fourthOf_55 ?_
    refine r_iload C 1 rfl dX4_fourthOf_56 ?_
    replace h := bd_i h
    obtain ⟨a34, e35, h⟩ := h
    subst e35
    replace h := bd_i h
    obtain ⟨a36, e37, h⟩ := h
    subst e37
    replace h := gd_t h
    obtain ⟨ho38, h⟩ := h
    obtain ⟨_, ho38⟩ := isO_s ho38
    replace h := bd_i h
    obtain ⟨⟨r40, hp41, z42⟩, q39, h⟩ := h
    refine q_callV C 1 1 (64 * 1) (k_X4_bracket q39) rfl ho38 rfl okX4_bracket inX4_bracket lkX4_101 rfl (Nat.le_of_ble_eq_true rfl) ⟨by decide, by decide⟩ dX4_fourthOf_58 (by omega) (by omega) ?_
    replace h := gd_t h
    obtain ⟨ho43, h⟩ := h
    obtain ⟨_, ho43⟩ := isO_s ho43
    replace h := bd_i h
    obtain ⟨r45, q44, h⟩ := h
    refine q_callV C 0 1 (64 * 1) (k_X0_negative q44) rfl ho43 rfl okX0_negative inX0_negative lkX4_36 rfl (Nat.le_of_ble_eq_true rfl) ⟨by decide, by decide⟩ dX4_fourthOf_61 (by omega) (by omega) ?_
    refine r_lstore C (lv' := [(7, .long r45), (5, .long r27), (4, .int r7), (0, .ref l0), (1, .ref l1), (2, .long l2)]) dX4_fourthOf_64 (by decide) rfl ?_
    refine r_aload_n C 3 rfl dX4_fourthOf_66 rfl ?_
    replace h := bd_i h
    obtain ⟨w46, e47, h⟩ := h
    refine k_gR C e47 rfl inX4_ (by decide) flX4_9 dX4_fourthOf_67 ?_
    refine r_lload C 1 rfl dX4_fourthOf_70 ?_
    refine r_aload_n C 4 rfl dX4_fourthOf_72 rfl ?_
    refine r_iconst C (v := 0) dX4_fourthOf_73 (by decide) ?_
    replace h := bd_i h
    obtain ⟨u48, e49, h⟩ := h
    refine k_lR C (by decide) e49 dX4_fourthOf_74 ?_
    refine r_lload C 0 rfl dX4_fourthOf_75 ?_
    refine r_aload_n C 4 rfl dX4_fourthOf_77 rfl ?_
    refine r_iconst C (v := 1) dX4_fourthOf_78 (by decide) ?_
    replace h := bd_i h
    obtain ⟨u50, e51, h⟩ := h
    refine k_lR C (by decide) e51 dX4_fourthOf_79 ?_
    replace h := bd_i h
    obtain ⟨a52, e53, h⟩ := h
    subst e53
    replace h := bd_i h
    obtain ⟨a54, e55, h⟩ := h
    subst e55
    replace h := gd_t h
    obtain ⟨ho56, h⟩ := h
    obtain ⟨_, ho56⟩ := isO_s ho56
    replace h := bd_i h
    obtain ⟨⟨r58, hp59, z60⟩, q57, h⟩ := h
    refine q_callV C 0 0 (64 * 0) (k_X2_sum q57) rfl ho56 rfl okX2_sum inX2_sum lkX4_111 rfl (Nat.le_of_ble_eq_true rfl) ⟨by decide, by decide⟩ dX4_fourthOf_80 (by omega) (by omega) ?_
    cases h
    exact r_areturnA C (Or.inr ⟨_, rfl⟩) (Eq.symm hO) dX4_fourthOf_83
  · replace h := br_p hc h
    refine r_aload_n C 1 rfl dX4_fourthOf_12 rfl ?_
    refine r_iconst C (v := 0) dX4_fourthOf_13 (by decide) ?_
    replace h := bd_i h
    obtain ⟨u61, e62, h⟩ := h
    refine k_lR C (by decide) e62 dX4_fourthOf_14 ?_
    cases h
    exact r_areturn C (Or.inr ⟨_, rfl⟩) (Eq.symm hO) dX4_fourthOf_15
noncomputable def f_X5_fourth (hp : cH) (sz : Nat) (l0 : Nat) (l1 : Int32) (l2 : Int32) (l3 : Int32) (l4 : Int64) : Option (Int32 × cH × Nat) := (gR hp l0 5 0).bind fun w1 => if isO hp w1 3 = true then (f_X3_item hp w1 l1).bind fun r5 => (nI_ hp sz ((3 : Int32))).bind fun hp6 => (sI hp6 sz ((0 : Int32)) l1).bind fun hp8 => (sI hp8 sz ((1 : Int32)) l2).bind fun hp10 => (sI hp10 sz ((2 : Int32)) l3).bind fun hp12 => if isO hp12 l0 5 = true then (f_X5_rowsOfOneSort hp12 ((sz + 1)) l0 sz).bind fun (r16, hp17, z18) => Option.elim r5 (some ((-2 : Int32), hp17, z18)) (fun a19 => Option.elim r16 (some ((-2 : Int32), hp17, z18)) (fun a20 => if l4 < ((0 : Int64)) then (some ((-2 : Int32), hp17, z18)) else ((gR hp17 l0 5 7).bind fun w21 => (gJ hp17 w21 0 0).bind fun w23 => if l4 ≤ w23 then (if l1 = l2 then (some ((-1 : Int32), hp17, z18)) else (if l2 = l3 then (some ((-1 : Int32), hp17, z18)) else (if l1 = l3 then (some ((-1 : Int32), hp17, z18)) else ((gR hp17 l0 5 8).bind fun w25 => if isO hp17 w25 2 = true then (f_X2_rankOf hp17 z18 w25 a20).bind fun (r29, hp30, z31) => if r29 = ((2 : Int32)) then ((gI hp30 a19 1 0).bind fun w32 => (gR hp30 l0 5 9).bind fun w34 => if isO hp30 w34 4 = true then (f_X4_fourthOf hp30 z31 w34 a20 l4).bind fun (r38, hp39, z40) => if isO hp39 l0 5 = true then (f_X5_keep hp39 z40 l0 w32 r38).bind fun (r43, hp44, z45) => some (r43, hp44, z45) else none else none) else (some ((-1 : Int32), hp30, z31)) else none)))) else (some ((-2 : Int32), hp17, z18))))) else none else none
set_option maxHeartbeats 4000000 in
set_option maxRecDepth 100000 in
theorem k_X5_fourth {G : gT} {hp : cH} {sz : Nat} {l0 : Nat} {l1 : Int32} {l2 : Int32} {l3 : Int32} {l4 : Int64} {o0 : Int32} {oh : cH} {oz : Nat} (h : f_X5_fourth hp sz l0 l1 l2 l3 l4 = some (o0, oh, oz)) : aM G yX5_fourth cX5_fourth 8 (some .int) 4 79 20 (64 * 20) [.ref l0, .int l1, .int l2, .int l3, .long l4] hp sz ((some (.int o0), oh, oz) : oT) := by
  refine aM.of RX5 (by decide) rfl (Nat.le_of_ble_eq_true rfl) (fun K C => ?_)
  have hO : ((some (.int o0), oh, oz) : oT) = ((some (.int o0), oh, oz) : oT) := rfl
  refine r_lve (lv' := [(0, .ref l0), (1, .int l1), (2, .int l2), (3, .int l3), (4, .long l4)]) rfl ?_
  unfold f_X5_fourth at h
  refine r_aload_n C 0 rfl dX5_fourth_0 rfl ?_
  replace h := bd_i h
  obtain ⟨w1, e2, h⟩ := h
  refine k_gR C e2 rfl inX5_ (by decide) flX5_10 dX5_fourth_1 ?_
  refine r_iload_n C 1 rfl dX5_fourth_4 rfl ?_
  replace h := gd_t h
  obtain ⟨ho3, h⟩ := h
  obtain ⟨_, ho3⟩ := isO_s ho3
  replace h := bd_i h
  obtain ⟨r5, q4, h⟩ := h
  refine q_callV C 0 20 (64 * 20) (k_X3_item q4) rfl ho3 rfl okX3_item inX3_item lkX5_66 rfl (Nat.le_of_ble_eq_true rfl) ⟨by decide, by decide⟩ dX5_fourth_5 (by omega) (by omega) ?_
  refine r_astoreq C (lv' := [(6, va_rf r5), (0, .ref l0), (1, .int l1), (2, .int l2), (3, .int l3), (4, .long l4)]) dX5_fourth_8 (by decide) rfl ?_
  refine r_aload_n C 1 rfl dX5_fourth_10 rfl ?_
  refine r_iconst C (v := 3) dX5_fourth_11 (by decide) ?_
  replace h := bd_i h
  obtain ⟨hp6, e7, h⟩ := h
  refine k_nI C 19 e7 dX5_fourth_12 (by omega) ?_
  refine r_dup C dX5_fourth_14 rfl ?_
  refine r_iconst C (v := 0) dX5_fourth_15 (by decide) ?_
  refine r_iload_n C 2 rfl dX5_fourth_16 rfl ?_
  replace h := bd_i h
  obtain ⟨hp8, e9, h⟩ := h
  refine k_sI C e9 dX5_fourth_17 ?_
  refine r_dup C dX5_fourth_18 rfl ?_
  refine r_iconst C (v := 1) dX5_fourth_19 (by decide) ?_
  refine r_iload_n C 3 rfl dX5_fourth_20 rfl ?_
  replace h := bd_i h
  obtain ⟨hp10, e11, h⟩ := h
  refine k_sI C e11 dX5_fourth_21 ?_
  refine r_dup C dX5_fourth_22 rfl ?_
  refine r_iconst C (v := 2) dX5_fourth_23 (by decide) ?_
  refine r_iload_n C 4 rfl dX5_fourth_24 rfl ?_
  replace h := bd_i h
  obtain ⟨hp12, e13, h⟩ := h
  refine k_sI C e13 dX5_fourth_25 ?_
  replace h := gd_t h
  obtain ⟨ho14, h⟩ := h
  obtain ⟨_, ho14⟩ := isO_s ho14
  replace h := bd_i h
  obtain ⟨⟨r16, hp17, z18⟩, q15, h⟩ := h
  refine q_callV C 0 18 (64 * 18) (k_X5_rowsOfOneSort q15) rfl ho14 rfl okX5_rowsOfOneSort inX5_rowsOfOneSort lkX5_136 rfl (Nat.le_of_ble_eq_true rfl) ⟨by decide, by decide⟩ dX5_fourth_26 (by omega) (by omega) ?_
  refine r_astoreq C (lv' := [(7, va_rf r16), (6, va_rf r5), (0, .ref l0), (1, .int l1), (2, .int l2), (3, .int l3), (4, .long l4)]) dX5_fourth_29 (by decide) (by simp [rf_cat]) ?_
  refine r_aloadq C 1 rfl dX5_fourth_31 ?_
  refine k_ifnull C (tgt := 61) dX5_fourth_33 (by decide) (fun hx => ?_) (fun a19 hx => ?_)
  · subst hx
    replace h := oe_n rfl h
    refine r_bipush C (v := -2) dX5_fourth_61 (by decide) ?_
    cases h
    exact r_ireturn C (Eq.symm hO) dX5_fourth_63
  · subst hx
    replace h := oe_s rfl h
    refine r_aloadq C 0 rfl dX5_fourth_36 ?_
    refine k_ifnull C (tgt := 61) dX5_fourth_38 (by decide) (fun hx => ?_) (fun a20 hx => ?_)
    · subst hx
      replace h := oe_n rfl h
      refine r_bipush C (v := -2) dX5_fourth_61 (by decide) ?_
      cases h
      exact r_ireturn C (Eq.symm hO) dX5_fourth_63
    · subst hx
      replace h := oe_s rfl h
      refine r_lload C 6 rfl dX5_fourth_41 ?_
      refine r_lconst C (v := 0) dX5_fourth_43 (by decide) ?_
      refine r_llt C (tgt := 61) dX5_fourth_44 dX5_fourth_45 (by decide) (fun hc => ?_) (fun hc => ?_)
      · replace h := br_p hc h
        refine r_bipush C (v := -2) dX5_fourth_61 (by decide) ?_
        cases h
        exact r_ireturn C (Eq.symm hO) dX5_fourth_63
      · replace h := br_n hc h
        refine r_lload C 6 rfl dX5_fourth_48 ?_
        refine r_aload_n C 2 rfl dX5_fourth_50 rfl ?_
        replace h := bd_i h
        obtain ⟨w21, e22, h⟩ := h
        refine k_gR C e22 rfl inX5_ (by decide) flX5_40 dX5_fourth_51 ?_
        replace h := bd_i h
        obtain ⟨w23, e24, h⟩ := h
        refine k_gJ C e24 rfl inX0_ (by decide) flX5_158 dX5_fourth_54 ?_
        refine r_lle C (tgt := 64) dX5_fourth_57 dX5_fourth_58 (by decide) (fun hc => ?_) (fun hc => ?_)
        · replace h := br_p hc h
          refine r_iload_n C 3 rfl dX5_fourth_64 rfl ?_
          refine r_iload_n C 4 rfl dX5_fourth_65 rfl ?_
          refine r_icmp_eq C (tgt := 92) dX5_fourth_66 (by decide) (fun hc => ?_) (fun hc => ?_)
          · replace h := br_p hc h
            refine r_iconst C (v := -1) dX5_fourth_92 (by decide) ?_
            cases h
            exact r_ireturn C (Eq.symm hO) dX5_fourth_93
          · replace h := br_n hc h
            refine r_iload_n C 4 rfl dX5_fourth_69 rfl ?_
            refine r_iload_n C 5 rfl dX5_fourth_70 rfl ?_
            refine r_icmp_eq C (tgt := 92) dX5_fourth_71 (by decide) (fun hc => ?_) (fun hc => ?_)
            · replace h := br_p hc h
              refine r_iconst C (v := -1) dX5_fourth_92 (by decide) ?_
              cases h
              exact r_ireturn C (Eq.symm hO) dX5_fourth_93
            · replace h := br_n hc h
              refine r_iload_n C 3 rfl dX5_fourth_74 rfl ?_
              refine r_iload_n C 5 rfl dX5_fourth_75 rfl ?_
              refine r_icmp_eq C (tgt := 92) dX5_fourth_76 (by decide) (fun hc => ?_) (fun hc => ?_)
              · replace h := br_p hc h
                refine r_iconst C (v := -1) dX5_fourth_92 (by decide) ?_
                cases h
                exact r_ireturn C (Eq.symm hO) dX5_fourth_93
              · replace h := br_n hc h
                refine r_aload_n C 2 rfl dX5_fourth_79 rfl ?_
                replace h := bd_i h
                obtain ⟨w25, e26, h⟩ := h
                refine k_gR C e26 rfl inX5_ (by decide) flX5_142 dX5_fourth_80 ?_
                refine r_aload C 0 rfl dX5_fourth_83 ?_
                replace h := gd_t h
                obtain ⟨ho27, h⟩ := h
                obtain ⟨_, ho27⟩ := isO_s ho27
                replace h := bd_i h
                obtain ⟨⟨r29, hp30, z31⟩, q28, h⟩ := h
                refine q_callV C 0 8 (64 * 8) (k_X2_rankOf q28) rfl ho27 rfl okX2_rankOf inX2_rankOf lkX5_146 rfl (Nat.le_of_ble_eq_true rfl) ⟨by decide, by decide⟩ dX5_fourth_85 (by omega) (by omega) ?_
                refine r_iconst C (v := 2) dX5_fourth_88 (by decide) ?_
                refine r_icmp_eq C (tgt := 94) dX5_fourth_89 (by decide) (fun hc => ?_) (fun hc => ?_)
                · replace h := br_p hc h
                  refine r_aload_n C 2 rfl dX5_fourth_94 rfl ?_
                  refine r_aload C 1 rfl dX5_fourth_95 ?_
                  replace h := bd_i h
                  obtain ⟨w32, e33, h⟩ := h
                  refine k_gI C e33 rfl inX1_ (by decide) flX5_75 dX5_fourth_97 ?_
                  refine r_aload_n C 2 rfl dX5_fourth_100 rfl ?_
                  replace h := bd_i h
                  obtain ⟨w34, e35, h⟩ := h
                  refine k_gR C e35 rfl inX5_ (by decide) flX5_86 dX5_fourth_101 ?_
                  refine r_aload C 0 rfl dX5_fourth_104 ?_
                  refine r_lload C 6 rfl dX5_fourth_106 ?_
                  replace h := gd_t h
                  obtain ⟨ho36, h⟩ := h
                  obtain ⟨_, ho36⟩ := isO_s ho36
                  replace h := bd_i h
                  obtain ⟨⟨r38, hp39, z40⟩, q37, h⟩ := h
                  refine q_callV C 2 2 (64 * 2) (k_X4_fourthOf q37) rfl ho36 rfl okX4_fourthOf inX4_fourthOf lkX5_162 rfl (Nat.le_of_ble_eq_true rfl) ⟨by decide, by decide⟩ dX5_fourth_108 (by omega) (by omega) ?_
                  replace h := gd_t h
                  obtain ⟨ho41, h⟩ := h
                  obtain ⟨_, ho41⟩ := isO_s ho41
                  replace h := bd_i h
                  obtain ⟨⟨r43, hp44, z45⟩, q42, h⟩ := h
                  refine q_callV C 0 0 (64 * 0) (k_X5_keep q42) rfl ho41 rfl okX5_keep inX5_keep lkX5_62 rfl (Nat.le_of_ble_eq_true rfl) ⟨by decide, by decide⟩ dX5_fourth_111 (by omega) (by omega) ?_
                  cases h
                  exact r_ireturn C (Eq.symm hO) dX5_fourth_114
                · replace h := br_n hc h
                  refine r_iconst C (v := -1) dX5_fourth_92 (by decide) ?_
                  cases h
                  exact r_ireturn C (Eq.symm hO) dX5_fourth_93
        · replace h := br_n hc h
          refine r_bipush C (v := -2) dX5_fourth_61 (by decide) ?_
          cases h
          exact r_ireturn C (Eq.symm hO) dX5_fourth_63
noncomputable def f_X5_pair (hp : cH) (l0 : Nat) (l1 : Int32) (l2 : Int32) : Option (Int32 × cH) := (gR hp l0 5 0).bind fun w1 => if isO hp w1 3 = true then (f_X3_row hp w1 l1 ((0 : Int32))).bind fun r5 => Option.elim r5 (some ((-2 : Int32), hp)) (fun a6 => (gR hp l0 5 0).bind fun w7 => if isO hp w7 3 = true then (f_X3_row hp w7 l2 ((0 : Int32))).bind fun r11 => Option.elim r11 (some ((-2 : Int32), hp)) (fun a12 => (gI hp l0 5 11).bind fun w13 => (gI hp l0 5 5).bind fun w15 => if (w15 + ((2 : Int32))) ≤ w13 then (some ((-3 : Int32), hp)) else ((gI hp l0 5 11).bind fun w17 => if w17 < ((5 : Int32)) then ((gR hp l0 5 3).bind fun w19 => (gI hp l0 5 11).bind fun w21 => (sI hp w19 w21 l1).bind fun hp23 => (gR hp23 l0 5 4).bind fun w25 => (gI hp23 l0 5 11).bind fun w27 => (sI hp23 w25 w27 l2).bind fun hp29 => (gI hp29 l0 5 11).bind fun w31 => (pV hp29 l0 5 11 (.int (w31 + ((1 : Int32))))).bind fun hp33 => (gI hp33 l0 5 11).bind fun w35 => some (w35, hp33)) else (some ((-3 : Int32), hp)))) else none) else none
set_option maxHeartbeats 4000000 in
set_option maxRecDepth 100000 in
theorem k_X5_pair {G : gT} {hp : cH} {sz : Nat} {l0 : Nat} {l1 : Int32} {l2 : Int32} {o0 : Int32} {oh : cH} (h : f_X5_pair hp l0 l1 l2 = some (o0, oh)) : aM G yX5_pair cX5_pair 3 (some .int) 2 28 0 (64 * 0) [.ref l0, .int l1, .int l2] hp sz ((some (.int o0), oh, sz) : oT) := by
  refine aM.of RX5 (by decide) rfl (Nat.le_of_ble_eq_true rfl) (fun K C => ?_)
  have hO : ((some (.int o0), oh, sz) : oT) = ((some (.int o0), oh, sz) : oT) := rfl
  refine r_lve (lv' := [(0, .ref l0), (1, .int l1), (2, .int l2)]) rfl ?_
  unfold f_X5_pair at h
  refine r_aload_n C 0 rfl dX5_pair_0 rfl ?_
  replace h := bd_i h
  obtain ⟨w1, e2, h⟩ := h
  refine k_gR C e2 rfl inX5_ (by decide) flX5_10 dX5_pair_1 ?_
  refine r_iload_n C 1 rfl dX5_pair_4 rfl ?_
  refine r_iconst C (v := 0) dX5_pair_5 (by decide) ?_
  replace h := gd_t h
  obtain ⟨ho3, h⟩ := h
  obtain ⟨_, ho3⟩ := isO_s ho3
  replace h := bd_i h
  obtain ⟨r5, q4, h⟩ := h
  refine q_callV C 0 0 (64 * 0) (k_X3_row q4) rfl ho3 rfl okX3_row inX3_row lkX5_166 rfl (Nat.le_of_ble_eq_true rfl) ⟨by decide, by decide⟩ dX5_pair_6 (by omega) (by omega) ?_
  refine k_ifnull C (tgt := 24) dX5_pair_9 (by decide) (fun hx => ?_) (fun a6 hx => ?_)
  · subst hx
    replace h := oe_n rfl h
    refine r_bipush C (v := -2) dX5_pair_24 (by decide) ?_
    cases h
    exact r_ireturn C (Eq.symm hO) dX5_pair_26
  · subst hx
    replace h := oe_s rfl h
    refine r_aload_n C 0 rfl dX5_pair_12 rfl ?_
    replace h := bd_i h
    obtain ⟨w7, e8, h⟩ := h
    refine k_gR C e8 rfl inX5_ (by decide) flX5_10 dX5_pair_13 ?_
    refine r_iload_n C 2 rfl dX5_pair_16 rfl ?_
    refine r_iconst C (v := 0) dX5_pair_17 (by decide) ?_
    replace h := gd_t h
    obtain ⟨ho9, h⟩ := h
    obtain ⟨_, ho9⟩ := isO_s ho9
    replace h := bd_i h
    obtain ⟨r11, q10, h⟩ := h
    refine q_callV C 0 0 (64 * 0) (k_X3_row q10) rfl ho9 rfl okX3_row inX3_row lkX5_166 rfl (Nat.le_of_ble_eq_true rfl) ⟨by decide, by decide⟩ dX5_pair_18 (by omega) (by omega) ?_
    refine k_ifnonnull C (tgt := 27) dX5_pair_21 (by decide) (fun a12 hx => ?_) (fun hx => ?_)
    · subst hx
      replace h := oe_s rfl h
      refine r_aload_n C 0 rfl dX5_pair_27 rfl ?_
      replace h := bd_i h
      obtain ⟨w13, e14, h⟩ := h
      refine k_gI C e14 rfl inX5_ (by decide) flX5_169 dX5_pair_28 ?_
      refine r_aload_n C 0 rfl dX5_pair_31 rfl ?_
      replace h := bd_i h
      obtain ⟨w15, e16, h⟩ := h
      refine k_gI C e16 rfl inX5_ (by decide) flX5_96 dX5_pair_32 ?_
      refine r_iconst C (v := 2) dX5_pair_35 (by decide) ?_
      refine r_iadd C dX5_pair_36 ?_
      refine r_icmp_ge C (tgt := 48) dX5_pair_37 (by decide) (fun hc => ?_) (fun hc => ?_)
      · replace h := br_p hc h
        refine r_bipush C (v := -3) dX5_pair_48 (by decide) ?_
        cases h
        exact r_ireturn C (Eq.symm hO) dX5_pair_50
      · replace h := br_n hc h
        refine r_aload_n C 0 rfl dX5_pair_40 rfl ?_
        replace h := bd_i h
        obtain ⟨w17, e18, h⟩ := h
        refine k_gI C e18 rfl inX5_ (by decide) flX5_169 dX5_pair_41 ?_
        refine r_iconst C (v := 5) dX5_pair_44 (by decide) ?_
        refine r_icmp_lt C (tgt := 51) dX5_pair_45 (by decide) (fun hc => ?_) (fun hc => ?_)
        · replace h := br_p hc h
          refine r_aload_n C 0 rfl dX5_pair_51 rfl ?_
          replace h := bd_i h
          obtain ⟨w19, e20, h⟩ := h
          refine k_gR C e20 rfl inX5_ (by decide) flX5_24 dX5_pair_52 ?_
          refine r_aload_n C 0 rfl dX5_pair_55 rfl ?_
          replace h := bd_i h
          obtain ⟨w21, e22, h⟩ := h
          refine k_gI C e22 rfl inX5_ (by decide) flX5_169 dX5_pair_56 ?_
          refine r_iload_n C 1 rfl dX5_pair_59 rfl ?_
          replace h := bd_i h
          obtain ⟨hp23, e24, h⟩ := h
          refine k_sI C e24 dX5_pair_60 ?_
          refine r_aload_n C 0 rfl dX5_pair_61 rfl ?_
          replace h := bd_i h
          obtain ⟨w25, e26, h⟩ := h
          refine k_gR C e26 rfl inX5_ (by decide) flX5_27 dX5_pair_62 ?_
          refine r_aload_n C 0 rfl dX5_pair_65 rfl ?_
          replace h := bd_i h
          obtain ⟨w27, e28, h⟩ := h
          refine k_gI C e28 rfl inX5_ (by decide) flX5_169 dX5_pair_66 ?_
          refine r_iload_n C 2 rfl dX5_pair_69 rfl ?_
          replace h := bd_i h
          obtain ⟨hp29, e30, h⟩ := h
          refine k_sI C e30 dX5_pair_70 ?_
          refine r_aload_n C 0 rfl dX5_pair_71 rfl ?_
          refine r_dup C dX5_pair_72 rfl ?_
          replace h := bd_i h
          obtain ⟨w31, e32, h⟩ := h
          refine k_gI C e32 rfl inX5_ (by decide) flX5_169 dX5_pair_73 ?_
          refine r_iconst C (v := 1) dX5_pair_76 (by decide) ?_
          refine r_iadd C dX5_pair_77 ?_
          replace h := bd_i h
          obtain ⟨hp33, e34, h⟩ := h
          refine k_pV C tyX5 tyX5_ok nmX5 e34 rfl inX5_ (by decide) flX5_169 rfl rfl rfl rfl dX5_pair_78 ?_
          refine r_aload_n C 0 rfl dX5_pair_81 rfl ?_
          replace h := bd_i h
          obtain ⟨w35, e36, h⟩ := h
          refine k_gI C e36 rfl inX5_ (by decide) flX5_169 dX5_pair_82 ?_
          cases h
          exact r_ireturn C (Eq.symm hO) dX5_pair_85
        · replace h := br_n hc h
          refine r_bipush C (v := -3) dX5_pair_48 (by decide) ?_
          cases h
          exact r_ireturn C (Eq.symm hO) dX5_pair_50
    · subst hx
      replace h := oe_n rfl h
      refine r_bipush C (v := -2) dX5_pair_24 (by decide) ?_
      cases h
      exact r_ireturn C (Eq.symm hO) dX5_pair_26
noncomputable def f_X5_pointRows_L8 (l0 : Nat) (l1 : Nat) (l2 : Int32) (l3 : Nat) (l4 : Int32) (hp : cH) (sz : Nat) (rc : Nat) : Option ((Int32 × cH × Nat × Nat) ⊕ (cH × Nat × Nat)) := if l2 ≤ l4 then (some (.inr (hp, sz, rc))) else ((gR hp l0 5 0).bind fun w3 => (lI hp l1 l4).bind fun w5 => if isO hp w3 3 = true then (f_X3_row hp w3 w5 ((0 : Int32))).bind fun r9 => Option.elim r9 ((gI hp l0 5 5).bind fun w11 => if 1 ≤ rc then (nJ hp sz (w11 + ((1 : Int32)))).bind fun hp13 => (sR 3 hp13 l3 l4 sz).bind fun hp15 => some (.inl (l4 + 1, hp15, (sz + 1), (rc - 1))) else none) (fun a10 => (sR 3 hp l3 l4 a10).bind fun hp17 => some (.inl (l4 + 1, hp17, sz, rc))) else none)
noncomputable def f_X5_pointRows (hp : cH) (sz : Nat) (l0 : Nat) (l1 : Nat) (l2 : Int32) : Option (Nat × cH × Nat) := (nR 3 hp sz l2).bind fun hp1 => (itX (fun s => f_X5_pointRows_L8 l0 l1 l2 sz s.1 s.2.1 s.2.2.1 s.2.2.2) ((0 : Int32), hp1, (sz + 1), 9)).bind fun (hp19, z20, rc21) => some (sz, hp19, z20)
set_option maxHeartbeats 4000000 in
set_option maxRecDepth 100000 in
theorem w_X5_pointRows_L8 {K : kT} {O : oT} (C : aC K cX5_pointRows RX5 "pointRows" 2 28 10 (64 * 10) 6 (some (.array (.array .long))) O) {hp : cH} {sz rc : Nat} {l0 : Nat} {l1 : Nat} {l2 : Int32} {l3 : Nat} {l4 : Int32} {eh : cH} {ez : Nat} {ec : Nat} (h : itX (fun s => f_X5_pointRows_L8 l0 l1 l2 l3 s.1 s.2.1 s.2.2.1 s.2.2.2) (l4, hp, sz, rc) = some (eh, ez, ec)) (hr : aW K eh ez ec (64 * ec) 56 [(3, .ref l3)] []) : aW K hp sz rc (64 * rc) 8 [(0, .ref l0), (1, .ref l1), (2, .int l2), (3, .ref l3), (4, .int l4)] [] := by
  refine it_walk (f := fun s => f_X5_pointRows_L8 l0 l1 l2 l3 s.1 s.2.1 s.2.2.1 s.2.2.2) (P := fun s => aW K s.2.1 s.2.2.1 s.2.2.2 (64 * s.2.2.2) 8 [(0, .ref l0), (1, .ref l1), (2, .int l2), (3, .ref l3), (4, .int s.1)] []) (R := fun r => aW K r.1 r.2.1 r.2.2 (64 * r.2.2) 56 [(3, .ref l3)] []) ?_ h hr
  clear h hr
  rintro ⟨l4, hp, sz, rc⟩ x h kl kr
  show aW K hp sz rc (64 * rc) 8 [(0, .ref l0), (1, .ref l1), (2, .int l2), (3, .ref l3), (4, .int l4)] []
  replace h : f_X5_pointRows_L8 l0 l1 l2 l3 l4 hp sz rc = some x := h
  unfold f_X5_pointRows_L8 at h
  refine r_iload C 4 rfl dX5_pointRows_8 ?_
  refine r_iload_n C 2 rfl dX5_pointRows_10 rfl ?_
  refine r_icmp_ge C (tgt := 56) dX5_pointRows_11 (by decide) (fun hc => ?_) (fun hc => ?_)
  · replace h := br_p hc h
    refine r_lv (lv' := [(3, .ref l3)]) [3] rfl ?_
    exact kr _ (sm_i h)
  · replace h := br_n hc h
    refine r_aload_n C 0 rfl dX5_pointRows_14 rfl ?_
    replace h := bd_i h
    obtain ⟨w3, e4, h⟩ := h
    refine k_gR C e4 rfl inX5_ (by decide) flX5_10 dX5_pointRows_15 ?_
    refine r_aload_n C 1 rfl dX5_pointRows_18 rfl ?_
    refine r_iload C 4 rfl dX5_pointRows_19 ?_
    replace h := bd_i h
    obtain ⟨w5, e6, h⟩ := h
    refine k_lI C e6 dX5_pointRows_21 ?_
    refine r_iconst C (v := 0) dX5_pointRows_22 (by decide) ?_
    replace h := gd_t h
    obtain ⟨ho7, h⟩ := h
    obtain ⟨_, ho7⟩ := isO_s ho7
    replace h := bd_i h
    obtain ⟨r9, q8, h⟩ := h
    refine q_callV C 0 rc (64 * rc) (k_X3_row q8) rfl ho7 rfl okX3_row inX3_row lkX5_166 rfl (Nat.le_of_ble_eq_true rfl) ⟨by decide, by decide⟩ dX5_pointRows_23 (by omega) (by omega) ?_
    refine r_astoreq C (lv' := [(5, va_rf r9), (0, .ref l0), (1, .ref l1), (2, .int l2), (3, .ref l3), (4, .int l4)]) dX5_pointRows_26 (by decide) rfl ?_
    refine r_aload_n C 4 rfl dX5_pointRows_28 rfl ?_
    refine r_iload C 5 rfl dX5_pointRows_29 ?_
    refine r_aloadq C 0 rfl dX5_pointRows_31 ?_
    refine k_ifnonnull C (tgt := 47) dX5_pointRows_33 (by decide) (fun a10 hx => ?_) (fun hx => ?_)
    · subst hx
      replace h := oe_s rfl h
      refine r_aload C 0 rfl dX5_pointRows_47 ?_
      replace h := bd_i h
      obtain ⟨hp17, e18, h⟩ := h
      refine k_sR C (by decide) e18 dX5_pointRows_49 ?_
      refine r_iinc C (v := l4 + 1) (lv' := [(4, .int (l4 + 1)), (5, .ref a10), (0, .ref l0), (1, .ref l1), (2, .int l2), (3, .ref l3)]) 5 rfl dX5_pointRows_50 rfl (by decide) rfl ?_
      refine r_goto C (tgt := 8) dX5_pointRows_53 (by decide) ?_
      refine r_lv (lv' := [(0, .ref l0), (1, .ref l1), (2, .int l2), (3, .ref l3), (4, .int (l4 + 1))]) [2, 3, 4, 5, 0] rfl ?_
      exact kl _ (sm_i h)
    · subst hx
      replace h := oe_n rfl h
      refine r_aload_n C 1 rfl dX5_pointRows_36 rfl ?_
      replace h := bd_i h
      obtain ⟨w11, e12, h⟩ := h
      refine k_gI C e12 rfl inX5_ (by decide) flX5_96 dX5_pointRows_37 ?_
      refine r_iconst C (v := 1) dX5_pointRows_40 (by decide) ?_
      refine r_iadd C dX5_pointRows_41 ?_
      replace h := gd_t h
      obtain ⟨hrc, h⟩ := h
      replace h := bd_i h
      obtain ⟨hp13, e14, h⟩ := h
      refine k_nJ C (rc - 1) e14 dX5_pointRows_42 (by omega) ?_
      refine r_goto C (tgt := 49) dX5_pointRows_44 (by decide) ?_
      replace h := bd_i h
      obtain ⟨hp15, e16, h⟩ := h
      refine k_sR C (by decide) e16 dX5_pointRows_49 ?_
      refine r_iinc C (v := l4 + 1) (lv' := [(4, .int (l4 + 1)), (5, va_rf none), (0, .ref l0), (1, .ref l1), (2, .int l2), (3, .ref l3)]) 5 rfl dX5_pointRows_50 rfl (by decide) rfl ?_
      refine r_goto C (tgt := 8) dX5_pointRows_53 (by decide) ?_
      refine r_lv (lv' := [(0, .ref l0), (1, .ref l1), (2, .int l2), (3, .ref l3), (4, .int (l4 + 1))]) [2, 3, 4, 5, 0] rfl ?_
      exact kl _ (sm_i h)
set_option maxHeartbeats 4000000 in
set_option maxRecDepth 100000 in
theorem k_X5_pointRows {G : gT} {hp : cH} {sz : Nat} {l0 : Nat} {l1 : Nat} {l2 : Int32} {o0 : Nat} {oh : cH} {oz : Nat} (h : f_X5_pointRows hp sz l0 l1 l2 = some (o0, oh, oz)) : aM G yX5_pointRows cX5_pointRows 6 (some (.array (.array .long))) 2 28 10 (64 * 10) [.ref l0, .ref l1, .int l2] hp sz ((some (.ref o0), oh, oz) : oT) := by
  refine aM.of RX5 (by decide) rfl (Nat.le_of_ble_eq_true rfl) (fun K C => ?_)
  have hO : ((some (.ref o0), oh, oz) : oT) = ((some (.ref o0), oh, oz) : oT) := rfl
  refine r_lve (lv' := [(0, .ref l0), (1, .ref l1), (2, .int l2)]) rfl ?_
  unfold f_X5_pointRows at h
  refine r_iload_n C 2 rfl dX5_pointRows_0 rfl ?_
  replace h := bd_i h
  obtain ⟨hp1, e2, h⟩ := h
  refine k_nR3 C 9 cnX5_263 e2 dX5_pointRows_1 (by omega) ?_
  refine r_astore_n C (lv' := [(3, .ref sz), (0, .ref l0), (1, .ref l1), (2, .int l2)]) dX5_pointRows_4 rfl (by decide) rfl ?_
  refine r_iconst C (v := 0) dX5_pointRows_5 (by decide) ?_
  refine r_istore C (lv' := [(4, .int ((0 : Int32))), (3, .ref sz), (0, .ref l0), (1, .ref l1), (2, .int l2)]) dX5_pointRows_6 (by decide) rfl ?_
  refine r_lv (lv' := [(0, .ref l0), (1, .ref l1), (2, .int l2), (3, .ref sz), (4, .int ((0 : Int32)))]) [2, 3, 4, 1, 0] rfl ?_
  replace h := bd_i h
  obtain ⟨⟨hp19, z20, rc21⟩, q22, h⟩ := h
  refine w_X5_pointRows_L8 C  q22 ?_
  refine r_aload_n C 0 rfl dX5_pointRows_56 rfl ?_
  cases h
  exact r_areturnA C (Or.inr ⟨_, rfl⟩) (Eq.symm hO) dX5_pointRows_57
