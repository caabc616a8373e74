noncomputable def m_spanned_L6 (p : Int64) (rows : Nat → Int64) (one : Nat → Int64) (l1 : Int32) (s : (Int32 × (Nat → Int64))) : Option ((Int32 × (Nat → Int64)) ⊕ (Nat → Int64)) := if ((4 : Int32)) ≤ s.1 then (some (.inr s.2)) else (if s.1 = 0 then (if ((2 : Int32)) ≤ s.1 then (if ((3 : Int32)) ≤ s.1 then ((m_entry p rows l1 ((1 : Int32)) ((1 : Int32))).bind fun r34 => (m_times p r34 (one ((2 : Int32)).toNatClampNeg)).bind fun r35 => (m_entry p rows l1 ((1 : Int32)) ((2 : Int32))).bind fun r36 => (m_times p r36 (one ((1 : Int32)).toNatClampNeg)).bind fun r37 => if p = 0 then none else (m_entry p rows l1 ((1 : Int32)) ((2 : Int32))).bind fun r38 => (m_times p r38 (one ((1 : Int32)).toNatClampNeg)).bind fun r39 => (m_less p ((r35 + r37) - (r35 + r37) / p * p) r39).bind fun r40 => if (s.1 - s.1 / ((2 : Int32)) * ((2 : Int32))) = 0 then (if gi s.1 16 then some (.inl (s.1 + 1, vp_updL s.2 s.1.toNatClampNeg r40)) else none) else ((m_less p ((0 : Int64)) r40).bind fun r41 => if gi s.1 16 then some (.inl (s.1 + 1, vp_updL s.2 s.1.toNatClampNeg r41)) else none)) else ((m_entry p rows l1 ((1 : Int32)) ((1 : Int32))).bind fun r42 => (m_times p r42 (one ((3 : Int32)).toNatClampNeg)).bind fun r43 => (m_entry p rows l1 ((1 : Int32)) ((3 : Int32))).bind fun r44 => (m_times p r44 (one ((1 : Int32)).toNatClampNeg)).bind fun r45 => if p = 0 then none else (m_entry p rows l1 ((1 : Int32)) ((3 : Int32))).bind fun r46 => (m_times p r46 (one ((1 : Int32)).toNatClampNeg)).bind fun r47 => (m_less p ((r43 + r45) - (r43 + r45) / p * p) r47).bind fun r48 => if (s.1 - s.1 / ((2 : Int32)) * ((2 : Int32))) = 0 then (if gi s.1 16 then some (.inl (s.1 + 1, vp_updL s.2 s.1.toNatClampNeg r48)) else none) else ((m_less p ((0 : Int64)) r48).bind fun r49 => if gi s.1 16 then some (.inl (s.1 + 1, vp_updL s.2 s.1.toNatClampNeg r49)) else none))) else (if ((3 : Int32)) ≤ s.1 then ((m_entry p rows l1 ((1 : Int32)) ((2 : Int32))).bind fun r50 => (m_times p r50 (one ((2 : Int32)).toNatClampNeg)).bind fun r51 => (m_entry p rows l1 ((2 : Int32)) ((2 : Int32))).bind fun r52 => (m_times p r52 (one ((1 : Int32)).toNatClampNeg)).bind fun r53 => if p = 0 then none else (m_entry p rows l1 ((1 : Int32)) ((2 : Int32))).bind fun r54 => (m_times p r54 (one ((2 : Int32)).toNatClampNeg)).bind fun r55 => (m_less p ((r51 + r53) - (r51 + r53) / p * p) r55).bind fun r56 => if (s.1 - s.1 / ((2 : Int32)) * ((2 : Int32))) = 0 then (if gi s.1 16 then some (.inl (s.1 + 1, vp_updL s.2 s.1.toNatClampNeg r56)) else none) else ((m_less p ((0 : Int64)) r56).bind fun r57 => if gi s.1 16 then some (.inl (s.1 + 1, vp_updL s.2 s.1.toNatClampNeg r57)) else none)) else ((m_entry p rows l1 ((1 : Int32)) ((2 : Int32))).bind fun r58 => (m_times p r58 (one ((3 : Int32)).toNatClampNeg)).bind fun r59 => (m_entry p rows l1 ((2 : Int32)) ((3 : Int32))).bind fun r60 => (m_times p r60 (one ((1 : Int32)).toNatClampNeg)).bind fun r61 => if p = 0 then none else (m_entry p rows l1 ((1 : Int32)) ((3 : Int32))).bind fun r62 => (m_times p r62 (one ((2 : Int32)).toNatClampNeg)).bind fun r63 => (m_less p ((r59 + r61) - (r59 + r61) / p * p) r63).bind fun r64 => if (s.1 - s.1 / ((2 : Int32)) * ((2 : Int32))) = 0 then (if gi s.1 16 then some (.inl (s.1 + 1, vp_updL s.2 s.1.toNatClampNeg r64)) else none) else ((m_less p ((0 : Int64)) r64).bind fun r65 => if gi s.1 16 then some (.inl (s.1 + 1, vp_updL s.2 s.1.toNatClampNeg r65)) else none)))) else (if ((2 : Int32)) ≤ s.1 then (if ((3 : Int32)) ≤ s.1 then ((m_entry p rows l1 ((0 : Int32)) ((1 : Int32))).bind fun r2 => (m_times p r2 (one ((2 : Int32)).toNatClampNeg)).bind fun r3 => (m_entry p rows l1 ((1 : Int32)) ((2 : Int32))).bind fun r4 => (m_times p r4 (one ((0 : Int32)).toNatClampNeg)).bind fun r5 => if p = 0 then none else (m_entry p rows l1 ((0 : Int32)) ((2 : Int32))).bind fun r6 => (m_times p r6 (one ((1 : Int32)).toNatClampNeg)).bind fun r7 => (m_less p ((r3 + r5) - (r3 + r5) / p * p) r7).bind fun r8 => if (s.1 - s.1 / ((2 : Int32)) * ((2 : Int32))) = 0 then (if gi s.1 16 then some (.inl (s.1 + 1, vp_updL s.2 s.1.toNatClampNeg r8)) else none) else ((m_less p ((0 : Int64)) r8).bind fun r9 => if gi s.1 16 then some (.inl (s.1 + 1, vp_updL s.2 s.1.toNatClampNeg r9)) else none)) else ((m_entry p rows l1 ((0 : Int32)) ((1 : Int32))).bind fun r10 => (m_times p r10 (one ((3 : Int32)).toNatClampNeg)).bind fun r11 => (m_entry p rows l1 ((1 : Int32)) ((3 : Int32))).bind fun r12 => (m_times p r12 (one ((0 : Int32)).toNatClampNeg)).bind fun r13 => if p = 0 then none else (m_entry p rows l1 ((0 : Int32)) ((3 : Int32))).bind fun r14 => (m_times p r14 (one ((1 : Int32)).toNatClampNeg)).bind fun r15 => (m_less p ((r11 + r13) - (r11 + r13) / p * p) r15).bind fun r16 => if (s.1 - s.1 / ((2 : Int32)) * ((2 : Int32))) = 0 then (if gi s.1 16 then some (.inl (s.1 + 1, vp_updL s.2 s.1.toNatClampNeg r16)) else none) else ((m_less p ((0 : Int64)) r16).bind fun r17 => if gi s.1 16 then some (.inl (s.1 + 1, vp_updL s.2 s.1.toNatClampNeg r17)) else none))) else (if ((3 : Int32)) ≤ s.1 then ((m_entry p rows l1 ((0 : Int32)) ((2 : Int32))).bind fun r18 => (m_times p r18 (one ((2 : Int32)).toNatClampNeg)).bind fun r19 => (m_entry p rows l1 ((2 : Int32)) ((2 : Int32))).bind fun r20 => (m_times p r20 (one ((0 : Int32)).toNatClampNeg)).bind fun r21 => if p = 0 then none else (m_entry p rows l1 ((0 : Int32)) ((2 : Int32))).bind fun r22 => (m_times p r22 (one ((2 : Int32)).toNatClampNeg)).bind fun r23 => (m_less p ((r19 + r21) - (r19 + r21) / p * p) r23).bind fun r24 => if (s.1 - s.1 / ((2 : Int32)) * ((2 : Int32))) = 0 then (if gi s.1 16 then some (.inl (s.1 + 1, vp_updL s.2 s.1.toNatClampNeg r24)) else none) else ((m_less p ((0 : Int64)) r24).bind fun r25 => if gi s.1 16 then some (.inl (s.1 + 1, vp_updL s.2 s.1.toNatClampNeg r25)) else none)) else ((m_entry p rows l1 ((0 : Int32)) ((2 : Int32))).bind fun r26 => (m_times p r26 (one ((3 : Int32)).toNatClampNeg)).bind fun r27 => (m_entry p rows l1 ((2 : Int32)) ((3 : Int32))).bind fun r28 => (m_times p r28 (one ((0 : Int32)).toNatClampNeg)).bind fun r29 => if p = 0 then none else (m_entry p rows l1 ((0 : Int32)) ((3 : Int32))).bind fun r30 => (m_times p r30 (one ((2 : Int32)).toNatClampNeg)).bind fun r31 => (m_less p ((r27 + r29) - (r27 + r29) / p * p) r31).bind fun r32 => if (s.1 - s.1 / ((2 : Int32)) * ((2 : Int32))) = 0 then (if gi s.1 16 then some (.inl (s.1 + 1, vp_updL s.2 s.1.toNatClampNeg r32)) else none) else ((m_less p ((0 : Int64)) r32).bind fun r33 => if gi s.1 16 then some (.inl (s.1 + 1, vp_updL s.2 s.1.toNatClampNeg r33)) else none)))))
noncomputable def m_spanned (p : Int64) (rows : Nat → Int64) (draft : Nat → Int64) (one : Nat → Int64) (x1 : Int32) : Option (Nat → Int64) := (m_clear draft).bind fun r1 => (itX (m_spanned_L6 p rows one x1) ((0 : Int32), r1)).bind fun r66 => some r66
set_option maxHeartbeats 4000000 in
set_option maxRecDepth 100000 in
theorem w_spanned_L6 {K : kT} {O : oT} (C : aC K cX6_spanned RX6 "spanned" 2 37 0 0 8 none O) {h0 : Nat} {hp : cH} {sz : Nat} {n : Int32} {p : Int64} {count : Int32} {sorts : Nat → Int32} {rows : Nat → Int64} {hand : Nat → Int64} {gathered : Int32} {gather : Nat → Int32} {paired : Int32} {pairA : Nat → Int32} {pairB : Nat → Int32} {ideal : Int32} {frame : Nat → Int64} {one : Nat → Int64} {two : Nat → Int64} {turned : Nat → Int64} {placeI : Int32} {placeJ : Int32} {formA : Int64} {formB : Int64} {formC : Int64} {l1 : Int32} {v0 : Int32} {v1 : Nat → Int64} {r : (Nat → Int64)} (h : itX (m_spanned_L6 p rows one l1) (v0, v1) = some r) (hr : aW K (mw h0 hp n p count sorts rows hand gathered gather paired pairA pairB ideal r frame one two turned placeI placeJ formA formB formC) sz 0 0 148 [] []) : aW K (mw h0 hp n p count sorts rows hand gathered gather paired pairA pairB ideal v1 frame one two turned placeI placeJ formA formB formC) sz 0 0 6 [(0, .ref h0), (1, .int l1), (2, .int v0)] [] := by
  refine it_walk (f := m_spanned_L6 p rows one l1) (P := fun s => aW K (mw h0 hp n p count sorts rows hand gathered gather paired pairA pairB ideal s.2 frame one two turned placeI placeJ formA formB formC) sz 0 0 6 [(0, .ref h0), (1, .int l1), (2, .int s.1)] []) (R := fun r => aW K (mw h0 hp n p count sorts rows hand gathered gather paired pairA pairB ideal r frame one two turned placeI placeJ formA formB formC) sz 0 0 148 [] []) ?_ h hr
  clear h hr
  intro s x h kl kr
  unfold m_spanned_L6 at h
  refine r_iload_n C 2 rfl dX6_spanned_6 rfl ?_
  refine r_iconst C (v := 4) dX6_spanned_7 (by decide) ?_
  refine r_icmp_ge C (tgt := 148) dX6_spanned_8 (by decide) (fun hc => ?_) (fun hc => ?_)
  · replace h := br_p hc h
    refine r_lv [] rfl ?_
    exact kr _ (sm_i h)
  · replace h := br_n hc h
    refine r_iload_n C 2 rfl dX6_spanned_11 rfl ?_
    refine r_if_ne C (tgt := 19) dX6_spanned_12 (by decide) (fun hc => ?_) (fun hc => ?_)
    · replace h := br_n hc h
      refine r_iconst C (v := 0) dX6_spanned_19 (by decide) ?_
      refine r_istore_n C (lv' := [(3, .int ((0 : Int32))), (0, .ref h0), (1, .int l1), (2, .int s.1)]) dX6_spanned_20 rfl (by decide) rfl ?_
      refine r_iload_n C 3 rfl dX6_spanned_21 rfl ?_
      refine r_iconst C (v := 2) dX6_spanned_22 (by decide) ?_
      refine r_icmp_ge C (tgt := 30) dX6_spanned_23 (by decide) (fun hc => ?_) (fun hc => ?_)
      · replace h := br_p hc h
        refine r_iconst C (v := 1) dX6_spanned_30 (by decide) ?_
        refine r_istore C (lv' := [(4, .int ((1 : Int32))), (3, .int ((0 : Int32))), (0, .ref h0), (1, .int l1), (2, .int s.1)]) dX6_spanned_31 (by decide) rfl ?_
        refine r_iload_n C 4 rfl dX6_spanned_33 rfl ?_
        refine r_iconst C (v := 3) dX6_spanned_34 (by decide) ?_
        refine r_icmp_ge C (tgt := 42) dX6_spanned_35 (by decide) (fun hc => ?_) (fun hc => ?_)
        · replace h := br_p hc h
          refine r_iconst C (v := 2) dX6_spanned_42 (by decide) ?_
          refine r_istore C (lv' := [(5, .int ((2 : Int32))), (4, .int ((1 : Int32))), (3, .int ((0 : Int32))), (0, .ref h0), (1, .int l1), (2, .int s.1)]) dX6_spanned_43 (by decide) rfl ?_
          refine r_aload_n C 3 rfl dX6_spanned_45 rfl ?_
          refine r_aload_n C 3 rfl dX6_spanned_46 rfl ?_
          refine r_iload_n C 4 rfl dX6_spanned_47 rfl ?_
          refine r_iload_n C 2 rfl dX6_spanned_48 rfl ?_
          refine r_iload C 1 rfl dX6_spanned_49 ?_
          obtain ⟨r2, qr2, h⟩ := bd_i h
          refine q_callV C 1 0 0 (c_entry qr2) rfl mw_self rfl ok_entry in_entry lk6_142 rfl (Nat.le_of_ble_eq_true rfl) ⟨Nat.le_of_ble_eq_true rfl, Nat.le_of_ble_eq_true rfl⟩ dX6_spanned_51 rfl rfl ?_
          refine r_aload_n C 3 rfl dX6_spanned_54 rfl ?_
          refine m_g_one C dX6_spanned_55 ?_
          refine r_iload C 0 rfl dX6_spanned_58 ?_
          refine m_l_one C (by decide) dX6_spanned_60 ?_
          obtain ⟨r3, qr3, h⟩ := bd_i h
          refine q_callV C 0 0 0 (c_times qr3) rfl mw_self rfl ok_times in_times lk6_76 rfl (Nat.le_of_ble_eq_true rfl) ⟨Nat.le_of_ble_eq_true rfl, Nat.le_of_ble_eq_true rfl⟩ dX6_spanned_61 rfl rfl ?_
          refine r_aload_n C 3 rfl dX6_spanned_64 rfl ?_
          refine r_aload_n C 3 rfl dX6_spanned_65 rfl ?_
          refine r_iload_n C 4 rfl dX6_spanned_66 rfl ?_
          refine r_iload C 1 rfl dX6_spanned_67 ?_
          refine r_iload C 0 rfl dX6_spanned_69 ?_
          obtain ⟨r4, qr4, h⟩ := bd_i h
          refine q_callV C 3 0 0 (c_entry qr4) rfl mw_self rfl ok_entry in_entry lk6_142 rfl (Nat.le_of_ble_eq_true rfl) ⟨Nat.le_of_ble_eq_true rfl, Nat.le_of_ble_eq_true rfl⟩ dX6_spanned_71 rfl rfl ?_
          refine r_aload_n C 3 rfl dX6_spanned_74 rfl ?_
          refine m_g_one C dX6_spanned_75 ?_
          refine r_iload_n C 2 rfl dX6_spanned_78 rfl ?_
          refine m_l_one C (by decide) dX6_spanned_79 ?_
          obtain ⟨r5, qr5, h⟩ := bd_i h
          refine q_callV C 2 0 0 (c_times qr5) rfl mw_self rfl ok_times in_times lk6_76 rfl (Nat.le_of_ble_eq_true rfl) ⟨Nat.le_of_ble_eq_true rfl, Nat.le_of_ble_eq_true rfl⟩ dX6_spanned_80 rfl rfl ?_
          refine r_ladd C dX6_spanned_83 ?_
          refine r_aload_n C 3 rfl dX6_spanned_84 rfl ?_
          refine m_g_p C dX6_spanned_85 ?_
          obtain ⟨hne, h⟩ := gd_n h
          refine r_lrem C dX6_spanned_88 hne ?_
          refine r_lstore C (lv' := [(6, .long ((r3 + r5) - (r3 + r5) / p * p)), (5, .int ((2 : Int32))), (4, .int ((1 : Int32))), (3, .int ((0 : Int32))), (0, .ref h0), (1, .int l1), (2, .int s.1)]) dX6_spanned_89 (by decide) rfl ?_
          refine r_aload_n C 4 rfl dX6_spanned_91 rfl ?_
          refine r_lload C 0 rfl dX6_spanned_92 ?_
          refine r_aload_n C 4 rfl dX6_spanned_94 rfl ?_
          refine r_aload_n C 4 rfl dX6_spanned_95 rfl ?_
          refine r_iload_n C 5 rfl dX6_spanned_96 rfl ?_
          refine r_iload_n C 3 rfl dX6_spanned_97 rfl ?_
          refine r_iload C 1 rfl dX6_spanned_98 ?_
          obtain ⟨r6, qr6, h⟩ := bd_i h
          refine q_callV C 4 0 0 (c_entry qr6) rfl mw_self rfl ok_entry in_entry lk6_142 rfl (Nat.le_of_ble_eq_true rfl) ⟨Nat.le_of_ble_eq_true rfl, Nat.le_of_ble_eq_true rfl⟩ dX6_spanned_100 rfl rfl ?_
          refine r_aload_n C 4 rfl dX6_spanned_103 rfl ?_
          refine m_g_one C dX6_spanned_104 ?_
          refine r_iload C 2 rfl dX6_spanned_107 ?_
          refine m_l_one C (by decide) dX6_spanned_109 ?_
          obtain ⟨r7, qr7, h⟩ := bd_i h
          refine q_callV C 3 0 0 (c_times qr7) rfl mw_self rfl ok_times in_times lk6_76 rfl (Nat.le_of_ble_eq_true rfl) ⟨Nat.le_of_ble_eq_true rfl, Nat.le_of_ble_eq_true rfl⟩ dX6_spanned_110 rfl rfl ?_
          obtain ⟨r8, qr8, h⟩ := bd_i h
          refine q_callV C 0 0 0 (c_less qr8) rfl mw_self rfl ok_less in_less lk6_105 rfl (Nat.le_of_ble_eq_true rfl) ⟨Nat.le_of_ble_eq_true rfl, Nat.le_of_ble_eq_true rfl⟩ dX6_spanned_113 rfl rfl ?_
          refine r_lstore C (lv' := [(6, .long r8), (5, .int ((2 : Int32))), (4, .int ((1 : Int32))), (3, .int ((0 : Int32))), (0, .ref h0), (1, .int l1), (2, .int s.1)]) dX6_spanned_116 (by decide) rfl ?_
          refine r_aload_n C 4 rfl dX6_spanned_118 rfl ?_
          refine m_g_draft C dX6_spanned_119 ?_
          refine r_iload_n C 6 rfl dX6_spanned_122 rfl ?_
          refine r_iload_n C 6 rfl dX6_spanned_123 rfl ?_
          refine r_iconst C (v := 2) dX6_spanned_124 (by decide) ?_
          refine r_irem C dX6_spanned_125 (by decide) ?_
          refine r_if_ne C (tgt := 134) dX6_spanned_126 (by decide) (fun hc => ?_) (fun hc => ?_)
          · replace h := br_n hc h
            refine r_aload_n C 4 rfl dX6_spanned_134 rfl ?_
            refine r_lconst C (v := 0) dX6_spanned_135 (by decide) ?_
            refine r_lload C 0 rfl dX6_spanned_136 ?_
            obtain ⟨r9, qr9, h⟩ := bd_i h
            refine q_callV C 2 0 0 (c_less qr9) rfl mw_self rfl ok_less in_less lk6_105 rfl (Nat.le_of_ble_eq_true rfl) ⟨Nat.le_of_ble_eq_true rfl, Nat.le_of_ble_eq_true rfl⟩ dX6_spanned_138 rfl rfl ?_
            obtain ⟨hi, h⟩ := gd_t h
            refine m_s_draft C hi dX6_spanned_141 ?_
            refine r_iinc C (v := s.1 + 1) (lv' := [(2, .int (s.1 + 1)), (6, .long r8), (5, .int ((2 : Int32))), (4, .int ((1 : Int32))), (3, .int ((0 : Int32))), (0, .ref h0), (1, .int l1)]) 6 rfl dX6_spanned_142 rfl (by decide) rfl ?_
            refine r_goto C (tgt := 6) dX6_spanned_145 (by decide) ?_
            refine r_lv [5, 6, 0] rfl ?_
            exact kl _ (sm_i h)
          · replace h := br_p hc h
            refine r_lload C 0 rfl dX6_spanned_129 ?_
            refine r_goto C (tgt := 141) dX6_spanned_131 (by decide) ?_
            obtain ⟨hi, h⟩ := gd_t h
            refine m_s_draft C hi dX6_spanned_141 ?_
            refine r_iinc C (v := s.1 + 1) (lv' := [(2, .int (s.1 + 1)), (6, .long r8), (5, .int ((2 : Int32))), (4, .int ((1 : Int32))), (3, .int ((0 : Int32))), (0, .ref h0), (1, .int l1)]) 6 rfl dX6_spanned_142 rfl (by decide) rfl ?_
            refine r_goto C (tgt := 6) dX6_spanned_145 (by decide) ?_
            refine r_lv [5, 6, 0] rfl ?_
            exact kl _ (sm_i h)
        · replace h := br_n hc h
          refine r_iconst C (v := 3) dX6_spanned_38 (by decide) ?_
          refine r_goto C (tgt := 43) dX6_spanned_39 (by decide) ?_
          refine r_istore C (lv' := [(5, .int ((3 : Int32))), (4, .int ((1 : Int32))), (3, .int ((0 : Int32))), (0, .ref h0), (1, .int l1), (2, .int s.1)]) dX6_spanned_43 (by decide) rfl ?_
          refine r_aload_n C 3 rfl dX6_spanned_45 rfl ?_
          refine r_aload_n C 3 rfl dX6_spanned_46 rfl ?_
          refine r_iload_n C 4 rfl dX6_spanned_47 rfl ?_
          refine r_iload_n C 2 rfl dX6_spanned_48 rfl ?_
          refine r_iload C 1 rfl dX6_spanned_49 ?_
          obtain ⟨r10, qr10, h⟩ := bd_i h
          refine q_callV C 1 0 0 (c_entry qr10) rfl mw_self rfl ok_entry in_entry lk6_142 rfl (Nat.le_of_ble_eq_true rfl) ⟨Nat.le_of_ble_eq_true rfl, Nat.le_of_ble_eq_true rfl⟩ dX6_spanned_51 rfl rfl ?_
          refine r_aload_n C 3 rfl dX6_spanned_54 rfl ?_
          refine m_g_one C dX6_spanned_55 ?_
          refine r_iload C 0 rfl dX6_spanned_58 ?_
          refine m_l_one C (by decide) dX6_spanned_60 ?_
          obtain ⟨r11, qr11, h⟩ := bd_i h
          refine q_callV C 0 0 0 (c_times qr11) rfl mw_self rfl ok_times in_times lk6_76 rfl (Nat.le_of_ble_eq_true rfl) ⟨Nat.le_of_ble_eq_true rfl, Nat.le_of_ble_eq_true rfl⟩ dX6_spanned_61 rfl rfl ?_
          refine r_aload_n C 3 rfl dX6_spanned_64 rfl ?_
          refine r_aload_n C 3 rfl dX6_spanned_65 rfl ?_
          refine r_iload_n C 4 rfl dX6_spanned_66 rfl ?_
          refine r_iload C 1 rfl dX6_spanned_67 ?_
          refine r_iload C 0 rfl dX6_spanned_69 ?_
          obtain ⟨r12, qr12, h⟩ := bd_i h
          refine q_callV C 3 0 0 (c_entry qr12) rfl mw_self rfl ok_entry in_entry lk6_142 rfl (Nat.le_of_ble_eq_true rfl) ⟨Nat.le_of_ble_eq_true rfl, Nat.le_of_ble_eq_true rfl⟩ dX6_spanned_71 rfl rfl ?_
          refine r_aload_n C 3 rfl dX6_spanned_74 rfl ?_
          refine m_g_one C dX6_spanned_75 ?_
          refine r_iload_n C 2 rfl dX6_spanned_78 rfl ?_
          refine m_l_one C (by decide) dX6_spanned_79 ?_
          obtain ⟨r13, qr13, h⟩ := bd_i h
          refine q_callV C 2 0 0 (c_times qr13) rfl mw_self rfl ok_times in_times lk6_76 rfl (Nat.le_of_ble_eq_true rfl) ⟨Nat.le_of_ble_eq_true rfl, Nat.le_of_ble_eq_true rfl⟩ dX6_spanned_80 rfl rfl ?_
          refine r_ladd C dX6_spanned_83 ?_
          refine r_aload_n C 3 rfl dX6_spanned_84 rfl ?_
          refine m_g_p C dX6_spanned_85 ?_
          obtain ⟨hne, h⟩ := gd_n h
          refine r_lrem C dX6_spanned_88 hne ?_
          refine r_lstore C (lv' := [(6, .long ((r11 + r13) - (r11 + r13) / p * p)), (5, .int ((3 : Int32))), (4, .int ((1 : Int32))), (3, .int ((0 : Int32))), (0, .ref h0), (1, .int l1), (2, .int s.1)]) dX6_spanned_89 (by decide) rfl ?_
          refine r_aload_n C 4 rfl dX6_spanned_91 rfl ?_
          refine r_lload C 0 rfl dX6_spanned_92 ?_
          refine r_aload_n C 4 rfl dX6_spanned_94 rfl ?_
          refine r_aload_n C 4 rfl dX6_spanned_95 rfl ?_
          refine r_iload_n C 5 rfl dX6_spanned_96 rfl ?_
          refine r_iload_n C 3 rfl dX6_spanned_97 rfl ?_
          refine r_iload C 1 rfl dX6_spanned_98 ?_
          obtain ⟨r14, qr14, h⟩ := bd_i h
          refine q_callV C 4 0 0 (c_entry qr14) rfl mw_self rfl ok_entry in_entry lk6_142 rfl (Nat.le_of_ble_eq_true rfl) ⟨Nat.le_of_ble_eq_true rfl, Nat.le_of_ble_eq_true rfl⟩ dX6_spanned_100 rfl rfl ?_
          refine r_aload_n C 4 rfl dX6_spanned_103 rfl ?_
          refine m_g_one C dX6_spanned_104 ?_
          refine r_iload C 2 rfl dX6_spanned_107 ?_
          refine m_l_one C (by decide) dX6_spanned_109 ?_
          obtain ⟨r15, qr15, h⟩ := bd_i h
          refine q_callV C 3 0 0 (c_times qr15) rfl mw_self rfl ok_times in_times lk6_76 rfl (Nat.le_of_ble_eq_true rfl) ⟨Nat.le_of_ble_eq_true rfl, Nat.le_of_ble_eq_true rfl⟩ dX6_spanned_110 rfl rfl ?_
          obtain ⟨r16, qr16, h⟩ := bd_i h
          refine q_callV C 0 0 0 (c_less qr16) rfl mw_self rfl ok_less in_less lk6_105 rfl (Nat.le_of_ble_eq_true rfl) ⟨Nat.le_of_ble_eq_true rfl, Nat.le_of_ble_eq_true rfl⟩ dX6_spanned_113 rfl rfl ?_
          refine r_lstore C (lv' := [(6, .long r16), (5, .int ((3 : Int32))), (4, .int ((1 : Int32))), (3, .int ((0 : Int32))), (0, .ref h0), (1, .int l1), (2, .int s.1)]) dX6_spanned_116 (by decide) rfl ?_
          refine r_aload_n C 4 rfl dX6_spanned_118 rfl ?_
          refine m_g_draft C dX6_spanned_119 ?_
          refine r_iload_n C 6 rfl dX6_spanned_122 rfl ?_
          refine r_iload_n C 6 rfl dX6_spanned_123 rfl ?_
          refine r_iconst C (v := 2) dX6_spanned_124 (by decide) ?_
          refine r_irem C dX6_spanned_125 (by decide) ?_
          refine r_if_ne C (tgt := 134) dX6_spanned_126 (by decide) (fun hc => ?_) (fun hc => ?_)
          · replace h := br_n hc h
            refine r_aload_n C 4 rfl dX6_spanned_134 rfl ?_
            refine r_lconst C (v := 0) dX6_spanned_135 (by decide) ?_
            refine r_lload C 0 rfl dX6_spanned_136 ?_
            obtain ⟨r17, qr17, h⟩ := bd_i h
            refine q_callV C 2 0 0 (c_less qr17) rfl mw_self rfl ok_less in_less lk6_105 rfl (Nat.le_of_ble_eq_true rfl) ⟨Nat.le_of_ble_eq_true rfl, Nat.le_of_ble_eq_true rfl⟩ dX6_spanned_138 rfl rfl ?_
            obtain ⟨hi, h⟩ := gd_t h
            refine m_s_draft C hi dX6_spanned_141 ?_
            refine r_iinc C (v := s.1 + 1) (lv' := [(2, .int (s.1 + 1)), (6, .long r16), (5, .int ((3 : Int32))), (4, .int ((1 : Int32))), (3, .int ((0 : Int32))), (0, .ref h0), (1, .int l1)]) 6 rfl dX6_spanned_142 rfl (by decide) rfl ?_
            refine r_goto C (tgt := 6) dX6_spanned_145 (by decide) ?_
            refine r_lv [5, 6, 0] rfl ?_
            exact kl _ (sm_i h)
          · replace h := br_p hc h
            refine r_lload C 0 rfl dX6_spanned_129 ?_
            refine r_goto C (tgt := 141) dX6_spanned_131 (by decide) ?_
            obtain ⟨hi, h⟩ := gd_t h
            refine m_s_draft C hi dX6_spanned_141 ?_
            refine r_iinc C (v := s.1 + 1) (lv' := [(2, .int (s.1 + 1)), (6, .long r16), (5, .int ((3 : Int32))), (4, .int ((1 : Int32))), (3, .int ((0 : Int32))), (0, .ref h0), (1, .int l1)]) 6 rfl dX6_spanned_142 rfl (by decide) rfl ?_
            refine r_goto C (tgt := 6) dX6_spanned_145 (by decide) ?_
            refine r_lv [5, 6, 0] rfl ?_
            exact kl _ (sm_i h)
      · replace h := br_n hc h
        refine r_iconst C (v := 2) dX6_spanned_26 (by decide) ?_
        refine r_goto C (tgt := 31) dX6_spanned_27 (by decide) ?_
        refine r_istore C (lv' := [(4, .int ((2 : Int32))), (3, .int ((0 : Int32))), (0, .ref h0), (1, .int l1), (2, .int s.1)]) dX6_spanned_31 (by decide) rfl ?_
        refine r_iload_n C 4 rfl dX6_spanned_33 rfl ?_
        refine r_iconst C (v := 3) dX6_spanned_34 (by decide) ?_
        refine r_icmp_ge C (tgt := 42) dX6_spanned_35 (by decide) (fun hc => ?_) (fun hc => ?_)
        · replace h := br_p hc h
          refine r_iconst C (v := 2) dX6_spanned_42 (by decide) ?_
          refine r_istore C (lv' := [(5, .int ((2 : Int32))), (4, .int ((2 : Int32))), (3, .int ((0 : Int32))), (0, .ref h0), (1, .int l1), (2, .int s.1)]) dX6_spanned_43 (by decide) rfl ?_
          refine r_aload_n C 3 rfl dX6_spanned_45 rfl ?_
          refine r_aload_n C 3 rfl dX6_spanned_46 rfl ?_
          refine r_iload_n C 4 rfl dX6_spanned_47 rfl ?_
          refine r_iload_n C 2 rfl dX6_spanned_48 rfl ?_
          refine r_iload C 1 rfl dX6_spanned_49 ?_
          obtain ⟨r18, qr18, h⟩ := bd_i h
          refine q_callV C 1 0 0 (c_entry qr18) rfl mw_self rfl ok_entry in_entry lk6_142 rfl (Nat.le_of_ble_eq_true rfl) ⟨Nat.le_of_ble_eq_true rfl, Nat.le_of_ble_eq_true rfl⟩ dX6_spanned_51 rfl rfl ?_
          refine r_aload_n C 3 rfl dX6_spanned_54 rfl ?_
          refine m_g_one C dX6_spanned_55 ?_
          refine r_iload C 0 rfl dX6_spanned_58 ?_
          refine m_l_one C (by decide) dX6_spanned_60 ?_
          obtain ⟨r19, qr19, h⟩ := bd_i h
          refine q_callV C 0 0 0 (c_times qr19) rfl mw_self rfl ok_times in_times lk6_76 rfl (Nat.le_of_ble_eq_true rfl) ⟨Nat.le_of_ble_eq_true rfl, Nat.le_of_ble_eq_true rfl⟩ dX6_spanned_61 rfl rfl ?_
          refine r_aload_n C 3 rfl dX6_spanned_64 rfl ?_
          refine r_aload_n C 3 rfl dX6_spanned_65 rfl ?_
          refine r_iload_n C 4 rfl dX6_spanned_66 rfl ?_
          refine r_iload C 1 rfl dX6_spanned_67 ?_
          refine r_iload C 0 rfl dX6_spanned_69 ?_
          obtain ⟨r20, qr20, h⟩ := bd_i h
          refine q_callV C 3 0 0 (c_entry qr20) rfl mw_self rfl ok_entry in_entry lk6_142 rfl (Nat.le_of_ble_eq_true rfl) ⟨Nat.le_of_ble_eq_true rfl, Nat.le_of_ble_eq_true rfl⟩ dX6_spanned_71 rfl rfl ?_
          refine r_aload_n C 3 rfl dX6_spanned_74 rfl ?_
          refine m_g_one C dX6_spanned_75 ?_
          refine r_iload_n C 2 rfl dX6_spanned_78 rfl ?_
          refine m_l_one C (by decide) dX6_spanned_79 ?_
          obtain ⟨r21, qr21, h⟩ := bd_i h
          refine q_callV C 2 0 0 (c_times qr21) rfl mw_self rfl ok_times in_times lk6_76 rfl (Nat.le_of_ble_eq_true rfl) ⟨Nat.le_of_ble_eq_true rfl, Nat.le_of_ble_eq_true rfl⟩ dX6_spanned_80 rfl rfl ?_
          refine r_ladd C dX6_spanned_83 ?_
          refine r_aload_n C 3 rfl dX6_spanned_84 rfl ?_
          refine m_g_p C dX6_spanned_85 ?_
          obtain ⟨hne, h⟩ := gd_n h
          refine r_lrem C dX6_spanned_88 hne ?_
          refine r_lstore C (lv' := [(6, .long ((r19 + r21) - (r19 + r21) / p * p)), (5, .int ((2 : Int32))), (4, .int ((2 : Int32))), (3, .int ((0 : Int32))), (0, .ref h0), (1, .int l1), (2, .int s.1)]) dX6_spanned_89 (by decide) rfl ?_
          refine r_aload_n C 4 rfl dX6_spanned_91 rfl ?_
          refine r_lload C 0 rfl dX6_spanned_92 ?_
          refine r_aload_n C 4 rfl dX6_spanned_94 rfl ?_
          refine r_aload_n C 4 rfl dX6_spanned_95 rfl ?_
          refine r_iload_n C 5 rfl dX6_spanned_96 rfl ?_
          refine r_iload_n C 3 rfl dX6_spanned_97 rfl ?_
          refine r_iload C 1 rfl dX6_spanned_98 ?_
          obtain ⟨r22, qr22, h⟩ := bd_i h
          refine q_callV C 4 0 0 (c_entry qr22) rfl mw_self rfl ok_entry in_entry lk6_142 rfl (Nat.le_of_ble_eq_true rfl) ⟨Nat.le_of_ble_eq_true rfl, Nat.le_of_ble_eq_true rfl⟩ dX6_spanned_100 rfl rfl ?_
          refine r_aload_n C 4 rfl dX6_spanned_103 rfl ?_
          refine m_g_one C dX6_spanned_104 ?_
          refine r_iload C 2 rfl dX6_spanned_107 ?_
          refine m_l_one C (by decide) dX6_spanned_109 ?_
          obtain ⟨r23, qr23, h⟩ := bd_i h
          refine q_callV C 3 0 0 (c_times qr23) rfl mw_self rfl ok_times in_times lk6_76 rfl (Nat.le_of_ble_eq_true rfl) ⟨Nat.le_of_ble_eq_true rfl, Nat.le_of_ble_eq_true rfl⟩ dX6_spanned_110 rfl rfl ?_
          obtain ⟨r24, qr24, h⟩ := bd_i h
          refine q_callV C 0 0 0 (c_less qr24) rfl mw_self rfl ok_less in_less lk6_105 rfl (Nat.le_of_ble_eq_true rfl) ⟨Nat.le_of_ble_eq_true rfl, Nat.le_of_ble_eq_true rfl⟩ dX6_spanned_113 rfl rfl ?_
          refine r_lstore C (lv' := [(6, .long r24), (5, .int ((2 : Int32))), (4, .int ((2 : Int32))), (3, .int ((0 : Int32))), (0, .ref h0), (1, .int l1), (2, .int s.1)]) dX6_spanned_116 (by decide) rfl ?_
          refine r_aload_n C 4 rfl dX6_spanned_118 rfl ?_
          refine m_g_draft C dX6_spanned_119 ?_
          refine r_iload_n C 6 rfl dX6_spanned_122 rfl ?_
          refine r_iload_n C 6 rfl dX6_spanned_123 rfl ?_
          refine r_iconst C (v := 2) dX6_spanned_124 (by decide) ?_
          refine r_irem C dX6_spanned_125 (by decide) ?_
          refine r_if_ne C (tgt := 134) dX6_spanned_126 (by decide) (fun hc => ?_) (fun hc => ?_)
          · replace h := br_n hc h
            refine r_aload_n C 4 rfl dX6_spanned_134 rfl ?_
            refine r_lconst C (v := 0) dX6_spanned_135 (by decide) ?_
            refine r_lload C 0 rfl dX6_spanned_136 ?_
            obtain ⟨r25, qr25, h⟩ := bd_i h
            refine q_callV C 2 0 0 (c_less qr25) rfl mw_self rfl ok_less in_less lk6_105 rfl (Nat.le_of_ble_eq_true rfl) ⟨Nat.le_of_ble_eq_true rfl, Nat.le_of_ble_eq_true rfl⟩ dX6_spanned_138 rfl rfl ?_
            obtain ⟨hi, h⟩ := gd_t h
            refine m_s_draft C hi dX6_spanned_141 ?_
            refine r_iinc C (v := s.1 + 1) (lv' := [(2, .int (s.1 + 1)), (6, .long r24), (5, .int ((2 : Int32))), (4, .int ((2 : Int32))), (3, .int ((0 : Int32))), (0, .ref h0), (1, .int l1)]) 6 rfl dX6_spanned_142 rfl (by decide) rfl ?_
            refine r_goto C (tgt := 6) dX6_spanned_145 (by decide) ?_
            refine r_lv [5, 6, 0] rfl ?_
            exact kl _ (sm_i h)
          · replace h := br_p hc h
            refine r_lload C 0 rfl dX6_spanned_129 ?_
            refine r_goto C (tgt := 141) dX6_spanned_131 (by decide) ?_
            obtain ⟨hi, h⟩ := gd_t h
            refine m_s_draft C hi dX6_spanned_141 ?_
            refine r_iinc C (v := s.1 + 1) (lv' := [(2, .int (s.1 + 1)), (6, .long r24), (5, .int ((2 : Int32))), (4, .int ((2 : Int32))), (3, .int ((0 : Int32))), (0, .ref h0), (1, .int l1)]) 6 rfl dX6_spanned_142 rfl (by decide) rfl ?_
            refine r_goto C (tgt := 6) dX6_spanned_145 (by decide) ?_
            refine r_lv [5, 6, 0] rfl ?_
            exact kl _ (sm_i h)
        · replace h := br_n hc h
          refine r_iconst C (v := 3) dX6_spanned_38 (by decide) ?_
          refine r_goto C (tgt := 43) dX6_spanned_39 (by decide) ?_
          refine r_istore C (lv' := [(5, .int ((3 : Int32))), (4, .int ((2 : Int32))), (3, .int ((0 : Int32))), (0, .ref h0), (1, .int l1), (2, .int s.1)]) dX6_spanned_43 (by decide) rfl ?_
          refine r_aload_n C 3 rfl dX6_spanned_45 rfl ?_
          refine r_aload_n C 3 rfl dX6_spanned_46 rfl ?_
          refine r_iload_n C 4 rfl dX6_spanned_47 rfl ?_
          refine r_iload_n C 2 rfl dX6_spanned_48 rfl ?_
          refine r_iload C 1 rfl dX6_spanned_49 ?_
          obtain ⟨r26, qr26, h⟩ := bd_i h
          refine q_callV C 1 0 0 (c_entry qr26) rfl mw_self rfl ok_entry in_entry lk6_142 rfl (Nat.le_of_ble_eq_true rfl) ⟨Nat.le_of_ble_eq_true rfl, Nat.le_of_ble_eq_true rfl⟩ dX6_spanned_51 rfl rfl ?_
          refine r_aload_n C 3 rfl dX6_spanned_54 rfl ?_
          refine m_g_one C dX6_spanned_55 ?_
          refine r_iload C 0 rfl dX6_spanned_58 ?_
          refine m_l_one C (by decide) dX6_spanned_60 ?_
          obtain ⟨r27, qr27, h⟩ := bd_i h
          refine q_callV C 0 0 0 (c_times qr27) rfl mw_self rfl ok_times in_times lk6_76 rfl (Nat.le_of_ble_eq_true rfl) ⟨Nat.le_of_ble_eq_true rfl, Nat.le_of_ble_eq_true rfl⟩ dX6_spanned_61 rfl rfl ?_
          refine r_aload_n C 3 rfl dX6_spanned_64 rfl ?_
          refine r_aload_n C 3 rfl dX6_spanned_65 rfl ?_
          refine r_iload_n C 4 rfl dX6_spanned_66 rfl ?_
          refine r_iload C 1 rfl dX6_spanned_67 ?_
          refine r_iload C 0 rfl dX6_spanned_69 ?_
          obtain ⟨r28, qr28, h⟩ := bd_i h
          refine q_callV C 3 0 0 (c_entry qr28) rfl mw_self rfl ok_entry in_entry lk6_142 rfl (Nat.le_of_ble_eq_true rfl) ⟨Nat.le_of_ble_eq_true rfl, Nat.le_of_ble_eq_true rfl⟩ dX6_spanned_71 rfl rfl ?_
          refine r_aload_n C 3 rfl dX6_spanned_74 rfl ?_
          refine m_g_one C dX6_spanned_75 ?_
          refine r_iload_n C 2 rfl dX6_spanned_78 rfl ?_
          refine m_l_one C (by decide) dX6_spanned_79 ?_
          obtain ⟨r29, qr29, h⟩ := bd_i h
          refine q_callV C 2 0 0 (c_times qr29) rfl mw_self rfl ok_times in_times lk6_76 rfl (Nat.le_of_ble_eq_true rfl) ⟨Nat.le_of_ble_eq_true rfl, Nat.le_of_ble_eq_true rfl⟩ dX6_spanned_80 rfl rfl ?_
          refine r_ladd C dX6_spanned_83 ?_
          refine r_aload_n C 3 rfl dX6_spanned_84 rfl ?_
          refine m_g_p C dX6_spanned_85 ?_
          obtain ⟨hne, h⟩ := gd_n h
          refine r_lrem C dX6_spanned_88 hne ?_
          refine r_lstore C (lv' := [(6, .long ((r27 + r29) - (r27 + r29) / p * p)), (5, .int ((3 : Int32))), (4, .int ((2 : Int32))), (3, .int ((0 : Int32))), (0, .ref h0), (1, .int l1), (2, .int s.1)]) dX6_spanned_89 (by decide) rfl ?_
          refine r_aload_n C 4 rfl dX6_spanned_91 rfl ?_
          refine r_lload C 0 rfl dX6_spanned_92 ?_
          refine r_aload_n C 4 rfl dX6_spanned_94 rfl ?_
          refine r_aload_n C 4 rfl dX6_spanned_95 rfl ?_
          refine r_iload_n C 5 rfl dX6_spanned_96 rfl ?_
          refine r_iload_n C 3 rfl dX6_spanned_97 rfl ?_
          refine r_iload C 1 rfl dX6_spanned_98 ?_
          obtain ⟨r30, qr30, h⟩ := bd_i h
          refine q_callV C 4 0 0 (c_entry qr30) rfl mw_self rfl ok_entry in_entry lk6_142 rfl (Nat.le_of_ble_eq_true rfl) ⟨Nat.le_of_ble_eq_true rfl, Nat.le_of_ble_eq_true rfl⟩ dX6_spanned_100 rfl rfl ?_
          refine r_aload_n C 4 rfl dX6_spanned_103 rfl ?_
          refine m_g_one C dX6_spanned_104 ?_
          refine r_iload C 2 rfl dX6_spanned_107 ?_
          refine m_l_one C (by decide) dX6_spanned_109 ?_
          obtain ⟨r31, qr31, h⟩ := bd_i h
          refine q_callV C 3 0 0 (c_times qr31) rfl mw_self rfl ok_times in_times lk6_76 rfl (Nat.le_of_ble_eq_true rfl) ⟨Nat.le_of_ble_eq_true rfl, Nat.le_of_ble_eq_true rfl⟩ dX6_spanned_110 rfl rfl ?_
          obtain ⟨r32, qr32, h⟩ := bd_i h
          refine q_callV C 0 0 0 (c_less qr32) rfl mw_self rfl ok_less in_less lk6_105 rfl (Nat.le_of_ble_eq_true rfl) ⟨Nat.le_of_ble_eq_true rfl, Nat.le_of_ble_eq_true rfl⟩ dX6_spanned_113 rfl rfl ?_
          refine r_lstore C (lv' := [(6, .long r32), (5, .int ((3 : Int32))), (4, .int ((2 : Int32))), (3, .int ((0 : Int32))), (0, .ref h0), (1, .int l1), (2, .int s.1)]) dX6_spanned_116 (by decide) rfl ?_
          refine r_aload_n C 4 rfl dX6_spanned_118 rfl ?_
          refine m_g_draft C dX6_spanned_119 ?_
          refine r_iload_n C 6 rfl dX6_spanned_122 rfl ?_
          refine r_iload_n C 6 rfl dX6_spanned_123 rfl ?_
          refine r_iconst C (v := 2) dX6_spanned_124 (by decide) ?_
          refine r_irem C dX6_spanned_125 (by decide) ?_
          refine r_if_ne C (tgt := 134) dX6_spanned_126 (by decide) (fun hc => ?_) (fun hc => ?_)
          · replace h := br_n hc h
            refine r_aload_n C 4 rfl dX6_spanned_134 rfl ?_
            refine r_lconst C (v := 0) dX6_spanned_135 (by decide) ?_
            refine r_lload C 0 rfl dX6_spanned_136 ?_
            obtain ⟨r33, qr33, h⟩ := bd_i h
            refine q_callV C 2 0 0 (c_less qr33) rfl mw_self rfl ok_less in_less lk6_105 rfl (Nat.le_of_ble_eq_true rfl) ⟨Nat.le_of_ble_eq_true rfl, Nat.le_of_ble_eq_true rfl⟩ dX6_spanned_138 rfl rfl ?_
            obtain ⟨hi, h⟩ := gd_t h
            refine m_s_draft C hi dX6_spanned_141 ?_
            refine r_iinc C (v := s.1 + 1) (lv' := [(2, .int (s.1 + 1)), (6, .long r32), (5, .int ((3 : Int32))), (4, .int ((2 : Int32))), (3, .int ((0 : Int32))), (0, .ref h0), (1, .int l1)]) 6 rfl dX6_spanned_142 rfl (by decide) rfl ?_
            refine r_goto C (tgt := 6) dX6_spanned_145 (by decide) ?_
            refine r_lv [5, 6, 0] rfl ?_
            exact kl _ (sm_i h)
          · replace h := br_p hc h
            refine r_lload C 0 rfl dX6_spanned_129 ?_
            refine r_goto C (tgt := 141) dX6_spanned_131 (by decide) ?_
            obtain ⟨hi, h⟩ := gd_t h
            refine m_s_draft C hi dX6_spanned_141 ?_
            refine r_iinc C (v := s.1 + 1) (lv' := [(2, .int (s.1 + 1)), (6, .long r32), (5, .int ((3 : Int32))), (4, .int ((2 : Int32))), (3, .int ((0 : Int32))), (0, .ref h0), (1, .int l1)]) 6 rfl dX6_spanned_142 rfl (by decide) rfl ?_
            refine r_goto C (tgt := 6) dX6_spanned_145 (by decide) ?_
            refine r_lv [5, 6, 0] rfl ?_
            exact kl _ (sm_i h)
    · replace h := br_p hc h
      refine r_iconst C (v := 1) dX6_spanned_15 (by decide) ?_
      refine r_goto C (tgt := 20) dX6_spanned_16 (by decide) ?_
      refine r_istore_n C (lv' := [(3, .int ((1 : Int32))), (0, .ref h0), (1, .int l1), (2, .int s.1)]) dX6_spanned_20 rfl (by decide) rfl ?_
      refine r_iload_n C 3 rfl dX6_spanned_21 rfl ?_
      refine r_iconst C (v := 2) dX6_spanned_22 (by decide) ?_
      refine r_icmp_ge C (tgt := 30) dX6_spanned_23 (by decide) (fun hc => ?_) (fun hc => ?_)
      · replace h := br_p hc h
        refine r_iconst C (v := 1) dX6_spanned_30 (by decide) ?_
        refine r_istore C (lv' := [(4, .int ((1 : Int32))), (3, .int ((1 : Int32))), (0, .ref h0), (1, .int l1), (2, .int s.1)]) dX6_spanned_31 (by decide) rfl ?_
        refine r_iload_n C 4 rfl dX6_spanned_33 rfl ?_
        refine r_iconst C (v := 3) dX6_spanned_34 (by decide) ?_
        refine r_icmp_ge C (tgt := 42) dX6_spanned_35 (by decide) (fun hc => ?_) (fun hc => ?_)
        · replace h := br_p hc h
          refine r_iconst C (v := 2) dX6_spanned_42 (by decide) ?_
          refine r_istore C (lv' := [(5, .int ((2 : Int32))), (4, .int ((1 : Int32))), (3, .int ((1 : Int32))), (0, .ref h0), (1, .int l1), (2, .int s.1)]) dX6_spanned_43 (by decide) rfl ?_
          refine r_aload_n C 3 rfl dX6_spanned_45 rfl ?_
          refine r_aload_n C 3 rfl dX6_spanned_46 rfl ?_
          refine r_iload_n C 4 rfl dX6_spanned_47 rfl ?_
          refine r_iload_n C 2 rfl dX6_spanned_48 rfl ?_
          refine r_iload C 1 rfl dX6_spanned_49 ?_
          obtain ⟨r34, qr34, h⟩ := bd_i h
          refine q_callV C 1 0 0 (c_entry qr34) rfl mw_self rfl ok_entry in_entry lk6_142 rfl (Nat.le_of_ble_eq_true rfl) ⟨Nat.le_of_ble_eq_true rfl, Nat.le_of_ble_eq_true rfl⟩ dX6_spanned_51 rfl rfl ?_
          refine r_aload_n C 3 rfl dX6_spanned_54 rfl ?_
          refine m_g_one C dX6_spanned_55 ?_
          refine r_iload C 0 rfl dX6_spanned_58 ?_
          refine m_l_one C (by decide) dX6_spanned_60 ?_
          obtain ⟨r35, qr35, h⟩ := bd_i h
          refine q_callV C 0 0 0 (c_times qr35) rfl mw_self rfl ok_times in_times lk6_76 rfl (Nat.le_of_ble_eq_true rfl) ⟨Nat.le_of_ble_eq_true rfl, Nat.le_of_ble_eq_true rfl⟩ dX6_spanned_61 rfl rfl ?_
          refine r_aload_n C 3 rfl dX6_spanned_64 rfl ?_
          refine r_aload_n C 3 rfl dX6_spanned_65 rfl ?_
          refine r_iload_n C 4 rfl dX6_spanned_66 rfl ?_
          refine r_iload C 1 rfl dX6_spanned_67 ?_
          refine r_iload C 0 rfl dX6_spanned_69 ?_
          obtain ⟨r36, qr36, h⟩ := bd_i h
          refine q_callV C 3 0 0 (c_entry qr36) rfl mw_self rfl ok_entry in_entry lk6_142 rfl (Nat.le_of_ble_eq_true rfl) ⟨Nat.le_of_ble_eq_true rfl, Nat.le_of_ble_eq_true rfl⟩ dX6_spanned_71 rfl rfl ?_
          refine r_aload_n C 3 rfl dX6_spanned_74 rfl ?_
          refine m_g_one C dX6_spanned_75 ?_
          refine r_iload_n C 2 rfl dX6_spanned_78 rfl ?_
          refine m_l_one C (by decide) dX6_spanned_79 ?_
          obtain ⟨r37, qr37, h⟩ := bd_i h
          refine q_callV C 2 0 0 (c_times qr37) rfl mw_self rfl ok_times in_times lk6_76 rfl (Nat.le_of_ble_eq_true rfl) ⟨Nat.le_of_ble_eq_true rfl, Nat.le_of_ble_eq_true rfl⟩ dX6_spanned_80 rfl rfl ?_
          refine r_ladd C dX6_spanned_83 ?_
          refine r_aload_n C 3 rfl dX6_spanned_84 rfl ?_
          refine m_g_p C dX6_spanned_85 ?_
          obtain ⟨hne, h⟩ := gd_n h
          refine r_lrem C dX6_spanned_88 hne ?_
          refine r_lstore C (lv' := [(6, .long ((r35 + r37) - (r35 + r37) / p * p)), (5, .int ((2 : Int32))), (4, .int ((1 : Int32))), (3, .int ((1 : Int32))), (0, .ref h0), (1, .int l1), (2, .int s.1)]) dX6_spanned_89 (by decide) rfl ?_
          refine r_aload_n C 4 rfl dX6_spanned_91 rfl ?_
          refine r_lload C 0 rfl dX6_spanned_92 ?_
          refine r_aload_n C 4 rfl dX6_spanned_94 rfl ?_
          refine r_aload_n C 4 rfl dX6_spanned_95 rfl ?_
          refine r_iload_n C 5 rfl dX6_spanned_96 rfl ?_
          refine r_iload_n C 3 rfl dX6_spanned_97 rfl ?_
          refine r_iload C 1 rfl dX6_spanned_98 ?_
          obtain ⟨r38, qr38, h⟩ := bd_i h
          refine q_callV C 4 0 0 (c_entry qr38) rfl mw_self rfl ok_entry in_entry lk6_142 rfl (Nat.le_of_ble_eq_true rfl) ⟨Nat.le_of_ble_eq_true rfl, Nat.le_of_ble_eq_true rfl⟩ dX6_spanned_100 rfl rfl ?_
          refine r_aload_n C 4 rfl dX6_spanned_103 rfl ?_
          refine m_g_one C dX6_spanned_104 ?_
          refine r_iload C 2 rfl dX6_spanned_107 ?_
          refine m_l_one C (by decide) dX6_spanned_109 ?_
          obtain ⟨r39, qr39, h⟩ := bd_i h
          refine q_callV C 3 0 0 (c_times qr39) rfl mw_self rfl ok_times in_times lk6_76 rfl (Nat.le_of_ble_eq_true rfl) ⟨Nat.le_of_ble_eq_true rfl, Nat.le_of_ble_eq_true rfl⟩ dX6_spanned_110 rfl rfl ?_
          obtain ⟨r40, qr40, h⟩ := bd_i h
          refine q_callV C 0 0 0 (c_less qr40) rfl mw_self rfl ok_less in_less lk6_105 rfl (Nat.le_of_ble_eq_true rfl) ⟨Nat.le_of_ble_eq_true rfl, Nat.le_of_ble_eq_true rfl⟩ dX6_spanned_113 rfl rfl ?_
          refine r_lstore C (lv' := [(6, .long r40), (5, .int ((2 : Int32))), (4, .int ((1 : Int32))), (3, .int ((1 : Int32))), (0, .ref h0), (1, .int l1), (2, .int s.1)]) dX6_spanned_116 (by decide) rfl ?_
          refine r_aload_n C 4 rfl dX6_spanned_118 rfl ?_
          refine m_g_draft C dX6_spanned_119 ?_
          refine r_iload_n C 6 rfl dX6_spanned_122 rfl ?_
          refine r_iload_n C 6 rfl dX6_spanned_123 rfl ?_
          refine r_iconst C (v := 2) dX6_spanned_124 (by decide) ?_
          refine r_irem C dX6_spanned_125 (by decide) ?_
          refine r_if_ne C (tgt := 134) dX6_spanned_126 (by decide) (fun hc => ?_) (fun hc => ?_)
          · replace h := br_n hc h
            refine r_aload_n C 4 rfl dX6_spanned_134 rfl ?_
            refine r_lconst C (v := 0) dX6_spanned_135 (by decide) ?_
            refine r_lload C 0 rfl dX6_spanned_136 ?_
            obtain ⟨r41, qr41, h⟩ := bd_i h
            refine q_callV C 2 0 0 (c_less qr41) rfl mw_self rfl ok_less in_less lk6_105 rfl (Nat.le_of_ble_eq_true rfl) ⟨Nat.le_of_ble_eq_true rfl, Nat.le_of_ble_eq_true rfl⟩ dX6_spanned_138 rfl rfl ?_
            obtain ⟨hi, h⟩ := gd_t h
            refine m_s_draft C hi dX6_spanned_141 ?_
            refine r_iinc C (v := s.1 + 1) (lv' := [(2, .int (s.1 + 1)), (6, .long r40), (5, .int ((2 : Int32))), (4, .int ((1 : Int32))), (3, .int ((1 : Int32))), (0, .ref h0), (1, .int l1)]) 6 rfl dX6_spanned_142 rfl (by decide) rfl ?_
            refine r_goto C (tgt := 6) dX6_spanned_145 (by decide) ?_
            refine r_lv [5, 6, 0] rfl ?_
            exact kl _ (sm_i h)
          · replace h := br_p hc h
            refine r_lload C 0 rfl dX6_spanned_129 ?_
            refine r_goto C (tgt := 141) dX6_spanned_131 (by decide) ?_
            obtain ⟨hi, h⟩ := gd_t h
            refine m_s_draft C hi dX6_spanned_141 ?_
            refine r_iinc C (v := s.1 + 1) (lv' := [(2, .int (s.1 + 1)), (6, .long r40), (5, .int ((2 : Int32))), (4, .int ((1 : Int32))), (3, .int ((1 : Int32))), (0, .ref h0), (1, .int l1)]) 6 rfl dX6_spanned_142 rfl (by decide) rfl ?_
            refine r_goto C (tgt := 6) dX6_spanned_145 (by decide) ?_
            refine r_lv [5, 6, 0] rfl ?_
            exact kl _ (sm_i h)
        · replace h := br_n hc h
          refine r_iconst C (v := 3) dX6_spanned_38 (by decide) ?_
          refine r_goto C (tgt := 43) dX6_spanned_39 (by decide) ?_
          refine r_istore C (lv' := [(5, .int ((3 : Int32))), (4, .int ((1 : Int32))), (3, .int ((1 : Int32))), (0, .ref h0), (1, .int l1), (2, .int s.1)]) dX6_spanned_43 (by decide) rfl ?_
          refine r_aload_n C 3 rfl dX6_spanned_45 rfl ?_
          refine r_aload_n C 3 rfl dX6_spanned_46 rfl ?_
          refine r_iload_n C 4 rfl dX6_spanned_47 rfl ?_
          refine r_iload_n C 2 rfl dX6_spanned_48 rfl ?_
          refine r_iload C 1 rfl dX6_spanned_49 ?_
          obtain ⟨r42, qr42, h⟩ := bd_i h
          refine q_callV C 1 0 0 (c_entry qr42) rfl mw_self rfl ok_entry in_entry lk6_142 rfl (Nat.le_of_ble_eq_true rfl) ⟨Nat.le_of_ble_eq_true rfl, Nat.le_of_ble_eq_true rfl⟩ dX6_spanned_51 rfl rfl ?_
          refine r_aload_n C 3 rfl dX6_spanned_54 rfl ?_
          refine m_g_one C dX6_spanned_55 ?_
          refine r_iload C 0 rfl dX6_spanned_58 ?_
          refine m_l_one C (by decide) dX6_spanned_60 ?_
          obtain ⟨r43, qr43, h⟩ := bd_i h
          refine q_callV C 0 0 0 (c_times qr43) rfl mw_self rfl ok_times in_times lk6_76 rfl (Nat.le_of_ble_eq_true rfl) ⟨Nat.le_of_ble_eq_true rfl, Nat.le_of_ble_eq_true rfl⟩ dX6_spanned_61 rfl rfl ?_
          refine r_aload_n C 3 rfl dX6_spanned_64 rfl ?_
          refine r_aload_n C 3 rfl dX6_spanned_65 rfl ?_
          refine r_iload_n C 4 rfl dX6_spanned_66 rfl ?_
          refine r_iload C 1 rfl dX6_spanned_67 ?_
          refine r_iload C 0 rfl dX6_spanned_69 ?_
          obtain ⟨r44, qr44, h⟩ := bd_i h
          refine q_callV C 3 0 0 (c_entry qr44) rfl mw_self rfl ok_entry in_entry lk6_142 rfl (Nat.le_of_ble_eq_true rfl) ⟨Nat.le_of_ble_eq_true rfl, Nat.le_of_ble_eq_true rfl⟩ dX6_spanned_71 rfl rfl ?_
          refine r_aload_n C 3 rfl dX6_spanned_74 rfl ?_
          refine m_g_one C dX6_spanned_75 ?_
          refine r_iload_n C 2 rfl dX6_spanned_78 rfl ?_
          refine m_l_one C (by decide) dX6_spanned_79 ?_
          obtain ⟨r45, qr45, h⟩ := bd_i h
          refine q_callV C 2 0 0 (c_times qr45) rfl mw_self rfl ok_times in_times lk6_76 rfl (Nat.le_of_ble_eq_true rfl) ⟨Nat.le_of_ble_eq_true rfl, Nat.le_of_ble_eq_true rfl⟩ dX6_spanned_80 rfl rfl ?_
          refine r_ladd C dX6_spanned_83 ?_
          refine r_aload_n C 3 rfl dX6_spanned_84 rfl ?_
          refine m_g_p C dX6_spanned_85 ?_
          obtain ⟨hne, h⟩ := gd_n h
          refine r_lrem C dX6_spanned_88 hne ?_
          refine r_lstore C (lv' := [(6, .long ((r43 + r45) - (r43 + r45) / p * p)), (5, .int ((3 : Int32))), (4, .int ((1 : Int32))), (3, .int ((1 : Int32))), (0, .ref h0), (1, .int l1), (2, .int s.1)]) dX6_spanned_89 (by decide) rfl ?_
          refine r_aload_n C 4 rfl dX6_spanned_91 rfl ?_
          refine r_lload C 0 rfl dX6_spanned_92 ?_
          refine r_aload_n C 4 rfl dX6_spanned_94 rfl ?_
          refine r_aload_n C 4 rfl dX6_spanned_95 rfl ?_
          refine r_iload_n C 5 rfl dX6_spanned_96 rfl ?_
          refine r_iload_n C 3 rfl dX6_spanned_97 rfl ?_
          refine r_iload C 1 rfl dX6_spanned_98 ?_
          obtain ⟨r46, qr46, h⟩ := bd_i h
          refine q_callV C 4 0 0 (c_entry qr46) rfl mw_self rfl ok_entry in_entry lk6_142 rfl (Nat.le_of_ble_eq_true rfl) ⟨Nat.le_of_ble_eq_true rfl, Nat.le_of_ble_eq_true rfl⟩ dX6_spanned_100 rfl rfl ?_
          refine r_aload_n C 4 rfl dX6_spanned_103 rfl ?_
          refine m_g_one C dX6_spanned_104 ?_
          refine r_iload C 2 rfl dX6_spanned_107 ?_
          refine m_l_one C (by decide) dX6_spanned_109 ?_
          obtain ⟨r47, qr47, h⟩ := bd_i h
          refine q_callV C 3 0 0 (c_times qr47) rfl mw_self rfl ok_times in_times lk6_76 rfl (Nat.le_of_ble_eq_true rfl) ⟨Nat.le_of_ble_eq_true rfl, Nat.le_of_ble_eq_true rfl⟩ dX6_spanned_110 rfl rfl ?_
          obtain ⟨r48, qr48, h⟩ := bd_i h
          refine q_callV C 0 0 0 (c_less qr48) rfl mw_self rfl ok_less in_less lk6_105 rfl (Nat.le_of_ble_eq_true rfl) ⟨Nat.le_of_ble_eq_true rfl, Nat.le_of_ble_eq_true rfl⟩ dX6_spanned_113 rfl rfl ?_
          refine r_lstore C (lv' := [(6, .long r48), (5, .int ((3 : Int32))), (4, .int ((1 : Int32))), (3, .int ((1 : Int32))), (0, .ref h0), (1, .int l1), (2, .int s.1)]) dX6_spanned_116 (by decide) rfl ?_
          refine r_aload_n C 4 rfl dX6_spanned_118 rfl ?_
          refine m_g_draft C dX6_spanned_119 ?_
          refine r_iload_n C 6 rfl dX6_spanned_122 rfl ?_
          refine r_iload_n C 6 rfl dX6_spanned_123 rfl ?_
          refine r_iconst C (v := 2) dX6_spanned_124 (by decide) ?_
          refine r_irem C dX6_spanned_125 (by decide) ?_
          refine r_if_ne C (tgt := 134) dX6_spanned_126 (by decide) (fun hc => ?_) (fun hc => ?_)
          · replace h := br_n hc h
            refine r_aload_n C 4 rfl dX6_spanned_134 rfl ?_
            refine r_lconst C (v := 0) dX6_spanned_135 (by decide) ?_
            refine r_lload C 0 rfl dX6_spanned_136 ?_
            obtain ⟨r49, qr49, h⟩ := bd_i h
            refine q_callV C 2 0 0 (c_less qr49) rfl mw_self rfl ok_less in_less lk6_105 rfl (Nat.le_of_ble_eq_true rfl) ⟨Nat.le_of_ble_eq_true rfl, Nat.le_of_ble_eq_true rfl⟩ dX6_spanned_138 rfl rfl ?_
            obtain ⟨hi, h⟩ := gd_t h
            refine m_s_draft C hi dX6_spanned_141 ?_
            refine r_iinc C (v := s.1 + 1) (lv' := [(2, .int (s.1 + 1)), (6, .long r48), (5, .int ((3 : Int32))), (4, .int ((1 : Int32))), (3, .int ((1 : Int32))), (0, .ref h0), (1, .int l1)]) 6 rfl dX6_spanned_142 rfl (by decide) rfl ?_
            refine r_goto C (tgt := 6) dX6_spanned_145 (by decide) ?_
            refine r_lv [5, 6, 0] rfl ?_
            exact kl _ (sm_i h)
          · replace h := br_p hc h
            refine r_lload C 0 rfl dX6_spanned_129 ?_
            refine r_goto C (tgt := 141) dX6_spanned_131 (by decide) ?_
            obtain ⟨hi, h⟩ := gd_t h
            refine m_s_draft C hi dX6_spanned_141 ?_
            refine r_iinc C (v := s.1 + 1) (lv' := [(2, .int (s.1 + 1)), (6, .long r48), (5, .int ((3 : Int32))), (4, .int ((1 : Int32))), (3, .int ((1 : Int32))), (0, .ref h0), (1, .int l1)]) 6 rfl dX6_spanned_142 rfl (by decide) rfl ?_
            refine r_goto C (tgt := 6) dX6_spanned_145 (by decide) ?_
            refine r_lv [5, 6, 0] rfl ?_
            exact kl _ (sm_i h)
      · replace h := br_n hc h
        refine r_iconst C (v := 2) dX6_spanned_26 (by decide) ?_
        refine r_goto C (tgt := 31) dX6_spanned_27 (by decide) ?_
        refine r_istore C (lv' := [(4, .int ((2 : Int32))), (3, .int ((1 : Int32))), (0, .ref h0), (1, .int l1), (2, .int s.1)]) dX6_spanned_31 (by decide) rfl ?_
        refine r_iload_n C 4 rfl dX6_spanned_33 rfl ?_
        refine r_iconst C (v := 3) dX6_spanned_34 (by decide) ?_
        refine r_icmp_ge C (tgt := 42) dX6_spanned_35 (by decide) (fun hc => ?_) (fun hc => ?_)
        · replace h := br_p hc h
          refine r_iconst C (v := 2) dX6_spanned_42 (by decide) ?_
          refine r_istore C (lv' := [(5, .int ((2 : Int32))), (4, .int ((2 : Int32))), (3, .int ((1 : Int32))), (0, .ref h0), (1, .int l1), (2, .int s.1)]) dX6_spanned_43 (by decide) rfl ?_
          refine r_aload_n C 3 rfl dX6_spanned_45 rfl ?_
          refine r_aload_n C 3 rfl dX6_spanned_46 rfl ?_
          refine r_iload_n C 4 rfl dX6_spanned_47 rfl ?_
          refine r_iload_n C 2 rfl dX6_spanned_48 rfl ?_
          refine r_iload C 1 rfl dX6_spanned_49 ?_
          obtain ⟨r50, qr50, h⟩ := bd_i h
          refine q_callV C 1 0 0 (c_entry qr50) rfl mw_self rfl ok_entry in_entry lk6_142 rfl (Nat.le_of_ble_eq_true rfl) ⟨Nat.le_of_ble_eq_true rfl, Nat.le_of_ble_eq_true rfl⟩ dX6_spanned_51 rfl rfl ?_
          refine r_aload_n C 3 rfl dX6_spanned_54 rfl ?_
          refine m_g_one C dX6_spanned_55 ?_
          refine r_iload C 0 rfl dX6_spanned_58 ?_
          refine m_l_one C (by decide) dX6_spanned_60 ?_
          obtain ⟨r51, qr51, h⟩ := bd_i h
          refine q_callV C 0 0 0 (c_times qr51) rfl mw_self rfl ok_times in_times lk6_76 rfl (Nat.le_of_ble_eq_true rfl) ⟨Nat.le_of_ble_eq_true rfl, Nat.le_of_ble_eq_true rfl⟩ dX6_spanned_61 rfl rfl ?_
          refine r_aload_n C 3 rfl dX6_spanned_64 rfl ?_
          refine r_aload_n C 3 rfl dX6_spanned_65 rfl ?_
          refine r_iload_n C 4 rfl dX6_spanned_66 rfl ?_
          refine r_iload C 1 rfl dX6_spanned_67 ?_
          refine r_iload C 0 rfl dX6_spanned_69 ?_
          obtain ⟨r52, qr52, h⟩ := bd_i h
          refine q_callV C 3 0 0 (c_entry qr52) rfl mw_self rfl ok_entry in_entry lk6_142 rfl (Nat.le_of_ble_eq_true rfl) ⟨Nat.le_of_ble_eq_true rfl, Nat.le_of_ble_eq_true rfl⟩ dX6_spanned_71 rfl rfl ?_
          refine r_aload_n C 3 rfl dX6_spanned_74 rfl ?_
          refine m_g_one C dX6_spanned_75 ?_
          refine r_iload_n C 2 rfl dX6_spanned_78 rfl ?_
          refine m_l_one C (by decide) dX6_spanned_79 ?_
          obtain ⟨r53, qr53, h⟩ := bd_i h
          refine q_callV C 2 0 0 (c_times qr53) rfl mw_self rfl ok_times in_times lk6_76 rfl (Nat.le_of_ble_eq_true rfl) ⟨Nat.le_of_ble_eq_true rfl, Nat.le_of_ble_eq_true rfl⟩ dX6_spanned_80 rfl rfl ?_
          refine r_ladd C dX6_spanned_83 ?_
          refine r_aload_n C 3 rfl dX6_spanned_84 rfl ?_
          refine m_g_p C dX6_spanned_85 ?_
          obtain ⟨hne, h⟩ := gd_n h
          refine r_lrem C dX6_spanned_88 hne ?_
          refine r_lstore C (lv' := [(6, .long ((r51 + r53) - (r51 + r53) / p * p)), (5, .int ((2 : Int32))), (4, .int ((2 : Int32))), (3, .int ((1 : Int32))), (0, .ref h0), (1, .int l1), (2, .int s.1)]) dX6_spanned_89 (by decide) rfl ?_
          refine r_aload_n C 4 rfl dX6_spanned_91 rfl ?_
          refine r_lload C 0 rfl dX6_spanned_92 ?_
          refine r_aload_n C 4 rfl dX6_spanned_94 rfl ?_
          refine r_aload_n C 4 rfl dX6_spanned_95 rfl ?_
          refine r_iload_n C 5 rfl dX6_spanned_96 rfl ?_
          refine r_iload_n C 3 rfl dX6_spanned_97 rfl ?_
          refine r_iload C 1 rfl dX6_spanned_98 ?_
          obtain ⟨r54, qr54, h⟩ := bd_i h
          refine q_callV C 4 0 0 (c_entry qr54) rfl mw_self rfl ok_entry in_entry lk6_142 rfl (Nat.le_of_ble_eq_true rfl) ⟨Nat.le_of_ble_eq_true rfl, Nat.le_of_ble_eq_true rfl⟩ dX6_spanned_100 rfl rfl ?_
          refine r_aload_n C 4 rfl dX6_spanned_103 rfl ?_
          refine m_g_one C dX6_spanned_104 ?_
          refine r_iload C 2 rfl dX6_spanned_107 ?_
          refine m_l_one C (by decide) dX6_spanned_109 ?_
          obtain ⟨r55, qr55, h⟩ := bd_i h
          refine q_callV C 3 0 0 (c_times qr55) rfl mw_self rfl ok_times in_times lk6_76 rfl (Nat.le_of_ble_eq_true rfl) ⟨Nat.le_of_ble_eq_true rfl, Nat.le_of_ble_eq_true rfl⟩ dX6_spanned_110 rfl rfl ?_
          obtain ⟨r56, qr56, h⟩ := bd_i h
          refine q_callV C 0 0 0 (c_less qr56) rfl mw_self rfl ok_less in_less lk6_105 rfl (Nat.le_of_ble_eq_true rfl) ⟨Nat.le_of_ble_eq_true rfl, Nat.le_of_ble_eq_true rfl⟩ dX6_spanned_113 rfl rfl ?_
          refine r_lstore C (lv' := [(6, .long r56), (5, .int ((2 : Int32))), (4, .int ((2 : Int32))), (3, .int ((1 : Int32))), (0, .ref h0), (1, .int l1), (2, .int s.1)]) dX6_spanned_116 (by decide) rfl ?_
          refine r_aload_n C 4 rfl dX6_spanned_118 rfl ?_
          refine m_g_draft C dX6_spanned_119 ?_
          refine r_iload_n C 6 rfl dX6_spanned_122 rfl ?_
          refine r_iload_n C 6 rfl dX6_spanned_123 rfl ?_
          refine r_iconst C (v := 2) dX6_spanned_124 (by decide) ?_
          refine r_irem C dX6_spanned_125 (by decide) ?_
          refine r_if_ne C (tgt := 134) dX6_spanned_126 (by decide) (fun hc => ?_) (fun hc => ?_)
          · replace h := br_n hc h
            refine r_aload_n C 4 rfl dX6_spanned_134 rfl ?_
            refine r_lconst C (v := 0) dX6_spanned_135 (by decide) ?_
            refine r_lload C 0 rfl dX6_spanned_136 ?_
            obtain ⟨r57, qr57, h⟩ := bd_i h
            refine q_callV C 2 0 0 (c_less qr57) rfl mw_self rfl ok_less in_less lk6_105 rfl (Nat.le_of_ble_eq_true rfl) ⟨Nat.le_of_ble_eq_true rfl, Nat.le_of_ble_eq_true rfl⟩ dX6_spanned_138 rfl rfl ?_
            obtain ⟨hi, h⟩ := gd_t h
            refine m_s_draft C hi dX6_spanned_141 ?_
            refine r_iinc C (v := s.1 + 1) (lv' := [(2, .int (s.1 + 1)), (6, .long r56), (5, .int ((2 : Int32))), (4, .int ((2 : Int32))), (3, .int ((1 : Int32))), (0, .ref h0), (1, .int l1)]) 6 rfl dX6_spanned_142 rfl (by decide) rfl ?_
            refine r_goto C (tgt := 6) dX6_spanned_145 (by decide) ?_
            refine r_lv [5, 6, 0] rfl ?_
            exact kl _ (sm_i h)
          · replace h := br_p hc h
            refine r_lload C 0 rfl dX6_spanned_129 ?_
            refine r_goto C (tgt := 141) dX6_spanned_131 (by decide) ?_
            obtain ⟨hi, h⟩ := gd_t h
            refine m_s_draft C hi dX6_spanned_141 ?_
            refine r_iinc C (v := s.1 + 1) (lv' := [(2, .int (s.1 + 1)), (6, .long r56), (5, .int ((2 : Int32))), (4, .int ((2 : Int32))), (3, .int ((1 : Int32))), (0, .ref h0), (1, .int l1)]) 6 rfl dX6_spanned_142 rfl (by decide) rfl ?_
            refine r_goto C (tgt := 6) dX6_spanned_145 (by decide) ?_
            refine r_lv [5, 6, 0] rfl ?_
            exact kl _ (sm_i h)
        · replace h := br_n hc h
          refine r_iconst C (v := 3) dX6_spanned_38 (by decide) ?_
          refine r_goto C (tgt := 43) dX6_spanned_39 (by decide) ?_
          refine r_istore C (lv' := [(5, .int ((3 : Int32))), (4, .int ((2 : Int32))), (3, .int ((1 : Int32))), (0, .ref h0), (1, .int l1), (2, .int s.1)]) dX6_spanned_43 (by decide) rfl ?_
          refine r_aload_n C 3 rfl dX6_spanned_45 rfl ?_
          refine r_aload_n C 3 rfl dX6_spanned_46 rfl ?_
          refine r_iload_n C 4 rfl dX6_spanned_47 rfl ?_
          refine r_iload_n C 2 rfl dX6_spanned_48 rfl ?_
          refine r_iload C 1 rfl dX6_spanned_49 ?_
          obtain ⟨r58, qr58, h⟩ := bd_i h
          refine q_callV C 1 0 0 (c_entry qr58) rfl mw_self rfl ok_entry in_entry lk6_142 rfl (Nat.le_of_ble_eq_true rfl) ⟨Nat.le_of_ble_eq_true rfl, Nat.le_of_ble_eq_true rfl⟩ dX6_spanned_51 rfl rfl ?_
          refine r_aload_n C 3 rfl dX6_spanned_54 rfl ?_
          refine m_g_one C dX6_spanned_55 ?_
          refine r_iload C 0 rfl dX6_spanned_58 ?_
          refine m_l_one C (by decide) dX6_spanned_60 ?_
          obtain ⟨r59, qr59, h⟩ := bd_i h
          refine q_callV C 0 0 0 (c_times qr59) rfl mw_self rfl ok_times in_times lk6_76 rfl (Nat.le_of_ble_eq_true rfl) ⟨Nat.le_of_ble_eq_true rfl, Nat.le_of_ble_eq_true rfl⟩ dX6_spanned_61 rfl rfl ?_
          refine r_aload_n C 3 rfl dX6_spanned_64 rfl ?_
          refine r_aload_n C 3 rfl dX6_spanned_65 rfl ?_
          refine r_iload_n C 4 rfl dX6_spanned_66 rfl ?_
          refine r_iload C 1 rfl dX6_spanned_67 ?_
          refine r_iload C 0 rfl dX6_spanned_69 ?_
          obtain ⟨r60, qr60, h⟩ := bd_i h
          refine q_callV C 3 0 0 (c_entry qr60) rfl mw_self rfl ok_entry in_entry lk6_142 rfl (Nat.le_of_ble_eq_true rfl) ⟨Nat.le_of_ble_eq_true rfl, Nat.le_of_ble_eq_true rfl⟩ dX6_spanned_71 rfl rfl ?_
          refine r_aload_n C 3 rfl dX6_spanned_74 rfl ?_
          refine m_g_one C dX6_spanned_75 ?_
          refine r_iload_n C 2 rfl dX6_spanned_78 rfl ?_
          refine m_l_one C (by decide) dX6_spanned_79 ?_
          obtain ⟨r61, qr61, h⟩ := bd_i h
          refine q_callV C 2 0 0 (c_times qr61) rfl mw_self rfl ok_times in_times lk6_76 rfl (Nat.le_of_ble_eq_true rfl) ⟨Nat.le_of_ble_eq_true rfl, Nat.le_of_ble_eq_true rfl⟩ dX6_spanned_80 rfl rfl ?_
          refine r_ladd C dX6_spanned_83 ?_
          refine r_aload_n C 3 rfl dX6_spanned_84 rfl ?_
          refine m_g_p C dX6_spanned_85 ?_
          obtain ⟨hne, h⟩ := gd_n h
          refine r_lrem C dX6_spanned_88 hne ?_
          refine r_lstore C (lv' := [(6, .long ((r59 + r61) - (r59 + r61) / p * p)), (5, .int ((3 : Int32))), (4, .int ((2 : Int32))), (3, .int ((1 : Int32))), (0, .ref h0), (1, .int l1), (2, .int s.1)]) dX6_spanned_89 (by decide) rfl ?_
          refine r_aload_n C 4 rfl dX6_spanned_91 rfl ?_
          refine r_lload C 0 rfl dX6_spanned_92 ?_
          refine r_aload_n C 4 rfl dX6_spanned_94 rfl ?_
          refine r_aload_n C 4 rfl dX6_spanned_95 rfl ?_
          refine r_iload_n C 5 rfl dX6_spanned_96 rfl ?_
          refine r_iload_n C 3 rfl dX6_spanned_97 rfl ?_
          refine r_iload C 1 rfl dX6_spanned_98 ?_
          obtain ⟨r62, qr62, h⟩ := bd_i h
          refine q_callV C 4 0 0 (c_entry qr62) rfl mw_self rfl ok_entry in_entry lk6_142 rfl (Nat.le_of_ble_eq_true rfl) ⟨Nat.le_of_ble_eq_true rfl, Nat.le_of_ble_eq_true rfl⟩ dX6_spanned_100 rfl rfl ?_
          refine r_aload_n C 4 rfl dX6_spanned_103 rfl ?_
          refine m_g_one C dX6_spanned_104 ?_
          refine r_iload C 2 rfl dX6_spanned_107 ?_
          refine m_l_one C (by decide) dX6_spanned_109 ?_
          obtain ⟨r63, qr63, h⟩ := bd_i h
          refine q_callV C 3 0 0 (c_times qr63) rfl mw_self rfl ok_times in_times lk6_76 rfl (Nat.le_of_ble_eq_true rfl) ⟨Nat.le_of_ble_eq_true rfl, Nat.le_of_ble_eq_true rfl⟩ dX6_spanned_110 rfl rfl ?_
          obtain ⟨r64, qr64, h⟩ := bd_i h
          refine q_callV C 0 0 0 (c_less qr64) rfl mw_self rfl ok_less in_less lk6_105 rfl (Nat.le_of_ble_eq_true rfl) ⟨Nat.le_of_ble_eq_true rfl, Nat.le_of_ble_eq_true rfl⟩ dX6_spanned_113 rfl rfl ?_
          refine r_lstore C (lv' := [(6, .long r64), (5, .int ((3 : Int32))), (4, .int ((2 : Int32))), (3, .int ((1 : Int32))), (0, .ref h0), (1, .int l1), (2, .int s.1)]) dX6_spanned_116 (by decide) rfl ?_
          refine r_aload_n C 4 rfl dX6_spanned_118 rfl ?_
          refine m_g_draft C dX6_spanned_119 ?_
          refine r_iload_n C 6 rfl dX6_spanned_122 rfl ?_
          refine r_iload_n C 6 rfl dX6_spanned_123 rfl ?_
          refine r_iconst C (v := 2) dX6_spanned_124 (by decide) ?_
          refine r_irem C dX6_spanned_125 (by decide) ?_
          refine r_if_ne C (tgt := 134) dX6_spanned_126 (by decide) (fun hc => ?_) (fun hc => ?_)
          · replace h := br_n hc h
            refine r_aload_n C 4 rfl dX6_spanned_134 rfl ?_
            refine r_lconst C (v := 0) dX6_spanned_135 (by decide) ?_
            refine r_lload C 0 rfl dX6_spanned_136 ?_
            obtain ⟨r65, qr65, h⟩ := bd_i h
            refine q_callV C 2 0 0 (c_less qr65) rfl mw_self rfl ok_less in_less lk6_105 rfl (Nat.le_of_ble_eq_true rfl) ⟨Nat.le_of_ble_eq_true rfl, Nat.le_of_ble_eq_true rfl⟩ dX6_spanned_138 rfl rfl ?_
            obtain ⟨hi, h⟩ := gd_t h
            refine m_s_draft C hi dX6_spanned_141 ?_
            refine r_iinc C (v := s.1 + 1) (lv' := [(2, .int (s.1 + 1)), (6, .long r64), (5, .int ((3 : Int32))), (4, .int ((2 : Int32))), (3, .int ((1 : Int32))), (0, .ref h0), (1, .int l1)]) 6 rfl dX6_spanned_142 rfl (by decide) rfl ?_
            refine r_goto C (tgt := 6) dX6_spanned_145 (by decide) ?_
            refine r_lv [5, 6, 0] rfl ?_
            exact kl _ (sm_i h)
          · replace h := br_p hc h
            refine r_lload C 0 rfl dX6_spanned_129 ?_
            refine r_goto C (tgt := 141) dX6_spanned_131 (by decide) ?_
            obtain ⟨hi, h⟩ := gd_t h
            refine m_s_draft C hi dX6_spanned_141 ?_
            refine r_iinc C (v := s.1 + 1) (lv' := [(2, .int (s.1 + 1)), (6, .long r64), (5, .int ((3 : Int32))), (4, .int ((2 : Int32))), (3, .int ((1 : Int32))), (0, .ref h0), (1, .int l1)]) 6 rfl dX6_spanned_142 rfl (by decide) rfl ?_
            refine r_goto C (tgt := 6) dX6_spanned_145 (by decide) ?_
            refine r_lv [5, 6, 0] rfl ?_
            exact kl _ (sm_i h)
set_option maxHeartbeats 4000000 in
set_option maxRecDepth 100000 in
theorem c_spanned {G : gT} {h0 : Nat} {hp : cH} {sz : Nat} {n : Int32} {p : Int64} {count : Int32} {sorts : Nat → Int32} {rows : Nat → Int64} {hand : Nat → Int64} {gathered : Int32} {gather : Nat → Int32} {paired : Int32} {pairA : Nat → Int32} {pairB : Nat → Int32} {ideal : Int32} {draft : Nat → Int64} {frame : Nat → Int64} {one : Nat → Int64} {two : Nat → Int64} {turned : Nat → Int64} {placeI : Int32} {placeJ : Int32} {formA : Int64} {formB : Int64} {formC : Int64} {x1 : Int32} {out : (Nat → Int64)} (h : m_spanned p rows draft one x1 = some out) : aM G yX6_spanned cX6_spanned 8 none 2 37 0 0 [.ref h0, .int x1] (mw h0 hp n p count sorts rows hand gathered gather paired pairA pairB ideal draft frame one two turned placeI placeJ formA formB formC) sz ((none, mw h0 hp n p count sorts rows hand gathered gather paired pairA pairB ideal out frame one two turned placeI placeJ formA formB formC, sz) : oT) := by
  refine aM.of RX6 (by decide) rfl (Nat.le_of_ble_eq_true rfl) (fun K C => ?_)
  have hO : ((none, mw h0 hp n p count sorts rows hand gathered gather paired pairA pairB ideal out frame one two turned placeI placeJ formA formB formC, sz) : oT) = ((none, mw h0 hp n p count sorts rows hand gathered gather paired pairA pairB ideal out frame one two turned placeI placeJ formA formB formC, sz) : oT) := rfl
  refine r_lve (lv' := [(0, .ref h0), (1, .int x1)]) rfl ?_
  unfold m_spanned at h
  refine r_aload_n C 0 rfl dX6_spanned_0 rfl ?_
  obtain ⟨r1, qr1, h⟩ := bd_i h
  refine q_callVv C 0 0 0 (c_clear qr1) rfl mw_self rfl ok_clear in_clear lk6_136 rfl (Nat.le_of_ble_eq_true rfl) ⟨Nat.le_of_ble_eq_true rfl, Nat.le_of_ble_eq_true rfl⟩ dX6_spanned_1 rfl rfl ?_
  refine r_iconst C (v := 0) dX6_spanned_4 (by decide) ?_
  refine r_istore_n C (lv' := [(2, .int ((0 : Int32))), (0, .ref h0), (1, .int x1)]) dX6_spanned_5 rfl (by decide) rfl ?_
  refine r_lv [1, 2, 0] rfl ?_
  obtain ⟨r66, qr66, h⟩ := bd_i h
  refine w_spanned_L6 C qr66 ?_
  obtain rfl := sm_i h
  exact r_return C (Eq.symm hO) dX6_spanned_148
noncomputable def m_madeOrNone (n : Int32) (p : Int64) (count : Int32) (sorts : Nat → Int32) (rows : Nat → Int64) (draft : Nat → Int64) (x1 : Int32) : Option (Int32 × Int32 × (Nat → Int32) × (Nat → Int64) × (Nat → Int64)) := (m_isNothing n draft x1).bind fun r1 => if r1 = 0 then ((m_made n p count sorts rows draft x1).bind fun r2 => some (r2.1, r2.2.1, r2.2.2.1, r2.2.2.2.1, r2.2.2.2.2)) else (some ((-1 : Int32), count, sorts, rows, draft))
set_option maxHeartbeats 4000000 in
set_option maxRecDepth 100000 in
theorem c_madeOrNone {G : gT} {h0 : Nat} {hp : cH} {sz : Nat} {n : Int32} {p : Int64} {count : Int32} {sorts : Nat → Int32} {rows : Nat → Int64} {hand : Nat → Int64} {gathered : Int32} {gather : Nat → Int32} {paired : Int32} {pairA : Nat → Int32} {pairB : Nat → Int32} {ideal : Int32} {draft : Nat → Int64} {frame : Nat → Int64} {one : Nat → Int64} {two : Nat → Int64} {turned : Nat → Int64} {placeI : Int32} {placeJ : Int32} {formA : Int64} {formB : Int64} {formC : Int64} {x1 : Int32} {out : (Int32 × Int32 × (Nat → Int32) × (Nat → Int64) × (Nat → Int64))} (h : m_madeOrNone n p count sorts rows draft x1 = some out) : aM G yX6_madeOrNone cX6_madeOrNone 2 (some .int) 5 85 0 0 [.ref h0, .int x1] (mw h0 hp n p count sorts rows hand gathered gather paired pairA pairB ideal draft frame one two turned placeI placeJ formA formB formC) sz ((some (.int out.1), mw h0 hp n p out.2.1 out.2.2.1 out.2.2.2.1 hand gathered gather paired pairA pairB ideal out.2.2.2.2 frame one two turned placeI placeJ formA formB formC, sz) : oT) := by
  refine aM.of RX6 (by decide) rfl (Nat.le_of_ble_eq_true rfl) (fun K C => ?_)
  have hO : ((some (.int out.1), mw h0 hp n p out.2.1 out.2.2.1 out.2.2.2.1 hand gathered gather paired pairA pairB ideal out.2.2.2.2 frame one two turned placeI placeJ formA formB formC, sz) : oT) = ((some (.int out.1), mw h0 hp n p out.2.1 out.2.2.1 out.2.2.2.1 hand gathered gather paired pairA pairB ideal out.2.2.2.2 frame one two turned placeI placeJ formA formB formC, sz) : oT) := rfl
  refine r_lve (lv' := [(0, .ref h0), (1, .int x1)]) rfl ?_
  unfold m_madeOrNone at h
  refine r_aload_n C 0 rfl dX6_madeOrNone_0 rfl ?_
  refine r_iload_n C 1 rfl dX6_madeOrNone_1 rfl ?_
  obtain ⟨r1, qr1, h⟩ := bd_i h
  refine q_callV C 0 0 0 (c_isNothing qr1) rfl mw_self rfl ok_isNothing in_isNothing lk6_130 rfl (Nat.le_of_ble_eq_true rfl) ⟨Nat.le_of_ble_eq_true rfl, Nat.le_of_ble_eq_true rfl⟩ dX6_madeOrNone_2 rfl rfl ?_
  refine r_if_eq C (tgt := 12) dX6_madeOrNone_5 (by decide) (fun hc => ?_) (fun hc => ?_)
  · replace h := br_p hc h
    refine r_aload_n C 0 rfl dX6_madeOrNone_12 rfl ?_
    refine r_iload_n C 1 rfl dX6_madeOrNone_13 rfl ?_
    obtain ⟨r2, qr2, h⟩ := bd_i h
    refine q_callV C 0 0 0 (c_made qr2) rfl mw_self rfl ok_made in_made lk6_133 rfl (Nat.le_of_ble_eq_true rfl) ⟨Nat.le_of_ble_eq_true rfl, Nat.le_of_ble_eq_true rfl⟩ dX6_madeOrNone_14 rfl rfl ?_
    obtain rfl := sm_i h
    exact r_ireturn C (Eq.symm hO) dX6_madeOrNone_17
  · replace h := br_n hc h
    refine r_iconst C (v := -1) dX6_madeOrNone_8 (by decide) ?_
    refine r_goto C (tgt := 17) dX6_madeOrNone_9 (by decide) ?_
    obtain rfl := sm_i h
    exact r_ireturn C (Eq.symm hO) dX6_madeOrNone_17
noncomputable def m_isCrossed_L5J46 (p : Int64) (l3 : Int64) (l5 : Int32) (l6 : Int64) : Option ((Int64 × Int32) ⊕ Int64) := (m_less p l3 l6).bind fun r4 => some (.inl (r4, l5 + 1))
noncomputable def m_isCrossed_L5 (p : Int64) (rows : Nat → Int64) (l1 : Int32) (l2 : Int32) (s : (Int64 × Int32)) : Option ((Int64 × Int32) ⊕ Int64) := if ((6 : Int32)) ≤ s.2 then (some (.inr s.1)) else ((m_of rows l1 s.2).bind fun r1 => (m_of rows l2 (((5 : Int32)) - s.2)).bind fun r2 => (m_times p r1 r2).bind fun r3 => if s.2 = ((1 : Int32)) then (m_isCrossed_L5J46 p s.1 s.2 r3) else (if s.2 = ((4 : Int32)) then (m_isCrossed_L5J46 p s.1 s.2 r3) else (if p = 0 then none else some (.inl ((s.1 + r3) - (s.1 + r3) / p * p, s.2 + 1)))))
noncomputable def m_isCrossed (p : Int64) (rows : Nat → Int64) (x1 : Int32) (x2 : Int32) : Option Int32 := (itX (m_isCrossed_L5 p rows x1 x2) ((0 : Int64), (0 : Int32))).bind fun r5 => if r5 = ((0 : Int64)) then (some ((1 : Int32))) else (some ((0 : Int32)))
set_option maxHeartbeats 4000000 in
set_option maxRecDepth 100000 in
theorem w_isCrossed_L5J46 {K : kT} {O : oT} (C : aC K cX6_isCrossed RX6 "isCrossed" 1 17 0 0 8 (some .boolean) O) {h0 : Nat} {hp : cH} {sz : Nat} {n : Int32} {p : Int64} {count : Int32} {sorts : Nat → Int32} {rows : Nat → Int64} {hand : Nat → Int64} {gathered : Int32} {gather : Nat → Int32} {paired : Int32} {pairA : Nat → Int32} {pairB : Nat → Int32} {ideal : Int32} {draft : Nat → Int64} {frame : Nat → Int64} {one : Nat → Int64} {two : Nat → Int64} {turned : Nat → Int64} {placeI : Int32} {placeJ : Int32} {formA : Int64} {formB : Int64} {formC : Int64} {l1 : Int32} {l2 : Int32} {l3 : Int64} {l5 : Int32} {l6 : Int64}  {x : (Int64 × Int32) ⊕ Int64} (h : m_isCrossed_L5J46 p l3 l5 l6 = some x) (kl : ∀ s, x = .inl s → aW K (mw h0 hp n p count sorts rows hand gathered gather paired pairA pairB ideal draft frame one two turned placeI placeJ formA formB formC) sz 0 0 5 [(0, .ref h0), (1, .int l1), (2, .int l2), (3, .long s.1), (5, .int s.2)] []) (kr : ∀ r, x = .inr r → aW K (mw h0 hp n p count sorts rows hand gathered gather paired pairA pairB ideal draft frame one two turned placeI placeJ formA formB formC) sz 0 0 72 [(3, .long r)] []) : aW K (mw h0 hp n p count sorts rows hand gathered gather paired pairA pairB ideal draft frame one two turned placeI placeJ formA formB formC) sz 0 0 46 [(0, .ref h0), (1, .int l1), (2, .int l2), (3, .long l3), (5, .int l5), (6, .long l6)] [] := by
  unfold m_isCrossed_L5J46 at h
  refine r_aload_n C 0 rfl dX6_isCrossed_46 rfl ?_
  refine r_lload_n C 3 rfl dX6_isCrossed_47 rfl ?_
  refine r_lload C 5 rfl dX6_isCrossed_48 ?_
  obtain ⟨r4, qr4, h⟩ := bd_i h
  refine q_callV C 0 0 0 (c_less qr4) rfl mw_self rfl ok_less in_less lk6_105 rfl (Nat.le_of_ble_eq_true rfl) ⟨Nat.le_of_ble_eq_true rfl, Nat.le_of_ble_eq_true rfl⟩ dX6_isCrossed_50 rfl rfl ?_
  refine r_goto C (tgt := 65) dX6_isCrossed_53 (by decide) ?_
  refine r_lstore_n C (lv' := [(3, .long r4), (0, .ref h0), (1, .int l1), (2, .int l2), (5, .int l5), (6, .long l6)]) dX6_isCrossed_65 rfl (by decide) rfl ?_
  refine r_iinc C (v := l5 + 1) (lv' := [(5, .int (l5 + 1)), (3, .long r4), (0, .ref h0), (1, .int l1), (2, .int l2), (6, .long l6)]) 4 rfl dX6_isCrossed_66 rfl (by decide) rfl ?_
  refine r_goto C (tgt := 5) dX6_isCrossed_69 (by decide) ?_
  refine r_lv [2, 3, 4, 1, 0] rfl ?_
  exact kl _ (sm_i h)
set_option maxHeartbeats 4000000 in
set_option maxRecDepth 100000 in
theorem w_isCrossed_L5 {K : kT} {O : oT} (C : aC K cX6_isCrossed RX6 "isCrossed" 1 17 0 0 8 (some .boolean) O) {h0 : Nat} {hp : cH} {sz : Nat} {n : Int32} {p : Int64} {count : Int32} {sorts : Nat → Int32} {rows : Nat → Int64} {hand : Nat → Int64} {gathered : Int32} {gather : Nat → Int32} {paired : Int32} {pairA : Nat → Int32} {pairB : Nat → Int32} {ideal : Int32} {draft : Nat → Int64} {frame : Nat → Int64} {one : Nat → Int64} {two : Nat → Int64} {turned : Nat → Int64} {placeI : Int32} {placeJ : Int32} {formA : Int64} {formB : Int64} {formC : Int64} {l1 : Int32} {l2 : Int32} {v0 : Int64} {v1 : Int32} {r : Int64} (h : itX (m_isCrossed_L5 p rows l1 l2) (v0, v1) = some r) (hr : aW K (mw h0 hp n p count sorts rows hand gathered gather paired pairA pairB ideal draft frame one two turned placeI placeJ formA formB formC) sz 0 0 72 [(3, .long r)] []) : aW K (mw h0 hp n p count sorts rows hand gathered gather paired pairA pairB ideal draft frame one two turned placeI placeJ formA formB formC) sz 0 0 5 [(0, .ref h0), (1, .int l1), (2, .int l2), (3, .long v0), (5, .int v1)] [] := by
  refine it_walk (f := m_isCrossed_L5 p rows l1 l2) (P := fun s => aW K (mw h0 hp n p count sorts rows hand gathered gather paired pairA pairB ideal draft frame one two turned placeI placeJ formA formB formC) sz 0 0 5 [(0, .ref h0), (1, .int l1), (2, .int l2), (3, .long s.1), (5, .int s.2)] []) (R := fun r => aW K (mw h0 hp n p count sorts rows hand gathered gather paired pairA pairB ideal draft frame one two turned placeI placeJ formA formB formC) sz 0 0 72 [(3, .long r)] []) ?_ h hr
  clear h hr
  intro s x h kl kr
  unfold m_isCrossed_L5 at h
  refine r_iload C 4 rfl dX6_isCrossed_5 ?_
  refine r_bipush C (v := 6) dX6_isCrossed_7 (by decide) ?_
  refine r_icmp_ge C (tgt := 72) dX6_isCrossed_9 (by decide) (fun hc => ?_) (fun hc => ?_)
  · replace h := br_p hc h
    refine r_lv [3] rfl ?_
    exact kr _ (sm_i h)
  · replace h := br_n hc h
    refine r_aload_n C 0 rfl dX6_isCrossed_12 rfl ?_
    refine r_aload_n C 0 rfl dX6_isCrossed_13 rfl ?_
    refine r_iload_n C 1 rfl dX6_isCrossed_14 rfl ?_
    refine r_iload C 4 rfl dX6_isCrossed_15 ?_
    obtain ⟨r1, qr1, h⟩ := bd_i h
    refine q_callV C 1 0 0 (c_of qr1) rfl mw_self rfl ok_of in_of lk6_108 rfl (Nat.le_of_ble_eq_true rfl) ⟨Nat.le_of_ble_eq_true rfl, Nat.le_of_ble_eq_true rfl⟩ dX6_isCrossed_17 rfl rfl ?_
    refine r_aload_n C 0 rfl dX6_isCrossed_20 rfl ?_
    refine r_iload_n C 2 rfl dX6_isCrossed_21 rfl ?_
    refine r_iconst C (v := 5) dX6_isCrossed_22 (by decide) ?_
    refine r_iload C 4 rfl dX6_isCrossed_23 ?_
    refine r_isub C dX6_isCrossed_25 ?_
    obtain ⟨r2, qr2, h⟩ := bd_i h
    refine q_callV C 3 0 0 (c_of qr2) rfl mw_self rfl ok_of in_of lk6_108 rfl (Nat.le_of_ble_eq_true rfl) ⟨Nat.le_of_ble_eq_true rfl, Nat.le_of_ble_eq_true rfl⟩ dX6_isCrossed_26 rfl rfl ?_
    obtain ⟨r3, qr3, h⟩ := bd_i h
    refine q_callV C 0 0 0 (c_times qr3) rfl mw_self rfl ok_times in_times lk6_76 rfl (Nat.le_of_ble_eq_true rfl) ⟨Nat.le_of_ble_eq_true rfl, Nat.le_of_ble_eq_true rfl⟩ dX6_isCrossed_29 rfl rfl ?_
    refine r_lstore C (lv' := [(6, .long r3), (0, .ref h0), (1, .int l1), (2, .int l2), (3, .long s.1), (5, .int s.2)]) dX6_isCrossed_32 (by decide) rfl ?_
    refine r_iload C 5 rfl dX6_isCrossed_34 ?_
    refine r_iconst C (v := 1) dX6_isCrossed_36 (by decide) ?_
    refine r_icmp_eq C (tgt := 46) dX6_isCrossed_37 (by decide) (fun hc => ?_) (fun hc => ?_)
    · replace h := br_p hc h
      refine r_lv [1, 2, 3, 4, 5, 0] rfl ?_
      exact w_isCrossed_L5J46 C h kl kr
    · replace h := br_n hc h
      refine r_iload C 5 rfl dX6_isCrossed_40 ?_
      refine r_iconst C (v := 4) dX6_isCrossed_42 (by decide) ?_
      refine r_icmp_ne C (tgt := 56) dX6_isCrossed_43 (by decide) (fun hc => ?_) (fun hc => ?_)
      · replace h := br_n hc h
        refine r_lload_n C 4 rfl dX6_isCrossed_56 rfl ?_
        refine r_lload C 0 rfl dX6_isCrossed_57 ?_
        refine r_ladd C dX6_isCrossed_59 ?_
        refine r_aload_n C 1 rfl dX6_isCrossed_60 rfl ?_
        refine m_g_p C dX6_isCrossed_61 ?_
        obtain ⟨hne, h⟩ := gd_n h
        refine r_lrem C dX6_isCrossed_64 hne ?_
        refine r_lstore_n C (lv' := [(3, .long ((s.1 + r3) - (s.1 + r3) / p * p)), (6, .long r3), (0, .ref h0), (1, .int l1), (2, .int l2), (5, .int s.2)]) dX6_isCrossed_65 rfl (by decide) rfl ?_
        refine r_iinc C (v := s.2 + 1) (lv' := [(5, .int (s.2 + 1)), (3, .long ((s.1 + r3) - (s.1 + r3) / p * p)), (6, .long r3), (0, .ref h0), (1, .int l1), (2, .int l2)]) 5 rfl dX6_isCrossed_66 rfl (by decide) rfl ?_
        refine r_goto C (tgt := 5) dX6_isCrossed_69 (by decide) ?_
        refine r_lv [3, 4, 5, 1, 0] rfl ?_
        exact kl _ (sm_i h)
      · replace h := br_p hc h
        refine r_lv [1, 2, 3, 4, 5, 0] rfl ?_
        exact w_isCrossed_L5J46 C h kl kr
set_option maxHeartbeats 4000000 in
set_option maxRecDepth 100000 in
theorem c_isCrossed {G : gT} {h0 : Nat} {hp : cH} {sz : Nat} {n : Int32} {p : Int64} {count : Int32} {sorts : Nat → Int32} {rows : Nat → Int64} {hand : Nat → Int64} {gathered : Int32} {gather : Nat → Int32} {paired : Int32} {pairA : Nat → Int32} {pairB : Nat → Int32} {ideal : Int32} {draft : Nat → Int64} {frame : Nat → Int64} {one : Nat → Int64} {two : Nat → Int64} {turned : Nat → Int64} {placeI : Int32} {placeJ : Int32} {formA : Int64} {formB : Int64} {formC : Int64} {x1 : Int32} {x2 : Int32} {out : Int32} (h : m_isCrossed p rows x1 x2 = some out) : aM G yX6_isCrossed cX6_isCrossed 8 (some .boolean) 1 17 0 0 [.ref h0, .int x1, .int x2] (mw h0 hp n p count sorts rows hand gathered gather paired pairA pairB ideal draft frame one two turned placeI placeJ formA formB formC) sz ((some (.int out), mw h0 hp n p count sorts rows hand gathered gather paired pairA pairB ideal draft frame one two turned placeI placeJ formA formB formC, sz) : oT) := by
  refine aM.of RX6 (by decide) rfl (Nat.le_of_ble_eq_true rfl) (fun K C => ?_)
  have hO : ((some (.int out), mw h0 hp n p count sorts rows hand gathered gather paired pairA pairB ideal draft frame one two turned placeI placeJ formA formB formC, sz) : oT) = ((some (.int out), mw h0 hp n p count sorts rows hand gathered gather paired pairA pairB ideal draft frame one two turned placeI placeJ formA formB formC, sz) : oT) := rfl
  refine r_lve (lv' := [(0, .ref h0), (1, .int x1), (2, .int x2)]) rfl ?_
  unfold m_isCrossed at h
  refine r_lconst C (v := 0) dX6_isCrossed_0 (by decide) ?_
  refine r_lstore_n C (lv' := [(3, .long ((0 : Int64))), (0, .ref h0), (1, .int x1), (2, .int x2)]) dX6_isCrossed_1 rfl (by decide) rfl ?_
  refine r_iconst C (v := 0) dX6_isCrossed_2 (by decide) ?_
  refine r_istore C (lv' := [(5, .int ((0 : Int32))), (3, .long ((0 : Int64))), (0, .ref h0), (1, .int x1), (2, .int x2)]) dX6_isCrossed_3 (by decide) rfl ?_
  refine r_lv [2, 3, 4, 1, 0] rfl ?_
  obtain ⟨r5, qr5, h⟩ := bd_i h
  refine w_isCrossed_L5 C qr5 ?_
  refine r_lload_n C 0 rfl dX6_isCrossed_72 rfl ?_
  refine r_lconst C (v := 0) dX6_isCrossed_73 (by decide) ?_
  refine r_lne C (tgt := 82) dX6_isCrossed_74 dX6_isCrossed_75 (by decide) (fun hc => ?_) (fun hc => ?_)
  · replace h := br_n hc h
    refine r_iconst C (v := 0) dX6_isCrossed_82 (by decide) ?_
    obtain rfl := sm_i h
    exact r_zreturn C rfl (Eq.symm hO) dX6_isCrossed_83
  · replace h := br_p hc h
    refine r_iconst C (v := 1) dX6_isCrossed_78 (by decide) ?_
    refine r_goto C (tgt := 83) dX6_isCrossed_79 (by decide) ?_
    obtain rfl := sm_i h
    exact r_zreturn C rfl (Eq.symm hO) dX6_isCrossed_83
noncomputable def m_base_L9 (l2 : Int32) (s : (Int32 × (Nat → Int64))) : Option ((Int32 × (Nat → Int64)) ⊕ (Nat → Int64)) := if ((4 : Int32)) ≤ s.1 then (some (.inr s.2)) else ((m_set s.2 l2 s.1 ((0 : Int64))).bind fun r1 => some (.inl (s.1 + 1, r1)))
noncomputable def m_base_L2  (s : (Int32 × (Nat → Int64))) : Option ((Int32 × (Nat → Int64)) ⊕ (Nat → Int64)) := if ((4 : Int32)) ≤ s.1 then (some (.inr s.2)) else ((itX (m_base_L9 s.1) ((0 : Int32), s.2)).bind fun r2 => some (.inl (s.1 + 1, r2)))
noncomputable def m_base_L140 (p : Int64) (rows : Nat → Int64) (l1 : Int32) (l2 : Int32) (s : (Int32 × (Nat → Int64))) : Option ((Int32 × (Nat → Int64)) ⊕ (Nat → Int64)) := if ((4 : Int32)) ≤ s.1 then (some (.inr s.2)) else ((m_entry p rows l1 l2 s.1).bind fun r4 => (m_set s.2 l2 s.1 r4).bind fun r5 => some (.inl (s.1 + 1, r5)))
noncomputable def m_base_L133 (p : Int64) (rows : Nat → Int64) (l1 : Int32) (s : (Int32 × (Nat → Int64))) : Option ((Int32 × (Nat → Int64)) ⊕ (Nat → Int64)) := if ((4 : Int32)) ≤ s.1 then (some (.inr s.2)) else ((itX (m_base_L140 p rows l1 s.1) ((0 : Int32), s.2)).bind fun r6 => some (.inl (s.1 + 1, r6)))
noncomputable def m_base_L189 (n : Int32) (frame : Nat → Int64) (s : (Int32 × (Nat → Int64) × (Nat → Int64))) : Option ((Int32 × (Nat → Int64) × (Nat → Int64)) ⊕ ((Nat → Int64) × (Nat → Int64))) := (m_side n).bind fun r12 => if r12 ≤ s.1 then (some (.inr (s.2.1, s.2.2))) else ((m_at frame ((0 : Int32)) s.1).bind fun r13 => if gi s.1 16 then (m_at frame ((1 : Int32)) s.1).bind fun r14 => if gi s.1 16 then some (.inl (s.1 + 1, vp_updL s.2.1 s.1.toNatClampNeg r13, vp_updL s.2.2 s.1.toNatClampNeg r14)) else none else none)
noncomputable def m_base_J170 (n : Int32) (p : Int64) (frame : Nat → Int64) (one : Nat → Int64) (two : Nat → Int64) : Option ((Nat → Int64) × (Nat → Int64) × (Nat → Int64)) := (m_side n).bind fun r8 => (m_side n).bind fun r9 => (m_side n).bind fun r10 => (m_reduce p frame r8 r9 r10).bind fun r11 => (itX (m_base_L189 n r11.2) ((0 : Int32), one, two)).bind fun r15 => some (r11.2, r15.1, r15.2)
noncomputable def m_base (n : Int32) (p : Int64) (rows : Nat → Int64) (frame : Nat → Int64) (one : Nat → Int64) (two : Nat → Int64) (x1 : Int32) : Option ((Nat → Int64) × (Nat → Int64) × (Nat → Int64)) := (itX m_base_L2 ((0 : Int32), frame)).bind fun r3 => if n = ((2 : Int32)) then ((m_of rows x1 ((2 : Int32))).bind fun r16 => (m_set r3 ((0 : Int32)) ((1 : Int32)) r16).bind fun r17 => (m_of rows x1 ((1 : Int32))).bind fun r18 => (m_less p ((0 : Int64)) r18).bind fun r19 => (m_set r17 ((0 : Int32)) ((2 : Int32)) r19).bind fun r20 => (m_of rows x1 ((2 : Int32))).bind fun r21 => (m_less p ((0 : Int64)) r21).bind fun r22 => (m_set r20 ((1 : Int32)) ((0 : Int32)) r22).bind fun r23 => (m_of rows x1 ((0 : Int32))).bind fun r24 => (m_set r23 ((1 : Int32)) ((2 : Int32)) r24).bind fun r25 => (m_of rows x1 ((1 : Int32))).bind fun r26 => (m_set r25 ((2 : Int32)) ((0 : Int32)) r26).bind fun r27 => (m_of rows x1 ((0 : Int32))).bind fun r28 => (m_less p ((0 : Int64)) r28).bind fun r29 => (m_set r27 ((2 : Int32)) ((1 : Int32)) r29).bind fun r30 => m_base_J170 n p r30 one two) else ((itX (m_base_L133 p rows x1) ((0 : Int32), r3)).bind fun r7 => m_base_J170 n p r7 one two)
set_option maxHeartbeats 4000000 in
set_option maxRecDepth 100000 in
theorem w_base_L9 {K : kT} {O : oT} (C : aC K cX6_base RX6 "base" 4 76 0 0 4 none O) {h0 : Nat} {hp : cH} {sz : Nat} {n : Int32} {p : Int64} {count : Int32} {sorts : Nat → Int32} {rows : Nat → Int64} {hand : Nat → Int64} {gathered : Int32} {gather : Nat → Int32} {paired : Int32} {pairA : Nat → Int32} {pairB : Nat → Int32} {ideal : Int32} {draft : Nat → Int64} {one : Nat → Int64} {two : Nat → Int64} {turned : Nat → Int64} {placeI : Int32} {placeJ : Int32} {formA : Int64} {formB : Int64} {formC : Int64} {l1 : Int32} {l2 : Int32} {v0 : Int32} {v1 : Nat → Int64} {r : (Nat → Int64)} (h : itX (m_base_L9 l2) (v0, v1) = some r) (hr : aW K (mw h0 hp n p count sorts rows hand gathered gather paired pairA pairB ideal draft r one two turned placeI placeJ formA formB formC) sz 0 0 27 [(0, .ref h0), (1, .int l1), (2, .int l2)] []) : aW K (mw h0 hp n p count sorts rows hand gathered gather paired pairA pairB ideal draft v1 one two turned placeI placeJ formA formB formC) sz 0 0 9 [(0, .ref h0), (1, .int l1), (2, .int l2), (3, .int v0)] [] := by
  refine it_walk (f := m_base_L9 l2) (P := fun s => aW K (mw h0 hp n p count sorts rows hand gathered gather paired pairA pairB ideal draft s.2 one two turned placeI placeJ formA formB formC) sz 0 0 9 [(0, .ref h0), (1, .int l1), (2, .int l2), (3, .int s.1)] []) (R := fun r => aW K (mw h0 hp n p count sorts rows hand gathered gather paired pairA pairB ideal draft r one two turned placeI placeJ formA formB formC) sz 0 0 27 [(0, .ref h0), (1, .int l1), (2, .int l2)] []) ?_ h hr
  clear h hr
  intro s x h kl kr
  unfold m_base_L9 at h
  refine r_iload_n C 3 rfl dX6_base_9 rfl ?_
  refine r_iconst C (v := 4) dX6_base_10 (by decide) ?_
  refine r_icmp_ge C (tgt := 27) dX6_base_11 (by decide) (fun hc => ?_) (fun hc => ?_)
  · replace h := br_p hc h
    refine r_lv [0, 1, 2] rfl ?_
    exact kr _ (sm_i h)
  · replace h := br_n hc h
    refine r_aload_n C 0 rfl dX6_base_14 rfl ?_
    refine r_iload_n C 2 rfl dX6_base_15 rfl ?_
    refine r_iload_n C 3 rfl dX6_base_16 rfl ?_
    refine r_lconst C (v := 0) dX6_base_17 (by decide) ?_
    obtain ⟨r1, qr1, h⟩ := bd_i h
    refine q_callVv C 0 0 0 (c_set qr1) rfl mw_self rfl ok_set in_set lk6_101 rfl (Nat.le_of_ble_eq_true rfl) ⟨Nat.le_of_ble_eq_true rfl, Nat.le_of_ble_eq_true rfl⟩ dX6_base_18 rfl rfl ?_
    refine r_iinc C (v := s.1 + 1) (lv' := [(3, .int (s.1 + 1)), (0, .ref h0), (1, .int l1), (2, .int l2)]) 3 rfl dX6_base_21 rfl (by decide) rfl ?_
    refine r_goto C (tgt := 9) dX6_base_24 (by decide) ?_
    refine r_lv [1, 2, 3, 0] rfl ?_
    exact kl _ (sm_i h)
set_option maxHeartbeats 4000000 in
set_option maxRecDepth 100000 in
theorem w_base_L2 {K : kT} {O : oT} (C : aC K cX6_base RX6 "base" 4 76 0 0 4 none O) {h0 : Nat} {hp : cH} {sz : Nat} {n : Int32} {p : Int64} {count : Int32} {sorts : Nat → Int32} {rows : Nat → Int64} {hand : Nat → Int64} {gathered : Int32} {gather : Nat → Int32} {paired : Int32} {pairA : Nat → Int32} {pairB : Nat → Int32} {ideal : Int32} {draft : Nat → Int64} {one : Nat → Int64} {two : Nat → Int64} {turned : Nat → Int64} {placeI : Int32} {placeJ : Int32} {formA : Int64} {formB : Int64} {formC : Int64} {l1 : Int32} {v0 : Int32} {v1 : Nat → Int64} {r : (Nat → Int64)} (h : itX (m_base_L2 ) (v0, v1) = some r) (hr : aW K (mw h0 hp n p count sorts rows hand gathered gather paired pairA pairB ideal draft r one two turned placeI placeJ formA formB formC) sz 0 0 33 [(0, .ref h0), (1, .int l1)] []) : aW K (mw h0 hp n p count sorts rows hand gathered gather paired pairA pairB ideal draft v1 one two turned placeI placeJ formA formB formC) sz 0 0 2 [(0, .ref h0), (1, .int l1), (2, .int v0)] [] := by
  refine it_walk (f := m_base_L2 ) (P := fun s => aW K (mw h0 hp n p count sorts rows hand gathered gather paired pairA pairB ideal draft s.2 one two turned placeI placeJ formA formB formC) sz 0 0 2 [(0, .ref h0), (1, .int l1), (2, .int s.1)] []) (R := fun r => aW K (mw h0 hp n p count sorts rows hand gathered gather paired pairA pairB ideal draft r one two turned placeI placeJ formA formB formC) sz 0 0 33 [(0, .ref h0), (1, .int l1)] []) ?_ h hr
  clear h hr
  intro s x h kl kr
  unfold m_base_L2 at h
  refine r_iload_n C 2 rfl dX6_base_2 rfl ?_
  refine r_iconst C (v := 4) dX6_base_3 (by decide) ?_
  refine r_icmp_ge C (tgt := 33) dX6_base_4 (by decide) (fun hc => ?_) (fun hc => ?_)
  · replace h := br_p hc h
    refine r_lv [0, 1] rfl ?_
    exact kr _ (sm_i h)
  · replace h := br_n hc h
    refine r_iconst C (v := 0) dX6_base_7 (by decide) ?_
    refine r_istore_n C (lv' := [(3, .int ((0 : Int32))), (0, .ref h0), (1, .int l1), (2, .int s.1)]) dX6_base_8 rfl (by decide) rfl ?_
    refine r_lv [1, 2, 3, 0] rfl ?_
    obtain ⟨r2, qr2, h⟩ := bd_i h
    refine w_base_L9 C qr2 ?_
    refine r_iinc C (v := s.1 + 1) (lv' := [(2, .int (s.1 + 1)), (0, .ref h0), (1, .int l1)]) 2 rfl dX6_base_27 rfl (by decide) rfl ?_
    refine r_goto C (tgt := 2) dX6_base_30 (by decide) ?_
    refine r_lv [1, 2, 0] rfl ?_
    exact kl _ (sm_i h)
set_option maxHeartbeats 4000000 in
set_option maxRecDepth 100000 in
theorem w_base_L140 {K : kT} {O : oT} (C : aC K cX6_base RX6 "base" 4 76 0 0 4 none O) {h0 : Nat} {hp : cH} {sz : Nat} {n : Int32} {p : Int64} {count : Int32} {sorts : Nat → Int32} {rows : Nat → Int64} {hand : Nat → Int64} {gathered : Int32} {gather : Nat → Int32} {paired : Int32} {pairA : Nat → Int32} {pairB : Nat → Int32} {ideal : Int32} {draft : Nat → Int64} {one : Nat → Int64} {two : Nat → Int64} {turned : Nat → Int64} {placeI : Int32} {placeJ : Int32} {formA : Int64} {formB : Int64} {formC : Int64} {l1 : Int32} {l2 : Int32} {v0 : Int32} {v1 : Nat → Int64} {r : (Nat → Int64)} (h : itX (m_base_L140 p rows l1 l2) (v0, v1) = some r) (hr : aW K (mw h0 hp n p count sorts rows hand gathered gather paired pairA pairB ideal draft r one two turned placeI placeJ formA formB formC) sz 0 0 164 [(0, .ref h0), (1, .int l1), (2, .int l2)] []) : aW K (mw h0 hp n p count sorts rows hand gathered gather paired pairA pairB ideal draft v1 one two turned placeI placeJ formA formB formC) sz 0 0 140 [(0, .ref h0), (1, .int l1), (2, .int l2), (3, .int v0)] [] := by
  refine it_walk (f := m_base_L140 p rows l1 l2) (P := fun s => aW K (mw h0 hp n p count sorts rows hand gathered gather paired pairA pairB ideal draft s.2 one two turned placeI placeJ formA formB formC) sz 0 0 140 [(0, .ref h0), (1, .int l1), (2, .int l2), (3, .int s.1)] []) (R := fun r => aW K (mw h0 hp n p count sorts rows hand gathered gather paired pairA pairB ideal draft r one two turned placeI placeJ formA formB formC) sz 0 0 164 [(0, .ref h0), (1, .int l1), (2, .int l2)] []) ?_ h hr
  clear h hr
  intro s x h kl kr
  unfold m_base_L140 at h
  refine r_iload_n C 3 rfl dX6_base_140 rfl ?_
  refine r_iconst C (v := 4) dX6_base_141 (by decide) ?_
  refine r_icmp_ge C (tgt := 164) dX6_base_142 (by decide) (fun hc => ?_) (fun hc => ?_)
  · replace h := br_p hc h
    refine r_lv [0, 1, 2] rfl ?_
    exact kr _ (sm_i h)
  · replace h := br_n hc h
    refine r_aload_n C 0 rfl dX6_base_145 rfl ?_
    refine r_iload_n C 2 rfl dX6_base_146 rfl ?_
    refine r_iload_n C 3 rfl dX6_base_147 rfl ?_
    refine r_aload_n C 0 rfl dX6_base_148 rfl ?_
    refine r_iload_n C 1 rfl dX6_base_149 rfl ?_
    refine r_iload_n C 2 rfl dX6_base_150 rfl ?_
    refine r_iload_n C 3 rfl dX6_base_151 rfl ?_
    obtain ⟨r4, qr4, h⟩ := bd_i h
    refine q_callV C 3 0 0 (c_entry qr4) rfl mw_self rfl ok_entry in_entry lk6_142 rfl (Nat.le_of_ble_eq_true rfl) ⟨Nat.le_of_ble_eq_true rfl, Nat.le_of_ble_eq_true rfl⟩ dX6_base_152 rfl rfl ?_
    obtain ⟨r5, qr5, h⟩ := bd_i h
    refine q_callVv C 0 0 0 (c_set qr5) rfl mw_self rfl ok_set in_set lk6_101 rfl (Nat.le_of_ble_eq_true rfl) ⟨Nat.le_of_ble_eq_true rfl, Nat.le_of_ble_eq_true rfl⟩ dX6_base_155 rfl rfl ?_
    refine r_iinc C (v := s.1 + 1) (lv' := [(3, .int (s.1 + 1)), (0, .ref h0), (1, .int l1), (2, .int l2)]) 3 rfl dX6_base_158 rfl (by decide) rfl ?_
    refine r_goto C (tgt := 140) dX6_base_161 (by decide) ?_
    refine r_lv [1, 2, 3, 0] rfl ?_
    exact kl _ (sm_i h)
set_option maxHeartbeats 4000000 in
set_option maxRecDepth 100000 in
theorem w_base_L133 {K : kT} {O : oT} (C : aC K cX6_base RX6 "base" 4 76 0 0 4 none O) {h0 : Nat} {hp : cH} {sz : Nat} {n : Int32} {p : Int64} {count : Int32} {sorts : Nat → Int32} {rows : Nat → Int64} {hand : Nat → Int64} {gathered : Int32} {gather : Nat → Int32} {paired : Int32} {pairA : Nat → Int32} {pairB : Nat → Int32} {ideal : Int32} {draft : Nat → Int64} {one : Nat → Int64} {two : Nat → Int64} {turned : Nat → Int64} {placeI : Int32} {placeJ : Int32} {formA : Int64} {formB : Int64} {formC : Int64} {l1 : Int32} {v0 : Int32} {v1 : Nat → Int64} {r : (Nat → Int64)} (h : itX (m_base_L133 p rows l1) (v0, v1) = some r) (hr : aW K (mw h0 hp n p count sorts rows hand gathered gather paired pairA pairB ideal draft r one two turned placeI placeJ formA formB formC) sz 0 0 170 [(0, .ref h0)] []) : aW K (mw h0 hp n p count sorts rows hand gathered gather paired pairA pairB ideal draft v1 one two turned placeI placeJ formA formB formC) sz 0 0 133 [(0, .ref h0), (1, .int l1), (2, .int v0)] [] := by
  refine it_walk (f := m_base_L133 p rows l1) (P := fun s => aW K (mw h0 hp n p count sorts rows hand gathered gather paired pairA pairB ideal draft s.2 one two turned placeI placeJ formA formB formC) sz 0 0 133 [(0, .ref h0), (1, .int l1), (2, .int s.1)] []) (R := fun r => aW K (mw h0 hp n p count sorts rows hand gathered gather paired pairA pairB ideal draft r one two turned placeI placeJ formA formB formC) sz 0 0 170 [(0, .ref h0)] []) ?_ h hr
  clear h hr
  intro s x h kl kr
  unfold m_base_L133 at h
  refine r_iload_n C 2 rfl dX6_base_133 rfl ?_
  refine r_iconst C (v := 4) dX6_base_134 (by decide) ?_
  refine r_icmp_ge C (tgt := 170) dX6_base_135 (by decide) (fun hc => ?_) (fun hc => ?_)
  · replace h := br_p hc h
    refine r_lv [0] rfl ?_
    exact kr _ (sm_i h)
  · replace h := br_n hc h
    refine r_iconst C (v := 0) dX6_base_138 (by decide) ?_
    refine r_istore_n C (lv' := [(3, .int ((0 : Int32))), (0, .ref h0), (1, .int l1), (2, .int s.1)]) dX6_base_139 rfl (by decide) rfl ?_
    refine r_lv [1, 2, 3, 0] rfl ?_
    obtain ⟨r6, qr6, h⟩ := bd_i h
    refine w_base_L140 C qr6 ?_
    refine r_iinc C (v := s.1 + 1) (lv' := [(2, .int (s.1 + 1)), (0, .ref h0), (1, .int l1)]) 2 rfl dX6_base_164 rfl (by decide) rfl ?_
    refine r_goto C (tgt := 133) dX6_base_167 (by decide) ?_
    refine r_lv [1, 2, 0] rfl ?_
    exact kl _ (sm_i h)
set_option maxHeartbeats 4000000 in
set_option maxRecDepth 100000 in
theorem w_base_L189 {K : kT} {O : oT} (C : aC K cX6_base RX6 "base" 4 76 0 0 4 none O) {h0 : Nat} {hp : cH} {sz : Nat} {n : Int32} {p : Int64} {count : Int32} {sorts : Nat → Int32} {rows : Nat → Int64} {hand : Nat → Int64} {gathered : Int32} {gather : Nat → Int32} {paired : Int32} {pairA : Nat → Int32} {pairB : Nat → Int32} {ideal : Int32} {draft : Nat → Int64} {frame : Nat → Int64} {turned : Nat → Int64} {placeI : Int32} {placeJ : Int32} {formA : Int64} {formB : Int64} {formC : Int64}  {v0 : Int32} {v1 : Nat → Int64} {v2 : Nat → Int64} {r : ((Nat → Int64) × (Nat → Int64))} (h : itX (m_base_L189 n frame) (v0, v1, v2) = some r) (hr : aW K (mw h0 hp n p count sorts rows hand gathered gather paired pairA pairB ideal draft frame r.1 r.2 turned placeI placeJ formA formB formC) sz 0 0 227 [] []) : aW K (mw h0 hp n p count sorts rows hand gathered gather paired pairA pairB ideal draft frame v1 v2 turned placeI placeJ formA formB formC) sz 0 0 189 [(0, .ref h0), (2, .int v0)] [] := by
  refine it_walk (f := m_base_L189 n frame) (P := fun s => aW K (mw h0 hp n p count sorts rows hand gathered gather paired pairA pairB ideal draft frame s.2.1 s.2.2 turned placeI placeJ formA formB formC) sz 0 0 189 [(0, .ref h0), (2, .int s.1)] []) (R := fun r => aW K (mw h0 hp n p count sorts rows hand gathered gather paired pairA pairB ideal draft frame r.1 r.2 turned placeI placeJ formA formB formC) sz 0 0 227 [] []) ?_ h hr
  clear h hr
  intro s x h kl kr
  unfold m_base_L189 at h
  refine r_iload_n C 1 rfl dX6_base_189 rfl ?_
  refine r_aload_n C 0 rfl dX6_base_190 rfl ?_
  obtain ⟨r12, qr12, h⟩ := bd_i h
  refine q_callV C 1 0 0 (c_side qr12) rfl mw_self rfl ok_side in_side lk6_111 rfl (Nat.le_of_ble_eq_true rfl) ⟨Nat.le_of_ble_eq_true rfl, Nat.le_of_ble_eq_true rfl⟩ dX6_base_191 rfl rfl ?_
  refine r_icmp_ge C (tgt := 227) dX6_base_194 (by decide) (fun hc => ?_) (fun hc => ?_)
  · replace h := br_p hc h
    refine r_lv [] rfl ?_
    exact kr _ (sm_i h)
  · replace h := br_n hc h
    refine r_aload_n C 0 rfl dX6_base_197 rfl ?_
    refine m_g_one C dX6_base_198 ?_
    refine r_iload_n C 1 rfl dX6_base_201 rfl ?_
    refine r_aload_n C 0 rfl dX6_base_202 rfl ?_
    refine r_iconst C (v := 0) dX6_base_203 (by decide) ?_
    refine r_iload_n C 1 rfl dX6_base_204 rfl ?_
    obtain ⟨r13, qr13, h⟩ := bd_i h
    refine q_callV C 2 0 0 (c_at qr13) rfl mw_self rfl ok_at in_at lk6_94 rfl (Nat.le_of_ble_eq_true rfl) ⟨Nat.le_of_ble_eq_true rfl, Nat.le_of_ble_eq_true rfl⟩ dX6_base_205 rfl rfl ?_
    obtain ⟨hi, h⟩ := gd_t h
    refine m_s_one C hi dX6_base_208 ?_
    refine r_aload_n C 0 rfl dX6_base_209 rfl ?_
    refine m_g_two C dX6_base_210 ?_
    refine r_iload_n C 1 rfl dX6_base_213 rfl ?_
    refine r_aload_n C 0 rfl dX6_base_214 rfl ?_
    refine r_iconst C (v := 1) dX6_base_215 (by decide) ?_
    refine r_iload_n C 1 rfl dX6_base_216 rfl ?_
    obtain ⟨r14, qr14, h⟩ := bd_i h
    refine q_callV C 2 0 0 (c_at qr14) rfl mw_self rfl ok_at in_at lk6_94 rfl (Nat.le_of_ble_eq_true rfl) ⟨Nat.le_of_ble_eq_true rfl, Nat.le_of_ble_eq_true rfl⟩ dX6_base_217 rfl rfl ?_
    obtain ⟨hi, h⟩ := gd_t h
    refine m_s_two C hi dX6_base_220 ?_
    refine r_iinc C (v := s.1 + 1) (lv' := [(2, .int (s.1 + 1)), (0, .ref h0)]) 1 rfl dX6_base_221 rfl (by decide) rfl ?_
    refine r_goto C (tgt := 189) dX6_base_224 (by decide) ?_
    refine r_lv [1, 0] rfl ?_
    exact kl _ (sm_i h)
set_option maxHeartbeats 4000000 in
set_option maxRecDepth 100000 in
theorem w_base_J170 {K : kT} {O : oT} (C : aC K cX6_base RX6 "base" 4 76 0 0 4 none O) {h0 : Nat} {hp : cH} {sz : Nat} {n : Int32} {p : Int64} {count : Int32} {sorts : Nat → Int32} {rows : Nat → Int64} {hand : Nat → Int64} {gathered : Int32} {gather : Nat → Int32} {paired : Int32} {pairA : Nat → Int32} {pairB : Nat → Int32} {ideal : Int32} {draft : Nat → Int64} {frame : Nat → Int64} {one : Nat → Int64} {two : Nat → Int64} {turned : Nat → Int64} {placeI : Int32} {placeJ : Int32} {formA : Int64} {formB : Int64} {formC : Int64}  {out : ((Nat → Int64) × (Nat → Int64) × (Nat → Int64))} (h : m_base_J170 n p frame one two = some out) (hO : ((none, mw h0 hp n p count sorts rows hand gathered gather paired pairA pairB ideal draft out.1 out.2.1 out.2.2 turned placeI placeJ formA formB formC, sz) : oT) = O) : aW K (mw h0 hp n p count sorts rows hand gathered gather paired pairA pairB ideal draft frame one two turned placeI placeJ formA formB formC) sz 0 0 170 [(0, .ref h0)] [] := by
  unfold m_base_J170 at h
  refine r_aload_n C 0 rfl dX6_base_170 rfl ?_
  refine r_aload_n C 0 rfl dX6_base_171 rfl ?_
  obtain ⟨r8, qr8, h⟩ := bd_i h
  refine q_callV C 1 0 0 (c_side qr8) rfl mw_self rfl ok_side in_side lk6_111 rfl (Nat.le_of_ble_eq_true rfl) ⟨Nat.le_of_ble_eq_true rfl, Nat.le_of_ble_eq_true rfl⟩ dX6_base_172 rfl rfl ?_
  refine r_aload_n C 0 rfl dX6_base_175 rfl ?_
  obtain ⟨r9, qr9, h⟩ := bd_i h
  refine q_callV C 2 0 0 (c_side qr9) rfl mw_self rfl ok_side in_side lk6_111 rfl (Nat.le_of_ble_eq_true rfl) ⟨Nat.le_of_ble_eq_true rfl, Nat.le_of_ble_eq_true rfl⟩ dX6_base_176 rfl rfl ?_
  refine r_aload_n C 0 rfl dX6_base_179 rfl ?_
  obtain ⟨r10, qr10, h⟩ := bd_i h
  refine q_callV C 3 0 0 (c_side qr10) rfl mw_self rfl ok_side in_side lk6_111 rfl (Nat.le_of_ble_eq_true rfl) ⟨Nat.le_of_ble_eq_true rfl, Nat.le_of_ble_eq_true rfl⟩ dX6_base_180 rfl rfl ?_
  obtain ⟨r11, qr11, h⟩ := bd_i h
  refine q_callV C 0 0 0 (c_reduce qr11) rfl mw_self rfl ok_reduce in_reduce lk6_115 rfl (Nat.le_of_ble_eq_true rfl) ⟨Nat.le_of_ble_eq_true rfl, Nat.le_of_ble_eq_true rfl⟩ dX6_base_183 rfl rfl ?_
  refine r_pop C dX6_base_186 rfl ?_
  refine r_iconst C (v := 0) dX6_base_187 (by decide) ?_
  refine r_istore_n C (lv' := [(2, .int ((0 : Int32))), (0, .ref h0)]) dX6_base_188 rfl (by decide) rfl ?_
  refine r_lv [1, 0] rfl ?_
  obtain ⟨r15, qr15, h⟩ := bd_i h
  refine w_base_L189 C qr15 ?_
  obtain rfl := sm_i h
  exact r_return C (Eq.symm hO) dX6_base_227
set_option maxHeartbeats 4000000 in
set_option maxRecDepth 100000 in
theorem c_base {G : gT} {h0 : Nat} {hp : cH} {sz : Nat} {n : Int32} {p : Int64} {count : Int32} {sorts : Nat → Int32} {rows : Nat → Int64} {hand : Nat → Int64} {gathered : Int32} {gather : Nat → Int32} {paired : Int32} {pairA : Nat → Int32} {pairB : Nat → Int32} {ideal : Int32} {draft : Nat → Int64} {frame : Nat → Int64} {one : Nat → Int64} {two : Nat → Int64} {turned : Nat → Int64} {placeI : Int32} {placeJ : Int32} {formA : Int64} {formB : Int64} {formC : Int64} {x1 : Int32} {out : ((Nat → Int64) × (Nat → Int64) × (Nat → Int64))} (h : m_base n p rows frame one two x1 = some out) : aM G yX6_base cX6_base 4 none 4 76 0 0 [.ref h0, .int x1] (mw h0 hp n p count sorts rows hand gathered gather paired pairA pairB ideal draft frame one two turned placeI placeJ formA formB formC) sz ((none, mw h0 hp n p count sorts rows hand gathered gather paired pairA pairB ideal draft out.1 out.2.1 out.2.2 turned placeI placeJ formA formB formC, sz) : oT) := by
  refine aM.of RX6 (by decide) rfl (Nat.le_of_ble_eq_true rfl) (fun K C => ?_)
  have hO : ((none, mw h0 hp n p count sorts rows hand gathered gather paired pairA pairB ideal draft out.1 out.2.1 out.2.2 turned placeI placeJ formA formB formC, sz) : oT) = ((none, mw h0 hp n p count sorts rows hand gathered gather paired pairA pairB ideal draft out.1 out.2.1 out.2.2 turned placeI placeJ formA formB formC, sz) : oT) := rfl
  refine r_lve (lv' := [(0, .ref h0), (1, .int x1)]) rfl ?_
  unfold m_base at h
  refine r_iconst C (v := 0) dX6_base_0 (by decide) ?_
  refine r_istore_n C (lv' := [(2, .int ((0 : Int32))), (0, .ref h0), (1, .int x1)]) dX6_base_1 rfl (by decide) rfl ?_
  refine r_lv [1, 2, 0] rfl ?_
  obtain ⟨r3, qr3, h⟩ := bd_i h
  refine w_base_L2 C qr3 ?_
  refine r_aload_n C 0 rfl dX6_base_33 rfl ?_
  refine m_g_n C dX6_base_34 ?_
  refine r_iconst C (v := 2) dX6_base_37 (by decide) ?_
  refine r_icmp_ne C (tgt := 131) dX6_base_38 (by decide) (fun hc => ?_) (fun hc => ?_)
  · replace h := br_n hc h
    refine r_iconst C (v := 0) dX6_base_131 (by decide) ?_
    refine r_istore_n C (lv' := [(2, .int ((0 : Int32))), (0, .ref h0), (1, .int x1)]) dX6_base_132 rfl (by decide) rfl ?_
    refine r_lv [1, 2, 0] rfl ?_
    obtain ⟨r7, qr7, h⟩ := bd_i h
    refine w_base_L133 C qr7 ?_
    refine r_lv [0] rfl ?_
    exact w_base_J170 C h hO
  · replace h := br_p hc h
    refine r_aload_n C 0 rfl dX6_base_41 rfl ?_
    refine r_iconst C (v := 0) dX6_base_42 (by decide) ?_
    refine r_iconst C (v := 1) dX6_base_43 (by decide) ?_
    refine r_aload_n C 0 rfl dX6_base_44 rfl ?_
    refine r_iload_n C 1 rfl dX6_base_45 rfl ?_
    refine r_iconst C (v := 2) dX6_base_46 (by decide) ?_
    obtain ⟨r16, qr16, h⟩ := bd_i h
    refine q_callV C 3 0 0 (c_of qr16) rfl mw_self rfl ok_of in_of lk6_108 rfl (Nat.le_of_ble_eq_true rfl) ⟨Nat.le_of_ble_eq_true rfl, Nat.le_of_ble_eq_true rfl⟩ dX6_base_47 rfl rfl ?_
    obtain ⟨r17, qr17, h⟩ := bd_i h
    refine q_callVv C 0 0 0 (c_set qr17) rfl mw_self rfl ok_set in_set lk6_101 rfl (Nat.le_of_ble_eq_true rfl) ⟨Nat.le_of_ble_eq_true rfl, Nat.le_of_ble_eq_true rfl⟩ dX6_base_50 rfl rfl ?_
    refine r_aload_n C 0 rfl dX6_base_53 rfl ?_
    refine r_iconst C (v := 0) dX6_base_54 (by decide) ?_
    refine r_iconst C (v := 2) dX6_base_55 (by decide) ?_
    refine r_aload_n C 0 rfl dX6_base_56 rfl ?_
    refine r_lconst C (v := 0) dX6_base_57 (by decide) ?_
    refine r_aload_n C 0 rfl dX6_base_58 rfl ?_
    refine r_iload_n C 1 rfl dX6_base_59 rfl ?_
    refine r_iconst C (v := 1) dX6_base_60 (by decide) ?_
    obtain ⟨r18, qr18, h⟩ := bd_i h
    refine q_callV C 6 0 0 (c_of qr18) rfl mw_self rfl ok_of in_of lk6_108 rfl (Nat.le_of_ble_eq_true rfl) ⟨Nat.le_of_ble_eq_true rfl, Nat.le_of_ble_eq_true rfl⟩ dX6_base_61 rfl rfl ?_
    obtain ⟨r19, qr19, h⟩ := bd_i h
    refine q_callV C 3 0 0 (c_less qr19) rfl mw_self rfl ok_less in_less lk6_105 rfl (Nat.le_of_ble_eq_true rfl) ⟨Nat.le_of_ble_eq_true rfl, Nat.le_of_ble_eq_true rfl⟩ dX6_base_64 rfl rfl ?_
    obtain ⟨r20, qr20, h⟩ := bd_i h
    refine q_callVv C 0 0 0 (c_set qr20) rfl mw_self rfl ok_set in_set lk6_101 rfl (Nat.le_of_ble_eq_true rfl) ⟨Nat.le_of_ble_eq_true rfl, Nat.le_of_ble_eq_true rfl⟩ dX6_base_67 rfl rfl ?_
    refine r_aload_n C 0 rfl dX6_base_70 rfl ?_
    refine r_iconst C (v := 1) dX6_base_71 (by decide) ?_
    refine r_iconst C (v := 0) dX6_base_72 (by decide) ?_
    refine r_aload_n C 0 rfl dX6_base_73 rfl ?_
    refine r_lconst C (v := 0) dX6_base_74 (by decide) ?_
    refine r_aload_n C 0 rfl dX6_base_75 rfl ?_
    refine r_iload_n C 1 rfl dX6_base_76 rfl ?_
    refine r_iconst C (v := 2) dX6_base_77 (by decide) ?_
    obtain ⟨r21, qr21, h⟩ := bd_i h
    refine q_callV C 6 0 0 (c_of qr21) rfl mw_self rfl ok_of in_of lk6_108 rfl (Nat.le_of_ble_eq_true rfl) ⟨Nat.le_of_ble_eq_true rfl, Nat.le_of_ble_eq_true rfl⟩ dX6_base_78 rfl rfl ?_
    obtain ⟨r22, qr22, h⟩ := bd_i h
    refine q_callV C 3 0 0 (c_less qr22) rfl mw_self rfl ok_less in_less lk6_105 rfl (Nat.le_of_ble_eq_true rfl) ⟨Nat.le_of_ble_eq_true rfl, Nat.le_of_ble_eq_true rfl⟩ dX6_base_81 rfl rfl ?_
    obtain ⟨r23, qr23, h⟩ := bd_i h
    refine q_callVv C 0 0 0 (c_set qr23) rfl mw_self rfl ok_set in_set lk6_101 rfl (Nat.le_of_ble_eq_true rfl) ⟨Nat.le_of_ble_eq_true rfl, Nat.le_of_ble_eq_true rfl⟩ dX6_base_84 rfl rfl ?_
    refine r_aload_n C 0 rfl dX6_base_87 rfl ?_
    refine r_iconst C (v := 1) dX6_base_88 (by decide) ?_
    refine r_iconst C (v := 2) dX6_base_89 (by decide) ?_
    refine r_aload_n C 0 rfl dX6_base_90 rfl ?_
    refine r_iload_n C 1 rfl dX6_base_91 rfl ?_
    refine r_iconst C (v := 0) dX6_base_92 (by decide) ?_
    obtain ⟨r24, qr24, h⟩ := bd_i h
    refine q_callV C 3 0 0 (c_of qr24) rfl mw_self rfl ok_of in_of lk6_108 rfl (Nat.le_of_ble_eq_true rfl) ⟨Nat.le_of_ble_eq_true rfl, Nat.le_of_ble_eq_true rfl⟩ dX6_base_93 rfl rfl ?_
    obtain ⟨r25, qr25, h⟩ := bd_i h
    refine q_callVv C 0 0 0 (c_set qr25) rfl mw_self rfl ok_set in_set lk6_101 rfl (Nat.le_of_ble_eq_true rfl) ⟨Nat.le_of_ble_eq_true rfl, Nat.le_of_ble_eq_true rfl⟩ dX6_base_96 rfl rfl ?_
    refine r_aload_n C 0 rfl dX6_base_99 rfl ?_
    refine r_iconst C (v := 2) dX6_base_100 (by decide) ?_
    refine r_iconst C (v := 0) dX6_base_101 (by decide) ?_
    refine r_aload_n C 0 rfl dX6_base_102 rfl ?_
    refine r_iload_n C 1 rfl dX6_base_103 rfl ?_
    refine r_iconst C (v := 1) dX6_base_104 (by decide) ?_
    obtain ⟨r26, qr26, h⟩ := bd_i h
    refine q_callV C 3 0 0 (c_of qr26) rfl mw_self rfl ok_of in_of lk6_108 rfl (Nat.le_of_ble_eq_true rfl) ⟨Nat.le_of_ble_eq_true rfl, Nat.le_of_ble_eq_true rfl⟩ dX6_base_105 rfl rfl ?_
    obtain ⟨r27, qr27, h⟩ := bd_i h
    refine q_callVv C 0 0 0 (c_set qr27) rfl mw_self rfl ok_set in_set lk6_101 rfl (Nat.le_of_ble_eq_true rfl) ⟨Nat.le_of_ble_eq_true rfl, Nat.le_of_ble_eq_true rfl⟩ dX6_base_108 rfl rfl ?_
    refine r_aload_n C 0 rfl dX6_base_111 rfl ?_
    refine r_iconst C (v := 2) dX6_base_112 (by decide) ?_
    refine r_iconst C (v := 1) dX6_base_113 (by decide) ?_
    refine r_aload_n C 0 rfl dX6_base_114 rfl ?_
    refine r_lconst C (v := 0) dX6_base_115 (by decide) ?_
    refine r_aload_n C 0 rfl dX6_base_116 rfl ?_
    refine r_iload_n C 1 rfl dX6_base_117 rfl ?_
    refine r_iconst C (v := 0) dX6_base_118 (by decide) ?_
    obtain ⟨r28, qr28, h⟩ := bd_i h
    refine q_callV C 6 0 0 (c_of qr28) rfl mw_self rfl ok_of in_of lk6_108 rfl (Nat.le_of_ble_eq_true rfl) ⟨Nat.le_of_ble_eq_true rfl, Nat.le_of_ble_eq_true rfl⟩ dX6_base_119 rfl rfl ?_
    obtain ⟨r29, qr29, h⟩ := bd_i h
    refine q_callV C 3 0 0 (c_less qr29) rfl mw_self rfl ok_less in_less lk6_105 rfl (Nat.le_of_ble_eq_true rfl) ⟨Nat.le_of_ble_eq_true rfl, Nat.le_of_ble_eq_true rfl⟩ dX6_base_122 rfl rfl ?_
    obtain ⟨r30, qr30, h⟩ := bd_i h
    refine q_callVv C 0 0 0 (c_set qr30) rfl mw_self rfl ok_set in_set lk6_101 rfl (Nat.le_of_ble_eq_true rfl) ⟨Nat.le_of_ble_eq_true rfl, Nat.le_of_ble_eq_true rfl⟩ dX6_base_125 rfl rfl ?_
    refine r_goto C (tgt := 170) dX6_base_128 (by decide) ?_
    refine r_lv [0] rfl ?_
    exact w_base_J170 C h hO
noncomputable def m_joined_L20 (two : Nat → Int64) (s : (Int32 × (Nat → Int64))) : Option ((Int32 × (Nat → Int64)) ⊕ (Nat → Int64)) := if ((4 : Int32)) ≤ s.1 then (some (.inr s.2)) else (if gi s.1 16 then if gi s.1 16 then some (.inl (s.1 + 1, vp_updL s.2 s.1.toNatClampNeg (two s.1.toNatClampNeg))) else none else none)
noncomputable def m_joined (n : Int32) (p : Int64) (count : Int32) (sorts : Nat → Int32) (rows : Nat → Int64) (draft : Nat → Int64) (frame : Nat → Int64) (one : Nat → Int64) (two : Nat → Int64) (x1 : Int32) (x2 : Int32) : Option (Int32 × Int32 × (Nat → Int32) × (Nat → Int64) × (Nat → Int64) × (Nat → Int64) × (Nat → Int64) × (Nat → Int64)) := (m_base n p rows frame one two x2).bind fun r1 => (m_spanned p rows draft r1.2.1 x1).bind fun r2 => (m_isNothing n r2 ((2 : Int32))).bind fun r3 => if r3 = 0 then ((m_made n p count sorts rows r2 ((2 : Int32))).bind fun r4 => some (r4.1, r4.2.1, r4.2.2.1, r4.2.2.2.1, r4.2.2.2.2, r1.1, r1.2.1, r1.2.2)) else ((itX (m_joined_L20 r1.2.2) ((0 : Int32), r1.2.1)).bind fun r5 => (m_spanned p rows r2 r5 x1).bind fun r6 => (m_made n p count sorts rows r6 ((2 : Int32))).bind fun r7 => some (r7.1, r7.2.1, r7.2.2.1, r7.2.2.2.1, r7.2.2.2.2, r1.1, r5, r1.2.2))
set_option maxHeartbeats 4000000 in
set_option maxRecDepth 100000 in
theorem w_joined_L20 {K : kT} {O : oT} (C : aC K cX6_joined RX6 "joined" 5 91 0 0 4 (some .int) O) {h0 : Nat} {hp : cH} {sz : Nat} {n : Int32} {p : Int64} {count : Int32} {sorts : Nat → Int32} {rows : Nat → Int64} {hand : Nat → Int64} {gathered : Int32} {gather : Nat → Int32} {paired : Int32} {pairA : Nat → Int32} {pairB : Nat → Int32} {ideal : Int32} {draft : Nat → Int64} {frame : Nat → Int64} {two : Nat → Int64} {turned : Nat → Int64} {placeI : Int32} {placeJ : Int32} {formA : Int64} {formB : Int64} {formC : Int64} {l1 : Int32} {v0 : Int32} {v1 : Nat → Int64} {r : (Nat → Int64)} (h : itX (m_joined_L20 two) (v0, v1) = some r) (hr : aW K (mw h0 hp n p count sorts rows hand gathered gather paired pairA pairB ideal draft frame r two turned placeI placeJ formA formB formC) sz 0 0 43 [(0, .ref h0), (1, .int l1)] []) : aW K (mw h0 hp n p count sorts rows hand gathered gather paired pairA pairB ideal draft frame v1 two turned placeI placeJ formA formB formC) sz 0 0 20 [(0, .ref h0), (1, .int l1), (3, .int v0)] [] := by
  refine it_walk (f := m_joined_L20 two) (P := fun s => aW K (mw h0 hp n p count sorts rows hand gathered gather paired pairA pairB ideal draft frame s.2 two turned placeI placeJ formA formB formC) sz 0 0 20 [(0, .ref h0), (1, .int l1), (3, .int s.1)] []) (R := fun r => aW K (mw h0 hp n p count sorts rows hand gathered gather paired pairA pairB ideal draft frame r two turned placeI placeJ formA formB formC) sz 0 0 43 [(0, .ref h0), (1, .int l1)] []) ?_ h hr
  clear h hr
  intro s x h kl kr
  unfold m_joined_L20 at h
  refine r_iload_n C 2 rfl dX6_joined_20 rfl ?_
  refine r_iconst C (v := 4) dX6_joined_21 (by decide) ?_
  refine r_icmp_ge C (tgt := 43) dX6_joined_22 (by decide) (fun hc => ?_) (fun hc => ?_)
  · replace h := br_p hc h
    refine r_lv [0, 1] rfl ?_
    exact kr _ (sm_i h)
  · replace h := br_n hc h
    refine r_aload_n C 0 rfl dX6_joined_25 rfl ?_
    refine m_g_one C dX6_joined_26 ?_
    refine r_iload_n C 2 rfl dX6_joined_29 rfl ?_
    refine r_aload_n C 0 rfl dX6_joined_30 rfl ?_
    refine m_g_two C dX6_joined_31 ?_
    refine r_iload_n C 2 rfl dX6_joined_34 rfl ?_
    obtain ⟨hi, h⟩ := gd_t h
    refine m_l_two C hi dX6_joined_35 ?_
    obtain ⟨hi, h⟩ := gd_t h
    refine m_s_one C hi dX6_joined_36 ?_
    refine r_iinc C (v := s.1 + 1) (lv' := [(3, .int (s.1 + 1)), (0, .ref h0), (1, .int l1)]) 2 rfl dX6_joined_37 rfl (by decide) rfl ?_
    refine r_goto C (tgt := 20) dX6_joined_40 (by decide) ?_
    refine r_lv [1, 2, 0] rfl ?_
    exact kl _ (sm_i h)
set_option maxHeartbeats 4000000 in
set_option maxRecDepth 100000 in
theorem c_joined {G : gT} {h0 : Nat} {hp : cH} {sz : Nat} {n : Int32} {p : Int64} {count : Int32} {sorts : Nat → Int32} {rows : Nat → Int64} {hand : Nat → Int64} {gathered : Int32} {gather : Nat → Int32} {paired : Int32} {pairA : Nat → Int32} {pairB : Nat → Int32} {ideal : Int32} {draft : Nat → Int64} {frame : Nat → Int64} {one : Nat → Int64} {two : Nat → Int64} {turned : Nat → Int64} {placeI : Int32} {placeJ : Int32} {formA : Int64} {formB : Int64} {formC : Int64} {x1 : Int32} {x2 : Int32} {out : (Int32 × Int32 × (Nat → Int32) × (Nat → Int64) × (Nat → Int64) × (Nat → Int64) × (Nat → Int64) × (Nat → Int64))} (h : m_joined n p count sorts rows draft frame one two x1 x2 = some out) : aM G yX6_joined cX6_joined 4 (some .int) 5 91 0 0 [.ref h0, .int x1, .int x2] (mw h0 hp n p count sorts rows hand gathered gather paired pairA pairB ideal draft frame one two turned placeI placeJ formA formB formC) sz ((some (.int out.1), mw h0 hp n p out.2.1 out.2.2.1 out.2.2.2.1 hand gathered gather paired pairA pairB ideal out.2.2.2.2.1 out.2.2.2.2.2.1 out.2.2.2.2.2.2.1 out.2.2.2.2.2.2.2 turned placeI placeJ formA formB formC, sz) : oT) := by
  refine aM.of RX6 (by decide) rfl (Nat.le_of_ble_eq_true rfl) (fun K C => ?_)
  have hO : ((some (.int out.1), mw h0 hp n p out.2.1 out.2.2.1 out.2.2.2.1 hand gathered gather paired pairA pairB ideal out.2.2.2.2.1 out.2.2.2.2.2.1 out.2.2.2.2.2.2.1 out.2.2.2.2.2.2.2 turned placeI placeJ formA formB formC, sz) : oT) = ((some (.int out.1), mw h0 hp n p out.2.1 out.2.2.1 out.2.2.2.1 hand gathered gather paired pairA pairB ideal out.2.2.2.2.1 out.2.2.2.2.2.1 out.2.2.2.2.2.2.1 out.2.2.2.2.2.2.2 turned placeI placeJ formA formB formC, sz) : oT) := rfl
  refine r_lve (lv' := [(0, .ref h0), (1, .int x1), (2, .int x2)]) rfl ?_
  unfold m_joined at h
  refine r_aload_n C 0 rfl dX6_joined_0 rfl ?_
  refine r_iload_n C 2 rfl dX6_joined_1 rfl ?_
  obtain ⟨r1, qr1, h⟩ := bd_i h
  refine q_callVv C 0 0 0 (c_base qr1) rfl mw_self rfl ok_base in_base lk6_171 rfl (Nat.le_of_ble_eq_true rfl) ⟨Nat.le_of_ble_eq_true rfl, Nat.le_of_ble_eq_true rfl⟩ dX6_joined_2 rfl rfl ?_
  refine r_aload_n C 0 rfl dX6_joined_5 rfl ?_
  refine r_iload_n C 1 rfl dX6_joined_6 rfl ?_
  obtain ⟨r2, qr2, h⟩ := bd_i h
  refine q_callVv C 0 0 0 (c_spanned qr2) rfl mw_self rfl ok_spanned in_spanned lk6_165 rfl (Nat.le_of_ble_eq_true rfl) ⟨Nat.le_of_ble_eq_true rfl, Nat.le_of_ble_eq_true rfl⟩ dX6_joined_7 rfl rfl ?_
  refine r_aload_n C 0 rfl dX6_joined_10 rfl ?_
  refine r_iconst C (v := 2) dX6_joined_11 (by decide) ?_
  obtain ⟨r3, qr3, h⟩ := bd_i h
  refine q_callV C 0 0 0 (c_isNothing qr3) rfl mw_self rfl ok_isNothing in_isNothing lk6_130 rfl (Nat.le_of_ble_eq_true rfl) ⟨Nat.le_of_ble_eq_true rfl, Nat.le_of_ble_eq_true rfl⟩ dX6_joined_12 rfl rfl ?_
  refine r_if_eq C (tgt := 48) dX6_joined_15 (by decide) (fun hc => ?_) (fun hc => ?_)
  · replace h := br_p hc h
    refine r_aload_n C 0 rfl dX6_joined_48 rfl ?_
    refine r_iconst C (v := 2) dX6_joined_49 (by decide) ?_
    obtain ⟨r4, qr4, h⟩ := bd_i h
    refine q_callV C 0 0 0 (c_made qr4) rfl mw_self rfl ok_made in_made lk6_133 rfl (Nat.le_of_ble_eq_true rfl) ⟨Nat.le_of_ble_eq_true rfl, Nat.le_of_ble_eq_true rfl⟩ dX6_joined_50 rfl rfl ?_
    obtain rfl := sm_i h
    exact r_ireturn C (Eq.symm hO) dX6_joined_53
  · replace h := br_n hc h
    refine r_iconst C (v := 0) dX6_joined_18 (by decide) ?_
    refine r_istore_n C (lv' := [(3, .int ((0 : Int32))), (0, .ref h0), (1, .int x1), (2, .int x2)]) dX6_joined_19 rfl (by decide) rfl ?_
    refine r_lv [1, 2, 0] rfl ?_
    obtain ⟨r5, qr5, h⟩ := bd_i h
    refine w_joined_L20 C qr5 ?_
    refine r_aload_n C 0 rfl dX6_joined_43 rfl ?_
    refine r_iload_n C 1 rfl dX6_joined_44 rfl ?_
    obtain ⟨r6, qr6, h⟩ := bd_i h
    refine q_callVv C 0 0 0 (c_spanned qr6) rfl mw_self rfl ok_spanned in_spanned lk6_165 rfl (Nat.le_of_ble_eq_true rfl) ⟨Nat.le_of_ble_eq_true rfl, Nat.le_of_ble_eq_true rfl⟩ dX6_joined_45 rfl rfl ?_
    refine r_aload_n C 0 rfl dX6_joined_48 rfl ?_
    refine r_iconst C (v := 2) dX6_joined_49 (by decide) ?_
    obtain ⟨r7, qr7, h⟩ := bd_i h
    refine q_callV C 0 0 0 (c_made qr7) rfl mw_self rfl ok_made in_made lk6_133 rfl (Nat.le_of_ble_eq_true rfl) ⟨Nat.le_of_ble_eq_true rfl, Nat.le_of_ble_eq_true rfl⟩ dX6_joined_50 rfl rfl ?_
    obtain rfl := sm_i h
    exact r_ireturn C (Eq.symm hO) dX6_joined_53
noncomputable def m_takeTwo_L2 (n : Int32) (rows : Nat → Int64) (l1 : Int32) (s : (Int32 × (Nat → Int64))) : Option ((Int32 × (Nat → Int64)) ⊕ (Nat → Int64)) := (m_side n).bind fun r1 => if r1 ≤ s.1 then (some (.inr s.2)) else ((m_of rows l1 s.1).bind fun r2 => if gi s.1 16 then some (.inl (s.1 + 1, vp_updL s.2 s.1.toNatClampNeg r2)) else none)
noncomputable def m_takeTwo (n : Int32) (rows : Nat → Int64) (two : Nat → Int64) (x1 : Int32) : Option (Nat → Int64) := (itX (m_takeTwo_L2 n rows x1) ((0 : Int32), two)).bind fun r3 => some r3
set_option maxHeartbeats 4000000 in
set_option maxRecDepth 100000 in
theorem w_takeTwo_L2 {K : kT} {O : oT} (C : aC K cX6_takeTwo RX6 "takeTwo" 1 16 0 0 3 none O) {h0 : Nat} {hp : cH} {sz : Nat} {n : Int32} {p : Int64} {count : Int32} {sorts : Nat → Int32} {rows : Nat → Int64} {hand : Nat → Int64} {gathered : Int32} {gather : Nat → Int32} {paired : Int32} {pairA : Nat → Int32} {pairB : Nat → Int32} {ideal : Int32} {draft : Nat → Int64} {frame : Nat → Int64} {one : Nat → Int64} {turned : Nat → Int64} {placeI : Int32} {placeJ : Int32} {formA : Int64} {formB : Int64} {formC : Int64} {l1 : Int32} {v0 : Int32} {v1 : Nat → Int64} {r : (Nat → Int64)} (h : itX (m_takeTwo_L2 n rows l1) (v0, v1) = some r) (hr : aW K (mw h0 hp n p count sorts rows hand gathered gather paired pairA pairB ideal draft frame one r turned placeI placeJ formA formB formC) sz 0 0 28 [] []) : aW K (mw h0 hp n p count sorts rows hand gathered gather paired pairA pairB ideal draft frame one v1 turned placeI placeJ formA formB formC) sz 0 0 2 [(0, .ref h0), (1, .int l1), (2, .int v0)] [] := by
  refine it_walk (f := m_takeTwo_L2 n rows l1) (P := fun s => aW K (mw h0 hp n p count sorts rows hand gathered gather paired pairA pairB ideal draft frame one s.2 turned placeI placeJ formA formB formC) sz 0 0 2 [(0, .ref h0), (1, .int l1), (2, .int s.1)] []) (R := fun r => aW K (mw h0 hp n p count sorts rows hand gathered gather paired pairA pairB ideal draft frame one r turned placeI placeJ formA formB formC) sz 0 0 28 [] []) ?_ h hr
  clear h hr
  intro s x h kl kr
  unfold m_takeTwo_L2 at h
  refine r_iload_n C 2 rfl dX6_takeTwo_2 rfl ?_
  refine r_aload_n C 0 rfl dX6_takeTwo_3 rfl ?_
  obtain ⟨r1, qr1, h⟩ := bd_i h
  refine q_callV C 1 0 0 (c_side qr1) rfl mw_self rfl ok_side in_side lk6_111 rfl (Nat.le_of_ble_eq_true rfl) ⟨Nat.le_of_ble_eq_true rfl, Nat.le_of_ble_eq_true rfl⟩ dX6_takeTwo_4 rfl rfl ?_
  refine r_icmp_ge C (tgt := 28) dX6_takeTwo_7 (by decide) (fun hc => ?_) (fun hc => ?_)
  · replace h := br_p hc h
    refine r_lv [] rfl ?_
    exact kr _ (sm_i h)
  · replace h := br_n hc h
    refine r_aload_n C 0 rfl dX6_takeTwo_10 rfl ?_
    refine m_g_two C dX6_takeTwo_11 ?_
    refine r_iload_n C 2 rfl dX6_takeTwo_14 rfl ?_
    refine r_aload_n C 0 rfl dX6_takeTwo_15 rfl ?_
    refine r_iload_n C 1 rfl dX6_takeTwo_16 rfl ?_
    refine r_iload_n C 2 rfl dX6_takeTwo_17 rfl ?_
    obtain ⟨r2, qr2, h⟩ := bd_i h
    refine q_callV C 2 0 0 (c_of qr2) rfl mw_self rfl ok_of in_of lk6_108 rfl (Nat.le_of_ble_eq_true rfl) ⟨Nat.le_of_ble_eq_true rfl, Nat.le_of_ble_eq_true rfl⟩ dX6_takeTwo_18 rfl rfl ?_
    obtain ⟨hi, h⟩ := gd_t h
    refine m_s_two C hi dX6_takeTwo_21 ?_
    refine r_iinc C (v := s.1 + 1) (lv' := [(2, .int (s.1 + 1)), (0, .ref h0), (1, .int l1)]) 2 rfl dX6_takeTwo_22 rfl (by decide) rfl ?_
    refine r_goto C (tgt := 2) dX6_takeTwo_25 (by decide) ?_
    refine r_lv [1, 2, 0] rfl ?_
    exact kl _ (sm_i h)
set_option maxHeartbeats 4000000 in
set_option maxRecDepth 100000 in
theorem c_takeTwo {G : gT} {h0 : Nat} {hp : cH} {sz : Nat} {n : Int32} {p : Int64} {count : Int32} {sorts : Nat → Int32} {rows : Nat → Int64} {hand : Nat → Int64} {gathered : Int32} {gather : Nat → Int32} {paired : Int32} {pairA : Nat → Int32} {pairB : Nat → Int32} {ideal : Int32} {draft : Nat → Int64} {frame : Nat → Int64} {one : Nat → Int64} {two : Nat → Int64} {turned : Nat → Int64} {placeI : Int32} {placeJ : Int32} {formA : Int64} {formB : Int64} {formC : Int64} {x1 : Int32} {out : (Nat → Int64)} (h : m_takeTwo n rows two x1 = some out) : aM G yX6_takeTwo cX6_takeTwo 3 none 1 16 0 0 [.ref h0, .int x1] (mw h0 hp n p count sorts rows hand gathered gather paired pairA pairB ideal draft frame one two turned placeI placeJ formA formB formC) sz ((none, mw h0 hp n p count sorts rows hand gathered gather paired pairA pairB ideal draft frame one out turned placeI placeJ formA formB formC, sz) : oT) := by
  refine aM.of RX6 (by decide) rfl (Nat.le_of_ble_eq_true rfl) (fun K C => ?_)
  have hO : ((none, mw h0 hp n p count sorts rows hand gathered gather paired pairA pairB ideal draft frame one out turned placeI placeJ formA formB formC, sz) : oT) = ((none, mw h0 hp n p count sorts rows hand gathered gather paired pairA pairB ideal draft frame one out turned placeI placeJ formA formB formC, sz) : oT) := rfl
  refine r_lve (lv' := [(0, .ref h0), (1, .int x1)]) rfl ?_
  unfold m_takeTwo at h
  refine r_iconst C (v := 0) dX6_takeTwo_0 (by decide) ?_
  refine r_istore_n C (lv' := [(2, .int ((0 : Int32))), (0, .ref h0), (1, .int x1)]) dX6_takeTwo_1 rfl (by decide) rfl ?_
  refine r_lv [1, 2, 0] rfl ?_
  obtain ⟨r3, qr3, h⟩ := bd_i h
  refine w_takeTwo_L2 C qr3 ?_
  obtain rfl := sm_i h
  exact r_return C (Eq.symm hO) dX6_takeTwo_28
