noncomputable def m_fourth_L137 (n : Int32) (p : Int64) (rows : Nat → Int64) (l1 : Int32) (l2 : Int32) (l6 : Int64) (l8 : Int64) (s : (Int32 × (Nat → Int64))) : Option ((Int32 × (Nat → Int64)) ⊕ (Nat → Int64)) := (m_side n).bind fun r10 => if r10 ≤ s.1 then (some (.inr s.2)) else ((m_of rows l1 s.1).bind fun r11 => (m_times p l6 r11).bind fun r12 => (m_of rows l2 s.1).bind fun r13 => (m_times p l8 r13).bind fun r14 => if p = 0 then none else if gi s.1 16 then some (.inl (s.1 + 1, vp_updL s.2 s.1.toNatClampNeg ((r12 + r14) - (r12 + r14) / p * p))) else none)
noncomputable def m_fourth (n : Int32) (p : Int64) (count : Int32) (sorts : Nat → Int32) (rows : Nat → Int64) (draft : Nat → Int64) (frame : Nat → Int64) (placeI : Int32) (placeJ : Int32) (x1 : Int32) (x2 : Int32) (x3 : Int32) (x4 : Int64) : Option (Int32 × Int32 × (Nat → Int32) × (Nat → Int64) × (Nat → Int64) × (Nat → Int64) × Int32 × Int32) := (m_areOne n count sorts x1 x2).bind fun r1 => if r1 = 0 then (some ((-2 : Int32), count, sorts, rows, draft, frame, placeI, placeJ)) else ((m_areOne n count sorts x2 x3).bind fun r2 => if r2 = 0 then (some ((-2 : Int32), count, sorts, rows, draft, frame, placeI, placeJ)) else (if x4 < ((0 : Int64)) then (some ((-2 : Int32), count, sorts, rows, draft, frame, placeI, placeJ)) else (if x4 ≤ p then (if x1 = x2 then (some ((-1 : Int32), count, sorts, rows, draft, frame, placeI, placeJ)) else (if x2 = x3 then (some ((-1 : Int32), count, sorts, rows, draft, frame, placeI, placeJ)) else (if x1 = x3 then (some ((-1 : Int32), count, sorts, rows, draft, frame, placeI, placeJ)) else ((m_rankOf n p rows frame x1 x2 x3 x3).bind fun r3 => if r3.1 = ((2 : Int32)) then ((m_places n p rows placeI placeJ x1 x2 x3 x3).bind fun r4 => if x4 = p then (if x4 = p then ((m_clear draft).bind fun r24 => (itX (m_fourth_L137 n p rows x1 x2 ((1 : Int64)) ((0 : Int64))) ((0 : Int32), r24)).bind fun r25 => if gi x1 60 then (m_made n p count sorts rows r25 (sorts x1.toNatClampNeg)).bind fun r26 => some (r26.1, r26.2.1, r26.2.2.1, r26.2.2.2.1, r26.2.2.2.2, r3.2, r4.1, r4.2) else none) else ((m_brackets p rows r4.1 r4.2 x1 x3).bind fun r20 => (m_clear draft).bind fun r21 => (itX (m_fourth_L137 n p rows x1 x2 ((1 : Int64)) r20) ((0 : Int32), r21)).bind fun r22 => if gi x1 60 then (m_made n p count sorts rows r22 (sorts x1.toNatClampNeg)).bind fun r23 => some (r23.1, r23.2.1, r23.2.2.1, r23.2.2.2.1, r23.2.2.2.2, r3.2, r4.1, r4.2) else none)) else ((m_brackets p rows r4.1 r4.2 x2 x3).bind fun r5 => (m_times p x4 r5).bind fun r6 => (m_less p ((0 : Int64)) r6).bind fun r7 => if x4 = p then ((m_clear draft).bind fun r17 => (itX (m_fourth_L137 n p rows x1 x2 r7 ((0 : Int64))) ((0 : Int32), r17)).bind fun r18 => if gi x1 60 then (m_made n p count sorts rows r18 (sorts x1.toNatClampNeg)).bind fun r19 => some (r19.1, r19.2.1, r19.2.2.1, r19.2.2.2.1, r19.2.2.2.2, r3.2, r4.1, r4.2) else none) else ((m_brackets p rows r4.1 r4.2 x1 x3).bind fun r8 => (m_clear draft).bind fun r9 => (itX (m_fourth_L137 n p rows x1 x2 r7 r8) ((0 : Int32), r9)).bind fun r15 => if gi x1 60 then (m_made n p count sorts rows r15 (sorts x1.toNatClampNeg)).bind fun r16 => some (r16.1, r16.2.1, r16.2.2.1, r16.2.2.2.1, r16.2.2.2.2, r3.2, r4.1, r4.2) else none))) else (some ((-1 : Int32), count, sorts, rows, draft, r3.2, placeI, placeJ)))))) else (some ((-2 : Int32), count, sorts, rows, draft, frame, placeI, placeJ)))))
set_option maxHeartbeats 4000000 in
set_option maxRecDepth 100000 in
theorem w_fourth_L137 {K : kT} {O : oT} (C : aC K cX6_fourth RX6 "fourth" 5 92 0 0 11 (some .int) O) {h0 : Nat} {hp : cH} {sz : Nat} {n : Int32} {p : Int64} {count : Int32} {sorts : Nat → Int32} {rows : Nat → Int64} {hand : Nat → Int64} {gathered : Int32} {gather : Nat → Int32} {paired : Int32} {pairA : Nat → Int32} {pairB : Nat → Int32} {ideal : Int32} {frame : Nat → Int64} {one : Nat → Int64} {two : Nat → Int64} {turned : Nat → Int64} {placeI : Int32} {placeJ : Int32} {formA : Int64} {formB : Int64} {formC : Int64} {l1 : Int32} {l2 : Int32} {l6 : Int64} {l8 : Int64} {v0 : Int32} {v1 : Nat → Int64} {r : (Nat → Int64)} (h : itX (m_fourth_L137 n p rows l1 l2 l6 l8) (v0, v1) = some r) (hr : aW K (mw h0 hp n p count sorts rows hand gathered gather paired pairA pairB ideal r frame one two turned placeI placeJ formA formB formC) sz 0 0 191 [(0, .ref h0), (1, .int l1)] []) : aW K (mw h0 hp n p count sorts rows hand gathered gather paired pairA pairB ideal v1 frame one two turned placeI placeJ formA formB formC) sz 0 0 137 [(0, .ref h0), (1, .int l1), (2, .int l2), (6, .long l6), (8, .long l8), (10, .int v0)] [] := by
  refine it_walk (f := m_fourth_L137 n p rows l1 l2 l6 l8) (P := fun s => aW K (mw h0 hp n p count sorts rows hand gathered gather paired pairA pairB ideal s.2 frame one two turned placeI placeJ formA formB formC) sz 0 0 137 [(0, .ref h0), (1, .int l1), (2, .int l2), (6, .long l6), (8, .long l8), (10, .int s.1)] []) (R := fun r => aW K (mw h0 hp n p count sorts rows hand gathered gather paired pairA pairB ideal r frame one two turned placeI placeJ formA formB formC) sz 0 0 191 [(0, .ref h0), (1, .int l1)] []) ?_ h hr
  clear h hr
  intro s x h kl kr
  unfold m_fourth_L137 at h
  refine r_iload C 5 rfl dX6_fourth_137 ?_
  refine r_aload_n C 0 rfl dX6_fourth_139 rfl ?_
  obtain ⟨r10, qr10, h⟩ := bd_i h
  refine q_callV C 1 0 0 (c_side qr10) rfl mw_self rfl ok_side in_side lk6_111 rfl (Nat.le_of_ble_eq_true rfl) ⟨Nat.le_of_ble_eq_true rfl, Nat.le_of_ble_eq_true rfl⟩ dX6_fourth_140 rfl rfl ?_
  refine r_icmp_ge C (tgt := 191) dX6_fourth_143 (by decide) (fun hc => ?_) (fun hc => ?_)
  · replace h := br_p hc h
    refine r_lv [0, 1] rfl ?_
    exact kr _ (sm_i h)
  · replace h := br_n hc h
    refine r_aload_n C 0 rfl dX6_fourth_146 rfl ?_
    refine m_g_draft C dX6_fourth_147 ?_
    refine r_iload C 5 rfl dX6_fourth_150 ?_
    refine r_aload_n C 0 rfl dX6_fourth_152 rfl ?_
    refine r_lload C 3 rfl dX6_fourth_153 ?_
    refine r_aload_n C 0 rfl dX6_fourth_155 rfl ?_
    refine r_iload_n C 1 rfl dX6_fourth_156 rfl ?_
    refine r_iload C 5 rfl dX6_fourth_157 ?_
    obtain ⟨r11, qr11, h⟩ := bd_i h
    refine q_callV C 5 0 0 (c_of qr11) rfl mw_self rfl ok_of in_of lk6_108 rfl (Nat.le_of_ble_eq_true rfl) ⟨Nat.le_of_ble_eq_true rfl, Nat.le_of_ble_eq_true rfl⟩ dX6_fourth_159 rfl rfl ?_
    obtain ⟨r12, qr12, h⟩ := bd_i h
    refine q_callV C 2 0 0 (c_times qr12) rfl mw_self rfl ok_times in_times lk6_76 rfl (Nat.le_of_ble_eq_true rfl) ⟨Nat.le_of_ble_eq_true rfl, Nat.le_of_ble_eq_true rfl⟩ dX6_fourth_162 rfl rfl ?_
    refine r_aload_n C 0 rfl dX6_fourth_165 rfl ?_
    refine r_lload C 4 rfl dX6_fourth_166 ?_
    refine r_aload_n C 0 rfl dX6_fourth_168 rfl ?_
    refine r_iload_n C 2 rfl dX6_fourth_169 rfl ?_
    refine r_iload C 5 rfl dX6_fourth_170 ?_
    obtain ⟨r13, qr13, h⟩ := bd_i h
    refine q_callV C 7 0 0 (c_of qr13) rfl mw_self rfl ok_of in_of lk6_108 rfl (Nat.le_of_ble_eq_true rfl) ⟨Nat.le_of_ble_eq_true rfl, Nat.le_of_ble_eq_true rfl⟩ dX6_fourth_172 rfl rfl ?_
    obtain ⟨r14, qr14, h⟩ := bd_i h
    refine q_callV C 4 0 0 (c_times qr14) rfl mw_self rfl ok_times in_times lk6_76 rfl (Nat.le_of_ble_eq_true rfl) ⟨Nat.le_of_ble_eq_true rfl, Nat.le_of_ble_eq_true rfl⟩ dX6_fourth_175 rfl rfl ?_
    refine r_ladd C dX6_fourth_178 ?_
    refine r_aload_n C 0 rfl dX6_fourth_179 rfl ?_
    refine m_g_p C dX6_fourth_180 ?_
    obtain ⟨hne, h⟩ := gd_n h
    refine r_lrem C dX6_fourth_183 hne ?_
    obtain ⟨hi, h⟩ := gd_t h
    refine m_s_draft C hi dX6_fourth_184 ?_
    refine r_iinc C (v := s.1 + 1) (lv' := [(10, .int (s.1 + 1)), (0, .ref h0), (1, .int l1), (2, .int l2), (6, .long l6), (8, .long l8)]) 5 rfl dX6_fourth_185 rfl (by decide) rfl ?_
    refine r_goto C (tgt := 137) dX6_fourth_188 (by decide) ?_
    refine r_lv [1, 2, 3, 4, 5, 0] rfl ?_
    exact kl _ (sm_i h)
set_option maxHeartbeats 4000000 in
set_option maxRecDepth 100000 in
theorem c_fourth {G : gT} {h0 : Nat} {hp : cH} {sz : Nat} {n : Int32} {p : Int64} {count : Int32} {sorts : Nat → Int32} {rows : Nat → Int64} {hand : Nat → Int64} {gathered : Int32} {gather : Nat → Int32} {paired : Int32} {pairA : Nat → Int32} {pairB : Nat → Int32} {ideal : Int32} {draft : Nat → Int64} {frame : Nat → Int64} {one : Nat → Int64} {two : Nat → Int64} {turned : Nat → Int64} {placeI : Int32} {placeJ : Int32} {formA : Int64} {formB : Int64} {formC : Int64} {x1 : Int32} {x2 : Int32} {x3 : Int32} {x4 : Int64} {out : (Int32 × Int32 × (Nat → Int32) × (Nat → Int64) × (Nat → Int64) × (Nat → Int64) × Int32 × Int32)} (h : m_fourth n p count sorts rows draft frame placeI placeJ x1 x2 x3 x4 = some out) : aM G yX6_fourth cX6_fourth 11 (some .int) 5 92 0 0 [.ref h0, .int x1, .int x2, .int x3, .long x4] (mw h0 hp n p count sorts rows hand gathered gather paired pairA pairB ideal draft frame one two turned placeI placeJ formA formB formC) sz ((some (.int out.1), mw h0 hp n p out.2.1 out.2.2.1 out.2.2.2.1 hand gathered gather paired pairA pairB ideal out.2.2.2.2.1 out.2.2.2.2.2.1 one two turned out.2.2.2.2.2.2.1 out.2.2.2.2.2.2.2 formA formB formC, sz) : oT) := by
  refine aM.of RX6 (by decide) rfl (Nat.le_of_ble_eq_true rfl) (fun K C => ?_)
  have hO : ((some (.int out.1), mw h0 hp n p out.2.1 out.2.2.1 out.2.2.2.1 hand gathered gather paired pairA pairB ideal out.2.2.2.2.1 out.2.2.2.2.2.1 one two turned out.2.2.2.2.2.2.1 out.2.2.2.2.2.2.2 formA formB formC, sz) : oT) = ((some (.int out.1), mw h0 hp n p out.2.1 out.2.2.1 out.2.2.2.1 hand gathered gather paired pairA pairB ideal out.2.2.2.2.1 out.2.2.2.2.2.1 one two turned out.2.2.2.2.2.2.1 out.2.2.2.2.2.2.2 formA formB formC, sz) : oT) := rfl
  refine r_lve (lv' := [(0, .ref h0), (1, .int x1), (2, .int x2), (3, .int x3), (4, .long x4)]) rfl ?_
  unfold m_fourth at h
  refine r_aload_n C 0 rfl dX6_fourth_0 rfl ?_
  refine r_iload_n C 1 rfl dX6_fourth_1 rfl ?_
  refine r_iload_n C 2 rfl dX6_fourth_2 rfl ?_
  obtain ⟨r1, qr1, h⟩ := bd_i h
  refine q_callV C 0 0 0 (c_areOne qr1) rfl mw_self rfl ok_areOne in_areOne lk6_211 rfl (Nat.le_of_ble_eq_true rfl) ⟨Nat.le_of_ble_eq_true rfl, Nat.le_of_ble_eq_true rfl⟩ dX6_fourth_3 rfl rfl ?_
  refine r_if_eq C (tgt := 35) dX6_fourth_6 (by decide) (fun hc => ?_) (fun hc => ?_)
  · replace h := br_p hc h
    refine r_bipush C (v := -2) dX6_fourth_35 (by decide) ?_
    obtain rfl := sm_i h
    exact r_ireturn C (Eq.symm hO) dX6_fourth_37
  · replace h := br_n hc h
    refine r_aload_n C 0 rfl dX6_fourth_9 rfl ?_
    refine r_iload_n C 2 rfl dX6_fourth_10 rfl ?_
    refine r_iload_n C 3 rfl dX6_fourth_11 rfl ?_
    obtain ⟨r2, qr2, h⟩ := bd_i h
    refine q_callV C 0 0 0 (c_areOne qr2) rfl mw_self rfl ok_areOne in_areOne lk6_211 rfl (Nat.le_of_ble_eq_true rfl) ⟨Nat.le_of_ble_eq_true rfl, Nat.le_of_ble_eq_true rfl⟩ dX6_fourth_12 rfl rfl ?_
    refine r_if_eq C (tgt := 35) dX6_fourth_15 (by decide) (fun hc => ?_) (fun hc => ?_)
    · replace h := br_p hc h
      refine r_bipush C (v := -2) dX6_fourth_35 (by decide) ?_
      obtain rfl := sm_i h
      exact r_ireturn C (Eq.symm hO) dX6_fourth_37
    · replace h := br_n hc h
      refine r_lload C 4 rfl dX6_fourth_18 ?_
      refine r_lconst C (v := 0) dX6_fourth_20 (by decide) ?_
      refine r_llt C (tgt := 35) dX6_fourth_21 dX6_fourth_22 (by decide) (fun hc => ?_) (fun hc => ?_)
      · replace h := br_p hc h
        refine r_bipush C (v := -2) dX6_fourth_35 (by decide) ?_
        obtain rfl := sm_i h
        exact r_ireturn C (Eq.symm hO) dX6_fourth_37
      · replace h := br_n hc h
        refine r_lload C 4 rfl dX6_fourth_25 ?_
        refine r_aload_n C 0 rfl dX6_fourth_27 rfl ?_
        refine m_g_p C dX6_fourth_28 ?_
        refine r_lle C (tgt := 38) dX6_fourth_31 dX6_fourth_32 (by decide) (fun hc => ?_) (fun hc => ?_)
        · replace h := br_p hc h
          refine r_iload_n C 1 rfl dX6_fourth_38 rfl ?_
          refine r_iload_n C 2 rfl dX6_fourth_39 rfl ?_
          refine r_icmp_eq C (tgt := 65) dX6_fourth_40 (by decide) (fun hc => ?_) (fun hc => ?_)
          · replace h := br_p hc h
            refine r_iconst C (v := -1) dX6_fourth_65 (by decide) ?_
            obtain rfl := sm_i h
            exact r_ireturn C (Eq.symm hO) dX6_fourth_66
          · replace h := br_n hc h
            refine r_iload_n C 2 rfl dX6_fourth_43 rfl ?_
            refine r_iload_n C 3 rfl dX6_fourth_44 rfl ?_
            refine r_icmp_eq C (tgt := 65) dX6_fourth_45 (by decide) (fun hc => ?_) (fun hc => ?_)
            · replace h := br_p hc h
              refine r_iconst C (v := -1) dX6_fourth_65 (by decide) ?_
              obtain rfl := sm_i h
              exact r_ireturn C (Eq.symm hO) dX6_fourth_66
            · replace h := br_n hc h
              refine r_iload_n C 1 rfl dX6_fourth_48 rfl ?_
              refine r_iload_n C 3 rfl dX6_fourth_49 rfl ?_
              refine r_icmp_eq C (tgt := 65) dX6_fourth_50 (by decide) (fun hc => ?_) (fun hc => ?_)
              · replace h := br_p hc h
                refine r_iconst C (v := -1) dX6_fourth_65 (by decide) ?_
                obtain rfl := sm_i h
                exact r_ireturn C (Eq.symm hO) dX6_fourth_66
              · replace h := br_n hc h
                refine r_aload_n C 0 rfl dX6_fourth_53 rfl ?_
                refine r_iload_n C 1 rfl dX6_fourth_54 rfl ?_
                refine r_iload_n C 2 rfl dX6_fourth_55 rfl ?_
                refine r_iload_n C 3 rfl dX6_fourth_56 rfl ?_
                refine r_iload_n C 3 rfl dX6_fourth_57 rfl ?_
                obtain ⟨r3, qr3, h⟩ := bd_i h
                refine q_callV C 0 0 0 (c_rankOf qr3) rfl mw_self rfl ok_rankOf in_rankOf lk6_216 rfl (Nat.le_of_ble_eq_true rfl) ⟨Nat.le_of_ble_eq_true rfl, Nat.le_of_ble_eq_true rfl⟩ dX6_fourth_58 rfl rfl ?_
                refine r_iconst C (v := 2) dX6_fourth_61 (by decide) ?_
                refine r_icmp_eq C (tgt := 67) dX6_fourth_62 (by decide) (fun hc => ?_) (fun hc => ?_)
                · replace h := br_p hc h
                  refine r_aload_n C 0 rfl dX6_fourth_67 rfl ?_
                  refine r_iload_n C 1 rfl dX6_fourth_68 rfl ?_
                  refine r_iload_n C 2 rfl dX6_fourth_69 rfl ?_
                  refine r_iload_n C 3 rfl dX6_fourth_70 rfl ?_
                  refine r_iload_n C 3 rfl dX6_fourth_71 rfl ?_
                  obtain ⟨r4, qr4, h⟩ := bd_i h
                  refine q_callVv C 0 0 0 (c_places qr4) rfl mw_self rfl ok_places in_places lk6_222 rfl (Nat.le_of_ble_eq_true rfl) ⟨Nat.le_of_ble_eq_true rfl, Nat.le_of_ble_eq_true rfl⟩ dX6_fourth_72 rfl rfl ?_
                  refine r_lload C 4 rfl dX6_fourth_75 ?_
                  refine r_aload_n C 0 rfl dX6_fourth_77 rfl ?_
                  refine m_g_p C dX6_fourth_78 ?_
                  refine r_lne C (tgt := 89) dX6_fourth_81 dX6_fourth_82 (by decide) (fun hc => ?_) (fun hc => ?_)
                  · replace h := br_n hc h
                    refine r_aload_n C 0 rfl dX6_fourth_89 rfl ?_
                    refine r_lconst C (v := 0) dX6_fourth_90 (by decide) ?_
                    refine r_aload_n C 0 rfl dX6_fourth_91 rfl ?_
                    refine r_lload C 4 rfl dX6_fourth_92 ?_
                    refine r_aload_n C 0 rfl dX6_fourth_94 rfl ?_
                    refine r_iload_n C 2 rfl dX6_fourth_95 rfl ?_
                    refine r_iload_n C 3 rfl dX6_fourth_96 rfl ?_
                    obtain ⟨r5, qr5, h⟩ := bd_i h
                    refine q_callV C 6 0 0 (c_brackets qr5) rfl mw_self rfl ok_brackets in_brackets lk6_226 rfl (Nat.le_of_ble_eq_true rfl) ⟨Nat.le_of_ble_eq_true rfl, Nat.le_of_ble_eq_true rfl⟩ dX6_fourth_97 rfl rfl ?_
                    obtain ⟨r6, qr6, h⟩ := bd_i h
                    refine q_callV C 3 0 0 (c_times qr6) rfl mw_self rfl ok_times in_times lk6_76 rfl (Nat.le_of_ble_eq_true rfl) ⟨Nat.le_of_ble_eq_true rfl, Nat.le_of_ble_eq_true rfl⟩ dX6_fourth_100 rfl rfl ?_
                    obtain ⟨r7, qr7, h⟩ := bd_i h
                    refine q_callV C 0 0 0 (c_less qr7) rfl mw_self rfl ok_less in_less lk6_105 rfl (Nat.le_of_ble_eq_true rfl) ⟨Nat.le_of_ble_eq_true rfl, Nat.le_of_ble_eq_true rfl⟩ dX6_fourth_103 rfl rfl ?_
                    refine r_lstore C (lv' := [(6, .long r7), (0, .ref h0), (1, .int x1), (2, .int x2), (3, .int x3), (4, .long x4)]) dX6_fourth_106 (by decide) rfl ?_
                    refine r_lload C 5 rfl dX6_fourth_108 ?_
                    refine r_aload_n C 1 rfl dX6_fourth_110 rfl ?_
                    refine m_g_p C dX6_fourth_111 ?_
                    refine r_lne C (tgt := 122) dX6_fourth_114 dX6_fourth_115 (by decide) (fun hc => ?_) (fun hc => ?_)
                    · replace h := br_n hc h
                      refine r_aload_n C 1 rfl dX6_fourth_122 rfl ?_
                      refine r_iload_n C 2 rfl dX6_fourth_123 rfl ?_
                      refine r_iload_n C 4 rfl dX6_fourth_124 rfl ?_
                      obtain ⟨r8, qr8, h⟩ := bd_i h
                      refine q_callV C 0 0 0 (c_brackets qr8) rfl mw_self rfl ok_brackets in_brackets lk6_226 rfl (Nat.le_of_ble_eq_true rfl) ⟨Nat.le_of_ble_eq_true rfl, Nat.le_of_ble_eq_true rfl⟩ dX6_fourth_125 rfl rfl ?_
                      refine r_lstore C (lv' := [(8, .long r8), (6, .long r7), (0, .ref h0), (1, .int x1), (2, .int x2), (3, .int x3), (4, .long x4)]) dX6_fourth_128 (by decide) rfl ?_
                      refine r_aload_n C 2 rfl dX6_fourth_130 rfl ?_
                      obtain ⟨r9, qr9, h⟩ := bd_i h
                      refine q_callVv C 0 0 0 (c_clear qr9) rfl mw_self rfl ok_clear in_clear lk6_136 rfl (Nat.le_of_ble_eq_true rfl) ⟨Nat.le_of_ble_eq_true rfl, Nat.le_of_ble_eq_true rfl⟩ dX6_fourth_131 rfl rfl ?_
                      refine r_iconst C (v := 0) dX6_fourth_134 (by decide) ?_
                      refine r_istore C (lv' := [(10, .int ((0 : Int32))), (8, .long r8), (6, .long r7), (0, .ref h0), (1, .int x1), (2, .int x2), (3, .int x3), (4, .long x4)]) dX6_fourth_135 (by decide) rfl ?_
                      refine r_lv [3, 4, 5, 2, 1, 0] rfl ?_
                      obtain ⟨r15, qr15, h⟩ := bd_i h
                      refine w_fourth_L137 C qr15 ?_
                      refine r_aload_n C 0 rfl dX6_fourth_191 rfl ?_
                      refine r_aload_n C 0 rfl dX6_fourth_192 rfl ?_
                      refine m_g_sorts C dX6_fourth_193 ?_
                      refine r_iload_n C 1 rfl dX6_fourth_196 rfl ?_
                      obtain ⟨hi, h⟩ := gd_t h
                      refine m_l_sorts C hi dX6_fourth_197 ?_
                      obtain ⟨r16, qr16, h⟩ := bd_i h
                      refine q_callV C 0 0 0 (c_made qr16) rfl mw_self rfl ok_made in_made lk6_133 rfl (Nat.le_of_ble_eq_true rfl) ⟨Nat.le_of_ble_eq_true rfl, Nat.le_of_ble_eq_true rfl⟩ dX6_fourth_198 rfl rfl ?_
                      obtain rfl := sm_i h
                      exact r_ireturn C (Eq.symm hO) dX6_fourth_201
                    · replace h := br_p hc h
                      refine r_lconst C (v := 0) dX6_fourth_118 (by decide) ?_
                      refine r_goto C (tgt := 128) dX6_fourth_119 (by decide) ?_
                      refine r_lstore C (lv' := [(8, .long ((0 : Int64))), (6, .long r7), (0, .ref h0), (1, .int x1), (2, .int x2), (3, .int x3), (4, .long x4)]) dX6_fourth_128 (by decide) rfl ?_
                      refine r_aload_n C 2 rfl dX6_fourth_130 rfl ?_
                      obtain ⟨r17, qr17, h⟩ := bd_i h
                      refine q_callVv C 0 0 0 (c_clear qr17) rfl mw_self rfl ok_clear in_clear lk6_136 rfl (Nat.le_of_ble_eq_true rfl) ⟨Nat.le_of_ble_eq_true rfl, Nat.le_of_ble_eq_true rfl⟩ dX6_fourth_131 rfl rfl ?_
                      refine r_iconst C (v := 0) dX6_fourth_134 (by decide) ?_
                      refine r_istore C (lv' := [(10, .int ((0 : Int32))), (8, .long ((0 : Int64))), (6, .long r7), (0, .ref h0), (1, .int x1), (2, .int x2), (3, .int x3), (4, .long x4)]) dX6_fourth_135 (by decide) rfl ?_
                      refine r_lv [3, 4, 5, 2, 1, 0] rfl ?_
                      obtain ⟨r18, qr18, h⟩ := bd_i h
                      refine w_fourth_L137 C qr18 ?_
                      refine r_aload_n C 0 rfl dX6_fourth_191 rfl ?_
                      refine r_aload_n C 0 rfl dX6_fourth_192 rfl ?_
                      refine m_g_sorts C dX6_fourth_193 ?_
                      refine r_iload_n C 1 rfl dX6_fourth_196 rfl ?_
                      obtain ⟨hi, h⟩ := gd_t h
                      refine m_l_sorts C hi dX6_fourth_197 ?_
                      obtain ⟨r19, qr19, h⟩ := bd_i h
                      refine q_callV C 0 0 0 (c_made qr19) rfl mw_self rfl ok_made in_made lk6_133 rfl (Nat.le_of_ble_eq_true rfl) ⟨Nat.le_of_ble_eq_true rfl, Nat.le_of_ble_eq_true rfl⟩ dX6_fourth_198 rfl rfl ?_
                      obtain rfl := sm_i h
                      exact r_ireturn C (Eq.symm hO) dX6_fourth_201
                  · replace h := br_p hc h
                    refine r_lconst C (v := 1) dX6_fourth_85 (by decide) ?_
                    refine r_goto C (tgt := 106) dX6_fourth_86 (by decide) ?_
                    refine r_lstore C (lv' := [(6, .long ((1 : Int64))), (0, .ref h0), (1, .int x1), (2, .int x2), (3, .int x3), (4, .long x4)]) dX6_fourth_106 (by decide) rfl ?_
                    refine r_lload C 5 rfl dX6_fourth_108 ?_
                    refine r_aload_n C 1 rfl dX6_fourth_110 rfl ?_
                    refine m_g_p C dX6_fourth_111 ?_
                    refine r_lne C (tgt := 122) dX6_fourth_114 dX6_fourth_115 (by decide) (fun hc => ?_) (fun hc => ?_)
                    · replace h := br_n hc h
                      refine r_aload_n C 1 rfl dX6_fourth_122 rfl ?_
                      refine r_iload_n C 2 rfl dX6_fourth_123 rfl ?_
                      refine r_iload_n C 4 rfl dX6_fourth_124 rfl ?_
                      obtain ⟨r20, qr20, h⟩ := bd_i h
                      refine q_callV C 0 0 0 (c_brackets qr20) rfl mw_self rfl ok_brackets in_brackets lk6_226 rfl (Nat.le_of_ble_eq_true rfl) ⟨Nat.le_of_ble_eq_true rfl, Nat.le_of_ble_eq_true rfl⟩ dX6_fourth_125 rfl rfl ?_
                      refine r_lstore C (lv' := [(8, .long r20), (6, .long ((1 : Int64))), (0, .ref h0), (1, .int x1), (2, .int x2), (3, .int x3), (4, .long x4)]) dX6_fourth_128 (by decide) rfl ?_
                      refine r_aload_n C 2 rfl dX6_fourth_130 rfl ?_
                      obtain ⟨r21, qr21, h⟩ := bd_i h
                      refine q_callVv C 0 0 0 (c_clear qr21) rfl mw_self rfl ok_clear in_clear lk6_136 rfl (Nat.le_of_ble_eq_true rfl) ⟨Nat.le_of_ble_eq_true rfl, Nat.le_of_ble_eq_true rfl⟩ dX6_fourth_131 rfl rfl ?_
                      refine r_iconst C (v := 0) dX6_fourth_134 (by decide) ?_
                      refine r_istore C (lv' := [(10, .int ((0 : Int32))), (8, .long r20), (6, .long ((1 : Int64))), (0, .ref h0), (1, .int x1), (2, .int x2), (3, .int x3), (4, .long x4)]) dX6_fourth_135 (by decide) rfl ?_
                      refine r_lv [3, 4, 5, 2, 1, 0] rfl ?_
                      obtain ⟨r22, qr22, h⟩ := bd_i h
                      refine w_fourth_L137 C qr22 ?_
                      refine r_aload_n C 0 rfl dX6_fourth_191 rfl ?_
                      refine r_aload_n C 0 rfl dX6_fourth_192 rfl ?_
                      refine m_g_sorts C dX6_fourth_193 ?_
                      refine r_iload_n C 1 rfl dX6_fourth_196 rfl ?_
                      obtain ⟨hi, h⟩ := gd_t h
                      refine m_l_sorts C hi dX6_fourth_197 ?_
                      obtain ⟨r23, qr23, h⟩ := bd_i h
                      refine q_callV C 0 0 0 (c_made qr23) rfl mw_self rfl ok_made in_made lk6_133 rfl (Nat.le_of_ble_eq_true rfl) ⟨Nat.le_of_ble_eq_true rfl, Nat.le_of_ble_eq_true rfl⟩ dX6_fourth_198 rfl rfl ?_
                      obtain rfl := sm_i h
                      exact r_ireturn C (Eq.symm hO) dX6_fourth_201
                    · replace h := br_p hc h
                      refine r_lconst C (v := 0) dX6_fourth_118 (by decide) ?_
                      refine r_goto C (tgt := 128) dX6_fourth_119 (by decide) ?_
                      refine r_lstore C (lv' := [(8, .long ((0 : Int64))), (6, .long ((1 : Int64))), (0, .ref h0), (1, .int x1), (2, .int x2), (3, .int x3), (4, .long x4)]) dX6_fourth_128 (by decide) rfl ?_
                      refine r_aload_n C 2 rfl dX6_fourth_130 rfl ?_
                      obtain ⟨r24, qr24, h⟩ := bd_i h
                      refine q_callVv C 0 0 0 (c_clear qr24) rfl mw_self rfl ok_clear in_clear lk6_136 rfl (Nat.le_of_ble_eq_true rfl) ⟨Nat.le_of_ble_eq_true rfl, Nat.le_of_ble_eq_true rfl⟩ dX6_fourth_131 rfl rfl ?_
                      refine r_iconst C (v := 0) dX6_fourth_134 (by decide) ?_
                      refine r_istore C (lv' := [(10, .int ((0 : Int32))), (8, .long ((0 : Int64))), (6, .long ((1 : Int64))), (0, .ref h0), (1, .int x1), (2, .int x2), (3, .int x3), (4, .long x4)]) dX6_fourth_135 (by decide) rfl ?_
                      refine r_lv [3, 4, 5, 2, 1, 0] rfl ?_
                      obtain ⟨r25, qr25, h⟩ := bd_i h
                      refine w_fourth_L137 C qr25 ?_
                      refine r_aload_n C 0 rfl dX6_fourth_191 rfl ?_
                      refine r_aload_n C 0 rfl dX6_fourth_192 rfl ?_
                      refine m_g_sorts C dX6_fourth_193 ?_
                      refine r_iload_n C 1 rfl dX6_fourth_196 rfl ?_
                      obtain ⟨hi, h⟩ := gd_t h
                      refine m_l_sorts C hi dX6_fourth_197 ?_
                      obtain ⟨r26, qr26, h⟩ := bd_i h
                      refine q_callV C 0 0 0 (c_made qr26) rfl mw_self rfl ok_made in_made lk6_133 rfl (Nat.le_of_ble_eq_true rfl) ⟨Nat.le_of_ble_eq_true rfl, Nat.le_of_ble_eq_true rfl⟩ dX6_fourth_198 rfl rfl ?_
                      obtain rfl := sm_i h
                      exact r_ireturn C (Eq.symm hO) dX6_fourth_201
                · replace h := br_n hc h
                  refine r_iconst C (v := -1) dX6_fourth_65 (by decide) ?_
                  obtain rfl := sm_i h
                  exact r_ireturn C (Eq.symm hO) dX6_fourth_66
        · replace h := br_n hc h
          refine r_bipush C (v := -2) dX6_fourth_35 (by decide) ?_
          obtain rfl := sm_i h
          exact r_ireturn C (Eq.symm hO) dX6_fourth_37
noncomputable def m_isWide_L20J71 (frame : Nat → Int64) (l4 : Int32) (l5 : Int32) : Option ((Int32 × Int32 × (Nat → Int64)) ⊕ (Nat → Int64)) := some (.inl (l4, l5 + 1, frame))
noncomputable def m_isWide_L20 (n : Int32) (rows : Nat → Int64) (pairA : Nat → Int32) (pairB : Nat → Int32) (l1 : Int32) (l3 : Int32) (s : (Int32 × Int32 × (Nat → Int64))) : Option ((Int32 × Int32 × (Nat → Int64)) ⊕ (Nat → Int64)) := if (n + ((2 : Int32))) ≤ s.2.1 then (some (.inr s.2.2)) else (if s.2.1 = l3 then (m_isWide_L20J71 s.2.2 s.1 s.2.1) else (if l1 = 0 then (if gi s.2.1 5 then (m_side n).bind fun r1 => (m_lay rows s.2.2 s.1 (pairB s.2.1.toNatClampNeg) r1).bind fun r2 => m_isWide_L20J71 r2 (s.1 + 1) s.2.1 else none) else (if gi s.2.1 5 then (m_side n).bind fun r3 => (m_lay rows s.2.2 s.1 (pairA s.2.1.toNatClampNeg) r3).bind fun r4 => m_isWide_L20J71 r4 (s.1 + 1) s.2.1 else none)))
noncomputable def m_isWide_L4J108 (frame : Nat → Int64) (l3 : Int32) : Option ((Int32 × Int32 × (Nat → Int64)) ⊕ (Int32 × (Nat → Int64))) := some (.inl ((0 : Int32), l3 + 1, frame))
noncomputable def m_isWide_L4 (n : Int32) (p : Int64) (rows : Nat → Int64) (pairA : Nat → Int32) (pairB : Nat → Int32) (l1 : Int32) (s : (Int32 × Int32 × (Nat → Int64))) : Option ((Int32 × Int32 × (Nat → Int64)) ⊕ (Int32 × (Nat → Int64))) := if (n + ((2 : Int32))) ≤ s.2.1 then (some (.inr (s.1, s.2.2))) else ((itX (m_isWide_L20 n rows pairA pairB l1 s.2.1) ((0 : Int32), (0 : Int32), s.2.2)).bind fun r5 => if s.1 = 0 then (m_isWide_L4J108 r5 s.2.1) else ((m_side n).bind fun r6 => (m_side n).bind fun r7 => (m_side n).bind fun r8 => (m_reduce p r5 r6 r7 r8).bind fun r9 => (m_side n).bind fun r10 => if r9.1 = r10 then (some (.inl ((1 : Int32), s.2.1 + 1, r9.2))) else (m_isWide_L4J108 r9.2 s.2.1)))
noncomputable def m_isWide (n : Int32) (p : Int64) (rows : Nat → Int64) (pairA : Nat → Int32) (pairB : Nat → Int32) (frame : Nat → Int64) (x1 : Int32) : Option (Int32 × (Nat → Int64)) := (itX (m_isWide_L4 n p rows pairA pairB x1) ((1 : Int32), (0 : Int32), frame)).bind fun r11 => if r11.1 = 0 ∨ r11.1 = 1 then some (r11.1, r11.2) else none
set_option maxHeartbeats 4000000 in
set_option maxRecDepth 100000 in
theorem w_isWide_L20J71 {K : kT} {O : oT} (C : aC K cX6_isWide RX6 "isWide" 4 76 0 0 6 (some .boolean) O) {h0 : Nat} {hp : cH} {sz : Nat} {n : Int32} {p : Int64} {count : Int32} {sorts : Nat → Int32} {rows : Nat → Int64} {hand : Nat → Int64} {gathered : Int32} {gather : Nat → Int32} {paired : Int32} {pairA : Nat → Int32} {pairB : Nat → Int32} {ideal : Int32} {draft : Nat → Int64} {frame : Nat → Int64} {one : Nat → Int64} {two : Nat → Int64} {turned : Nat → Int64} {placeI : Int32} {placeJ : Int32} {formA : Int64} {formB : Int64} {formC : Int64} {l1 : Int32} {l2 : Int32} {l3 : Int32} {l4 : Int32} {l5 : Int32}  {x : (Int32 × Int32 × (Nat → Int64)) ⊕ (Nat → Int64)} (h : m_isWide_L20J71 frame l4 l5 = some x) (kl : ∀ s, x = .inl s → aW K (mw h0 hp n p count sorts rows hand gathered gather paired pairA pairB ideal draft s.2.2 one two turned placeI placeJ formA formB formC) sz 0 0 20 [(0, .ref h0), (1, .int l1), (2, .int l2), (3, .int l3), (4, .int s.1), (5, .int s.2.1)] []) (kr : ∀ r, x = .inr r → aW K (mw h0 hp n p count sorts rows hand gathered gather paired pairA pairB ideal draft r one two turned placeI placeJ formA formB formC) sz 0 0 77 [(0, .ref h0), (1, .int l1), (2, .int l2), (3, .int l3)] []) : aW K (mw h0 hp n p count sorts rows hand gathered gather paired pairA pairB ideal draft frame one two turned placeI placeJ formA formB formC) sz 0 0 71 [(0, .ref h0), (1, .int l1), (2, .int l2), (3, .int l3), (4, .int l4), (5, .int l5)] [] := by
  unfold m_isWide_L20J71 at h
  refine r_iinc C (v := l5 + 1) (lv' := [(5, .int (l5 + 1)), (0, .ref h0), (1, .int l1), (2, .int l2), (3, .int l3), (4, .int l4)]) 5 rfl dX6_isWide_71 rfl (by decide) rfl ?_
  refine r_goto C (tgt := 20) dX6_isWide_74 (by decide) ?_
  refine r_lv [1, 2, 3, 4, 5, 0] rfl ?_
  exact kl _ (sm_i h)
set_option maxHeartbeats 4000000 in
set_option maxRecDepth 100000 in
theorem w_isWide_L20 {K : kT} {O : oT} (C : aC K cX6_isWide RX6 "isWide" 4 76 0 0 6 (some .boolean) O) {h0 : Nat} {hp : cH} {sz : Nat} {n : Int32} {p : Int64} {count : Int32} {sorts : Nat → Int32} {rows : Nat → Int64} {hand : Nat → Int64} {gathered : Int32} {gather : Nat → Int32} {paired : Int32} {pairA : Nat → Int32} {pairB : Nat → Int32} {ideal : Int32} {draft : Nat → Int64} {one : Nat → Int64} {two : Nat → Int64} {turned : Nat → Int64} {placeI : Int32} {placeJ : Int32} {formA : Int64} {formB : Int64} {formC : Int64} {l1 : Int32} {l2 : Int32} {l3 : Int32} {v0 : Int32} {v1 : Int32} {v2 : Nat → Int64} {r : (Nat → Int64)} (h : itX (m_isWide_L20 n rows pairA pairB l1 l3) (v0, v1, v2) = some r) (hr : aW K (mw h0 hp n p count sorts rows hand gathered gather paired pairA pairB ideal draft r one two turned placeI placeJ formA formB formC) sz 0 0 77 [(0, .ref h0), (1, .int l1), (2, .int l2), (3, .int l3)] []) : aW K (mw h0 hp n p count sorts rows hand gathered gather paired pairA pairB ideal draft v2 one two turned placeI placeJ formA formB formC) sz 0 0 20 [(0, .ref h0), (1, .int l1), (2, .int l2), (3, .int l3), (4, .int v0), (5, .int v1)] [] := by
  refine it_walk (f := m_isWide_L20 n rows pairA pairB l1 l3) (P := fun s => aW K (mw h0 hp n p count sorts rows hand gathered gather paired pairA pairB ideal draft s.2.2 one two turned placeI placeJ formA formB formC) sz 0 0 20 [(0, .ref h0), (1, .int l1), (2, .int l2), (3, .int l3), (4, .int s.1), (5, .int s.2.1)] []) (R := fun r => aW K (mw h0 hp n p count sorts rows hand gathered gather paired pairA pairB ideal draft r one two turned placeI placeJ formA formB formC) sz 0 0 77 [(0, .ref h0), (1, .int l1), (2, .int l2), (3, .int l3)] []) ?_ h hr
  clear h hr
  intro s x h kl kr
  unfold m_isWide_L20 at h
  refine r_iload C 5 rfl dX6_isWide_20 ?_
  refine r_aload_n C 0 rfl dX6_isWide_22 rfl ?_
  refine m_g_n C dX6_isWide_23 ?_
  refine r_iconst C (v := 2) dX6_isWide_26 (by decide) ?_
  refine r_iadd C dX6_isWide_27 ?_
  refine r_icmp_ge C (tgt := 77) dX6_isWide_28 (by decide) (fun hc => ?_) (fun hc => ?_)
  · replace h := br_p hc h
    refine r_lv [0, 1, 2, 3] rfl ?_
    exact kr _ (sm_i h)
  · replace h := br_n hc h
    refine r_iload C 5 rfl dX6_isWide_31 ?_
    refine r_iload_n C 3 rfl dX6_isWide_33 rfl ?_
    refine r_icmp_eq C (tgt := 71) dX6_isWide_34 (by decide) (fun hc => ?_) (fun hc => ?_)
    · replace h := br_p hc h
      refine r_lv [0, 1, 2, 3, 4, 5] rfl ?_
      exact w_isWide_L20J71 C h kl kr
    · replace h := br_n hc h
      refine r_aload_n C 0 rfl dX6_isWide_37 rfl ?_
      refine r_iload C 4 rfl dX6_isWide_38 ?_
      refine r_iload_n C 1 rfl dX6_isWide_40 rfl ?_
      refine r_if_eq C (tgt := 54) dX6_isWide_41 (by decide) (fun hc => ?_) (fun hc => ?_)
      · replace h := br_p hc h
        refine r_aload_n C 0 rfl dX6_isWide_54 rfl ?_
        refine m_g_pairB C dX6_isWide_55 ?_
        refine r_iload C 5 rfl dX6_isWide_58 ?_
        obtain ⟨hi, h⟩ := gd_t h
        refine m_l_pairB C hi dX6_isWide_60 ?_
        refine r_aload_n C 0 rfl dX6_isWide_61 rfl ?_
        obtain ⟨r1, qr1, h⟩ := bd_i h
        refine q_callV C 3 0 0 (c_side qr1) rfl mw_self rfl ok_side in_side lk6_111 rfl (Nat.le_of_ble_eq_true rfl) ⟨Nat.le_of_ble_eq_true rfl, Nat.le_of_ble_eq_true rfl⟩ dX6_isWide_62 rfl rfl ?_
        obtain ⟨r2, qr2, h⟩ := bd_i h
        refine q_callVv C 0 0 0 (c_lay qr2) rfl mw_self rfl ok_lay in_lay lk6_197 rfl (Nat.le_of_ble_eq_true rfl) ⟨Nat.le_of_ble_eq_true rfl, Nat.le_of_ble_eq_true rfl⟩ dX6_isWide_65 rfl rfl ?_
        refine r_iinc C (v := s.1 + 1) (lv' := [(4, .int (s.1 + 1)), (0, .ref h0), (1, .int l1), (2, .int l2), (3, .int l3), (5, .int s.2.1)]) 4 rfl dX6_isWide_68 rfl (by decide) rfl ?_
        refine r_lv [1, 2, 3, 4, 0, 5] rfl ?_
        exact w_isWide_L20J71 C h kl kr
      · replace h := br_n hc h
        refine r_aload_n C 0 rfl dX6_isWide_44 rfl ?_
        refine m_g_pairA C dX6_isWide_45 ?_
        refine r_iload C 5 rfl dX6_isWide_48 ?_
        obtain ⟨hi, h⟩ := gd_t h
        refine m_l_pairA C hi dX6_isWide_50 ?_
        refine r_goto C (tgt := 61) dX6_isWide_51 (by decide) ?_
        refine r_aload_n C 0 rfl dX6_isWide_61 rfl ?_
        obtain ⟨r3, qr3, h⟩ := bd_i h
        refine q_callV C 3 0 0 (c_side qr3) rfl mw_self rfl ok_side in_side lk6_111 rfl (Nat.le_of_ble_eq_true rfl) ⟨Nat.le_of_ble_eq_true rfl, Nat.le_of_ble_eq_true rfl⟩ dX6_isWide_62 rfl rfl ?_
        obtain ⟨r4, qr4, h⟩ := bd_i h
        refine q_callVv C 0 0 0 (c_lay qr4) rfl mw_self rfl ok_lay in_lay lk6_197 rfl (Nat.le_of_ble_eq_true rfl) ⟨Nat.le_of_ble_eq_true rfl, Nat.le_of_ble_eq_true rfl⟩ dX6_isWide_65 rfl rfl ?_
        refine r_iinc C (v := s.1 + 1) (lv' := [(4, .int (s.1 + 1)), (0, .ref h0), (1, .int l1), (2, .int l2), (3, .int l3), (5, .int s.2.1)]) 4 rfl dX6_isWide_68 rfl (by decide) rfl ?_
        refine r_lv [1, 2, 3, 4, 0, 5] rfl ?_
        exact w_isWide_L20J71 C h kl kr
set_option maxHeartbeats 4000000 in
set_option maxRecDepth 100000 in
theorem w_isWide_L4J108 {K : kT} {O : oT} (C : aC K cX6_isWide RX6 "isWide" 4 76 0 0 6 (some .boolean) O) {h0 : Nat} {hp : cH} {sz : Nat} {n : Int32} {p : Int64} {count : Int32} {sorts : Nat → Int32} {rows : Nat → Int64} {hand : Nat → Int64} {gathered : Int32} {gather : Nat → Int32} {paired : Int32} {pairA : Nat → Int32} {pairB : Nat → Int32} {ideal : Int32} {draft : Nat → Int64} {frame : Nat → Int64} {one : Nat → Int64} {two : Nat → Int64} {turned : Nat → Int64} {placeI : Int32} {placeJ : Int32} {formA : Int64} {formB : Int64} {formC : Int64} {l1 : Int32} {l3 : Int32}  {x : (Int32 × Int32 × (Nat → Int64)) ⊕ (Int32 × (Nat → Int64))} (h : m_isWide_L4J108 frame l3 = some x) (kl : ∀ s, x = .inl s → aW K (mw h0 hp n p count sorts rows hand gathered gather paired pairA pairB ideal draft s.2.2 one two turned placeI placeJ formA formB formC) sz 0 0 4 [(0, .ref h0), (1, .int l1), (2, .int s.1), (3, .int s.2.1)] []) (kr : ∀ r, x = .inr r → aW K (mw h0 hp n p count sorts rows hand gathered gather paired pairA pairB ideal draft r.2 one two turned placeI placeJ formA formB formC) sz 0 0 116 [(2, .int r.1)] []) : aW K (mw h0 hp n p count sorts rows hand gathered gather paired pairA pairB ideal draft frame one two turned placeI placeJ formA formB formC) sz 0 0 108 [(0, .ref h0), (1, .int l1), (3, .int l3)] [] := by
  unfold m_isWide_L4J108 at h
  refine r_iconst C (v := 0) dX6_isWide_108 (by decide) ?_
  refine r_istore_n C (lv' := [(2, .int ((0 : Int32))), (0, .ref h0), (1, .int l1), (3, .int l3)]) dX6_isWide_109 rfl (by decide) rfl ?_
  refine r_iinc C (v := l3 + 1) (lv' := [(3, .int (l3 + 1)), (2, .int ((0 : Int32))), (0, .ref h0), (1, .int l1)]) 3 rfl dX6_isWide_110 rfl (by decide) rfl ?_
  refine r_goto C (tgt := 4) dX6_isWide_113 (by decide) ?_
  refine r_lv [2, 3, 1, 0] rfl ?_
  exact kl _ (sm_i h)
set_option maxHeartbeats 4000000 in
set_option maxRecDepth 100000 in
theorem w_isWide_L4 {K : kT} {O : oT} (C : aC K cX6_isWide RX6 "isWide" 4 76 0 0 6 (some .boolean) O) {h0 : Nat} {hp : cH} {sz : Nat} {n : Int32} {p : Int64} {count : Int32} {sorts : Nat → Int32} {rows : Nat → Int64} {hand : Nat → Int64} {gathered : Int32} {gather : Nat → Int32} {paired : Int32} {pairA : Nat → Int32} {pairB : Nat → Int32} {ideal : Int32} {draft : Nat → Int64} {one : Nat → Int64} {two : Nat → Int64} {turned : Nat → Int64} {placeI : Int32} {placeJ : Int32} {formA : Int64} {formB : Int64} {formC : Int64} {l1 : Int32} {v0 : Int32} {v1 : Int32} {v2 : Nat → Int64} {r : (Int32 × (Nat → Int64))} (h : itX (m_isWide_L4 n p rows pairA pairB l1) (v0, v1, v2) = some r) (hr : aW K (mw h0 hp n p count sorts rows hand gathered gather paired pairA pairB ideal draft r.2 one two turned placeI placeJ formA formB formC) sz 0 0 116 [(2, .int r.1)] []) : aW K (mw h0 hp n p count sorts rows hand gathered gather paired pairA pairB ideal draft v2 one two turned placeI placeJ formA formB formC) sz 0 0 4 [(0, .ref h0), (1, .int l1), (2, .int v0), (3, .int v1)] [] := by
  refine it_walk (f := m_isWide_L4 n p rows pairA pairB l1) (P := fun s => aW K (mw h0 hp n p count sorts rows hand gathered gather paired pairA pairB ideal draft s.2.2 one two turned placeI placeJ formA formB formC) sz 0 0 4 [(0, .ref h0), (1, .int l1), (2, .int s.1), (3, .int s.2.1)] []) (R := fun r => aW K (mw h0 hp n p count sorts rows hand gathered gather paired pairA pairB ideal draft r.2 one two turned placeI placeJ formA formB formC) sz 0 0 116 [(2, .int r.1)] []) ?_ h hr
  clear h hr
  intro s x h kl kr
  unfold m_isWide_L4 at h
  refine r_iload_n C 3 rfl dX6_isWide_4 rfl ?_
  refine r_aload_n C 0 rfl dX6_isWide_5 rfl ?_
  refine m_g_n C dX6_isWide_6 ?_
  refine r_iconst C (v := 2) dX6_isWide_9 (by decide) ?_
  refine r_iadd C dX6_isWide_10 ?_
  refine r_icmp_ge C (tgt := 116) dX6_isWide_11 (by decide) (fun hc => ?_) (fun hc => ?_)
  · replace h := br_p hc h
    refine r_lv [2] rfl ?_
    exact kr _ (sm_i h)
  · replace h := br_n hc h
    refine r_iconst C (v := 0) dX6_isWide_14 (by decide) ?_
    refine r_istore C (lv' := [(4, .int ((0 : Int32))), (0, .ref h0), (1, .int l1), (2, .int s.1), (3, .int s.2.1)]) dX6_isWide_15 (by decide) rfl ?_
    refine r_iconst C (v := 0) dX6_isWide_17 (by decide) ?_
    refine r_istore C (lv' := [(5, .int ((0 : Int32))), (4, .int ((0 : Int32))), (0, .ref h0), (1, .int l1), (2, .int s.1), (3, .int s.2.1)]) dX6_isWide_18 (by decide) rfl ?_
    refine r_lv [2, 3, 4, 5, 1, 0] rfl ?_
    obtain ⟨r5, qr5, h⟩ := bd_i h
    refine w_isWide_L20 C qr5 ?_
    refine r_iload_n C 2 rfl dX6_isWide_77 rfl ?_
    refine r_if_eq C (tgt := 108) dX6_isWide_78 (by decide) (fun hc => ?_) (fun hc => ?_)
    · replace h := br_p hc h
      refine r_lv [0, 1, 3] rfl ?_
      exact w_isWide_L4J108 C h kl kr
    · replace h := br_n hc h
      refine r_aload_n C 0 rfl dX6_isWide_81 rfl ?_
      refine r_aload_n C 0 rfl dX6_isWide_82 rfl ?_
      obtain ⟨r6, qr6, h⟩ := bd_i h
      refine q_callV C 1 0 0 (c_side qr6) rfl mw_self rfl ok_side in_side lk6_111 rfl (Nat.le_of_ble_eq_true rfl) ⟨Nat.le_of_ble_eq_true rfl, Nat.le_of_ble_eq_true rfl⟩ dX6_isWide_83 rfl rfl ?_
      refine r_aload_n C 0 rfl dX6_isWide_86 rfl ?_
      obtain ⟨r7, qr7, h⟩ := bd_i h
      refine q_callV C 2 0 0 (c_side qr7) rfl mw_self rfl ok_side in_side lk6_111 rfl (Nat.le_of_ble_eq_true rfl) ⟨Nat.le_of_ble_eq_true rfl, Nat.le_of_ble_eq_true rfl⟩ dX6_isWide_87 rfl rfl ?_
      refine r_aload_n C 0 rfl dX6_isWide_90 rfl ?_
      obtain ⟨r8, qr8, h⟩ := bd_i h
      refine q_callV C 3 0 0 (c_side qr8) rfl mw_self rfl ok_side in_side lk6_111 rfl (Nat.le_of_ble_eq_true rfl) ⟨Nat.le_of_ble_eq_true rfl, Nat.le_of_ble_eq_true rfl⟩ dX6_isWide_91 rfl rfl ?_
      obtain ⟨r9, qr9, h⟩ := bd_i h
      refine q_callV C 0 0 0 (c_reduce qr9) rfl mw_self rfl ok_reduce in_reduce lk6_115 rfl (Nat.le_of_ble_eq_true rfl) ⟨Nat.le_of_ble_eq_true rfl, Nat.le_of_ble_eq_true rfl⟩ dX6_isWide_94 rfl rfl ?_
      refine r_aload_n C 0 rfl dX6_isWide_97 rfl ?_
      obtain ⟨r10, qr10, h⟩ := bd_i h
      refine q_callV C 1 0 0 (c_side qr10) rfl mw_self rfl ok_side in_side lk6_111 rfl (Nat.le_of_ble_eq_true rfl) ⟨Nat.le_of_ble_eq_true rfl, Nat.le_of_ble_eq_true rfl⟩ dX6_isWide_98 rfl rfl ?_
      refine r_icmp_ne C (tgt := 108) dX6_isWide_101 (by decide) (fun hc => ?_) (fun hc => ?_)
      · replace h := br_n hc h
        refine r_lv [0, 1, 3] rfl ?_
        exact w_isWide_L4J108 C h kl kr
      · replace h := br_p hc h
        refine r_iconst C (v := 1) dX6_isWide_104 (by decide) ?_
        refine r_goto C (tgt := 109) dX6_isWide_105 (by decide) ?_
        refine r_istore_n C (lv' := [(2, .int ((1 : Int32))), (0, .ref h0), (1, .int l1), (3, .int s.2.1)]) dX6_isWide_109 rfl (by decide) rfl ?_
        refine r_iinc C (v := s.2.1 + 1) (lv' := [(3, .int (s.2.1 + 1)), (2, .int ((1 : Int32))), (0, .ref h0), (1, .int l1)]) 3 rfl dX6_isWide_110 rfl (by decide) rfl ?_
        refine r_goto C (tgt := 4) dX6_isWide_113 (by decide) ?_
        refine r_lv [2, 3, 1, 0] rfl ?_
        exact kl _ (sm_i h)
set_option maxHeartbeats 4000000 in
set_option maxRecDepth 100000 in
theorem c_isWide {G : gT} {h0 : Nat} {hp : cH} {sz : Nat} {n : Int32} {p : Int64} {count : Int32} {sorts : Nat → Int32} {rows : Nat → Int64} {hand : Nat → Int64} {gathered : Int32} {gather : Nat → Int32} {paired : Int32} {pairA : Nat → Int32} {pairB : Nat → Int32} {ideal : Int32} {draft : Nat → Int64} {frame : Nat → Int64} {one : Nat → Int64} {two : Nat → Int64} {turned : Nat → Int64} {placeI : Int32} {placeJ : Int32} {formA : Int64} {formB : Int64} {formC : Int64} {x1 : Int32} {out : (Int32 × (Nat → Int64))} (h : m_isWide n p rows pairA pairB frame x1 = some out) : aM G yX6_isWide cX6_isWide 6 (some .boolean) 4 76 0 0 [.ref h0, .int x1] (mw h0 hp n p count sorts rows hand gathered gather paired pairA pairB ideal draft frame one two turned placeI placeJ formA formB formC) sz ((some (.int out.1), mw h0 hp n p count sorts rows hand gathered gather paired pairA pairB ideal draft out.2 one two turned placeI placeJ formA formB formC, sz) : oT) := by
  refine aM.of RX6 (by decide) rfl (Nat.le_of_ble_eq_true rfl) (fun K C => ?_)
  have hO : ((some (.int out.1), mw h0 hp n p count sorts rows hand gathered gather paired pairA pairB ideal draft out.2 one two turned placeI placeJ formA formB formC, sz) : oT) = ((some (.int out.1), mw h0 hp n p count sorts rows hand gathered gather paired pairA pairB ideal draft out.2 one two turned placeI placeJ formA formB formC, sz) : oT) := rfl
  refine r_lve (lv' := [(0, .ref h0), (1, .int x1)]) rfl ?_
  unfold m_isWide at h
  refine r_iconst C (v := 1) dX6_isWide_0 (by decide) ?_
  refine r_istore_n C (lv' := [(2, .int ((1 : Int32))), (0, .ref h0), (1, .int x1)]) dX6_isWide_1 rfl (by decide) rfl ?_
  refine r_iconst C (v := 0) dX6_isWide_2 (by decide) ?_
  refine r_istore_n C (lv' := [(3, .int ((0 : Int32))), (2, .int ((1 : Int32))), (0, .ref h0), (1, .int x1)]) dX6_isWide_3 rfl (by decide) rfl ?_
  refine r_lv [2, 3, 1, 0] rfl ?_
  obtain ⟨r11, qr11, h⟩ := bd_i h
  refine w_isWide_L4 C qr11 ?_
  refine r_iload_n C 0 rfl dX6_isWide_116 rfl ?_
  obtain ⟨hz, h⟩ := gd_t h
  obtain rfl := sm_i h
  exact r_zreturn C (nb01 hz) (Eq.symm hO) dX6_isWide_117
noncomputable def m_columns_L12 (n : Int32) (rows : Nat → Int64) (pairA : Nat → Int32) (pairB : Nat → Int32) (l1 : Int32) (l2 : Int32) (s : (Int32 × (Nat → Int64))) : Option ((Int32 × (Nat → Int64)) ⊕ (Nat → Int64)) := if (n + ((2 : Int32))) ≤ s.1 then (some (.inr s.2)) else (if l1 = 0 then (if gi s.1 5 then (m_of rows (pairB s.1.toNatClampNeg) l2).bind fun r2 => (m_set s.2 l2 s.1 r2).bind fun r3 => some (.inl (s.1 + 1, r3)) else none) else (if gi s.1 5 then (m_of rows (pairA s.1.toNatClampNeg) l2).bind fun r4 => (m_set s.2 l2 s.1 r4).bind fun r5 => some (.inl (s.1 + 1, r5)) else none))
noncomputable def m_columns_L2 (n : Int32) (rows : Nat → Int64) (pairA : Nat → Int32) (pairB : Nat → Int32) (l1 : Int32) (s : (Int32 × (Nat → Int64))) : Option ((Int32 × (Nat → Int64)) ⊕ (Nat → Int64)) := (m_side n).bind fun r1 => if r1 ≤ s.1 then (some (.inr s.2)) else ((itX (m_columns_L12 n rows pairA pairB l1 s.1) ((0 : Int32), s.2)).bind fun r6 => some (.inl (s.1 + 1, r6)))
noncomputable def m_columns_L108J188 (one : Nat → Int64) (two : Nat → Int64) (l5 : Int32) : Option ((Int32 × (Nat → Int64) × (Nat → Int64)) ⊕ ((Nat → Int64) × (Nat → Int64))) := some (.inl (l5 + 1, one, two))
noncomputable def m_columns_L108 (n : Int32) (p : Int64) (rows : Nat → Int64) (pairA : Nat → Int32) (pairB : Nat → Int32) (l1 : Int32) (l2 : Int32) (l3 : Int64) (s : (Int32 × (Nat → Int64) × (Nat → Int64))) : Option ((Int32 × (Nat → Int64) × (Nat → Int64)) ⊕ ((Nat → Int64) × (Nat → Int64))) := (m_side n).bind fun r13 => if r13 ≤ s.1 then (some (.inr (s.2.1, s.2.2))) else (if l1 = 0 then (if gi l2 5 then (m_of rows (pairB l2.toNatClampNeg) s.1).bind fun r14 => (m_times p l3 r14).bind fun r15 => if l1 = 0 then ((m_side n).bind fun r16 => if gi ((s.1 * r16) + l2) 16 then m_columns_L108J188 s.2.1 (vp_updL s.2.2 ((s.1 * r16) + l2).toNatClampNeg r15) s.1 else none) else ((m_side n).bind fun r17 => if gi ((s.1 * r17) + l2) 16 then m_columns_L108J188 (vp_updL s.2.1 ((s.1 * r17) + l2).toNatClampNeg r15) s.2.2 s.1 else none) else none) else (if gi l2 5 then (m_of rows (pairA l2.toNatClampNeg) s.1).bind fun r18 => (m_times p l3 r18).bind fun r19 => if l1 = 0 then ((m_side n).bind fun r20 => if gi ((s.1 * r20) + l2) 16 then m_columns_L108J188 s.2.1 (vp_updL s.2.2 ((s.1 * r20) + l2).toNatClampNeg r19) s.1 else none) else ((m_side n).bind fun r21 => if gi ((s.1 * r21) + l2) 16 then m_columns_L108J188 (vp_updL s.2.1 ((s.1 * r21) + l2).toNatClampNeg r19) s.2.2 s.1 else none) else none))
noncomputable def m_columns_L85 (n : Int32) (p : Int64) (rows : Nat → Int64) (pairA : Nat → Int32) (pairB : Nat → Int32) (frame : Nat → Int64) (l1 : Int32) (s : (Int32 × (Nat → Int64) × (Nat → Int64))) : Option ((Int32 × (Nat → Int64) × (Nat → Int64)) ⊕ ((Nat → Int64) × (Nat → Int64))) := (m_side n).bind fun r11 => if r11 ≤ s.1 then (some (.inr (s.2.1, s.2.2))) else ((m_at frame s.1 (n + ((1 : Int32)))).bind fun r12 => (itX (m_columns_L108 n p rows pairA pairB l1 s.1 r12) ((0 : Int32), s.2.1, s.2.2)).bind fun r22 => some (.inl (s.1 + 1, r22.1, r22.2)))
noncomputable def m_columns (n : Int32) (p : Int64) (rows : Nat → Int64) (pairA : Nat → Int32) (pairB : Nat → Int32) (frame : Nat → Int64) (one : Nat → Int64) (two : Nat → Int64) (x1 : Int32) : Option ((Nat → Int64) × (Nat → Int64) × (Nat → Int64)) := (itX (m_columns_L2 n rows pairA pairB x1) ((0 : Int32), frame)).bind fun r7 => (m_side n).bind fun r8 => (m_side n).bind fun r9 => (m_reduce p r7 r8 (n + ((2 : Int32))) r9).bind fun r10 => (itX (m_columns_L85 n p rows pairA pairB r10.2 x1) ((0 : Int32), one, two)).bind fun r23 => some (r10.2, r23.1, r23.2)
set_option maxHeartbeats 4000000 in
set_option maxRecDepth 100000 in
theorem w_columns_L12 {K : kT} {O : oT} (C : aC K cX6_columns RX6 "columns" 4 76 0 0 8 none O) {h0 : Nat} {hp : cH} {sz : Nat} {n : Int32} {p : Int64} {count : Int32} {sorts : Nat → Int32} {rows : Nat → Int64} {hand : Nat → Int64} {gathered : Int32} {gather : Nat → Int32} {paired : Int32} {pairA : Nat → Int32} {pairB : Nat → Int32} {ideal : Int32} {draft : Nat → Int64} {one : Nat → Int64} {two : Nat → Int64} {turned : Nat → Int64} {placeI : Int32} {placeJ : Int32} {formA : Int64} {formB : Int64} {formC : Int64} {l1 : Int32} {l2 : Int32} {v0 : Int32} {v1 : Nat → Int64} {r : (Nat → Int64)} (h : itX (m_columns_L12 n rows pairA pairB l1 l2) (v0, v1) = some r) (hr : aW K (mw h0 hp n p count sorts rows hand gathered gather paired pairA pairB ideal draft r one two turned placeI placeJ formA formB formC) sz 0 0 58 [(0, .ref h0), (1, .int l1), (2, .int l2)] []) : aW K (mw h0 hp n p count sorts rows hand gathered gather paired pairA pairB ideal draft v1 one two turned placeI placeJ formA formB formC) sz 0 0 12 [(0, .ref h0), (1, .int l1), (2, .int l2), (3, .int v0)] [] := by
  refine it_walk (f := m_columns_L12 n rows pairA pairB l1 l2) (P := fun s => aW K (mw h0 hp n p count sorts rows hand gathered gather paired pairA pairB ideal draft s.2 one two turned placeI placeJ formA formB formC) sz 0 0 12 [(0, .ref h0), (1, .int l1), (2, .int l2), (3, .int s.1)] []) (R := fun r => aW K (mw h0 hp n p count sorts rows hand gathered gather paired pairA pairB ideal draft r one two turned placeI placeJ formA formB formC) sz 0 0 58 [(0, .ref h0), (1, .int l1), (2, .int l2)] []) ?_ h hr
  clear h hr
  intro s x h kl kr
  unfold m_columns_L12 at h
  refine r_iload_n C 3 rfl dX6_columns_12 rfl ?_
  refine r_aload_n C 0 rfl dX6_columns_13 rfl ?_
  refine m_g_n C dX6_columns_14 ?_
  refine r_iconst C (v := 2) dX6_columns_17 (by decide) ?_
  refine r_iadd C dX6_columns_18 ?_
  refine r_icmp_ge C (tgt := 58) dX6_columns_19 (by decide) (fun hc => ?_) (fun hc => ?_)
  · replace h := br_p hc h
    refine r_lv [0, 1, 2] rfl ?_
    exact kr _ (sm_i h)
  · replace h := br_n hc h
    refine r_aload_n C 0 rfl dX6_columns_22 rfl ?_
    refine r_iload_n C 2 rfl dX6_columns_23 rfl ?_
    refine r_iload_n C 3 rfl dX6_columns_24 rfl ?_
    refine r_aload_n C 0 rfl dX6_columns_25 rfl ?_
    refine r_iload_n C 1 rfl dX6_columns_26 rfl ?_
    refine r_if_eq C (tgt := 39) dX6_columns_27 (by decide) (fun hc => ?_) (fun hc => ?_)
    · replace h := br_p hc h
      refine r_aload_n C 0 rfl dX6_columns_39 rfl ?_
      refine m_g_pairB C dX6_columns_40 ?_
      refine r_iload_n C 3 rfl dX6_columns_43 rfl ?_
      obtain ⟨hi, h⟩ := gd_t h
      refine m_l_pairB C hi dX6_columns_44 ?_
      refine r_iload_n C 2 rfl dX6_columns_45 rfl ?_
      obtain ⟨r2, qr2, h⟩ := bd_i h
      refine q_callV C 3 0 0 (c_of qr2) rfl mw_self rfl ok_of in_of lk6_108 rfl (Nat.le_of_ble_eq_true rfl) ⟨Nat.le_of_ble_eq_true rfl, Nat.le_of_ble_eq_true rfl⟩ dX6_columns_46 rfl rfl ?_
      obtain ⟨r3, qr3, h⟩ := bd_i h
      refine q_callVv C 0 0 0 (c_set qr3) rfl mw_self rfl ok_set in_set lk6_101 rfl (Nat.le_of_ble_eq_true rfl) ⟨Nat.le_of_ble_eq_true rfl, Nat.le_of_ble_eq_true rfl⟩ dX6_columns_49 rfl rfl ?_
      refine r_iinc C (v := s.1 + 1) (lv' := [(3, .int (s.1 + 1)), (0, .ref h0), (1, .int l1), (2, .int l2)]) 3 rfl dX6_columns_52 rfl (by decide) rfl ?_
      refine r_goto C (tgt := 12) dX6_columns_55 (by decide) ?_
      refine r_lv [1, 2, 3, 0] rfl ?_
      exact kl _ (sm_i h)
    · replace h := br_n hc h
      refine r_aload_n C 0 rfl dX6_columns_30 rfl ?_
      refine m_g_pairA C dX6_columns_31 ?_
      refine r_iload_n C 3 rfl dX6_columns_34 rfl ?_
      obtain ⟨hi, h⟩ := gd_t h
      refine m_l_pairA C hi dX6_columns_35 ?_
      refine r_goto C (tgt := 45) dX6_columns_36 (by decide) ?_
      refine r_iload_n C 2 rfl dX6_columns_45 rfl ?_
      obtain ⟨r4, qr4, h⟩ := bd_i h
      refine q_callV C 3 0 0 (c_of qr4) rfl mw_self rfl ok_of in_of lk6_108 rfl (Nat.le_of_ble_eq_true rfl) ⟨Nat.le_of_ble_eq_true rfl, Nat.le_of_ble_eq_true rfl⟩ dX6_columns_46 rfl rfl ?_
      obtain ⟨r5, qr5, h⟩ := bd_i h
      refine q_callVv C 0 0 0 (c_set qr5) rfl mw_self rfl ok_set in_set lk6_101 rfl (Nat.le_of_ble_eq_true rfl) ⟨Nat.le_of_ble_eq_true rfl, Nat.le_of_ble_eq_true rfl⟩ dX6_columns_49 rfl rfl ?_
      refine r_iinc C (v := s.1 + 1) (lv' := [(3, .int (s.1 + 1)), (0, .ref h0), (1, .int l1), (2, .int l2)]) 3 rfl dX6_columns_52 rfl (by decide) rfl ?_
      refine r_goto C (tgt := 12) dX6_columns_55 (by decide) ?_
      refine r_lv [1, 2, 3, 0] rfl ?_
      exact kl _ (sm_i h)
set_option maxHeartbeats 4000000 in
set_option maxRecDepth 100000 in
theorem w_columns_L2 {K : kT} {O : oT} (C : aC K cX6_columns RX6 "columns" 4 76 0 0 8 none O) {h0 : Nat} {hp : cH} {sz : Nat} {n : Int32} {p : Int64} {count : Int32} {sorts : Nat → Int32} {rows : Nat → Int64} {hand : Nat → Int64} {gathered : Int32} {gather : Nat → Int32} {paired : Int32} {pairA : Nat → Int32} {pairB : Nat → Int32} {ideal : Int32} {draft : Nat → Int64} {one : Nat → Int64} {two : Nat → Int64} {turned : Nat → Int64} {placeI : Int32} {placeJ : Int32} {formA : Int64} {formB : Int64} {formC : Int64} {l1 : Int32} {v0 : Int32} {v1 : Nat → Int64} {r : (Nat → Int64)} (h : itX (m_columns_L2 n rows pairA pairB l1) (v0, v1) = some r) (hr : aW K (mw h0 hp n p count sorts rows hand gathered gather paired pairA pairB ideal draft r one two turned placeI placeJ formA formB formC) sz 0 0 64 [(0, .ref h0), (1, .int l1)] []) : aW K (mw h0 hp n p count sorts rows hand gathered gather paired pairA pairB ideal draft v1 one two turned placeI placeJ formA formB formC) sz 0 0 2 [(0, .ref h0), (1, .int l1), (2, .int v0)] [] := by
  refine it_walk (f := m_columns_L2 n rows pairA pairB l1) (P := fun s => aW K (mw h0 hp n p count sorts rows hand gathered gather paired pairA pairB ideal draft s.2 one two turned placeI placeJ formA formB formC) sz 0 0 2 [(0, .ref h0), (1, .int l1), (2, .int s.1)] []) (R := fun r => aW K (mw h0 hp n p count sorts rows hand gathered gather paired pairA pairB ideal draft r one two turned placeI placeJ formA formB formC) sz 0 0 64 [(0, .ref h0), (1, .int l1)] []) ?_ h hr
  clear h hr
  intro s x h kl kr
  unfold m_columns_L2 at h
  refine r_iload_n C 2 rfl dX6_columns_2 rfl ?_
  refine r_aload_n C 0 rfl dX6_columns_3 rfl ?_
  obtain ⟨r1, qr1, h⟩ := bd_i h
  refine q_callV C 1 0 0 (c_side qr1) rfl mw_self rfl ok_side in_side lk6_111 rfl (Nat.le_of_ble_eq_true rfl) ⟨Nat.le_of_ble_eq_true rfl, Nat.le_of_ble_eq_true rfl⟩ dX6_columns_4 rfl rfl ?_
  refine r_icmp_ge C (tgt := 64) dX6_columns_7 (by decide) (fun hc => ?_) (fun hc => ?_)
  · replace h := br_p hc h
    refine r_lv [0, 1] rfl ?_
    exact kr _ (sm_i h)
  · replace h := br_n hc h
    refine r_iconst C (v := 0) dX6_columns_10 (by decide) ?_
    refine r_istore_n C (lv' := [(3, .int ((0 : Int32))), (0, .ref h0), (1, .int l1), (2, .int s.1)]) dX6_columns_11 rfl (by decide) rfl ?_
    refine r_lv [1, 2, 3, 0] rfl ?_
    obtain ⟨r6, qr6, h⟩ := bd_i h
    refine w_columns_L12 C qr6 ?_
    refine r_iinc C (v := s.1 + 1) (lv' := [(2, .int (s.1 + 1)), (0, .ref h0), (1, .int l1)]) 2 rfl dX6_columns_58 rfl (by decide) rfl ?_
    refine r_goto C (tgt := 2) dX6_columns_61 (by decide) ?_
    refine r_lv [1, 2, 0] rfl ?_
    exact kl _ (sm_i h)
set_option maxHeartbeats 4000000 in
set_option maxRecDepth 100000 in
theorem w_columns_L108J188 {K : kT} {O : oT} (C : aC K cX6_columns RX6 "columns" 4 76 0 0 8 none O) {h0 : Nat} {hp : cH} {sz : Nat} {n : Int32} {p : Int64} {count : Int32} {sorts : Nat → Int32} {rows : Nat → Int64} {hand : Nat → Int64} {gathered : Int32} {gather : Nat → Int32} {paired : Int32} {pairA : Nat → Int32} {pairB : Nat → Int32} {ideal : Int32} {draft : Nat → Int64} {frame : Nat → Int64} {one : Nat → Int64} {two : Nat → Int64} {turned : Nat → Int64} {placeI : Int32} {placeJ : Int32} {formA : Int64} {formB : Int64} {formC : Int64} {l1 : Int32} {l2 : Int32} {l3 : Int64} {l5 : Int32}  {x : (Int32 × (Nat → Int64) × (Nat → Int64)) ⊕ ((Nat → Int64) × (Nat → Int64))} (h : m_columns_L108J188 one two l5 = some x) (kl : ∀ s, x = .inl s → aW K (mw h0 hp n p count sorts rows hand gathered gather paired pairA pairB ideal draft frame s.2.1 s.2.2 turned placeI placeJ formA formB formC) sz 0 0 108 [(0, .ref h0), (1, .int l1), (2, .int l2), (3, .long l3), (5, .int s.1)] []) (kr : ∀ r, x = .inr r → aW K (mw h0 hp n p count sorts rows hand gathered gather paired pairA pairB ideal draft frame r.1 r.2 turned placeI placeJ formA formB formC) sz 0 0 194 [(0, .ref h0), (1, .int l1), (2, .int l2)] []) : aW K (mw h0 hp n p count sorts rows hand gathered gather paired pairA pairB ideal draft frame one two turned placeI placeJ formA formB formC) sz 0 0 188 [(0, .ref h0), (1, .int l1), (2, .int l2), (3, .long l3), (5, .int l5)] [] := by
  unfold m_columns_L108J188 at h
  refine r_iinc C (v := l5 + 1) (lv' := [(5, .int (l5 + 1)), (0, .ref h0), (1, .int l1), (2, .int l2), (3, .long l3)]) 4 rfl dX6_columns_188 rfl (by decide) rfl ?_
  refine r_goto C (tgt := 108) dX6_columns_191 (by decide) ?_
  refine r_lv [1, 2, 3, 4, 0] rfl ?_
  exact kl _ (sm_i h)
set_option maxHeartbeats 4000000 in
set_option maxRecDepth 100000 in
theorem w_columns_L108 {K : kT} {O : oT} (C : aC K cX6_columns RX6 "columns" 4 76 0 0 8 none O) {h0 : Nat} {hp : cH} {sz : Nat} {n : Int32} {p : Int64} {count : Int32} {sorts : Nat → Int32} {rows : Nat → Int64} {hand : Nat → Int64} {gathered : Int32} {gather : Nat → Int32} {paired : Int32} {pairA : Nat → Int32} {pairB : Nat → Int32} {ideal : Int32} {draft : Nat → Int64} {frame : Nat → Int64} {turned : Nat → Int64} {placeI : Int32} {placeJ : Int32} {formA : Int64} {formB : Int64} {formC : Int64} {l1 : Int32} {l2 : Int32} {l3 : Int64} {v0 : Int32} {v1 : Nat → Int64} {v2 : Nat → Int64} {r : ((Nat → Int64) × (Nat → Int64))} (h : itX (m_columns_L108 n p rows pairA pairB l1 l2 l3) (v0, v1, v2) = some r) (hr : aW K (mw h0 hp n p count sorts rows hand gathered gather paired pairA pairB ideal draft frame r.1 r.2 turned placeI placeJ formA formB formC) sz 0 0 194 [(0, .ref h0), (1, .int l1), (2, .int l2)] []) : aW K (mw h0 hp n p count sorts rows hand gathered gather paired pairA pairB ideal draft frame v1 v2 turned placeI placeJ formA formB formC) sz 0 0 108 [(0, .ref h0), (1, .int l1), (2, .int l2), (3, .long l3), (5, .int v0)] [] := by
  refine it_walk (f := m_columns_L108 n p rows pairA pairB l1 l2 l3) (P := fun s => aW K (mw h0 hp n p count sorts rows hand gathered gather paired pairA pairB ideal draft frame s.2.1 s.2.2 turned placeI placeJ formA formB formC) sz 0 0 108 [(0, .ref h0), (1, .int l1), (2, .int l2), (3, .long l3), (5, .int s.1)] []) (R := fun r => aW K (mw h0 hp n p count sorts rows hand gathered gather paired pairA pairB ideal draft frame r.1 r.2 turned placeI placeJ formA formB formC) sz 0 0 194 [(0, .ref h0), (1, .int l1), (2, .int l2)] []) ?_ h hr
  clear h hr
  intro s x h kl kr
  unfold m_columns_L108 at h
  refine r_iload C 4 rfl dX6_columns_108 ?_
  refine r_aload_n C 0 rfl dX6_columns_110 rfl ?_
  obtain ⟨r13, qr13, h⟩ := bd_i h
  refine q_callV C 1 0 0 (c_side qr13) rfl mw_self rfl ok_side in_side lk6_111 rfl (Nat.le_of_ble_eq_true rfl) ⟨Nat.le_of_ble_eq_true rfl, Nat.le_of_ble_eq_true rfl⟩ dX6_columns_111 rfl rfl ?_
  refine r_icmp_ge C (tgt := 194) dX6_columns_114 (by decide) (fun hc => ?_) (fun hc => ?_)
  · replace h := br_p hc h
    refine r_lv [0, 1, 2] rfl ?_
    exact kr _ (sm_i h)
  · replace h := br_n hc h
    refine r_aload_n C 0 rfl dX6_columns_117 rfl ?_
    refine r_lload_n C 3 rfl dX6_columns_118 rfl ?_
    refine r_aload_n C 0 rfl dX6_columns_119 rfl ?_
    refine r_iload_n C 1 rfl dX6_columns_120 rfl ?_
    refine r_if_eq C (tgt := 133) dX6_columns_121 (by decide) (fun hc => ?_) (fun hc => ?_)
    · replace h := br_p hc h
      refine r_aload_n C 0 rfl dX6_columns_133 rfl ?_
      refine m_g_pairB C dX6_columns_134 ?_
      refine r_iload_n C 2 rfl dX6_columns_137 rfl ?_
      obtain ⟨hi, h⟩ := gd_t h
      refine m_l_pairB C hi dX6_columns_138 ?_
      refine r_iload C 4 rfl dX6_columns_139 ?_
      obtain ⟨r14, qr14, h⟩ := bd_i h
      refine q_callV C 3 0 0 (c_of qr14) rfl mw_self rfl ok_of in_of lk6_108 rfl (Nat.le_of_ble_eq_true rfl) ⟨Nat.le_of_ble_eq_true rfl, Nat.le_of_ble_eq_true rfl⟩ dX6_columns_141 rfl rfl ?_
      obtain ⟨r15, qr15, h⟩ := bd_i h
      refine q_callV C 0 0 0 (c_times qr15) rfl mw_self rfl ok_times in_times lk6_76 rfl (Nat.le_of_ble_eq_true rfl) ⟨Nat.le_of_ble_eq_true rfl, Nat.le_of_ble_eq_true rfl⟩ dX6_columns_144 rfl rfl ?_
      refine r_lstore C (lv' := [(6, .long r15), (0, .ref h0), (1, .int l1), (2, .int l2), (3, .long l3), (5, .int s.1)]) dX6_columns_147 (by decide) rfl ?_
      refine r_iload_n C 2 rfl dX6_columns_149 rfl ?_
      refine r_if_eq C (tgt := 172) dX6_columns_150 (by decide) (fun hc => ?_) (fun hc => ?_)
      · replace h := br_p hc h
        refine r_aload_n C 1 rfl dX6_columns_172 rfl ?_
        refine m_g_two C dX6_columns_173 ?_
        refine r_iload C 5 rfl dX6_columns_176 ?_
        refine r_aload_n C 1 rfl dX6_columns_178 rfl ?_
        obtain ⟨r16, qr16, h⟩ := bd_i h
        refine q_callV C 2 0 0 (c_side qr16) rfl mw_self rfl ok_side in_side lk6_111 rfl (Nat.le_of_ble_eq_true rfl) ⟨Nat.le_of_ble_eq_true rfl, Nat.le_of_ble_eq_true rfl⟩ dX6_columns_179 rfl rfl ?_
        refine r_imul C dX6_columns_182 ?_
        refine r_iload_n C 3 rfl dX6_columns_183 rfl ?_
        refine r_iadd C dX6_columns_184 ?_
        refine r_lload C 0 rfl dX6_columns_185 ?_
        obtain ⟨hi, h⟩ := gd_t h
        refine m_s_two C hi dX6_columns_187 ?_
        refine r_lv [1, 2, 3, 4, 5] rfl ?_
        exact w_columns_L108J188 C h kl kr
      · replace h := br_n hc h
        refine r_aload_n C 1 rfl dX6_columns_153 rfl ?_
        refine m_g_one C dX6_columns_154 ?_
        refine r_iload C 5 rfl dX6_columns_157 ?_
        refine r_aload_n C 1 rfl dX6_columns_159 rfl ?_
        obtain ⟨r17, qr17, h⟩ := bd_i h
        refine q_callV C 2 0 0 (c_side qr17) rfl mw_self rfl ok_side in_side lk6_111 rfl (Nat.le_of_ble_eq_true rfl) ⟨Nat.le_of_ble_eq_true rfl, Nat.le_of_ble_eq_true rfl⟩ dX6_columns_160 rfl rfl ?_
        refine r_imul C dX6_columns_163 ?_
        refine r_iload_n C 3 rfl dX6_columns_164 rfl ?_
        refine r_iadd C dX6_columns_165 ?_
        refine r_lload C 0 rfl dX6_columns_166 ?_
        obtain ⟨hi, h⟩ := gd_t h
        refine m_s_one C hi dX6_columns_168 ?_
        refine r_goto C (tgt := 188) dX6_columns_169 (by decide) ?_
        refine r_lv [1, 2, 3, 4, 5] rfl ?_
        exact w_columns_L108J188 C h kl kr
    · replace h := br_n hc h
      refine r_aload_n C 0 rfl dX6_columns_124 rfl ?_
      refine m_g_pairA C dX6_columns_125 ?_
      refine r_iload_n C 2 rfl dX6_columns_128 rfl ?_
      obtain ⟨hi, h⟩ := gd_t h
      refine m_l_pairA C hi dX6_columns_129 ?_
      refine r_goto C (tgt := 139) dX6_columns_130 (by decide) ?_
      refine r_iload C 4 rfl dX6_columns_139 ?_
      obtain ⟨r18, qr18, h⟩ := bd_i h
      refine q_callV C 3 0 0 (c_of qr18) rfl mw_self rfl ok_of in_of lk6_108 rfl (Nat.le_of_ble_eq_true rfl) ⟨Nat.le_of_ble_eq_true rfl, Nat.le_of_ble_eq_true rfl⟩ dX6_columns_141 rfl rfl ?_
      obtain ⟨r19, qr19, h⟩ := bd_i h
      refine q_callV C 0 0 0 (c_times qr19) rfl mw_self rfl ok_times in_times lk6_76 rfl (Nat.le_of_ble_eq_true rfl) ⟨Nat.le_of_ble_eq_true rfl, Nat.le_of_ble_eq_true rfl⟩ dX6_columns_144 rfl rfl ?_
      refine r_lstore C (lv' := [(6, .long r19), (0, .ref h0), (1, .int l1), (2, .int l2), (3, .long l3), (5, .int s.1)]) dX6_columns_147 (by decide) rfl ?_
      refine r_iload_n C 2 rfl dX6_columns_149 rfl ?_
      refine r_if_eq C (tgt := 172) dX6_columns_150 (by decide) (fun hc => ?_) (fun hc => ?_)
      · replace h := br_p hc h
        refine r_aload_n C 1 rfl dX6_columns_172 rfl ?_
        refine m_g_two C dX6_columns_173 ?_
        refine r_iload C 5 rfl dX6_columns_176 ?_
        refine r_aload_n C 1 rfl dX6_columns_178 rfl ?_
        obtain ⟨r20, qr20, h⟩ := bd_i h
        refine q_callV C 2 0 0 (c_side qr20) rfl mw_self rfl ok_side in_side lk6_111 rfl (Nat.le_of_ble_eq_true rfl) ⟨Nat.le_of_ble_eq_true rfl, Nat.le_of_ble_eq_true rfl⟩ dX6_columns_179 rfl rfl ?_
        refine r_imul C dX6_columns_182 ?_
        refine r_iload_n C 3 rfl dX6_columns_183 rfl ?_
        refine r_iadd C dX6_columns_184 ?_
        refine r_lload C 0 rfl dX6_columns_185 ?_
        obtain ⟨hi, h⟩ := gd_t h
        refine m_s_two C hi dX6_columns_187 ?_
        refine r_lv [1, 2, 3, 4, 5] rfl ?_
        exact w_columns_L108J188 C h kl kr
      · replace h := br_n hc h
        refine r_aload_n C 1 rfl dX6_columns_153 rfl ?_
        refine m_g_one C dX6_columns_154 ?_
        refine r_iload C 5 rfl dX6_columns_157 ?_
        refine r_aload_n C 1 rfl dX6_columns_159 rfl ?_
        obtain ⟨r21, qr21, h⟩ := bd_i h
        refine q_callV C 2 0 0 (c_side qr21) rfl mw_self rfl ok_side in_side lk6_111 rfl (Nat.le_of_ble_eq_true rfl) ⟨Nat.le_of_ble_eq_true rfl, Nat.le_of_ble_eq_true rfl⟩ dX6_columns_160 rfl rfl ?_
        refine r_imul C dX6_columns_163 ?_
        refine r_iload_n C 3 rfl dX6_columns_164 rfl ?_
        refine r_iadd C dX6_columns_165 ?_
        refine r_lload C 0 rfl dX6_columns_166 ?_
        obtain ⟨hi, h⟩ := gd_t h
        refine m_s_one C hi dX6_columns_168 ?_
        refine r_goto C (tgt := 188) dX6_columns_169 (by decide) ?_
        refine r_lv [1, 2, 3, 4, 5] rfl ?_
        exact w_columns_L108J188 C h kl kr
set_option maxHeartbeats 4000000 in
set_option maxRecDepth 100000 in
theorem w_columns_L85 {K : kT} {O : oT} (C : aC K cX6_columns RX6 "columns" 4 76 0 0 8 none O) {h0 : Nat} {hp : cH} {sz : Nat} {n : Int32} {p : Int64} {count : Int32} {sorts : Nat → Int32} {rows : Nat → Int64} {hand : Nat → Int64} {gathered : Int32} {gather : Nat → Int32} {paired : Int32} {pairA : Nat → Int32} {pairB : Nat → Int32} {ideal : Int32} {draft : Nat → Int64} {frame : Nat → Int64} {turned : Nat → Int64} {placeI : Int32} {placeJ : Int32} {formA : Int64} {formB : Int64} {formC : Int64} {l1 : Int32} {v0 : Int32} {v1 : Nat → Int64} {v2 : Nat → Int64} {r : ((Nat → Int64) × (Nat → Int64))} (h : itX (m_columns_L85 n p rows pairA pairB frame l1) (v0, v1, v2) = some r) (hr : aW K (mw h0 hp n p count sorts rows hand gathered gather paired pairA pairB ideal draft frame r.1 r.2 turned placeI placeJ formA formB formC) sz 0 0 200 [] []) : aW K (mw h0 hp n p count sorts rows hand gathered gather paired pairA pairB ideal draft frame v1 v2 turned placeI placeJ formA formB formC) sz 0 0 85 [(0, .ref h0), (1, .int l1), (2, .int v0)] [] := by
  refine it_walk (f := m_columns_L85 n p rows pairA pairB frame l1) (P := fun s => aW K (mw h0 hp n p count sorts rows hand gathered gather paired pairA pairB ideal draft frame s.2.1 s.2.2 turned placeI placeJ formA formB formC) sz 0 0 85 [(0, .ref h0), (1, .int l1), (2, .int s.1)] []) (R := fun r => aW K (mw h0 hp n p count sorts rows hand gathered gather paired pairA pairB ideal draft frame r.1 r.2 turned placeI placeJ formA formB formC) sz 0 0 200 [] []) ?_ h hr
  clear h hr
  intro s x h kl kr
  unfold m_columns_L85 at h
  refine r_iload_n C 2 rfl dX6_columns_85 rfl ?_
  refine r_aload_n C 0 rfl dX6_columns_86 rfl ?_
  obtain ⟨r11, qr11, h⟩ := bd_i h
  refine q_callV C 1 0 0 (c_side qr11) rfl mw_self rfl ok_side in_side lk6_111 rfl (Nat.le_of_ble_eq_true rfl) ⟨Nat.le_of_ble_eq_true rfl, Nat.le_of_ble_eq_true rfl⟩ dX6_columns_87 rfl rfl ?_
  refine r_icmp_ge C (tgt := 200) dX6_columns_90 (by decide) (fun hc => ?_) (fun hc => ?_)
  · replace h := br_p hc h
    refine r_lv [] rfl ?_
    exact kr _ (sm_i h)
  · replace h := br_n hc h
    refine r_aload_n C 0 rfl dX6_columns_93 rfl ?_
    refine r_iload_n C 2 rfl dX6_columns_94 rfl ?_
    refine r_aload_n C 0 rfl dX6_columns_95 rfl ?_
    refine m_g_n C dX6_columns_96 ?_
    refine r_iconst C (v := 1) dX6_columns_99 (by decide) ?_
    refine r_iadd C dX6_columns_100 ?_
    obtain ⟨r12, qr12, h⟩ := bd_i h
    refine q_callV C 0 0 0 (c_at qr12) rfl mw_self rfl ok_at in_at lk6_94 rfl (Nat.le_of_ble_eq_true rfl) ⟨Nat.le_of_ble_eq_true rfl, Nat.le_of_ble_eq_true rfl⟩ dX6_columns_101 rfl rfl ?_
    refine r_lstore_n C (lv' := [(3, .long r12), (0, .ref h0), (1, .int l1), (2, .int s.1)]) dX6_columns_104 rfl (by decide) rfl ?_
    refine r_iconst C (v := 0) dX6_columns_105 (by decide) ?_
    refine r_istore C (lv' := [(5, .int ((0 : Int32))), (3, .long r12), (0, .ref h0), (1, .int l1), (2, .int s.1)]) dX6_columns_106 (by decide) rfl ?_
    refine r_lv [2, 3, 4, 1, 0] rfl ?_
    obtain ⟨r22, qr22, h⟩ := bd_i h
    refine w_columns_L108 C qr22 ?_
    refine r_iinc C (v := s.1 + 1) (lv' := [(2, .int (s.1 + 1)), (0, .ref h0), (1, .int l1)]) 2 rfl dX6_columns_194 rfl (by decide) rfl ?_
    refine r_goto C (tgt := 85) dX6_columns_197 (by decide) ?_
    refine r_lv [1, 2, 0] rfl ?_
    exact kl _ (sm_i h)
set_option maxHeartbeats 4000000 in
set_option maxRecDepth 100000 in
theorem c_columns {G : gT} {h0 : Nat} {hp : cH} {sz : Nat} {n : Int32} {p : Int64} {count : Int32} {sorts : Nat → Int32} {rows : Nat → Int64} {hand : Nat → Int64} {gathered : Int32} {gather : Nat → Int32} {paired : Int32} {pairA : Nat → Int32} {pairB : Nat → Int32} {ideal : Int32} {draft : Nat → Int64} {frame : Nat → Int64} {one : Nat → Int64} {two : Nat → Int64} {turned : Nat → Int64} {placeI : Int32} {placeJ : Int32} {formA : Int64} {formB : Int64} {formC : Int64} {x1 : Int32} {out : ((Nat → Int64) × (Nat → Int64) × (Nat → Int64))} (h : m_columns n p rows pairA pairB frame one two x1 = some out) : aM G yX6_columns cX6_columns 8 none 4 76 0 0 [.ref h0, .int x1] (mw h0 hp n p count sorts rows hand gathered gather paired pairA pairB ideal draft frame one two turned placeI placeJ formA formB formC) sz ((none, mw h0 hp n p count sorts rows hand gathered gather paired pairA pairB ideal draft out.1 out.2.1 out.2.2 turned placeI placeJ formA formB formC, sz) : oT) := by
  refine aM.of RX6 (by decide) rfl (Nat.le_of_ble_eq_true rfl) (fun K C => ?_)
  have hO : ((none, mw h0 hp n p count sorts rows hand gathered gather paired pairA pairB ideal draft out.1 out.2.1 out.2.2 turned placeI placeJ formA formB formC, sz) : oT) = ((none, mw h0 hp n p count sorts rows hand gathered gather paired pairA pairB ideal draft out.1 out.2.1 out.2.2 turned placeI placeJ formA formB formC, sz) : oT) := rfl
  refine r_lve (lv' := [(0, .ref h0), (1, .int x1)]) rfl ?_
  unfold m_columns at h
  refine r_iconst C (v := 0) dX6_columns_0 (by decide) ?_
  refine r_istore_n C (lv' := [(2, .int ((0 : Int32))), (0, .ref h0), (1, .int x1)]) dX6_columns_1 rfl (by decide) rfl ?_
  refine r_lv [1, 2, 0] rfl ?_
  obtain ⟨r7, qr7, h⟩ := bd_i h
  refine w_columns_L2 C qr7 ?_
  refine r_aload_n C 0 rfl dX6_columns_64 rfl ?_
  refine r_aload_n C 0 rfl dX6_columns_65 rfl ?_
  obtain ⟨r8, qr8, h⟩ := bd_i h
  refine q_callV C 1 0 0 (c_side qr8) rfl mw_self rfl ok_side in_side lk6_111 rfl (Nat.le_of_ble_eq_true rfl) ⟨Nat.le_of_ble_eq_true rfl, Nat.le_of_ble_eq_true rfl⟩ dX6_columns_66 rfl rfl ?_
  refine r_aload_n C 0 rfl dX6_columns_69 rfl ?_
  refine m_g_n C dX6_columns_70 ?_
  refine r_iconst C (v := 2) dX6_columns_73 (by decide) ?_
  refine r_iadd C dX6_columns_74 ?_
  refine r_aload_n C 0 rfl dX6_columns_75 rfl ?_
  obtain ⟨r9, qr9, h⟩ := bd_i h
  refine q_callV C 3 0 0 (c_side qr9) rfl mw_self rfl ok_side in_side lk6_111 rfl (Nat.le_of_ble_eq_true rfl) ⟨Nat.le_of_ble_eq_true rfl, Nat.le_of_ble_eq_true rfl⟩ dX6_columns_76 rfl rfl ?_
  obtain ⟨r10, qr10, h⟩ := bd_i h
  refine q_callV C 0 0 0 (c_reduce qr10) rfl mw_self rfl ok_reduce in_reduce lk6_115 rfl (Nat.le_of_ble_eq_true rfl) ⟨Nat.le_of_ble_eq_true rfl, Nat.le_of_ble_eq_true rfl⟩ dX6_columns_79 rfl rfl ?_
  refine r_pop C dX6_columns_82 rfl ?_
  refine r_iconst C (v := 0) dX6_columns_83 (by decide) ?_
  refine r_istore_n C (lv' := [(2, .int ((0 : Int32))), (0, .ref h0), (1, .int x1)]) dX6_columns_84 rfl (by decide) rfl ?_
  refine r_lv [1, 2, 0] rfl ?_
  obtain ⟨r23, qr23, h⟩ := bd_i h
  refine w_columns_L85 C qr23 ?_
  obtain rfl := sm_i h
  exact r_return C (Eq.symm hO) dX6_columns_200
noncomputable def m_map_L53 (n : Int32) (one : Nat → Int64) (l1 : Int32) (s : (Int32 × (Nat → Int64))) : Option ((Int32 × (Nat → Int64)) ⊕ (Nat → Int64)) := (m_side n).bind fun r6 => if r6 ≤ s.1 then (some (.inr s.2)) else ((m_side n).bind fun r7 => if gi ((l1 * r7) + s.1) 16 then (m_set s.2 l1 s.1 (one ((l1 * r7) + s.1).toNatClampNeg)).bind fun r8 => (m_side n).bind fun r9 => if l1 = s.1 then ((m_set r8 l1 (r9 + s.1) ((1 : Int64))).bind fun r11 => some (.inl (s.1 + 1, r11))) else ((m_set r8 l1 (r9 + s.1) ((0 : Int64))).bind fun r10 => some (.inl (s.1 + 1, r10))) else none)
noncomputable def m_map_L43 (n : Int32) (one : Nat → Int64) (s : (Int32 × (Nat → Int64))) : Option ((Int32 × (Nat → Int64)) ⊕ (Nat → Int64)) := (m_side n).bind fun r5 => if r5 ≤ s.1 then (some (.inr s.2)) else ((itX (m_map_L53 n one s.1) ((0 : Int32), s.2)).bind fun r12 => some (.inl (s.1 + 1, r12)))
noncomputable def m_map_L158 (n : Int32) (p : Int64) (frame : Nat → Int64) (two : Nat → Int64) (l1 : Int32) (l2 : Int32) (s : (Int32 × (Nat → Int64))) : Option ((Int32 × (Nat → Int64)) ⊕ (Nat → Int64)) := (m_side n).bind fun r21 => if r21 ≤ s.1 then (some (.inr s.2)) else ((m_side n).bind fun r22 => (m_side n).bind fun r23 => if gi ((l1 * r23) + l2) 16 then (m_side n).bind fun r24 => if gi ((l1 * r24) + s.1) 16 then (m_side n).bind fun r25 => (m_at frame s.1 (r25 + l2)).bind fun r26 => (m_times p (two ((l1 * r24) + s.1).toNatClampNeg) r26).bind fun r27 => if p = 0 then none else if gi ((l1 * r22) + l2) 16 then some (.inl (s.1 + 1, vp_updL s.2 ((l1 * r22) + l2).toNatClampNeg (((s.2 ((l1 * r23) + l2).toNatClampNeg) + r27) - ((s.2 ((l1 * r23) + l2).toNatClampNeg) + r27) / p * p))) else none else none else none)
noncomputable def m_map_L148 (n : Int32) (p : Int64) (frame : Nat → Int64) (two : Nat → Int64) (l1 : Int32) (s : (Int32 × (Nat → Int64))) : Option ((Int32 × (Nat → Int64)) ⊕ (Nat → Int64)) := (m_side n).bind fun r20 => if r20 ≤ s.1 then (some (.inr s.2)) else ((itX (m_map_L158 n p frame two l1 s.1) ((0 : Int32), s.2)).bind fun r28 => some (.inl (s.1 + 1, r28)))
noncomputable def m_map_L138 (n : Int32) (p : Int64) (frame : Nat → Int64) (two : Nat → Int64) (s : (Int32 × (Nat → Int64))) : Option ((Int32 × (Nat → Int64)) ⊕ (Nat → Int64)) := (m_side n).bind fun r19 => if r19 ≤ s.1 then (some (.inr s.2)) else ((itX (m_map_L148 n p frame two s.1) ((0 : Int32), s.2)).bind fun r29 => some (.inl (s.1 + 1, r29)))
noncomputable def m_map (n : Int32) (p : Int64) (count : Int32) (sorts : Nat → Int32) (rows : Nat → Int64) (paired : Int32) (pairA : Nat → Int32) (pairB : Nat → Int32) (draft : Nat → Int64) (frame : Nat → Int64) (one : Nat → Int64) (two : Nat → Int64)  : Option (Int32 × Int32 × (Nat → Int32) × (Nat → Int64) × Int32 × (Nat → Int64) × (Nat → Int64) × (Nat → Int64) × (Nat → Int64)) := if paired = (n + ((2 : Int32))) then ((m_isWide n p rows pairA pairB frame ((1 : Int32))).bind fun r1 => if r1.1 = 0 then (some ((-1 : Int32), count, sorts, rows, paired, draft, r1.2, one, two)) else ((m_isWide n p rows pairA pairB r1.2 ((0 : Int32))).bind fun r2 => if r2.1 = 0 then (some ((-1 : Int32), count, sorts, rows, paired, draft, r2.2, one, two)) else ((m_columns n p rows pairA pairB r2.2 one two ((1 : Int32))).bind fun r3 => (m_columns n p rows pairA pairB r3.1 r3.2.1 r3.2.2 ((0 : Int32))).bind fun r4 => (itX (m_map_L43 n r4.2.1) ((0 : Int32), r4.1)).bind fun r13 => (m_side n).bind fun r14 => (m_side n).bind fun r15 => (m_side n).bind fun r16 => (m_reduce p r13 r14 (((2 : Int32)) * r15) r16).bind fun r17 => (m_clear draft).bind fun r18 => (itX (m_map_L138 n p r17.2 r4.2.2) ((0 : Int32), r18)).bind fun r30 => (m_made n p count sorts rows r30 ((3 : Int32))).bind fun r31 => if 0 ≤ r31.1 then (some (r31.1, r31.2.1, r31.2.2.1, r31.2.2.2.1, (0 : Int32), r31.2.2.2.2, r17.2, r4.2.1, r4.2.2)) else (some (r31.1, r31.2.1, r31.2.2.1, r31.2.2.2.1, paired, r31.2.2.2.2, r17.2, r4.2.1, r4.2.2))))) else (some ((-1 : Int32), count, sorts, rows, paired, draft, frame, one, two))
set_option maxHeartbeats 4000000 in
set_option maxRecDepth 100000 in
theorem w_map_L53 {K : kT} {O : oT} (C : aC K cX6_map RX6 "map" 5 95 0 0 4 (some .int) O) {h0 : Nat} {hp : cH} {sz : Nat} {n : Int32} {p : Int64} {count : Int32} {sorts : Nat → Int32} {rows : Nat → Int64} {hand : Nat → Int64} {gathered : Int32} {gather : Nat → Int32} {paired : Int32} {pairA : Nat → Int32} {pairB : Nat → Int32} {ideal : Int32} {draft : Nat → Int64} {one : Nat → Int64} {two : Nat → Int64} {turned : Nat → Int64} {placeI : Int32} {placeJ : Int32} {formA : Int64} {formB : Int64} {formC : Int64} {l1 : Int32} {v0 : Int32} {v1 : Nat → Int64} {r : (Nat → Int64)} (h : itX (m_map_L53 n one l1) (v0, v1) = some r) (hr : aW K (mw h0 hp n p count sorts rows hand gathered gather paired pairA pairB ideal draft r one two turned placeI placeJ formA formB formC) sz 0 0 107 [(0, .ref h0), (1, .int l1)] []) : aW K (mw h0 hp n p count sorts rows hand gathered gather paired pairA pairB ideal draft v1 one two turned placeI placeJ formA formB formC) sz 0 0 53 [(0, .ref h0), (1, .int l1), (2, .int v0)] [] := by
  refine it_walk (f := m_map_L53 n one l1) (P := fun s => aW K (mw h0 hp n p count sorts rows hand gathered gather paired pairA pairB ideal draft s.2 one two turned placeI placeJ formA formB formC) sz 0 0 53 [(0, .ref h0), (1, .int l1), (2, .int s.1)] []) (R := fun r => aW K (mw h0 hp n p count sorts rows hand gathered gather paired pairA pairB ideal draft r one two turned placeI placeJ formA formB formC) sz 0 0 107 [(0, .ref h0), (1, .int l1)] []) ?_ h hr
  clear h hr
  intro s x h kl kr
  unfold m_map_L53 at h
  refine r_iload_n C 2 rfl dX6_map_53 rfl ?_
  refine r_aload_n C 0 rfl dX6_map_54 rfl ?_
  obtain ⟨r6, qr6, h⟩ := bd_i h
  refine q_callV C 1 0 0 (c_side qr6) rfl mw_self rfl ok_side in_side lk6_111 rfl (Nat.le_of_ble_eq_true rfl) ⟨Nat.le_of_ble_eq_true rfl, Nat.le_of_ble_eq_true rfl⟩ dX6_map_55 rfl rfl ?_
  refine r_icmp_ge C (tgt := 107) dX6_map_58 (by decide) (fun hc => ?_) (fun hc => ?_)
  · replace h := br_p hc h
    refine r_lv [0, 1] rfl ?_
    exact kr _ (sm_i h)
  · replace h := br_n hc h
    refine r_aload_n C 0 rfl dX6_map_61 rfl ?_
    refine r_iload_n C 1 rfl dX6_map_62 rfl ?_
    refine r_iload_n C 2 rfl dX6_map_63 rfl ?_
    refine r_aload_n C 0 rfl dX6_map_64 rfl ?_
    refine m_g_one C dX6_map_65 ?_
    refine r_iload_n C 1 rfl dX6_map_68 rfl ?_
    refine r_aload_n C 0 rfl dX6_map_69 rfl ?_
    obtain ⟨r7, qr7, h⟩ := bd_i h
    refine q_callV C 5 0 0 (c_side qr7) rfl mw_self rfl ok_side in_side lk6_111 rfl (Nat.le_of_ble_eq_true rfl) ⟨Nat.le_of_ble_eq_true rfl, Nat.le_of_ble_eq_true rfl⟩ dX6_map_70 rfl rfl ?_
    refine r_imul C dX6_map_73 ?_
    refine r_iload_n C 2 rfl dX6_map_74 rfl ?_
    refine r_iadd C dX6_map_75 ?_
    obtain ⟨hi, h⟩ := gd_t h
    refine m_l_one C hi dX6_map_76 ?_
    obtain ⟨r8, qr8, h⟩ := bd_i h
    refine q_callVv C 0 0 0 (c_set qr8) rfl mw_self rfl ok_set in_set lk6_101 rfl (Nat.le_of_ble_eq_true rfl) ⟨Nat.le_of_ble_eq_true rfl, Nat.le_of_ble_eq_true rfl⟩ dX6_map_77 rfl rfl ?_
    refine r_aload_n C 0 rfl dX6_map_80 rfl ?_
    refine r_iload_n C 1 rfl dX6_map_81 rfl ?_
    refine r_aload_n C 0 rfl dX6_map_82 rfl ?_
    obtain ⟨r9, qr9, h⟩ := bd_i h
    refine q_callV C 2 0 0 (c_side qr9) rfl mw_self rfl ok_side in_side lk6_111 rfl (Nat.le_of_ble_eq_true rfl) ⟨Nat.le_of_ble_eq_true rfl, Nat.le_of_ble_eq_true rfl⟩ dX6_map_83 rfl rfl ?_
    refine r_iload_n C 2 rfl dX6_map_86 rfl ?_
    refine r_iadd C dX6_map_87 ?_
    refine r_iload_n C 1 rfl dX6_map_88 rfl ?_
    refine r_iload_n C 2 rfl dX6_map_89 rfl ?_
    refine r_icmp_ne C (tgt := 97) dX6_map_90 (by decide) (fun hc => ?_) (fun hc => ?_)
    · replace h := br_n hc h
      refine r_lconst C (v := 0) dX6_map_97 (by decide) ?_
      obtain ⟨r10, qr10, h⟩ := bd_i h
      refine q_callVv C 0 0 0 (c_set qr10) rfl mw_self rfl ok_set in_set lk6_101 rfl (Nat.le_of_ble_eq_true rfl) ⟨Nat.le_of_ble_eq_true rfl, Nat.le_of_ble_eq_true rfl⟩ dX6_map_98 rfl rfl ?_
      refine r_iinc C (v := s.1 + 1) (lv' := [(2, .int (s.1 + 1)), (0, .ref h0), (1, .int l1)]) 2 rfl dX6_map_101 rfl (by decide) rfl ?_
      refine r_goto C (tgt := 53) dX6_map_104 (by decide) ?_
      refine r_lv [1, 2, 0] rfl ?_
      exact kl _ (sm_i h)
    · replace h := br_p hc h
      refine r_lconst C (v := 1) dX6_map_93 (by decide) ?_
      refine r_goto C (tgt := 98) dX6_map_94 (by decide) ?_
      obtain ⟨r11, qr11, h⟩ := bd_i h
      refine q_callVv C 0 0 0 (c_set qr11) rfl mw_self rfl ok_set in_set lk6_101 rfl (Nat.le_of_ble_eq_true rfl) ⟨Nat.le_of_ble_eq_true rfl, Nat.le_of_ble_eq_true rfl⟩ dX6_map_98 rfl rfl ?_
      refine r_iinc C (v := s.1 + 1) (lv' := [(2, .int (s.1 + 1)), (0, .ref h0), (1, .int l1)]) 2 rfl dX6_map_101 rfl (by decide) rfl ?_
      refine r_goto C (tgt := 53) dX6_map_104 (by decide) ?_
      refine r_lv [1, 2, 0] rfl ?_
      exact kl _ (sm_i h)
set_option maxHeartbeats 4000000 in
set_option maxRecDepth 100000 in
theorem w_map_L43 {K : kT} {O : oT} (C : aC K cX6_map RX6 "map" 5 95 0 0 4 (some .int) O) {h0 : Nat} {hp : cH} {sz : Nat} {n : Int32} {p : Int64} {count : Int32} {sorts : Nat → Int32} {rows : Nat → Int64} {hand : Nat → Int64} {gathered : Int32} {gather : Nat → Int32} {paired : Int32} {pairA : Nat → Int32} {pairB : Nat → Int32} {ideal : Int32} {draft : Nat → Int64} {one : Nat → Int64} {two : Nat → Int64} {turned : Nat → Int64} {placeI : Int32} {placeJ : Int32} {formA : Int64} {formB : Int64} {formC : Int64}  {v0 : Int32} {v1 : Nat → Int64} {r : (Nat → Int64)} (h : itX (m_map_L43 n one) (v0, v1) = some r) (hr : aW K (mw h0 hp n p count sorts rows hand gathered gather paired pairA pairB ideal draft r one two turned placeI placeJ formA formB formC) sz 0 0 113 [(0, .ref h0)] []) : aW K (mw h0 hp n p count sorts rows hand gathered gather paired pairA pairB ideal draft v1 one two turned placeI placeJ formA formB formC) sz 0 0 43 [(0, .ref h0), (1, .int v0)] [] := by
  refine it_walk (f := m_map_L43 n one) (P := fun s => aW K (mw h0 hp n p count sorts rows hand gathered gather paired pairA pairB ideal draft s.2 one two turned placeI placeJ formA formB formC) sz 0 0 43 [(0, .ref h0), (1, .int s.1)] []) (R := fun r => aW K (mw h0 hp n p count sorts rows hand gathered gather paired pairA pairB ideal draft r one two turned placeI placeJ formA formB formC) sz 0 0 113 [(0, .ref h0)] []) ?_ h hr
  clear h hr
  intro s x h kl kr
  unfold m_map_L43 at h
  refine r_iload_n C 1 rfl dX6_map_43 rfl ?_
  refine r_aload_n C 0 rfl dX6_map_44 rfl ?_
  obtain ⟨r5, qr5, h⟩ := bd_i h
  refine q_callV C 1 0 0 (c_side qr5) rfl mw_self rfl ok_side in_side lk6_111 rfl (Nat.le_of_ble_eq_true rfl) ⟨Nat.le_of_ble_eq_true rfl, Nat.le_of_ble_eq_true rfl⟩ dX6_map_45 rfl rfl ?_
  refine r_icmp_ge C (tgt := 113) dX6_map_48 (by decide) (fun hc => ?_) (fun hc => ?_)
  · replace h := br_p hc h
    refine r_lv [0] rfl ?_
    exact kr _ (sm_i h)
  · replace h := br_n hc h
    refine r_iconst C (v := 0) dX6_map_51 (by decide) ?_
    refine r_istore_n C (lv' := [(2, .int ((0 : Int32))), (0, .ref h0), (1, .int s.1)]) dX6_map_52 rfl (by decide) rfl ?_
    refine r_lv [1, 2, 0] rfl ?_
    obtain ⟨r12, qr12, h⟩ := bd_i h
    refine w_map_L53 C qr12 ?_
    refine r_iinc C (v := s.1 + 1) (lv' := [(1, .int (s.1 + 1)), (0, .ref h0)]) 1 rfl dX6_map_107 rfl (by decide) rfl ?_
    refine r_goto C (tgt := 43) dX6_map_110 (by decide) ?_
    refine r_lv [1, 0] rfl ?_
    exact kl _ (sm_i h)
set_option maxHeartbeats 4000000 in
set_option maxRecDepth 100000 in
theorem w_map_L158 {K : kT} {O : oT} (C : aC K cX6_map RX6 "map" 5 95 0 0 4 (some .int) O) {h0 : Nat} {hp : cH} {sz : Nat} {n : Int32} {p : Int64} {count : Int32} {sorts : Nat → Int32} {rows : Nat → Int64} {hand : Nat → Int64} {gathered : Int32} {gather : Nat → Int32} {paired : Int32} {pairA : Nat → Int32} {pairB : Nat → Int32} {ideal : Int32} {frame : Nat → Int64} {one : Nat → Int64} {two : Nat → Int64} {turned : Nat → Int64} {placeI : Int32} {placeJ : Int32} {formA : Int64} {formB : Int64} {formC : Int64} {l1 : Int32} {l2 : Int32} {v0 : Int32} {v1 : Nat → Int64} {r : (Nat → Int64)} (h : itX (m_map_L158 n p frame two l1 l2) (v0, v1) = some r) (hr : aW K (mw h0 hp n p count sorts rows hand gathered gather paired pairA pairB ideal r frame one two turned placeI placeJ formA formB formC) sz 0 0 232 [(0, .ref h0), (1, .int l1), (2, .int l2)] []) : aW K (mw h0 hp n p count sorts rows hand gathered gather paired pairA pairB ideal v1 frame one two turned placeI placeJ formA formB formC) sz 0 0 158 [(0, .ref h0), (1, .int l1), (2, .int l2), (3, .int v0)] [] := by
  refine it_walk (f := m_map_L158 n p frame two l1 l2) (P := fun s => aW K (mw h0 hp n p count sorts rows hand gathered gather paired pairA pairB ideal s.2 frame one two turned placeI placeJ formA formB formC) sz 0 0 158 [(0, .ref h0), (1, .int l1), (2, .int l2), (3, .int s.1)] []) (R := fun r => aW K (mw h0 hp n p count sorts rows hand gathered gather paired pairA pairB ideal r frame one two turned placeI placeJ formA formB formC) sz 0 0 232 [(0, .ref h0), (1, .int l1), (2, .int l2)] []) ?_ h hr
  clear h hr
  intro s x h kl kr
  unfold m_map_L158 at h
  refine r_iload_n C 3 rfl dX6_map_158 rfl ?_
  refine r_aload_n C 0 rfl dX6_map_159 rfl ?_
  obtain ⟨r21, qr21, h⟩ := bd_i h
  refine q_callV C 1 0 0 (c_side qr21) rfl mw_self rfl ok_side in_side lk6_111 rfl (Nat.le_of_ble_eq_true rfl) ⟨Nat.le_of_ble_eq_true rfl, Nat.le_of_ble_eq_true rfl⟩ dX6_map_160 rfl rfl ?_
  refine r_icmp_ge C (tgt := 232) dX6_map_163 (by decide) (fun hc => ?_) (fun hc => ?_)
  · replace h := br_p hc h
    refine r_lv [0, 1, 2] rfl ?_
    exact kr _ (sm_i h)
  · replace h := br_n hc h
    refine r_aload_n C 0 rfl dX6_map_166 rfl ?_
    refine m_g_draft C dX6_map_167 ?_
    refine r_iload_n C 1 rfl dX6_map_170 rfl ?_
    refine r_aload_n C 0 rfl dX6_map_171 rfl ?_
    obtain ⟨r22, qr22, h⟩ := bd_i h
    refine q_callV C 2 0 0 (c_side qr22) rfl mw_self rfl ok_side in_side lk6_111 rfl (Nat.le_of_ble_eq_true rfl) ⟨Nat.le_of_ble_eq_true rfl, Nat.le_of_ble_eq_true rfl⟩ dX6_map_172 rfl rfl ?_
    refine r_imul C dX6_map_175 ?_
    refine r_iload_n C 2 rfl dX6_map_176 rfl ?_
    refine r_iadd C dX6_map_177 ?_
    refine r_aload_n C 0 rfl dX6_map_178 rfl ?_
    refine m_g_draft C dX6_map_179 ?_
    refine r_iload_n C 1 rfl dX6_map_182 rfl ?_
    refine r_aload_n C 0 rfl dX6_map_183 rfl ?_
    obtain ⟨r23, qr23, h⟩ := bd_i h
    refine q_callV C 4 0 0 (c_side qr23) rfl mw_self rfl ok_side in_side lk6_111 rfl (Nat.le_of_ble_eq_true rfl) ⟨Nat.le_of_ble_eq_true rfl, Nat.le_of_ble_eq_true rfl⟩ dX6_map_184 rfl rfl ?_
    refine r_imul C dX6_map_187 ?_
    refine r_iload_n C 2 rfl dX6_map_188 rfl ?_
    refine r_iadd C dX6_map_189 ?_
    obtain ⟨hi, h⟩ := gd_t h
    refine m_l_draft C hi dX6_map_190 ?_
    refine r_aload_n C 0 rfl dX6_map_191 rfl ?_
    refine r_aload_n C 0 rfl dX6_map_192 rfl ?_
    refine m_g_two C dX6_map_193 ?_
    refine r_iload_n C 1 rfl dX6_map_196 rfl ?_
    refine r_aload_n C 0 rfl dX6_map_197 rfl ?_
    obtain ⟨r24, qr24, h⟩ := bd_i h
    refine q_callV C 7 0 0 (c_side qr24) rfl mw_self rfl ok_side in_side lk6_111 rfl (Nat.le_of_ble_eq_true rfl) ⟨Nat.le_of_ble_eq_true rfl, Nat.le_of_ble_eq_true rfl⟩ dX6_map_198 rfl rfl ?_
    refine r_imul C dX6_map_201 ?_
    refine r_iload_n C 3 rfl dX6_map_202 rfl ?_
    refine r_iadd C dX6_map_203 ?_
    obtain ⟨hi, h⟩ := gd_t h
    refine m_l_two C hi dX6_map_204 ?_
    refine r_aload_n C 0 rfl dX6_map_205 rfl ?_
    refine r_iload_n C 3 rfl dX6_map_206 rfl ?_
    refine r_aload_n C 0 rfl dX6_map_207 rfl ?_
    obtain ⟨r25, qr25, h⟩ := bd_i h
    refine q_callV C 9 0 0 (c_side qr25) rfl mw_self rfl ok_side in_side lk6_111 rfl (Nat.le_of_ble_eq_true rfl) ⟨Nat.le_of_ble_eq_true rfl, Nat.le_of_ble_eq_true rfl⟩ dX6_map_208 rfl rfl ?_
    refine r_iload_n C 2 rfl dX6_map_211 rfl ?_
    refine r_iadd C dX6_map_212 ?_
    obtain ⟨r26, qr26, h⟩ := bd_i h
    refine q_callV C 7 0 0 (c_at qr26) rfl mw_self rfl ok_at in_at lk6_94 rfl (Nat.le_of_ble_eq_true rfl) ⟨Nat.le_of_ble_eq_true rfl, Nat.le_of_ble_eq_true rfl⟩ dX6_map_213 rfl rfl ?_
    obtain ⟨r27, qr27, h⟩ := bd_i h
    refine q_callV C 4 0 0 (c_times qr27) rfl mw_self rfl ok_times in_times lk6_76 rfl (Nat.le_of_ble_eq_true rfl) ⟨Nat.le_of_ble_eq_true rfl, Nat.le_of_ble_eq_true rfl⟩ dX6_map_216 rfl rfl ?_
    refine r_ladd C dX6_map_219 ?_
    refine r_aload_n C 0 rfl dX6_map_220 rfl ?_
    refine m_g_p C dX6_map_221 ?_
    obtain ⟨hne, h⟩ := gd_n h
    refine r_lrem C dX6_map_224 hne ?_
    obtain ⟨hi, h⟩ := gd_t h
    refine m_s_draft C hi dX6_map_225 ?_
    refine r_iinc C (v := s.1 + 1) (lv' := [(3, .int (s.1 + 1)), (0, .ref h0), (1, .int l1), (2, .int l2)]) 3 rfl dX6_map_226 rfl (by decide) rfl ?_
    refine r_goto C (tgt := 158) dX6_map_229 (by decide) ?_
    refine r_lv [1, 2, 3, 0] rfl ?_
    exact kl _ (sm_i h)
set_option maxHeartbeats 4000000 in
set_option maxRecDepth 100000 in
theorem w_map_L148 {K : kT} {O : oT} (C : aC K cX6_map RX6 "map" 5 95 0 0 4 (some .int) O) {h0 : Nat} {hp : cH} {sz : Nat} {n : Int32} {p : Int64} {count : Int32} {sorts : Nat → Int32} {rows : Nat → Int64} {hand : Nat → Int64} {gathered : Int32} {gather : Nat → Int32} {paired : Int32} {pairA : Nat → Int32} {pairB : Nat → Int32} {ideal : Int32} {frame : Nat → Int64} {one : Nat → Int64} {two : Nat → Int64} {turned : Nat → Int64} {placeI : Int32} {placeJ : Int32} {formA : Int64} {formB : Int64} {formC : Int64} {l1 : Int32} {v0 : Int32} {v1 : Nat → Int64} {r : (Nat → Int64)} (h : itX (m_map_L148 n p frame two l1) (v0, v1) = some r) (hr : aW K (mw h0 hp n p count sorts rows hand gathered gather paired pairA pairB ideal r frame one two turned placeI placeJ formA formB formC) sz 0 0 238 [(0, .ref h0), (1, .int l1)] []) : aW K (mw h0 hp n p count sorts rows hand gathered gather paired pairA pairB ideal v1 frame one two turned placeI placeJ formA formB formC) sz 0 0 148 [(0, .ref h0), (1, .int l1), (2, .int v0)] [] := by
  refine it_walk (f := m_map_L148 n p frame two l1) (P := fun s => aW K (mw h0 hp n p count sorts rows hand gathered gather paired pairA pairB ideal s.2 frame one two turned placeI placeJ formA formB formC) sz 0 0 148 [(0, .ref h0), (1, .int l1), (2, .int s.1)] []) (R := fun r => aW K (mw h0 hp n p count sorts rows hand gathered gather paired pairA pairB ideal r frame one two turned placeI placeJ formA formB formC) sz 0 0 238 [(0, .ref h0), (1, .int l1)] []) ?_ h hr
  clear h hr
  intro s x h kl kr
  unfold m_map_L148 at h
  refine r_iload_n C 2 rfl dX6_map_148 rfl ?_
  refine r_aload_n C 0 rfl dX6_map_149 rfl ?_
  obtain ⟨r20, qr20, h⟩ := bd_i h
  refine q_callV C 1 0 0 (c_side qr20) rfl mw_self rfl ok_side in_side lk6_111 rfl (Nat.le_of_ble_eq_true rfl) ⟨Nat.le_of_ble_eq_true rfl, Nat.le_of_ble_eq_true rfl⟩ dX6_map_150 rfl rfl ?_
  refine r_icmp_ge C (tgt := 238) dX6_map_153 (by decide) (fun hc => ?_) (fun hc => ?_)
  · replace h := br_p hc h
    refine r_lv [0, 1] rfl ?_
    exact kr _ (sm_i h)
  · replace h := br_n hc h
    refine r_iconst C (v := 0) dX6_map_156 (by decide) ?_
    refine r_istore_n C (lv' := [(3, .int ((0 : Int32))), (0, .ref h0), (1, .int l1), (2, .int s.1)]) dX6_map_157 rfl (by decide) rfl ?_
    refine r_lv [1, 2, 3, 0] rfl ?_
    obtain ⟨r28, qr28, h⟩ := bd_i h
    refine w_map_L158 C qr28 ?_
    refine r_iinc C (v := s.1 + 1) (lv' := [(2, .int (s.1 + 1)), (0, .ref h0), (1, .int l1)]) 2 rfl dX6_map_232 rfl (by decide) rfl ?_
    refine r_goto C (tgt := 148) dX6_map_235 (by decide) ?_
    refine r_lv [1, 2, 0] rfl ?_
    exact kl _ (sm_i h)
set_option maxHeartbeats 4000000 in
set_option maxRecDepth 100000 in
theorem w_map_L138 {K : kT} {O : oT} (C : aC K cX6_map RX6 "map" 5 95 0 0 4 (some .int) O) {h0 : Nat} {hp : cH} {sz : Nat} {n : Int32} {p : Int64} {count : Int32} {sorts : Nat → Int32} {rows : Nat → Int64} {hand : Nat → Int64} {gathered : Int32} {gather : Nat → Int32} {paired : Int32} {pairA : Nat → Int32} {pairB : Nat → Int32} {ideal : Int32} {frame : Nat → Int64} {one : Nat → Int64} {two : Nat → Int64} {turned : Nat → Int64} {placeI : Int32} {placeJ : Int32} {formA : Int64} {formB : Int64} {formC : Int64}  {v0 : Int32} {v1 : Nat → Int64} {r : (Nat → Int64)} (h : itX (m_map_L138 n p frame two) (v0, v1) = some r) (hr : aW K (mw h0 hp n p count sorts rows hand gathered gather paired pairA pairB ideal r frame one two turned placeI placeJ formA formB formC) sz 0 0 244 [(0, .ref h0)] []) : aW K (mw h0 hp n p count sorts rows hand gathered gather paired pairA pairB ideal v1 frame one two turned placeI placeJ formA formB formC) sz 0 0 138 [(0, .ref h0), (1, .int v0)] [] := by
  refine it_walk (f := m_map_L138 n p frame two) (P := fun s => aW K (mw h0 hp n p count sorts rows hand gathered gather paired pairA pairB ideal s.2 frame one two turned placeI placeJ formA formB formC) sz 0 0 138 [(0, .ref h0), (1, .int s.1)] []) (R := fun r => aW K (mw h0 hp n p count sorts rows hand gathered gather paired pairA pairB ideal r frame one two turned placeI placeJ formA formB formC) sz 0 0 244 [(0, .ref h0)] []) ?_ h hr
  clear h hr
  intro s x h kl kr
  unfold m_map_L138 at h
  refine r_iload_n C 1 rfl dX6_map_138 rfl ?_
  refine r_aload_n C 0 rfl dX6_map_139 rfl ?_
  obtain ⟨r19, qr19, h⟩ := bd_i h
  refine q_callV C 1 0 0 (c_side qr19) rfl mw_self rfl ok_side in_side lk6_111 rfl (Nat.le_of_ble_eq_true rfl) ⟨Nat.le_of_ble_eq_true rfl, Nat.le_of_ble_eq_true rfl⟩ dX6_map_140 rfl rfl ?_
  refine r_icmp_ge C (tgt := 244) dX6_map_143 (by decide) (fun hc => ?_) (fun hc => ?_)
  · replace h := br_p hc h
    refine r_lv [0] rfl ?_
    exact kr _ (sm_i h)
  · replace h := br_n hc h
    refine r_iconst C (v := 0) dX6_map_146 (by decide) ?_
    refine r_istore_n C (lv' := [(2, .int ((0 : Int32))), (0, .ref h0), (1, .int s.1)]) dX6_map_147 rfl (by decide) rfl ?_
    refine r_lv [1, 2, 0] rfl ?_
    obtain ⟨r29, qr29, h⟩ := bd_i h
    refine w_map_L148 C qr29 ?_
    refine r_iinc C (v := s.1 + 1) (lv' := [(1, .int (s.1 + 1)), (0, .ref h0)]) 1 rfl dX6_map_238 rfl (by decide) rfl ?_
    refine r_goto C (tgt := 138) dX6_map_241 (by decide) ?_
    refine r_lv [1, 0] rfl ?_
    exact kl _ (sm_i h)
set_option maxHeartbeats 4000000 in
set_option maxRecDepth 100000 in
theorem c_map {G : gT} {h0 : Nat} {hp : cH} {sz : Nat} {n : Int32} {p : Int64} {count : Int32} {sorts : Nat → Int32} {rows : Nat → Int64} {hand : Nat → Int64} {gathered : Int32} {gather : Nat → Int32} {paired : Int32} {pairA : Nat → Int32} {pairB : Nat → Int32} {ideal : Int32} {draft : Nat → Int64} {frame : Nat → Int64} {one : Nat → Int64} {two : Nat → Int64} {turned : Nat → Int64} {placeI : Int32} {placeJ : Int32} {formA : Int64} {formB : Int64} {formC : Int64}  {out : (Int32 × Int32 × (Nat → Int32) × (Nat → Int64) × Int32 × (Nat → Int64) × (Nat → Int64) × (Nat → Int64) × (Nat → Int64))} (h : m_map n p count sorts rows paired pairA pairB draft frame one two  = some out) : aM G yX6_map cX6_map 4 (some .int) 5 95 0 0 [.ref h0] (mw h0 hp n p count sorts rows hand gathered gather paired pairA pairB ideal draft frame one two turned placeI placeJ formA formB formC) sz ((some (.int out.1), mw h0 hp n p out.2.1 out.2.2.1 out.2.2.2.1 hand gathered gather out.2.2.2.2.1 pairA pairB ideal out.2.2.2.2.2.1 out.2.2.2.2.2.2.1 out.2.2.2.2.2.2.2.1 out.2.2.2.2.2.2.2.2 turned placeI placeJ formA formB formC, sz) : oT) := by
  refine aM.of RX6 (by decide) rfl (Nat.le_of_ble_eq_true rfl) (fun K C => ?_)
  have hO : ((some (.int out.1), mw h0 hp n p out.2.1 out.2.2.1 out.2.2.2.1 hand gathered gather out.2.2.2.2.1 pairA pairB ideal out.2.2.2.2.2.1 out.2.2.2.2.2.2.1 out.2.2.2.2.2.2.2.1 out.2.2.2.2.2.2.2.2 turned placeI placeJ formA formB formC, sz) : oT) = ((some (.int out.1), mw h0 hp n p out.2.1 out.2.2.1 out.2.2.2.1 hand gathered gather out.2.2.2.2.1 pairA pairB ideal out.2.2.2.2.2.1 out.2.2.2.2.2.2.1 out.2.2.2.2.2.2.2.1 out.2.2.2.2.2.2.2.2 turned placeI placeJ formA formB formC, sz) : oT) := rfl
  refine r_lve (lv' := [(0, .ref h0)]) rfl ?_
  unfold m_map at h
  refine r_aload_n C 0 rfl dX6_map_0 rfl ?_
  refine m_g_paired C dX6_map_1 ?_
  refine r_aload_n C 0 rfl dX6_map_4 rfl ?_
  refine m_g_n C dX6_map_5 ?_
  refine r_iconst C (v := 2) dX6_map_8 (by decide) ?_
  refine r_iadd C dX6_map_9 ?_
  refine r_icmp_ne C (tgt := 29) dX6_map_10 (by decide) (fun hc => ?_) (fun hc => ?_)
  · replace h := br_n hc h
    refine r_iconst C (v := -1) dX6_map_29 (by decide) ?_
    obtain rfl := sm_i h
    exact r_ireturn C (Eq.symm hO) dX6_map_30
  · replace h := br_p hc h
    refine r_aload_n C 0 rfl dX6_map_13 rfl ?_
    refine r_iconst C (v := 1) dX6_map_14 (by decide) ?_
    obtain ⟨r1, qr1, h⟩ := bd_i h
    refine q_callV C 0 0 0 (c_isWide qr1) rfl mw_self rfl ok_isWide in_isWide lk6_229 rfl (Nat.le_of_ble_eq_true rfl) ⟨Nat.le_of_ble_eq_true rfl, Nat.le_of_ble_eq_true rfl⟩ dX6_map_15 rfl rfl ?_
    refine r_if_eq C (tgt := 29) dX6_map_18 (by decide) (fun hc => ?_) (fun hc => ?_)
    · replace h := br_p hc h
      refine r_iconst C (v := -1) dX6_map_29 (by decide) ?_
      obtain rfl := sm_i h
      exact r_ireturn C (Eq.symm hO) dX6_map_30
    · replace h := br_n hc h
      refine r_aload_n C 0 rfl dX6_map_21 rfl ?_
      refine r_iconst C (v := 0) dX6_map_22 (by decide) ?_
      obtain ⟨r2, qr2, h⟩ := bd_i h
      refine q_callV C 0 0 0 (c_isWide qr2) rfl mw_self rfl ok_isWide in_isWide lk6_229 rfl (Nat.le_of_ble_eq_true rfl) ⟨Nat.le_of_ble_eq_true rfl, Nat.le_of_ble_eq_true rfl⟩ dX6_map_23 rfl rfl ?_
      refine r_if_ne C (tgt := 31) dX6_map_26 (by decide) (fun hc => ?_) (fun hc => ?_)
      · replace h := br_n hc h
        refine r_aload_n C 0 rfl dX6_map_31 rfl ?_
        refine r_iconst C (v := 1) dX6_map_32 (by decide) ?_
        obtain ⟨r3, qr3, h⟩ := bd_i h
        refine q_callVv C 0 0 0 (c_columns qr3) rfl mw_self rfl ok_columns in_columns lk6_233 rfl (Nat.le_of_ble_eq_true rfl) ⟨Nat.le_of_ble_eq_true rfl, Nat.le_of_ble_eq_true rfl⟩ dX6_map_33 rfl rfl ?_
        refine r_aload_n C 0 rfl dX6_map_36 rfl ?_
        refine r_iconst C (v := 0) dX6_map_37 (by decide) ?_
        obtain ⟨r4, qr4, h⟩ := bd_i h
        refine q_callVv C 0 0 0 (c_columns qr4) rfl mw_self rfl ok_columns in_columns lk6_233 rfl (Nat.le_of_ble_eq_true rfl) ⟨Nat.le_of_ble_eq_true rfl, Nat.le_of_ble_eq_true rfl⟩ dX6_map_38 rfl rfl ?_
        refine r_iconst C (v := 0) dX6_map_41 (by decide) ?_
        refine r_istore_n C (lv' := [(1, .int ((0 : Int32))), (0, .ref h0)]) dX6_map_42 rfl (by decide) rfl ?_
        refine r_lv [1, 0] rfl ?_
        obtain ⟨r13, qr13, h⟩ := bd_i h
        refine w_map_L43 C qr13 ?_
        refine r_aload_n C 0 rfl dX6_map_113 rfl ?_
        refine r_aload_n C 0 rfl dX6_map_114 rfl ?_
        obtain ⟨r14, qr14, h⟩ := bd_i h
        refine q_callV C 1 0 0 (c_side qr14) rfl mw_self rfl ok_side in_side lk6_111 rfl (Nat.le_of_ble_eq_true rfl) ⟨Nat.le_of_ble_eq_true rfl, Nat.le_of_ble_eq_true rfl⟩ dX6_map_115 rfl rfl ?_
        refine r_iconst C (v := 2) dX6_map_118 (by decide) ?_
        refine r_aload_n C 0 rfl dX6_map_119 rfl ?_
        obtain ⟨r15, qr15, h⟩ := bd_i h
        refine q_callV C 3 0 0 (c_side qr15) rfl mw_self rfl ok_side in_side lk6_111 rfl (Nat.le_of_ble_eq_true rfl) ⟨Nat.le_of_ble_eq_true rfl, Nat.le_of_ble_eq_true rfl⟩ dX6_map_120 rfl rfl ?_
        refine r_imul C dX6_map_123 ?_
        refine r_aload_n C 0 rfl dX6_map_124 rfl ?_
        obtain ⟨r16, qr16, h⟩ := bd_i h
        refine q_callV C 3 0 0 (c_side qr16) rfl mw_self rfl ok_side in_side lk6_111 rfl (Nat.le_of_ble_eq_true rfl) ⟨Nat.le_of_ble_eq_true rfl, Nat.le_of_ble_eq_true rfl⟩ dX6_map_125 rfl rfl ?_
        obtain ⟨r17, qr17, h⟩ := bd_i h
        refine q_callV C 0 0 0 (c_reduce qr17) rfl mw_self rfl ok_reduce in_reduce lk6_115 rfl (Nat.le_of_ble_eq_true rfl) ⟨Nat.le_of_ble_eq_true rfl, Nat.le_of_ble_eq_true rfl⟩ dX6_map_128 rfl rfl ?_
        refine r_pop C dX6_map_131 rfl ?_
        refine r_aload_n C 0 rfl dX6_map_132 rfl ?_
        obtain ⟨r18, qr18, h⟩ := bd_i h
        refine q_callVv C 0 0 0 (c_clear qr18) rfl mw_self rfl ok_clear in_clear lk6_136 rfl (Nat.le_of_ble_eq_true rfl) ⟨Nat.le_of_ble_eq_true rfl, Nat.le_of_ble_eq_true rfl⟩ dX6_map_133 rfl rfl ?_
        refine r_iconst C (v := 0) dX6_map_136 (by decide) ?_
        refine r_istore_n C (lv' := [(1, .int ((0 : Int32))), (0, .ref h0)]) dX6_map_137 rfl (by decide) rfl ?_
        refine r_lv [1, 0] rfl ?_
        obtain ⟨r30, qr30, h⟩ := bd_i h
        refine w_map_L138 C qr30 ?_
        refine r_aload_n C 0 rfl dX6_map_244 rfl ?_
        refine r_iconst C (v := 3) dX6_map_245 (by decide) ?_
        obtain ⟨r31, qr31, h⟩ := bd_i h
        refine q_callV C 0 0 0 (c_made qr31) rfl mw_self rfl ok_made in_made lk6_133 rfl (Nat.le_of_ble_eq_true rfl) ⟨Nat.le_of_ble_eq_true rfl, Nat.le_of_ble_eq_true rfl⟩ dX6_map_246 rfl rfl ?_
        refine r_istore_n C (lv' := [(1, .int r31.1), (0, .ref h0)]) dX6_map_249 rfl (by decide) rfl ?_
        refine r_aload_n C 1 rfl dX6_map_250 rfl ?_
        refine r_iload_n C 0 rfl dX6_map_251 rfl ?_
        refine r_if_ge C (tgt := 262) dX6_map_252 (by decide) (fun hc => ?_) (fun hc => ?_)
        · replace h := br_p hc h
          refine r_iconst C (v := 0) dX6_map_262 (by decide) ?_
          refine m_p_paired C dX6_map_263 ?_
          refine r_iload_n C 0 rfl dX6_map_266 rfl ?_
          obtain rfl := sm_i h
          exact r_ireturn C (Eq.symm hO) dX6_map_267
        · replace h := br_n hc h
          refine r_aload_n C 1 rfl dX6_map_255 rfl ?_
          refine m_g_paired C dX6_map_256 ?_
          refine r_goto C (tgt := 263) dX6_map_259 (by decide) ?_
          refine m_p_paired C dX6_map_263 ?_
          refine r_iload_n C 0 rfl dX6_map_266 rfl ?_
          obtain rfl := sm_i h
          exact r_ireturn C (Eq.symm hO) dX6_map_267
      · replace h := br_p hc h
        refine r_iconst C (v := -1) dX6_map_29 (by decide) ?_
        obtain rfl := sm_i h
        exact r_ireturn C (Eq.symm hO) dX6_map_30
noncomputable def m_product_L29 (n : Int32) (p : Int64) (rows : Nat → Int64) (l1 : Int32) (l2 : Int32) (l3 : Int32) (l4 : Int32) (s : (Int32 × (Nat → Int64))) : Option ((Int32 × (Nat → Int64)) ⊕ (Nat → Int64)) := (m_side n).bind fun r4 => if r4 ≤ s.1 then (some (.inr s.2)) else ((m_side n).bind fun r5 => (m_side n).bind fun r6 => if gi ((l3 * r6) + l4) 16 then (m_side n).bind fun r7 => (m_of rows l1 ((l3 * r7) + s.1)).bind fun r8 => (m_side n).bind fun r9 => (m_of rows l2 ((s.1 * r9) + l4)).bind fun r10 => (m_times p r8 r10).bind fun r11 => if p = 0 then none else if gi ((l3 * r5) + l4) 16 then some (.inl (s.1 + 1, vp_updL s.2 ((l3 * r5) + l4).toNatClampNeg (((s.2 ((l3 * r6) + l4).toNatClampNeg) + r11) - ((s.2 ((l3 * r6) + l4).toNatClampNeg) + r11) / p * p))) else none else none)
noncomputable def m_product_L17 (n : Int32) (p : Int64) (rows : Nat → Int64) (l1 : Int32) (l2 : Int32) (l3 : Int32) (s : (Int32 × (Nat → Int64))) : Option ((Int32 × (Nat → Int64)) ⊕ (Nat → Int64)) := (m_side n).bind fun r3 => if r3 ≤ s.1 then (some (.inr s.2)) else ((itX (m_product_L29 n p rows l1 l2 l3 s.1) ((0 : Int32), s.2)).bind fun r12 => some (.inl (s.1 + 1, r12)))
noncomputable def m_product_L6 (n : Int32) (p : Int64) (rows : Nat → Int64) (l1 : Int32) (l2 : Int32) (s : (Int32 × (Nat → Int64))) : Option ((Int32 × (Nat → Int64)) ⊕ (Nat → Int64)) := (m_side n).bind fun r2 => if r2 ≤ s.1 then (some (.inr s.2)) else ((itX (m_product_L17 n p rows l1 l2 s.1) ((0 : Int32), s.2)).bind fun r13 => some (.inl (s.1 + 1, r13)))
noncomputable def m_product (n : Int32) (p : Int64) (rows : Nat → Int64) (draft : Nat → Int64) (x1 : Int32) (x2 : Int32) : Option (Nat → Int64) := (m_clear draft).bind fun r1 => (itX (m_product_L6 n p rows x1 x2) ((0 : Int32), r1)).bind fun r14 => some r14
set_option maxHeartbeats 4000000 in
set_option maxRecDepth 100000 in
theorem w_product_L29 {K : kT} {O : oT} (C : aC K cX6_product RX6 "product" 1 22 0 0 6 none O) {h0 : Nat} {hp : cH} {sz : Nat} {n : Int32} {p : Int64} {count : Int32} {sorts : Nat → Int32} {rows : Nat → Int64} {hand : Nat → Int64} {gathered : Int32} {gather : Nat → Int32} {paired : Int32} {pairA : Nat → Int32} {pairB : Nat → Int32} {ideal : Int32} {frame : Nat → Int64} {one : Nat → Int64} {two : Nat → Int64} {turned : Nat → Int64} {placeI : Int32} {placeJ : Int32} {formA : Int64} {formB : Int64} {formC : Int64} {l1 : Int32} {l2 : Int32} {l3 : Int32} {l4 : Int32} {v0 : Int32} {v1 : Nat → Int64} {r : (Nat → Int64)} (h : itX (m_product_L29 n p rows l1 l2 l3 l4) (v0, v1) = some r) (hr : aW K (mw h0 hp n p count sorts rows hand gathered gather paired pairA pairB ideal r frame one two turned placeI placeJ formA formB formC) sz 0 0 111 [(0, .ref h0), (1, .int l1), (2, .int l2), (3, .int l3), (4, .int l4)] []) : aW K (mw h0 hp n p count sorts rows hand gathered gather paired pairA pairB ideal v1 frame one two turned placeI placeJ formA formB formC) sz 0 0 29 [(0, .ref h0), (1, .int l1), (2, .int l2), (3, .int l3), (4, .int l4), (5, .int v0)] [] := by
  refine it_walk (f := m_product_L29 n p rows l1 l2 l3 l4) (P := fun s => aW K (mw h0 hp n p count sorts rows hand gathered gather paired pairA pairB ideal s.2 frame one two turned placeI placeJ formA formB formC) sz 0 0 29 [(0, .ref h0), (1, .int l1), (2, .int l2), (3, .int l3), (4, .int l4), (5, .int s.1)] []) (R := fun r => aW K (mw h0 hp n p count sorts rows hand gathered gather paired pairA pairB ideal r frame one two turned placeI placeJ formA formB formC) sz 0 0 111 [(0, .ref h0), (1, .int l1), (2, .int l2), (3, .int l3), (4, .int l4)] []) ?_ h hr
  clear h hr
  intro s x h kl kr
  unfold m_product_L29 at h
  refine r_iload C 5 rfl dX6_product_29 ?_
  refine r_aload_n C 0 rfl dX6_product_31 rfl ?_
  obtain ⟨r4, qr4, h⟩ := bd_i h
  refine q_callV C 1 0 0 (c_side qr4) rfl mw_self rfl ok_side in_side lk6_111 rfl (Nat.le_of_ble_eq_true rfl) ⟨Nat.le_of_ble_eq_true rfl, Nat.le_of_ble_eq_true rfl⟩ dX6_product_32 rfl rfl ?_
  refine r_icmp_ge C (tgt := 111) dX6_product_35 (by decide) (fun hc => ?_) (fun hc => ?_)
  · replace h := br_p hc h
    refine r_lv [0, 1, 2, 3, 4] rfl ?_
    exact kr _ (sm_i h)
  · replace h := br_n hc h
    refine r_aload_n C 0 rfl dX6_product_38 rfl ?_
    refine m_g_draft C dX6_product_39 ?_
    refine r_iload_n C 3 rfl dX6_product_42 rfl ?_
    refine r_aload_n C 0 rfl dX6_product_43 rfl ?_
    obtain ⟨r5, qr5, h⟩ := bd_i h
    refine q_callV C 2 0 0 (c_side qr5) rfl mw_self rfl ok_side in_side lk6_111 rfl (Nat.le_of_ble_eq_true rfl) ⟨Nat.le_of_ble_eq_true rfl, Nat.le_of_ble_eq_true rfl⟩ dX6_product_44 rfl rfl ?_
    refine r_imul C dX6_product_47 ?_
    refine r_iload C 4 rfl dX6_product_48 ?_
    refine r_iadd C dX6_product_50 ?_
    refine r_aload_n C 0 rfl dX6_product_51 rfl ?_
    refine m_g_draft C dX6_product_52 ?_
    refine r_iload_n C 3 rfl dX6_product_55 rfl ?_
    refine r_aload_n C 0 rfl dX6_product_56 rfl ?_
    obtain ⟨r6, qr6, h⟩ := bd_i h
    refine q_callV C 4 0 0 (c_side qr6) rfl mw_self rfl ok_side in_side lk6_111 rfl (Nat.le_of_ble_eq_true rfl) ⟨Nat.le_of_ble_eq_true rfl, Nat.le_of_ble_eq_true rfl⟩ dX6_product_57 rfl rfl ?_
    refine r_imul C dX6_product_60 ?_
    refine r_iload C 4 rfl dX6_product_61 ?_
    refine r_iadd C dX6_product_63 ?_
    obtain ⟨hi, h⟩ := gd_t h
    refine m_l_draft C hi dX6_product_64 ?_
    refine r_aload_n C 0 rfl dX6_product_65 rfl ?_
    refine r_aload_n C 0 rfl dX6_product_66 rfl ?_
    refine r_iload_n C 1 rfl dX6_product_67 rfl ?_
    refine r_iload_n C 3 rfl dX6_product_68 rfl ?_
    refine r_aload_n C 0 rfl dX6_product_69 rfl ?_
    obtain ⟨r7, qr7, h⟩ := bd_i h
    refine q_callV C 8 0 0 (c_side qr7) rfl mw_self rfl ok_side in_side lk6_111 rfl (Nat.le_of_ble_eq_true rfl) ⟨Nat.le_of_ble_eq_true rfl, Nat.le_of_ble_eq_true rfl⟩ dX6_product_70 rfl rfl ?_
    refine r_imul C dX6_product_73 ?_
    refine r_iload C 5 rfl dX6_product_74 ?_
    refine r_iadd C dX6_product_76 ?_
    obtain ⟨r8, qr8, h⟩ := bd_i h
    refine q_callV C 5 0 0 (c_of qr8) rfl mw_self rfl ok_of in_of lk6_108 rfl (Nat.le_of_ble_eq_true rfl) ⟨Nat.le_of_ble_eq_true rfl, Nat.le_of_ble_eq_true rfl⟩ dX6_product_77 rfl rfl ?_
    refine r_aload_n C 0 rfl dX6_product_80 rfl ?_
    refine r_iload_n C 2 rfl dX6_product_81 rfl ?_
    refine r_iload C 5 rfl dX6_product_82 ?_
    refine r_aload_n C 0 rfl dX6_product_84 rfl ?_
    obtain ⟨r9, qr9, h⟩ := bd_i h
    refine q_callV C 10 0 0 (c_side qr9) rfl mw_self rfl ok_side in_side lk6_111 rfl (Nat.le_of_ble_eq_true rfl) ⟨Nat.le_of_ble_eq_true rfl, Nat.le_of_ble_eq_true rfl⟩ dX6_product_85 rfl rfl ?_
    refine r_imul C dX6_product_88 ?_
    refine r_iload C 4 rfl dX6_product_89 ?_
    refine r_iadd C dX6_product_91 ?_
    obtain ⟨r10, qr10, h⟩ := bd_i h
    refine q_callV C 7 0 0 (c_of qr10) rfl mw_self rfl ok_of in_of lk6_108 rfl (Nat.le_of_ble_eq_true rfl) ⟨Nat.le_of_ble_eq_true rfl, Nat.le_of_ble_eq_true rfl⟩ dX6_product_92 rfl rfl ?_
    obtain ⟨r11, qr11, h⟩ := bd_i h
    refine q_callV C 4 0 0 (c_times qr11) rfl mw_self rfl ok_times in_times lk6_76 rfl (Nat.le_of_ble_eq_true rfl) ⟨Nat.le_of_ble_eq_true rfl, Nat.le_of_ble_eq_true rfl⟩ dX6_product_95 rfl rfl ?_
    refine r_ladd C dX6_product_98 ?_
    refine r_aload_n C 0 rfl dX6_product_99 rfl ?_
    refine m_g_p C dX6_product_100 ?_
    obtain ⟨hne, h⟩ := gd_n h
    refine r_lrem C dX6_product_103 hne ?_
    obtain ⟨hi, h⟩ := gd_t h
    refine m_s_draft C hi dX6_product_104 ?_
    refine r_iinc C (v := s.1 + 1) (lv' := [(5, .int (s.1 + 1)), (0, .ref h0), (1, .int l1), (2, .int l2), (3, .int l3), (4, .int l4)]) 5 rfl dX6_product_105 rfl (by decide) rfl ?_
    refine r_goto C (tgt := 29) dX6_product_108 (by decide) ?_
    refine r_lv [1, 2, 3, 4, 5, 0] rfl ?_
    exact kl _ (sm_i h)
set_option maxHeartbeats 4000000 in
set_option maxRecDepth 100000 in
theorem w_product_L17 {K : kT} {O : oT} (C : aC K cX6_product RX6 "product" 1 22 0 0 6 none O) {h0 : Nat} {hp : cH} {sz : Nat} {n : Int32} {p : Int64} {count : Int32} {sorts : Nat → Int32} {rows : Nat → Int64} {hand : Nat → Int64} {gathered : Int32} {gather : Nat → Int32} {paired : Int32} {pairA : Nat → Int32} {pairB : Nat → Int32} {ideal : Int32} {frame : Nat → Int64} {one : Nat → Int64} {two : Nat → Int64} {turned : Nat → Int64} {placeI : Int32} {placeJ : Int32} {formA : Int64} {formB : Int64} {formC : Int64} {l1 : Int32} {l2 : Int32} {l3 : Int32} {v0 : Int32} {v1 : Nat → Int64} {r : (Nat → Int64)} (h : itX (m_product_L17 n p rows l1 l2 l3) (v0, v1) = some r) (hr : aW K (mw h0 hp n p count sorts rows hand gathered gather paired pairA pairB ideal r frame one two turned placeI placeJ formA formB formC) sz 0 0 117 [(0, .ref h0), (1, .int l1), (2, .int l2), (3, .int l3)] []) : aW K (mw h0 hp n p count sorts rows hand gathered gather paired pairA pairB ideal v1 frame one two turned placeI placeJ formA formB formC) sz 0 0 17 [(0, .ref h0), (1, .int l1), (2, .int l2), (3, .int l3), (4, .int v0)] [] := by
  refine it_walk (f := m_product_L17 n p rows l1 l2 l3) (P := fun s => aW K (mw h0 hp n p count sorts rows hand gathered gather paired pairA pairB ideal s.2 frame one two turned placeI placeJ formA formB formC) sz 0 0 17 [(0, .ref h0), (1, .int l1), (2, .int l2), (3, .int l3), (4, .int s.1)] []) (R := fun r => aW K (mw h0 hp n p count sorts rows hand gathered gather paired pairA pairB ideal r frame one two turned placeI placeJ formA formB formC) sz 0 0 117 [(0, .ref h0), (1, .int l1), (2, .int l2), (3, .int l3)] []) ?_ h hr
  clear h hr
  intro s x h kl kr
  unfold m_product_L17 at h
  refine r_iload C 4 rfl dX6_product_17 ?_
  refine r_aload_n C 0 rfl dX6_product_19 rfl ?_
  obtain ⟨r3, qr3, h⟩ := bd_i h
  refine q_callV C 1 0 0 (c_side qr3) rfl mw_self rfl ok_side in_side lk6_111 rfl (Nat.le_of_ble_eq_true rfl) ⟨Nat.le_of_ble_eq_true rfl, Nat.le_of_ble_eq_true rfl⟩ dX6_product_20 rfl rfl ?_
  refine r_icmp_ge C (tgt := 117) dX6_product_23 (by decide) (fun hc => ?_) (fun hc => ?_)
  · replace h := br_p hc h
    refine r_lv [0, 1, 2, 3] rfl ?_
    exact kr _ (sm_i h)
  · replace h := br_n hc h
    refine r_iconst C (v := 0) dX6_product_26 (by decide) ?_
    refine r_istore C (lv' := [(5, .int ((0 : Int32))), (0, .ref h0), (1, .int l1), (2, .int l2), (3, .int l3), (4, .int s.1)]) dX6_product_27 (by decide) rfl ?_
    refine r_lv [1, 2, 3, 4, 5, 0] rfl ?_
    obtain ⟨r12, qr12, h⟩ := bd_i h
    refine w_product_L29 C qr12 ?_
    refine r_iinc C (v := s.1 + 1) (lv' := [(4, .int (s.1 + 1)), (0, .ref h0), (1, .int l1), (2, .int l2), (3, .int l3)]) 4 rfl dX6_product_111 rfl (by decide) rfl ?_
    refine r_goto C (tgt := 17) dX6_product_114 (by decide) ?_
    refine r_lv [1, 2, 3, 4, 0] rfl ?_
    exact kl _ (sm_i h)
set_option maxHeartbeats 4000000 in
set_option maxRecDepth 100000 in
theorem w_product_L6 {K : kT} {O : oT} (C : aC K cX6_product RX6 "product" 1 22 0 0 6 none O) {h0 : Nat} {hp : cH} {sz : Nat} {n : Int32} {p : Int64} {count : Int32} {sorts : Nat → Int32} {rows : Nat → Int64} {hand : Nat → Int64} {gathered : Int32} {gather : Nat → Int32} {paired : Int32} {pairA : Nat → Int32} {pairB : Nat → Int32} {ideal : Int32} {frame : Nat → Int64} {one : Nat → Int64} {two : Nat → Int64} {turned : Nat → Int64} {placeI : Int32} {placeJ : Int32} {formA : Int64} {formB : Int64} {formC : Int64} {l1 : Int32} {l2 : Int32} {v0 : Int32} {v1 : Nat → Int64} {r : (Nat → Int64)} (h : itX (m_product_L6 n p rows l1 l2) (v0, v1) = some r) (hr : aW K (mw h0 hp n p count sorts rows hand gathered gather paired pairA pairB ideal r frame one two turned placeI placeJ formA formB formC) sz 0 0 123 [] []) : aW K (mw h0 hp n p count sorts rows hand gathered gather paired pairA pairB ideal v1 frame one two turned placeI placeJ formA formB formC) sz 0 0 6 [(0, .ref h0), (1, .int l1), (2, .int l2), (3, .int v0)] [] := by
  refine it_walk (f := m_product_L6 n p rows l1 l2) (P := fun s => aW K (mw h0 hp n p count sorts rows hand gathered gather paired pairA pairB ideal s.2 frame one two turned placeI placeJ formA formB formC) sz 0 0 6 [(0, .ref h0), (1, .int l1), (2, .int l2), (3, .int s.1)] []) (R := fun r => aW K (mw h0 hp n p count sorts rows hand gathered gather paired pairA pairB ideal r frame one two turned placeI placeJ formA formB formC) sz 0 0 123 [] []) ?_ h hr
  clear h hr
  intro s x h kl kr
  unfold m_product_L6 at h
  refine r_iload_n C 3 rfl dX6_product_6 rfl ?_
  refine r_aload_n C 0 rfl dX6_product_7 rfl ?_
  obtain ⟨r2, qr2, h⟩ := bd_i h
  refine q_callV C 1 0 0 (c_side qr2) rfl mw_self rfl ok_side in_side lk6_111 rfl (Nat.le_of_ble_eq_true rfl) ⟨Nat.le_of_ble_eq_true rfl, Nat.le_of_ble_eq_true rfl⟩ dX6_product_8 rfl rfl ?_
  refine r_icmp_ge C (tgt := 123) dX6_product_11 (by decide) (fun hc => ?_) (fun hc => ?_)
  · replace h := br_p hc h
    refine r_lv [] rfl ?_
    exact kr _ (sm_i h)
  · replace h := br_n hc h
    refine r_iconst C (v := 0) dX6_product_14 (by decide) ?_
    refine r_istore C (lv' := [(4, .int ((0 : Int32))), (0, .ref h0), (1, .int l1), (2, .int l2), (3, .int s.1)]) dX6_product_15 (by decide) rfl ?_
    refine r_lv [1, 2, 3, 4, 0] rfl ?_
    obtain ⟨r13, qr13, h⟩ := bd_i h
    refine w_product_L17 C qr13 ?_
    refine r_iinc C (v := s.1 + 1) (lv' := [(3, .int (s.1 + 1)), (0, .ref h0), (1, .int l1), (2, .int l2)]) 3 rfl dX6_product_117 rfl (by decide) rfl ?_
    refine r_goto C (tgt := 6) dX6_product_120 (by decide) ?_
    refine r_lv [1, 2, 3, 0] rfl ?_
    exact kl _ (sm_i h)
set_option maxHeartbeats 4000000 in
set_option maxRecDepth 100000 in
theorem c_product {G : gT} {h0 : Nat} {hp : cH} {sz : Nat} {n : Int32} {p : Int64} {count : Int32} {sorts : Nat → Int32} {rows : Nat → Int64} {hand : Nat → Int64} {gathered : Int32} {gather : Nat → Int32} {paired : Int32} {pairA : Nat → Int32} {pairB : Nat → Int32} {ideal : Int32} {draft : Nat → Int64} {frame : Nat → Int64} {one : Nat → Int64} {two : Nat → Int64} {turned : Nat → Int64} {placeI : Int32} {placeJ : Int32} {formA : Int64} {formB : Int64} {formC : Int64} {x1 : Int32} {x2 : Int32} {out : (Nat → Int64)} (h : m_product n p rows draft x1 x2 = some out) : aM G yX6_product cX6_product 6 none 1 22 0 0 [.ref h0, .int x1, .int x2] (mw h0 hp n p count sorts rows hand gathered gather paired pairA pairB ideal draft frame one two turned placeI placeJ formA formB formC) sz ((none, mw h0 hp n p count sorts rows hand gathered gather paired pairA pairB ideal out frame one two turned placeI placeJ formA formB formC, sz) : oT) := by
  refine aM.of RX6 (by decide) rfl (Nat.le_of_ble_eq_true rfl) (fun K C => ?_)
  have hO : ((none, mw h0 hp n p count sorts rows hand gathered gather paired pairA pairB ideal out frame one two turned placeI placeJ formA formB formC, sz) : oT) = ((none, mw h0 hp n p count sorts rows hand gathered gather paired pairA pairB ideal out frame one two turned placeI placeJ formA formB formC, sz) : oT) := rfl
  refine r_lve (lv' := [(0, .ref h0), (1, .int x1), (2, .int x2)]) rfl ?_
  unfold m_product at h
  refine r_aload_n C 0 rfl dX6_product_0 rfl ?_
  obtain ⟨r1, qr1, h⟩ := bd_i h
  refine q_callVv C 0 0 0 (c_clear qr1) rfl mw_self rfl ok_clear in_clear lk6_136 rfl (Nat.le_of_ble_eq_true rfl) ⟨Nat.le_of_ble_eq_true rfl, Nat.le_of_ble_eq_true rfl⟩ dX6_product_1 rfl rfl ?_
  refine r_iconst C (v := 0) dX6_product_4 (by decide) ?_
  refine r_istore_n C (lv' := [(3, .int ((0 : Int32))), (0, .ref h0), (1, .int x1), (2, .int x2)]) dX6_product_5 rfl (by decide) rfl ?_
  refine r_lv [1, 2, 3, 0] rfl ?_
  obtain ⟨r14, qr14, h⟩ := bd_i h
  refine w_product_L6 C qr14 ?_
  obtain rfl := sm_i h
  exact r_return C (Eq.symm hO) dX6_product_123
