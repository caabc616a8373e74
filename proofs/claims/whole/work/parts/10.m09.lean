noncomputable def m_isFar (n : Int32) (p : Int64) (sorts : Nat → Int32) (rows : Nat → Int64) (ideal : Int32) (draft : Nat → Int64) (one : Nat → Int64) (two : Nat → Int64) (x1 : Int32) : Option (Int32 × (Nat → Int64) × (Nat → Int64)) := if x1 = ideal then (some ((1 : Int32), draft, one)) else (if n = ((3 : Int32)) then (if gi x1 60 then if (sorts x1.toNatClampNeg) = ((1 : Int32)) then ((m_isOn n p sorts rows draft one two x1 ideal).bind fun r1 => if r1.1 = ((1 : Int32)) then (some ((1 : Int32), r1.2.1, r1.2.2)) else (some ((0 : Int32), r1.2.1, r1.2.2))) else (some ((0 : Int32), draft, one)) else none) else (some ((0 : Int32), draft, one)))
set_option maxHeartbeats 4000000 in
set_option maxRecDepth 100000 in
theorem c_isFar {G : gT} {h0 : Nat} {hp : cH} {sz : Nat} {n : Int32} {p : Int64} {count : Int32} {sorts : Nat → Int32} {rows : Nat → Int64} {hand : Nat → Int64} {gathered : Int32} {gather : Nat → Int32} {paired : Int32} {pairA : Nat → Int32} {pairB : Nat → Int32} {ideal : Int32} {draft : Nat → Int64} {frame : Nat → Int64} {one : Nat → Int64} {two : Nat → Int64} {turned : Nat → Int64} {placeI : Int32} {placeJ : Int32} {formA : Int64} {formB : Int64} {formC : Int64} {x1 : Int32} {out : (Int32 × (Nat → Int64) × (Nat → Int64))} (h : m_isFar n p sorts rows ideal draft one two x1 = some out) : aM G yX6_isFar cX6_isFar 2 (some .boolean) 4 72 0 0 [.ref h0, .int x1] (mw h0 hp n p count sorts rows hand gathered gather paired pairA pairB ideal draft frame one two turned placeI placeJ formA formB formC) sz ((some (.int out.1), mw h0 hp n p count sorts rows hand gathered gather paired pairA pairB ideal out.2.1 frame out.2.2 two turned placeI placeJ formA formB formC, sz) : oT) := by
  refine aM.of RX6 (by decide) rfl (Nat.le_of_ble_eq_true rfl) (fun K C => ?_)
  have hO : ((some (.int out.1), mw h0 hp n p count sorts rows hand gathered gather paired pairA pairB ideal out.2.1 frame out.2.2 two turned placeI placeJ formA formB formC, sz) : oT) = ((some (.int out.1), mw h0 hp n p count sorts rows hand gathered gather paired pairA pairB ideal out.2.1 frame out.2.2 two turned placeI placeJ formA formB formC, sz) : oT) := rfl
  refine r_lve (lv' := [(0, .ref h0), (1, .int x1)]) rfl ?_
  unfold m_isFar at h
  refine r_iload_n C 1 rfl dX6_isFar_0 rfl ?_
  refine r_aload_n C 0 rfl dX6_isFar_1 rfl ?_
  refine m_g_ideal C dX6_isFar_2 ?_
  refine r_icmp_eq C (tgt := 39) dX6_isFar_5 (by decide) (fun hc => ?_) (fun hc => ?_)
  · replace h := br_p hc h
    refine r_iconst C (v := 1) dX6_isFar_39 (by decide) ?_
    refine r_goto C (tgt := 44) dX6_isFar_40 (by decide) ?_
    obtain rfl := sm_i h
    exact r_zreturn C rfl (Eq.symm hO) dX6_isFar_44
  · replace h := br_n hc h
    refine r_aload_n C 0 rfl dX6_isFar_8 rfl ?_
    refine m_g_n C dX6_isFar_9 ?_
    refine r_iconst C (v := 3) dX6_isFar_12 (by decide) ?_
    refine r_icmp_ne C (tgt := 43) dX6_isFar_13 (by decide) (fun hc => ?_) (fun hc => ?_)
    · replace h := br_n hc h
      refine r_iconst C (v := 0) dX6_isFar_43 (by decide) ?_
      obtain rfl := sm_i h
      exact r_zreturn C rfl (Eq.symm hO) dX6_isFar_44
    · replace h := br_p hc h
      refine r_aload_n C 0 rfl dX6_isFar_16 rfl ?_
      refine m_g_sorts C dX6_isFar_17 ?_
      refine r_iload_n C 1 rfl dX6_isFar_20 rfl ?_
      obtain ⟨hi, h⟩ := gd_t h
      refine m_l_sorts C hi dX6_isFar_21 ?_
      refine r_iconst C (v := 1) dX6_isFar_22 (by decide) ?_
      refine r_icmp_ne C (tgt := 43) dX6_isFar_23 (by decide) (fun hc => ?_) (fun hc => ?_)
      · replace h := br_n hc h
        refine r_iconst C (v := 0) dX6_isFar_43 (by decide) ?_
        obtain rfl := sm_i h
        exact r_zreturn C rfl (Eq.symm hO) dX6_isFar_44
      · replace h := br_p hc h
        refine r_aload_n C 0 rfl dX6_isFar_26 rfl ?_
        refine r_iload_n C 1 rfl dX6_isFar_27 rfl ?_
        refine r_aload_n C 0 rfl dX6_isFar_28 rfl ?_
        refine m_g_ideal C dX6_isFar_29 ?_
        obtain ⟨r1, qr1, h⟩ := bd_i h
        refine q_callV C 0 0 0 (c_isOn qr1) rfl mw_self rfl ok_isOn in_isOn lk6_194 rfl (Nat.le_of_ble_eq_true rfl) ⟨Nat.le_of_ble_eq_true rfl, Nat.le_of_ble_eq_true rfl⟩ dX6_isFar_32 rfl rfl ?_
        refine r_iconst C (v := 1) dX6_isFar_35 (by decide) ?_
        refine r_icmp_ne C (tgt := 43) dX6_isFar_36 (by decide) (fun hc => ?_) (fun hc => ?_)
        · replace h := br_n hc h
          refine r_iconst C (v := 0) dX6_isFar_43 (by decide) ?_
          obtain rfl := sm_i h
          exact r_zreturn C rfl (Eq.symm hO) dX6_isFar_44
        · replace h := br_p hc h
          refine r_iconst C (v := 1) dX6_isFar_39 (by decide) ?_
          refine r_goto C (tgt := 44) dX6_isFar_40 (by decide) ?_
          obtain rfl := sm_i h
          exact r_zreturn C rfl (Eq.symm hO) dX6_isFar_44
noncomputable def m_isIdeal_L80 (p : Int64) (rows : Nat → Int64) (ideal : Int32) (draft : Nat → Int64) (l3 : Int32) (s : (Int64 × Int32)) : Option ((Int64 × Int32) ⊕ Int64) := if ((4 : Int32)) ≤ s.2 then (some (.inr s.1)) else (if l3 = s.2 then ((m_of rows ideal s.2).bind fun r8 => (m_times p ((0 : Int64)) r8).bind fun r9 => if p = 0 then none else some (.inl ((s.1 + r9) - (s.1 + r9) / p * p, s.2 + 1))) else (if s.2 ≤ l3 then ((m_slot s.2 l3).bind fun r1 => if gi r1 16 then (m_less p ((0 : Int64)) (draft r1.toNatClampNeg)).bind fun r2 => (m_of rows ideal s.2).bind fun r3 => (m_times p r2 r3).bind fun r4 => if p = 0 then none else some (.inl ((s.1 + r4) - (s.1 + r4) / p * p, s.2 + 1)) else none) else ((m_slot l3 s.2).bind fun r5 => if gi r5 16 then (m_of rows ideal s.2).bind fun r6 => (m_times p (draft r5.toNatClampNeg) r6).bind fun r7 => if p = 0 then none else some (.inl ((s.1 + r7) - (s.1 + r7) / p * p, s.2 + 1)) else none)))
noncomputable def m_isIdeal_L69J181 (l3 : Int32) : Option ((Int32 × Int32) ⊕ Int32) := some (.inl ((0 : Int32), l3 + 1))
noncomputable def m_isIdeal_L69 (p : Int64) (rows : Nat → Int64) (ideal : Int32) (draft : Nat → Int64) (s : (Int32 × Int32)) : Option ((Int32 × Int32) ⊕ Int32) := if ((4 : Int32)) ≤ s.2 then (some (.inr s.1)) else ((itX (m_isIdeal_L80 p rows ideal draft s.2) ((0 : Int64), (0 : Int32))).bind fun r10 => if s.1 = 0 then (m_isIdeal_L69J181 s.2) else (if r10 = ((0 : Int64)) then (some (.inl ((1 : Int32), s.2 + 1))) else (m_isIdeal_L69J181 s.2)))
noncomputable def m_isIdeal_L11 (n : Int32) (p : Int64) (rows : Nat → Int64) (ideal : Int32) (draft : Nat → Int64) (s : (Int64 × Int32)) : Option ((Int64 × Int32) ⊕ Int64) := (m_side n).bind fun r12 => if r12 ≤ s.2 then (some (.inr s.1)) else (if gi s.2 16 then (m_of rows ideal s.2).bind fun r13 => (m_times p (draft s.2.toNatClampNeg) r13).bind fun r14 => if p = 0 then none else some (.inl ((s.1 + r14) - (s.1 + r14) / p * p, s.2 + 1)) else none)
noncomputable def m_isIdeal (n : Int32) (p : Int64) (rows : Nat → Int64) (ideal : Int32) (draft : Nat → Int64) (x1 : Int32) : Option Int32 := if x1 = 0 then ((itX (m_isIdeal_L11 n p rows ideal draft) ((0 : Int64), (0 : Int32))).bind fun r15 => if r15 = ((0 : Int64)) then (some ((1 : Int32))) else (some ((0 : Int32)))) else ((itX (m_isIdeal_L69 p rows ideal draft) ((1 : Int32), (0 : Int32))).bind fun r11 => if r11 = 0 ∨ r11 = 1 then some r11 else none)
set_option maxHeartbeats 4000000 in
set_option maxRecDepth 100000 in
theorem w_isIdeal_L80 {K : kT} {O : oT} (C : aC K cX6_isIdeal RX6 "isIdeal" 1 19 0 0 9 (some .boolean) O) {h0 : Nat} {hp : cH} {sz : Nat} {n : Int32} {p : Int64} {count : Int32} {sorts : Nat → Int32} {rows : Nat → Int64} {hand : Nat → Int64} {gathered : Int32} {gather : Nat → Int32} {paired : Int32} {pairA : Nat → Int32} {pairB : Nat → Int32} {ideal : Int32} {draft : Nat → Int64} {frame : Nat → Int64} {one : Nat → Int64} {two : Nat → Int64} {turned : Nat → Int64} {placeI : Int32} {placeJ : Int32} {formA : Int64} {formB : Int64} {formC : Int64} {l2 : Int32} {l3 : Int32} {v0 : Int64} {v1 : Int32} {r : Int64} (h : itX (m_isIdeal_L80 p rows ideal draft l3) (v0, v1) = some r) (hr : aW K (mw h0 hp n p count sorts rows hand gathered gather paired pairA pairB ideal draft frame one two turned placeI placeJ formA formB formC) sz 0 0 166 [(0, .ref h0), (2, .int l2), (3, .int l3), (4, .long r)] []) : aW K (mw h0 hp n p count sorts rows hand gathered gather paired pairA pairB ideal draft frame one two turned placeI placeJ formA formB formC) sz 0 0 80 [(0, .ref h0), (2, .int l2), (3, .int l3), (4, .long v0), (6, .int v1)] [] := by
  refine it_walk (f := m_isIdeal_L80 p rows ideal draft l3) (P := fun s => aW K (mw h0 hp n p count sorts rows hand gathered gather paired pairA pairB ideal draft frame one two turned placeI placeJ formA formB formC) sz 0 0 80 [(0, .ref h0), (2, .int l2), (3, .int l3), (4, .long s.1), (6, .int s.2)] []) (R := fun r => aW K (mw h0 hp n p count sorts rows hand gathered gather paired pairA pairB ideal draft frame one two turned placeI placeJ formA formB formC) sz 0 0 166 [(0, .ref h0), (2, .int l2), (3, .int l3), (4, .long r)] []) ?_ h hr
  clear h hr
  intro s x h kl kr
  unfold m_isIdeal_L80 at h
  refine r_iload C 4 rfl dX6_isIdeal_80 ?_
  refine r_iconst C (v := 4) dX6_isIdeal_82 (by decide) ?_
  refine r_icmp_ge C (tgt := 166) dX6_isIdeal_83 (by decide) (fun hc => ?_) (fun hc => ?_)
  · replace h := br_p hc h
    refine r_lv [0, 1, 2, 3] rfl ?_
    exact kr _ (sm_i h)
  · replace h := br_n hc h
    refine r_iload_n C 2 rfl dX6_isIdeal_86 rfl ?_
    refine r_iload C 4 rfl dX6_isIdeal_87 ?_
    refine r_icmp_ne C (tgt := 96) dX6_isIdeal_89 (by decide) (fun hc => ?_) (fun hc => ?_)
    · replace h := br_n hc h
      refine r_iload_n C 2 rfl dX6_isIdeal_96 rfl ?_
      refine r_iload C 4 rfl dX6_isIdeal_97 ?_
      refine r_icmp_ge C (tgt := 116) dX6_isIdeal_99 (by decide) (fun hc => ?_) (fun hc => ?_)
      · replace h := br_p hc h
        refine r_aload_n C 0 rfl dX6_isIdeal_116 rfl ?_
        refine r_lconst C (v := 0) dX6_isIdeal_117 (by decide) ?_
        refine r_aload_n C 0 rfl dX6_isIdeal_118 rfl ?_
        refine m_g_draft C dX6_isIdeal_119 ?_
        refine r_iload C 4 rfl dX6_isIdeal_122 ?_
        refine r_iload_n C 2 rfl dX6_isIdeal_124 rfl ?_
        obtain ⟨r1, qr1, h⟩ := bd_i h
        refine q_callS C 4 0 0 (c_slot qr1) rfl ok_slot in_slot lk6_139 rfl (Nat.le_of_ble_eq_true rfl) ⟨Nat.le_of_ble_eq_true rfl, Nat.le_of_ble_eq_true rfl⟩ dX6_isIdeal_125 rfl rfl ?_
        obtain ⟨hi, h⟩ := gd_t h
        refine m_l_draft C hi dX6_isIdeal_128 ?_
        obtain ⟨r2, qr2, h⟩ := bd_i h
        refine q_callV C 0 0 0 (c_less qr2) rfl mw_self rfl ok_less in_less lk6_105 rfl (Nat.le_of_ble_eq_true rfl) ⟨Nat.le_of_ble_eq_true rfl, Nat.le_of_ble_eq_true rfl⟩ dX6_isIdeal_129 rfl rfl ?_
        refine r_lstore C (lv' := [(7, .long r2), (0, .ref h0), (2, .int l2), (3, .int l3), (4, .long s.1), (6, .int s.2)]) dX6_isIdeal_132 (by decide) rfl ?_
        refine r_lload C 4 rfl dX6_isIdeal_134 ?_
        refine r_aload_n C 1 rfl dX6_isIdeal_136 rfl ?_
        refine r_lload C 0 rfl dX6_isIdeal_137 ?_
        refine r_aload_n C 1 rfl dX6_isIdeal_139 rfl ?_
        refine r_aload_n C 1 rfl dX6_isIdeal_140 rfl ?_
        refine m_g_ideal C dX6_isIdeal_141 ?_
        refine r_iload C 5 rfl dX6_isIdeal_144 ?_
        obtain ⟨r3, qr3, h⟩ := bd_i h
        refine q_callV C 5 0 0 (c_of qr3) rfl mw_self rfl ok_of in_of lk6_108 rfl (Nat.le_of_ble_eq_true rfl) ⟨Nat.le_of_ble_eq_true rfl, Nat.le_of_ble_eq_true rfl⟩ dX6_isIdeal_146 rfl rfl ?_
        obtain ⟨r4, qr4, h⟩ := bd_i h
        refine q_callV C 2 0 0 (c_times qr4) rfl mw_self rfl ok_times in_times lk6_76 rfl (Nat.le_of_ble_eq_true rfl) ⟨Nat.le_of_ble_eq_true rfl, Nat.le_of_ble_eq_true rfl⟩ dX6_isIdeal_149 rfl rfl ?_
        refine r_ladd C dX6_isIdeal_152 ?_
        refine r_aload_n C 1 rfl dX6_isIdeal_153 rfl ?_
        refine m_g_p C dX6_isIdeal_154 ?_
        obtain ⟨hne, h⟩ := gd_n h
        refine r_lrem C dX6_isIdeal_157 hne ?_
        refine r_lstore C (lv' := [(4, .long ((s.1 + r4) - (s.1 + r4) / p * p)), (7, .long r2), (0, .ref h0), (2, .int l2), (3, .int l3), (6, .int s.2)]) dX6_isIdeal_158 (by decide) rfl ?_
        refine r_iinc C (v := s.2 + 1) (lv' := [(6, .int (s.2 + 1)), (4, .long ((s.1 + r4) - (s.1 + r4) / p * p)), (7, .long r2), (0, .ref h0), (2, .int l2), (3, .int l3)]) 5 rfl dX6_isIdeal_160 rfl (by decide) rfl ?_
        refine r_goto C (tgt := 80) dX6_isIdeal_163 (by decide) ?_
        refine r_lv [3, 4, 5, 1, 0] rfl ?_
        exact kl _ (sm_i h)
      · replace h := br_n hc h
        refine r_aload_n C 0 rfl dX6_isIdeal_102 rfl ?_
        refine m_g_draft C dX6_isIdeal_103 ?_
        refine r_iload_n C 2 rfl dX6_isIdeal_106 rfl ?_
        refine r_iload C 4 rfl dX6_isIdeal_107 ?_
        obtain ⟨r5, qr5, h⟩ := bd_i h
        refine q_callS C 1 0 0 (c_slot qr5) rfl ok_slot in_slot lk6_139 rfl (Nat.le_of_ble_eq_true rfl) ⟨Nat.le_of_ble_eq_true rfl, Nat.le_of_ble_eq_true rfl⟩ dX6_isIdeal_109 rfl rfl ?_
        obtain ⟨hi, h⟩ := gd_t h
        refine m_l_draft C hi dX6_isIdeal_112 ?_
        refine r_goto C (tgt := 132) dX6_isIdeal_113 (by decide) ?_
        refine r_lstore C (lv' := [(7, .long (draft r5.toNatClampNeg)), (0, .ref h0), (2, .int l2), (3, .int l3), (4, .long s.1), (6, .int s.2)]) dX6_isIdeal_132 (by decide) rfl ?_
        refine r_lload C 4 rfl dX6_isIdeal_134 ?_
        refine r_aload_n C 1 rfl dX6_isIdeal_136 rfl ?_
        refine r_lload C 0 rfl dX6_isIdeal_137 ?_
        refine r_aload_n C 1 rfl dX6_isIdeal_139 rfl ?_
        refine r_aload_n C 1 rfl dX6_isIdeal_140 rfl ?_
        refine m_g_ideal C dX6_isIdeal_141 ?_
        refine r_iload C 5 rfl dX6_isIdeal_144 ?_
        obtain ⟨r6, qr6, h⟩ := bd_i h
        refine q_callV C 5 0 0 (c_of qr6) rfl mw_self rfl ok_of in_of lk6_108 rfl (Nat.le_of_ble_eq_true rfl) ⟨Nat.le_of_ble_eq_true rfl, Nat.le_of_ble_eq_true rfl⟩ dX6_isIdeal_146 rfl rfl ?_
        obtain ⟨r7, qr7, h⟩ := bd_i h
        refine q_callV C 2 0 0 (c_times qr7) rfl mw_self rfl ok_times in_times lk6_76 rfl (Nat.le_of_ble_eq_true rfl) ⟨Nat.le_of_ble_eq_true rfl, Nat.le_of_ble_eq_true rfl⟩ dX6_isIdeal_149 rfl rfl ?_
        refine r_ladd C dX6_isIdeal_152 ?_
        refine r_aload_n C 1 rfl dX6_isIdeal_153 rfl ?_
        refine m_g_p C dX6_isIdeal_154 ?_
        obtain ⟨hne, h⟩ := gd_n h
        refine r_lrem C dX6_isIdeal_157 hne ?_
        refine r_lstore C (lv' := [(4, .long ((s.1 + r7) - (s.1 + r7) / p * p)), (7, .long (draft r5.toNatClampNeg)), (0, .ref h0), (2, .int l2), (3, .int l3), (6, .int s.2)]) dX6_isIdeal_158 (by decide) rfl ?_
        refine r_iinc C (v := s.2 + 1) (lv' := [(6, .int (s.2 + 1)), (4, .long ((s.1 + r7) - (s.1 + r7) / p * p)), (7, .long (draft r5.toNatClampNeg)), (0, .ref h0), (2, .int l2), (3, .int l3)]) 5 rfl dX6_isIdeal_160 rfl (by decide) rfl ?_
        refine r_goto C (tgt := 80) dX6_isIdeal_163 (by decide) ?_
        refine r_lv [3, 4, 5, 1, 0] rfl ?_
        exact kl _ (sm_i h)
    · replace h := br_p hc h
      refine r_lconst C (v := 0) dX6_isIdeal_92 (by decide) ?_
      refine r_goto C (tgt := 132) dX6_isIdeal_93 (by decide) ?_
      refine r_lstore C (lv' := [(7, .long ((0 : Int64))), (0, .ref h0), (2, .int l2), (3, .int l3), (4, .long s.1), (6, .int s.2)]) dX6_isIdeal_132 (by decide) rfl ?_
      refine r_lload C 4 rfl dX6_isIdeal_134 ?_
      refine r_aload_n C 1 rfl dX6_isIdeal_136 rfl ?_
      refine r_lload C 0 rfl dX6_isIdeal_137 ?_
      refine r_aload_n C 1 rfl dX6_isIdeal_139 rfl ?_
      refine r_aload_n C 1 rfl dX6_isIdeal_140 rfl ?_
      refine m_g_ideal C dX6_isIdeal_141 ?_
      refine r_iload C 5 rfl dX6_isIdeal_144 ?_
      obtain ⟨r8, qr8, h⟩ := bd_i h
      refine q_callV C 5 0 0 (c_of qr8) rfl mw_self rfl ok_of in_of lk6_108 rfl (Nat.le_of_ble_eq_true rfl) ⟨Nat.le_of_ble_eq_true rfl, Nat.le_of_ble_eq_true rfl⟩ dX6_isIdeal_146 rfl rfl ?_
      obtain ⟨r9, qr9, h⟩ := bd_i h
      refine q_callV C 2 0 0 (c_times qr9) rfl mw_self rfl ok_times in_times lk6_76 rfl (Nat.le_of_ble_eq_true rfl) ⟨Nat.le_of_ble_eq_true rfl, Nat.le_of_ble_eq_true rfl⟩ dX6_isIdeal_149 rfl rfl ?_
      refine r_ladd C dX6_isIdeal_152 ?_
      refine r_aload_n C 1 rfl dX6_isIdeal_153 rfl ?_
      refine m_g_p C dX6_isIdeal_154 ?_
      obtain ⟨hne, h⟩ := gd_n h
      refine r_lrem C dX6_isIdeal_157 hne ?_
      refine r_lstore C (lv' := [(4, .long ((s.1 + r9) - (s.1 + r9) / p * p)), (7, .long ((0 : Int64))), (0, .ref h0), (2, .int l2), (3, .int l3), (6, .int s.2)]) dX6_isIdeal_158 (by decide) rfl ?_
      refine r_iinc C (v := s.2 + 1) (lv' := [(6, .int (s.2 + 1)), (4, .long ((s.1 + r9) - (s.1 + r9) / p * p)), (7, .long ((0 : Int64))), (0, .ref h0), (2, .int l2), (3, .int l3)]) 5 rfl dX6_isIdeal_160 rfl (by decide) rfl ?_
      refine r_goto C (tgt := 80) dX6_isIdeal_163 (by decide) ?_
      refine r_lv [3, 4, 5, 1, 0] rfl ?_
      exact kl _ (sm_i h)
set_option maxHeartbeats 4000000 in
set_option maxRecDepth 100000 in
theorem w_isIdeal_L69J181 {K : kT} {O : oT} (C : aC K cX6_isIdeal RX6 "isIdeal" 1 19 0 0 9 (some .boolean) O) {h0 : Nat} {hp : cH} {sz : Nat} {n : Int32} {p : Int64} {count : Int32} {sorts : Nat → Int32} {rows : Nat → Int64} {hand : Nat → Int64} {gathered : Int32} {gather : Nat → Int32} {paired : Int32} {pairA : Nat → Int32} {pairB : Nat → Int32} {ideal : Int32} {draft : Nat → Int64} {frame : Nat → Int64} {one : Nat → Int64} {two : Nat → Int64} {turned : Nat → Int64} {placeI : Int32} {placeJ : Int32} {formA : Int64} {formB : Int64} {formC : Int64} {l3 : Int32}  {x : (Int32 × Int32) ⊕ Int32} (h : m_isIdeal_L69J181 l3 = some x) (kl : ∀ s, x = .inl s → aW K (mw h0 hp n p count sorts rows hand gathered gather paired pairA pairB ideal draft frame one two turned placeI placeJ formA formB formC) sz 0 0 69 [(0, .ref h0), (2, .int s.1), (3, .int s.2)] []) (kr : ∀ r, x = .inr r → aW K (mw h0 hp n p count sorts rows hand gathered gather paired pairA pairB ideal draft frame one two turned placeI placeJ formA formB formC) sz 0 0 189 [(2, .int r)] []) : aW K (mw h0 hp n p count sorts rows hand gathered gather paired pairA pairB ideal draft frame one two turned placeI placeJ formA formB formC) sz 0 0 181 [(0, .ref h0), (3, .int l3)] [] := by
  unfold m_isIdeal_L69J181 at h
  refine r_iconst C (v := 0) dX6_isIdeal_181 (by decide) ?_
  refine r_istore_n C (lv' := [(2, .int ((0 : Int32))), (0, .ref h0), (3, .int l3)]) dX6_isIdeal_182 rfl (by decide) rfl ?_
  refine r_iinc C (v := l3 + 1) (lv' := [(3, .int (l3 + 1)), (2, .int ((0 : Int32))), (0, .ref h0)]) 2 rfl dX6_isIdeal_183 rfl (by decide) rfl ?_
  refine r_goto C (tgt := 69) dX6_isIdeal_186 (by decide) ?_
  refine r_lv [2, 1, 0] rfl ?_
  exact kl _ (sm_i h)
set_option maxHeartbeats 4000000 in
set_option maxRecDepth 100000 in
theorem w_isIdeal_L69 {K : kT} {O : oT} (C : aC K cX6_isIdeal RX6 "isIdeal" 1 19 0 0 9 (some .boolean) O) {h0 : Nat} {hp : cH} {sz : Nat} {n : Int32} {p : Int64} {count : Int32} {sorts : Nat → Int32} {rows : Nat → Int64} {hand : Nat → Int64} {gathered : Int32} {gather : Nat → Int32} {paired : Int32} {pairA : Nat → Int32} {pairB : Nat → Int32} {ideal : Int32} {draft : Nat → Int64} {frame : Nat → Int64} {one : Nat → Int64} {two : Nat → Int64} {turned : Nat → Int64} {placeI : Int32} {placeJ : Int32} {formA : Int64} {formB : Int64} {formC : Int64}  {v0 : Int32} {v1 : Int32} {r : Int32} (h : itX (m_isIdeal_L69 p rows ideal draft) (v0, v1) = some r) (hr : aW K (mw h0 hp n p count sorts rows hand gathered gather paired pairA pairB ideal draft frame one two turned placeI placeJ formA formB formC) sz 0 0 189 [(2, .int r)] []) : aW K (mw h0 hp n p count sorts rows hand gathered gather paired pairA pairB ideal draft frame one two turned placeI placeJ formA formB formC) sz 0 0 69 [(0, .ref h0), (2, .int v0), (3, .int v1)] [] := by
  refine it_walk (f := m_isIdeal_L69 p rows ideal draft) (P := fun s => aW K (mw h0 hp n p count sorts rows hand gathered gather paired pairA pairB ideal draft frame one two turned placeI placeJ formA formB formC) sz 0 0 69 [(0, .ref h0), (2, .int s.1), (3, .int s.2)] []) (R := fun r => aW K (mw h0 hp n p count sorts rows hand gathered gather paired pairA pairB ideal draft frame one two turned placeI placeJ formA formB formC) sz 0 0 189 [(2, .int r)] []) ?_ h hr
  clear h hr
  intro s x h kl kr
  unfold m_isIdeal_L69 at h
  refine r_iload_n C 2 rfl dX6_isIdeal_69 rfl ?_
  refine r_iconst C (v := 4) dX6_isIdeal_70 (by decide) ?_
  refine r_icmp_ge C (tgt := 189) dX6_isIdeal_71 (by decide) (fun hc => ?_) (fun hc => ?_)
  · replace h := br_p hc h
    refine r_lv [1] rfl ?_
    exact kr _ (sm_i h)
  · replace h := br_n hc h
    refine r_lconst C (v := 0) dX6_isIdeal_74 (by decide) ?_
    refine r_lstore C (lv' := [(4, .long ((0 : Int64))), (0, .ref h0), (2, .int s.1), (3, .int s.2)]) dX6_isIdeal_75 (by decide) rfl ?_
    refine r_iconst C (v := 0) dX6_isIdeal_77 (by decide) ?_
    refine r_istore C (lv' := [(6, .int ((0 : Int32))), (4, .long ((0 : Int64))), (0, .ref h0), (2, .int s.1), (3, .int s.2)]) dX6_isIdeal_78 (by decide) rfl ?_
    refine r_lv [2, 3, 4, 1, 0] rfl ?_
    obtain ⟨r10, qr10, h⟩ := bd_i h
    refine w_isIdeal_L80 C qr10 ?_
    refine r_iload_n C 1 rfl dX6_isIdeal_166 rfl ?_
    refine r_if_eq C (tgt := 181) dX6_isIdeal_167 (by decide) (fun hc => ?_) (fun hc => ?_)
    · replace h := br_p hc h
      refine r_lv [0, 2] rfl ?_
      exact w_isIdeal_L69J181 C h kl kr
    · replace h := br_n hc h
      refine r_lload C 3 rfl dX6_isIdeal_170 ?_
      refine r_lconst C (v := 0) dX6_isIdeal_172 (by decide) ?_
      refine r_lne C (tgt := 181) dX6_isIdeal_173 dX6_isIdeal_174 (by decide) (fun hc => ?_) (fun hc => ?_)
      · replace h := br_n hc h
        refine r_lv [0, 2] rfl ?_
        exact w_isIdeal_L69J181 C h kl kr
      · replace h := br_p hc h
        refine r_iconst C (v := 1) dX6_isIdeal_177 (by decide) ?_
        refine r_goto C (tgt := 182) dX6_isIdeal_178 (by decide) ?_
        refine r_istore_n C (lv' := [(2, .int ((1 : Int32))), (0, .ref h0), (3, .int s.2), (4, .long r10)]) dX6_isIdeal_182 rfl (by decide) rfl ?_
        refine r_iinc C (v := s.2 + 1) (lv' := [(3, .int (s.2 + 1)), (2, .int ((1 : Int32))), (0, .ref h0), (4, .long r10)]) 2 rfl dX6_isIdeal_183 rfl (by decide) rfl ?_
        refine r_goto C (tgt := 69) dX6_isIdeal_186 (by decide) ?_
        refine r_lv [2, 1, 0] rfl ?_
        exact kl _ (sm_i h)
set_option maxHeartbeats 4000000 in
set_option maxRecDepth 100000 in
theorem w_isIdeal_L11 {K : kT} {O : oT} (C : aC K cX6_isIdeal RX6 "isIdeal" 1 19 0 0 9 (some .boolean) O) {h0 : Nat} {hp : cH} {sz : Nat} {n : Int32} {p : Int64} {count : Int32} {sorts : Nat → Int32} {rows : Nat → Int64} {hand : Nat → Int64} {gathered : Int32} {gather : Nat → Int32} {paired : Int32} {pairA : Nat → Int32} {pairB : Nat → Int32} {ideal : Int32} {draft : Nat → Int64} {frame : Nat → Int64} {one : Nat → Int64} {two : Nat → Int64} {turned : Nat → Int64} {placeI : Int32} {placeJ : Int32} {formA : Int64} {formB : Int64} {formC : Int64}  {v0 : Int64} {v1 : Int32} {r : Int64} (h : itX (m_isIdeal_L11 n p rows ideal draft) (v0, v1) = some r) (hr : aW K (mw h0 hp n p count sorts rows hand gathered gather paired pairA pairB ideal draft frame one two turned placeI placeJ formA formB formC) sz 0 0 55 [(3, .long r)] []) : aW K (mw h0 hp n p count sorts rows hand gathered gather paired pairA pairB ideal draft frame one two turned placeI placeJ formA formB formC) sz 0 0 11 [(0, .ref h0), (3, .long v0), (5, .int v1)] [] := by
  refine it_walk (f := m_isIdeal_L11 n p rows ideal draft) (P := fun s => aW K (mw h0 hp n p count sorts rows hand gathered gather paired pairA pairB ideal draft frame one two turned placeI placeJ formA formB formC) sz 0 0 11 [(0, .ref h0), (3, .long s.1), (5, .int s.2)] []) (R := fun r => aW K (mw h0 hp n p count sorts rows hand gathered gather paired pairA pairB ideal draft frame one two turned placeI placeJ formA formB formC) sz 0 0 55 [(3, .long r)] []) ?_ h hr
  clear h hr
  intro s x h kl kr
  unfold m_isIdeal_L11 at h
  refine r_iload C 2 rfl dX6_isIdeal_11 ?_
  refine r_aload_n C 0 rfl dX6_isIdeal_13 rfl ?_
  obtain ⟨r12, qr12, h⟩ := bd_i h
  refine q_callV C 1 0 0 (c_side qr12) rfl mw_self rfl ok_side in_side lk6_111 rfl (Nat.le_of_ble_eq_true rfl) ⟨Nat.le_of_ble_eq_true rfl, Nat.le_of_ble_eq_true rfl⟩ dX6_isIdeal_14 rfl rfl ?_
  refine r_icmp_ge C (tgt := 55) dX6_isIdeal_17 (by decide) (fun hc => ?_) (fun hc => ?_)
  · replace h := br_p hc h
    refine r_lv [1] rfl ?_
    exact kr _ (sm_i h)
  · replace h := br_n hc h
    refine r_lload_n C 1 rfl dX6_isIdeal_20 rfl ?_
    refine r_aload_n C 0 rfl dX6_isIdeal_21 rfl ?_
    refine r_aload_n C 0 rfl dX6_isIdeal_22 rfl ?_
    refine m_g_draft C dX6_isIdeal_23 ?_
    refine r_iload C 2 rfl dX6_isIdeal_26 ?_
    obtain ⟨hi, h⟩ := gd_t h
    refine m_l_draft C hi dX6_isIdeal_28 ?_
    refine r_aload_n C 0 rfl dX6_isIdeal_29 rfl ?_
    refine r_aload_n C 0 rfl dX6_isIdeal_30 rfl ?_
    refine m_g_ideal C dX6_isIdeal_31 ?_
    refine r_iload C 2 rfl dX6_isIdeal_34 ?_
    obtain ⟨r13, qr13, h⟩ := bd_i h
    refine q_callV C 5 0 0 (c_of qr13) rfl mw_self rfl ok_of in_of lk6_108 rfl (Nat.le_of_ble_eq_true rfl) ⟨Nat.le_of_ble_eq_true rfl, Nat.le_of_ble_eq_true rfl⟩ dX6_isIdeal_36 rfl rfl ?_
    obtain ⟨r14, qr14, h⟩ := bd_i h
    refine q_callV C 2 0 0 (c_times qr14) rfl mw_self rfl ok_times in_times lk6_76 rfl (Nat.le_of_ble_eq_true rfl) ⟨Nat.le_of_ble_eq_true rfl, Nat.le_of_ble_eq_true rfl⟩ dX6_isIdeal_39 rfl rfl ?_
    refine r_ladd C dX6_isIdeal_42 ?_
    refine r_aload_n C 0 rfl dX6_isIdeal_43 rfl ?_
    refine m_g_p C dX6_isIdeal_44 ?_
    obtain ⟨hne, h⟩ := gd_n h
    refine r_lrem C dX6_isIdeal_47 hne ?_
    refine r_lstore_n C (lv' := [(3, .long ((s.1 + r14) - (s.1 + r14) / p * p)), (0, .ref h0), (5, .int s.2)]) dX6_isIdeal_48 rfl (by decide) rfl ?_
    refine r_iinc C (v := s.2 + 1) (lv' := [(5, .int (s.2 + 1)), (3, .long ((s.1 + r14) - (s.1 + r14) / p * p)), (0, .ref h0)]) 2 rfl dX6_isIdeal_49 rfl (by decide) rfl ?_
    refine r_goto C (tgt := 11) dX6_isIdeal_52 (by decide) ?_
    refine r_lv [2, 1, 0] rfl ?_
    exact kl _ (sm_i h)
set_option maxHeartbeats 4000000 in
set_option maxRecDepth 100000 in
theorem c_isIdeal {G : gT} {h0 : Nat} {hp : cH} {sz : Nat} {n : Int32} {p : Int64} {count : Int32} {sorts : Nat → Int32} {rows : Nat → Int64} {hand : Nat → Int64} {gathered : Int32} {gather : Nat → Int32} {paired : Int32} {pairA : Nat → Int32} {pairB : Nat → Int32} {ideal : Int32} {draft : Nat → Int64} {frame : Nat → Int64} {one : Nat → Int64} {two : Nat → Int64} {turned : Nat → Int64} {placeI : Int32} {placeJ : Int32} {formA : Int64} {formB : Int64} {formC : Int64} {x1 : Int32} {out : Int32} (h : m_isIdeal n p rows ideal draft x1 = some out) : aM G yX6_isIdeal cX6_isIdeal 9 (some .boolean) 1 19 0 0 [.ref h0, .int x1] (mw h0 hp n p count sorts rows hand gathered gather paired pairA pairB ideal draft frame one two turned placeI placeJ formA formB formC) sz ((some (.int out), mw h0 hp n p count sorts rows hand gathered gather paired pairA pairB ideal draft frame one two turned placeI placeJ formA formB formC, sz) : oT) := by
  refine aM.of RX6 (by decide) rfl (Nat.le_of_ble_eq_true rfl) (fun K C => ?_)
  have hO : ((some (.int out), mw h0 hp n p count sorts rows hand gathered gather paired pairA pairB ideal draft frame one two turned placeI placeJ formA formB formC, sz) : oT) = ((some (.int out), mw h0 hp n p count sorts rows hand gathered gather paired pairA pairB ideal draft frame one two turned placeI placeJ formA formB formC, sz) : oT) := rfl
  refine r_lve (lv' := [(0, .ref h0), (1, .int x1)]) rfl ?_
  unfold m_isIdeal at h
  refine r_iconst C (v := 1) dX6_isIdeal_0 (by decide) ?_
  refine r_istore_n C (lv' := [(2, .int ((1 : Int32))), (0, .ref h0), (1, .int x1)]) dX6_isIdeal_1 rfl (by decide) rfl ?_
  refine r_iload_n C 2 rfl dX6_isIdeal_2 rfl ?_
  refine r_if_ne C (tgt := 67) dX6_isIdeal_3 (by decide) (fun hc => ?_) (fun hc => ?_)
  · replace h := br_n hc h
    refine r_iconst C (v := 0) dX6_isIdeal_67 (by decide) ?_
    refine r_istore_n C (lv' := [(3, .int ((0 : Int32))), (2, .int ((1 : Int32))), (0, .ref h0), (1, .int x1)]) dX6_isIdeal_68 rfl (by decide) rfl ?_
    refine r_lv [2, 1, 0] rfl ?_
    obtain ⟨r11, qr11, h⟩ := bd_i h
    refine w_isIdeal_L69 C qr11 ?_
    refine r_iload_n C 0 rfl dX6_isIdeal_189 rfl ?_
    obtain ⟨hz, h⟩ := gd_t h
    obtain rfl := sm_i h
    exact r_zreturn C (nb01 hz) (Eq.symm hO) dX6_isIdeal_190
  · replace h := br_p hc h
    refine r_lconst C (v := 0) dX6_isIdeal_6 (by decide) ?_
    refine r_lstore_n C (lv' := [(3, .long ((0 : Int64))), (2, .int ((1 : Int32))), (0, .ref h0), (1, .int x1)]) dX6_isIdeal_7 rfl (by decide) rfl ?_
    refine r_iconst C (v := 0) dX6_isIdeal_8 (by decide) ?_
    refine r_istore C (lv' := [(5, .int ((0 : Int32))), (3, .long ((0 : Int64))), (2, .int ((1 : Int32))), (0, .ref h0), (1, .int x1)]) dX6_isIdeal_9 (by decide) rfl ?_
    refine r_lv [3, 1, 0] rfl ?_
    obtain ⟨r15, qr15, h⟩ := bd_i h
    refine w_isIdeal_L11 C qr15 ?_
    refine r_lload_n C 0 rfl dX6_isIdeal_55 rfl ?_
    refine r_lconst C (v := 0) dX6_isIdeal_56 (by decide) ?_
    refine r_lne C (tgt := 65) dX6_isIdeal_57 dX6_isIdeal_58 (by decide) (fun hc => ?_) (fun hc => ?_)
    · replace h := br_n hc h
      refine r_iconst C (v := 0) dX6_isIdeal_65 (by decide) ?_
      obtain rfl := sm_i h
      exact r_zreturn C rfl (Eq.symm hO) dX6_isIdeal_66
    · replace h := br_p hc h
      refine r_iconst C (v := 1) dX6_isIdeal_61 (by decide) ?_
      refine r_goto C (tgt := 66) dX6_isIdeal_62 (by decide) ?_
      obtain rfl := sm_i h
      exact r_zreturn C rfl (Eq.symm hO) dX6_isIdeal_66
noncomputable def m_parallel_J105 (n : Int32) (p : Int64) (count : Int32) (sorts : Nat → Int32) (rows : Nat → Int64) (ideal : Int32) (draft : Nat → Int64) (frame : Nat → Int64) (one : Nat → Int64) (two : Nat → Int64) (turned : Nat → Int64) (l1 : Int32) (l2 : Int32) (l3 : Int32) : Option (Int32 × (Nat → Int64) × (Nat → Int64) × (Nat → Int64) × (Nat → Int64) × (Nat → Int64)) := if ideal = ((-1 : Int32)) then (some ((-1 : Int32), draft, frame, one, two, turned)) else ((m_isFar n p sorts rows ideal draft one two l1).bind fun r2 => if r2.1 = 0 then ((m_isFar n p sorts rows ideal r2.2.1 r2.2.2 two l2).bind fun r3 => if r3.1 = 0 then (if l1 = l2 then (some ((1 : Int32), r3.2.1, frame, r3.2.2, two, turned)) else ((m_both n p count sorts rows r3.2.1 frame r3.2.2 two turned l1 l2).bind fun r4 => if 0 ≤ r4.1 then ((m_isIdeal n p rows ideal r4.2.1 r4.1).bind fun r5 => if r5 = 0 then (some ((0 : Int32), r4.2.1, r4.2.2.1, r4.2.2.2.1, r4.2.2.2.2.1, r4.2.2.2.2.2)) else (some ((1 : Int32), r4.2.1, r4.2.2.1, r4.2.2.2.1, r4.2.2.2.2.1, r4.2.2.2.2.2))) else (if l3 = 0 then (some ((1 : Int32), r4.2.1, r4.2.2.1, r4.2.2.2.1, r4.2.2.2.2.1, r4.2.2.2.2.2)) else (some ((0 : Int32), r4.2.1, r4.2.2.1, r4.2.2.2.1, r4.2.2.2.2.1, r4.2.2.2.2.2))))) else (some ((-1 : Int32), r3.2.1, frame, r3.2.2, two, turned))) else (some ((-1 : Int32), r2.2.1, frame, r2.2.2, two, turned)))
noncomputable def m_parallel_J72 (n : Int32) (p : Int64) (count : Int32) (sorts : Nat → Int32) (rows : Nat → Int64) (ideal : Int32) (draft : Nat → Int64) (frame : Nat → Int64) (one : Nat → Int64) (two : Nat → Int64) (turned : Nat → Int64) (l1 : Int32) (l2 : Int32) (l3 : Int32) : Option (Int32 × (Nat → Int64) × (Nat → Int64) × (Nat → Int64) × (Nat → Int64) × (Nat → Int64)) := if l3 = 0 then (if ((0 : Int32)) = 0 then ((m_is count sorts l1 ((2 : Int32))).bind fun r6 => if r6 = 0 then (some ((-2 : Int32), draft, frame, one, two, turned)) else ((m_is count sorts l2 ((2 : Int32))).bind fun r7 => if r7 = 0 then (some ((-2 : Int32), draft, frame, one, two, turned)) else (m_parallel_J105 n p count sorts rows ideal draft frame one two turned l1 l2 l3))) else (m_parallel_J105 n p count sorts rows ideal draft frame one two turned l1 l2 l3)) else (m_parallel_J105 n p count sorts rows ideal draft frame one two turned l1 l2 l3)
noncomputable def m_parallel_J68 (n : Int32) (p : Int64) (count : Int32) (sorts : Nat → Int32) (rows : Nat → Int64) (ideal : Int32) (draft : Nat → Int64) (frame : Nat → Int64) (one : Nat → Int64) (two : Nat → Int64) (turned : Nat → Int64) (l1 : Int32) (l2 : Int32) (l3 : Int32) : Option (Int32 × (Nat → Int64) × (Nat → Int64) × (Nat → Int64) × (Nat → Int64) × (Nat → Int64)) := if l3 = 0 then (if ((1 : Int32)) = 0 then ((m_is count sorts l1 ((2 : Int32))).bind fun r11 => if r11 = 0 then (some ((-2 : Int32), draft, frame, one, two, turned)) else ((m_is count sorts l2 ((2 : Int32))).bind fun r12 => if r12 = 0 then (some ((-2 : Int32), draft, frame, one, two, turned)) else (m_parallel_J105 n p count sorts rows ideal draft frame one two turned l1 l2 l3))) else (m_parallel_J105 n p count sorts rows ideal draft frame one two turned l1 l2 l3)) else (m_parallel_J105 n p count sorts rows ideal draft frame one two turned l1 l2 l3)
noncomputable def m_parallel_J50 (n : Int32) (p : Int64) (count : Int32) (sorts : Nat → Int32) (rows : Nat → Int64) (ideal : Int32) (draft : Nat → Int64) (frame : Nat → Int64) (one : Nat → Int64) (two : Nat → Int64) (turned : Nat → Int64) (l1 : Int32) (l2 : Int32) (l3 : Int32) : Option (Int32 × (Nat → Int64) × (Nat → Int64) × (Nat → Int64) × (Nat → Int64) × (Nat → Int64)) := (m_is count sorts l1 ((2 : Int32))).bind fun r9 => if r9 = 0 then (m_parallel_J72 n p count sorts rows ideal draft frame one two turned l1 l2 l3) else ((m_is count sorts l2 ((1 : Int32))).bind fun r10 => if r10 = 0 then (m_parallel_J72 n p count sorts rows ideal draft frame one two turned l1 l2 l3) else (m_parallel_J68 n p count sorts rows ideal draft frame one two turned l1 l2 l3))
noncomputable def m_parallel_J22 (n : Int32) (p : Int64) (count : Int32) (sorts : Nat → Int32) (rows : Nat → Int64) (ideal : Int32) (draft : Nat → Int64) (frame : Nat → Int64) (one : Nat → Int64) (two : Nat → Int64) (turned : Nat → Int64) (l1 : Int32) (l2 : Int32) : Option (Int32 × (Nat → Int64) × (Nat → Int64) × (Nat → Int64) × (Nat → Int64) × (Nat → Int64)) := if n = ((3 : Int32)) then ((m_is count sorts l1 ((1 : Int32))).bind fun r8 => if r8 = 0 then (m_parallel_J50 n p count sorts rows ideal draft frame one two turned l1 l2 ((0 : Int32))) else ((m_is count sorts l2 ((2 : Int32))).bind fun r13 => if r13 = 0 then (m_parallel_J50 n p count sorts rows ideal draft frame one two turned l1 l2 ((0 : Int32))) else (m_parallel_J68 n p count sorts rows ideal draft frame one two turned l1 l2 ((0 : Int32))))) else (m_parallel_J72 n p count sorts rows ideal draft frame one two turned l1 l2 ((0 : Int32)))
noncomputable def m_parallel (n : Int32) (p : Int64) (count : Int32) (sorts : Nat → Int32) (rows : Nat → Int64) (ideal : Int32) (draft : Nat → Int64) (frame : Nat → Int64) (one : Nat → Int64) (two : Nat → Int64) (turned : Nat → Int64) (x1 : Int32) (x2 : Int32) : Option (Int32 × (Nat → Int64) × (Nat → Int64) × (Nat → Int64) × (Nat → Int64) × (Nat → Int64)) := (m_is count sorts x1 ((1 : Int32))).bind fun r1 => if r1 = 0 then (m_parallel_J22 n p count sorts rows ideal draft frame one two turned x1 x2) else ((m_is count sorts x2 ((1 : Int32))).bind fun r14 => if r14 = 0 then (m_parallel_J22 n p count sorts rows ideal draft frame one two turned x1 x2) else (if n = ((3 : Int32)) then ((m_is count sorts x1 ((1 : Int32))).bind fun r15 => if r15 = 0 then (m_parallel_J50 n p count sorts rows ideal draft frame one two turned x1 x2 ((1 : Int32))) else ((m_is count sorts x2 ((2 : Int32))).bind fun r16 => if r16 = 0 then (m_parallel_J50 n p count sorts rows ideal draft frame one two turned x1 x2 ((1 : Int32))) else (m_parallel_J68 n p count sorts rows ideal draft frame one two turned x1 x2 ((1 : Int32))))) else (m_parallel_J72 n p count sorts rows ideal draft frame one two turned x1 x2 ((1 : Int32)))))
set_option maxHeartbeats 4000000 in
set_option maxRecDepth 100000 in
theorem w_parallel_J105 {K : kT} {O : oT} (C : aC K cX6_parallel RX6 "parallel" 7 127 0 0 6 (some .int) O) {h0 : Nat} {hp : cH} {sz : Nat} {n : Int32} {p : Int64} {count : Int32} {sorts : Nat → Int32} {rows : Nat → Int64} {hand : Nat → Int64} {gathered : Int32} {gather : Nat → Int32} {paired : Int32} {pairA : Nat → Int32} {pairB : Nat → Int32} {ideal : Int32} {draft : Nat → Int64} {frame : Nat → Int64} {one : Nat → Int64} {two : Nat → Int64} {turned : Nat → Int64} {placeI : Int32} {placeJ : Int32} {formA : Int64} {formB : Int64} {formC : Int64} {l1 : Int32} {l2 : Int32} {l3 : Int32} {out : (Int32 × (Nat → Int64) × (Nat → Int64) × (Nat → Int64) × (Nat → Int64) × (Nat → Int64))} (h : m_parallel_J105 n p count sorts rows ideal draft frame one two turned l1 l2 l3 = some out) (hO : ((some (.int out.1), mw h0 hp n p count sorts rows hand gathered gather paired pairA pairB ideal out.2.1 out.2.2.1 out.2.2.2.1 out.2.2.2.2.1 out.2.2.2.2.2 placeI placeJ formA formB formC, sz) : oT) = O) : aW K (mw h0 hp n p count sorts rows hand gathered gather paired pairA pairB ideal draft frame one two turned placeI placeJ formA formB formC) sz 0 0 105 [(0, .ref h0), (1, .int l1), (2, .int l2), (3, .int l3)] [] := by
  unfold m_parallel_J105 at h
  refine r_aload_n C 0 rfl dX6_parallel_105 rfl ?_
  refine m_g_ideal C dX6_parallel_106 ?_
  refine r_iconst C (v := -1) dX6_parallel_109 (by decide) ?_
  refine r_icmp_eq C (tgt := 129) dX6_parallel_110 (by decide) (fun hc => ?_) (fun hc => ?_)
  · replace h := br_p hc h
    refine r_iconst C (v := -1) dX6_parallel_129 (by decide) ?_
    obtain rfl := sm_i h
    exact r_ireturn C (Eq.symm hO) dX6_parallel_130
  · replace h := br_n hc h
    refine r_aload_n C 0 rfl dX6_parallel_113 rfl ?_
    refine r_iload_n C 1 rfl dX6_parallel_114 rfl ?_
    obtain ⟨r2, qr2, h⟩ := bd_i h
    refine q_callV C 0 0 0 (c_isFar qr2) rfl mw_self rfl ok_isFar in_isFar lk6_275 rfl (Nat.le_of_ble_eq_true rfl) ⟨Nat.le_of_ble_eq_true rfl, Nat.le_of_ble_eq_true rfl⟩ dX6_parallel_115 rfl rfl ?_
    refine r_if_ne C (tgt := 129) dX6_parallel_118 (by decide) (fun hc => ?_) (fun hc => ?_)
    · replace h := br_n hc h
      refine r_iconst C (v := -1) dX6_parallel_129 (by decide) ?_
      obtain rfl := sm_i h
      exact r_ireturn C (Eq.symm hO) dX6_parallel_130
    · replace h := br_p hc h
      refine r_aload_n C 0 rfl dX6_parallel_121 rfl ?_
      refine r_iload_n C 2 rfl dX6_parallel_122 rfl ?_
      obtain ⟨r3, qr3, h⟩ := bd_i h
      refine q_callV C 0 0 0 (c_isFar qr3) rfl mw_self rfl ok_isFar in_isFar lk6_275 rfl (Nat.le_of_ble_eq_true rfl) ⟨Nat.le_of_ble_eq_true rfl, Nat.le_of_ble_eq_true rfl⟩ dX6_parallel_123 rfl rfl ?_
      refine r_if_eq C (tgt := 131) dX6_parallel_126 (by decide) (fun hc => ?_) (fun hc => ?_)
      · replace h := br_p hc h
        refine r_iload_n C 1 rfl dX6_parallel_131 rfl ?_
        refine r_iload_n C 2 rfl dX6_parallel_132 rfl ?_
        refine r_icmp_ne C (tgt := 138) dX6_parallel_133 (by decide) (fun hc => ?_) (fun hc => ?_)
        · replace h := br_n hc h
          refine r_aload_n C 0 rfl dX6_parallel_138 rfl ?_
          refine r_iload_n C 1 rfl dX6_parallel_139 rfl ?_
          refine r_iload_n C 2 rfl dX6_parallel_140 rfl ?_
          obtain ⟨r4, qr4, h⟩ := bd_i h
          refine q_callV C 0 0 0 (c_both qr4) rfl mw_self rfl ok_both in_both lk6_184 rfl (Nat.le_of_ble_eq_true rfl) ⟨Nat.le_of_ble_eq_true rfl, Nat.le_of_ble_eq_true rfl⟩ dX6_parallel_141 rfl rfl ?_
          refine r_istore C (lv' := [(5, .int r4.1), (0, .ref h0), (1, .int l1), (2, .int l2), (3, .int l3)]) dX6_parallel_144 (by decide) rfl ?_
          refine r_iload C 0 rfl dX6_parallel_146 ?_
          refine r_if_ge C (tgt := 163) dX6_parallel_148 (by decide) (fun hc => ?_) (fun hc => ?_)
          · replace h := br_p hc h
            refine r_aload_n C 1 rfl dX6_parallel_163 rfl ?_
            refine r_iload C 0 rfl dX6_parallel_164 ?_
            obtain ⟨r5, qr5, h⟩ := bd_i h
            refine q_callV C 0 0 0 (c_isIdeal qr5) rfl mw_self rfl ok_isIdeal in_isIdeal lk6_278 rfl (Nat.le_of_ble_eq_true rfl) ⟨Nat.le_of_ble_eq_true rfl, Nat.le_of_ble_eq_true rfl⟩ dX6_parallel_166 rfl rfl ?_
            refine r_if_eq C (tgt := 176) dX6_parallel_169 (by decide) (fun hc => ?_) (fun hc => ?_)
            · replace h := br_p hc h
              refine r_iconst C (v := 0) dX6_parallel_176 (by decide) ?_
              obtain rfl := sm_i h
              exact r_ireturn C (Eq.symm hO) dX6_parallel_177
            · replace h := br_n hc h
              refine r_iconst C (v := 1) dX6_parallel_172 (by decide) ?_
              refine r_goto C (tgt := 177) dX6_parallel_173 (by decide) ?_
              obtain rfl := sm_i h
              exact r_ireturn C (Eq.symm hO) dX6_parallel_177
          · replace h := br_n hc h
            refine r_iload_n C 4 rfl dX6_parallel_151 rfl ?_
            refine r_if_eq C (tgt := 159) dX6_parallel_152 (by decide) (fun hc => ?_) (fun hc => ?_)
            · replace h := br_p hc h
              refine r_iconst C (v := 1) dX6_parallel_159 (by decide) ?_
              refine r_goto C (tgt := 177) dX6_parallel_160 (by decide) ?_
              obtain rfl := sm_i h
              exact r_ireturn C (Eq.symm hO) dX6_parallel_177
            · replace h := br_n hc h
              refine r_iconst C (v := 0) dX6_parallel_155 (by decide) ?_
              refine r_goto C (tgt := 177) dX6_parallel_156 (by decide) ?_
              obtain rfl := sm_i h
              exact r_ireturn C (Eq.symm hO) dX6_parallel_177
        · replace h := br_p hc h
          refine r_iconst C (v := 1) dX6_parallel_136 (by decide) ?_
          obtain rfl := sm_i h
          exact r_ireturn C (Eq.symm hO) dX6_parallel_137
      · replace h := br_n hc h
        refine r_iconst C (v := -1) dX6_parallel_129 (by decide) ?_
        obtain rfl := sm_i h
        exact r_ireturn C (Eq.symm hO) dX6_parallel_130
set_option maxHeartbeats 4000000 in
set_option maxRecDepth 100000 in
theorem w_parallel_J72 {K : kT} {O : oT} (C : aC K cX6_parallel RX6 "parallel" 7 127 0 0 6 (some .int) O) {h0 : Nat} {hp : cH} {sz : Nat} {n : Int32} {p : Int64} {count : Int32} {sorts : Nat → Int32} {rows : Nat → Int64} {hand : Nat → Int64} {gathered : Int32} {gather : Nat → Int32} {paired : Int32} {pairA : Nat → Int32} {pairB : Nat → Int32} {ideal : Int32} {draft : Nat → Int64} {frame : Nat → Int64} {one : Nat → Int64} {two : Nat → Int64} {turned : Nat → Int64} {placeI : Int32} {placeJ : Int32} {formA : Int64} {formB : Int64} {formC : Int64} {l1 : Int32} {l2 : Int32} {l3 : Int32} {out : (Int32 × (Nat → Int64) × (Nat → Int64) × (Nat → Int64) × (Nat → Int64) × (Nat → Int64))} (h : m_parallel_J72 n p count sorts rows ideal draft frame one two turned l1 l2 l3 = some out) (hO : ((some (.int out.1), mw h0 hp n p count sorts rows hand gathered gather paired pairA pairB ideal out.2.1 out.2.2.1 out.2.2.2.1 out.2.2.2.2.1 out.2.2.2.2.2 placeI placeJ formA formB formC, sz) : oT) = O) : aW K (mw h0 hp n p count sorts rows hand gathered gather paired pairA pairB ideal draft frame one two turned placeI placeJ formA formB formC) sz 0 0 72 [(0, .ref h0), (1, .int l1), (2, .int l2), (3, .int l3)] [] := by
  unfold m_parallel_J72 at h
  refine r_iconst C (v := 0) dX6_parallel_72 (by decide) ?_
  refine r_istore C (lv' := [(4, .int ((0 : Int32))), (0, .ref h0), (1, .int l1), (2, .int l2), (3, .int l3)]) dX6_parallel_73 (by decide) rfl ?_
  refine r_iload_n C 4 rfl dX6_parallel_75 rfl ?_
  refine r_if_ne C (tgt := 105) dX6_parallel_76 (by decide) (fun hc => ?_) (fun hc => ?_)
  · replace h := br_n hc h
    refine r_lv [1, 2, 3, 4] rfl ?_
    exact w_parallel_J105 C h hO
  · replace h := br_p hc h
    refine r_iload C 0 rfl dX6_parallel_79 ?_
    refine r_if_ne C (tgt := 105) dX6_parallel_81 (by decide) (fun hc => ?_) (fun hc => ?_)
    · replace h := br_n hc h
      refine r_lv [1, 2, 3, 4] rfl ?_
      exact w_parallel_J105 C h hO
    · replace h := br_p hc h
      refine r_aload_n C 1 rfl dX6_parallel_84 rfl ?_
      refine r_iload_n C 2 rfl dX6_parallel_85 rfl ?_
      refine r_iconst C (v := 2) dX6_parallel_86 (by decide) ?_
      obtain ⟨r6, qr6, h⟩ := bd_i h
      refine q_callV C 0 0 0 (c_is qr6) rfl mw_self rfl ok_is in_is lk6_146 rfl (Nat.le_of_ble_eq_true rfl) ⟨Nat.le_of_ble_eq_true rfl, Nat.le_of_ble_eq_true rfl⟩ dX6_parallel_87 rfl rfl ?_
      refine r_if_eq C (tgt := 102) dX6_parallel_90 (by decide) (fun hc => ?_) (fun hc => ?_)
      · replace h := br_p hc h
        refine r_bipush C (v := -2) dX6_parallel_102 (by decide) ?_
        obtain rfl := sm_i h
        exact r_ireturn C (Eq.symm hO) dX6_parallel_104
      · replace h := br_n hc h
        refine r_aload_n C 1 rfl dX6_parallel_93 rfl ?_
        refine r_iload_n C 3 rfl dX6_parallel_94 rfl ?_
        refine r_iconst C (v := 2) dX6_parallel_95 (by decide) ?_
        obtain ⟨r7, qr7, h⟩ := bd_i h
        refine q_callV C 0 0 0 (c_is qr7) rfl mw_self rfl ok_is in_is lk6_146 rfl (Nat.le_of_ble_eq_true rfl) ⟨Nat.le_of_ble_eq_true rfl, Nat.le_of_ble_eq_true rfl⟩ dX6_parallel_96 rfl rfl ?_
        refine r_if_ne C (tgt := 105) dX6_parallel_99 (by decide) (fun hc => ?_) (fun hc => ?_)
        · replace h := br_n hc h
          refine r_lv [1, 2, 3, 4] rfl ?_
          exact w_parallel_J105 C h hO
        · replace h := br_p hc h
          refine r_bipush C (v := -2) dX6_parallel_102 (by decide) ?_
          obtain rfl := sm_i h
          exact r_ireturn C (Eq.symm hO) dX6_parallel_104
set_option maxHeartbeats 4000000 in
set_option maxRecDepth 100000 in
theorem w_parallel_J68 {K : kT} {O : oT} (C : aC K cX6_parallel RX6 "parallel" 7 127 0 0 6 (some .int) O) {h0 : Nat} {hp : cH} {sz : Nat} {n : Int32} {p : Int64} {count : Int32} {sorts : Nat → Int32} {rows : Nat → Int64} {hand : Nat → Int64} {gathered : Int32} {gather : Nat → Int32} {paired : Int32} {pairA : Nat → Int32} {pairB : Nat → Int32} {ideal : Int32} {draft : Nat → Int64} {frame : Nat → Int64} {one : Nat → Int64} {two : Nat → Int64} {turned : Nat → Int64} {placeI : Int32} {placeJ : Int32} {formA : Int64} {formB : Int64} {formC : Int64} {l1 : Int32} {l2 : Int32} {l3 : Int32} {out : (Int32 × (Nat → Int64) × (Nat → Int64) × (Nat → Int64) × (Nat → Int64) × (Nat → Int64))} (h : m_parallel_J68 n p count sorts rows ideal draft frame one two turned l1 l2 l3 = some out) (hO : ((some (.int out.1), mw h0 hp n p count sorts rows hand gathered gather paired pairA pairB ideal out.2.1 out.2.2.1 out.2.2.2.1 out.2.2.2.2.1 out.2.2.2.2.2 placeI placeJ formA formB formC, sz) : oT) = O) : aW K (mw h0 hp n p count sorts rows hand gathered gather paired pairA pairB ideal draft frame one two turned placeI placeJ formA formB formC) sz 0 0 68 [(0, .ref h0), (1, .int l1), (2, .int l2), (3, .int l3)] [] := by
  unfold m_parallel_J68 at h
  refine r_iconst C (v := 1) dX6_parallel_68 (by decide) ?_
  refine r_goto C (tgt := 73) dX6_parallel_69 (by decide) ?_
  refine r_istore C (lv' := [(4, .int ((1 : Int32))), (0, .ref h0), (1, .int l1), (2, .int l2), (3, .int l3)]) dX6_parallel_73 (by decide) rfl ?_
  refine r_iload_n C 4 rfl dX6_parallel_75 rfl ?_
  refine r_if_ne C (tgt := 105) dX6_parallel_76 (by decide) (fun hc => ?_) (fun hc => ?_)
  · replace h := br_n hc h
    refine r_lv [1, 2, 3, 4] rfl ?_
    exact w_parallel_J105 C h hO
  · replace h := br_p hc h
    refine r_iload C 0 rfl dX6_parallel_79 ?_
    refine r_if_ne C (tgt := 105) dX6_parallel_81 (by decide) (fun hc => ?_) (fun hc => ?_)
    · replace h := br_n hc h
      refine r_lv [1, 2, 3, 4] rfl ?_
      exact w_parallel_J105 C h hO
    · replace h := br_p hc h
      refine r_aload_n C 1 rfl dX6_parallel_84 rfl ?_
      refine r_iload_n C 2 rfl dX6_parallel_85 rfl ?_
      refine r_iconst C (v := 2) dX6_parallel_86 (by decide) ?_
      obtain ⟨r11, qr11, h⟩ := bd_i h
      refine q_callV C 0 0 0 (c_is qr11) rfl mw_self rfl ok_is in_is lk6_146 rfl (Nat.le_of_ble_eq_true rfl) ⟨Nat.le_of_ble_eq_true rfl, Nat.le_of_ble_eq_true rfl⟩ dX6_parallel_87 rfl rfl ?_
      refine r_if_eq C (tgt := 102) dX6_parallel_90 (by decide) (fun hc => ?_) (fun hc => ?_)
      · replace h := br_p hc h
        refine r_bipush C (v := -2) dX6_parallel_102 (by decide) ?_
        obtain rfl := sm_i h
        exact r_ireturn C (Eq.symm hO) dX6_parallel_104
      · replace h := br_n hc h
        refine r_aload_n C 1 rfl dX6_parallel_93 rfl ?_
        refine r_iload_n C 3 rfl dX6_parallel_94 rfl ?_
        refine r_iconst C (v := 2) dX6_parallel_95 (by decide) ?_
        obtain ⟨r12, qr12, h⟩ := bd_i h
        refine q_callV C 0 0 0 (c_is qr12) rfl mw_self rfl ok_is in_is lk6_146 rfl (Nat.le_of_ble_eq_true rfl) ⟨Nat.le_of_ble_eq_true rfl, Nat.le_of_ble_eq_true rfl⟩ dX6_parallel_96 rfl rfl ?_
        refine r_if_ne C (tgt := 105) dX6_parallel_99 (by decide) (fun hc => ?_) (fun hc => ?_)
        · replace h := br_n hc h
          refine r_lv [1, 2, 3, 4] rfl ?_
          exact w_parallel_J105 C h hO
        · replace h := br_p hc h
          refine r_bipush C (v := -2) dX6_parallel_102 (by decide) ?_
          obtain rfl := sm_i h
          exact r_ireturn C (Eq.symm hO) dX6_parallel_104
set_option maxHeartbeats 4000000 in
set_option maxRecDepth 100000 in
theorem w_parallel_J50 {K : kT} {O : oT} (C : aC K cX6_parallel RX6 "parallel" 7 127 0 0 6 (some .int) O) {h0 : Nat} {hp : cH} {sz : Nat} {n : Int32} {p : Int64} {count : Int32} {sorts : Nat → Int32} {rows : Nat → Int64} {hand : Nat → Int64} {gathered : Int32} {gather : Nat → Int32} {paired : Int32} {pairA : Nat → Int32} {pairB : Nat → Int32} {ideal : Int32} {draft : Nat → Int64} {frame : Nat → Int64} {one : Nat → Int64} {two : Nat → Int64} {turned : Nat → Int64} {placeI : Int32} {placeJ : Int32} {formA : Int64} {formB : Int64} {formC : Int64} {l1 : Int32} {l2 : Int32} {l3 : Int32} {out : (Int32 × (Nat → Int64) × (Nat → Int64) × (Nat → Int64) × (Nat → Int64) × (Nat → Int64))} (h : m_parallel_J50 n p count sorts rows ideal draft frame one two turned l1 l2 l3 = some out) (hO : ((some (.int out.1), mw h0 hp n p count sorts rows hand gathered gather paired pairA pairB ideal out.2.1 out.2.2.1 out.2.2.2.1 out.2.2.2.2.1 out.2.2.2.2.2 placeI placeJ formA formB formC, sz) : oT) = O) : aW K (mw h0 hp n p count sorts rows hand gathered gather paired pairA pairB ideal draft frame one two turned placeI placeJ formA formB formC) sz 0 0 50 [(0, .ref h0), (1, .int l1), (2, .int l2), (3, .int l3)] [] := by
  unfold m_parallel_J50 at h
  refine r_aload_n C 0 rfl dX6_parallel_50 rfl ?_
  refine r_iload_n C 1 rfl dX6_parallel_51 rfl ?_
  refine r_iconst C (v := 2) dX6_parallel_52 (by decide) ?_
  obtain ⟨r9, qr9, h⟩ := bd_i h
  refine q_callV C 0 0 0 (c_is qr9) rfl mw_self rfl ok_is in_is lk6_146 rfl (Nat.le_of_ble_eq_true rfl) ⟨Nat.le_of_ble_eq_true rfl, Nat.le_of_ble_eq_true rfl⟩ dX6_parallel_53 rfl rfl ?_
  refine r_if_eq C (tgt := 72) dX6_parallel_56 (by decide) (fun hc => ?_) (fun hc => ?_)
  · replace h := br_p hc h
    refine r_lv [0, 1, 2, 3] rfl ?_
    exact w_parallel_J72 C h hO
  · replace h := br_n hc h
    refine r_aload_n C 0 rfl dX6_parallel_59 rfl ?_
    refine r_iload_n C 2 rfl dX6_parallel_60 rfl ?_
    refine r_iconst C (v := 1) dX6_parallel_61 (by decide) ?_
    obtain ⟨r10, qr10, h⟩ := bd_i h
    refine q_callV C 0 0 0 (c_is qr10) rfl mw_self rfl ok_is in_is lk6_146 rfl (Nat.le_of_ble_eq_true rfl) ⟨Nat.le_of_ble_eq_true rfl, Nat.le_of_ble_eq_true rfl⟩ dX6_parallel_62 rfl rfl ?_
    refine r_if_eq C (tgt := 72) dX6_parallel_65 (by decide) (fun hc => ?_) (fun hc => ?_)
    · replace h := br_p hc h
      refine r_lv [0, 1, 2, 3] rfl ?_
      exact w_parallel_J72 C h hO
    · replace h := br_n hc h
      refine r_lv [0, 1, 2, 3] rfl ?_
      exact w_parallel_J68 C h hO
set_option maxHeartbeats 4000000 in
set_option maxRecDepth 100000 in
theorem w_parallel_J22 {K : kT} {O : oT} (C : aC K cX6_parallel RX6 "parallel" 7 127 0 0 6 (some .int) O) {h0 : Nat} {hp : cH} {sz : Nat} {n : Int32} {p : Int64} {count : Int32} {sorts : Nat → Int32} {rows : Nat → Int64} {hand : Nat → Int64} {gathered : Int32} {gather : Nat → Int32} {paired : Int32} {pairA : Nat → Int32} {pairB : Nat → Int32} {ideal : Int32} {draft : Nat → Int64} {frame : Nat → Int64} {one : Nat → Int64} {two : Nat → Int64} {turned : Nat → Int64} {placeI : Int32} {placeJ : Int32} {formA : Int64} {formB : Int64} {formC : Int64} {l1 : Int32} {l2 : Int32} {out : (Int32 × (Nat → Int64) × (Nat → Int64) × (Nat → Int64) × (Nat → Int64) × (Nat → Int64))} (h : m_parallel_J22 n p count sorts rows ideal draft frame one two turned l1 l2 = some out) (hO : ((some (.int out.1), mw h0 hp n p count sorts rows hand gathered gather paired pairA pairB ideal out.2.1 out.2.2.1 out.2.2.2.1 out.2.2.2.2.1 out.2.2.2.2.2 placeI placeJ formA formB formC, sz) : oT) = O) : aW K (mw h0 hp n p count sorts rows hand gathered gather paired pairA pairB ideal draft frame one two turned placeI placeJ formA formB formC) sz 0 0 22 [(0, .ref h0), (1, .int l1), (2, .int l2)] [] := by
  unfold m_parallel_J22 at h
  refine r_iconst C (v := 0) dX6_parallel_22 (by decide) ?_
  refine r_istore_n C (lv' := [(3, .int ((0 : Int32))), (0, .ref h0), (1, .int l1), (2, .int l2)]) dX6_parallel_23 rfl (by decide) rfl ?_
  refine r_aload_n C 1 rfl dX6_parallel_24 rfl ?_
  refine m_g_n C dX6_parallel_25 ?_
  refine r_iconst C (v := 3) dX6_parallel_28 (by decide) ?_
  refine r_icmp_ne C (tgt := 72) dX6_parallel_29 (by decide) (fun hc => ?_) (fun hc => ?_)
  · replace h := br_n hc h
    refine r_lv [1, 2, 3, 0] rfl ?_
    exact w_parallel_J72 C h hO
  · replace h := br_p hc h
    refine r_aload_n C 1 rfl dX6_parallel_32 rfl ?_
    refine r_iload_n C 2 rfl dX6_parallel_33 rfl ?_
    refine r_iconst C (v := 1) dX6_parallel_34 (by decide) ?_
    obtain ⟨r8, qr8, h⟩ := bd_i h
    refine q_callV C 0 0 0 (c_is qr8) rfl mw_self rfl ok_is in_is lk6_146 rfl (Nat.le_of_ble_eq_true rfl) ⟨Nat.le_of_ble_eq_true rfl, Nat.le_of_ble_eq_true rfl⟩ dX6_parallel_35 rfl rfl ?_
    refine r_if_eq C (tgt := 50) dX6_parallel_38 (by decide) (fun hc => ?_) (fun hc => ?_)
    · replace h := br_p hc h
      refine r_lv [1, 2, 3, 0] rfl ?_
      exact w_parallel_J50 C h hO
    · replace h := br_n hc h
      refine r_aload_n C 1 rfl dX6_parallel_41 rfl ?_
      refine r_iload_n C 3 rfl dX6_parallel_42 rfl ?_
      refine r_iconst C (v := 2) dX6_parallel_43 (by decide) ?_
      obtain ⟨r13, qr13, h⟩ := bd_i h
      refine q_callV C 0 0 0 (c_is qr13) rfl mw_self rfl ok_is in_is lk6_146 rfl (Nat.le_of_ble_eq_true rfl) ⟨Nat.le_of_ble_eq_true rfl, Nat.le_of_ble_eq_true rfl⟩ dX6_parallel_44 rfl rfl ?_
      refine r_if_ne C (tgt := 68) dX6_parallel_47 (by decide) (fun hc => ?_) (fun hc => ?_)
      · replace h := br_n hc h
        refine r_lv [1, 2, 3, 0] rfl ?_
        exact w_parallel_J68 C h hO
      · replace h := br_p hc h
        refine r_lv [1, 2, 3, 0] rfl ?_
        exact w_parallel_J50 C h hO
set_option maxHeartbeats 4000000 in
set_option maxRecDepth 100000 in
theorem c_parallel {G : gT} {h0 : Nat} {hp : cH} {sz : Nat} {n : Int32} {p : Int64} {count : Int32} {sorts : Nat → Int32} {rows : Nat → Int64} {hand : Nat → Int64} {gathered : Int32} {gather : Nat → Int32} {paired : Int32} {pairA : Nat → Int32} {pairB : Nat → Int32} {ideal : Int32} {draft : Nat → Int64} {frame : Nat → Int64} {one : Nat → Int64} {two : Nat → Int64} {turned : Nat → Int64} {placeI : Int32} {placeJ : Int32} {formA : Int64} {formB : Int64} {formC : Int64} {x1 : Int32} {x2 : Int32} {out : (Int32 × (Nat → Int64) × (Nat → Int64) × (Nat → Int64) × (Nat → Int64) × (Nat → Int64))} (h : m_parallel n p count sorts rows ideal draft frame one two turned x1 x2 = some out) : aM G yX6_parallel cX6_parallel 6 (some .int) 7 127 0 0 [.ref h0, .int x1, .int x2] (mw h0 hp n p count sorts rows hand gathered gather paired pairA pairB ideal draft frame one two turned placeI placeJ formA formB formC) sz ((some (.int out.1), mw h0 hp n p count sorts rows hand gathered gather paired pairA pairB ideal out.2.1 out.2.2.1 out.2.2.2.1 out.2.2.2.2.1 out.2.2.2.2.2 placeI placeJ formA formB formC, sz) : oT) := by
  refine aM.of RX6 (by decide) rfl (Nat.le_of_ble_eq_true rfl) (fun K C => ?_)
  have hO : ((some (.int out.1), mw h0 hp n p count sorts rows hand gathered gather paired pairA pairB ideal out.2.1 out.2.2.1 out.2.2.2.1 out.2.2.2.2.1 out.2.2.2.2.2 placeI placeJ formA formB formC, sz) : oT) = ((some (.int out.1), mw h0 hp n p count sorts rows hand gathered gather paired pairA pairB ideal out.2.1 out.2.2.1 out.2.2.2.1 out.2.2.2.2.1 out.2.2.2.2.2 placeI placeJ formA formB formC, sz) : oT) := rfl
  refine r_lve (lv' := [(0, .ref h0), (1, .int x1), (2, .int x2)]) rfl ?_
  unfold m_parallel at h
  refine r_aload_n C 0 rfl dX6_parallel_0 rfl ?_
  refine r_iload_n C 1 rfl dX6_parallel_1 rfl ?_
  refine r_iconst C (v := 1) dX6_parallel_2 (by decide) ?_
  obtain ⟨r1, qr1, h⟩ := bd_i h
  refine q_callV C 0 0 0 (c_is qr1) rfl mw_self rfl ok_is in_is lk6_146 rfl (Nat.le_of_ble_eq_true rfl) ⟨Nat.le_of_ble_eq_true rfl, Nat.le_of_ble_eq_true rfl⟩ dX6_parallel_3 rfl rfl ?_
  refine r_if_eq C (tgt := 22) dX6_parallel_6 (by decide) (fun hc => ?_) (fun hc => ?_)
  · replace h := br_p hc h
    refine r_lv [0, 1, 2] rfl ?_
    exact w_parallel_J22 C h hO
  · replace h := br_n hc h
    refine r_aload_n C 0 rfl dX6_parallel_9 rfl ?_
    refine r_iload_n C 2 rfl dX6_parallel_10 rfl ?_
    refine r_iconst C (v := 1) dX6_parallel_11 (by decide) ?_
    obtain ⟨r14, qr14, h⟩ := bd_i h
    refine q_callV C 0 0 0 (c_is qr14) rfl mw_self rfl ok_is in_is lk6_146 rfl (Nat.le_of_ble_eq_true rfl) ⟨Nat.le_of_ble_eq_true rfl, Nat.le_of_ble_eq_true rfl⟩ dX6_parallel_12 rfl rfl ?_
    refine r_if_eq C (tgt := 22) dX6_parallel_15 (by decide) (fun hc => ?_) (fun hc => ?_)
    · replace h := br_p hc h
      refine r_lv [0, 1, 2] rfl ?_
      exact w_parallel_J22 C h hO
    · replace h := br_n hc h
      refine r_iconst C (v := 1) dX6_parallel_18 (by decide) ?_
      refine r_goto C (tgt := 23) dX6_parallel_19 (by decide) ?_
      refine r_istore_n C (lv' := [(3, .int ((1 : Int32))), (0, .ref h0), (1, .int x1), (2, .int x2)]) dX6_parallel_23 rfl (by decide) rfl ?_
      refine r_aload_n C 1 rfl dX6_parallel_24 rfl ?_
      refine m_g_n C dX6_parallel_25 ?_
      refine r_iconst C (v := 3) dX6_parallel_28 (by decide) ?_
      refine r_icmp_ne C (tgt := 72) dX6_parallel_29 (by decide) (fun hc => ?_) (fun hc => ?_)
      · replace h := br_n hc h
        refine r_lv [1, 2, 3, 0] rfl ?_
        exact w_parallel_J72 C h hO
      · replace h := br_p hc h
        refine r_aload_n C 1 rfl dX6_parallel_32 rfl ?_
        refine r_iload_n C 2 rfl dX6_parallel_33 rfl ?_
        refine r_iconst C (v := 1) dX6_parallel_34 (by decide) ?_
        obtain ⟨r15, qr15, h⟩ := bd_i h
        refine q_callV C 0 0 0 (c_is qr15) rfl mw_self rfl ok_is in_is lk6_146 rfl (Nat.le_of_ble_eq_true rfl) ⟨Nat.le_of_ble_eq_true rfl, Nat.le_of_ble_eq_true rfl⟩ dX6_parallel_35 rfl rfl ?_
        refine r_if_eq C (tgt := 50) dX6_parallel_38 (by decide) (fun hc => ?_) (fun hc => ?_)
        · replace h := br_p hc h
          refine r_lv [1, 2, 3, 0] rfl ?_
          exact w_parallel_J50 C h hO
        · replace h := br_n hc h
          refine r_aload_n C 1 rfl dX6_parallel_41 rfl ?_
          refine r_iload_n C 3 rfl dX6_parallel_42 rfl ?_
          refine r_iconst C (v := 2) dX6_parallel_43 (by decide) ?_
          obtain ⟨r16, qr16, h⟩ := bd_i h
          refine q_callV C 0 0 0 (c_is qr16) rfl mw_self rfl ok_is in_is lk6_146 rfl (Nat.le_of_ble_eq_true rfl) ⟨Nat.le_of_ble_eq_true rfl, Nat.le_of_ble_eq_true rfl⟩ dX6_parallel_44 rfl rfl ?_
          refine r_if_ne C (tgt := 68) dX6_parallel_47 (by decide) (fun hc => ?_) (fun hc => ?_)
          · replace h := br_n hc h
            refine r_lv [1, 2, 3, 0] rfl ?_
            exact w_parallel_J68 C h hO
          · replace h := br_p hc h
            refine r_lv [1, 2, 3, 0] rfl ?_
            exact w_parallel_J50 C h hO
noncomputable def m_middle_L92 (n : Int32) (p : Int64) (rows : Nat → Int64) (l1 : Int32) (l2 : Int32) (l3 : Int64) (l5 : Int64) (s : (Int32 × (Nat → Int64))) : Option ((Int32 × (Nat → Int64)) ⊕ (Nat → Int64)) := (m_side n).bind fun r8 => if r8 ≤ s.1 then (some (.inr s.2)) else ((m_of rows l1 s.1).bind fun r9 => (m_times p l3 r9).bind fun r10 => (m_of rows l2 s.1).bind fun r11 => (m_times p l5 r11).bind fun r12 => if p = 0 then none else if gi s.1 16 then some (.inl (s.1 + 1, vp_updL s.2 s.1.toNatClampNeg ((r10 + r12) - (r10 + r12) / p * p))) else none)
noncomputable def m_middle (n : Int32) (p : Int64) (count : Int32) (sorts : Nat → Int32) (rows : Nat → Int64) (ideal : Int32) (draft : Nat → Int64) (x1 : Int32) (x2 : Int32) : Option (Int32 × Int32 × (Nat → Int32) × (Nat → Int64) × (Nat → Int64)) := (m_is count sorts x1 ((0 : Int32))).bind fun r1 => if r1 = 0 then (some ((-2 : Int32), count, sorts, rows, draft)) else ((m_is count sorts x2 ((0 : Int32))).bind fun r2 => if r2 = 0 then (some ((-2 : Int32), count, sorts, rows, draft)) else (if x1 = x2 then (some ((-1 : Int32), count, sorts, rows, draft)) else (if ideal = ((-1 : Int32)) then (some ((-1 : Int32), count, sorts, rows, draft)) else ((m_dot n p rows x1 ideal).bind fun r3 => if r3 = ((0 : Int64)) then (some ((-1 : Int32), count, sorts, rows, draft)) else ((m_dot n p rows x2 ideal).bind fun r4 => if r4 = ((0 : Int64)) then (some ((-1 : Int32), count, sorts, rows, draft)) else ((m_dot n p rows x2 ideal).bind fun r5 => (m_dot n p rows x1 ideal).bind fun r6 => (m_clear draft).bind fun r7 => (itX (m_middle_L92 n p rows x1 x2 r5 r6) ((0 : Int32), r7)).bind fun r13 => (m_madeOrNone n p count sorts rows r13 ((0 : Int32))).bind fun r14 => some (r14.1, r14.2.1, r14.2.2.1, r14.2.2.2.1, r14.2.2.2.2)))))))
set_option maxHeartbeats 4000000 in
set_option maxRecDepth 100000 in
theorem w_middle_L92 {K : kT} {O : oT} (C : aC K cX6_middle RX6 "middle" 6 98 0 0 8 (some .int) O) {h0 : Nat} {hp : cH} {sz : Nat} {n : Int32} {p : Int64} {count : Int32} {sorts : Nat → Int32} {rows : Nat → Int64} {hand : Nat → Int64} {gathered : Int32} {gather : Nat → Int32} {paired : Int32} {pairA : Nat → Int32} {pairB : Nat → Int32} {ideal : Int32} {frame : Nat → Int64} {one : Nat → Int64} {two : Nat → Int64} {turned : Nat → Int64} {placeI : Int32} {placeJ : Int32} {formA : Int64} {formB : Int64} {formC : Int64} {l1 : Int32} {l2 : Int32} {l3 : Int64} {l5 : Int64} {v0 : Int32} {v1 : Nat → Int64} {r : (Nat → Int64)} (h : itX (m_middle_L92 n p rows l1 l2 l3 l5) (v0, v1) = some r) (hr : aW K (mw h0 hp n p count sorts rows hand gathered gather paired pairA pairB ideal r frame one two turned placeI placeJ formA formB formC) sz 0 0 145 [(0, .ref h0)] []) : aW K (mw h0 hp n p count sorts rows hand gathered gather paired pairA pairB ideal v1 frame one two turned placeI placeJ formA formB formC) sz 0 0 92 [(0, .ref h0), (1, .int l1), (2, .int l2), (3, .long l3), (5, .long l5), (7, .int v0)] [] := by
  refine it_walk (f := m_middle_L92 n p rows l1 l2 l3 l5) (P := fun s => aW K (mw h0 hp n p count sorts rows hand gathered gather paired pairA pairB ideal s.2 frame one two turned placeI placeJ formA formB formC) sz 0 0 92 [(0, .ref h0), (1, .int l1), (2, .int l2), (3, .long l3), (5, .long l5), (7, .int s.1)] []) (R := fun r => aW K (mw h0 hp n p count sorts rows hand gathered gather paired pairA pairB ideal r frame one two turned placeI placeJ formA formB formC) sz 0 0 145 [(0, .ref h0)] []) ?_ h hr
  clear h hr
  intro s x h kl kr
  unfold m_middle_L92 at h
  refine r_iload C 5 rfl dX6_middle_92 ?_
  refine r_aload_n C 0 rfl dX6_middle_94 rfl ?_
  obtain ⟨r8, qr8, h⟩ := bd_i h
  refine q_callV C 1 0 0 (c_side qr8) rfl mw_self rfl ok_side in_side lk6_111 rfl (Nat.le_of_ble_eq_true rfl) ⟨Nat.le_of_ble_eq_true rfl, Nat.le_of_ble_eq_true rfl⟩ dX6_middle_95 rfl rfl ?_
  refine r_icmp_ge C (tgt := 145) dX6_middle_98 (by decide) (fun hc => ?_) (fun hc => ?_)
  · replace h := br_p hc h
    refine r_lv [0] rfl ?_
    exact kr _ (sm_i h)
  · replace h := br_n hc h
    refine r_aload_n C 0 rfl dX6_middle_101 rfl ?_
    refine m_g_draft C dX6_middle_102 ?_
    refine r_iload C 5 rfl dX6_middle_105 ?_
    refine r_aload_n C 0 rfl dX6_middle_107 rfl ?_
    refine r_lload_n C 3 rfl dX6_middle_108 rfl ?_
    refine r_aload_n C 0 rfl dX6_middle_109 rfl ?_
    refine r_iload_n C 1 rfl dX6_middle_110 rfl ?_
    refine r_iload C 5 rfl dX6_middle_111 ?_
    obtain ⟨r9, qr9, h⟩ := bd_i h
    refine q_callV C 5 0 0 (c_of qr9) rfl mw_self rfl ok_of in_of lk6_108 rfl (Nat.le_of_ble_eq_true rfl) ⟨Nat.le_of_ble_eq_true rfl, Nat.le_of_ble_eq_true rfl⟩ dX6_middle_113 rfl rfl ?_
    obtain ⟨r10, qr10, h⟩ := bd_i h
    refine q_callV C 2 0 0 (c_times qr10) rfl mw_self rfl ok_times in_times lk6_76 rfl (Nat.le_of_ble_eq_true rfl) ⟨Nat.le_of_ble_eq_true rfl, Nat.le_of_ble_eq_true rfl⟩ dX6_middle_116 rfl rfl ?_
    refine r_aload_n C 0 rfl dX6_middle_119 rfl ?_
    refine r_lload C 4 rfl dX6_middle_120 ?_
    refine r_aload_n C 0 rfl dX6_middle_122 rfl ?_
    refine r_iload_n C 2 rfl dX6_middle_123 rfl ?_
    refine r_iload C 5 rfl dX6_middle_124 ?_
    obtain ⟨r11, qr11, h⟩ := bd_i h
    refine q_callV C 7 0 0 (c_of qr11) rfl mw_self rfl ok_of in_of lk6_108 rfl (Nat.le_of_ble_eq_true rfl) ⟨Nat.le_of_ble_eq_true rfl, Nat.le_of_ble_eq_true rfl⟩ dX6_middle_126 rfl rfl ?_
    obtain ⟨r12, qr12, h⟩ := bd_i h
    refine q_callV C 4 0 0 (c_times qr12) rfl mw_self rfl ok_times in_times lk6_76 rfl (Nat.le_of_ble_eq_true rfl) ⟨Nat.le_of_ble_eq_true rfl, Nat.le_of_ble_eq_true rfl⟩ dX6_middle_129 rfl rfl ?_
    refine r_ladd C dX6_middle_132 ?_
    refine r_aload_n C 0 rfl dX6_middle_133 rfl ?_
    refine m_g_p C dX6_middle_134 ?_
    obtain ⟨hne, h⟩ := gd_n h
    refine r_lrem C dX6_middle_137 hne ?_
    obtain ⟨hi, h⟩ := gd_t h
    refine m_s_draft C hi dX6_middle_138 ?_
    refine r_iinc C (v := s.1 + 1) (lv' := [(7, .int (s.1 + 1)), (0, .ref h0), (1, .int l1), (2, .int l2), (3, .long l3), (5, .long l5)]) 5 rfl dX6_middle_139 rfl (by decide) rfl ?_
    refine r_goto C (tgt := 92) dX6_middle_142 (by decide) ?_
    refine r_lv [1, 2, 3, 4, 5, 0] rfl ?_
    exact kl _ (sm_i h)
set_option maxHeartbeats 4000000 in
set_option maxRecDepth 100000 in
theorem c_middle {G : gT} {h0 : Nat} {hp : cH} {sz : Nat} {n : Int32} {p : Int64} {count : Int32} {sorts : Nat → Int32} {rows : Nat → Int64} {hand : Nat → Int64} {gathered : Int32} {gather : Nat → Int32} {paired : Int32} {pairA : Nat → Int32} {pairB : Nat → Int32} {ideal : Int32} {draft : Nat → Int64} {frame : Nat → Int64} {one : Nat → Int64} {two : Nat → Int64} {turned : Nat → Int64} {placeI : Int32} {placeJ : Int32} {formA : Int64} {formB : Int64} {formC : Int64} {x1 : Int32} {x2 : Int32} {out : (Int32 × Int32 × (Nat → Int32) × (Nat → Int64) × (Nat → Int64))} (h : m_middle n p count sorts rows ideal draft x1 x2 = some out) : aM G yX6_middle cX6_middle 8 (some .int) 6 98 0 0 [.ref h0, .int x1, .int x2] (mw h0 hp n p count sorts rows hand gathered gather paired pairA pairB ideal draft frame one two turned placeI placeJ formA formB formC) sz ((some (.int out.1), mw h0 hp n p out.2.1 out.2.2.1 out.2.2.2.1 hand gathered gather paired pairA pairB ideal out.2.2.2.2 frame one two turned placeI placeJ formA formB formC, sz) : oT) := by
  refine aM.of RX6 (by decide) rfl (Nat.le_of_ble_eq_true rfl) (fun K C => ?_)
  have hO : ((some (.int out.1), mw h0 hp n p out.2.1 out.2.2.1 out.2.2.2.1 hand gathered gather paired pairA pairB ideal out.2.2.2.2 frame one two turned placeI placeJ formA formB formC, sz) : oT) = ((some (.int out.1), mw h0 hp n p out.2.1 out.2.2.1 out.2.2.2.1 hand gathered gather paired pairA pairB ideal out.2.2.2.2 frame one two turned placeI placeJ formA formB formC, sz) : oT) := rfl
  refine r_lve (lv' := [(0, .ref h0), (1, .int x1), (2, .int x2)]) rfl ?_
  unfold m_middle at h
  refine r_aload_n C 0 rfl dX6_middle_0 rfl ?_
  refine r_iload_n C 1 rfl dX6_middle_1 rfl ?_
  refine r_iconst C (v := 0) dX6_middle_2 (by decide) ?_
  obtain ⟨r1, qr1, h⟩ := bd_i h
  refine q_callV C 0 0 0 (c_is qr1) rfl mw_self rfl ok_is in_is lk6_146 rfl (Nat.le_of_ble_eq_true rfl) ⟨Nat.le_of_ble_eq_true rfl, Nat.le_of_ble_eq_true rfl⟩ dX6_middle_3 rfl rfl ?_
  refine r_if_eq C (tgt := 18) dX6_middle_6 (by decide) (fun hc => ?_) (fun hc => ?_)
  · replace h := br_p hc h
    refine r_bipush C (v := -2) dX6_middle_18 (by decide) ?_
    obtain rfl := sm_i h
    exact r_ireturn C (Eq.symm hO) dX6_middle_20
  · replace h := br_n hc h
    refine r_aload_n C 0 rfl dX6_middle_9 rfl ?_
    refine r_iload_n C 2 rfl dX6_middle_10 rfl ?_
    refine r_iconst C (v := 0) dX6_middle_11 (by decide) ?_
    obtain ⟨r2, qr2, h⟩ := bd_i h
    refine q_callV C 0 0 0 (c_is qr2) rfl mw_self rfl ok_is in_is lk6_146 rfl (Nat.le_of_ble_eq_true rfl) ⟨Nat.le_of_ble_eq_true rfl, Nat.le_of_ble_eq_true rfl⟩ dX6_middle_12 rfl rfl ?_
    refine r_if_ne C (tgt := 21) dX6_middle_15 (by decide) (fun hc => ?_) (fun hc => ?_)
    · replace h := br_n hc h
      refine r_iload_n C 1 rfl dX6_middle_21 rfl ?_
      refine r_iload_n C 2 rfl dX6_middle_22 rfl ?_
      refine r_icmp_eq C (tgt := 62) dX6_middle_23 (by decide) (fun hc => ?_) (fun hc => ?_)
      · replace h := br_p hc h
        refine r_iconst C (v := -1) dX6_middle_62 (by decide) ?_
        obtain rfl := sm_i h
        exact r_ireturn C (Eq.symm hO) dX6_middle_63
      · replace h := br_n hc h
        refine r_aload_n C 0 rfl dX6_middle_26 rfl ?_
        refine m_g_ideal C dX6_middle_27 ?_
        refine r_iconst C (v := -1) dX6_middle_30 (by decide) ?_
        refine r_icmp_eq C (tgt := 62) dX6_middle_31 (by decide) (fun hc => ?_) (fun hc => ?_)
        · replace h := br_p hc h
          refine r_iconst C (v := -1) dX6_middle_62 (by decide) ?_
          obtain rfl := sm_i h
          exact r_ireturn C (Eq.symm hO) dX6_middle_63
        · replace h := br_n hc h
          refine r_aload_n C 0 rfl dX6_middle_34 rfl ?_
          refine r_iload_n C 1 rfl dX6_middle_35 rfl ?_
          refine r_aload_n C 0 rfl dX6_middle_36 rfl ?_
          refine m_g_ideal C dX6_middle_37 ?_
          obtain ⟨r3, qr3, h⟩ := bd_i h
          refine q_callV C 0 0 0 (c_dot qr3) rfl mw_self rfl ok_dot in_dot lk6_191 rfl (Nat.le_of_ble_eq_true rfl) ⟨Nat.le_of_ble_eq_true rfl, Nat.le_of_ble_eq_true rfl⟩ dX6_middle_40 rfl rfl ?_
          refine r_lconst C (v := 0) dX6_middle_43 (by decide) ?_
          refine r_leq C (tgt := 62) dX6_middle_44 dX6_middle_45 (by decide) (fun hc => ?_) (fun hc => ?_)
          · replace h := br_p hc h
            refine r_iconst C (v := -1) dX6_middle_62 (by decide) ?_
            obtain rfl := sm_i h
            exact r_ireturn C (Eq.symm hO) dX6_middle_63
          · replace h := br_n hc h
            refine r_aload_n C 0 rfl dX6_middle_48 rfl ?_
            refine r_iload_n C 2 rfl dX6_middle_49 rfl ?_
            refine r_aload_n C 0 rfl dX6_middle_50 rfl ?_
            refine m_g_ideal C dX6_middle_51 ?_
            obtain ⟨r4, qr4, h⟩ := bd_i h
            refine q_callV C 0 0 0 (c_dot qr4) rfl mw_self rfl ok_dot in_dot lk6_191 rfl (Nat.le_of_ble_eq_true rfl) ⟨Nat.le_of_ble_eq_true rfl, Nat.le_of_ble_eq_true rfl⟩ dX6_middle_54 rfl rfl ?_
            refine r_lconst C (v := 0) dX6_middle_57 (by decide) ?_
            refine r_lne C (tgt := 64) dX6_middle_58 dX6_middle_59 (by decide) (fun hc => ?_) (fun hc => ?_)
            · replace h := br_n hc h
              refine r_aload_n C 0 rfl dX6_middle_64 rfl ?_
              refine r_iload_n C 2 rfl dX6_middle_65 rfl ?_
              refine r_aload_n C 0 rfl dX6_middle_66 rfl ?_
              refine m_g_ideal C dX6_middle_67 ?_
              obtain ⟨r5, qr5, h⟩ := bd_i h
              refine q_callV C 0 0 0 (c_dot qr5) rfl mw_self rfl ok_dot in_dot lk6_191 rfl (Nat.le_of_ble_eq_true rfl) ⟨Nat.le_of_ble_eq_true rfl, Nat.le_of_ble_eq_true rfl⟩ dX6_middle_70 rfl rfl ?_
              refine r_lstore_n C (lv' := [(3, .long r5), (0, .ref h0), (1, .int x1), (2, .int x2)]) dX6_middle_73 rfl (by decide) rfl ?_
              refine r_aload_n C 1 rfl dX6_middle_74 rfl ?_
              refine r_iload_n C 2 rfl dX6_middle_75 rfl ?_
              refine r_aload_n C 1 rfl dX6_middle_76 rfl ?_
              refine m_g_ideal C dX6_middle_77 ?_
              obtain ⟨r6, qr6, h⟩ := bd_i h
              refine q_callV C 0 0 0 (c_dot qr6) rfl mw_self rfl ok_dot in_dot lk6_191 rfl (Nat.le_of_ble_eq_true rfl) ⟨Nat.le_of_ble_eq_true rfl, Nat.le_of_ble_eq_true rfl⟩ dX6_middle_80 rfl rfl ?_
              refine r_lstore C (lv' := [(5, .long r6), (3, .long r5), (0, .ref h0), (1, .int x1), (2, .int x2)]) dX6_middle_83 (by decide) rfl ?_
              refine r_aload_n C 2 rfl dX6_middle_85 rfl ?_
              obtain ⟨r7, qr7, h⟩ := bd_i h
              refine q_callVv C 0 0 0 (c_clear qr7) rfl mw_self rfl ok_clear in_clear lk6_136 rfl (Nat.le_of_ble_eq_true rfl) ⟨Nat.le_of_ble_eq_true rfl, Nat.le_of_ble_eq_true rfl⟩ dX6_middle_86 rfl rfl ?_
              refine r_iconst C (v := 0) dX6_middle_89 (by decide) ?_
              refine r_istore C (lv' := [(7, .int ((0 : Int32))), (5, .long r6), (3, .long r5), (0, .ref h0), (1, .int x1), (2, .int x2)]) dX6_middle_90 (by decide) rfl ?_
              refine r_lv [3, 4, 5, 2, 1, 0] rfl ?_
              obtain ⟨r13, qr13, h⟩ := bd_i h
              refine w_middle_L92 C qr13 ?_
              refine r_aload_n C 0 rfl dX6_middle_145 rfl ?_
              refine r_iconst C (v := 0) dX6_middle_146 (by decide) ?_
              obtain ⟨r14, qr14, h⟩ := bd_i h
              refine q_callV C 0 0 0 (c_madeOrNone qr14) rfl mw_self rfl ok_madeOrNone in_madeOrNone lk6_168 rfl (Nat.le_of_ble_eq_true rfl) ⟨Nat.le_of_ble_eq_true rfl, Nat.le_of_ble_eq_true rfl⟩ dX6_middle_147 rfl rfl ?_
              obtain rfl := sm_i h
              exact r_ireturn C (Eq.symm hO) dX6_middle_150
            · replace h := br_p hc h
              refine r_iconst C (v := -1) dX6_middle_62 (by decide) ?_
              obtain rfl := sm_i h
              exact r_ireturn C (Eq.symm hO) dX6_middle_63
    · replace h := br_p hc h
      refine r_bipush C (v := -2) dX6_middle_18 (by decide) ?_
      obtain rfl := sm_i h
      exact r_ireturn C (Eq.symm hO) dX6_middle_20
noncomputable def m_isLine_L23J132 (one : Nat → Int64) (two : Nat → Int64) (l6 : Int32) : Option ((Int32 × (Nat → Int64) × (Nat → Int64)) ⊕ ((Nat → Int64) × (Nat → Int64))) := some (.inl (l6 + 1, one, two))
noncomputable def m_isLine_L23 (p : Int64) (rows : Nat → Int64) (gather : Nat → Int32) (l1 : Int32) (l2 : Int32) (l3 : Int32) (s : (Int32 × (Nat → Int64) × (Nat → Int64))) : Option ((Int32 × (Nat → Int64) × (Nat → Int64)) ⊕ ((Nat → Int64) × (Nat → Int64))) := if ((3 : Int32)) ≤ s.1 then (some (.inr (s.2.1, s.2.2))) else (if gi l1 9 then (m_of rows (gather l1.toNatClampNeg) ((s.1 + ((1 : Int32))) - (s.1 + ((1 : Int32))) / ((3 : Int32)) * ((3 : Int32)))).bind fun r1 => if gi l2 9 then (m_of rows (gather l2.toNatClampNeg) ((s.1 + ((2 : Int32))) - (s.1 + ((2 : Int32))) / ((3 : Int32)) * ((3 : Int32)))).bind fun r2 => (m_times p r1 r2).bind fun r3 => if gi l1 9 then (m_of rows (gather l1.toNatClampNeg) ((s.1 + ((2 : Int32))) - (s.1 + ((2 : Int32))) / ((3 : Int32)) * ((3 : Int32)))).bind fun r4 => if gi l2 9 then (m_of rows (gather l2.toNatClampNeg) ((s.1 + ((1 : Int32))) - (s.1 + ((1 : Int32))) / ((3 : Int32)) * ((3 : Int32)))).bind fun r5 => (m_times p r4 r5).bind fun r6 => (m_less p r3 r6).bind fun r7 => if l3 = 0 then (if gi s.1 16 then m_isLine_L23J132 s.2.1 (vp_updL s.2.2 s.1.toNatClampNeg r7) s.1 else none) else (if gi s.1 16 then m_isLine_L23J132 (vp_updL s.2.1 s.1.toNatClampNeg r7) s.2.2 s.1 else none) else none else none else none else none)
noncomputable def m_isLine (p : Int64) (rows : Nat → Int64) (gather : Nat → Int32) (one : Nat → Int64) (two : Nat → Int64) (x1 : Int32) (x2 : Int32) (x3 : Int32) : Option (Int32 × (Nat → Int64) × (Nat → Int64)) := if gi x1 9 then if gi x2 9 then if (gather x1.toNatClampNeg) = (gather x2.toNatClampNeg) then (some ((0 : Int32), one, two)) else ((itX (m_isLine_L23 p rows gather x1 x2 x3) ((0 : Int32), one, two)).bind fun r8 => some ((1 : Int32), r8.1, r8.2)) else none else none
set_option maxHeartbeats 4000000 in
set_option maxRecDepth 100000 in
theorem w_isLine_L23J132 {K : kT} {O : oT} (C : aC K cX6_isLine RX6 "isLine" 1 20 0 0 9 (some .boolean) O) {h0 : Nat} {hp : cH} {sz : Nat} {n : Int32} {p : Int64} {count : Int32} {sorts : Nat → Int32} {rows : Nat → Int64} {hand : Nat → Int64} {gathered : Int32} {gather : Nat → Int32} {paired : Int32} {pairA : Nat → Int32} {pairB : Nat → Int32} {ideal : Int32} {draft : Nat → Int64} {frame : Nat → Int64} {one : Nat → Int64} {two : Nat → Int64} {turned : Nat → Int64} {placeI : Int32} {placeJ : Int32} {formA : Int64} {formB : Int64} {formC : Int64} {l1 : Int32} {l2 : Int32} {l3 : Int32} {l6 : Int32}  {x : (Int32 × (Nat → Int64) × (Nat → Int64)) ⊕ ((Nat → Int64) × (Nat → Int64))} (h : m_isLine_L23J132 one two l6 = some x) (kl : ∀ s, x = .inl s → aW K (mw h0 hp n p count sorts rows hand gathered gather paired pairA pairB ideal draft frame s.2.1 s.2.2 turned placeI placeJ formA formB formC) sz 0 0 23 [(0, .ref h0), (1, .int l1), (2, .int l2), (3, .int l3), (6, .int s.1)] []) (kr : ∀ r, x = .inr r → aW K (mw h0 hp n p count sorts rows hand gathered gather paired pairA pairB ideal draft frame r.1 r.2 turned placeI placeJ formA formB formC) sz 0 0 138 [] []) : aW K (mw h0 hp n p count sorts rows hand gathered gather paired pairA pairB ideal draft frame one two turned placeI placeJ formA formB formC) sz 0 0 132 [(0, .ref h0), (1, .int l1), (2, .int l2), (3, .int l3), (6, .int l6)] [] := by
  unfold m_isLine_L23J132 at h
  refine r_iinc C (v := l6 + 1) (lv' := [(6, .int (l6 + 1)), (0, .ref h0), (1, .int l1), (2, .int l2), (3, .int l3)]) 4 rfl dX6_isLine_132 rfl (by decide) rfl ?_
  refine r_goto C (tgt := 23) dX6_isLine_135 (by decide) ?_
  refine r_lv [1, 2, 3, 4, 0] rfl ?_
  exact kl _ (sm_i h)
set_option maxHeartbeats 4000000 in
set_option maxRecDepth 100000 in
theorem w_isLine_L23 {K : kT} {O : oT} (C : aC K cX6_isLine RX6 "isLine" 1 20 0 0 9 (some .boolean) O) {h0 : Nat} {hp : cH} {sz : Nat} {n : Int32} {p : Int64} {count : Int32} {sorts : Nat → Int32} {rows : Nat → Int64} {hand : Nat → Int64} {gathered : Int32} {gather : Nat → Int32} {paired : Int32} {pairA : Nat → Int32} {pairB : Nat → Int32} {ideal : Int32} {draft : Nat → Int64} {frame : Nat → Int64} {turned : Nat → Int64} {placeI : Int32} {placeJ : Int32} {formA : Int64} {formB : Int64} {formC : Int64} {l1 : Int32} {l2 : Int32} {l3 : Int32} {v0 : Int32} {v1 : Nat → Int64} {v2 : Nat → Int64} {r : ((Nat → Int64) × (Nat → Int64))} (h : itX (m_isLine_L23 p rows gather l1 l2 l3) (v0, v1, v2) = some r) (hr : aW K (mw h0 hp n p count sorts rows hand gathered gather paired pairA pairB ideal draft frame r.1 r.2 turned placeI placeJ formA formB formC) sz 0 0 138 [] []) : aW K (mw h0 hp n p count sorts rows hand gathered gather paired pairA pairB ideal draft frame v1 v2 turned placeI placeJ formA formB formC) sz 0 0 23 [(0, .ref h0), (1, .int l1), (2, .int l2), (3, .int l3), (6, .int v0)] [] := by
  refine it_walk (f := m_isLine_L23 p rows gather l1 l2 l3) (P := fun s => aW K (mw h0 hp n p count sorts rows hand gathered gather paired pairA pairB ideal draft frame s.2.1 s.2.2 turned placeI placeJ formA formB formC) sz 0 0 23 [(0, .ref h0), (1, .int l1), (2, .int l2), (3, .int l3), (6, .int s.1)] []) (R := fun r => aW K (mw h0 hp n p count sorts rows hand gathered gather paired pairA pairB ideal draft frame r.1 r.2 turned placeI placeJ formA formB formC) sz 0 0 138 [] []) ?_ h hr
  clear h hr
  intro s x h kl kr
  unfold m_isLine_L23 at h
  refine r_iload C 4 rfl dX6_isLine_23 ?_
  refine r_iconst C (v := 3) dX6_isLine_25 (by decide) ?_
  refine r_icmp_ge C (tgt := 138) dX6_isLine_26 (by decide) (fun hc => ?_) (fun hc => ?_)
  · replace h := br_p hc h
    refine r_lv [] rfl ?_
    exact kr _ (sm_i h)
  · replace h := br_n hc h
    refine r_iload C 4 rfl dX6_isLine_29 ?_
    refine r_iconst C (v := 1) dX6_isLine_31 (by decide) ?_
    refine r_iadd C dX6_isLine_32 ?_
    refine r_iconst C (v := 3) dX6_isLine_33 (by decide) ?_
    refine r_irem C dX6_isLine_34 (by decide) ?_
    refine r_istore C (lv' := [(7, .int ((s.1 + ((1 : Int32))) - (s.1 + ((1 : Int32))) / ((3 : Int32)) * ((3 : Int32)))), (0, .ref h0), (1, .int l1), (2, .int l2), (3, .int l3), (6, .int s.1)]) dX6_isLine_35 (by decide) rfl ?_
    refine r_iload C 5 rfl dX6_isLine_37 ?_
    refine r_iconst C (v := 2) dX6_isLine_39 (by decide) ?_
    refine r_iadd C dX6_isLine_40 ?_
    refine r_iconst C (v := 3) dX6_isLine_41 (by decide) ?_
    refine r_irem C dX6_isLine_42 (by decide) ?_
    refine r_istore C (lv' := [(8, .int ((s.1 + ((2 : Int32))) - (s.1 + ((2 : Int32))) / ((3 : Int32)) * ((3 : Int32)))), (7, .int ((s.1 + ((1 : Int32))) - (s.1 + ((1 : Int32))) / ((3 : Int32)) * ((3 : Int32)))), (0, .ref h0), (1, .int l1), (2, .int l2), (3, .int l3), (6, .int s.1)]) dX6_isLine_43 (by decide) rfl ?_
    refine r_aload_n C 2 rfl dX6_isLine_45 rfl ?_
    refine r_aload_n C 2 rfl dX6_isLine_46 rfl ?_
    refine r_aload_n C 2 rfl dX6_isLine_47 rfl ?_
    refine r_aload_n C 2 rfl dX6_isLine_48 rfl ?_
    refine m_g_gather C dX6_isLine_49 ?_
    refine r_iload_n C 3 rfl dX6_isLine_52 rfl ?_
    obtain ⟨hi, h⟩ := gd_t h
    refine m_l_gather C hi dX6_isLine_53 ?_
    refine r_iload C 1 rfl dX6_isLine_54 ?_
    obtain ⟨r1, qr1, h⟩ := bd_i h
    refine q_callV C 2 0 0 (c_of qr1) rfl mw_self rfl ok_of in_of lk6_108 rfl (Nat.le_of_ble_eq_true rfl) ⟨Nat.le_of_ble_eq_true rfl, Nat.le_of_ble_eq_true rfl⟩ dX6_isLine_56 rfl rfl ?_
    refine r_aload_n C 2 rfl dX6_isLine_59 rfl ?_
    refine r_aload_n C 2 rfl dX6_isLine_60 rfl ?_
    refine m_g_gather C dX6_isLine_61 ?_
    refine r_iload_n C 4 rfl dX6_isLine_64 rfl ?_
    obtain ⟨hi, h⟩ := gd_t h
    refine m_l_gather C hi dX6_isLine_65 ?_
    refine r_iload C 0 rfl dX6_isLine_66 ?_
    obtain ⟨r2, qr2, h⟩ := bd_i h
    refine q_callV C 4 0 0 (c_of qr2) rfl mw_self rfl ok_of in_of lk6_108 rfl (Nat.le_of_ble_eq_true rfl) ⟨Nat.le_of_ble_eq_true rfl, Nat.le_of_ble_eq_true rfl⟩ dX6_isLine_68 rfl rfl ?_
    obtain ⟨r3, qr3, h⟩ := bd_i h
    refine q_callV C 1 0 0 (c_times qr3) rfl mw_self rfl ok_times in_times lk6_76 rfl (Nat.le_of_ble_eq_true rfl) ⟨Nat.le_of_ble_eq_true rfl, Nat.le_of_ble_eq_true rfl⟩ dX6_isLine_71 rfl rfl ?_
    refine r_aload_n C 2 rfl dX6_isLine_74 rfl ?_
    refine r_aload_n C 2 rfl dX6_isLine_75 rfl ?_
    refine r_aload_n C 2 rfl dX6_isLine_76 rfl ?_
    refine m_g_gather C dX6_isLine_77 ?_
    refine r_iload_n C 3 rfl dX6_isLine_80 rfl ?_
    obtain ⟨hi, h⟩ := gd_t h
    refine m_l_gather C hi dX6_isLine_81 ?_
    refine r_iload C 0 rfl dX6_isLine_82 ?_
    obtain ⟨r4, qr4, h⟩ := bd_i h
    refine q_callV C 4 0 0 (c_of qr4) rfl mw_self rfl ok_of in_of lk6_108 rfl (Nat.le_of_ble_eq_true rfl) ⟨Nat.le_of_ble_eq_true rfl, Nat.le_of_ble_eq_true rfl⟩ dX6_isLine_84 rfl rfl ?_
    refine r_aload_n C 2 rfl dX6_isLine_87 rfl ?_
    refine r_aload_n C 2 rfl dX6_isLine_88 rfl ?_
    refine m_g_gather C dX6_isLine_89 ?_
    refine r_iload_n C 4 rfl dX6_isLine_92 rfl ?_
    obtain ⟨hi, h⟩ := gd_t h
    refine m_l_gather C hi dX6_isLine_93 ?_
    refine r_iload C 1 rfl dX6_isLine_94 ?_
    obtain ⟨r5, qr5, h⟩ := bd_i h
    refine q_callV C 6 0 0 (c_of qr5) rfl mw_self rfl ok_of in_of lk6_108 rfl (Nat.le_of_ble_eq_true rfl) ⟨Nat.le_of_ble_eq_true rfl, Nat.le_of_ble_eq_true rfl⟩ dX6_isLine_96 rfl rfl ?_
    obtain ⟨r6, qr6, h⟩ := bd_i h
    refine q_callV C 3 0 0 (c_times qr6) rfl mw_self rfl ok_times in_times lk6_76 rfl (Nat.le_of_ble_eq_true rfl) ⟨Nat.le_of_ble_eq_true rfl, Nat.le_of_ble_eq_true rfl⟩ dX6_isLine_99 rfl rfl ?_
    obtain ⟨r7, qr7, h⟩ := bd_i h
    refine q_callV C 0 0 0 (c_less qr7) rfl mw_self rfl ok_less in_less lk6_105 rfl (Nat.le_of_ble_eq_true rfl) ⟨Nat.le_of_ble_eq_true rfl, Nat.le_of_ble_eq_true rfl⟩ dX6_isLine_102 rfl rfl ?_
    refine r_lstore C (lv' := [(4, .long r7), (8, .int ((s.1 + ((2 : Int32))) - (s.1 + ((2 : Int32))) / ((3 : Int32)) * ((3 : Int32)))), (7, .int ((s.1 + ((1 : Int32))) - (s.1 + ((1 : Int32))) / ((3 : Int32)) * ((3 : Int32)))), (0, .ref h0), (1, .int l1), (2, .int l2), (3, .int l3), (6, .int s.1)]) dX6_isLine_105 (by decide) rfl ?_
    refine r_iload_n C 6 rfl dX6_isLine_107 rfl ?_
    refine r_if_eq C (tgt := 123) dX6_isLine_108 (by decide) (fun hc => ?_) (fun hc => ?_)
    · replace h := br_p hc h
      refine r_aload_n C 3 rfl dX6_isLine_123 rfl ?_
      refine m_g_two C dX6_isLine_124 ?_
      refine r_iload C 7 rfl dX6_isLine_127 ?_
      refine r_lload C 0 rfl dX6_isLine_129 ?_
      obtain ⟨hi, h⟩ := gd_t h
      refine m_s_two C hi dX6_isLine_131 ?_
      refine r_lv [3, 4, 5, 6, 7] rfl ?_
      exact w_isLine_L23J132 C h kl kr
    · replace h := br_n hc h
      refine r_aload_n C 3 rfl dX6_isLine_111 rfl ?_
      refine m_g_one C dX6_isLine_112 ?_
      refine r_iload C 7 rfl dX6_isLine_115 ?_
      refine r_lload C 0 rfl dX6_isLine_117 ?_
      obtain ⟨hi, h⟩ := gd_t h
      refine m_s_one C hi dX6_isLine_119 ?_
      refine r_goto C (tgt := 132) dX6_isLine_120 (by decide) ?_
      refine r_lv [3, 4, 5, 6, 7] rfl ?_
      exact w_isLine_L23J132 C h kl kr
set_option maxHeartbeats 4000000 in
set_option maxRecDepth 100000 in
theorem c_isLine {G : gT} {h0 : Nat} {hp : cH} {sz : Nat} {n : Int32} {p : Int64} {count : Int32} {sorts : Nat → Int32} {rows : Nat → Int64} {hand : Nat → Int64} {gathered : Int32} {gather : Nat → Int32} {paired : Int32} {pairA : Nat → Int32} {pairB : Nat → Int32} {ideal : Int32} {draft : Nat → Int64} {frame : Nat → Int64} {one : Nat → Int64} {two : Nat → Int64} {turned : Nat → Int64} {placeI : Int32} {placeJ : Int32} {formA : Int64} {formB : Int64} {formC : Int64} {x1 : Int32} {x2 : Int32} {x3 : Int32} {out : (Int32 × (Nat → Int64) × (Nat → Int64))} (h : m_isLine p rows gather one two x1 x2 x3 = some out) : aM G yX6_isLine cX6_isLine 9 (some .boolean) 1 20 0 0 [.ref h0, .int x1, .int x2, .int x3] (mw h0 hp n p count sorts rows hand gathered gather paired pairA pairB ideal draft frame one two turned placeI placeJ formA formB formC) sz ((some (.int out.1), mw h0 hp n p count sorts rows hand gathered gather paired pairA pairB ideal draft frame out.2.1 out.2.2 turned placeI placeJ formA formB formC, sz) : oT) := by
  refine aM.of RX6 (by decide) rfl (Nat.le_of_ble_eq_true rfl) (fun K C => ?_)
  have hO : ((some (.int out.1), mw h0 hp n p count sorts rows hand gathered gather paired pairA pairB ideal draft frame out.2.1 out.2.2 turned placeI placeJ formA formB formC, sz) : oT) = ((some (.int out.1), mw h0 hp n p count sorts rows hand gathered gather paired pairA pairB ideal draft frame out.2.1 out.2.2 turned placeI placeJ formA formB formC, sz) : oT) := rfl
  refine r_lve (lv' := [(0, .ref h0), (1, .int x1), (2, .int x2), (3, .int x3)]) rfl ?_
  unfold m_isLine at h
  refine r_aload_n C 0 rfl dX6_isLine_0 rfl ?_
  refine m_g_gather C dX6_isLine_1 ?_
  refine r_iload_n C 1 rfl dX6_isLine_4 rfl ?_
  obtain ⟨hi, h⟩ := gd_t h
  refine m_l_gather C hi dX6_isLine_5 ?_
  refine r_aload_n C 0 rfl dX6_isLine_6 rfl ?_
  refine m_g_gather C dX6_isLine_7 ?_
  refine r_iload_n C 2 rfl dX6_isLine_10 rfl ?_
  obtain ⟨hi, h⟩ := gd_t h
  refine m_l_gather C hi dX6_isLine_11 ?_
  refine r_icmp_ne C (tgt := 17) dX6_isLine_12 (by decide) (fun hc => ?_) (fun hc => ?_)
  · replace h := br_n hc h
    refine r_lconst C (v := 0) dX6_isLine_17 (by decide) ?_
    refine r_lstore C (lv' := [(4, .long ((0 : Int64))), (0, .ref h0), (1, .int x1), (2, .int x2), (3, .int x3)]) dX6_isLine_18 (by decide) rfl ?_
    refine r_iconst C (v := 0) dX6_isLine_20 (by decide) ?_
    refine r_istore C (lv' := [(6, .int ((0 : Int32))), (4, .long ((0 : Int64))), (0, .ref h0), (1, .int x1), (2, .int x2), (3, .int x3)]) dX6_isLine_21 (by decide) rfl ?_
    refine r_lv [2, 3, 4, 5, 0] rfl ?_
    obtain ⟨r8, qr8, h⟩ := bd_i h
    refine w_isLine_L23 C qr8 ?_
    refine r_iconst C (v := 1) dX6_isLine_138 (by decide) ?_
    obtain rfl := sm_i h
    exact r_zreturn C rfl (Eq.symm hO) dX6_isLine_139
  · replace h := br_p hc h
    refine r_iconst C (v := 0) dX6_isLine_15 (by decide) ?_
    obtain rfl := sm_i h
    exact r_zreturn C rfl (Eq.symm hO) dX6_isLine_16
noncomputable def m_isMet_L30 (draft : Nat → Int64) (l5 : Int32) (s : (Int32 × (Nat → Int64))) : Option ((Int32 × (Nat → Int64)) ⊕ (Nat → Int64)) := if ((3 : Int32)) ≤ s.1 then (some (.inr s.2)) else (if gi s.1 16 then if gi ((((3 : Int32)) * l5) + s.1) 16 then some (.inl (s.1 + 1, vp_updL s.2 ((((3 : Int32)) * l5) + s.1).toNatClampNeg (draft s.1.toNatClampNeg))) else none else none)
noncomputable def m_isMet (n : Int32) (p : Int64) (rows : Nat → Int64) (gather : Nat → Int32) (draft : Nat → Int64) (one : Nat → Int64) (two : Nat → Int64) (turned : Nat → Int64) (x1 : Int32) (x2 : Int32) (x3 : Int32) (x4 : Int32) (x5 : Int32) : Option (Int32 × (Nat → Int64) × (Nat → Int64) × (Nat → Int64) × (Nat → Int64)) := (m_isLine p rows gather one two x1 x2 ((1 : Int32))).bind fun r1 => if r1.1 = 0 then (some ((0 : Int32), draft, r1.2.1, r1.2.2, turned)) else ((m_isLine p rows gather r1.2.1 r1.2.2 x3 x4 ((0 : Int32))).bind fun r2 => if r2.1 = 0 then (some ((0 : Int32), draft, r2.2.1, r2.2.2, turned)) else ((m_through n p draft r2.2.1 r2.2.2).bind fun r3 => (itX (m_isMet_L30 r3 x5) ((0 : Int32), turned)).bind fun r4 => (m_isNothing n r3 ((0 : Int32))).bind fun r5 => if r5 = 0 then (some ((1 : Int32), r3, r2.2.1, r2.2.2, r4)) else (some ((0 : Int32), r3, r2.2.1, r2.2.2, r4))))
set_option maxHeartbeats 4000000 in
set_option maxRecDepth 100000 in
theorem w_isMet_L30 {K : kT} {O : oT} (C : aC K cX6_isMet RX6 "isMet" 3 42 0 0 7 (some .boolean) O) {h0 : Nat} {hp : cH} {sz : Nat} {n : Int32} {p : Int64} {count : Int32} {sorts : Nat → Int32} {rows : Nat → Int64} {hand : Nat → Int64} {gathered : Int32} {gather : Nat → Int32} {paired : Int32} {pairA : Nat → Int32} {pairB : Nat → Int32} {ideal : Int32} {draft : Nat → Int64} {frame : Nat → Int64} {one : Nat → Int64} {two : Nat → Int64} {placeI : Int32} {placeJ : Int32} {formA : Int64} {formB : Int64} {formC : Int64} {l5 : Int32} {v0 : Int32} {v1 : Nat → Int64} {r : (Nat → Int64)} (h : itX (m_isMet_L30 draft l5) (v0, v1) = some r) (hr : aW K (mw h0 hp n p count sorts rows hand gathered gather paired pairA pairB ideal draft frame one two r placeI placeJ formA formB formC) sz 0 0 61 [(0, .ref h0)] []) : aW K (mw h0 hp n p count sorts rows hand gathered gather paired pairA pairB ideal draft frame one two v1 placeI placeJ formA formB formC) sz 0 0 30 [(0, .ref h0), (5, .int l5), (6, .int v0)] [] := by
  refine it_walk (f := m_isMet_L30 draft l5) (P := fun s => aW K (mw h0 hp n p count sorts rows hand gathered gather paired pairA pairB ideal draft frame one two s.2 placeI placeJ formA formB formC) sz 0 0 30 [(0, .ref h0), (5, .int l5), (6, .int s.1)] []) (R := fun r => aW K (mw h0 hp n p count sorts rows hand gathered gather paired pairA pairB ideal draft frame one two r placeI placeJ formA formB formC) sz 0 0 61 [(0, .ref h0)] []) ?_ h hr
  clear h hr
  intro s x h kl kr
  unfold m_isMet_L30 at h
  refine r_iload C 2 rfl dX6_isMet_30 ?_
  refine r_iconst C (v := 3) dX6_isMet_32 (by decide) ?_
  refine r_icmp_ge C (tgt := 61) dX6_isMet_33 (by decide) (fun hc => ?_) (fun hc => ?_)
  · replace h := br_p hc h
    refine r_lv [0] rfl ?_
    exact kr _ (sm_i h)
  · replace h := br_n hc h
    refine r_aload_n C 0 rfl dX6_isMet_36 rfl ?_
    refine m_g_turned C dX6_isMet_37 ?_
    refine r_iconst C (v := 3) dX6_isMet_40 (by decide) ?_
    refine r_iload C 1 rfl dX6_isMet_41 ?_
    refine r_imul C dX6_isMet_43 ?_
    refine r_iload C 2 rfl dX6_isMet_44 ?_
    refine r_iadd C dX6_isMet_46 ?_
    refine r_aload_n C 0 rfl dX6_isMet_47 rfl ?_
    refine m_g_draft C dX6_isMet_48 ?_
    refine r_iload C 2 rfl dX6_isMet_51 ?_
    obtain ⟨hi, h⟩ := gd_t h
    refine m_l_draft C hi dX6_isMet_53 ?_
    obtain ⟨hi, h⟩ := gd_t h
    refine m_s_turned C hi dX6_isMet_54 ?_
    refine r_iinc C (v := s.1 + 1) (lv' := [(6, .int (s.1 + 1)), (0, .ref h0), (5, .int l5)]) 2 rfl dX6_isMet_55 rfl (by decide) rfl ?_
    refine r_goto C (tgt := 30) dX6_isMet_58 (by decide) ?_
    refine r_lv [1, 2, 0] rfl ?_
    exact kl _ (sm_i h)
set_option maxHeartbeats 4000000 in
set_option maxRecDepth 100000 in
theorem c_isMet {G : gT} {h0 : Nat} {hp : cH} {sz : Nat} {n : Int32} {p : Int64} {count : Int32} {sorts : Nat → Int32} {rows : Nat → Int64} {hand : Nat → Int64} {gathered : Int32} {gather : Nat → Int32} {paired : Int32} {pairA : Nat → Int32} {pairB : Nat → Int32} {ideal : Int32} {draft : Nat → Int64} {frame : Nat → Int64} {one : Nat → Int64} {two : Nat → Int64} {turned : Nat → Int64} {placeI : Int32} {placeJ : Int32} {formA : Int64} {formB : Int64} {formC : Int64} {x1 : Int32} {x2 : Int32} {x3 : Int32} {x4 : Int32} {x5 : Int32} {out : (Int32 × (Nat → Int64) × (Nat → Int64) × (Nat → Int64) × (Nat → Int64))} (h : m_isMet n p rows gather draft one two turned x1 x2 x3 x4 x5 = some out) : aM G yX6_isMet cX6_isMet 7 (some .boolean) 3 42 0 0 [.ref h0, .int x1, .int x2, .int x3, .int x4, .int x5] (mw h0 hp n p count sorts rows hand gathered gather paired pairA pairB ideal draft frame one two turned placeI placeJ formA formB formC) sz ((some (.int out.1), mw h0 hp n p count sorts rows hand gathered gather paired pairA pairB ideal out.2.1 frame out.2.2.1 out.2.2.2.1 out.2.2.2.2 placeI placeJ formA formB formC, sz) : oT) := by
  refine aM.of RX6 (by decide) rfl (Nat.le_of_ble_eq_true rfl) (fun K C => ?_)
  have hO : ((some (.int out.1), mw h0 hp n p count sorts rows hand gathered gather paired pairA pairB ideal out.2.1 frame out.2.2.1 out.2.2.2.1 out.2.2.2.2 placeI placeJ formA formB formC, sz) : oT) = ((some (.int out.1), mw h0 hp n p count sorts rows hand gathered gather paired pairA pairB ideal out.2.1 frame out.2.2.1 out.2.2.2.1 out.2.2.2.2 placeI placeJ formA formB formC, sz) : oT) := rfl
  refine r_lve (lv' := [(0, .ref h0), (1, .int x1), (2, .int x2), (3, .int x3), (4, .int x4), (5, .int x5)]) rfl ?_
  unfold m_isMet at h
  refine r_aload_n C 0 rfl dX6_isMet_0 rfl ?_
  refine r_iload_n C 1 rfl dX6_isMet_1 rfl ?_
  refine r_iload_n C 2 rfl dX6_isMet_2 rfl ?_
  refine r_iconst C (v := 1) dX6_isMet_3 (by decide) ?_
  obtain ⟨r1, qr1, h⟩ := bd_i h
  refine q_callV C 0 0 0 (c_isLine qr1) rfl mw_self rfl ok_isLine in_isLine lk6_281 rfl (Nat.le_of_ble_eq_true rfl) ⟨Nat.le_of_ble_eq_true rfl, Nat.le_of_ble_eq_true rfl⟩ dX6_isMet_4 rfl rfl ?_
  refine r_if_eq C (tgt := 21) dX6_isMet_7 (by decide) (fun hc => ?_) (fun hc => ?_)
  · replace h := br_p hc h
    refine r_iconst C (v := 0) dX6_isMet_21 (by decide) ?_
    obtain rfl := sm_i h
    exact r_zreturn C rfl (Eq.symm hO) dX6_isMet_22
  · replace h := br_n hc h
    refine r_aload_n C 0 rfl dX6_isMet_10 rfl ?_
    refine r_iload_n C 3 rfl dX6_isMet_11 rfl ?_
    refine r_iload C 4 rfl dX6_isMet_12 ?_
    refine r_iconst C (v := 0) dX6_isMet_14 (by decide) ?_
    obtain ⟨r2, qr2, h⟩ := bd_i h
    refine q_callV C 0 0 0 (c_isLine qr2) rfl mw_self rfl ok_isLine in_isLine lk6_281 rfl (Nat.le_of_ble_eq_true rfl) ⟨Nat.le_of_ble_eq_true rfl, Nat.le_of_ble_eq_true rfl⟩ dX6_isMet_15 rfl rfl ?_
    refine r_if_ne C (tgt := 23) dX6_isMet_18 (by decide) (fun hc => ?_) (fun hc => ?_)
    · replace h := br_n hc h
      refine r_aload_n C 0 rfl dX6_isMet_23 rfl ?_
      obtain ⟨r3, qr3, h⟩ := bd_i h
      refine q_callVv C 0 0 0 (c_through qr3) rfl mw_self rfl ok_through in_through lk6_156 rfl (Nat.le_of_ble_eq_true rfl) ⟨Nat.le_of_ble_eq_true rfl, Nat.le_of_ble_eq_true rfl⟩ dX6_isMet_24 rfl rfl ?_
      refine r_iconst C (v := 0) dX6_isMet_27 (by decide) ?_
      refine r_istore C (lv' := [(6, .int ((0 : Int32))), (0, .ref h0), (1, .int x1), (2, .int x2), (3, .int x3), (4, .int x4), (5, .int x5)]) dX6_isMet_28 (by decide) rfl ?_
      refine r_lv [1, 6, 0] rfl ?_
      obtain ⟨r4, qr4, h⟩ := bd_i h
      refine w_isMet_L30 C qr4 ?_
      refine r_aload_n C 0 rfl dX6_isMet_61 rfl ?_
      refine r_iconst C (v := 0) dX6_isMet_62 (by decide) ?_
      obtain ⟨r5, qr5, h⟩ := bd_i h
      refine q_callV C 0 0 0 (c_isNothing qr5) rfl mw_self rfl ok_isNothing in_isNothing lk6_130 rfl (Nat.le_of_ble_eq_true rfl) ⟨Nat.le_of_ble_eq_true rfl, Nat.le_of_ble_eq_true rfl⟩ dX6_isMet_63 rfl rfl ?_
      refine r_if_ne C (tgt := 73) dX6_isMet_66 (by decide) (fun hc => ?_) (fun hc => ?_)
      · replace h := br_n hc h
        refine r_iconst C (v := 0) dX6_isMet_73 (by decide) ?_
        obtain rfl := sm_i h
        exact r_zreturn C rfl (Eq.symm hO) dX6_isMet_74
      · replace h := br_p hc h
        refine r_iconst C (v := 1) dX6_isMet_69 (by decide) ?_
        refine r_goto C (tgt := 74) dX6_isMet_70 (by decide) ?_
        obtain rfl := sm_i h
        exact r_zreturn C rfl (Eq.symm hO) dX6_isMet_74
    · replace h := br_p hc h
      refine r_iconst C (v := 0) dX6_isMet_21 (by decide) ?_
      obtain rfl := sm_i h
      exact r_zreturn C rfl (Eq.symm hO) dX6_isMet_22
noncomputable def m_areThree_L23 (one : Nat → Int64) (l1 : Int32) (s : (Int32 × (Nat → Int64))) : Option ((Int32 × (Nat → Int64)) ⊕ (Nat → Int64)) := if ((3 : Int32)) ≤ s.1 then (some (.inr s.2)) else (if gi s.1 16 then if gi ((((3 : Int32)) * l1) + s.1) 16 then some (.inl (s.1 + 1, vp_updL s.2 ((((3 : Int32)) * l1) + s.1).toNatClampNeg (one s.1.toNatClampNeg))) else none else none)
noncomputable def m_areThree_L2 (p : Int64) (rows : Nat → Int64) (gather : Nat → Int32) (frame : Nat → Int64) (s : (Int32 × (Nat → Int64) × (Nat → Int64) × (Nat → Int64))) : Option ((Int32 × (Nat → Int64) × (Nat → Int64) × (Nat → Int64)) ⊕ (((Nat → Int64) × (Nat → Int64) × (Nat → Int64)) ⊕ (Int32 × (Nat → Int64) × (Nat → Int64) × (Nat → Int64) × (Nat → Int64)))) := if ((3 : Int32)) ≤ s.1 then (some (.inr (.inl (s.2.1, s.2.2.1, s.2.2.2)))) else ((m_isLine p rows gather s.2.1 s.2.2.1 s.1 (s.1 + ((3 : Int32))) ((1 : Int32))).bind fun r1 => if r1.1 = 0 then (some (.inr (.inr ((0 : Int32), frame, r1.2.1, r1.2.2, s.2.2.2)))) else ((itX (m_areThree_L23 r1.2.1 s.1) ((0 : Int32), s.2.2.2)).bind fun r2 => some (.inl (s.1 + 1, r1.2.1, r1.2.2, r2))))
noncomputable def m_areThree_L58 (turned : Nat → Int64) (s : (Int32 × (Nat → Int64))) : Option ((Int32 × (Nat → Int64)) ⊕ (Nat → Int64)) := if ((9 : Int32)) ≤ s.1 then (some (.inr s.2)) else (if gi s.1 16 then (m_set s.2 (s.1 / ((3 : Int32))) (s.1 - s.1 / ((3 : Int32)) * ((3 : Int32))) (turned s.1.toNatClampNeg)).bind fun r4 => some (.inl (s.1 + 1, r4)) else none)
noncomputable def m_areThree (p : Int64) (rows : Nat → Int64) (gather : Nat → Int32) (frame : Nat → Int64) (one : Nat → Int64) (two : Nat → Int64) (turned : Nat → Int64)  : Option (Int32 × (Nat → Int64) × (Nat → Int64) × (Nat → Int64) × (Nat → Int64)) := (itX (m_areThree_L2 p rows gather frame) ((0 : Int32), one, two, turned)).bind fun r3 => match r3 with | .inl r3 => ((itX (m_areThree_L58 r3.2.2) ((0 : Int32), frame)).bind fun r5 => (m_reduce p r5 ((3 : Int32)) ((3 : Int32)) ((3 : Int32))).bind fun r6 => if ((3 : Int32)) ≤ r6.1 then (some ((0 : Int32), r6.2, r3.1, r3.2.1, r3.2.2)) else (some ((1 : Int32), r6.2, r3.1, r3.2.1, r3.2.2))) | .inr o7 => some o7
set_option maxHeartbeats 4000000 in
set_option maxRecDepth 100000 in
theorem w_areThree_L23 {K : kT} {O : oT} (C : aC K cX6_areThree RX6 "areThree" 4 76 0 0 3 (some .boolean) O) {h0 : Nat} {hp : cH} {sz : Nat} {n : Int32} {p : Int64} {count : Int32} {sorts : Nat → Int32} {rows : Nat → Int64} {hand : Nat → Int64} {gathered : Int32} {gather : Nat → Int32} {paired : Int32} {pairA : Nat → Int32} {pairB : Nat → Int32} {ideal : Int32} {draft : Nat → Int64} {frame : Nat → Int64} {one : Nat → Int64} {two : Nat → Int64} {placeI : Int32} {placeJ : Int32} {formA : Int64} {formB : Int64} {formC : Int64} {l1 : Int32} {v0 : Int32} {v1 : Nat → Int64} {r : (Nat → Int64)} (h : itX (m_areThree_L23 one l1) (v0, v1) = some r) (hr : aW K (mw h0 hp n p count sorts rows hand gathered gather paired pairA pairB ideal draft frame one two r placeI placeJ formA formB formC) sz 0 0 50 [(0, .ref h0), (1, .int l1)] []) : aW K (mw h0 hp n p count sorts rows hand gathered gather paired pairA pairB ideal draft frame one two v1 placeI placeJ formA formB formC) sz 0 0 23 [(0, .ref h0), (1, .int l1), (2, .int v0)] [] := by
  refine it_walk (f := m_areThree_L23 one l1) (P := fun s => aW K (mw h0 hp n p count sorts rows hand gathered gather paired pairA pairB ideal draft frame one two s.2 placeI placeJ formA formB formC) sz 0 0 23 [(0, .ref h0), (1, .int l1), (2, .int s.1)] []) (R := fun r => aW K (mw h0 hp n p count sorts rows hand gathered gather paired pairA pairB ideal draft frame one two r placeI placeJ formA formB formC) sz 0 0 50 [(0, .ref h0), (1, .int l1)] []) ?_ h hr
  clear h hr
  intro s x h kl kr
  unfold m_areThree_L23 at h
  refine r_iload_n C 2 rfl dX6_areThree_23 rfl ?_
  refine r_iconst C (v := 3) dX6_areThree_24 (by decide) ?_
  refine r_icmp_ge C (tgt := 50) dX6_areThree_25 (by decide) (fun hc => ?_) (fun hc => ?_)
  · replace h := br_p hc h
    refine r_lv [0, 1] rfl ?_
    exact kr _ (sm_i h)
  · replace h := br_n hc h
    refine r_aload_n C 0 rfl dX6_areThree_28 rfl ?_
    refine m_g_turned C dX6_areThree_29 ?_
    refine r_iconst C (v := 3) dX6_areThree_32 (by decide) ?_
    refine r_iload_n C 1 rfl dX6_areThree_33 rfl ?_
    refine r_imul C dX6_areThree_34 ?_
    refine r_iload_n C 2 rfl dX6_areThree_35 rfl ?_
    refine r_iadd C dX6_areThree_36 ?_
    refine r_aload_n C 0 rfl dX6_areThree_37 rfl ?_
    refine m_g_one C dX6_areThree_38 ?_
    refine r_iload_n C 2 rfl dX6_areThree_41 rfl ?_
    obtain ⟨hi, h⟩ := gd_t h
    refine m_l_one C hi dX6_areThree_42 ?_
    obtain ⟨hi, h⟩ := gd_t h
    refine m_s_turned C hi dX6_areThree_43 ?_
    refine r_iinc C (v := s.1 + 1) (lv' := [(2, .int (s.1 + 1)), (0, .ref h0), (1, .int l1)]) 2 rfl dX6_areThree_44 rfl (by decide) rfl ?_
    refine r_goto C (tgt := 23) dX6_areThree_47 (by decide) ?_
    refine r_lv [1, 2, 0] rfl ?_
    exact kl _ (sm_i h)
set_option maxHeartbeats 4000000 in
set_option maxRecDepth 100000 in
theorem w_areThree_L2 {K : kT} {O : oT} (C : aC K cX6_areThree RX6 "areThree" 4 76 0 0 3 (some .boolean) O) {h0 : Nat} {hp : cH} {sz : Nat} {n : Int32} {p : Int64} {count : Int32} {sorts : Nat → Int32} {rows : Nat → Int64} {hand : Nat → Int64} {gathered : Int32} {gather : Nat → Int32} {paired : Int32} {pairA : Nat → Int32} {pairB : Nat → Int32} {ideal : Int32} {draft : Nat → Int64} {frame : Nat → Int64} {placeI : Int32} {placeJ : Int32} {formA : Int64} {formB : Int64} {formC : Int64}  {v0 : Int32} {v1 : Nat → Int64} {v2 : Nat → Int64} {v3 : Nat → Int64} {r : (((Nat → Int64) × (Nat → Int64) × (Nat → Int64)) ⊕ (Int32 × (Nat → Int64) × (Nat → Int64) × (Nat → Int64) × (Nat → Int64)))} (h : itX (m_areThree_L2 p rows gather frame) (v0, v1, v2, v3) = some r) (hr : Sum.elim (fun r => aW K (mw h0 hp n p count sorts rows hand gathered gather paired pairA pairB ideal draft frame r.1 r.2.1 r.2.2 placeI placeJ formA formB formC) sz 0 0 56 [(0, .ref h0)] []) (fun o => ((some (.int o.1), mw h0 hp n p count sorts rows hand gathered gather paired pairA pairB ideal draft o.2.1 o.2.2.1 o.2.2.2.1 o.2.2.2.2 placeI placeJ formA formB formC, sz) : oT) = O) r) : aW K (mw h0 hp n p count sorts rows hand gathered gather paired pairA pairB ideal draft frame v1 v2 v3 placeI placeJ formA formB formC) sz 0 0 2 [(0, .ref h0), (1, .int v0)] [] := by
  refine it_walk (f := m_areThree_L2 p rows gather frame) (P := fun s => aW K (mw h0 hp n p count sorts rows hand gathered gather paired pairA pairB ideal draft frame s.2.1 s.2.2.1 s.2.2.2 placeI placeJ formA formB formC) sz 0 0 2 [(0, .ref h0), (1, .int s.1)] []) (R := fun r => Sum.elim (fun r => aW K (mw h0 hp n p count sorts rows hand gathered gather paired pairA pairB ideal draft frame r.1 r.2.1 r.2.2 placeI placeJ formA formB formC) sz 0 0 56 [(0, .ref h0)] []) (fun o => ((some (.int o.1), mw h0 hp n p count sorts rows hand gathered gather paired pairA pairB ideal draft o.2.1 o.2.2.1 o.2.2.2.1 o.2.2.2.2 placeI placeJ formA formB formC, sz) : oT) = O) r) ?_ h hr
  clear h hr
  intro s x h kl kr
  unfold m_areThree_L2 at h
  refine r_iload_n C 1 rfl dX6_areThree_2 rfl ?_
  refine r_iconst C (v := 3) dX6_areThree_3 (by decide) ?_
  refine r_icmp_ge C (tgt := 56) dX6_areThree_4 (by decide) (fun hc => ?_) (fun hc => ?_)
  · replace h := br_p hc h
    refine r_lv [0] rfl ?_
    exact kr _ (sm_i h)
  · replace h := br_n hc h
    refine r_aload_n C 0 rfl dX6_areThree_7 rfl ?_
    refine r_iload_n C 1 rfl dX6_areThree_8 rfl ?_
    refine r_iload_n C 1 rfl dX6_areThree_9 rfl ?_
    refine r_iconst C (v := 3) dX6_areThree_10 (by decide) ?_
    refine r_iadd C dX6_areThree_11 ?_
    refine r_iconst C (v := 1) dX6_areThree_12 (by decide) ?_
    obtain ⟨r1, qr1, h⟩ := bd_i h
    refine q_callV C 0 0 0 (c_isLine qr1) rfl mw_self rfl ok_isLine in_isLine lk6_281 rfl (Nat.le_of_ble_eq_true rfl) ⟨Nat.le_of_ble_eq_true rfl, Nat.le_of_ble_eq_true rfl⟩ dX6_areThree_13 rfl rfl ?_
    refine r_if_ne C (tgt := 21) dX6_areThree_16 (by decide) (fun hc => ?_) (fun hc => ?_)
    · replace h := br_n hc h
      refine r_iconst C (v := 0) dX6_areThree_21 (by decide) ?_
      refine r_istore_n C (lv' := [(2, .int ((0 : Int32))), (0, .ref h0), (1, .int s.1)]) dX6_areThree_22 rfl (by decide) rfl ?_
      refine r_lv [1, 2, 0] rfl ?_
      obtain ⟨r2, qr2, h⟩ := bd_i h
      refine w_areThree_L23 C qr2 ?_
      refine r_iinc C (v := s.1 + 1) (lv' := [(1, .int (s.1 + 1)), (0, .ref h0)]) 1 rfl dX6_areThree_50 rfl (by decide) rfl ?_
      refine r_goto C (tgt := 2) dX6_areThree_53 (by decide) ?_
      refine r_lv [1, 0] rfl ?_
      exact kl _ (sm_i h)
    · replace h := br_p hc h
      refine r_iconst C (v := 0) dX6_areThree_19 (by decide) ?_
      exact r_zreturn C rfl (Eq.symm (kr _ (sm_i h))) dX6_areThree_20
set_option maxHeartbeats 4000000 in
set_option maxRecDepth 100000 in
theorem w_areThree_L58 {K : kT} {O : oT} (C : aC K cX6_areThree RX6 "areThree" 4 76 0 0 3 (some .boolean) O) {h0 : Nat} {hp : cH} {sz : Nat} {n : Int32} {p : Int64} {count : Int32} {sorts : Nat → Int32} {rows : Nat → Int64} {hand : Nat → Int64} {gathered : Int32} {gather : Nat → Int32} {paired : Int32} {pairA : Nat → Int32} {pairB : Nat → Int32} {ideal : Int32} {draft : Nat → Int64} {one : Nat → Int64} {two : Nat → Int64} {turned : Nat → Int64} {placeI : Int32} {placeJ : Int32} {formA : Int64} {formB : Int64} {formC : Int64}  {v0 : Int32} {v1 : Nat → Int64} {r : (Nat → Int64)} (h : itX (m_areThree_L58 turned) (v0, v1) = some r) (hr : aW K (mw h0 hp n p count sorts rows hand gathered gather paired pairA pairB ideal draft r one two turned placeI placeJ formA formB formC) sz 0 0 86 [(0, .ref h0)] []) : aW K (mw h0 hp n p count sorts rows hand gathered gather paired pairA pairB ideal draft v1 one two turned placeI placeJ formA formB formC) sz 0 0 58 [(0, .ref h0), (1, .int v0)] [] := by
  refine it_walk (f := m_areThree_L58 turned) (P := fun s => aW K (mw h0 hp n p count sorts rows hand gathered gather paired pairA pairB ideal draft s.2 one two turned placeI placeJ formA formB formC) sz 0 0 58 [(0, .ref h0), (1, .int s.1)] []) (R := fun r => aW K (mw h0 hp n p count sorts rows hand gathered gather paired pairA pairB ideal draft r one two turned placeI placeJ formA formB formC) sz 0 0 86 [(0, .ref h0)] []) ?_ h hr
  clear h hr
  intro s x h kl kr
  unfold m_areThree_L58 at h
  refine r_iload_n C 1 rfl dX6_areThree_58 rfl ?_
  refine r_bipush C (v := 9) dX6_areThree_59 (by decide) ?_
  refine r_icmp_ge C (tgt := 86) dX6_areThree_61 (by decide) (fun hc => ?_) (fun hc => ?_)
  · replace h := br_p hc h
    refine r_lv [0] rfl ?_
    exact kr _ (sm_i h)
  · replace h := br_n hc h
    refine r_aload_n C 0 rfl dX6_areThree_64 rfl ?_
    refine r_iload_n C 1 rfl dX6_areThree_65 rfl ?_
    refine r_iconst C (v := 3) dX6_areThree_66 (by decide) ?_
    refine r_idiv C dX6_areThree_67 (by decide) ?_
    refine r_iload_n C 1 rfl dX6_areThree_68 rfl ?_
    refine r_iconst C (v := 3) dX6_areThree_69 (by decide) ?_
    refine r_irem C dX6_areThree_70 (by decide) ?_
    refine r_aload_n C 0 rfl dX6_areThree_71 rfl ?_
    refine m_g_turned C dX6_areThree_72 ?_
    refine r_iload_n C 1 rfl dX6_areThree_75 rfl ?_
    obtain ⟨hi, h⟩ := gd_t h
    refine m_l_turned C hi dX6_areThree_76 ?_
    obtain ⟨r4, qr4, h⟩ := bd_i h
    refine q_callVv C 0 0 0 (c_set qr4) rfl mw_self rfl ok_set in_set lk6_101 rfl (Nat.le_of_ble_eq_true rfl) ⟨Nat.le_of_ble_eq_true rfl, Nat.le_of_ble_eq_true rfl⟩ dX6_areThree_77 rfl rfl ?_
    refine r_iinc C (v := s.1 + 1) (lv' := [(1, .int (s.1 + 1)), (0, .ref h0)]) 1 rfl dX6_areThree_80 rfl (by decide) rfl ?_
    refine r_goto C (tgt := 58) dX6_areThree_83 (by decide) ?_
    refine r_lv [1, 0] rfl ?_
    exact kl _ (sm_i h)
set_option maxHeartbeats 4000000 in
set_option maxRecDepth 100000 in
theorem c_areThree {G : gT} {h0 : Nat} {hp : cH} {sz : Nat} {n : Int32} {p : Int64} {count : Int32} {sorts : Nat → Int32} {rows : Nat → Int64} {hand : Nat → Int64} {gathered : Int32} {gather : Nat → Int32} {paired : Int32} {pairA : Nat → Int32} {pairB : Nat → Int32} {ideal : Int32} {draft : Nat → Int64} {frame : Nat → Int64} {one : Nat → Int64} {two : Nat → Int64} {turned : Nat → Int64} {placeI : Int32} {placeJ : Int32} {formA : Int64} {formB : Int64} {formC : Int64}  {out : (Int32 × (Nat → Int64) × (Nat → Int64) × (Nat → Int64) × (Nat → Int64))} (h : m_areThree p rows gather frame one two turned  = some out) : aM G yX6_areThree cX6_areThree 3 (some .boolean) 4 76 0 0 [.ref h0] (mw h0 hp n p count sorts rows hand gathered gather paired pairA pairB ideal draft frame one two turned placeI placeJ formA formB formC) sz ((some (.int out.1), mw h0 hp n p count sorts rows hand gathered gather paired pairA pairB ideal draft out.2.1 out.2.2.1 out.2.2.2.1 out.2.2.2.2 placeI placeJ formA formB formC, sz) : oT) := by
  refine aM.of RX6 (by decide) rfl (Nat.le_of_ble_eq_true rfl) (fun K C => ?_)
  have hO : ((some (.int out.1), mw h0 hp n p count sorts rows hand gathered gather paired pairA pairB ideal draft out.2.1 out.2.2.1 out.2.2.2.1 out.2.2.2.2 placeI placeJ formA formB formC, sz) : oT) = ((some (.int out.1), mw h0 hp n p count sorts rows hand gathered gather paired pairA pairB ideal draft out.2.1 out.2.2.1 out.2.2.2.1 out.2.2.2.2 placeI placeJ formA formB formC, sz) : oT) := rfl
  refine r_lve (lv' := [(0, .ref h0)]) rfl ?_
  unfold m_areThree at h
  refine r_iconst C (v := 0) dX6_areThree_0 (by decide) ?_
  refine r_istore_n C (lv' := [(1, .int ((0 : Int32))), (0, .ref h0)]) dX6_areThree_1 rfl (by decide) rfl ?_
  refine r_lv [1, 0] rfl ?_
  obtain ⟨r3, qr3, h⟩ := bd_i h
  cases r3 with
  | inl r3 =>
    replace h : _ = some _ := h
    refine w_areThree_L2 C qr3 ?_
    refine r_iconst C (v := 0) dX6_areThree_56 (by decide) ?_
    refine r_istore_n C (lv' := [(1, .int ((0 : Int32))), (0, .ref h0)]) dX6_areThree_57 rfl (by decide) rfl ?_
    refine r_lv [1, 0] rfl ?_
    obtain ⟨r5, qr5, h⟩ := bd_i h
    refine w_areThree_L58 C qr5 ?_
    refine r_aload_n C 0 rfl dX6_areThree_86 rfl ?_
    refine r_iconst C (v := 3) dX6_areThree_87 (by decide) ?_
    refine r_iconst C (v := 3) dX6_areThree_88 (by decide) ?_
    refine r_iconst C (v := 3) dX6_areThree_89 (by decide) ?_
    obtain ⟨r6, qr6, h⟩ := bd_i h
    refine q_callV C 0 0 0 (c_reduce qr6) rfl mw_self rfl ok_reduce in_reduce lk6_115 rfl (Nat.le_of_ble_eq_true rfl) ⟨Nat.le_of_ble_eq_true rfl, Nat.le_of_ble_eq_true rfl⟩ dX6_areThree_90 rfl rfl ?_
    refine r_iconst C (v := 3) dX6_areThree_93 (by decide) ?_
    refine r_icmp_ge C (tgt := 101) dX6_areThree_94 (by decide) (fun hc => ?_) (fun hc => ?_)
    · replace h := br_p hc h
      refine r_iconst C (v := 0) dX6_areThree_101 (by decide) ?_
      obtain rfl := sm_i h
      exact r_zreturn C rfl (Eq.symm hO) dX6_areThree_102
    · replace h := br_n hc h
      refine r_iconst C (v := 1) dX6_areThree_97 (by decide) ?_
      refine r_goto C (tgt := 102) dX6_areThree_98 (by decide) ?_
      obtain rfl := sm_i h
      exact r_zreturn C rfl (Eq.symm hO) dX6_areThree_102
  | inr o7 =>
    obtain rfl := sm_i h
    exact w_areThree_L2 C qr3 hO
noncomputable def m_rankOfThree (p : Int64) (rows : Nat → Int64) (gather : Nat → Int32) (frame : Nat → Int64) (x1 : Int32) (x2 : Int32) (x3 : Int32) : Option (Int32 × (Nat → Int64)) := if gi x1 9 then (m_lay rows frame ((0 : Int32)) (gather x1.toNatClampNeg) ((3 : Int32))).bind fun r1 => if gi x2 9 then (m_lay rows r1 ((1 : Int32)) (gather x2.toNatClampNeg) ((3 : Int32))).bind fun r2 => if gi x3 9 then (m_lay rows r2 ((2 : Int32)) (gather x3.toNatClampNeg) ((3 : Int32))).bind fun r3 => (m_reduce p r3 ((3 : Int32)) ((3 : Int32)) ((3 : Int32))).bind fun r4 => some (r4.1, r4.2) else none else none else none
set_option maxHeartbeats 4000000 in
set_option maxRecDepth 100000 in
theorem c_rankOfThree {G : gT} {h0 : Nat} {hp : cH} {sz : Nat} {n : Int32} {p : Int64} {count : Int32} {sorts : Nat → Int32} {rows : Nat → Int64} {hand : Nat → Int64} {gathered : Int32} {gather : Nat → Int32} {paired : Int32} {pairA : Nat → Int32} {pairB : Nat → Int32} {ideal : Int32} {draft : Nat → Int64} {frame : Nat → Int64} {one : Nat → Int64} {two : Nat → Int64} {turned : Nat → Int64} {placeI : Int32} {placeJ : Int32} {formA : Int64} {formB : Int64} {formC : Int64} {x1 : Int32} {x2 : Int32} {x3 : Int32} {out : (Int32 × (Nat → Int64))} (h : m_rankOfThree p rows gather frame x1 x2 x3 = some out) : aM G yX6_rankOfThree cX6_rankOfThree 4 (some .int) 4 76 0 0 [.ref h0, .int x1, .int x2, .int x3] (mw h0 hp n p count sorts rows hand gathered gather paired pairA pairB ideal draft frame one two turned placeI placeJ formA formB formC) sz ((some (.int out.1), mw h0 hp n p count sorts rows hand gathered gather paired pairA pairB ideal draft out.2 one two turned placeI placeJ formA formB formC, sz) : oT) := by
  refine aM.of RX6 (by decide) rfl (Nat.le_of_ble_eq_true rfl) (fun K C => ?_)
  have hO : ((some (.int out.1), mw h0 hp n p count sorts rows hand gathered gather paired pairA pairB ideal draft out.2 one two turned placeI placeJ formA formB formC, sz) : oT) = ((some (.int out.1), mw h0 hp n p count sorts rows hand gathered gather paired pairA pairB ideal draft out.2 one two turned placeI placeJ formA formB formC, sz) : oT) := rfl
  refine r_lve (lv' := [(0, .ref h0), (1, .int x1), (2, .int x2), (3, .int x3)]) rfl ?_
  unfold m_rankOfThree at h
  refine r_aload_n C 0 rfl dX6_rankOfThree_0 rfl ?_
  refine r_iconst C (v := 0) dX6_rankOfThree_1 (by decide) ?_
  refine r_aload_n C 0 rfl dX6_rankOfThree_2 rfl ?_
  refine m_g_gather C dX6_rankOfThree_3 ?_
  refine r_iload_n C 1 rfl dX6_rankOfThree_6 rfl ?_
  obtain ⟨hi, h⟩ := gd_t h
  refine m_l_gather C hi dX6_rankOfThree_7 ?_
  refine r_iconst C (v := 3) dX6_rankOfThree_8 (by decide) ?_
  obtain ⟨r1, qr1, h⟩ := bd_i h
  refine q_callVv C 0 0 0 (c_lay qr1) rfl mw_self rfl ok_lay in_lay lk6_197 rfl (Nat.le_of_ble_eq_true rfl) ⟨Nat.le_of_ble_eq_true rfl, Nat.le_of_ble_eq_true rfl⟩ dX6_rankOfThree_9 rfl rfl ?_
  refine r_aload_n C 0 rfl dX6_rankOfThree_12 rfl ?_
  refine r_iconst C (v := 1) dX6_rankOfThree_13 (by decide) ?_
  refine r_aload_n C 0 rfl dX6_rankOfThree_14 rfl ?_
  refine m_g_gather C dX6_rankOfThree_15 ?_
  refine r_iload_n C 2 rfl dX6_rankOfThree_18 rfl ?_
  obtain ⟨hi, h⟩ := gd_t h
  refine m_l_gather C hi dX6_rankOfThree_19 ?_
  refine r_iconst C (v := 3) dX6_rankOfThree_20 (by decide) ?_
  obtain ⟨r2, qr2, h⟩ := bd_i h
  refine q_callVv C 0 0 0 (c_lay qr2) rfl mw_self rfl ok_lay in_lay lk6_197 rfl (Nat.le_of_ble_eq_true rfl) ⟨Nat.le_of_ble_eq_true rfl, Nat.le_of_ble_eq_true rfl⟩ dX6_rankOfThree_21 rfl rfl ?_
  refine r_aload_n C 0 rfl dX6_rankOfThree_24 rfl ?_
  refine r_iconst C (v := 2) dX6_rankOfThree_25 (by decide) ?_
  refine r_aload_n C 0 rfl dX6_rankOfThree_26 rfl ?_
  refine m_g_gather C dX6_rankOfThree_27 ?_
  refine r_iload_n C 3 rfl dX6_rankOfThree_30 rfl ?_
  obtain ⟨hi, h⟩ := gd_t h
  refine m_l_gather C hi dX6_rankOfThree_31 ?_
  refine r_iconst C (v := 3) dX6_rankOfThree_32 (by decide) ?_
  obtain ⟨r3, qr3, h⟩ := bd_i h
  refine q_callVv C 0 0 0 (c_lay qr3) rfl mw_self rfl ok_lay in_lay lk6_197 rfl (Nat.le_of_ble_eq_true rfl) ⟨Nat.le_of_ble_eq_true rfl, Nat.le_of_ble_eq_true rfl⟩ dX6_rankOfThree_33 rfl rfl ?_
  refine r_aload_n C 0 rfl dX6_rankOfThree_36 rfl ?_
  refine r_iconst C (v := 3) dX6_rankOfThree_37 (by decide) ?_
  refine r_iconst C (v := 3) dX6_rankOfThree_38 (by decide) ?_
  refine r_iconst C (v := 3) dX6_rankOfThree_39 (by decide) ?_
  obtain ⟨r4, qr4, h⟩ := bd_i h
  refine q_callV C 0 0 0 (c_reduce qr4) rfl mw_self rfl ok_reduce in_reduce lk6_115 rfl (Nat.le_of_ble_eq_true rfl) ⟨Nat.le_of_ble_eq_true rfl, Nat.le_of_ble_eq_true rfl⟩ dX6_rankOfThree_40 rfl rfl ?_
  obtain rfl := sm_i h
  exact r_ireturn C (Eq.symm hO) dX6_rankOfThree_43
