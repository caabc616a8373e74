noncomputable def m_polar_L96 (n : Int32) (p : Int64) (rows : Nat → Int64) (turned : Nat → Int64) (l1 : Int32) (l2 : Int32) (l3 : Int32) (l4 : Int32) (s : (Int32 × (Nat → Int64))) : Option ((Int32 × (Nat → Int64)) ⊕ (Nat → Int64)) := (m_side n).bind fun r5 => if r5 ≤ s.1 then (some (.inr s.2)) else (if gi l4 16 then if l3 = 0 then ((m_side n).bind fun r6 => (m_of rows l1 ((l4 * r6) + s.1)).bind fun r7 => (m_of rows l2 s.1).bind fun r8 => (m_times p r7 r8).bind fun r9 => if p = 0 then none else if gi l4 16 then some (.inl (s.1 + 1, vp_updL s.2 l4.toNatClampNeg (((s.2 l4.toNatClampNeg) + r9) - ((s.2 l4.toNatClampNeg) + r9) / p * p))) else none) else ((m_side n).bind fun r10 => if gi ((l4 * r10) + s.1) 16 then (m_of rows l2 s.1).bind fun r11 => (m_times p (turned ((l4 * r10) + s.1).toNatClampNeg) r11).bind fun r12 => if p = 0 then none else if gi l4 16 then some (.inl (s.1 + 1, vp_updL s.2 l4.toNatClampNeg (((s.2 l4.toNatClampNeg) + r12) - ((s.2 l4.toNatClampNeg) + r12) / p * p))) else none else none) else none)
noncomputable def m_polar_L84 (n : Int32) (p : Int64) (rows : Nat → Int64) (turned : Nat → Int64) (l1 : Int32) (l2 : Int32) (l3 : Int32) (s : (Int32 × (Nat → Int64))) : Option ((Int32 × (Nat → Int64)) ⊕ (Nat → Int64)) := (m_side n).bind fun r4 => if r4 ≤ s.1 then (some (.inr s.2)) else ((itX (m_polar_L96 n p rows turned l1 l2 l3 s.1) ((0 : Int32), s.2)).bind fun r13 => some (.inl (s.1 + 1, r13)))
noncomputable def m_polar_J77 (n : Int32) (p : Int64) (count : Int32) (sorts : Nat → Int32) (rows : Nat → Int64) (draft : Nat → Int64) (frame : Nat → Int64) (turned : Nat → Int64) (l1 : Int32) (l2 : Int32) (l3 : Int32) : Option (Int32 × Int32 × (Nat → Int32) × (Nat → Int64) × (Nat → Int64) × (Nat → Int64) × (Nat → Int64)) := (m_clear draft).bind fun r3 => (itX (m_polar_L84 n p rows turned l1 l2 l3) ((0 : Int32), r3)).bind fun r14 => if l3 = 0 then (if n = ((2 : Int32)) then ((m_madeOrNone n p count sorts rows r14 ((1 : Int32))).bind fun r16 => some (r16.1, r16.2.1, r16.2.2.1, r16.2.2.2.1, r16.2.2.2.2, frame, turned)) else ((m_madeOrNone n p count sorts rows r14 ((2 : Int32))).bind fun r15 => some (r15.1, r15.2.1, r15.2.2.1, r15.2.2.2.1, r15.2.2.2.2, frame, turned))) else ((m_madeOrNone n p count sorts rows r14 ((0 : Int32))).bind fun r17 => some (r17.1, r17.2.1, r17.2.2.1, r17.2.2.2.1, r17.2.2.2.2, frame, turned))
noncomputable def m_polar_J48 (n : Int32) (p : Int64) (count : Int32) (sorts : Nat → Int32) (rows : Nat → Int64) (draft : Nat → Int64) (frame : Nat → Int64) (turned : Nat → Int64) (l1 : Int32) (l2 : Int32) : Option (Int32 × Int32 × (Nat → Int32) × (Nat → Int64) × (Nat → Int64) × (Nat → Int64) × (Nat → Int64)) := if gi l2 60 then if (sorts l2.toNatClampNeg) = 0 then (if ((0 : Int32)) = 0 then (m_polar_J77 n p count sorts rows draft frame turned l1 l2 ((0 : Int32))) else ((m_isTurned n p rows frame turned l1).bind fun r18 => if r18.1 = 0 then (some ((-1 : Int32), count, sorts, rows, draft, r18.2.1, r18.2.2)) else (m_polar_J77 n p count sorts rows draft r18.2.1 r18.2.2 l1 l2 ((0 : Int32))))) else (if ((1 : Int32)) = 0 then (m_polar_J77 n p count sorts rows draft frame turned l1 l2 ((1 : Int32))) else ((m_isTurned n p rows frame turned l1).bind fun r19 => if r19.1 = 0 then (some ((-1 : Int32), count, sorts, rows, draft, r19.2.1, r19.2.2)) else (m_polar_J77 n p count sorts rows draft r19.2.1 r19.2.2 l1 l2 ((1 : Int32))))) else none
noncomputable def m_polar (n : Int32) (p : Int64) (count : Int32) (sorts : Nat → Int32) (rows : Nat → Int64) (draft : Nat → Int64) (frame : Nat → Int64) (turned : Nat → Int64) (x1 : Int32) (x2 : Int32) : Option (Int32 × Int32 × (Nat → Int32) × (Nat → Int64) × (Nat → Int64) × (Nat → Int64) × (Nat → Int64)) := (m_is count sorts x1 ((4 : Int32))).bind fun r1 => if r1 = 0 then (some ((-2 : Int32), count, sorts, rows, draft, frame, turned)) else ((m_isObject count x2).bind fun r2 => if r2 = 0 then (some ((-2 : Int32), count, sorts, rows, draft, frame, turned)) else (if gi x2 60 then if ((2 : Int32)) < (sorts x2.toNatClampNeg) then (some ((-2 : Int32), count, sorts, rows, draft, frame, turned)) else (if n = ((3 : Int32)) then (if gi x2 60 then if (sorts x2.toNatClampNeg) = ((1 : Int32)) then (some ((-2 : Int32), count, sorts, rows, draft, frame, turned)) else (m_polar_J48 n p count sorts rows draft frame turned x1 x2) else none) else (m_polar_J48 n p count sorts rows draft frame turned x1 x2)) else none))
set_option maxHeartbeats 4000000 in
set_option maxRecDepth 100000 in
theorem w_polar_L96 {K : kT} {O : oT} (C : aC K cX6_polar RX6 "polar" 6 98 0 0 6 (some .int) O) {h0 : Nat} {hp : cH} {sz : Nat} {n : Int32} {p : Int64} {count : Int32} {sorts : Nat → Int32} {rows : Nat → Int64} {hand : Nat → Int64} {gathered : Int32} {gather : Nat → Int32} {paired : Int32} {pairA : Nat → Int32} {pairB : Nat → Int32} {ideal : Int32} {frame : Nat → Int64} {one : Nat → Int64} {two : Nat → Int64} {turned : Nat → Int64} {placeI : Int32} {placeJ : Int32} {formA : Int64} {formB : Int64} {formC : Int64} {l1 : Int32} {l2 : Int32} {l3 : Int32} {l4 : Int32} {v0 : Int32} {v1 : Nat → Int64} {r : (Nat → Int64)} (h : itX (m_polar_L96 n p rows turned l1 l2 l3 l4) (v0, v1) = some r) (hr : aW K (mw h0 hp n p count sorts rows hand gathered gather paired pairA pairB ideal r frame one two turned placeI placeJ formA formB formC) sz 0 0 179 [(0, .ref h0), (1, .int l1), (2, .int l2), (3, .int l3), (4, .int l4)] []) : aW K (mw h0 hp n p count sorts rows hand gathered gather paired pairA pairB ideal v1 frame one two turned placeI placeJ formA formB formC) sz 0 0 96 [(0, .ref h0), (1, .int l1), (2, .int l2), (3, .int l3), (4, .int l4), (5, .int v0)] [] := by
  refine it_walk (f := m_polar_L96 n p rows turned l1 l2 l3 l4) (P := fun s => aW K (mw h0 hp n p count sorts rows hand gathered gather paired pairA pairB ideal s.2 frame one two turned placeI placeJ formA formB formC) sz 0 0 96 [(0, .ref h0), (1, .int l1), (2, .int l2), (3, .int l3), (4, .int l4), (5, .int s.1)] []) (R := fun r => aW K (mw h0 hp n p count sorts rows hand gathered gather paired pairA pairB ideal r frame one two turned placeI placeJ formA formB formC) sz 0 0 179 [(0, .ref h0), (1, .int l1), (2, .int l2), (3, .int l3), (4, .int l4)] []) ?_ h hr
  clear h hr
  intro s x h kl kr
  unfold m_polar_L96 at h
  refine r_iload C 5 rfl dX6_polar_96 ?_
  refine r_aload_n C 0 rfl dX6_polar_98 rfl ?_
  obtain ⟨r5, qr5, h⟩ := bd_i h
  refine q_callV C 1 0 0 (c_side qr5) rfl mw_self rfl ok_side in_side lk6_111 rfl (Nat.le_of_ble_eq_true rfl) ⟨Nat.le_of_ble_eq_true rfl, Nat.le_of_ble_eq_true rfl⟩ dX6_polar_99 rfl rfl ?_
  refine r_icmp_ge C (tgt := 179) dX6_polar_102 (by decide) (fun hc => ?_) (fun hc => ?_)
  · replace h := br_p hc h
    refine r_lv [0, 1, 2, 3, 4] rfl ?_
    exact kr _ (sm_i h)
  · replace h := br_n hc h
    refine r_aload_n C 0 rfl dX6_polar_105 rfl ?_
    refine m_g_draft C dX6_polar_106 ?_
    refine r_iload C 4 rfl dX6_polar_109 ?_
    refine r_aload_n C 0 rfl dX6_polar_111 rfl ?_
    refine m_g_draft C dX6_polar_112 ?_
    refine r_iload C 4 rfl dX6_polar_115 ?_
    obtain ⟨hi, h⟩ := gd_t h
    refine m_l_draft C hi dX6_polar_117 ?_
    refine r_aload_n C 0 rfl dX6_polar_118 rfl ?_
    refine r_iload_n C 3 rfl dX6_polar_119 rfl ?_
    refine r_if_eq C (tgt := 141) dX6_polar_120 (by decide) (fun hc => ?_) (fun hc => ?_)
    · replace h := br_p hc h
      refine r_aload_n C 0 rfl dX6_polar_141 rfl ?_
      refine r_iload_n C 1 rfl dX6_polar_142 rfl ?_
      refine r_iload C 4 rfl dX6_polar_143 ?_
      refine r_aload_n C 0 rfl dX6_polar_145 rfl ?_
      obtain ⟨r6, qr6, h⟩ := bd_i h
      refine q_callV C 8 0 0 (c_side qr6) rfl mw_self rfl ok_side in_side lk6_111 rfl (Nat.le_of_ble_eq_true rfl) ⟨Nat.le_of_ble_eq_true rfl, Nat.le_of_ble_eq_true rfl⟩ dX6_polar_146 rfl rfl ?_
      refine r_imul C dX6_polar_149 ?_
      refine r_iload C 5 rfl dX6_polar_150 ?_
      refine r_iadd C dX6_polar_152 ?_
      obtain ⟨r7, qr7, h⟩ := bd_i h
      refine q_callV C 5 0 0 (c_of qr7) rfl mw_self rfl ok_of in_of lk6_108 rfl (Nat.le_of_ble_eq_true rfl) ⟨Nat.le_of_ble_eq_true rfl, Nat.le_of_ble_eq_true rfl⟩ dX6_polar_153 rfl rfl ?_
      refine r_aload_n C 0 rfl dX6_polar_156 rfl ?_
      refine r_iload_n C 2 rfl dX6_polar_157 rfl ?_
      refine r_iload C 5 rfl dX6_polar_158 ?_
      obtain ⟨r8, qr8, h⟩ := bd_i h
      refine q_callV C 7 0 0 (c_of qr8) rfl mw_self rfl ok_of in_of lk6_108 rfl (Nat.le_of_ble_eq_true rfl) ⟨Nat.le_of_ble_eq_true rfl, Nat.le_of_ble_eq_true rfl⟩ dX6_polar_160 rfl rfl ?_
      obtain ⟨r9, qr9, h⟩ := bd_i h
      refine q_callV C 4 0 0 (c_times qr9) rfl mw_self rfl ok_times in_times lk6_76 rfl (Nat.le_of_ble_eq_true rfl) ⟨Nat.le_of_ble_eq_true rfl, Nat.le_of_ble_eq_true rfl⟩ dX6_polar_163 rfl rfl ?_
      refine r_ladd C dX6_polar_166 ?_
      refine r_aload_n C 0 rfl dX6_polar_167 rfl ?_
      refine m_g_p C dX6_polar_168 ?_
      obtain ⟨hne, h⟩ := gd_n h
      refine r_lrem C dX6_polar_171 hne ?_
      obtain ⟨hi, h⟩ := gd_t h
      refine m_s_draft C hi dX6_polar_172 ?_
      refine r_iinc C (v := s.1 + 1) (lv' := [(5, .int (s.1 + 1)), (0, .ref h0), (1, .int l1), (2, .int l2), (3, .int l3), (4, .int l4)]) 5 rfl dX6_polar_173 rfl (by decide) rfl ?_
      refine r_goto C (tgt := 96) dX6_polar_176 (by decide) ?_
      refine r_lv [1, 2, 3, 4, 5, 0] rfl ?_
      exact kl _ (sm_i h)
    · replace h := br_n hc h
      refine r_aload_n C 0 rfl dX6_polar_123 rfl ?_
      refine m_g_turned C dX6_polar_124 ?_
      refine r_iload C 4 rfl dX6_polar_127 ?_
      refine r_aload_n C 0 rfl dX6_polar_129 rfl ?_
      obtain ⟨r10, qr10, h⟩ := bd_i h
      refine q_callV C 7 0 0 (c_side qr10) rfl mw_self rfl ok_side in_side lk6_111 rfl (Nat.le_of_ble_eq_true rfl) ⟨Nat.le_of_ble_eq_true rfl, Nat.le_of_ble_eq_true rfl⟩ dX6_polar_130 rfl rfl ?_
      refine r_imul C dX6_polar_133 ?_
      refine r_iload C 5 rfl dX6_polar_134 ?_
      refine r_iadd C dX6_polar_136 ?_
      obtain ⟨hi, h⟩ := gd_t h
      refine m_l_turned C hi dX6_polar_137 ?_
      refine r_goto C (tgt := 156) dX6_polar_138 (by decide) ?_
      refine r_aload_n C 0 rfl dX6_polar_156 rfl ?_
      refine r_iload_n C 2 rfl dX6_polar_157 rfl ?_
      refine r_iload C 5 rfl dX6_polar_158 ?_
      obtain ⟨r11, qr11, h⟩ := bd_i h
      refine q_callV C 7 0 0 (c_of qr11) rfl mw_self rfl ok_of in_of lk6_108 rfl (Nat.le_of_ble_eq_true rfl) ⟨Nat.le_of_ble_eq_true rfl, Nat.le_of_ble_eq_true rfl⟩ dX6_polar_160 rfl rfl ?_
      obtain ⟨r12, qr12, h⟩ := bd_i h
      refine q_callV C 4 0 0 (c_times qr12) rfl mw_self rfl ok_times in_times lk6_76 rfl (Nat.le_of_ble_eq_true rfl) ⟨Nat.le_of_ble_eq_true rfl, Nat.le_of_ble_eq_true rfl⟩ dX6_polar_163 rfl rfl ?_
      refine r_ladd C dX6_polar_166 ?_
      refine r_aload_n C 0 rfl dX6_polar_167 rfl ?_
      refine m_g_p C dX6_polar_168 ?_
      obtain ⟨hne, h⟩ := gd_n h
      refine r_lrem C dX6_polar_171 hne ?_
      obtain ⟨hi, h⟩ := gd_t h
      refine m_s_draft C hi dX6_polar_172 ?_
      refine r_iinc C (v := s.1 + 1) (lv' := [(5, .int (s.1 + 1)), (0, .ref h0), (1, .int l1), (2, .int l2), (3, .int l3), (4, .int l4)]) 5 rfl dX6_polar_173 rfl (by decide) rfl ?_
      refine r_goto C (tgt := 96) dX6_polar_176 (by decide) ?_
      refine r_lv [1, 2, 3, 4, 5, 0] rfl ?_
      exact kl _ (sm_i h)
set_option maxHeartbeats 4000000 in
set_option maxRecDepth 100000 in
theorem w_polar_L84 {K : kT} {O : oT} (C : aC K cX6_polar RX6 "polar" 6 98 0 0 6 (some .int) O) {h0 : Nat} {hp : cH} {sz : Nat} {n : Int32} {p : Int64} {count : Int32} {sorts : Nat → Int32} {rows : Nat → Int64} {hand : Nat → Int64} {gathered : Int32} {gather : Nat → Int32} {paired : Int32} {pairA : Nat → Int32} {pairB : Nat → Int32} {ideal : Int32} {frame : Nat → Int64} {one : Nat → Int64} {two : Nat → Int64} {turned : Nat → Int64} {placeI : Int32} {placeJ : Int32} {formA : Int64} {formB : Int64} {formC : Int64} {l1 : Int32} {l2 : Int32} {l3 : Int32} {v0 : Int32} {v1 : Nat → Int64} {r : (Nat → Int64)} (h : itX (m_polar_L84 n p rows turned l1 l2 l3) (v0, v1) = some r) (hr : aW K (mw h0 hp n p count sorts rows hand gathered gather paired pairA pairB ideal r frame one two turned placeI placeJ formA formB formC) sz 0 0 185 [(0, .ref h0), (3, .int l3)] []) : aW K (mw h0 hp n p count sorts rows hand gathered gather paired pairA pairB ideal v1 frame one two turned placeI placeJ formA formB formC) sz 0 0 84 [(0, .ref h0), (1, .int l1), (2, .int l2), (3, .int l3), (4, .int v0)] [] := by
  refine it_walk (f := m_polar_L84 n p rows turned l1 l2 l3) (P := fun s => aW K (mw h0 hp n p count sorts rows hand gathered gather paired pairA pairB ideal s.2 frame one two turned placeI placeJ formA formB formC) sz 0 0 84 [(0, .ref h0), (1, .int l1), (2, .int l2), (3, .int l3), (4, .int s.1)] []) (R := fun r => aW K (mw h0 hp n p count sorts rows hand gathered gather paired pairA pairB ideal r frame one two turned placeI placeJ formA formB formC) sz 0 0 185 [(0, .ref h0), (3, .int l3)] []) ?_ h hr
  clear h hr
  intro s x h kl kr
  unfold m_polar_L84 at h
  refine r_iload C 4 rfl dX6_polar_84 ?_
  refine r_aload_n C 0 rfl dX6_polar_86 rfl ?_
  obtain ⟨r4, qr4, h⟩ := bd_i h
  refine q_callV C 1 0 0 (c_side qr4) rfl mw_self rfl ok_side in_side lk6_111 rfl (Nat.le_of_ble_eq_true rfl) ⟨Nat.le_of_ble_eq_true rfl, Nat.le_of_ble_eq_true rfl⟩ dX6_polar_87 rfl rfl ?_
  refine r_icmp_ge C (tgt := 185) dX6_polar_90 (by decide) (fun hc => ?_) (fun hc => ?_)
  · replace h := br_p hc h
    refine r_lv [0, 3] rfl ?_
    exact kr _ (sm_i h)
  · replace h := br_n hc h
    refine r_iconst C (v := 0) dX6_polar_93 (by decide) ?_
    refine r_istore C (lv' := [(5, .int ((0 : Int32))), (0, .ref h0), (1, .int l1), (2, .int l2), (3, .int l3), (4, .int s.1)]) dX6_polar_94 (by decide) rfl ?_
    refine r_lv [1, 2, 3, 4, 5, 0] rfl ?_
    obtain ⟨r13, qr13, h⟩ := bd_i h
    refine w_polar_L96 C qr13 ?_
    refine r_iinc C (v := s.1 + 1) (lv' := [(4, .int (s.1 + 1)), (0, .ref h0), (1, .int l1), (2, .int l2), (3, .int l3)]) 4 rfl dX6_polar_179 rfl (by decide) rfl ?_
    refine r_goto C (tgt := 84) dX6_polar_182 (by decide) ?_
    refine r_lv [1, 2, 3, 4, 0] rfl ?_
    exact kl _ (sm_i h)
set_option maxHeartbeats 4000000 in
set_option maxRecDepth 100000 in
theorem w_polar_J77 {K : kT} {O : oT} (C : aC K cX6_polar RX6 "polar" 6 98 0 0 6 (some .int) O) {h0 : Nat} {hp : cH} {sz : Nat} {n : Int32} {p : Int64} {count : Int32} {sorts : Nat → Int32} {rows : Nat → Int64} {hand : Nat → Int64} {gathered : Int32} {gather : Nat → Int32} {paired : Int32} {pairA : Nat → Int32} {pairB : Nat → Int32} {ideal : Int32} {draft : Nat → Int64} {frame : Nat → Int64} {one : Nat → Int64} {two : Nat → Int64} {turned : Nat → Int64} {placeI : Int32} {placeJ : Int32} {formA : Int64} {formB : Int64} {formC : Int64} {l1 : Int32} {l2 : Int32} {l3 : Int32} {out : (Int32 × Int32 × (Nat → Int32) × (Nat → Int64) × (Nat → Int64) × (Nat → Int64) × (Nat → Int64))} (h : m_polar_J77 n p count sorts rows draft frame turned l1 l2 l3 = some out) (hO : ((some (.int out.1), mw h0 hp n p out.2.1 out.2.2.1 out.2.2.2.1 hand gathered gather paired pairA pairB ideal out.2.2.2.2.1 out.2.2.2.2.2.1 one two out.2.2.2.2.2.2 placeI placeJ formA formB formC, sz) : oT) = O) : aW K (mw h0 hp n p count sorts rows hand gathered gather paired pairA pairB ideal draft frame one two turned placeI placeJ formA formB formC) sz 0 0 77 [(0, .ref h0), (1, .int l1), (2, .int l2), (3, .int l3)] [] := by
  unfold m_polar_J77 at h
  refine r_aload_n C 0 rfl dX6_polar_77 rfl ?_
  obtain ⟨r3, qr3, h⟩ := bd_i h
  refine q_callVv C 0 0 0 (c_clear qr3) rfl mw_self rfl ok_clear in_clear lk6_136 rfl (Nat.le_of_ble_eq_true rfl) ⟨Nat.le_of_ble_eq_true rfl, Nat.le_of_ble_eq_true rfl⟩ dX6_polar_78 rfl rfl ?_
  refine r_iconst C (v := 0) dX6_polar_81 (by decide) ?_
  refine r_istore C (lv' := [(4, .int ((0 : Int32))), (0, .ref h0), (1, .int l1), (2, .int l2), (3, .int l3)]) dX6_polar_82 (by decide) rfl ?_
  refine r_lv [1, 2, 3, 4, 0] rfl ?_
  obtain ⟨r14, qr14, h⟩ := bd_i h
  refine w_polar_L84 C qr14 ?_
  refine r_aload_n C 0 rfl dX6_polar_185 rfl ?_
  refine r_iload_n C 1 rfl dX6_polar_186 rfl ?_
  refine r_if_eq C (tgt := 194) dX6_polar_187 (by decide) (fun hc => ?_) (fun hc => ?_)
  · replace h := br_p hc h
    refine r_aload_n C 0 rfl dX6_polar_194 rfl ?_
    refine m_g_n C dX6_polar_195 ?_
    refine r_iconst C (v := 2) dX6_polar_198 (by decide) ?_
    refine r_icmp_ne C (tgt := 206) dX6_polar_199 (by decide) (fun hc => ?_) (fun hc => ?_)
    · replace h := br_n hc h
      refine r_iconst C (v := 2) dX6_polar_206 (by decide) ?_
      obtain ⟨r15, qr15, h⟩ := bd_i h
      refine q_callV C 0 0 0 (c_madeOrNone qr15) rfl mw_self rfl ok_madeOrNone in_madeOrNone lk6_168 rfl (Nat.le_of_ble_eq_true rfl) ⟨Nat.le_of_ble_eq_true rfl, Nat.le_of_ble_eq_true rfl⟩ dX6_polar_207 rfl rfl ?_
      obtain rfl := sm_i h
      exact r_ireturn C (Eq.symm hO) dX6_polar_210
    · replace h := br_p hc h
      refine r_iconst C (v := 1) dX6_polar_202 (by decide) ?_
      refine r_goto C (tgt := 207) dX6_polar_203 (by decide) ?_
      obtain ⟨r16, qr16, h⟩ := bd_i h
      refine q_callV C 0 0 0 (c_madeOrNone qr16) rfl mw_self rfl ok_madeOrNone in_madeOrNone lk6_168 rfl (Nat.le_of_ble_eq_true rfl) ⟨Nat.le_of_ble_eq_true rfl, Nat.le_of_ble_eq_true rfl⟩ dX6_polar_207 rfl rfl ?_
      obtain rfl := sm_i h
      exact r_ireturn C (Eq.symm hO) dX6_polar_210
  · replace h := br_n hc h
    refine r_iconst C (v := 0) dX6_polar_190 (by decide) ?_
    refine r_goto C (tgt := 207) dX6_polar_191 (by decide) ?_
    obtain ⟨r17, qr17, h⟩ := bd_i h
    refine q_callV C 0 0 0 (c_madeOrNone qr17) rfl mw_self rfl ok_madeOrNone in_madeOrNone lk6_168 rfl (Nat.le_of_ble_eq_true rfl) ⟨Nat.le_of_ble_eq_true rfl, Nat.le_of_ble_eq_true rfl⟩ dX6_polar_207 rfl rfl ?_
    obtain rfl := sm_i h
    exact r_ireturn C (Eq.symm hO) dX6_polar_210
set_option maxHeartbeats 4000000 in
set_option maxRecDepth 100000 in
theorem w_polar_J48 {K : kT} {O : oT} (C : aC K cX6_polar RX6 "polar" 6 98 0 0 6 (some .int) O) {h0 : Nat} {hp : cH} {sz : Nat} {n : Int32} {p : Int64} {count : Int32} {sorts : Nat → Int32} {rows : Nat → Int64} {hand : Nat → Int64} {gathered : Int32} {gather : Nat → Int32} {paired : Int32} {pairA : Nat → Int32} {pairB : Nat → Int32} {ideal : Int32} {draft : Nat → Int64} {frame : Nat → Int64} {one : Nat → Int64} {two : Nat → Int64} {turned : Nat → Int64} {placeI : Int32} {placeJ : Int32} {formA : Int64} {formB : Int64} {formC : Int64} {l1 : Int32} {l2 : Int32} {out : (Int32 × Int32 × (Nat → Int32) × (Nat → Int64) × (Nat → Int64) × (Nat → Int64) × (Nat → Int64))} (h : m_polar_J48 n p count sorts rows draft frame turned l1 l2 = some out) (hO : ((some (.int out.1), mw h0 hp n p out.2.1 out.2.2.1 out.2.2.2.1 hand gathered gather paired pairA pairB ideal out.2.2.2.2.1 out.2.2.2.2.2.1 one two out.2.2.2.2.2.2 placeI placeJ formA formB formC, sz) : oT) = O) : aW K (mw h0 hp n p count sorts rows hand gathered gather paired pairA pairB ideal draft frame one two turned placeI placeJ formA formB formC) sz 0 0 48 [(0, .ref h0), (1, .int l1), (2, .int l2)] [] := by
  unfold m_polar_J48 at h
  refine r_aload_n C 0 rfl dX6_polar_48 rfl ?_
  refine m_g_sorts C dX6_polar_49 ?_
  refine r_iload_n C 2 rfl dX6_polar_52 rfl ?_
  obtain ⟨hi, h⟩ := gd_t h
  refine m_l_sorts C hi dX6_polar_53 ?_
  refine r_if_eq C (tgt := 61) dX6_polar_54 (by decide) (fun hc => ?_) (fun hc => ?_)
  · replace h := br_p hc h
    refine r_iconst C (v := 0) dX6_polar_61 (by decide) ?_
    refine r_istore_n C (lv' := [(3, .int ((0 : Int32))), (0, .ref h0), (1, .int l1), (2, .int l2)]) dX6_polar_62 rfl (by decide) rfl ?_
    refine r_iload_n C 0 rfl dX6_polar_63 rfl ?_
    refine r_if_eq C (tgt := 77) dX6_polar_64 (by decide) (fun hc => ?_) (fun hc => ?_)
    · replace h := br_p hc h
      refine r_lv [1, 2, 3, 0] rfl ?_
      exact w_polar_J77 C h hO
    · replace h := br_n hc h
      refine r_aload_n C 1 rfl dX6_polar_67 rfl ?_
      refine r_iload_n C 2 rfl dX6_polar_68 rfl ?_
      obtain ⟨r18, qr18, h⟩ := bd_i h
      refine q_callV C 0 0 0 (c_isTurned qr18) rfl mw_self rfl ok_isTurned in_isTurned lk6_240 rfl (Nat.le_of_ble_eq_true rfl) ⟨Nat.le_of_ble_eq_true rfl, Nat.le_of_ble_eq_true rfl⟩ dX6_polar_69 rfl rfl ?_
      refine r_if_ne C (tgt := 77) dX6_polar_72 (by decide) (fun hc => ?_) (fun hc => ?_)
      · replace h := br_n hc h
        refine r_lv [1, 2, 3, 0] rfl ?_
        exact w_polar_J77 C h hO
      · replace h := br_p hc h
        refine r_iconst C (v := -1) dX6_polar_75 (by decide) ?_
        obtain rfl := sm_i h
        exact r_ireturn C (Eq.symm hO) dX6_polar_76
  · replace h := br_n hc h
    refine r_iconst C (v := 1) dX6_polar_57 (by decide) ?_
    refine r_goto C (tgt := 62) dX6_polar_58 (by decide) ?_
    refine r_istore_n C (lv' := [(3, .int ((1 : Int32))), (0, .ref h0), (1, .int l1), (2, .int l2)]) dX6_polar_62 rfl (by decide) rfl ?_
    refine r_iload_n C 0 rfl dX6_polar_63 rfl ?_
    refine r_if_eq C (tgt := 77) dX6_polar_64 (by decide) (fun hc => ?_) (fun hc => ?_)
    · replace h := br_p hc h
      refine r_lv [1, 2, 3, 0] rfl ?_
      exact w_polar_J77 C h hO
    · replace h := br_n hc h
      refine r_aload_n C 1 rfl dX6_polar_67 rfl ?_
      refine r_iload_n C 2 rfl dX6_polar_68 rfl ?_
      obtain ⟨r19, qr19, h⟩ := bd_i h
      refine q_callV C 0 0 0 (c_isTurned qr19) rfl mw_self rfl ok_isTurned in_isTurned lk6_240 rfl (Nat.le_of_ble_eq_true rfl) ⟨Nat.le_of_ble_eq_true rfl, Nat.le_of_ble_eq_true rfl⟩ dX6_polar_69 rfl rfl ?_
      refine r_if_ne C (tgt := 77) dX6_polar_72 (by decide) (fun hc => ?_) (fun hc => ?_)
      · replace h := br_n hc h
        refine r_lv [1, 2, 3, 0] rfl ?_
        exact w_polar_J77 C h hO
      · replace h := br_p hc h
        refine r_iconst C (v := -1) dX6_polar_75 (by decide) ?_
        obtain rfl := sm_i h
        exact r_ireturn C (Eq.symm hO) dX6_polar_76
set_option maxHeartbeats 4000000 in
set_option maxRecDepth 100000 in
theorem c_polar {G : gT} {h0 : Nat} {hp : cH} {sz : Nat} {n : Int32} {p : Int64} {count : Int32} {sorts : Nat → Int32} {rows : Nat → Int64} {hand : Nat → Int64} {gathered : Int32} {gather : Nat → Int32} {paired : Int32} {pairA : Nat → Int32} {pairB : Nat → Int32} {ideal : Int32} {draft : Nat → Int64} {frame : Nat → Int64} {one : Nat → Int64} {two : Nat → Int64} {turned : Nat → Int64} {placeI : Int32} {placeJ : Int32} {formA : Int64} {formB : Int64} {formC : Int64} {x1 : Int32} {x2 : Int32} {out : (Int32 × Int32 × (Nat → Int32) × (Nat → Int64) × (Nat → Int64) × (Nat → Int64) × (Nat → Int64))} (h : m_polar n p count sorts rows draft frame turned x1 x2 = some out) : aM G yX6_polar cX6_polar 6 (some .int) 6 98 0 0 [.ref h0, .int x1, .int x2] (mw h0 hp n p count sorts rows hand gathered gather paired pairA pairB ideal draft frame one two turned placeI placeJ formA formB formC) sz ((some (.int out.1), mw h0 hp n p out.2.1 out.2.2.1 out.2.2.2.1 hand gathered gather paired pairA pairB ideal out.2.2.2.2.1 out.2.2.2.2.2.1 one two out.2.2.2.2.2.2 placeI placeJ formA formB formC, sz) : oT) := by
  refine aM.of RX6 (by decide) rfl (Nat.le_of_ble_eq_true rfl) (fun K C => ?_)
  have hO : ((some (.int out.1), mw h0 hp n p out.2.1 out.2.2.1 out.2.2.2.1 hand gathered gather paired pairA pairB ideal out.2.2.2.2.1 out.2.2.2.2.2.1 one two out.2.2.2.2.2.2 placeI placeJ formA formB formC, sz) : oT) = ((some (.int out.1), mw h0 hp n p out.2.1 out.2.2.1 out.2.2.2.1 hand gathered gather paired pairA pairB ideal out.2.2.2.2.1 out.2.2.2.2.2.1 one two out.2.2.2.2.2.2 placeI placeJ formA formB formC, sz) : oT) := rfl
  refine r_lve (lv' := [(0, .ref h0), (1, .int x1), (2, .int x2)]) rfl ?_
  unfold m_polar at h
  refine r_aload_n C 0 rfl dX6_polar_0 rfl ?_
  refine r_iload_n C 1 rfl dX6_polar_1 rfl ?_
  refine r_iconst C (v := 4) dX6_polar_2 (by decide) ?_
  obtain ⟨r1, qr1, h⟩ := bd_i h
  refine q_callV C 0 0 0 (c_is qr1) rfl mw_self rfl ok_is in_is lk6_146 rfl (Nat.le_of_ble_eq_true rfl) ⟨Nat.le_of_ble_eq_true rfl, Nat.le_of_ble_eq_true rfl⟩ dX6_polar_3 rfl rfl ?_
  refine r_if_eq C (tgt := 45) dX6_polar_6 (by decide) (fun hc => ?_) (fun hc => ?_)
  · replace h := br_p hc h
    refine r_bipush C (v := -2) dX6_polar_45 (by decide) ?_
    obtain rfl := sm_i h
    exact r_ireturn C (Eq.symm hO) dX6_polar_47
  · replace h := br_n hc h
    refine r_aload_n C 0 rfl dX6_polar_9 rfl ?_
    refine r_iload_n C 2 rfl dX6_polar_10 rfl ?_
    obtain ⟨r2, qr2, h⟩ := bd_i h
    refine q_callV C 0 0 0 (c_isObject qr2) rfl mw_self rfl ok_isObject in_isObject lk6_119 rfl (Nat.le_of_ble_eq_true rfl) ⟨Nat.le_of_ble_eq_true rfl, Nat.le_of_ble_eq_true rfl⟩ dX6_polar_11 rfl rfl ?_
    refine r_if_eq C (tgt := 45) dX6_polar_14 (by decide) (fun hc => ?_) (fun hc => ?_)
    · replace h := br_p hc h
      refine r_bipush C (v := -2) dX6_polar_45 (by decide) ?_
      obtain rfl := sm_i h
      exact r_ireturn C (Eq.symm hO) dX6_polar_47
    · replace h := br_n hc h
      refine r_aload_n C 0 rfl dX6_polar_17 rfl ?_
      refine m_g_sorts C dX6_polar_18 ?_
      refine r_iload_n C 2 rfl dX6_polar_21 rfl ?_
      obtain ⟨hi, h⟩ := gd_t h
      refine m_l_sorts C hi dX6_polar_22 ?_
      refine r_iconst C (v := 2) dX6_polar_23 (by decide) ?_
      refine r_icmp_gt C (tgt := 45) dX6_polar_24 (by decide) (fun hc => ?_) (fun hc => ?_)
      · replace h := br_p hc h
        refine r_bipush C (v := -2) dX6_polar_45 (by decide) ?_
        obtain rfl := sm_i h
        exact r_ireturn C (Eq.symm hO) dX6_polar_47
      · replace h := br_n hc h
        refine r_aload_n C 0 rfl dX6_polar_27 rfl ?_
        refine m_g_n C dX6_polar_28 ?_
        refine r_iconst C (v := 3) dX6_polar_31 (by decide) ?_
        refine r_icmp_ne C (tgt := 48) dX6_polar_32 (by decide) (fun hc => ?_) (fun hc => ?_)
        · replace h := br_n hc h
          refine r_lv [0, 1, 2] rfl ?_
          exact w_polar_J48 C h hO
        · replace h := br_p hc h
          refine r_aload_n C 0 rfl dX6_polar_35 rfl ?_
          refine m_g_sorts C dX6_polar_36 ?_
          refine r_iload_n C 2 rfl dX6_polar_39 rfl ?_
          obtain ⟨hi, h⟩ := gd_t h
          refine m_l_sorts C hi dX6_polar_40 ?_
          refine r_iconst C (v := 1) dX6_polar_41 (by decide) ?_
          refine r_icmp_ne C (tgt := 48) dX6_polar_42 (by decide) (fun hc => ?_) (fun hc => ?_)
          · replace h := br_n hc h
            refine r_lv [0, 1, 2] rfl ?_
            exact w_polar_J48 C h hO
          · replace h := br_p hc h
            refine r_bipush C (v := -2) dX6_polar_45 (by decide) ?_
            obtain rfl := sm_i h
            exact r_ireturn C (Eq.symm hO) dX6_polar_47
noncomputable def m_forms (n : Int32) (p : Int64) (rows : Nat → Int64) (frame : Nat → Int64) (one : Nat → Int64) (two : Nat → Int64) (formA : Int64) (formB : Int64) (formC : Int64) (x1 : Int32) (x2 : Int32) : Option ((Nat → Int64) × (Nat → Int64) × (Nat → Int64) × Int64 × Int64 × Int64) := (m_base n p rows frame one two x2).bind fun r1 => (m_form n p rows r1.2.1 r1.2.2 x1 ((1 : Int32)) ((1 : Int32))).bind fun r2 => (m_form n p rows r1.2.1 r1.2.2 x1 ((1 : Int32)) ((0 : Int32))).bind fun r3 => (m_form n p rows r1.2.1 r1.2.2 x1 ((0 : Int32)) ((0 : Int32))).bind fun r4 => some (r1.1, r1.2.1, r1.2.2, r2, r3, r4)
set_option maxHeartbeats 4000000 in
set_option maxRecDepth 100000 in
theorem c_forms {G : gT} {h0 : Nat} {hp : cH} {sz : Nat} {n : Int32} {p : Int64} {count : Int32} {sorts : Nat → Int32} {rows : Nat → Int64} {hand : Nat → Int64} {gathered : Int32} {gather : Nat → Int32} {paired : Int32} {pairA : Nat → Int32} {pairB : Nat → Int32} {ideal : Int32} {draft : Nat → Int64} {frame : Nat → Int64} {one : Nat → Int64} {two : Nat → Int64} {turned : Nat → Int64} {placeI : Int32} {placeJ : Int32} {formA : Int64} {formB : Int64} {formC : Int64} {x1 : Int32} {x2 : Int32} {out : ((Nat → Int64) × (Nat → Int64) × (Nat → Int64) × Int64 × Int64 × Int64)} (h : m_forms n p rows frame one two formA formB formC x1 x2 = some out) : aM G yX6_forms cX6_forms 3 none 5 91 0 0 [.ref h0, .int x1, .int x2] (mw h0 hp n p count sorts rows hand gathered gather paired pairA pairB ideal draft frame one two turned placeI placeJ formA formB formC) sz ((none, mw h0 hp n p count sorts rows hand gathered gather paired pairA pairB ideal draft out.1 out.2.1 out.2.2.1 turned placeI placeJ out.2.2.2.1 out.2.2.2.2.1 out.2.2.2.2.2, sz) : oT) := by
  refine aM.of RX6 (by decide) rfl (Nat.le_of_ble_eq_true rfl) (fun K C => ?_)
  have hO : ((none, mw h0 hp n p count sorts rows hand gathered gather paired pairA pairB ideal draft out.1 out.2.1 out.2.2.1 turned placeI placeJ out.2.2.2.1 out.2.2.2.2.1 out.2.2.2.2.2, sz) : oT) = ((none, mw h0 hp n p count sorts rows hand gathered gather paired pairA pairB ideal draft out.1 out.2.1 out.2.2.1 turned placeI placeJ out.2.2.2.1 out.2.2.2.2.1 out.2.2.2.2.2, sz) : oT) := rfl
  refine r_lve (lv' := [(0, .ref h0), (1, .int x1), (2, .int x2)]) rfl ?_
  unfold m_forms at h
  refine r_aload_n C 0 rfl dX6_forms_0 rfl ?_
  refine r_iload_n C 2 rfl dX6_forms_1 rfl ?_
  obtain ⟨r1, qr1, h⟩ := bd_i h
  refine q_callVv C 0 0 0 (c_base qr1) rfl mw_self rfl ok_base in_base lk6_171 rfl (Nat.le_of_ble_eq_true rfl) ⟨Nat.le_of_ble_eq_true rfl, Nat.le_of_ble_eq_true rfl⟩ dX6_forms_2 rfl rfl ?_
  refine r_aload_n C 0 rfl dX6_forms_5 rfl ?_
  refine r_aload_n C 0 rfl dX6_forms_6 rfl ?_
  refine r_iload_n C 1 rfl dX6_forms_7 rfl ?_
  refine r_iconst C (v := 1) dX6_forms_8 (by decide) ?_
  refine r_iconst C (v := 1) dX6_forms_9 (by decide) ?_
  obtain ⟨r2, qr2, h⟩ := bd_i h
  refine q_callV C 1 0 0 (c_form qr2) rfl mw_self rfl ok_form in_form lk6_187 rfl (Nat.le_of_ble_eq_true rfl) ⟨Nat.le_of_ble_eq_true rfl, Nat.le_of_ble_eq_true rfl⟩ dX6_forms_10 rfl rfl ?_
  refine m_p_formA C dX6_forms_13 ?_
  refine r_aload_n C 0 rfl dX6_forms_16 rfl ?_
  refine r_aload_n C 0 rfl dX6_forms_17 rfl ?_
  refine r_iload_n C 1 rfl dX6_forms_18 rfl ?_
  refine r_iconst C (v := 1) dX6_forms_19 (by decide) ?_
  refine r_iconst C (v := 0) dX6_forms_20 (by decide) ?_
  obtain ⟨r3, qr3, h⟩ := bd_i h
  refine q_callV C 1 0 0 (c_form qr3) rfl mw_self rfl ok_form in_form lk6_187 rfl (Nat.le_of_ble_eq_true rfl) ⟨Nat.le_of_ble_eq_true rfl, Nat.le_of_ble_eq_true rfl⟩ dX6_forms_21 rfl rfl ?_
  refine m_p_formB C dX6_forms_24 ?_
  refine r_aload_n C 0 rfl dX6_forms_27 rfl ?_
  refine r_aload_n C 0 rfl dX6_forms_28 rfl ?_
  refine r_iload_n C 1 rfl dX6_forms_29 rfl ?_
  refine r_iconst C (v := 0) dX6_forms_30 (by decide) ?_
  refine r_iconst C (v := 0) dX6_forms_31 (by decide) ?_
  obtain ⟨r4, qr4, h⟩ := bd_i h
  refine q_callV C 1 0 0 (c_form qr4) rfl mw_self rfl ok_form in_form lk6_187 rfl (Nat.le_of_ble_eq_true rfl) ⟨Nat.le_of_ble_eq_true rfl, Nat.le_of_ble_eq_true rfl⟩ dX6_forms_32 rfl rfl ?_
  refine m_p_formC C dX6_forms_35 ?_
  obtain rfl := sm_i h
  exact r_return C (Eq.symm hO) dX6_forms_38
noncomputable def m_many_J34 (p : Int64) (formA : Int64) (formB : Int64) (formC : Int64) : Option Int64 := if formC = ((0 : Int64)) then (if formB = ((0 : Int64)) then (some ((1 : Int64))) else (some ((2 : Int64)))) else ((m_times p formB formB).bind fun r1 => (m_times p formA formC).bind fun r2 => (m_less p r1 r2).bind fun r3 => if r3 = ((0 : Int64)) then (some ((1 : Int64))) else ((m_isSquare p r3).bind fun r4 => if r4 = 0 then (some ((0 : Int64))) else (some ((2 : Int64)))))
noncomputable def m_many (p : Int64) (formA : Int64) (formB : Int64) (formC : Int64)  : Option Int64 := if formA = ((0 : Int64)) then (if formB = ((0 : Int64)) then (if formC = ((0 : Int64)) then (some (p + ((1 : Int64)))) else (m_many_J34 p formA formB formC)) else (m_many_J34 p formA formB formC)) else (m_many_J34 p formA formB formC)
set_option maxHeartbeats 4000000 in
set_option maxRecDepth 100000 in
theorem w_many_J34 {K : kT} {O : oT} (C : aC K cX6_many RX6 "many" 3 52 0 0 3 (some .long) O) {h0 : Nat} {hp : cH} {sz : Nat} {n : Int32} {p : Int64} {count : Int32} {sorts : Nat → Int32} {rows : Nat → Int64} {hand : Nat → Int64} {gathered : Int32} {gather : Nat → Int32} {paired : Int32} {pairA : Nat → Int32} {pairB : Nat → Int32} {ideal : Int32} {draft : Nat → Int64} {frame : Nat → Int64} {one : Nat → Int64} {two : Nat → Int64} {turned : Nat → Int64} {placeI : Int32} {placeJ : Int32} {formA : Int64} {formB : Int64} {formC : Int64}  {out : Int64} (h : m_many_J34 p formA formB formC = some out) (hO : ((some (.long out), mw h0 hp n p count sorts rows hand gathered gather paired pairA pairB ideal draft frame one two turned placeI placeJ formA formB formC, sz) : oT) = O) : aW K (mw h0 hp n p count sorts rows hand gathered gather paired pairA pairB ideal draft frame one two turned placeI placeJ formA formB formC) sz 0 0 34 [(0, .ref h0)] [] := by
  unfold m_many_J34 at h
  refine r_aload_n C 0 rfl dX6_many_34 rfl ?_
  refine m_g_formC C dX6_many_35 ?_
  refine r_lconst C (v := 0) dX6_many_38 (by decide) ?_
  refine r_lne C (tgt := 60) dX6_many_39 dX6_many_40 (by decide) (fun hc => ?_) (fun hc => ?_)
  · replace h := br_n hc h
    refine r_aload_n C 0 rfl dX6_many_60 rfl ?_
    refine r_aload_n C 0 rfl dX6_many_61 rfl ?_
    refine r_aload_n C 0 rfl dX6_many_62 rfl ?_
    refine m_g_formB C dX6_many_63 ?_
    refine r_aload_n C 0 rfl dX6_many_66 rfl ?_
    refine m_g_formB C dX6_many_67 ?_
    obtain ⟨r1, qr1, h⟩ := bd_i h
    refine q_callV C 1 0 0 (c_times qr1) rfl mw_self rfl ok_times in_times lk6_76 rfl (Nat.le_of_ble_eq_true rfl) ⟨Nat.le_of_ble_eq_true rfl, Nat.le_of_ble_eq_true rfl⟩ dX6_many_70 rfl rfl ?_
    refine r_aload_n C 0 rfl dX6_many_73 rfl ?_
    refine r_aload_n C 0 rfl dX6_many_74 rfl ?_
    refine m_g_formA C dX6_many_75 ?_
    refine r_aload_n C 0 rfl dX6_many_78 rfl ?_
    refine m_g_formC C dX6_many_79 ?_
    obtain ⟨r2, qr2, h⟩ := bd_i h
    refine q_callV C 3 0 0 (c_times qr2) rfl mw_self rfl ok_times in_times lk6_76 rfl (Nat.le_of_ble_eq_true rfl) ⟨Nat.le_of_ble_eq_true rfl, Nat.le_of_ble_eq_true rfl⟩ dX6_many_82 rfl rfl ?_
    obtain ⟨r3, qr3, h⟩ := bd_i h
    refine q_callV C 0 0 0 (c_less qr3) rfl mw_self rfl ok_less in_less lk6_105 rfl (Nat.le_of_ble_eq_true rfl) ⟨Nat.le_of_ble_eq_true rfl, Nat.le_of_ble_eq_true rfl⟩ dX6_many_85 rfl rfl ?_
    refine r_lstore_n C (lv' := [(1, .long r3), (0, .ref h0)]) dX6_many_88 rfl (by decide) rfl ?_
    refine r_lload_n C 0 rfl dX6_many_89 rfl ?_
    refine r_lconst C (v := 0) dX6_many_90 (by decide) ?_
    refine r_lne C (tgt := 99) dX6_many_91 dX6_many_92 (by decide) (fun hc => ?_) (fun hc => ?_)
    · replace h := br_n hc h
      refine r_aload_n C 1 rfl dX6_many_99 rfl ?_
      refine r_lload_n C 0 rfl dX6_many_100 rfl ?_
      obtain ⟨r4, qr4, h⟩ := bd_i h
      refine q_callV C 0 0 0 (c_isSquare qr4) rfl mw_self rfl ok_isSquare in_isSquare lk6_83 rfl (Nat.le_of_ble_eq_true rfl) ⟨Nat.le_of_ble_eq_true rfl, Nat.le_of_ble_eq_true rfl⟩ dX6_many_101 rfl rfl ?_
      refine r_if_eq C (tgt := 113) dX6_many_104 (by decide) (fun hc => ?_) (fun hc => ?_)
      · replace h := br_p hc h
        refine r_lconst C (v := 0) dX6_many_113 (by decide) ?_
        obtain rfl := sm_i h
        exact r_lreturn C (Eq.symm hO) dX6_many_114
      · replace h := br_n hc h
        refine r_ldc2 C (v := 2) cl6_50 dX6_many_107 ?_
        refine r_goto C (tgt := 114) dX6_many_110 (by decide) ?_
        obtain rfl := sm_i h
        exact r_lreturn C (Eq.symm hO) dX6_many_114
    · replace h := br_p hc h
      refine r_lconst C (v := 1) dX6_many_95 (by decide) ?_
      refine r_goto C (tgt := 114) dX6_many_96 (by decide) ?_
      obtain rfl := sm_i h
      exact r_lreturn C (Eq.symm hO) dX6_many_114
  · replace h := br_p hc h
    refine r_aload_n C 0 rfl dX6_many_43 rfl ?_
    refine m_g_formB C dX6_many_44 ?_
    refine r_lconst C (v := 0) dX6_many_47 (by decide) ?_
    refine r_lne C (tgt := 56) dX6_many_48 dX6_many_49 (by decide) (fun hc => ?_) (fun hc => ?_)
    · replace h := br_n hc h
      refine r_ldc2 C (v := 2) cl6_50 dX6_many_56 ?_
      obtain rfl := sm_i h
      exact r_lreturn C (Eq.symm hO) dX6_many_59
    · replace h := br_p hc h
      refine r_lconst C (v := 1) dX6_many_52 (by decide) ?_
      refine r_goto C (tgt := 59) dX6_many_53 (by decide) ?_
      obtain rfl := sm_i h
      exact r_lreturn C (Eq.symm hO) dX6_many_59
set_option maxHeartbeats 4000000 in
set_option maxRecDepth 100000 in
theorem c_many {G : gT} {h0 : Nat} {hp : cH} {sz : Nat} {n : Int32} {p : Int64} {count : Int32} {sorts : Nat → Int32} {rows : Nat → Int64} {hand : Nat → Int64} {gathered : Int32} {gather : Nat → Int32} {paired : Int32} {pairA : Nat → Int32} {pairB : Nat → Int32} {ideal : Int32} {draft : Nat → Int64} {frame : Nat → Int64} {one : Nat → Int64} {two : Nat → Int64} {turned : Nat → Int64} {placeI : Int32} {placeJ : Int32} {formA : Int64} {formB : Int64} {formC : Int64}  {out : Int64} (h : m_many p formA formB formC  = some out) : aM G yX6_many cX6_many 3 (some .long) 3 52 0 0 [.ref h0] (mw h0 hp n p count sorts rows hand gathered gather paired pairA pairB ideal draft frame one two turned placeI placeJ formA formB formC) sz ((some (.long out), mw h0 hp n p count sorts rows hand gathered gather paired pairA pairB ideal draft frame one two turned placeI placeJ formA formB formC, sz) : oT) := by
  refine aM.of RX6 (by decide) rfl (Nat.le_of_ble_eq_true rfl) (fun K C => ?_)
  have hO : ((some (.long out), mw h0 hp n p count sorts rows hand gathered gather paired pairA pairB ideal draft frame one two turned placeI placeJ formA formB formC, sz) : oT) = ((some (.long out), mw h0 hp n p count sorts rows hand gathered gather paired pairA pairB ideal draft frame one two turned placeI placeJ formA formB formC, sz) : oT) := rfl
  refine r_lve (lv' := [(0, .ref h0)]) rfl ?_
  unfold m_many at h
  refine r_aload_n C 0 rfl dX6_many_0 rfl ?_
  refine m_g_formA C dX6_many_1 ?_
  refine r_lconst C (v := 0) dX6_many_4 (by decide) ?_
  refine r_lne C (tgt := 34) dX6_many_5 dX6_many_6 (by decide) (fun hc => ?_) (fun hc => ?_)
  · replace h := br_n hc h
    refine r_lv [0] rfl ?_
    exact w_many_J34 C h hO
  · replace h := br_p hc h
    refine r_aload_n C 0 rfl dX6_many_9 rfl ?_
    refine m_g_formB C dX6_many_10 ?_
    refine r_lconst C (v := 0) dX6_many_13 (by decide) ?_
    refine r_lne C (tgt := 34) dX6_many_14 dX6_many_15 (by decide) (fun hc => ?_) (fun hc => ?_)
    · replace h := br_n hc h
      refine r_lv [0] rfl ?_
      exact w_many_J34 C h hO
    · replace h := br_p hc h
      refine r_aload_n C 0 rfl dX6_many_18 rfl ?_
      refine m_g_formC C dX6_many_19 ?_
      refine r_lconst C (v := 0) dX6_many_22 (by decide) ?_
      refine r_lne C (tgt := 34) dX6_many_23 dX6_many_24 (by decide) (fun hc => ?_) (fun hc => ?_)
      · replace h := br_n hc h
        refine r_lv [0] rfl ?_
        exact w_many_J34 C h hO
      · replace h := br_p hc h
        refine r_aload_n C 0 rfl dX6_many_27 rfl ?_
        refine m_g_p C dX6_many_28 ?_
        refine r_lconst C (v := 1) dX6_many_31 (by decide) ?_
        refine r_ladd C dX6_many_32 ?_
        obtain rfl := sm_i h
        exact r_lreturn C (Eq.symm hO) dX6_many_33
noncomputable def m_touches (n : Int32) (p : Int64) (count : Int32) (sorts : Nat → Int32) (rows : Nat → Int64) (frame : Nat → Int64) (one : Nat → Int64) (two : Nat → Int64) (formA : Int64) (formB : Int64) (formC : Int64) (x1 : Int32) (x2 : Int32) : Option (Int64 × (Nat → Int64) × (Nat → Int64) × (Nat → Int64) × Int64 × Int64 × Int64) := (m_is count sorts x1 ((4 : Int32))).bind fun r1 => if r1 = 0 then (some ((-2 : Int64), frame, one, two, formA, formB, formC)) else ((m_is count sorts x2 ((1 : Int32))).bind fun r2 => if r2 = 0 then (some ((-2 : Int64), frame, one, two, formA, formB, formC)) else ((m_forms n p rows frame one two formA formB formC x1 x2).bind fun r3 => (m_many p r3.2.2.2.1 r3.2.2.2.2.1 r3.2.2.2.2.2).bind fun r4 => some (r4, r3.1, r3.2.1, r3.2.2.1, r3.2.2.2.1, r3.2.2.2.2.1, r3.2.2.2.2.2)))
set_option maxHeartbeats 4000000 in
set_option maxRecDepth 100000 in
theorem c_touches {G : gT} {h0 : Nat} {hp : cH} {sz : Nat} {n : Int32} {p : Int64} {count : Int32} {sorts : Nat → Int32} {rows : Nat → Int64} {hand : Nat → Int64} {gathered : Int32} {gather : Nat → Int32} {paired : Int32} {pairA : Nat → Int32} {pairB : Nat → Int32} {ideal : Int32} {draft : Nat → Int64} {frame : Nat → Int64} {one : Nat → Int64} {two : Nat → Int64} {turned : Nat → Int64} {placeI : Int32} {placeJ : Int32} {formA : Int64} {formB : Int64} {formC : Int64} {x1 : Int32} {x2 : Int32} {out : (Int64 × (Nat → Int64) × (Nat → Int64) × (Nat → Int64) × Int64 × Int64 × Int64)} (h : m_touches n p count sorts rows frame one two formA formB formC x1 x2 = some out) : aM G yX6_touches cX6_touches 3 (some .long) 6 105 0 0 [.ref h0, .int x1, .int x2] (mw h0 hp n p count sorts rows hand gathered gather paired pairA pairB ideal draft frame one two turned placeI placeJ formA formB formC) sz ((some (.long out.1), mw h0 hp n p count sorts rows hand gathered gather paired pairA pairB ideal draft out.2.1 out.2.2.1 out.2.2.2.1 turned placeI placeJ out.2.2.2.2.1 out.2.2.2.2.2.1 out.2.2.2.2.2.2, sz) : oT) := by
  refine aM.of RX6 (by decide) rfl (Nat.le_of_ble_eq_true rfl) (fun K C => ?_)
  have hO : ((some (.long out.1), mw h0 hp n p count sorts rows hand gathered gather paired pairA pairB ideal draft out.2.1 out.2.2.1 out.2.2.2.1 turned placeI placeJ out.2.2.2.2.1 out.2.2.2.2.2.1 out.2.2.2.2.2.2, sz) : oT) = ((some (.long out.1), mw h0 hp n p count sorts rows hand gathered gather paired pairA pairB ideal draft out.2.1 out.2.2.1 out.2.2.2.1 turned placeI placeJ out.2.2.2.2.1 out.2.2.2.2.2.1 out.2.2.2.2.2.2, sz) : oT) := rfl
  refine r_lve (lv' := [(0, .ref h0), (1, .int x1), (2, .int x2)]) rfl ?_
  unfold m_touches at h
  refine r_aload_n C 0 rfl dX6_touches_0 rfl ?_
  refine r_iload_n C 1 rfl dX6_touches_1 rfl ?_
  refine r_iconst C (v := 4) dX6_touches_2 (by decide) ?_
  obtain ⟨r1, qr1, h⟩ := bd_i h
  refine q_callV C 0 0 0 (c_is qr1) rfl mw_self rfl ok_is in_is lk6_146 rfl (Nat.le_of_ble_eq_true rfl) ⟨Nat.le_of_ble_eq_true rfl, Nat.le_of_ble_eq_true rfl⟩ dX6_touches_3 rfl rfl ?_
  refine r_if_eq C (tgt := 18) dX6_touches_6 (by decide) (fun hc => ?_) (fun hc => ?_)
  · replace h := br_p hc h
    refine r_ldc2 C (v := -2) cl6_214 dX6_touches_18 ?_
    obtain rfl := sm_i h
    exact r_lreturn C (Eq.symm hO) dX6_touches_21
  · replace h := br_n hc h
    refine r_aload_n C 0 rfl dX6_touches_9 rfl ?_
    refine r_iload_n C 2 rfl dX6_touches_10 rfl ?_
    refine r_iconst C (v := 1) dX6_touches_11 (by decide) ?_
    obtain ⟨r2, qr2, h⟩ := bd_i h
    refine q_callV C 0 0 0 (c_is qr2) rfl mw_self rfl ok_is in_is lk6_146 rfl (Nat.le_of_ble_eq_true rfl) ⟨Nat.le_of_ble_eq_true rfl, Nat.le_of_ble_eq_true rfl⟩ dX6_touches_12 rfl rfl ?_
    refine r_if_ne C (tgt := 22) dX6_touches_15 (by decide) (fun hc => ?_) (fun hc => ?_)
    · replace h := br_n hc h
      refine r_aload_n C 0 rfl dX6_touches_22 rfl ?_
      refine r_iload_n C 1 rfl dX6_touches_23 rfl ?_
      refine r_iload_n C 2 rfl dX6_touches_24 rfl ?_
      obtain ⟨r3, qr3, h⟩ := bd_i h
      refine q_callVv C 0 0 0 (c_forms qr3) rfl mw_self rfl ok_forms in_forms lk6_265 rfl (Nat.le_of_ble_eq_true rfl) ⟨Nat.le_of_ble_eq_true rfl, Nat.le_of_ble_eq_true rfl⟩ dX6_touches_25 rfl rfl ?_
      refine r_aload_n C 0 rfl dX6_touches_28 rfl ?_
      obtain ⟨r4, qr4, h⟩ := bd_i h
      refine q_callV C 0 0 0 (c_many qr4) rfl mw_self rfl ok_many in_many lk6_268 rfl (Nat.le_of_ble_eq_true rfl) ⟨Nat.le_of_ble_eq_true rfl, Nat.le_of_ble_eq_true rfl⟩ dX6_touches_29 rfl rfl ?_
      obtain rfl := sm_i h
      exact r_lreturn C (Eq.symm hO) dX6_touches_32
    · replace h := br_p hc h
      refine r_ldc2 C (v := -2) cl6_214 dX6_touches_18 ?_
      obtain rfl := sm_i h
      exact r_lreturn C (Eq.symm hO) dX6_touches_21
noncomputable def m_common_L262 (n : Int32) (p : Int64) (one : Nat → Int64) (two : Nat → Int64) (l6 : Int64) (s : (Int32 × (Nat → Int64))) : Option ((Int32 × (Nat → Int64)) ⊕ (Nat → Int64)) := (m_side n).bind fun r6 => if r6 ≤ s.1 then (some (.inr s.2)) else (if l6 = p then (if gi s.1 16 then if gi s.1 16 then some (.inl (s.1 + 1, vp_updL s.2 s.1.toNatClampNeg (two s.1.toNatClampNeg))) else none else none) else (if gi s.1 16 then if gi s.1 16 then (m_times p l6 (two s.1.toNatClampNeg)).bind fun r7 => if p = 0 then none else if gi s.1 16 then some (.inl (s.1 + 1, vp_updL s.2 s.1.toNatClampNeg (((one s.1.toNatClampNeg) + r7) - ((one s.1.toNatClampNeg) + r7) / p * p))) else none else none else none))
noncomputable def m_common_J255 (n : Int32) (p : Int64) (count : Int32) (sorts : Nat → Int32) (rows : Nat → Int64) (draft : Nat → Int64) (frame : Nat → Int64) (one : Nat → Int64) (two : Nat → Int64) (formA : Int64) (formB : Int64) (formC : Int64) (l6 : Int64) : Option (Int32 × Int32 × (Nat → Int32) × (Nat → Int64) × (Nat → Int64) × (Nat → Int64) × (Nat → Int64) × (Nat → Int64) × Int64 × Int64 × Int64) := (m_clear draft).bind fun r5 => (itX (m_common_L262 n p one two l6) ((0 : Int32), r5)).bind fun r8 => (m_made n p count sorts rows r8 ((0 : Int32))).bind fun r9 => some (r9.1, r9.2.1, r9.2.2.1, r9.2.2.2.1, r9.2.2.2.2, frame, one, two, formA, formB, formC)
noncomputable def m_common_J84 (n : Int32) (p : Int64) (count : Int32) (sorts : Nat → Int32) (rows : Nat → Int64) (draft : Nat → Int64) (frame : Nat → Int64) (one : Nat → Int64) (two : Nat → Int64) (formA : Int64) (formB : Int64) (formC : Int64) : Option (Int32 × Int32 × (Nat → Int32) × (Nat → Int64) × (Nat → Int64) × (Nat → Int64) × (Nat → Int64) × (Nat → Int64) × Int64 × Int64 × Int64) := m_common_J255 n p count sorts rows draft frame one two formA formB formC p
noncomputable def m_common (n : Int32) (p : Int64) (count : Int32) (sorts : Nat → Int32) (rows : Nat → Int64) (draft : Nat → Int64) (frame : Nat → Int64) (one : Nat → Int64) (two : Nat → Int64) (formA : Int64) (formB : Int64) (formC : Int64) (x1 : Int32) (x2 : Int32) (x3 : Int32) : Option (Int32 × Int32 × (Nat → Int32) × (Nat → Int64) × (Nat → Int64) × (Nat → Int64) × (Nat → Int64) × (Nat → Int64) × Int64 × Int64 × Int64) := (m_is count sorts x1 ((4 : Int32))).bind fun r1 => if r1 = 0 then (some ((-2 : Int32), count, sorts, rows, draft, frame, one, two, formA, formB, formC)) else ((m_is count sorts x2 ((1 : Int32))).bind fun r2 => if r2 = 0 then (some ((-2 : Int32), count, sorts, rows, draft, frame, one, two, formA, formB, formC)) else (if 0 ≤ x3 then ((m_forms n p rows frame one two formA formB formC x1 x2).bind fun r3 => (m_many p r3.2.2.2.1 r3.2.2.2.2.1 r3.2.2.2.2.2).bind fun r4 => if x3.toInt64 < r4 then (if p < r4 then (m_common_J255 n p count sorts rows draft r3.1 r3.2.1 r3.2.2.1 r3.2.2.2.1 r3.2.2.2.2.1 r3.2.2.2.2.2 x3.toInt64) else (if r3.2.2.2.2.2 = ((0 : Int64)) then (if r3.2.2.2.2.1 = ((0 : Int64)) then (m_common_J84 n p count sorts rows draft r3.1 r3.2.1 r3.2.2.1 r3.2.2.2.1 r3.2.2.2.2.1 r3.2.2.2.2.2) else (if x3 = ((1 : Int32)) then (m_common_J84 n p count sorts rows draft r3.1 r3.2.1 r3.2.2.1 r3.2.2.2.1 r3.2.2.2.2.1 r3.2.2.2.2.2) else ((m_less p ((0 : Int64)) r3.2.2.2.1).bind fun r20 => (m_times p ((2 : Int64)) r3.2.2.2.2.1).bind fun r21 => (m_over p r21).bind fun r22 => (m_times p r20 r22).bind fun r23 => m_common_J255 n p count sorts rows draft r3.1 r3.2.1 r3.2.2.1 r3.2.2.2.1 r3.2.2.2.2.1 r3.2.2.2.2.2 r23))) else ((m_times p r3.2.2.2.2.1 r3.2.2.2.2.1).bind fun r10 => (m_times p r3.2.2.2.1 r3.2.2.2.2.2).bind fun r11 => (m_less p r10 r11).bind fun r12 => (m_rootOf p r12).bind fun r13 => (m_over p r3.2.2.2.2.2).bind fun r14 => (m_less p r13 r3.2.2.2.2.1).bind fun r15 => (m_times p r15 r14).bind fun r16 => (m_less p ((0 : Int64)) r3.2.2.2.2.1).bind fun r17 => (m_less p r17 r13).bind fun r18 => (m_times p r18 r14).bind fun r19 => if x3 = 0 then (if r19 ≤ r16 then (if ((1 : Int32)) = ((0 : Int32)) then (if ((1 : Int32)) = 0 then (m_common_J255 n p count sorts rows draft r3.1 r3.2.1 r3.2.2.1 r3.2.2.2.1 r3.2.2.2.2.1 r3.2.2.2.2.2 r19) else (m_common_J255 n p count sorts rows draft r3.1 r3.2.1 r3.2.2.1 r3.2.2.2.1 r3.2.2.2.2.1 r3.2.2.2.2.2 r16)) else (if ((0 : Int32)) = 0 then (m_common_J255 n p count sorts rows draft r3.1 r3.2.1 r3.2.2.1 r3.2.2.2.1 r3.2.2.2.2.1 r3.2.2.2.2.2 r19) else (m_common_J255 n p count sorts rows draft r3.1 r3.2.1 r3.2.2.1 r3.2.2.2.1 r3.2.2.2.2.1 r3.2.2.2.2.2 r16))) else (if ((1 : Int32)) = ((1 : Int32)) then (if ((1 : Int32)) = 0 then (m_common_J255 n p count sorts rows draft r3.1 r3.2.1 r3.2.2.1 r3.2.2.2.1 r3.2.2.2.2.1 r3.2.2.2.2.2 r19) else (m_common_J255 n p count sorts rows draft r3.1 r3.2.1 r3.2.2.1 r3.2.2.2.1 r3.2.2.2.2.1 r3.2.2.2.2.2 r16)) else (if ((0 : Int32)) = 0 then (m_common_J255 n p count sorts rows draft r3.1 r3.2.1 r3.2.2.1 r3.2.2.2.1 r3.2.2.2.2.1 r3.2.2.2.2.2 r19) else (m_common_J255 n p count sorts rows draft r3.1 r3.2.1 r3.2.2.1 r3.2.2.2.1 r3.2.2.2.2.1 r3.2.2.2.2.2 r16)))) else (if r19 ≤ r16 then (if ((0 : Int32)) = ((0 : Int32)) then (if ((1 : Int32)) = 0 then (m_common_J255 n p count sorts rows draft r3.1 r3.2.1 r3.2.2.1 r3.2.2.2.1 r3.2.2.2.2.1 r3.2.2.2.2.2 r19) else (m_common_J255 n p count sorts rows draft r3.1 r3.2.1 r3.2.2.1 r3.2.2.2.1 r3.2.2.2.2.1 r3.2.2.2.2.2 r16)) else (if ((0 : Int32)) = 0 then (m_common_J255 n p count sorts rows draft r3.1 r3.2.1 r3.2.2.1 r3.2.2.2.1 r3.2.2.2.2.1 r3.2.2.2.2.2 r19) else (m_common_J255 n p count sorts rows draft r3.1 r3.2.1 r3.2.2.1 r3.2.2.2.1 r3.2.2.2.2.1 r3.2.2.2.2.2 r16))) else (if ((0 : Int32)) = ((1 : Int32)) then (if ((1 : Int32)) = 0 then (m_common_J255 n p count sorts rows draft r3.1 r3.2.1 r3.2.2.1 r3.2.2.2.1 r3.2.2.2.2.1 r3.2.2.2.2.2 r19) else (m_common_J255 n p count sorts rows draft r3.1 r3.2.1 r3.2.2.1 r3.2.2.2.1 r3.2.2.2.2.1 r3.2.2.2.2.2 r16)) else (if ((0 : Int32)) = 0 then (m_common_J255 n p count sorts rows draft r3.1 r3.2.1 r3.2.2.1 r3.2.2.2.1 r3.2.2.2.2.1 r3.2.2.2.2.2 r19) else (m_common_J255 n p count sorts rows draft r3.1 r3.2.1 r3.2.2.1 r3.2.2.2.1 r3.2.2.2.2.1 r3.2.2.2.2.2 r16))))))) else (some ((-1 : Int32), count, sorts, rows, draft, r3.1, r3.2.1, r3.2.2.1, r3.2.2.2.1, r3.2.2.2.2.1, r3.2.2.2.2.2))) else (some ((-2 : Int32), count, sorts, rows, draft, frame, one, two, formA, formB, formC))))
set_option maxHeartbeats 4000000 in
set_option maxRecDepth 100000 in
theorem w_common_L262 {K : kT} {O : oT} (C : aC K cX6_common RX6 "common" 6 105 0 0 17 (some .int) O) {h0 : Nat} {hp : cH} {sz : Nat} {n : Int32} {p : Int64} {count : Int32} {sorts : Nat → Int32} {rows : Nat → Int64} {hand : Nat → Int64} {gathered : Int32} {gather : Nat → Int32} {paired : Int32} {pairA : Nat → Int32} {pairB : Nat → Int32} {ideal : Int32} {frame : Nat → Int64} {one : Nat → Int64} {two : Nat → Int64} {turned : Nat → Int64} {placeI : Int32} {placeJ : Int32} {formA : Int64} {formB : Int64} {formC : Int64} {l6 : Int64} {v0 : Int32} {v1 : Nat → Int64} {r : (Nat → Int64)} (h : itX (m_common_L262 n p one two l6) (v0, v1) = some r) (hr : aW K (mw h0 hp n p count sorts rows hand gathered gather paired pairA pairB ideal r frame one two turned placeI placeJ formA formB formC) sz 0 0 330 [(0, .ref h0)] []) : aW K (mw h0 hp n p count sorts rows hand gathered gather paired pairA pairB ideal v1 frame one two turned placeI placeJ formA formB formC) sz 0 0 262 [(0, .ref h0), (6, .long l6), (8, .int v0)] [] := by
  refine it_walk (f := m_common_L262 n p one two l6) (P := fun s => aW K (mw h0 hp n p count sorts rows hand gathered gather paired pairA pairB ideal s.2 frame one two turned placeI placeJ formA formB formC) sz 0 0 262 [(0, .ref h0), (6, .long l6), (8, .int s.1)] []) (R := fun r => aW K (mw h0 hp n p count sorts rows hand gathered gather paired pairA pairB ideal r frame one two turned placeI placeJ formA formB formC) sz 0 0 330 [(0, .ref h0)] []) ?_ h hr
  clear h hr
  intro s x h kl kr
  unfold m_common_L262 at h
  refine r_iload C 2 rfl dX6_common_262 ?_
  refine r_aload_n C 0 rfl dX6_common_264 rfl ?_
  obtain ⟨r6, qr6, h⟩ := bd_i h
  refine q_callV C 1 0 0 (c_side qr6) rfl mw_self rfl ok_side in_side lk6_111 rfl (Nat.le_of_ble_eq_true rfl) ⟨Nat.le_of_ble_eq_true rfl, Nat.le_of_ble_eq_true rfl⟩ dX6_common_265 rfl rfl ?_
  refine r_icmp_ge C (tgt := 330) dX6_common_268 (by decide) (fun hc => ?_) (fun hc => ?_)
  · replace h := br_p hc h
    refine r_lv [0] rfl ?_
    exact kr _ (sm_i h)
  · replace h := br_n hc h
    refine r_aload_n C 0 rfl dX6_common_271 rfl ?_
    refine m_g_draft C dX6_common_272 ?_
    refine r_iload C 2 rfl dX6_common_275 ?_
    refine r_lload C 1 rfl dX6_common_277 ?_
    refine r_aload_n C 0 rfl dX6_common_279 rfl ?_
    refine m_g_p C dX6_common_280 ?_
    refine r_lne C (tgt := 297) dX6_common_283 dX6_common_284 (by decide) (fun hc => ?_) (fun hc => ?_)
    · replace h := br_n hc h
      refine r_aload_n C 0 rfl dX6_common_297 rfl ?_
      refine m_g_one C dX6_common_298 ?_
      refine r_iload C 2 rfl dX6_common_301 ?_
      obtain ⟨hi, h⟩ := gd_t h
      refine m_l_one C hi dX6_common_303 ?_
      refine r_aload_n C 0 rfl dX6_common_304 rfl ?_
      refine r_lload C 1 rfl dX6_common_305 ?_
      refine r_aload_n C 0 rfl dX6_common_307 rfl ?_
      refine m_g_two C dX6_common_308 ?_
      refine r_iload C 2 rfl dX6_common_311 ?_
      obtain ⟨hi, h⟩ := gd_t h
      refine m_l_two C hi dX6_common_313 ?_
      obtain ⟨r7, qr7, h⟩ := bd_i h
      refine q_callV C 4 0 0 (c_times qr7) rfl mw_self rfl ok_times in_times lk6_76 rfl (Nat.le_of_ble_eq_true rfl) ⟨Nat.le_of_ble_eq_true rfl, Nat.le_of_ble_eq_true rfl⟩ dX6_common_314 rfl rfl ?_
      refine r_ladd C dX6_common_317 ?_
      refine r_aload_n C 0 rfl dX6_common_318 rfl ?_
      refine m_g_p C dX6_common_319 ?_
      obtain ⟨hne, h⟩ := gd_n h
      refine r_lrem C dX6_common_322 hne ?_
      obtain ⟨hi, h⟩ := gd_t h
      refine m_s_draft C hi dX6_common_323 ?_
      refine r_iinc C (v := s.1 + 1) (lv' := [(8, .int (s.1 + 1)), (0, .ref h0), (6, .long l6)]) 2 rfl dX6_common_324 rfl (by decide) rfl ?_
      refine r_goto C (tgt := 262) dX6_common_327 (by decide) ?_
      refine r_lv [1, 2, 0] rfl ?_
      exact kl _ (sm_i h)
    · replace h := br_p hc h
      refine r_aload_n C 0 rfl dX6_common_287 rfl ?_
      refine m_g_two C dX6_common_288 ?_
      refine r_iload C 2 rfl dX6_common_291 ?_
      obtain ⟨hi, h⟩ := gd_t h
      refine m_l_two C hi dX6_common_293 ?_
      refine r_goto C (tgt := 323) dX6_common_294 (by decide) ?_
      obtain ⟨hi, h⟩ := gd_t h
      refine m_s_draft C hi dX6_common_323 ?_
      refine r_iinc C (v := s.1 + 1) (lv' := [(8, .int (s.1 + 1)), (0, .ref h0), (6, .long l6)]) 2 rfl dX6_common_324 rfl (by decide) rfl ?_
      refine r_goto C (tgt := 262) dX6_common_327 (by decide) ?_
      refine r_lv [1, 2, 0] rfl ?_
      exact kl _ (sm_i h)
set_option maxHeartbeats 4000000 in
set_option maxRecDepth 100000 in
theorem w_common_J255 {K : kT} {O : oT} (C : aC K cX6_common RX6 "common" 6 105 0 0 17 (some .int) O) {h0 : Nat} {hp : cH} {sz : Nat} {n : Int32} {p : Int64} {count : Int32} {sorts : Nat → Int32} {rows : Nat → Int64} {hand : Nat → Int64} {gathered : Int32} {gather : Nat → Int32} {paired : Int32} {pairA : Nat → Int32} {pairB : Nat → Int32} {ideal : Int32} {draft : Nat → Int64} {frame : Nat → Int64} {one : Nat → Int64} {two : Nat → Int64} {turned : Nat → Int64} {placeI : Int32} {placeJ : Int32} {formA : Int64} {formB : Int64} {formC : Int64} {l6 : Int64} {out : (Int32 × Int32 × (Nat → Int32) × (Nat → Int64) × (Nat → Int64) × (Nat → Int64) × (Nat → Int64) × (Nat → Int64) × Int64 × Int64 × Int64)} (h : m_common_J255 n p count sorts rows draft frame one two formA formB formC l6 = some out) (hO : ((some (.int out.1), mw h0 hp n p out.2.1 out.2.2.1 out.2.2.2.1 hand gathered gather paired pairA pairB ideal out.2.2.2.2.1 out.2.2.2.2.2.1 out.2.2.2.2.2.2.1 out.2.2.2.2.2.2.2.1 turned placeI placeJ out.2.2.2.2.2.2.2.2.1 out.2.2.2.2.2.2.2.2.2.1 out.2.2.2.2.2.2.2.2.2.2, sz) : oT) = O) : aW K (mw h0 hp n p count sorts rows hand gathered gather paired pairA pairB ideal draft frame one two turned placeI placeJ formA formB formC) sz 0 0 255 [(0, .ref h0), (6, .long l6)] [] := by
  unfold m_common_J255 at h
  refine r_aload_n C 0 rfl dX6_common_255 rfl ?_
  obtain ⟨r5, qr5, h⟩ := bd_i h
  refine q_callVv C 0 0 0 (c_clear qr5) rfl mw_self rfl ok_clear in_clear lk6_136 rfl (Nat.le_of_ble_eq_true rfl) ⟨Nat.le_of_ble_eq_true rfl, Nat.le_of_ble_eq_true rfl⟩ dX6_common_256 rfl rfl ?_
  refine r_iconst C (v := 0) dX6_common_259 (by decide) ?_
  refine r_istore C (lv' := [(8, .int ((0 : Int32))), (0, .ref h0), (6, .long l6)]) dX6_common_260 (by decide) rfl ?_
  refine r_lv [1, 2, 0] rfl ?_
  obtain ⟨r8, qr8, h⟩ := bd_i h
  refine w_common_L262 C qr8 ?_
  refine r_aload_n C 0 rfl dX6_common_330 rfl ?_
  refine r_iconst C (v := 0) dX6_common_331 (by decide) ?_
  obtain ⟨r9, qr9, h⟩ := bd_i h
  refine q_callV C 0 0 0 (c_made qr9) rfl mw_self rfl ok_made in_made lk6_133 rfl (Nat.le_of_ble_eq_true rfl) ⟨Nat.le_of_ble_eq_true rfl, Nat.le_of_ble_eq_true rfl⟩ dX6_common_332 rfl rfl ?_
  obtain rfl := sm_i h
  exact r_ireturn C (Eq.symm hO) dX6_common_335
set_option maxHeartbeats 4000000 in
set_option maxRecDepth 100000 in
theorem w_common_J84 {K : kT} {O : oT} (C : aC K cX6_common RX6 "common" 6 105 0 0 17 (some .int) O) {h0 : Nat} {hp : cH} {sz : Nat} {n : Int32} {p : Int64} {count : Int32} {sorts : Nat → Int32} {rows : Nat → Int64} {hand : Nat → Int64} {gathered : Int32} {gather : Nat → Int32} {paired : Int32} {pairA : Nat → Int32} {pairB : Nat → Int32} {ideal : Int32} {draft : Nat → Int64} {frame : Nat → Int64} {one : Nat → Int64} {two : Nat → Int64} {turned : Nat → Int64} {placeI : Int32} {placeJ : Int32} {formA : Int64} {formB : Int64} {formC : Int64}  {out : (Int32 × Int32 × (Nat → Int32) × (Nat → Int64) × (Nat → Int64) × (Nat → Int64) × (Nat → Int64) × (Nat → Int64) × Int64 × Int64 × Int64)} (h : m_common_J84 n p count sorts rows draft frame one two formA formB formC = some out) (hO : ((some (.int out.1), mw h0 hp n p out.2.1 out.2.2.1 out.2.2.2.1 hand gathered gather paired pairA pairB ideal out.2.2.2.2.1 out.2.2.2.2.2.1 out.2.2.2.2.2.2.1 out.2.2.2.2.2.2.2.1 turned placeI placeJ out.2.2.2.2.2.2.2.2.1 out.2.2.2.2.2.2.2.2.2.1 out.2.2.2.2.2.2.2.2.2.2, sz) : oT) = O) : aW K (mw h0 hp n p count sorts rows hand gathered gather paired pairA pairB ideal draft frame one two turned placeI placeJ formA formB formC) sz 0 0 84 [(0, .ref h0)] [] := by
  unfold m_common_J84 at h
  refine r_aload_n C 0 rfl dX6_common_84 rfl ?_
  refine m_g_p C dX6_common_85 ?_
  refine r_goto C (tgt := 119) dX6_common_88 (by decide) ?_
  refine r_lstore C (lv' := [(6, .long p), (0, .ref h0)]) dX6_common_119 (by decide) rfl ?_
  refine r_goto C (tgt := 255) dX6_common_121 (by decide) ?_
  refine r_lv [1, 0] rfl ?_
  exact w_common_J255 C h hO
set_option maxHeartbeats 4000000 in
set_option maxRecDepth 100000 in
theorem c_common {G : gT} {h0 : Nat} {hp : cH} {sz : Nat} {n : Int32} {p : Int64} {count : Int32} {sorts : Nat → Int32} {rows : Nat → Int64} {hand : Nat → Int64} {gathered : Int32} {gather : Nat → Int32} {paired : Int32} {pairA : Nat → Int32} {pairB : Nat → Int32} {ideal : Int32} {draft : Nat → Int64} {frame : Nat → Int64} {one : Nat → Int64} {two : Nat → Int64} {turned : Nat → Int64} {placeI : Int32} {placeJ : Int32} {formA : Int64} {formB : Int64} {formC : Int64} {x1 : Int32} {x2 : Int32} {x3 : Int32} {out : (Int32 × Int32 × (Nat → Int32) × (Nat → Int64) × (Nat → Int64) × (Nat → Int64) × (Nat → Int64) × (Nat → Int64) × Int64 × Int64 × Int64)} (h : m_common n p count sorts rows draft frame one two formA formB formC x1 x2 x3 = some out) : aM G yX6_common cX6_common 17 (some .int) 6 105 0 0 [.ref h0, .int x1, .int x2, .int x3] (mw h0 hp n p count sorts rows hand gathered gather paired pairA pairB ideal draft frame one two turned placeI placeJ formA formB formC) sz ((some (.int out.1), mw h0 hp n p out.2.1 out.2.2.1 out.2.2.2.1 hand gathered gather paired pairA pairB ideal out.2.2.2.2.1 out.2.2.2.2.2.1 out.2.2.2.2.2.2.1 out.2.2.2.2.2.2.2.1 turned placeI placeJ out.2.2.2.2.2.2.2.2.1 out.2.2.2.2.2.2.2.2.2.1 out.2.2.2.2.2.2.2.2.2.2, sz) : oT) := by
  refine aM.of RX6 (by decide) rfl (Nat.le_of_ble_eq_true rfl) (fun K C => ?_)
  have hO : ((some (.int out.1), mw h0 hp n p out.2.1 out.2.2.1 out.2.2.2.1 hand gathered gather paired pairA pairB ideal out.2.2.2.2.1 out.2.2.2.2.2.1 out.2.2.2.2.2.2.1 out.2.2.2.2.2.2.2.1 turned placeI placeJ out.2.2.2.2.2.2.2.2.1 out.2.2.2.2.2.2.2.2.2.1 out.2.2.2.2.2.2.2.2.2.2, sz) : oT) = ((some (.int out.1), mw h0 hp n p out.2.1 out.2.2.1 out.2.2.2.1 hand gathered gather paired pairA pairB ideal out.2.2.2.2.1 out.2.2.2.2.2.1 out.2.2.2.2.2.2.1 out.2.2.2.2.2.2.2.1 turned placeI placeJ out.2.2.2.2.2.2.2.2.1 out.2.2.2.2.2.2.2.2.2.1 out.2.2.2.2.2.2.2.2.2.2, sz) : oT) := rfl
  refine r_lve (lv' := [(0, .ref h0), (1, .int x1), (2, .int x2), (3, .int x3)]) rfl ?_
  unfold m_common at h
  refine r_aload_n C 0 rfl dX6_common_0 rfl ?_
  refine r_iload_n C 1 rfl dX6_common_1 rfl ?_
  refine r_iconst C (v := 4) dX6_common_2 (by decide) ?_
  obtain ⟨r1, qr1, h⟩ := bd_i h
  refine q_callV C 0 0 0 (c_is qr1) rfl mw_self rfl ok_is in_is lk6_146 rfl (Nat.le_of_ble_eq_true rfl) ⟨Nat.le_of_ble_eq_true rfl, Nat.le_of_ble_eq_true rfl⟩ dX6_common_3 rfl rfl ?_
  refine r_if_eq C (tgt := 22) dX6_common_6 (by decide) (fun hc => ?_) (fun hc => ?_)
  · replace h := br_p hc h
    refine r_bipush C (v := -2) dX6_common_22 (by decide) ?_
    obtain rfl := sm_i h
    exact r_ireturn C (Eq.symm hO) dX6_common_24
  · replace h := br_n hc h
    refine r_aload_n C 0 rfl dX6_common_9 rfl ?_
    refine r_iload_n C 2 rfl dX6_common_10 rfl ?_
    refine r_iconst C (v := 1) dX6_common_11 (by decide) ?_
    obtain ⟨r2, qr2, h⟩ := bd_i h
    refine q_callV C 0 0 0 (c_is qr2) rfl mw_self rfl ok_is in_is lk6_146 rfl (Nat.le_of_ble_eq_true rfl) ⟨Nat.le_of_ble_eq_true rfl, Nat.le_of_ble_eq_true rfl⟩ dX6_common_12 rfl rfl ?_
    refine r_if_eq C (tgt := 22) dX6_common_15 (by decide) (fun hc => ?_) (fun hc => ?_)
    · replace h := br_p hc h
      refine r_bipush C (v := -2) dX6_common_22 (by decide) ?_
      obtain rfl := sm_i h
      exact r_ireturn C (Eq.symm hO) dX6_common_24
    · replace h := br_n hc h
      refine r_iload_n C 3 rfl dX6_common_18 rfl ?_
      refine r_if_ge C (tgt := 25) dX6_common_19 (by decide) (fun hc => ?_) (fun hc => ?_)
      · replace h := br_p hc h
        refine r_aload_n C 0 rfl dX6_common_25 rfl ?_
        refine r_iload_n C 1 rfl dX6_common_26 rfl ?_
        refine r_iload_n C 2 rfl dX6_common_27 rfl ?_
        obtain ⟨r3, qr3, h⟩ := bd_i h
        refine q_callVv C 0 0 0 (c_forms qr3) rfl mw_self rfl ok_forms in_forms lk6_265 rfl (Nat.le_of_ble_eq_true rfl) ⟨Nat.le_of_ble_eq_true rfl, Nat.le_of_ble_eq_true rfl⟩ dX6_common_28 rfl rfl ?_
        refine r_aload_n C 0 rfl dX6_common_31 rfl ?_
        obtain ⟨r4, qr4, h⟩ := bd_i h
        refine q_callV C 0 0 0 (c_many qr4) rfl mw_self rfl ok_many in_many lk6_268 rfl (Nat.le_of_ble_eq_true rfl) ⟨Nat.le_of_ble_eq_true rfl, Nat.le_of_ble_eq_true rfl⟩ dX6_common_32 rfl rfl ?_
        refine r_lstore C (lv' := [(4, .long r4), (0, .ref h0), (1, .int x1), (2, .int x2), (3, .int x3)]) dX6_common_35 (by decide) rfl ?_
        refine r_iload_n C 4 rfl dX6_common_37 rfl ?_
        refine r_i2l C dX6_common_38 ?_
        refine r_lload C 0 rfl dX6_common_39 ?_
        refine r_llt C (tgt := 47) dX6_common_41 dX6_common_42 (by decide) (fun hc => ?_) (fun hc => ?_)
        · replace h := br_p hc h
          refine r_iload_n C 4 rfl dX6_common_47 rfl ?_
          refine r_i2l C dX6_common_48 ?_
          refine r_lstore C (lv' := [(6, .long x3.toInt64), (4, .long r4), (0, .ref h0), (1, .int x1), (2, .int x2), (3, .int x3)]) dX6_common_49 (by decide) rfl ?_
          refine r_lload C 1 rfl dX6_common_51 ?_
          refine r_aload_n C 2 rfl dX6_common_53 rfl ?_
          refine m_g_p C dX6_common_54 ?_
          refine r_lgt C (tgt := 255) dX6_common_57 dX6_common_58 (by decide) (fun hc => ?_) (fun hc => ?_)
          · replace h := br_p hc h
            refine r_lv [2, 0] rfl ?_
            exact w_common_J255 C h hO
          · replace h := br_n hc h
            refine r_aload_n C 2 rfl dX6_common_61 rfl ?_
            refine m_g_formC C dX6_common_62 ?_
            refine r_lconst C (v := 0) dX6_common_65 (by decide) ?_
            refine r_lne C (tgt := 124) dX6_common_66 dX6_common_67 (by decide) (fun hc => ?_) (fun hc => ?_)
            · replace h := br_n hc h
              refine r_aload_n C 2 rfl dX6_common_124 rfl ?_
              refine r_aload_n C 2 rfl dX6_common_125 rfl ?_
              refine r_aload_n C 2 rfl dX6_common_126 rfl ?_
              refine r_aload_n C 2 rfl dX6_common_127 rfl ?_
              refine m_g_formB C dX6_common_128 ?_
              refine r_aload_n C 2 rfl dX6_common_131 rfl ?_
              refine m_g_formB C dX6_common_132 ?_
              obtain ⟨r10, qr10, h⟩ := bd_i h
              refine q_callV C 2 0 0 (c_times qr10) rfl mw_self rfl ok_times in_times lk6_76 rfl (Nat.le_of_ble_eq_true rfl) ⟨Nat.le_of_ble_eq_true rfl, Nat.le_of_ble_eq_true rfl⟩ dX6_common_135 rfl rfl ?_
              refine r_aload_n C 2 rfl dX6_common_138 rfl ?_
              refine r_aload_n C 2 rfl dX6_common_139 rfl ?_
              refine m_g_formA C dX6_common_140 ?_
              refine r_aload_n C 2 rfl dX6_common_143 rfl ?_
              refine m_g_formC C dX6_common_144 ?_
              obtain ⟨r11, qr11, h⟩ := bd_i h
              refine q_callV C 4 0 0 (c_times qr11) rfl mw_self rfl ok_times in_times lk6_76 rfl (Nat.le_of_ble_eq_true rfl) ⟨Nat.le_of_ble_eq_true rfl, Nat.le_of_ble_eq_true rfl⟩ dX6_common_147 rfl rfl ?_
              obtain ⟨r12, qr12, h⟩ := bd_i h
              refine q_callV C 1 0 0 (c_less qr12) rfl mw_self rfl ok_less in_less lk6_105 rfl (Nat.le_of_ble_eq_true rfl) ⟨Nat.le_of_ble_eq_true rfl, Nat.le_of_ble_eq_true rfl⟩ dX6_common_150 rfl rfl ?_
              obtain ⟨r13, qr13, h⟩ := bd_i h
              refine q_callV C 0 0 0 (c_rootOf qr13) rfl mw_self rfl ok_rootOf in_rootOf lk6_91 rfl (Nat.le_of_ble_eq_true rfl) ⟨Nat.le_of_ble_eq_true rfl, Nat.le_of_ble_eq_true rfl⟩ dX6_common_153 rfl rfl ?_
              refine r_lstore C (lv' := [(8, .long r13), (6, .long x3.toInt64), (4, .long r4), (0, .ref h0), (1, .int x1), (2, .int x2), (3, .int x3)]) dX6_common_156 (by decide) rfl ?_
              refine r_aload_n C 3 rfl dX6_common_158 rfl ?_
              refine r_aload_n C 3 rfl dX6_common_159 rfl ?_
              refine m_g_formC C dX6_common_160 ?_
              obtain ⟨r14, qr14, h⟩ := bd_i h
              refine q_callV C 0 0 0 (c_over qr14) rfl mw_self rfl ok_over in_over lk6_98 rfl (Nat.le_of_ble_eq_true rfl) ⟨Nat.le_of_ble_eq_true rfl, Nat.le_of_ble_eq_true rfl⟩ dX6_common_163 rfl rfl ?_
              refine r_lstore C (lv' := [(10, .long r14), (8, .long r13), (6, .long x3.toInt64), (4, .long r4), (0, .ref h0), (1, .int x1), (2, .int x2), (3, .int x3)]) dX6_common_166 (by decide) rfl ?_
              refine r_aload_n C 4 rfl dX6_common_168 rfl ?_
              refine r_aload_n C 4 rfl dX6_common_169 rfl ?_
              refine r_lload C 1 rfl dX6_common_170 ?_
              refine r_aload_n C 4 rfl dX6_common_172 rfl ?_
              refine m_g_formB C dX6_common_173 ?_
              obtain ⟨r15, qr15, h⟩ := bd_i h
              refine q_callV C 1 0 0 (c_less qr15) rfl mw_self rfl ok_less in_less lk6_105 rfl (Nat.le_of_ble_eq_true rfl) ⟨Nat.le_of_ble_eq_true rfl, Nat.le_of_ble_eq_true rfl⟩ dX6_common_176 rfl rfl ?_
              refine r_lload C 0 rfl dX6_common_179 ?_
              obtain ⟨r16, qr16, h⟩ := bd_i h
              refine q_callV C 0 0 0 (c_times qr16) rfl mw_self rfl ok_times in_times lk6_76 rfl (Nat.le_of_ble_eq_true rfl) ⟨Nat.le_of_ble_eq_true rfl, Nat.le_of_ble_eq_true rfl⟩ dX6_common_181 rfl rfl ?_
              refine r_lstore C (lv' := [(12, .long r16), (10, .long r14), (8, .long r13), (6, .long x3.toInt64), (4, .long r4), (0, .ref h0), (1, .int x1), (2, .int x2), (3, .int x3)]) dX6_common_184 (by decide) rfl ?_
              refine r_aload_n C 5 rfl dX6_common_186 rfl ?_
              refine r_aload_n C 5 rfl dX6_common_187 rfl ?_
              refine r_aload_n C 5 rfl dX6_common_188 rfl ?_
              refine r_lconst C (v := 0) dX6_common_189 (by decide) ?_
              refine r_aload_n C 5 rfl dX6_common_190 rfl ?_
              refine m_g_formB C dX6_common_191 ?_
              obtain ⟨r17, qr17, h⟩ := bd_i h
              refine q_callV C 2 0 0 (c_less qr17) rfl mw_self rfl ok_less in_less lk6_105 rfl (Nat.le_of_ble_eq_true rfl) ⟨Nat.le_of_ble_eq_true rfl, Nat.le_of_ble_eq_true rfl⟩ dX6_common_194 rfl rfl ?_
              refine r_lload C 2 rfl dX6_common_197 ?_
              obtain ⟨r18, qr18, h⟩ := bd_i h
              refine q_callV C 1 0 0 (c_less qr18) rfl mw_self rfl ok_less in_less lk6_105 rfl (Nat.le_of_ble_eq_true rfl) ⟨Nat.le_of_ble_eq_true rfl, Nat.le_of_ble_eq_true rfl⟩ dX6_common_199 rfl rfl ?_
              refine r_lload C 1 rfl dX6_common_202 ?_
              obtain ⟨r19, qr19, h⟩ := bd_i h
              refine q_callV C 0 0 0 (c_times qr19) rfl mw_self rfl ok_times in_times lk6_76 rfl (Nat.le_of_ble_eq_true rfl) ⟨Nat.le_of_ble_eq_true rfl, Nat.le_of_ble_eq_true rfl⟩ dX6_common_204 rfl rfl ?_
              refine r_lstore C (lv' := [(14, .long r19), (12, .long r16), (10, .long r14), (8, .long r13), (6, .long x3.toInt64), (4, .long r4), (0, .ref h0), (1, .int x1), (2, .int x2), (3, .int x3)]) dX6_common_207 (by decide) rfl ?_
              refine r_iload_n C 9 rfl dX6_common_209 rfl ?_
              refine r_if_ne C (tgt := 217) dX6_common_210 (by decide) (fun hc => ?_) (fun hc => ?_)
              · replace h := br_n hc h
                refine r_iconst C (v := 0) dX6_common_217 (by decide) ?_
                refine r_lload C 1 rfl dX6_common_218 ?_
                refine r_lload C 0 rfl dX6_common_220 ?_
                refine r_lge C (tgt := 230) dX6_common_222 dX6_common_223 (by decide) (fun hc => ?_) (fun hc => ?_)
                · replace h := br_p hc h
                  refine r_iconst C (v := 0) dX6_common_230 (by decide) ?_
                  refine r_icmp_ne C (tgt := 238) dX6_common_231 (by decide) (fun hc => ?_) (fun hc => ?_)
                  · replace h := br_n hc h
                    refine r_iconst C (v := 0) dX6_common_238 (by decide) ?_
                    refine r_istore C (lv' := [(16, .int ((0 : Int32))), (14, .long r19), (12, .long r16), (10, .long r14), (8, .long r13), (6, .long x3.toInt64), (4, .long r4), (0, .ref h0), (1, .int x1), (2, .int x2), (3, .int x3)]) dX6_common_239 (by decide) rfl ?_
                    refine r_iload C 0 rfl dX6_common_241 ?_
                    refine r_if_eq C (tgt := 251) dX6_common_243 (by decide) (fun hc => ?_) (fun hc => ?_)
                    · replace h := br_p hc h
                      refine r_lload C 1 rfl dX6_common_251 ?_
                      refine r_lstore C (lv' := [(6, .long r19), (16, .int ((0 : Int32))), (14, .long r19), (12, .long r16), (10, .long r14), (8, .long r13), (4, .long r4), (0, .ref h0), (1, .int x1), (2, .int x2), (3, .int x3)]) dX6_common_253 (by decide) rfl ?_
                      refine r_lv [7, 0] rfl ?_
                      exact w_common_J255 C h hO
                    · replace h := br_n hc h
                      refine r_lload C 2 rfl dX6_common_246 ?_
                      refine r_goto C (tgt := 253) dX6_common_248 (by decide) ?_
                      refine r_lstore C (lv' := [(6, .long r16), (16, .int ((0 : Int32))), (14, .long r19), (12, .long r16), (10, .long r14), (8, .long r13), (4, .long r4), (0, .ref h0), (1, .int x1), (2, .int x2), (3, .int x3)]) dX6_common_253 (by decide) rfl ?_
                      refine r_lv [7, 0] rfl ?_
                      exact w_common_J255 C h hO
                  · replace h := br_p hc h
                    refine r_iconst C (v := 1) dX6_common_234 (by decide) ?_
                    refine r_goto C (tgt := 239) dX6_common_235 (by decide) ?_
                    refine r_istore C (lv' := [(16, .int ((1 : Int32))), (14, .long r19), (12, .long r16), (10, .long r14), (8, .long r13), (6, .long x3.toInt64), (4, .long r4), (0, .ref h0), (1, .int x1), (2, .int x2), (3, .int x3)]) dX6_common_239 (by decide) rfl ?_
                    refine r_iload C 0 rfl dX6_common_241 ?_
                    refine r_if_eq C (tgt := 251) dX6_common_243 (by decide) (fun hc => ?_) (fun hc => ?_)
                    · replace h := br_p hc h
                      refine r_lload C 1 rfl dX6_common_251 ?_
                      refine r_lstore C (lv' := [(6, .long r19), (16, .int ((1 : Int32))), (14, .long r19), (12, .long r16), (10, .long r14), (8, .long r13), (4, .long r4), (0, .ref h0), (1, .int x1), (2, .int x2), (3, .int x3)]) dX6_common_253 (by decide) rfl ?_
                      refine r_lv [7, 0] rfl ?_
                      exact w_common_J255 C h hO
                    · replace h := br_n hc h
                      refine r_lload C 2 rfl dX6_common_246 ?_
                      refine r_goto C (tgt := 253) dX6_common_248 (by decide) ?_
                      refine r_lstore C (lv' := [(6, .long r16), (16, .int ((1 : Int32))), (14, .long r19), (12, .long r16), (10, .long r14), (8, .long r13), (4, .long r4), (0, .ref h0), (1, .int x1), (2, .int x2), (3, .int x3)]) dX6_common_253 (by decide) rfl ?_
                      refine r_lv [7, 0] rfl ?_
                      exact w_common_J255 C h hO
                · replace h := br_n hc h
                  refine r_iconst C (v := 1) dX6_common_226 (by decide) ?_
                  refine r_goto C (tgt := 231) dX6_common_227 (by decide) ?_
                  refine r_icmp_ne C (tgt := 238) dX6_common_231 (by decide) (fun hc => ?_) (fun hc => ?_)
                  · replace h := br_n hc h
                    refine r_iconst C (v := 0) dX6_common_238 (by decide) ?_
                    refine r_istore C (lv' := [(16, .int ((0 : Int32))), (14, .long r19), (12, .long r16), (10, .long r14), (8, .long r13), (6, .long x3.toInt64), (4, .long r4), (0, .ref h0), (1, .int x1), (2, .int x2), (3, .int x3)]) dX6_common_239 (by decide) rfl ?_
                    refine r_iload C 0 rfl dX6_common_241 ?_
                    refine r_if_eq C (tgt := 251) dX6_common_243 (by decide) (fun hc => ?_) (fun hc => ?_)
                    · replace h := br_p hc h
                      refine r_lload C 1 rfl dX6_common_251 ?_
                      refine r_lstore C (lv' := [(6, .long r19), (16, .int ((0 : Int32))), (14, .long r19), (12, .long r16), (10, .long r14), (8, .long r13), (4, .long r4), (0, .ref h0), (1, .int x1), (2, .int x2), (3, .int x3)]) dX6_common_253 (by decide) rfl ?_
                      refine r_lv [7, 0] rfl ?_
                      exact w_common_J255 C h hO
                    · replace h := br_n hc h
                      refine r_lload C 2 rfl dX6_common_246 ?_
                      refine r_goto C (tgt := 253) dX6_common_248 (by decide) ?_
                      refine r_lstore C (lv' := [(6, .long r16), (16, .int ((0 : Int32))), (14, .long r19), (12, .long r16), (10, .long r14), (8, .long r13), (4, .long r4), (0, .ref h0), (1, .int x1), (2, .int x2), (3, .int x3)]) dX6_common_253 (by decide) rfl ?_
                      refine r_lv [7, 0] rfl ?_
                      exact w_common_J255 C h hO
                  · replace h := br_p hc h
                    refine r_iconst C (v := 1) dX6_common_234 (by decide) ?_
                    refine r_goto C (tgt := 239) dX6_common_235 (by decide) ?_
                    refine r_istore C (lv' := [(16, .int ((1 : Int32))), (14, .long r19), (12, .long r16), (10, .long r14), (8, .long r13), (6, .long x3.toInt64), (4, .long r4), (0, .ref h0), (1, .int x1), (2, .int x2), (3, .int x3)]) dX6_common_239 (by decide) rfl ?_
                    refine r_iload C 0 rfl dX6_common_241 ?_
                    refine r_if_eq C (tgt := 251) dX6_common_243 (by decide) (fun hc => ?_) (fun hc => ?_)
                    · replace h := br_p hc h
                      refine r_lload C 1 rfl dX6_common_251 ?_
                      refine r_lstore C (lv' := [(6, .long r19), (16, .int ((1 : Int32))), (14, .long r19), (12, .long r16), (10, .long r14), (8, .long r13), (4, .long r4), (0, .ref h0), (1, .int x1), (2, .int x2), (3, .int x3)]) dX6_common_253 (by decide) rfl ?_
                      refine r_lv [7, 0] rfl ?_
                      exact w_common_J255 C h hO
                    · replace h := br_n hc h
                      refine r_lload C 2 rfl dX6_common_246 ?_
                      refine r_goto C (tgt := 253) dX6_common_248 (by decide) ?_
                      refine r_lstore C (lv' := [(6, .long r16), (16, .int ((1 : Int32))), (14, .long r19), (12, .long r16), (10, .long r14), (8, .long r13), (4, .long r4), (0, .ref h0), (1, .int x1), (2, .int x2), (3, .int x3)]) dX6_common_253 (by decide) rfl ?_
                      refine r_lv [7, 0] rfl ?_
                      exact w_common_J255 C h hO
              · replace h := br_p hc h
                refine r_iconst C (v := 1) dX6_common_213 (by decide) ?_
                refine r_goto C (tgt := 218) dX6_common_214 (by decide) ?_
                refine r_lload C 1 rfl dX6_common_218 ?_
                refine r_lload C 0 rfl dX6_common_220 ?_
                refine r_lge C (tgt := 230) dX6_common_222 dX6_common_223 (by decide) (fun hc => ?_) (fun hc => ?_)
                · replace h := br_p hc h
                  refine r_iconst C (v := 0) dX6_common_230 (by decide) ?_
                  refine r_icmp_ne C (tgt := 238) dX6_common_231 (by decide) (fun hc => ?_) (fun hc => ?_)
                  · replace h := br_n hc h
                    refine r_iconst C (v := 0) dX6_common_238 (by decide) ?_
                    refine r_istore C (lv' := [(16, .int ((0 : Int32))), (14, .long r19), (12, .long r16), (10, .long r14), (8, .long r13), (6, .long x3.toInt64), (4, .long r4), (0, .ref h0), (1, .int x1), (2, .int x2), (3, .int x3)]) dX6_common_239 (by decide) rfl ?_
                    refine r_iload C 0 rfl dX6_common_241 ?_
                    refine r_if_eq C (tgt := 251) dX6_common_243 (by decide) (fun hc => ?_) (fun hc => ?_)
                    · replace h := br_p hc h
                      refine r_lload C 1 rfl dX6_common_251 ?_
                      refine r_lstore C (lv' := [(6, .long r19), (16, .int ((0 : Int32))), (14, .long r19), (12, .long r16), (10, .long r14), (8, .long r13), (4, .long r4), (0, .ref h0), (1, .int x1), (2, .int x2), (3, .int x3)]) dX6_common_253 (by decide) rfl ?_
                      refine r_lv [7, 0] rfl ?_
                      exact w_common_J255 C h hO
                    · replace h := br_n hc h
                      refine r_lload C 2 rfl dX6_common_246 ?_
                      refine r_goto C (tgt := 253) dX6_common_248 (by decide) ?_
                      refine r_lstore C (lv' := [(6, .long r16), (16, .int ((0 : Int32))), (14, .long r19), (12, .long r16), (10, .long r14), (8, .long r13), (4, .long r4), (0, .ref h0), (1, .int x1), (2, .int x2), (3, .int x3)]) dX6_common_253 (by decide) rfl ?_
                      refine r_lv [7, 0] rfl ?_
                      exact w_common_J255 C h hO
                  · replace h := br_p hc h
                    refine r_iconst C (v := 1) dX6_common_234 (by decide) ?_
                    refine r_goto C (tgt := 239) dX6_common_235 (by decide) ?_
                    refine r_istore C (lv' := [(16, .int ((1 : Int32))), (14, .long r19), (12, .long r16), (10, .long r14), (8, .long r13), (6, .long x3.toInt64), (4, .long r4), (0, .ref h0), (1, .int x1), (2, .int x2), (3, .int x3)]) dX6_common_239 (by decide) rfl ?_
                    refine r_iload C 0 rfl dX6_common_241 ?_
                    refine r_if_eq C (tgt := 251) dX6_common_243 (by decide) (fun hc => ?_) (fun hc => ?_)
                    · replace h := br_p hc h
                      refine r_lload C 1 rfl dX6_common_251 ?_
                      refine r_lstore C (lv' := [(6, .long r19), (16, .int ((1 : Int32))), (14, .long r19), (12, .long r16), (10, .long r14), (8, .long r13), (4, .long r4), (0, .ref h0), (1, .int x1), (2, .int x2), (3, .int x3)]) dX6_common_253 (by decide) rfl ?_
                      refine r_lv [7, 0] rfl ?_
                      exact w_common_J255 C h hO
                    · replace h := br_n hc h
                      refine r_lload C 2 rfl dX6_common_246 ?_
                      refine r_goto C (tgt := 253) dX6_common_248 (by decide) ?_
                      refine r_lstore C (lv' := [(6, .long r16), (16, .int ((1 : Int32))), (14, .long r19), (12, .long r16), (10, .long r14), (8, .long r13), (4, .long r4), (0, .ref h0), (1, .int x1), (2, .int x2), (3, .int x3)]) dX6_common_253 (by decide) rfl ?_
                      refine r_lv [7, 0] rfl ?_
                      exact w_common_J255 C h hO
                · replace h := br_n hc h
                  refine r_iconst C (v := 1) dX6_common_226 (by decide) ?_
                  refine r_goto C (tgt := 231) dX6_common_227 (by decide) ?_
                  refine r_icmp_ne C (tgt := 238) dX6_common_231 (by decide) (fun hc => ?_) (fun hc => ?_)
                  · replace h := br_n hc h
                    refine r_iconst C (v := 0) dX6_common_238 (by decide) ?_
                    refine r_istore C (lv' := [(16, .int ((0 : Int32))), (14, .long r19), (12, .long r16), (10, .long r14), (8, .long r13), (6, .long x3.toInt64), (4, .long r4), (0, .ref h0), (1, .int x1), (2, .int x2), (3, .int x3)]) dX6_common_239 (by decide) rfl ?_
                    refine r_iload C 0 rfl dX6_common_241 ?_
                    refine r_if_eq C (tgt := 251) dX6_common_243 (by decide) (fun hc => ?_) (fun hc => ?_)
                    · replace h := br_p hc h
                      refine r_lload C 1 rfl dX6_common_251 ?_
                      refine r_lstore C (lv' := [(6, .long r19), (16, .int ((0 : Int32))), (14, .long r19), (12, .long r16), (10, .long r14), (8, .long r13), (4, .long r4), (0, .ref h0), (1, .int x1), (2, .int x2), (3, .int x3)]) dX6_common_253 (by decide) rfl ?_
                      refine r_lv [7, 0] rfl ?_
                      exact w_common_J255 C h hO
                    · replace h := br_n hc h
                      refine r_lload C 2 rfl dX6_common_246 ?_
                      refine r_goto C (tgt := 253) dX6_common_248 (by decide) ?_
                      refine r_lstore C (lv' := [(6, .long r16), (16, .int ((0 : Int32))), (14, .long r19), (12, .long r16), (10, .long r14), (8, .long r13), (4, .long r4), (0, .ref h0), (1, .int x1), (2, .int x2), (3, .int x3)]) dX6_common_253 (by decide) rfl ?_
                      refine r_lv [7, 0] rfl ?_
                      exact w_common_J255 C h hO
                  · replace h := br_p hc h
                    refine r_iconst C (v := 1) dX6_common_234 (by decide) ?_
                    refine r_goto C (tgt := 239) dX6_common_235 (by decide) ?_
                    refine r_istore C (lv' := [(16, .int ((1 : Int32))), (14, .long r19), (12, .long r16), (10, .long r14), (8, .long r13), (6, .long x3.toInt64), (4, .long r4), (0, .ref h0), (1, .int x1), (2, .int x2), (3, .int x3)]) dX6_common_239 (by decide) rfl ?_
                    refine r_iload C 0 rfl dX6_common_241 ?_
                    refine r_if_eq C (tgt := 251) dX6_common_243 (by decide) (fun hc => ?_) (fun hc => ?_)
                    · replace h := br_p hc h
                      refine r_lload C 1 rfl dX6_common_251 ?_
                      refine r_lstore C (lv' := [(6, .long r19), (16, .int ((1 : Int32))), (14, .long r19), (12, .long r16), (10, .long r14), (8, .long r13), (4, .long r4), (0, .ref h0), (1, .int x1), (2, .int x2), (3, .int x3)]) dX6_common_253 (by decide) rfl ?_
                      refine r_lv [7, 0] rfl ?_
                      exact w_common_J255 C h hO
                    · replace h := br_n hc h
                      refine r_lload C 2 rfl dX6_common_246 ?_
                      refine r_goto C (tgt := 253) dX6_common_248 (by decide) ?_
                      refine r_lstore C (lv' := [(6, .long r16), (16, .int ((1 : Int32))), (14, .long r19), (12, .long r16), (10, .long r14), (8, .long r13), (4, .long r4), (0, .ref h0), (1, .int x1), (2, .int x2), (3, .int x3)]) dX6_common_253 (by decide) rfl ?_
                      refine r_lv [7, 0] rfl ?_
                      exact w_common_J255 C h hO
            · replace h := br_p hc h
              refine r_aload_n C 2 rfl dX6_common_70 rfl ?_
              refine m_g_formB C dX6_common_71 ?_
              refine r_lconst C (v := 0) dX6_common_74 (by decide) ?_
              refine r_leq C (tgt := 84) dX6_common_75 dX6_common_76 (by decide) (fun hc => ?_) (fun hc => ?_)
              · replace h := br_p hc h
                refine r_lv [2] rfl ?_
                exact w_common_J84 C h hO
              · replace h := br_n hc h
                refine r_iload_n C 5 rfl dX6_common_79 rfl ?_
                refine r_iconst C (v := 1) dX6_common_80 (by decide) ?_
                refine r_icmp_ne C (tgt := 91) dX6_common_81 (by decide) (fun hc => ?_) (fun hc => ?_)
                · replace h := br_n hc h
                  refine r_aload_n C 2 rfl dX6_common_91 rfl ?_
                  refine r_aload_n C 2 rfl dX6_common_92 rfl ?_
                  refine r_lconst C (v := 0) dX6_common_93 (by decide) ?_
                  refine r_aload_n C 2 rfl dX6_common_94 rfl ?_
                  refine m_g_formA C dX6_common_95 ?_
                  obtain ⟨r20, qr20, h⟩ := bd_i h
                  refine q_callV C 1 0 0 (c_less qr20) rfl mw_self rfl ok_less in_less lk6_105 rfl (Nat.le_of_ble_eq_true rfl) ⟨Nat.le_of_ble_eq_true rfl, Nat.le_of_ble_eq_true rfl⟩ dX6_common_98 rfl rfl ?_
                  refine r_aload_n C 2 rfl dX6_common_101 rfl ?_
                  refine r_aload_n C 2 rfl dX6_common_102 rfl ?_
                  refine r_ldc2 C (v := 2) cl6_50 dX6_common_103 ?_
                  refine r_aload_n C 2 rfl dX6_common_106 rfl ?_
                  refine m_g_formB C dX6_common_107 ?_
                  obtain ⟨r21, qr21, h⟩ := bd_i h
                  refine q_callV C 4 0 0 (c_times qr21) rfl mw_self rfl ok_times in_times lk6_76 rfl (Nat.le_of_ble_eq_true rfl) ⟨Nat.le_of_ble_eq_true rfl, Nat.le_of_ble_eq_true rfl⟩ dX6_common_110 rfl rfl ?_
                  obtain ⟨r22, qr22, h⟩ := bd_i h
                  refine q_callV C 3 0 0 (c_over qr22) rfl mw_self rfl ok_over in_over lk6_98 rfl (Nat.le_of_ble_eq_true rfl) ⟨Nat.le_of_ble_eq_true rfl, Nat.le_of_ble_eq_true rfl⟩ dX6_common_113 rfl rfl ?_
                  obtain ⟨r23, qr23, h⟩ := bd_i h
                  refine q_callV C 0 0 0 (c_times qr23) rfl mw_self rfl ok_times in_times lk6_76 rfl (Nat.le_of_ble_eq_true rfl) ⟨Nat.le_of_ble_eq_true rfl, Nat.le_of_ble_eq_true rfl⟩ dX6_common_116 rfl rfl ?_
                  refine r_lstore C (lv' := [(6, .long r23), (4, .long r4), (0, .ref h0), (1, .int x1), (2, .int x2), (3, .int x3)]) dX6_common_119 (by decide) rfl ?_
                  refine r_goto C (tgt := 255) dX6_common_121 (by decide) ?_
                  refine r_lv [2, 0] rfl ?_
                  exact w_common_J255 C h hO
                · replace h := br_p hc h
                  refine r_lv [2] rfl ?_
                  exact w_common_J84 C h hO
        · replace h := br_n hc h
          refine r_iconst C (v := -1) dX6_common_45 (by decide) ?_
          obtain rfl := sm_i h
          exact r_ireturn C (Eq.symm hO) dX6_common_46
      · replace h := br_n hc h
        refine r_bipush C (v := -2) dX6_common_22 (by decide) ?_
        obtain rfl := sm_i h
        exact r_ireturn C (Eq.symm hO) dX6_common_24
noncomputable def m_dual_L55 (n : Int32) (turned : Nat → Int64) (l3 : Int32) (s : (Int32 × (Nat → Int64))) : Option ((Int32 × (Nat → Int64)) ⊕ (Nat → Int64)) := (m_side n).bind fun r5 => if r5 ≤ s.1 then (some (.inr s.2)) else ((m_side n).bind fun r6 => (m_side n).bind fun r7 => if gi ((s.1 * r7) + l3) 16 then if gi ((l3 * r6) + s.1) 16 then some (.inl (s.1 + 1, vp_updL s.2 ((l3 * r6) + s.1).toNatClampNeg (turned ((s.1 * r7) + l3).toNatClampNeg))) else none else none)
noncomputable def m_dual_L44 (n : Int32) (turned : Nat → Int64) (s : (Int32 × (Nat → Int64))) : Option ((Int32 × (Nat → Int64)) ⊕ (Nat → Int64)) := (m_side n).bind fun r4 => if r4 ≤ s.1 then (some (.inr s.2)) else ((itX (m_dual_L55 n turned s.1) ((0 : Int32), s.2)).bind fun r8 => some (.inl (s.1 + 1, r8)))
noncomputable def m_dual_J28 (n : Int32) (p : Int64) (count : Int32) (sorts : Nat → Int32) (rows : Nat → Int64) (draft : Nat → Int64) (frame : Nat → Int64) (turned : Nat → Int64) (l1 : Int32) (l2 : Int32) : Option (Int32 × Int32 × (Nat → Int32) × (Nat → Int64) × (Nat → Int64) × (Nat → Int64) × (Nat → Int64)) := (m_isTurned n p rows frame turned l1).bind fun r2 => if r2.1 = 0 then (some ((-1 : Int32), count, sorts, rows, draft, r2.2.1, r2.2.2)) else ((m_clear draft).bind fun r3 => (itX (m_dual_L44 n r2.2.2) ((0 : Int32), r3)).bind fun r9 => (m_made n p count sorts rows r9 l2).bind fun r10 => some (r10.1, r10.2.1, r10.2.2.1, r10.2.2.2.1, r10.2.2.2.2, r2.2.1, r2.2.2))
noncomputable def m_dual_L116 (n : Int32) (rows : Nat → Int64) (l1 : Int32) (l2 : Int32) (s : (Int32 × (Nat → Int64))) : Option ((Int32 × (Nat → Int64)) ⊕ (Nat → Int64)) := (m_width n l2).bind fun r12 => if r12 ≤ s.1 then (some (.inr s.2)) else ((m_of rows l1 s.1).bind fun r13 => if gi s.1 16 then some (.inl (s.1 + 1, vp_updL s.2 s.1.toNatClampNeg r13)) else none)
noncomputable def m_dual_J166 (n : Int32) (p : Int64) (count : Int32) (sorts : Nat → Int32) (rows : Nat → Int64) (draft : Nat → Int64) (frame : Nat → Int64) (turned : Nat → Int64) (l2 : Int32) : Option (Int32 × Int32 × (Nat → Int32) × (Nat → Int64) × (Nat → Int64) × (Nat → Int64) × (Nat → Int64)) := if l2 = 0 then (if n = ((2 : Int32)) then ((m_made n p count sorts rows draft ((1 : Int32))).bind fun r17 => some (r17.1, r17.2.1, r17.2.2.1, r17.2.2.2.1, r17.2.2.2.2, frame, turned)) else ((m_made n p count sorts rows draft ((2 : Int32))).bind fun r16 => some (r16.1, r16.2.1, r16.2.2.1, r16.2.2.2.1, r16.2.2.2.2, frame, turned))) else ((m_made n p count sorts rows draft ((0 : Int32))).bind fun r15 => some (r15.1, r15.2.1, r15.2.2.1, r15.2.2.2.1, r15.2.2.2.2, frame, turned))
noncomputable def m_dual (n : Int32) (p : Int64) (count : Int32) (sorts : Nat → Int32) (rows : Nat → Int64) (draft : Nat → Int64) (frame : Nat → Int64) (turned : Nat → Int64) (x1 : Int32) : Option (Int32 × Int32 × (Nat → Int32) × (Nat → Int64) × (Nat → Int64) × (Nat → Int64) × (Nat → Int64)) := (m_isObject count x1).bind fun r1 => if r1 = 0 then (some ((-2 : Int32), count, sorts, rows, draft, frame, turned)) else (if gi x1 60 then if (sorts x1.toNatClampNeg) = ((3 : Int32)) then (m_dual_J28 n p count sorts rows draft frame turned x1 (sorts x1.toNatClampNeg)) else (if (sorts x1.toNatClampNeg) = ((4 : Int32)) then (m_dual_J28 n p count sorts rows draft frame turned x1 (sorts x1.toNatClampNeg)) else ((m_clear draft).bind fun r11 => (itX (m_dual_L116 n rows x1 (sorts x1.toNatClampNeg)) ((0 : Int32), r11)).bind fun r14 => if n = ((3 : Int32)) then (if (sorts x1.toNatClampNeg) = ((1 : Int32)) then ((m_turn p r14).bind fun r18 => (m_made n p count sorts rows r18 ((1 : Int32))).bind fun r19 => some (r19.1, r19.2.1, r19.2.2.1, r19.2.2.2.1, r19.2.2.2.2, frame, turned)) else (m_dual_J166 n p count sorts rows r14 frame turned (sorts x1.toNatClampNeg))) else (m_dual_J166 n p count sorts rows r14 frame turned (sorts x1.toNatClampNeg)))) else none)
set_option maxHeartbeats 4000000 in
set_option maxRecDepth 100000 in
theorem w_dual_L55 {K : kT} {O : oT} (C : aC K cX6_dual RX6 "dual" 5 91 0 0 5 (some .int) O) {h0 : Nat} {hp : cH} {sz : Nat} {n : Int32} {p : Int64} {count : Int32} {sorts : Nat → Int32} {rows : Nat → Int64} {hand : Nat → Int64} {gathered : Int32} {gather : Nat → Int32} {paired : Int32} {pairA : Nat → Int32} {pairB : Nat → Int32} {ideal : Int32} {frame : Nat → Int64} {one : Nat → Int64} {two : Nat → Int64} {turned : Nat → Int64} {placeI : Int32} {placeJ : Int32} {formA : Int64} {formB : Int64} {formC : Int64} {l2 : Int32} {l3 : Int32} {v0 : Int32} {v1 : Nat → Int64} {r : (Nat → Int64)} (h : itX (m_dual_L55 n turned l3) (v0, v1) = some r) (hr : aW K (mw h0 hp n p count sorts rows hand gathered gather paired pairA pairB ideal r frame one two turned placeI placeJ formA formB formC) sz 0 0 98 [(0, .ref h0), (2, .int l2), (3, .int l3)] []) : aW K (mw h0 hp n p count sorts rows hand gathered gather paired pairA pairB ideal v1 frame one two turned placeI placeJ formA formB formC) sz 0 0 55 [(0, .ref h0), (2, .int l2), (3, .int l3), (4, .int v0)] [] := by
  refine it_walk (f := m_dual_L55 n turned l3) (P := fun s => aW K (mw h0 hp n p count sorts rows hand gathered gather paired pairA pairB ideal s.2 frame one two turned placeI placeJ formA formB formC) sz 0 0 55 [(0, .ref h0), (2, .int l2), (3, .int l3), (4, .int s.1)] []) (R := fun r => aW K (mw h0 hp n p count sorts rows hand gathered gather paired pairA pairB ideal r frame one two turned placeI placeJ formA formB formC) sz 0 0 98 [(0, .ref h0), (2, .int l2), (3, .int l3)] []) ?_ h hr
  clear h hr
  intro s x h kl kr
  unfold m_dual_L55 at h
  refine r_iload C 3 rfl dX6_dual_55 ?_
  refine r_aload_n C 0 rfl dX6_dual_57 rfl ?_
  obtain ⟨r5, qr5, h⟩ := bd_i h
  refine q_callV C 1 0 0 (c_side qr5) rfl mw_self rfl ok_side in_side lk6_111 rfl (Nat.le_of_ble_eq_true rfl) ⟨Nat.le_of_ble_eq_true rfl, Nat.le_of_ble_eq_true rfl⟩ dX6_dual_58 rfl rfl ?_
  refine r_icmp_ge C (tgt := 98) dX6_dual_61 (by decide) (fun hc => ?_) (fun hc => ?_)
  · replace h := br_p hc h
    refine r_lv [0, 1, 2] rfl ?_
    exact kr _ (sm_i h)
  · replace h := br_n hc h
    refine r_aload_n C 0 rfl dX6_dual_64 rfl ?_
    refine m_g_draft C dX6_dual_65 ?_
    refine r_iload_n C 2 rfl dX6_dual_68 rfl ?_
    refine r_aload_n C 0 rfl dX6_dual_69 rfl ?_
    obtain ⟨r6, qr6, h⟩ := bd_i h
    refine q_callV C 2 0 0 (c_side qr6) rfl mw_self rfl ok_side in_side lk6_111 rfl (Nat.le_of_ble_eq_true rfl) ⟨Nat.le_of_ble_eq_true rfl, Nat.le_of_ble_eq_true rfl⟩ dX6_dual_70 rfl rfl ?_
    refine r_imul C dX6_dual_73 ?_
    refine r_iload C 3 rfl dX6_dual_74 ?_
    refine r_iadd C dX6_dual_76 ?_
    refine r_aload_n C 0 rfl dX6_dual_77 rfl ?_
    refine m_g_turned C dX6_dual_78 ?_
    refine r_iload C 3 rfl dX6_dual_81 ?_
    refine r_aload_n C 0 rfl dX6_dual_83 rfl ?_
    obtain ⟨r7, qr7, h⟩ := bd_i h
    refine q_callV C 4 0 0 (c_side qr7) rfl mw_self rfl ok_side in_side lk6_111 rfl (Nat.le_of_ble_eq_true rfl) ⟨Nat.le_of_ble_eq_true rfl, Nat.le_of_ble_eq_true rfl⟩ dX6_dual_84 rfl rfl ?_
    refine r_imul C dX6_dual_87 ?_
    refine r_iload_n C 2 rfl dX6_dual_88 rfl ?_
    refine r_iadd C dX6_dual_89 ?_
    obtain ⟨hi, h⟩ := gd_t h
    refine m_l_turned C hi dX6_dual_90 ?_
    obtain ⟨hi, h⟩ := gd_t h
    refine m_s_draft C hi dX6_dual_91 ?_
    refine r_iinc C (v := s.1 + 1) (lv' := [(4, .int (s.1 + 1)), (0, .ref h0), (2, .int l2), (3, .int l3)]) 3 rfl dX6_dual_92 rfl (by decide) rfl ?_
    refine r_goto C (tgt := 55) dX6_dual_95 (by decide) ?_
    refine r_lv [1, 2, 3, 0] rfl ?_
    exact kl _ (sm_i h)
set_option maxHeartbeats 4000000 in
set_option maxRecDepth 100000 in
theorem w_dual_L44 {K : kT} {O : oT} (C : aC K cX6_dual RX6 "dual" 5 91 0 0 5 (some .int) O) {h0 : Nat} {hp : cH} {sz : Nat} {n : Int32} {p : Int64} {count : Int32} {sorts : Nat → Int32} {rows : Nat → Int64} {hand : Nat → Int64} {gathered : Int32} {gather : Nat → Int32} {paired : Int32} {pairA : Nat → Int32} {pairB : Nat → Int32} {ideal : Int32} {frame : Nat → Int64} {one : Nat → Int64} {two : Nat → Int64} {turned : Nat → Int64} {placeI : Int32} {placeJ : Int32} {formA : Int64} {formB : Int64} {formC : Int64} {l2 : Int32} {v0 : Int32} {v1 : Nat → Int64} {r : (Nat → Int64)} (h : itX (m_dual_L44 n turned) (v0, v1) = some r) (hr : aW K (mw h0 hp n p count sorts rows hand gathered gather paired pairA pairB ideal r frame one two turned placeI placeJ formA formB formC) sz 0 0 104 [(0, .ref h0), (2, .int l2)] []) : aW K (mw h0 hp n p count sorts rows hand gathered gather paired pairA pairB ideal v1 frame one two turned placeI placeJ formA formB formC) sz 0 0 44 [(0, .ref h0), (2, .int l2), (3, .int v0)] [] := by
  refine it_walk (f := m_dual_L44 n turned) (P := fun s => aW K (mw h0 hp n p count sorts rows hand gathered gather paired pairA pairB ideal s.2 frame one two turned placeI placeJ formA formB formC) sz 0 0 44 [(0, .ref h0), (2, .int l2), (3, .int s.1)] []) (R := fun r => aW K (mw h0 hp n p count sorts rows hand gathered gather paired pairA pairB ideal r frame one two turned placeI placeJ formA formB formC) sz 0 0 104 [(0, .ref h0), (2, .int l2)] []) ?_ h hr
  clear h hr
  intro s x h kl kr
  unfold m_dual_L44 at h
  refine r_iload_n C 2 rfl dX6_dual_44 rfl ?_
  refine r_aload_n C 0 rfl dX6_dual_45 rfl ?_
  obtain ⟨r4, qr4, h⟩ := bd_i h
  refine q_callV C 1 0 0 (c_side qr4) rfl mw_self rfl ok_side in_side lk6_111 rfl (Nat.le_of_ble_eq_true rfl) ⟨Nat.le_of_ble_eq_true rfl, Nat.le_of_ble_eq_true rfl⟩ dX6_dual_46 rfl rfl ?_
  refine r_icmp_ge C (tgt := 104) dX6_dual_49 (by decide) (fun hc => ?_) (fun hc => ?_)
  · replace h := br_p hc h
    refine r_lv [0, 1] rfl ?_
    exact kr _ (sm_i h)
  · replace h := br_n hc h
    refine r_iconst C (v := 0) dX6_dual_52 (by decide) ?_
    refine r_istore C (lv' := [(4, .int ((0 : Int32))), (0, .ref h0), (2, .int l2), (3, .int s.1)]) dX6_dual_53 (by decide) rfl ?_
    refine r_lv [1, 2, 3, 0] rfl ?_
    obtain ⟨r8, qr8, h⟩ := bd_i h
    refine w_dual_L55 C qr8 ?_
    refine r_iinc C (v := s.1 + 1) (lv' := [(3, .int (s.1 + 1)), (0, .ref h0), (2, .int l2)]) 2 rfl dX6_dual_98 rfl (by decide) rfl ?_
    refine r_goto C (tgt := 44) dX6_dual_101 (by decide) ?_
    refine r_lv [1, 2, 0] rfl ?_
    exact kl _ (sm_i h)
set_option maxHeartbeats 4000000 in
set_option maxRecDepth 100000 in
theorem w_dual_J28 {K : kT} {O : oT} (C : aC K cX6_dual RX6 "dual" 5 91 0 0 5 (some .int) O) {h0 : Nat} {hp : cH} {sz : Nat} {n : Int32} {p : Int64} {count : Int32} {sorts : Nat → Int32} {rows : Nat → Int64} {hand : Nat → Int64} {gathered : Int32} {gather : Nat → Int32} {paired : Int32} {pairA : Nat → Int32} {pairB : Nat → Int32} {ideal : Int32} {draft : Nat → Int64} {frame : Nat → Int64} {one : Nat → Int64} {two : Nat → Int64} {turned : Nat → Int64} {placeI : Int32} {placeJ : Int32} {formA : Int64} {formB : Int64} {formC : Int64} {l1 : Int32} {l2 : Int32} {out : (Int32 × Int32 × (Nat → Int32) × (Nat → Int64) × (Nat → Int64) × (Nat → Int64) × (Nat → Int64))} (h : m_dual_J28 n p count sorts rows draft frame turned l1 l2 = some out) (hO : ((some (.int out.1), mw h0 hp n p out.2.1 out.2.2.1 out.2.2.2.1 hand gathered gather paired pairA pairB ideal out.2.2.2.2.1 out.2.2.2.2.2.1 one two out.2.2.2.2.2.2 placeI placeJ formA formB formC, sz) : oT) = O) : aW K (mw h0 hp n p count sorts rows hand gathered gather paired pairA pairB ideal draft frame one two turned placeI placeJ formA formB formC) sz 0 0 28 [(0, .ref h0), (1, .int l1), (2, .int l2)] [] := by
  unfold m_dual_J28 at h
  refine r_aload_n C 0 rfl dX6_dual_28 rfl ?_
  refine r_iload_n C 1 rfl dX6_dual_29 rfl ?_
  obtain ⟨r2, qr2, h⟩ := bd_i h
  refine q_callV C 0 0 0 (c_isTurned qr2) rfl mw_self rfl ok_isTurned in_isTurned lk6_240 rfl (Nat.le_of_ble_eq_true rfl) ⟨Nat.le_of_ble_eq_true rfl, Nat.le_of_ble_eq_true rfl⟩ dX6_dual_30 rfl rfl ?_
  refine r_if_ne C (tgt := 38) dX6_dual_33 (by decide) (fun hc => ?_) (fun hc => ?_)
  · replace h := br_n hc h
    refine r_aload_n C 0 rfl dX6_dual_38 rfl ?_
    obtain ⟨r3, qr3, h⟩ := bd_i h
    refine q_callVv C 0 0 0 (c_clear qr3) rfl mw_self rfl ok_clear in_clear lk6_136 rfl (Nat.le_of_ble_eq_true rfl) ⟨Nat.le_of_ble_eq_true rfl, Nat.le_of_ble_eq_true rfl⟩ dX6_dual_39 rfl rfl ?_
    refine r_iconst C (v := 0) dX6_dual_42 (by decide) ?_
    refine r_istore_n C (lv' := [(3, .int ((0 : Int32))), (0, .ref h0), (1, .int l1), (2, .int l2)]) dX6_dual_43 rfl (by decide) rfl ?_
    refine r_lv [1, 3, 0] rfl ?_
    obtain ⟨r9, qr9, h⟩ := bd_i h
    refine w_dual_L44 C qr9 ?_
    refine r_aload_n C 0 rfl dX6_dual_104 rfl ?_
    refine r_iload_n C 1 rfl dX6_dual_105 rfl ?_
    obtain ⟨r10, qr10, h⟩ := bd_i h
    refine q_callV C 0 0 0 (c_made qr10) rfl mw_self rfl ok_made in_made lk6_133 rfl (Nat.le_of_ble_eq_true rfl) ⟨Nat.le_of_ble_eq_true rfl, Nat.le_of_ble_eq_true rfl⟩ dX6_dual_106 rfl rfl ?_
    obtain rfl := sm_i h
    exact r_ireturn C (Eq.symm hO) dX6_dual_109
  · replace h := br_p hc h
    refine r_iconst C (v := -1) dX6_dual_36 (by decide) ?_
    obtain rfl := sm_i h
    exact r_ireturn C (Eq.symm hO) dX6_dual_37
set_option maxHeartbeats 4000000 in
set_option maxRecDepth 100000 in
theorem w_dual_L116 {K : kT} {O : oT} (C : aC K cX6_dual RX6 "dual" 5 91 0 0 5 (some .int) O) {h0 : Nat} {hp : cH} {sz : Nat} {n : Int32} {p : Int64} {count : Int32} {sorts : Nat → Int32} {rows : Nat → Int64} {hand : Nat → Int64} {gathered : Int32} {gather : Nat → Int32} {paired : Int32} {pairA : Nat → Int32} {pairB : Nat → Int32} {ideal : Int32} {frame : Nat → Int64} {one : Nat → Int64} {two : Nat → Int64} {turned : Nat → Int64} {placeI : Int32} {placeJ : Int32} {formA : Int64} {formB : Int64} {formC : Int64} {l1 : Int32} {l2 : Int32} {v0 : Int32} {v1 : Nat → Int64} {r : (Nat → Int64)} (h : itX (m_dual_L116 n rows l1 l2) (v0, v1) = some r) (hr : aW K (mw h0 hp n p count sorts rows hand gathered gather paired pairA pairB ideal r frame one two turned placeI placeJ formA formB formC) sz 0 0 143 [(0, .ref h0), (2, .int l2)] []) : aW K (mw h0 hp n p count sorts rows hand gathered gather paired pairA pairB ideal v1 frame one two turned placeI placeJ formA formB formC) sz 0 0 116 [(0, .ref h0), (1, .int l1), (2, .int l2), (3, .int v0)] [] := by
  refine it_walk (f := m_dual_L116 n rows l1 l2) (P := fun s => aW K (mw h0 hp n p count sorts rows hand gathered gather paired pairA pairB ideal s.2 frame one two turned placeI placeJ formA formB formC) sz 0 0 116 [(0, .ref h0), (1, .int l1), (2, .int l2), (3, .int s.1)] []) (R := fun r => aW K (mw h0 hp n p count sorts rows hand gathered gather paired pairA pairB ideal r frame one two turned placeI placeJ formA formB formC) sz 0 0 143 [(0, .ref h0), (2, .int l2)] []) ?_ h hr
  clear h hr
  intro s x h kl kr
  unfold m_dual_L116 at h
  refine r_iload_n C 3 rfl dX6_dual_116 rfl ?_
  refine r_aload_n C 0 rfl dX6_dual_117 rfl ?_
  refine r_iload_n C 2 rfl dX6_dual_118 rfl ?_
  obtain ⟨r12, qr12, h⟩ := bd_i h
  refine q_callV C 1 0 0 (c_width qr12) rfl mw_self rfl ok_width in_width lk6_122 rfl (Nat.le_of_ble_eq_true rfl) ⟨Nat.le_of_ble_eq_true rfl, Nat.le_of_ble_eq_true rfl⟩ dX6_dual_119 rfl rfl ?_
  refine r_icmp_ge C (tgt := 143) dX6_dual_122 (by decide) (fun hc => ?_) (fun hc => ?_)
  · replace h := br_p hc h
    refine r_lv [0, 2] rfl ?_
    exact kr _ (sm_i h)
  · replace h := br_n hc h
    refine r_aload_n C 0 rfl dX6_dual_125 rfl ?_
    refine m_g_draft C dX6_dual_126 ?_
    refine r_iload_n C 3 rfl dX6_dual_129 rfl ?_
    refine r_aload_n C 0 rfl dX6_dual_130 rfl ?_
    refine r_iload_n C 1 rfl dX6_dual_131 rfl ?_
    refine r_iload_n C 3 rfl dX6_dual_132 rfl ?_
    obtain ⟨r13, qr13, h⟩ := bd_i h
    refine q_callV C 2 0 0 (c_of qr13) rfl mw_self rfl ok_of in_of lk6_108 rfl (Nat.le_of_ble_eq_true rfl) ⟨Nat.le_of_ble_eq_true rfl, Nat.le_of_ble_eq_true rfl⟩ dX6_dual_133 rfl rfl ?_
    obtain ⟨hi, h⟩ := gd_t h
    refine m_s_draft C hi dX6_dual_136 ?_
    refine r_iinc C (v := s.1 + 1) (lv' := [(3, .int (s.1 + 1)), (0, .ref h0), (1, .int l1), (2, .int l2)]) 3 rfl dX6_dual_137 rfl (by decide) rfl ?_
    refine r_goto C (tgt := 116) dX6_dual_140 (by decide) ?_
    refine r_lv [1, 2, 3, 0] rfl ?_
    exact kl _ (sm_i h)
set_option maxHeartbeats 4000000 in
set_option maxRecDepth 100000 in
theorem w_dual_J166 {K : kT} {O : oT} (C : aC K cX6_dual RX6 "dual" 5 91 0 0 5 (some .int) O) {h0 : Nat} {hp : cH} {sz : Nat} {n : Int32} {p : Int64} {count : Int32} {sorts : Nat → Int32} {rows : Nat → Int64} {hand : Nat → Int64} {gathered : Int32} {gather : Nat → Int32} {paired : Int32} {pairA : Nat → Int32} {pairB : Nat → Int32} {ideal : Int32} {draft : Nat → Int64} {frame : Nat → Int64} {one : Nat → Int64} {two : Nat → Int64} {turned : Nat → Int64} {placeI : Int32} {placeJ : Int32} {formA : Int64} {formB : Int64} {formC : Int64} {l2 : Int32} {out : (Int32 × Int32 × (Nat → Int32) × (Nat → Int64) × (Nat → Int64) × (Nat → Int64) × (Nat → Int64))} (h : m_dual_J166 n p count sorts rows draft frame turned l2 = some out) (hO : ((some (.int out.1), mw h0 hp n p out.2.1 out.2.2.1 out.2.2.2.1 hand gathered gather paired pairA pairB ideal out.2.2.2.2.1 out.2.2.2.2.2.1 one two out.2.2.2.2.2.2 placeI placeJ formA formB formC, sz) : oT) = O) : aW K (mw h0 hp n p count sorts rows hand gathered gather paired pairA pairB ideal draft frame one two turned placeI placeJ formA formB formC) sz 0 0 166 [(0, .ref h0), (2, .int l2)] [] := by
  unfold m_dual_J166 at h
  refine r_aload_n C 0 rfl dX6_dual_166 rfl ?_
  refine r_iload_n C 1 rfl dX6_dual_167 rfl ?_
  refine r_if_ne C (tgt := 187) dX6_dual_168 (by decide) (fun hc => ?_) (fun hc => ?_)
  · replace h := br_n hc h
    refine r_iconst C (v := 0) dX6_dual_187 (by decide) ?_
    obtain ⟨r15, qr15, h⟩ := bd_i h
    refine q_callV C 0 0 0 (c_made qr15) rfl mw_self rfl ok_made in_made lk6_133 rfl (Nat.le_of_ble_eq_true rfl) ⟨Nat.le_of_ble_eq_true rfl, Nat.le_of_ble_eq_true rfl⟩ dX6_dual_188 rfl rfl ?_
    obtain rfl := sm_i h
    exact r_ireturn C (Eq.symm hO) dX6_dual_191
  · replace h := br_p hc h
    refine r_aload_n C 0 rfl dX6_dual_171 rfl ?_
    refine m_g_n C dX6_dual_172 ?_
    refine r_iconst C (v := 2) dX6_dual_175 (by decide) ?_
    refine r_icmp_ne C (tgt := 183) dX6_dual_176 (by decide) (fun hc => ?_) (fun hc => ?_)
    · replace h := br_n hc h
      refine r_iconst C (v := 2) dX6_dual_183 (by decide) ?_
      refine r_goto C (tgt := 188) dX6_dual_184 (by decide) ?_
      obtain ⟨r16, qr16, h⟩ := bd_i h
      refine q_callV C 0 0 0 (c_made qr16) rfl mw_self rfl ok_made in_made lk6_133 rfl (Nat.le_of_ble_eq_true rfl) ⟨Nat.le_of_ble_eq_true rfl, Nat.le_of_ble_eq_true rfl⟩ dX6_dual_188 rfl rfl ?_
      obtain rfl := sm_i h
      exact r_ireturn C (Eq.symm hO) dX6_dual_191
    · replace h := br_p hc h
      refine r_iconst C (v := 1) dX6_dual_179 (by decide) ?_
      refine r_goto C (tgt := 188) dX6_dual_180 (by decide) ?_
      obtain ⟨r17, qr17, h⟩ := bd_i h
      refine q_callV C 0 0 0 (c_made qr17) rfl mw_self rfl ok_made in_made lk6_133 rfl (Nat.le_of_ble_eq_true rfl) ⟨Nat.le_of_ble_eq_true rfl, Nat.le_of_ble_eq_true rfl⟩ dX6_dual_188 rfl rfl ?_
      obtain rfl := sm_i h
      exact r_ireturn C (Eq.symm hO) dX6_dual_191
set_option maxHeartbeats 4000000 in
set_option maxRecDepth 100000 in
theorem c_dual {G : gT} {h0 : Nat} {hp : cH} {sz : Nat} {n : Int32} {p : Int64} {count : Int32} {sorts : Nat → Int32} {rows : Nat → Int64} {hand : Nat → Int64} {gathered : Int32} {gather : Nat → Int32} {paired : Int32} {pairA : Nat → Int32} {pairB : Nat → Int32} {ideal : Int32} {draft : Nat → Int64} {frame : Nat → Int64} {one : Nat → Int64} {two : Nat → Int64} {turned : Nat → Int64} {placeI : Int32} {placeJ : Int32} {formA : Int64} {formB : Int64} {formC : Int64} {x1 : Int32} {out : (Int32 × Int32 × (Nat → Int32) × (Nat → Int64) × (Nat → Int64) × (Nat → Int64) × (Nat → Int64))} (h : m_dual n p count sorts rows draft frame turned x1 = some out) : aM G yX6_dual cX6_dual 5 (some .int) 5 91 0 0 [.ref h0, .int x1] (mw h0 hp n p count sorts rows hand gathered gather paired pairA pairB ideal draft frame one two turned placeI placeJ formA formB formC) sz ((some (.int out.1), mw h0 hp n p out.2.1 out.2.2.1 out.2.2.2.1 hand gathered gather paired pairA pairB ideal out.2.2.2.2.1 out.2.2.2.2.2.1 one two out.2.2.2.2.2.2 placeI placeJ formA formB formC, sz) : oT) := by
  refine aM.of RX6 (by decide) rfl (Nat.le_of_ble_eq_true rfl) (fun K C => ?_)
  have hO : ((some (.int out.1), mw h0 hp n p out.2.1 out.2.2.1 out.2.2.2.1 hand gathered gather paired pairA pairB ideal out.2.2.2.2.1 out.2.2.2.2.2.1 one two out.2.2.2.2.2.2 placeI placeJ formA formB formC, sz) : oT) = ((some (.int out.1), mw h0 hp n p out.2.1 out.2.2.1 out.2.2.2.1 hand gathered gather paired pairA pairB ideal out.2.2.2.2.1 out.2.2.2.2.2.1 one two out.2.2.2.2.2.2 placeI placeJ formA formB formC, sz) : oT) := rfl
  refine r_lve (lv' := [(0, .ref h0), (1, .int x1)]) rfl ?_
  unfold m_dual at h
  refine r_aload_n C 0 rfl dX6_dual_0 rfl ?_
  refine r_iload_n C 1 rfl dX6_dual_1 rfl ?_
  obtain ⟨r1, qr1, h⟩ := bd_i h
  refine q_callV C 0 0 0 (c_isObject qr1) rfl mw_self rfl ok_isObject in_isObject lk6_119 rfl (Nat.le_of_ble_eq_true rfl) ⟨Nat.le_of_ble_eq_true rfl, Nat.le_of_ble_eq_true rfl⟩ dX6_dual_2 rfl rfl ?_
  refine r_if_ne C (tgt := 11) dX6_dual_5 (by decide) (fun hc => ?_) (fun hc => ?_)
  · replace h := br_n hc h
    refine r_aload_n C 0 rfl dX6_dual_11 rfl ?_
    refine m_g_sorts C dX6_dual_12 ?_
    refine r_iload_n C 1 rfl dX6_dual_15 rfl ?_
    obtain ⟨hi, h⟩ := gd_t h
    refine m_l_sorts C hi dX6_dual_16 ?_
    refine r_istore_n C (lv' := [(2, .int (sorts x1.toNatClampNeg)), (0, .ref h0), (1, .int x1)]) dX6_dual_17 rfl (by decide) rfl ?_
    refine r_iload_n C 0 rfl dX6_dual_18 rfl ?_
    refine r_iconst C (v := 3) dX6_dual_19 (by decide) ?_
    refine r_icmp_eq C (tgt := 28) dX6_dual_20 (by decide) (fun hc => ?_) (fun hc => ?_)
    · replace h := br_p hc h
      refine r_lv [1, 2, 0] rfl ?_
      exact w_dual_J28 C h hO
    · replace h := br_n hc h
      refine r_iload_n C 0 rfl dX6_dual_23 rfl ?_
      refine r_iconst C (v := 4) dX6_dual_24 (by decide) ?_
      refine r_icmp_ne C (tgt := 110) dX6_dual_25 (by decide) (fun hc => ?_) (fun hc => ?_)
      · replace h := br_n hc h
        refine r_aload_n C 1 rfl dX6_dual_110 rfl ?_
        obtain ⟨r11, qr11, h⟩ := bd_i h
        refine q_callVv C 0 0 0 (c_clear qr11) rfl mw_self rfl ok_clear in_clear lk6_136 rfl (Nat.le_of_ble_eq_true rfl) ⟨Nat.le_of_ble_eq_true rfl, Nat.le_of_ble_eq_true rfl⟩ dX6_dual_111 rfl rfl ?_
        refine r_iconst C (v := 0) dX6_dual_114 (by decide) ?_
        refine r_istore_n C (lv' := [(3, .int ((0 : Int32))), (2, .int (sorts x1.toNatClampNeg)), (0, .ref h0), (1, .int x1)]) dX6_dual_115 rfl (by decide) rfl ?_
        refine r_lv [2, 3, 1, 0] rfl ?_
        obtain ⟨r14, qr14, h⟩ := bd_i h
        refine w_dual_L116 C qr14 ?_
        refine r_aload_n C 0 rfl dX6_dual_143 rfl ?_
        refine m_g_n C dX6_dual_144 ?_
        refine r_iconst C (v := 3) dX6_dual_147 (by decide) ?_
        refine r_icmp_ne C (tgt := 166) dX6_dual_148 (by decide) (fun hc => ?_) (fun hc => ?_)
        · replace h := br_n hc h
          refine r_lv [0, 1] rfl ?_
          exact w_dual_J166 C h hO
        · replace h := br_p hc h
          refine r_iload_n C 1 rfl dX6_dual_151 rfl ?_
          refine r_iconst C (v := 1) dX6_dual_152 (by decide) ?_
          refine r_icmp_ne C (tgt := 166) dX6_dual_153 (by decide) (fun hc => ?_) (fun hc => ?_)
          · replace h := br_n hc h
            refine r_lv [0, 1] rfl ?_
            exact w_dual_J166 C h hO
          · replace h := br_p hc h
            refine r_aload_n C 0 rfl dX6_dual_156 rfl ?_
            obtain ⟨r18, qr18, h⟩ := bd_i h
            refine q_callVv C 0 0 0 (c_turn qr18) rfl mw_self rfl ok_turn in_turn lk6_174 rfl (Nat.le_of_ble_eq_true rfl) ⟨Nat.le_of_ble_eq_true rfl, Nat.le_of_ble_eq_true rfl⟩ dX6_dual_157 rfl rfl ?_
            refine r_aload_n C 0 rfl dX6_dual_160 rfl ?_
            refine r_iconst C (v := 1) dX6_dual_161 (by decide) ?_
            obtain ⟨r19, qr19, h⟩ := bd_i h
            refine q_callV C 0 0 0 (c_made qr19) rfl mw_self rfl ok_made in_made lk6_133 rfl (Nat.le_of_ble_eq_true rfl) ⟨Nat.le_of_ble_eq_true rfl, Nat.le_of_ble_eq_true rfl⟩ dX6_dual_162 rfl rfl ?_
            obtain rfl := sm_i h
            exact r_ireturn C (Eq.symm hO) dX6_dual_165
      · replace h := br_p hc h
        refine r_lv [1, 2, 0] rfl ?_
        exact w_dual_J28 C h hO
  · replace h := br_p hc h
    refine r_bipush C (v := -2) dX6_dual_8 (by decide) ?_
    obtain rfl := sm_i h
    exact r_ireturn C (Eq.symm hO) dX6_dual_10
noncomputable def m_flat (n : Int32)  : Option Int32 := if n = ((2 : Int32)) then (some ((1 : Int32))) else (some ((2 : Int32)))
set_option maxHeartbeats 4000000 in
set_option maxRecDepth 100000 in
theorem c_flat {G : gT} {h0 : Nat} {hp : cH} {sz : Nat} {n : Int32} {p : Int64} {count : Int32} {sorts : Nat → Int32} {rows : Nat → Int64} {hand : Nat → Int64} {gathered : Int32} {gather : Nat → Int32} {paired : Int32} {pairA : Nat → Int32} {pairB : Nat → Int32} {ideal : Int32} {draft : Nat → Int64} {frame : Nat → Int64} {one : Nat → Int64} {two : Nat → Int64} {turned : Nat → Int64} {placeI : Int32} {placeJ : Int32} {formA : Int64} {formB : Int64} {formC : Int64}  {out : Int32} (h : m_flat n  = some out) : aM G yX6_flat cX6_flat 1 (some .int) 0 0 0 0 [.ref h0] (mw h0 hp n p count sorts rows hand gathered gather paired pairA pairB ideal draft frame one two turned placeI placeJ formA formB formC) sz ((some (.int out), mw h0 hp n p count sorts rows hand gathered gather paired pairA pairB ideal draft frame one two turned placeI placeJ formA formB formC, sz) : oT) := by
  refine aM.of RX6 (by decide) rfl (Nat.le_of_ble_eq_true rfl) (fun K C => ?_)
  have hO : ((some (.int out), mw h0 hp n p count sorts rows hand gathered gather paired pairA pairB ideal draft frame one two turned placeI placeJ formA formB formC, sz) : oT) = ((some (.int out), mw h0 hp n p count sorts rows hand gathered gather paired pairA pairB ideal draft frame one two turned placeI placeJ formA formB formC, sz) : oT) := rfl
  refine r_lve (lv' := [(0, .ref h0)]) rfl ?_
  unfold m_flat at h
  refine r_aload_n C 0 rfl dX6_flat_0 rfl ?_
  refine m_g_n C dX6_flat_1 ?_
  refine r_iconst C (v := 2) dX6_flat_4 (by decide) ?_
  refine r_icmp_ne C (tgt := 12) dX6_flat_5 (by decide) (fun hc => ?_) (fun hc => ?_)
  · replace h := br_n hc h
    refine r_iconst C (v := 2) dX6_flat_12 (by decide) ?_
    obtain rfl := sm_i h
    exact r_ireturn C (Eq.symm hO) dX6_flat_13
  · replace h := br_p hc h
    refine r_iconst C (v := 1) dX6_flat_8 (by decide) ?_
    refine r_goto C (tgt := 13) dX6_flat_9 (by decide) ?_
    obtain rfl := sm_i h
    exact r_ireturn C (Eq.symm hO) dX6_flat_13
noncomputable def m_ideal (n : Int32) (count : Int32) (sorts : Nat → Int32) (ideal : Int32) (x1 : Int32) : Option (Int32 × Int32) := (m_flat n).bind fun r1 => (m_is count sorts x1 r1).bind fun r2 => if r2 = 0 then (some ((-2 : Int32), ideal)) else (some (ideal, x1))
set_option maxHeartbeats 4000000 in
set_option maxRecDepth 100000 in
theorem c_ideal {G : gT} {h0 : Nat} {hp : cH} {sz : Nat} {n : Int32} {p : Int64} {count : Int32} {sorts : Nat → Int32} {rows : Nat → Int64} {hand : Nat → Int64} {gathered : Int32} {gather : Nat → Int32} {paired : Int32} {pairA : Nat → Int32} {pairB : Nat → Int32} {ideal : Int32} {draft : Nat → Int64} {frame : Nat → Int64} {one : Nat → Int64} {two : Nat → Int64} {turned : Nat → Int64} {placeI : Int32} {placeJ : Int32} {formA : Int64} {formB : Int64} {formC : Int64} {x1 : Int32} {out : (Int32 × Int32)} (h : m_ideal n count sorts ideal x1 = some out) : aM G yX6_ideal cX6_ideal 3 (some .int) 2 27 0 0 [.ref h0, .int x1] (mw h0 hp n p count sorts rows hand gathered gather paired pairA pairB ideal draft frame one two turned placeI placeJ formA formB formC) sz ((some (.int out.1), mw h0 hp n p count sorts rows hand gathered gather paired pairA pairB out.2 draft frame one two turned placeI placeJ formA formB formC, sz) : oT) := by
  refine aM.of RX6 (by decide) rfl (Nat.le_of_ble_eq_true rfl) (fun K C => ?_)
  have hO : ((some (.int out.1), mw h0 hp n p count sorts rows hand gathered gather paired pairA pairB out.2 draft frame one two turned placeI placeJ formA formB formC, sz) : oT) = ((some (.int out.1), mw h0 hp n p count sorts rows hand gathered gather paired pairA pairB out.2 draft frame one two turned placeI placeJ formA formB formC, sz) : oT) := rfl
  refine r_lve (lv' := [(0, .ref h0), (1, .int x1)]) rfl ?_
  unfold m_ideal at h
  refine r_aload_n C 0 rfl dX6_ideal_0 rfl ?_
  refine r_iload_n C 1 rfl dX6_ideal_1 rfl ?_
  refine r_aload_n C 0 rfl dX6_ideal_2 rfl ?_
  obtain ⟨r1, qr1, h⟩ := bd_i h
  refine q_callV C 2 0 0 (c_flat qr1) rfl mw_self rfl ok_flat in_flat lk6_272 rfl (Nat.le_of_ble_eq_true rfl) ⟨Nat.le_of_ble_eq_true rfl, Nat.le_of_ble_eq_true rfl⟩ dX6_ideal_3 rfl rfl ?_
  obtain ⟨r2, qr2, h⟩ := bd_i h
  refine q_callV C 0 0 0 (c_is qr2) rfl mw_self rfl ok_is in_is lk6_146 rfl (Nat.le_of_ble_eq_true rfl) ⟨Nat.le_of_ble_eq_true rfl, Nat.le_of_ble_eq_true rfl⟩ dX6_ideal_6 rfl rfl ?_
  refine r_if_ne C (tgt := 15) dX6_ideal_9 (by decide) (fun hc => ?_) (fun hc => ?_)
  · replace h := br_n hc h
    refine r_aload_n C 0 rfl dX6_ideal_15 rfl ?_
    refine m_g_ideal C dX6_ideal_16 ?_
    refine r_istore_n C (lv' := [(2, .int ideal), (0, .ref h0), (1, .int x1)]) dX6_ideal_19 rfl (by decide) rfl ?_
    refine r_aload_n C 1 rfl dX6_ideal_20 rfl ?_
    refine r_iload_n C 2 rfl dX6_ideal_21 rfl ?_
    refine m_p_ideal C dX6_ideal_22 ?_
    refine r_iload_n C 0 rfl dX6_ideal_25 rfl ?_
    obtain rfl := sm_i h
    exact r_ireturn C (Eq.symm hO) dX6_ideal_26
  · replace h := br_p hc h
    refine r_bipush C (v := -2) dX6_ideal_12 (by decide) ?_
    obtain rfl := sm_i h
    exact r_ireturn C (Eq.symm hO) dX6_ideal_14
