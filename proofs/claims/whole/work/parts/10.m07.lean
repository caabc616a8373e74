noncomputable def m_order_L18 (n : Int32) (s : (Int32 × (Nat → Int64))) : Option ((Int32 × (Nat → Int64)) ⊕ (Nat → Int64)) := (m_side n).bind fun r3 => if r3 ≤ s.1 then (some (.inr s.2)) else ((m_side n).bind fun r4 => if gi ((s.1 * r4) + s.1) 16 then some (.inl (s.1 + 1, vp_updL s.2 ((s.1 * r4) + s.1).toNatClampNeg ((1 : Int64)))) else none)
noncomputable def m_order_L83 (n : Int32) (p : Int64) (rows : Nat → Int64) (draft : Nat → Int64) (l1 : Int32) (l3 : Int32) (l4 : Int32) (s : (Int64 × Int32)) : Option ((Int64 × Int32) ⊕ Int64) := (m_side n).bind fun r8 => if r8 ≤ s.2 then (some (.inr s.1)) else ((m_side n).bind fun r9 => if gi ((l3 * r9) + s.2) 16 then (m_side n).bind fun r10 => (m_of rows l1 ((s.2 * r10) + l4)).bind fun r11 => if p = 0 then none else some (.inl ((s.1 + ((draft ((l3 * r9) + s.2).toNatClampNeg) * r11)) - (s.1 + ((draft ((l3 * r9) + s.2).toNatClampNeg) * r11)) / p * p, s.2 + 1)) else none)
noncomputable def m_order_L68 (n : Int32) (p : Int64) (rows : Nat → Int64) (draft : Nat → Int64) (l1 : Int32) (l3 : Int32) (s : (Int32 × (Nat → Int64))) : Option ((Int32 × (Nat → Int64)) ⊕ (Nat → Int64)) := (m_side n).bind fun r7 => if r7 ≤ s.1 then (some (.inr s.2)) else ((itX (m_order_L83 n p rows draft l1 l3 s.1) ((0 : Int64), (0 : Int32))).bind fun r12 => (m_side n).bind fun r13 => if gi ((l3 * r13) + s.1) 16 then some (.inl (s.1 + 1, vp_updL s.2 ((l3 * r13) + s.1).toNatClampNeg r12)) else none)
noncomputable def m_order_L57 (n : Int32) (p : Int64) (rows : Nat → Int64) (draft : Nat → Int64) (l1 : Int32) (s : (Int32 × (Nat → Int64))) : Option ((Int32 × (Nat → Int64)) ⊕ (Nat → Int64)) := (m_side n).bind fun r6 => if r6 ≤ s.1 then (some (.inr s.2)) else ((itX (m_order_L68 n p rows draft l1 s.1) ((0 : Int32), s.2)).bind fun r14 => some (.inl (s.1 + 1, r14)))
noncomputable def m_order_L171J240 (draft : Nat → Int64) (l4 : Int32) : Option ((Int32 × Int32 × (Nat → Int64)) ⊕ (Int32 × (Nat → Int64))) := some (.inl ((0 : Int32), l4 + 1, draft))
noncomputable def m_order_L171 (n : Int32) (one : Nat → Int64) (s : (Int32 × Int32 × (Nat → Int64))) : Option ((Int32 × Int32 × (Nat → Int64)) ⊕ (Int32 × (Nat → Int64))) := (m_side n).bind fun r16 => (m_side n).bind fun r17 => if (r16 * r17) ≤ s.2.1 then (some (.inr (s.1, s.2.2))) else (if gi s.2.1 16 then if gi s.2.1 16 then if s.1 = 0 then (m_order_L171J240 (vp_updL s.2.2 s.2.1.toNatClampNeg (one s.2.1.toNatClampNeg)) s.2.1) else (if gi s.2.1 16 then (m_side n).bind fun r18 => if (r18 + ((1 : Int32))) = 0 then none else if (s.2.1 - s.2.1 / (r18 + ((1 : Int32))) * (r18 + ((1 : Int32)))) = 0 then (if ((vp_updL s.2.2 s.2.1.toNatClampNeg (one s.2.1.toNatClampNeg)) s.2.1.toNatClampNeg) = (one ((0 : Int32)).toNatClampNeg) then (some (.inl ((1 : Int32), s.2.1 + 1, vp_updL s.2.2 s.2.1.toNatClampNeg (one s.2.1.toNatClampNeg)))) else (m_order_L171J240 (vp_updL s.2.2 s.2.1.toNatClampNeg (one s.2.1.toNatClampNeg)) s.2.1)) else (if ((vp_updL s.2.2 s.2.1.toNatClampNeg (one s.2.1.toNatClampNeg)) s.2.1.toNatClampNeg) = ((0 : Int64)) then (some (.inl ((1 : Int32), s.2.1 + 1, vp_updL s.2.2 s.2.1.toNatClampNeg (one s.2.1.toNatClampNeg)))) else (m_order_L171J240 (vp_updL s.2.2 s.2.1.toNatClampNeg (one s.2.1.toNatClampNeg)) s.2.1)) else none) else none else none)
noncomputable def m_order_L48 (n : Int32) (p : Int64) (rows : Nat → Int64) (l1 : Int32) (s : (Int32 × (Nat → Int64) × (Nat → Int64))) : Option ((Int32 × (Nat → Int64) × (Nat → Int64)) ⊕ (((Nat → Int64) × (Nat → Int64)) ⊕ (Int32 × (Nat → Int64) × (Nat → Int64)))) := if ((1000 : Int32)) < s.1 then (some (.inr (.inl (s.2.1, s.2.2)))) else ((itX (m_order_L57 n p rows s.2.1 l1) ((0 : Int32), s.2.2)).bind fun r15 => (itX (m_order_L171 n r15) ((1 : Int32), (0 : Int32), s.2.1)).bind fun r19 => if r19.1 = 0 then (some (.inl (s.1 + 1, r19.2, r15))) else (some (.inr (.inr (s.1, r19.2, r15)))))
noncomputable def m_order (n : Int32) (p : Int64) (count : Int32) (sorts : Nat → Int32) (rows : Nat → Int64) (draft : Nat → Int64) (one : Nat → Int64) (x1 : Int32) : Option (Int32 × (Nat → Int64) × (Nat → Int64)) := (m_is count sorts x1 ((3 : Int32))).bind fun r1 => if r1 = 0 then (some ((-2 : Int32), draft, one)) else ((m_clear draft).bind fun r2 => (itX (m_order_L18 n) ((0 : Int32), r2)).bind fun r5 => (itX (m_order_L48 n p rows x1) ((1 : Int32), r5, one)).bind fun r20 => match r20 with | .inl r20 => (some ((-1 : Int32), r20.1, r20.2)) | .inr o21 => some o21)
set_option maxHeartbeats 4000000 in
set_option maxRecDepth 100000 in
theorem w_order_L18 {K : kT} {O : oT} (C : aC K cX6_order RX6 "order" 2 27 0 0 8 (some .int) O) {h0 : Nat} {hp : cH} {sz : Nat} {n : Int32} {p : Int64} {count : Int32} {sorts : Nat → Int32} {rows : Nat → Int64} {hand : Nat → Int64} {gathered : Int32} {gather : Nat → Int32} {paired : Int32} {pairA : Nat → Int32} {pairB : Nat → Int32} {ideal : Int32} {frame : Nat → Int64} {one : Nat → Int64} {two : Nat → Int64} {turned : Nat → Int64} {placeI : Int32} {placeJ : Int32} {formA : Int64} {formB : Int64} {formC : Int64} {l1 : Int32} {v0 : Int32} {v1 : Nat → Int64} {r : (Nat → Int64)} (h : itX (m_order_L18 n) (v0, v1) = some r) (hr : aW K (mw h0 hp n p count sorts rows hand gathered gather paired pairA pairB ideal r frame one two turned placeI placeJ formA formB formC) sz 0 0 46 [(0, .ref h0), (1, .int l1)] []) : aW K (mw h0 hp n p count sorts rows hand gathered gather paired pairA pairB ideal v1 frame one two turned placeI placeJ formA formB formC) sz 0 0 18 [(0, .ref h0), (1, .int l1), (2, .int v0)] [] := by
  refine it_walk (f := m_order_L18 n) (P := fun s => aW K (mw h0 hp n p count sorts rows hand gathered gather paired pairA pairB ideal s.2 frame one two turned placeI placeJ formA formB formC) sz 0 0 18 [(0, .ref h0), (1, .int l1), (2, .int s.1)] []) (R := fun r => aW K (mw h0 hp n p count sorts rows hand gathered gather paired pairA pairB ideal r frame one two turned placeI placeJ formA formB formC) sz 0 0 46 [(0, .ref h0), (1, .int l1)] []) ?_ h hr
  clear h hr
  intro s x h kl kr
  unfold m_order_L18 at h
  refine r_iload_n C 2 rfl dX6_order_18 rfl ?_
  refine r_aload_n C 0 rfl dX6_order_19 rfl ?_
  obtain ⟨r3, qr3, h⟩ := bd_i h
  refine q_callV C 1 0 0 (c_side qr3) rfl mw_self rfl ok_side in_side lk6_111 rfl (Nat.le_of_ble_eq_true rfl) ⟨Nat.le_of_ble_eq_true rfl, Nat.le_of_ble_eq_true rfl⟩ dX6_order_20 rfl rfl ?_
  refine r_icmp_ge C (tgt := 46) dX6_order_23 (by decide) (fun hc => ?_) (fun hc => ?_)
  · replace h := br_p hc h
    refine r_lv [0, 1] rfl ?_
    exact kr _ (sm_i h)
  · replace h := br_n hc h
    refine r_aload_n C 0 rfl dX6_order_26 rfl ?_
    refine m_g_draft C dX6_order_27 ?_
    refine r_iload_n C 2 rfl dX6_order_30 rfl ?_
    refine r_aload_n C 0 rfl dX6_order_31 rfl ?_
    obtain ⟨r4, qr4, h⟩ := bd_i h
    refine q_callV C 2 0 0 (c_side qr4) rfl mw_self rfl ok_side in_side lk6_111 rfl (Nat.le_of_ble_eq_true rfl) ⟨Nat.le_of_ble_eq_true rfl, Nat.le_of_ble_eq_true rfl⟩ dX6_order_32 rfl rfl ?_
    refine r_imul C dX6_order_35 ?_
    refine r_iload_n C 2 rfl dX6_order_36 rfl ?_
    refine r_iadd C dX6_order_37 ?_
    refine r_lconst C (v := 1) dX6_order_38 (by decide) ?_
    obtain ⟨hi, h⟩ := gd_t h
    refine m_s_draft C hi dX6_order_39 ?_
    refine r_iinc C (v := s.1 + 1) (lv' := [(2, .int (s.1 + 1)), (0, .ref h0), (1, .int l1)]) 2 rfl dX6_order_40 rfl (by decide) rfl ?_
    refine r_goto C (tgt := 18) dX6_order_43 (by decide) ?_
    refine r_lv [1, 2, 0] rfl ?_
    exact kl _ (sm_i h)
set_option maxHeartbeats 4000000 in
set_option maxRecDepth 100000 in
theorem w_order_L83 {K : kT} {O : oT} (C : aC K cX6_order RX6 "order" 2 27 0 0 8 (some .int) O) {h0 : Nat} {hp : cH} {sz : Nat} {n : Int32} {p : Int64} {count : Int32} {sorts : Nat → Int32} {rows : Nat → Int64} {hand : Nat → Int64} {gathered : Int32} {gather : Nat → Int32} {paired : Int32} {pairA : Nat → Int32} {pairB : Nat → Int32} {ideal : Int32} {draft : Nat → Int64} {frame : Nat → Int64} {one : Nat → Int64} {two : Nat → Int64} {turned : Nat → Int64} {placeI : Int32} {placeJ : Int32} {formA : Int64} {formB : Int64} {formC : Int64} {l1 : Int32} {l2 : Int32} {l3 : Int32} {l4 : Int32} {v0 : Int64} {v1 : Int32} {r : Int64} (h : itX (m_order_L83 n p rows draft l1 l3 l4) (v0, v1) = some r) (hr : aW K (mw h0 hp n p count sorts rows hand gathered gather paired pairA pairB ideal draft frame one two turned placeI placeJ formA formB formC) sz 0 0 138 [(0, .ref h0), (1, .int l1), (2, .int l2), (3, .int l3), (4, .int l4), (5, .long r)] []) : aW K (mw h0 hp n p count sorts rows hand gathered gather paired pairA pairB ideal draft frame one two turned placeI placeJ formA formB formC) sz 0 0 83 [(0, .ref h0), (1, .int l1), (2, .int l2), (3, .int l3), (4, .int l4), (5, .long v0), (7, .int v1)] [] := by
  refine it_walk (f := m_order_L83 n p rows draft l1 l3 l4) (P := fun s => aW K (mw h0 hp n p count sorts rows hand gathered gather paired pairA pairB ideal draft frame one two turned placeI placeJ formA formB formC) sz 0 0 83 [(0, .ref h0), (1, .int l1), (2, .int l2), (3, .int l3), (4, .int l4), (5, .long s.1), (7, .int s.2)] []) (R := fun r => aW K (mw h0 hp n p count sorts rows hand gathered gather paired pairA pairB ideal draft frame one two turned placeI placeJ formA formB formC) sz 0 0 138 [(0, .ref h0), (1, .int l1), (2, .int l2), (3, .int l3), (4, .int l4), (5, .long r)] []) ?_ h hr
  clear h hr
  intro s x h kl kr
  unfold m_order_L83 at h
  refine r_iload C 6 rfl dX6_order_83 ?_
  refine r_aload_n C 0 rfl dX6_order_85 rfl ?_
  obtain ⟨r8, qr8, h⟩ := bd_i h
  refine q_callV C 1 0 0 (c_side qr8) rfl mw_self rfl ok_side in_side lk6_111 rfl (Nat.le_of_ble_eq_true rfl) ⟨Nat.le_of_ble_eq_true rfl, Nat.le_of_ble_eq_true rfl⟩ dX6_order_86 rfl rfl ?_
  refine r_icmp_ge C (tgt := 138) dX6_order_89 (by decide) (fun hc => ?_) (fun hc => ?_)
  · replace h := br_p hc h
    refine r_lv [0, 1, 2, 3, 4, 5] rfl ?_
    exact kr _ (sm_i h)
  · replace h := br_n hc h
    refine r_lload C 5 rfl dX6_order_92 ?_
    refine r_aload_n C 0 rfl dX6_order_94 rfl ?_
    refine m_g_draft C dX6_order_95 ?_
    refine r_iload_n C 3 rfl dX6_order_98 rfl ?_
    refine r_aload_n C 0 rfl dX6_order_99 rfl ?_
    obtain ⟨r9, qr9, h⟩ := bd_i h
    refine q_callV C 4 0 0 (c_side qr9) rfl mw_self rfl ok_side in_side lk6_111 rfl (Nat.le_of_ble_eq_true rfl) ⟨Nat.le_of_ble_eq_true rfl, Nat.le_of_ble_eq_true rfl⟩ dX6_order_100 rfl rfl ?_
    refine r_imul C dX6_order_103 ?_
    refine r_iload C 6 rfl dX6_order_104 ?_
    refine r_iadd C dX6_order_106 ?_
    obtain ⟨hi, h⟩ := gd_t h
    refine m_l_draft C hi dX6_order_107 ?_
    refine r_aload_n C 0 rfl dX6_order_108 rfl ?_
    refine r_iload_n C 1 rfl dX6_order_109 rfl ?_
    refine r_iload C 6 rfl dX6_order_110 ?_
    refine r_aload_n C 0 rfl dX6_order_112 rfl ?_
    obtain ⟨r10, qr10, h⟩ := bd_i h
    refine q_callV C 7 0 0 (c_side qr10) rfl mw_self rfl ok_side in_side lk6_111 rfl (Nat.le_of_ble_eq_true rfl) ⟨Nat.le_of_ble_eq_true rfl, Nat.le_of_ble_eq_true rfl⟩ dX6_order_113 rfl rfl ?_
    refine r_imul C dX6_order_116 ?_
    refine r_iload C 4 rfl dX6_order_117 ?_
    refine r_iadd C dX6_order_119 ?_
    obtain ⟨r11, qr11, h⟩ := bd_i h
    refine q_callV C 4 0 0 (c_of qr11) rfl mw_self rfl ok_of in_of lk6_108 rfl (Nat.le_of_ble_eq_true rfl) ⟨Nat.le_of_ble_eq_true rfl, Nat.le_of_ble_eq_true rfl⟩ dX6_order_120 rfl rfl ?_
    refine r_lmul C dX6_order_123 ?_
    refine r_ladd C dX6_order_124 ?_
    refine r_aload_n C 0 rfl dX6_order_125 rfl ?_
    refine m_g_p C dX6_order_126 ?_
    obtain ⟨hne, h⟩ := gd_n h
    refine r_lrem C dX6_order_129 hne ?_
    refine r_lstore C (lv' := [(5, .long ((s.1 + ((draft ((l3 * r9) + s.2).toNatClampNeg) * r11)) - (s.1 + ((draft ((l3 * r9) + s.2).toNatClampNeg) * r11)) / p * p)), (0, .ref h0), (1, .int l1), (2, .int l2), (3, .int l3), (4, .int l4), (7, .int s.2)]) dX6_order_130 (by decide) rfl ?_
    refine r_iinc C (v := s.2 + 1) (lv' := [(7, .int (s.2 + 1)), (5, .long ((s.1 + ((draft ((l3 * r9) + s.2).toNatClampNeg) * r11)) - (s.1 + ((draft ((l3 * r9) + s.2).toNatClampNeg) * r11)) / p * p)), (0, .ref h0), (1, .int l1), (2, .int l2), (3, .int l3), (4, .int l4)]) 6 rfl dX6_order_132 rfl (by decide) rfl ?_
    refine r_goto C (tgt := 83) dX6_order_135 (by decide) ?_
    refine r_lv [2, 3, 4, 5, 6, 1, 0] rfl ?_
    exact kl _ (sm_i h)
set_option maxHeartbeats 4000000 in
set_option maxRecDepth 100000 in
theorem w_order_L68 {K : kT} {O : oT} (C : aC K cX6_order RX6 "order" 2 27 0 0 8 (some .int) O) {h0 : Nat} {hp : cH} {sz : Nat} {n : Int32} {p : Int64} {count : Int32} {sorts : Nat → Int32} {rows : Nat → Int64} {hand : Nat → Int64} {gathered : Int32} {gather : Nat → Int32} {paired : Int32} {pairA : Nat → Int32} {pairB : Nat → Int32} {ideal : Int32} {draft : Nat → Int64} {frame : Nat → Int64} {two : Nat → Int64} {turned : Nat → Int64} {placeI : Int32} {placeJ : Int32} {formA : Int64} {formB : Int64} {formC : Int64} {l1 : Int32} {l2 : Int32} {l3 : Int32} {v0 : Int32} {v1 : Nat → Int64} {r : (Nat → Int64)} (h : itX (m_order_L68 n p rows draft l1 l3) (v0, v1) = some r) (hr : aW K (mw h0 hp n p count sorts rows hand gathered gather paired pairA pairB ideal draft frame r two turned placeI placeJ formA formB formC) sz 0 0 160 [(0, .ref h0), (1, .int l1), (2, .int l2), (3, .int l3)] []) : aW K (mw h0 hp n p count sorts rows hand gathered gather paired pairA pairB ideal draft frame v1 two turned placeI placeJ formA formB formC) sz 0 0 68 [(0, .ref h0), (1, .int l1), (2, .int l2), (3, .int l3), (4, .int v0)] [] := by
  refine it_walk (f := m_order_L68 n p rows draft l1 l3) (P := fun s => aW K (mw h0 hp n p count sorts rows hand gathered gather paired pairA pairB ideal draft frame s.2 two turned placeI placeJ formA formB formC) sz 0 0 68 [(0, .ref h0), (1, .int l1), (2, .int l2), (3, .int l3), (4, .int s.1)] []) (R := fun r => aW K (mw h0 hp n p count sorts rows hand gathered gather paired pairA pairB ideal draft frame r two turned placeI placeJ formA formB formC) sz 0 0 160 [(0, .ref h0), (1, .int l1), (2, .int l2), (3, .int l3)] []) ?_ h hr
  clear h hr
  intro s x h kl kr
  unfold m_order_L68 at h
  refine r_iload C 4 rfl dX6_order_68 ?_
  refine r_aload_n C 0 rfl dX6_order_70 rfl ?_
  obtain ⟨r7, qr7, h⟩ := bd_i h
  refine q_callV C 1 0 0 (c_side qr7) rfl mw_self rfl ok_side in_side lk6_111 rfl (Nat.le_of_ble_eq_true rfl) ⟨Nat.le_of_ble_eq_true rfl, Nat.le_of_ble_eq_true rfl⟩ dX6_order_71 rfl rfl ?_
  refine r_icmp_ge C (tgt := 160) dX6_order_74 (by decide) (fun hc => ?_) (fun hc => ?_)
  · replace h := br_p hc h
    refine r_lv [0, 1, 2, 3] rfl ?_
    exact kr _ (sm_i h)
  · replace h := br_n hc h
    refine r_lconst C (v := 0) dX6_order_77 (by decide) ?_
    refine r_lstore C (lv' := [(5, .long ((0 : Int64))), (0, .ref h0), (1, .int l1), (2, .int l2), (3, .int l3), (4, .int s.1)]) dX6_order_78 (by decide) rfl ?_
    refine r_iconst C (v := 0) dX6_order_80 (by decide) ?_
    refine r_istore C (lv' := [(7, .int ((0 : Int32))), (5, .long ((0 : Int64))), (0, .ref h0), (1, .int l1), (2, .int l2), (3, .int l3), (4, .int s.1)]) dX6_order_81 (by decide) rfl ?_
    refine r_lv [2, 3, 4, 5, 6, 1, 0] rfl ?_
    obtain ⟨r12, qr12, h⟩ := bd_i h
    refine w_order_L83 C qr12 ?_
    refine r_aload_n C 0 rfl dX6_order_138 rfl ?_
    refine m_g_one C dX6_order_139 ?_
    refine r_iload_n C 3 rfl dX6_order_142 rfl ?_
    refine r_aload_n C 0 rfl dX6_order_143 rfl ?_
    obtain ⟨r13, qr13, h⟩ := bd_i h
    refine q_callV C 2 0 0 (c_side qr13) rfl mw_self rfl ok_side in_side lk6_111 rfl (Nat.le_of_ble_eq_true rfl) ⟨Nat.le_of_ble_eq_true rfl, Nat.le_of_ble_eq_true rfl⟩ dX6_order_144 rfl rfl ?_
    refine r_imul C dX6_order_147 ?_
    refine r_iload C 4 rfl dX6_order_148 ?_
    refine r_iadd C dX6_order_150 ?_
    refine r_lload C 5 rfl dX6_order_151 ?_
    obtain ⟨hi, h⟩ := gd_t h
    refine m_s_one C hi dX6_order_153 ?_
    refine r_iinc C (v := s.1 + 1) (lv' := [(4, .int (s.1 + 1)), (0, .ref h0), (1, .int l1), (2, .int l2), (3, .int l3), (5, .long r12)]) 4 rfl dX6_order_154 rfl (by decide) rfl ?_
    refine r_goto C (tgt := 68) dX6_order_157 (by decide) ?_
    refine r_lv [1, 2, 3, 4, 0] rfl ?_
    exact kl _ (sm_i h)
set_option maxHeartbeats 4000000 in
set_option maxRecDepth 100000 in
theorem w_order_L57 {K : kT} {O : oT} (C : aC K cX6_order RX6 "order" 2 27 0 0 8 (some .int) O) {h0 : Nat} {hp : cH} {sz : Nat} {n : Int32} {p : Int64} {count : Int32} {sorts : Nat → Int32} {rows : Nat → Int64} {hand : Nat → Int64} {gathered : Int32} {gather : Nat → Int32} {paired : Int32} {pairA : Nat → Int32} {pairB : Nat → Int32} {ideal : Int32} {draft : Nat → Int64} {frame : Nat → Int64} {two : Nat → Int64} {turned : Nat → Int64} {placeI : Int32} {placeJ : Int32} {formA : Int64} {formB : Int64} {formC : Int64} {l1 : Int32} {l2 : Int32} {v0 : Int32} {v1 : Nat → Int64} {r : (Nat → Int64)} (h : itX (m_order_L57 n p rows draft l1) (v0, v1) = some r) (hr : aW K (mw h0 hp n p count sorts rows hand gathered gather paired pairA pairB ideal draft frame r two turned placeI placeJ formA formB formC) sz 0 0 166 [(0, .ref h0), (1, .int l1), (2, .int l2)] []) : aW K (mw h0 hp n p count sorts rows hand gathered gather paired pairA pairB ideal draft frame v1 two turned placeI placeJ formA formB formC) sz 0 0 57 [(0, .ref h0), (1, .int l1), (2, .int l2), (3, .int v0)] [] := by
  refine it_walk (f := m_order_L57 n p rows draft l1) (P := fun s => aW K (mw h0 hp n p count sorts rows hand gathered gather paired pairA pairB ideal draft frame s.2 two turned placeI placeJ formA formB formC) sz 0 0 57 [(0, .ref h0), (1, .int l1), (2, .int l2), (3, .int s.1)] []) (R := fun r => aW K (mw h0 hp n p count sorts rows hand gathered gather paired pairA pairB ideal draft frame r two turned placeI placeJ formA formB formC) sz 0 0 166 [(0, .ref h0), (1, .int l1), (2, .int l2)] []) ?_ h hr
  clear h hr
  intro s x h kl kr
  unfold m_order_L57 at h
  refine r_iload_n C 3 rfl dX6_order_57 rfl ?_
  refine r_aload_n C 0 rfl dX6_order_58 rfl ?_
  obtain ⟨r6, qr6, h⟩ := bd_i h
  refine q_callV C 1 0 0 (c_side qr6) rfl mw_self rfl ok_side in_side lk6_111 rfl (Nat.le_of_ble_eq_true rfl) ⟨Nat.le_of_ble_eq_true rfl, Nat.le_of_ble_eq_true rfl⟩ dX6_order_59 rfl rfl ?_
  refine r_icmp_ge C (tgt := 166) dX6_order_62 (by decide) (fun hc => ?_) (fun hc => ?_)
  · replace h := br_p hc h
    refine r_lv [0, 1, 2] rfl ?_
    exact kr _ (sm_i h)
  · replace h := br_n hc h
    refine r_iconst C (v := 0) dX6_order_65 (by decide) ?_
    refine r_istore C (lv' := [(4, .int ((0 : Int32))), (0, .ref h0), (1, .int l1), (2, .int l2), (3, .int s.1)]) dX6_order_66 (by decide) rfl ?_
    refine r_lv [1, 2, 3, 4, 0] rfl ?_
    obtain ⟨r14, qr14, h⟩ := bd_i h
    refine w_order_L68 C qr14 ?_
    refine r_iinc C (v := s.1 + 1) (lv' := [(3, .int (s.1 + 1)), (0, .ref h0), (1, .int l1), (2, .int l2)]) 3 rfl dX6_order_160 rfl (by decide) rfl ?_
    refine r_goto C (tgt := 57) dX6_order_163 (by decide) ?_
    refine r_lv [1, 2, 3, 0] rfl ?_
    exact kl _ (sm_i h)
set_option maxHeartbeats 4000000 in
set_option maxRecDepth 100000 in
theorem w_order_L171J240 {K : kT} {O : oT} (C : aC K cX6_order RX6 "order" 2 27 0 0 8 (some .int) O) {h0 : Nat} {hp : cH} {sz : Nat} {n : Int32} {p : Int64} {count : Int32} {sorts : Nat → Int32} {rows : Nat → Int64} {hand : Nat → Int64} {gathered : Int32} {gather : Nat → Int32} {paired : Int32} {pairA : Nat → Int32} {pairB : Nat → Int32} {ideal : Int32} {draft : Nat → Int64} {frame : Nat → Int64} {one : Nat → Int64} {two : Nat → Int64} {turned : Nat → Int64} {placeI : Int32} {placeJ : Int32} {formA : Int64} {formB : Int64} {formC : Int64} {l1 : Int32} {l2 : Int32} {l4 : Int32}  {x : (Int32 × Int32 × (Nat → Int64)) ⊕ (Int32 × (Nat → Int64))} (h : m_order_L171J240 draft l4 = some x) (kl : ∀ s, x = .inl s → aW K (mw h0 hp n p count sorts rows hand gathered gather paired pairA pairB ideal s.2.2 frame one two turned placeI placeJ formA formB formC) sz 0 0 171 [(0, .ref h0), (1, .int l1), (2, .int l2), (3, .int s.1), (4, .int s.2.1)] []) (kr : ∀ r, x = .inr r → aW K (mw h0 hp n p count sorts rows hand gathered gather paired pairA pairB ideal r.2 frame one two turned placeI placeJ formA formB formC) sz 0 0 248 [(0, .ref h0), (1, .int l1), (2, .int l2), (3, .int r.1)] []) : aW K (mw h0 hp n p count sorts rows hand gathered gather paired pairA pairB ideal draft frame one two turned placeI placeJ formA formB formC) sz 0 0 240 [(0, .ref h0), (1, .int l1), (2, .int l2), (4, .int l4)] [] := by
  unfold m_order_L171J240 at h
  refine r_iconst C (v := 0) dX6_order_240 (by decide) ?_
  refine r_istore_n C (lv' := [(3, .int ((0 : Int32))), (0, .ref h0), (1, .int l1), (2, .int l2), (4, .int l4)]) dX6_order_241 rfl (by decide) rfl ?_
  refine r_iinc C (v := l4 + 1) (lv' := [(4, .int (l4 + 1)), (3, .int ((0 : Int32))), (0, .ref h0), (1, .int l1), (2, .int l2)]) 4 rfl dX6_order_242 rfl (by decide) rfl ?_
  refine r_goto C (tgt := 171) dX6_order_245 (by decide) ?_
  refine r_lv [2, 3, 4, 1, 0] rfl ?_
  exact kl _ (sm_i h)
set_option maxHeartbeats 4000000 in
set_option maxRecDepth 100000 in
theorem w_order_L171 {K : kT} {O : oT} (C : aC K cX6_order RX6 "order" 2 27 0 0 8 (some .int) O) {h0 : Nat} {hp : cH} {sz : Nat} {n : Int32} {p : Int64} {count : Int32} {sorts : Nat → Int32} {rows : Nat → Int64} {hand : Nat → Int64} {gathered : Int32} {gather : Nat → Int32} {paired : Int32} {pairA : Nat → Int32} {pairB : Nat → Int32} {ideal : Int32} {frame : Nat → Int64} {one : Nat → Int64} {two : Nat → Int64} {turned : Nat → Int64} {placeI : Int32} {placeJ : Int32} {formA : Int64} {formB : Int64} {formC : Int64} {l1 : Int32} {l2 : Int32} {v0 : Int32} {v1 : Int32} {v2 : Nat → Int64} {r : (Int32 × (Nat → Int64))} (h : itX (m_order_L171 n one) (v0, v1, v2) = some r) (hr : aW K (mw h0 hp n p count sorts rows hand gathered gather paired pairA pairB ideal r.2 frame one two turned placeI placeJ formA formB formC) sz 0 0 248 [(0, .ref h0), (1, .int l1), (2, .int l2), (3, .int r.1)] []) : aW K (mw h0 hp n p count sorts rows hand gathered gather paired pairA pairB ideal v2 frame one two turned placeI placeJ formA formB formC) sz 0 0 171 [(0, .ref h0), (1, .int l1), (2, .int l2), (3, .int v0), (4, .int v1)] [] := by
  refine it_walk (f := m_order_L171 n one) (P := fun s => aW K (mw h0 hp n p count sorts rows hand gathered gather paired pairA pairB ideal s.2.2 frame one two turned placeI placeJ formA formB formC) sz 0 0 171 [(0, .ref h0), (1, .int l1), (2, .int l2), (3, .int s.1), (4, .int s.2.1)] []) (R := fun r => aW K (mw h0 hp n p count sorts rows hand gathered gather paired pairA pairB ideal r.2 frame one two turned placeI placeJ formA formB formC) sz 0 0 248 [(0, .ref h0), (1, .int l1), (2, .int l2), (3, .int r.1)] []) ?_ h hr
  clear h hr
  intro s x h kl kr
  unfold m_order_L171 at h
  refine r_iload C 4 rfl dX6_order_171 ?_
  refine r_aload_n C 0 rfl dX6_order_173 rfl ?_
  obtain ⟨r16, qr16, h⟩ := bd_i h
  refine q_callV C 1 0 0 (c_side qr16) rfl mw_self rfl ok_side in_side lk6_111 rfl (Nat.le_of_ble_eq_true rfl) ⟨Nat.le_of_ble_eq_true rfl, Nat.le_of_ble_eq_true rfl⟩ dX6_order_174 rfl rfl ?_
  refine r_aload_n C 0 rfl dX6_order_177 rfl ?_
  obtain ⟨r17, qr17, h⟩ := bd_i h
  refine q_callV C 2 0 0 (c_side qr17) rfl mw_self rfl ok_side in_side lk6_111 rfl (Nat.le_of_ble_eq_true rfl) ⟨Nat.le_of_ble_eq_true rfl, Nat.le_of_ble_eq_true rfl⟩ dX6_order_178 rfl rfl ?_
  refine r_imul C dX6_order_181 ?_
  refine r_icmp_ge C (tgt := 248) dX6_order_182 (by decide) (fun hc => ?_) (fun hc => ?_)
  · replace h := br_p hc h
    refine r_lv [0, 1, 2, 3] rfl ?_
    exact kr _ (sm_i h)
  · replace h := br_n hc h
    refine r_aload_n C 0 rfl dX6_order_185 rfl ?_
    refine m_g_draft C dX6_order_186 ?_
    refine r_iload C 4 rfl dX6_order_189 ?_
    refine r_aload_n C 0 rfl dX6_order_191 rfl ?_
    refine m_g_one C dX6_order_192 ?_
    refine r_iload C 4 rfl dX6_order_195 ?_
    obtain ⟨hi, h⟩ := gd_t h
    refine m_l_one C hi dX6_order_197 ?_
    obtain ⟨hi, h⟩ := gd_t h
    refine m_s_draft C hi dX6_order_198 ?_
    refine r_iload_n C 3 rfl dX6_order_199 rfl ?_
    refine r_if_eq C (tgt := 240) dX6_order_200 (by decide) (fun hc => ?_) (fun hc => ?_)
    · replace h := br_p hc h
      refine r_lv [0, 1, 2, 4] rfl ?_
      exact w_order_L171J240 C h kl kr
    · replace h := br_n hc h
      refine r_aload_n C 0 rfl dX6_order_203 rfl ?_
      refine m_g_draft C dX6_order_204 ?_
      refine r_iload C 4 rfl dX6_order_207 ?_
      obtain ⟨hi, h⟩ := gd_t h
      refine m_l_draft C hi dX6_order_209 ?_
      refine r_iload C 4 rfl dX6_order_210 ?_
      refine r_aload_n C 0 rfl dX6_order_212 rfl ?_
      obtain ⟨r18, qr18, h⟩ := bd_i h
      refine q_callV C 3 0 0 (c_side qr18) rfl mw_self rfl ok_side in_side lk6_111 rfl (Nat.le_of_ble_eq_true rfl) ⟨Nat.le_of_ble_eq_true rfl, Nat.le_of_ble_eq_true rfl⟩ dX6_order_213 rfl rfl ?_
      refine r_iconst C (v := 1) dX6_order_216 (by decide) ?_
      refine r_iadd C dX6_order_217 ?_
      obtain ⟨hne, h⟩ := gd_n h
      refine r_irem C dX6_order_218 hne ?_
      refine r_if_ne C (tgt := 231) dX6_order_219 (by decide) (fun hc => ?_) (fun hc => ?_)
      · replace h := br_n hc h
        refine r_lconst C (v := 0) dX6_order_231 (by decide) ?_
        refine r_lne C (tgt := 240) dX6_order_232 dX6_order_233 (by decide) (fun hc => ?_) (fun hc => ?_)
        · replace h := br_n hc h
          refine r_lv [0, 1, 2, 4] rfl ?_
          exact w_order_L171J240 C h kl kr
        · replace h := br_p hc h
          refine r_iconst C (v := 1) dX6_order_236 (by decide) ?_
          refine r_goto C (tgt := 241) dX6_order_237 (by decide) ?_
          refine r_istore_n C (lv' := [(3, .int ((1 : Int32))), (0, .ref h0), (1, .int l1), (2, .int l2), (4, .int s.2.1)]) dX6_order_241 rfl (by decide) rfl ?_
          refine r_iinc C (v := s.2.1 + 1) (lv' := [(4, .int (s.2.1 + 1)), (3, .int ((1 : Int32))), (0, .ref h0), (1, .int l1), (2, .int l2)]) 4 rfl dX6_order_242 rfl (by decide) rfl ?_
          refine r_goto C (tgt := 171) dX6_order_245 (by decide) ?_
          refine r_lv [2, 3, 4, 1, 0] rfl ?_
          exact kl _ (sm_i h)
      · replace h := br_p hc h
        refine r_aload_n C 0 rfl dX6_order_222 rfl ?_
        refine m_g_one C dX6_order_223 ?_
        refine r_iconst C (v := 0) dX6_order_226 (by decide) ?_
        refine m_l_one C (by decide) dX6_order_227 ?_
        refine r_goto C (tgt := 232) dX6_order_228 (by decide) ?_
        refine r_lne C (tgt := 240) dX6_order_232 dX6_order_233 (by decide) (fun hc => ?_) (fun hc => ?_)
        · replace h := br_n hc h
          refine r_lv [0, 1, 2, 4] rfl ?_
          exact w_order_L171J240 C h kl kr
        · replace h := br_p hc h
          refine r_iconst C (v := 1) dX6_order_236 (by decide) ?_
          refine r_goto C (tgt := 241) dX6_order_237 (by decide) ?_
          refine r_istore_n C (lv' := [(3, .int ((1 : Int32))), (0, .ref h0), (1, .int l1), (2, .int l2), (4, .int s.2.1)]) dX6_order_241 rfl (by decide) rfl ?_
          refine r_iinc C (v := s.2.1 + 1) (lv' := [(4, .int (s.2.1 + 1)), (3, .int ((1 : Int32))), (0, .ref h0), (1, .int l1), (2, .int l2)]) 4 rfl dX6_order_242 rfl (by decide) rfl ?_
          refine r_goto C (tgt := 171) dX6_order_245 (by decide) ?_
          refine r_lv [2, 3, 4, 1, 0] rfl ?_
          exact kl _ (sm_i h)
set_option maxHeartbeats 4000000 in
set_option maxRecDepth 100000 in
theorem w_order_L48 {K : kT} {O : oT} (C : aC K cX6_order RX6 "order" 2 27 0 0 8 (some .int) O) {h0 : Nat} {hp : cH} {sz : Nat} {n : Int32} {p : Int64} {count : Int32} {sorts : Nat → Int32} {rows : Nat → Int64} {hand : Nat → Int64} {gathered : Int32} {gather : Nat → Int32} {paired : Int32} {pairA : Nat → Int32} {pairB : Nat → Int32} {ideal : Int32} {frame : Nat → Int64} {two : Nat → Int64} {turned : Nat → Int64} {placeI : Int32} {placeJ : Int32} {formA : Int64} {formB : Int64} {formC : Int64} {l1 : Int32} {v0 : Int32} {v1 : Nat → Int64} {v2 : Nat → Int64} {r : (((Nat → Int64) × (Nat → Int64)) ⊕ (Int32 × (Nat → Int64) × (Nat → Int64)))} (h : itX (m_order_L48 n p rows l1) (v0, v1, v2) = some r) (hr : Sum.elim (fun r => aW K (mw h0 hp n p count sorts rows hand gathered gather paired pairA pairB ideal r.1 frame r.2 two turned placeI placeJ formA formB formC) sz 0 0 260 [] []) (fun o => ((some (.int o.1), mw h0 hp n p count sorts rows hand gathered gather paired pairA pairB ideal o.2.1 frame o.2.2 two turned placeI placeJ formA formB formC, sz) : oT) = O) r) : aW K (mw h0 hp n p count sorts rows hand gathered gather paired pairA pairB ideal v1 frame v2 two turned placeI placeJ formA formB formC) sz 0 0 48 [(0, .ref h0), (1, .int l1), (2, .int v0)] [] := by
  refine it_walk (f := m_order_L48 n p rows l1) (P := fun s => aW K (mw h0 hp n p count sorts rows hand gathered gather paired pairA pairB ideal s.2.1 frame s.2.2 two turned placeI placeJ formA formB formC) sz 0 0 48 [(0, .ref h0), (1, .int l1), (2, .int s.1)] []) (R := fun r => Sum.elim (fun r => aW K (mw h0 hp n p count sorts rows hand gathered gather paired pairA pairB ideal r.1 frame r.2 two turned placeI placeJ formA formB formC) sz 0 0 260 [] []) (fun o => ((some (.int o.1), mw h0 hp n p count sorts rows hand gathered gather paired pairA pairB ideal o.2.1 frame o.2.2 two turned placeI placeJ formA formB formC, sz) : oT) = O) r) ?_ h hr
  clear h hr
  intro s x h kl kr
  unfold m_order_L48 at h
  refine r_iload_n C 2 rfl dX6_order_48 rfl ?_
  refine r_sipush C (v := 1000) dX6_order_49 (by decide) ?_
  refine r_icmp_gt C (tgt := 260) dX6_order_52 (by decide) (fun hc => ?_) (fun hc => ?_)
  · replace h := br_p hc h
    refine r_lv [] rfl ?_
    exact kr _ (sm_i h)
  · replace h := br_n hc h
    refine r_iconst C (v := 0) dX6_order_55 (by decide) ?_
    refine r_istore_n C (lv' := [(3, .int ((0 : Int32))), (0, .ref h0), (1, .int l1), (2, .int s.1)]) dX6_order_56 rfl (by decide) rfl ?_
    refine r_lv [1, 2, 3, 0] rfl ?_
    obtain ⟨r15, qr15, h⟩ := bd_i h
    refine w_order_L57 C qr15 ?_
    refine r_iconst C (v := 1) dX6_order_166 (by decide) ?_
    refine r_istore_n C (lv' := [(3, .int ((1 : Int32))), (0, .ref h0), (1, .int l1), (2, .int s.1)]) dX6_order_167 rfl (by decide) rfl ?_
    refine r_iconst C (v := 0) dX6_order_168 (by decide) ?_
    refine r_istore C (lv' := [(4, .int ((0 : Int32))), (3, .int ((1 : Int32))), (0, .ref h0), (1, .int l1), (2, .int s.1)]) dX6_order_169 (by decide) rfl ?_
    refine r_lv [2, 3, 4, 1, 0] rfl ?_
    obtain ⟨r19, qr19, h⟩ := bd_i h
    refine w_order_L171 C qr19 ?_
    refine r_iload_n C 3 rfl dX6_order_248 rfl ?_
    refine r_if_eq C (tgt := 254) dX6_order_249 (by decide) (fun hc => ?_) (fun hc => ?_)
    · replace h := br_p hc h
      refine r_iinc C (v := s.1 + 1) (lv' := [(2, .int (s.1 + 1)), (0, .ref h0), (1, .int l1), (3, .int r19.1)]) 2 rfl dX6_order_254 rfl (by decide) rfl ?_
      refine r_goto C (tgt := 48) dX6_order_257 (by decide) ?_
      refine r_lv [1, 2, 0] rfl ?_
      exact kl _ (sm_i h)
    · replace h := br_n hc h
      refine r_iload_n C 2 rfl dX6_order_252 rfl ?_
      exact r_ireturn C (Eq.symm (kr _ (sm_i h))) dX6_order_253
set_option maxHeartbeats 4000000 in
set_option maxRecDepth 100000 in
theorem c_order {G : gT} {h0 : Nat} {hp : cH} {sz : Nat} {n : Int32} {p : Int64} {count : Int32} {sorts : Nat → Int32} {rows : Nat → Int64} {hand : Nat → Int64} {gathered : Int32} {gather : Nat → Int32} {paired : Int32} {pairA : Nat → Int32} {pairB : Nat → Int32} {ideal : Int32} {draft : Nat → Int64} {frame : Nat → Int64} {one : Nat → Int64} {two : Nat → Int64} {turned : Nat → Int64} {placeI : Int32} {placeJ : Int32} {formA : Int64} {formB : Int64} {formC : Int64} {x1 : Int32} {out : (Int32 × (Nat → Int64) × (Nat → Int64))} (h : m_order n p count sorts rows draft one x1 = some out) : aM G yX6_order cX6_order 8 (some .int) 2 27 0 0 [.ref h0, .int x1] (mw h0 hp n p count sorts rows hand gathered gather paired pairA pairB ideal draft frame one two turned placeI placeJ formA formB formC) sz ((some (.int out.1), mw h0 hp n p count sorts rows hand gathered gather paired pairA pairB ideal out.2.1 frame out.2.2 two turned placeI placeJ formA formB formC, sz) : oT) := by
  refine aM.of RX6 (by decide) rfl (Nat.le_of_ble_eq_true rfl) (fun K C => ?_)
  have hO : ((some (.int out.1), mw h0 hp n p count sorts rows hand gathered gather paired pairA pairB ideal out.2.1 frame out.2.2 two turned placeI placeJ formA formB formC, sz) : oT) = ((some (.int out.1), mw h0 hp n p count sorts rows hand gathered gather paired pairA pairB ideal out.2.1 frame out.2.2 two turned placeI placeJ formA formB formC, sz) : oT) := rfl
  refine r_lve (lv' := [(0, .ref h0), (1, .int x1)]) rfl ?_
  unfold m_order at h
  refine r_aload_n C 0 rfl dX6_order_0 rfl ?_
  refine r_iload_n C 1 rfl dX6_order_1 rfl ?_
  refine r_iconst C (v := 3) dX6_order_2 (by decide) ?_
  obtain ⟨r1, qr1, h⟩ := bd_i h
  refine q_callV C 0 0 0 (c_is qr1) rfl mw_self rfl ok_is in_is lk6_146 rfl (Nat.le_of_ble_eq_true rfl) ⟨Nat.le_of_ble_eq_true rfl, Nat.le_of_ble_eq_true rfl⟩ dX6_order_3 rfl rfl ?_
  refine r_if_ne C (tgt := 12) dX6_order_6 (by decide) (fun hc => ?_) (fun hc => ?_)
  · replace h := br_n hc h
    refine r_aload_n C 0 rfl dX6_order_12 rfl ?_
    obtain ⟨r2, qr2, h⟩ := bd_i h
    refine q_callVv C 0 0 0 (c_clear qr2) rfl mw_self rfl ok_clear in_clear lk6_136 rfl (Nat.le_of_ble_eq_true rfl) ⟨Nat.le_of_ble_eq_true rfl, Nat.le_of_ble_eq_true rfl⟩ dX6_order_13 rfl rfl ?_
    refine r_iconst C (v := 0) dX6_order_16 (by decide) ?_
    refine r_istore_n C (lv' := [(2, .int ((0 : Int32))), (0, .ref h0), (1, .int x1)]) dX6_order_17 rfl (by decide) rfl ?_
    refine r_lv [1, 2, 0] rfl ?_
    obtain ⟨r5, qr5, h⟩ := bd_i h
    refine w_order_L18 C qr5 ?_
    refine r_iconst C (v := 1) dX6_order_46 (by decide) ?_
    refine r_istore_n C (lv' := [(2, .int ((1 : Int32))), (0, .ref h0), (1, .int x1)]) dX6_order_47 rfl (by decide) rfl ?_
    refine r_lv [1, 2, 0] rfl ?_
    obtain ⟨r20, qr20, h⟩ := bd_i h
    cases r20 with
    | inl r20 =>
      replace h : _ = some _ := h
      refine w_order_L48 C qr20 ?_
      refine r_iconst C (v := -1) dX6_order_260 (by decide) ?_
      obtain rfl := sm_i h
      exact r_ireturn C (Eq.symm hO) dX6_order_261
    | inr o21 =>
      obtain rfl := sm_i h
      exact w_order_L48 C qr20 hO
  · replace h := br_p hc h
    refine r_bipush C (v := -2) dX6_order_9 (by decide) ?_
    obtain rfl := sm_i h
    exact r_ireturn C (Eq.symm hO) dX6_order_11
noncomputable def m_pair (n : Int32) (count : Int32) (sorts : Nat → Int32) (paired : Int32) (pairA : Nat → Int32) (pairB : Nat → Int32) (x1 : Int32) (x2 : Int32) : Option (Int32 × Int32 × (Nat → Int32) × (Nat → Int32)) := (m_is count sorts x1 ((0 : Int32))).bind fun r1 => if r1 = 0 then (some ((-2 : Int32), paired, pairA, pairB)) else ((m_is count sorts x2 ((0 : Int32))).bind fun r2 => if r2 = 0 then (some ((-2 : Int32), paired, pairA, pairB)) else (if paired = (n + ((2 : Int32))) then (some ((-3 : Int32), paired, pairA, pairB)) else (if gi paired 5 then if gi paired 5 then some (paired + ((1 : Int32)), paired + ((1 : Int32)), upd pairA paired.toNatClampNeg x1, upd pairB paired.toNatClampNeg x2) else none else none)))
set_option maxHeartbeats 4000000 in
set_option maxRecDepth 100000 in
theorem c_pair {G : gT} {h0 : Nat} {hp : cH} {sz : Nat} {n : Int32} {p : Int64} {count : Int32} {sorts : Nat → Int32} {rows : Nat → Int64} {hand : Nat → Int64} {gathered : Int32} {gather : Nat → Int32} {paired : Int32} {pairA : Nat → Int32} {pairB : Nat → Int32} {ideal : Int32} {draft : Nat → Int64} {frame : Nat → Int64} {one : Nat → Int64} {two : Nat → Int64} {turned : Nat → Int64} {placeI : Int32} {placeJ : Int32} {formA : Int64} {formB : Int64} {formC : Int64} {x1 : Int32} {x2 : Int32} {out : (Int32 × Int32 × (Nat → Int32) × (Nat → Int32))} (h : m_pair n count sorts paired pairA pairB x1 x2 = some out) : aM G yX6_pair cX6_pair 3 (some .int) 2 27 0 0 [.ref h0, .int x1, .int x2] (mw h0 hp n p count sorts rows hand gathered gather paired pairA pairB ideal draft frame one two turned placeI placeJ formA formB formC) sz ((some (.int out.1), mw h0 hp n p count sorts rows hand gathered gather out.2.1 out.2.2.1 out.2.2.2 ideal draft frame one two turned placeI placeJ formA formB formC, sz) : oT) := by
  refine aM.of RX6 (by decide) rfl (Nat.le_of_ble_eq_true rfl) (fun K C => ?_)
  have hO : ((some (.int out.1), mw h0 hp n p count sorts rows hand gathered gather out.2.1 out.2.2.1 out.2.2.2 ideal draft frame one two turned placeI placeJ formA formB formC, sz) : oT) = ((some (.int out.1), mw h0 hp n p count sorts rows hand gathered gather out.2.1 out.2.2.1 out.2.2.2 ideal draft frame one two turned placeI placeJ formA formB formC, sz) : oT) := rfl
  refine r_lve (lv' := [(0, .ref h0), (1, .int x1), (2, .int x2)]) rfl ?_
  unfold m_pair at h
  refine r_aload_n C 0 rfl dX6_pair_0 rfl ?_
  refine r_iload_n C 1 rfl dX6_pair_1 rfl ?_
  refine r_iconst C (v := 0) dX6_pair_2 (by decide) ?_
  obtain ⟨r1, qr1, h⟩ := bd_i h
  refine q_callV C 0 0 0 (c_is qr1) rfl mw_self rfl ok_is in_is lk6_146 rfl (Nat.le_of_ble_eq_true rfl) ⟨Nat.le_of_ble_eq_true rfl, Nat.le_of_ble_eq_true rfl⟩ dX6_pair_3 rfl rfl ?_
  refine r_if_eq C (tgt := 18) dX6_pair_6 (by decide) (fun hc => ?_) (fun hc => ?_)
  · replace h := br_p hc h
    refine r_bipush C (v := -2) dX6_pair_18 (by decide) ?_
    obtain rfl := sm_i h
    exact r_ireturn C (Eq.symm hO) dX6_pair_20
  · replace h := br_n hc h
    refine r_aload_n C 0 rfl dX6_pair_9 rfl ?_
    refine r_iload_n C 2 rfl dX6_pair_10 rfl ?_
    refine r_iconst C (v := 0) dX6_pair_11 (by decide) ?_
    obtain ⟨r2, qr2, h⟩ := bd_i h
    refine q_callV C 0 0 0 (c_is qr2) rfl mw_self rfl ok_is in_is lk6_146 rfl (Nat.le_of_ble_eq_true rfl) ⟨Nat.le_of_ble_eq_true rfl, Nat.le_of_ble_eq_true rfl⟩ dX6_pair_12 rfl rfl ?_
    refine r_if_ne C (tgt := 21) dX6_pair_15 (by decide) (fun hc => ?_) (fun hc => ?_)
    · replace h := br_n hc h
      refine r_aload_n C 0 rfl dX6_pair_21 rfl ?_
      refine m_g_paired C dX6_pair_22 ?_
      refine r_aload_n C 0 rfl dX6_pair_25 rfl ?_
      refine m_g_n C dX6_pair_26 ?_
      refine r_iconst C (v := 2) dX6_pair_29 (by decide) ?_
      refine r_iadd C dX6_pair_30 ?_
      refine r_icmp_ne C (tgt := 37) dX6_pair_31 (by decide) (fun hc => ?_) (fun hc => ?_)
      · replace h := br_n hc h
        refine r_aload_n C 0 rfl dX6_pair_37 rfl ?_
        refine m_g_pairA C dX6_pair_38 ?_
        refine r_aload_n C 0 rfl dX6_pair_41 rfl ?_
        refine m_g_paired C dX6_pair_42 ?_
        refine r_iload_n C 1 rfl dX6_pair_45 rfl ?_
        obtain ⟨hi, h⟩ := gd_t h
        refine m_s_pairA C hi dX6_pair_46 ?_
        refine r_aload_n C 0 rfl dX6_pair_47 rfl ?_
        refine m_g_pairB C dX6_pair_48 ?_
        refine r_aload_n C 0 rfl dX6_pair_51 rfl ?_
        refine m_g_paired C dX6_pair_52 ?_
        refine r_iload_n C 2 rfl dX6_pair_55 rfl ?_
        obtain ⟨hi, h⟩ := gd_t h
        refine m_s_pairB C hi dX6_pair_56 ?_
        refine r_aload_n C 0 rfl dX6_pair_57 rfl ?_
        refine r_dup C dX6_pair_58 rfl ?_
        refine m_g_paired C dX6_pair_59 ?_
        refine r_iconst C (v := 1) dX6_pair_62 (by decide) ?_
        refine r_iadd C dX6_pair_63 ?_
        refine m_p_paired C dX6_pair_64 ?_
        refine r_aload_n C 0 rfl dX6_pair_67 rfl ?_
        refine m_g_paired C dX6_pair_68 ?_
        obtain rfl := sm_i h
        exact r_ireturn C (Eq.symm hO) dX6_pair_71
      · replace h := br_p hc h
        refine r_bipush C (v := -3) dX6_pair_34 (by decide) ?_
        obtain rfl := sm_i h
        exact r_ireturn C (Eq.symm hO) dX6_pair_36
    · replace h := br_p hc h
      refine r_bipush C (v := -2) dX6_pair_18 (by decide) ?_
      obtain rfl := sm_i h
      exact r_ireturn C (Eq.symm hO) dX6_pair_20
noncomputable def m_gather (count : Int32) (sorts : Nat → Int32) (gathered : Int32) (gather : Nat → Int32) (x1 : Int32) : Option (Int32 × Int32 × (Nat → Int32)) := (m_is count sorts x1 ((0 : Int32))).bind fun r1 => if r1 = 0 then (some ((-2 : Int32), gathered, gather)) else (if gathered = ((9 : Int32)) then (some ((-3 : Int32), gathered, gather)) else (if gi gathered 9 then some (gathered + ((1 : Int32)), gathered + ((1 : Int32)), upd gather gathered.toNatClampNeg x1) else none))
set_option maxHeartbeats 4000000 in
set_option maxRecDepth 100000 in
theorem c_gather {G : gT} {h0 : Nat} {hp : cH} {sz : Nat} {n : Int32} {p : Int64} {count : Int32} {sorts : Nat → Int32} {rows : Nat → Int64} {hand : Nat → Int64} {gathered : Int32} {gather : Nat → Int32} {paired : Int32} {pairA : Nat → Int32} {pairB : Nat → Int32} {ideal : Int32} {draft : Nat → Int64} {frame : Nat → Int64} {one : Nat → Int64} {two : Nat → Int64} {turned : Nat → Int64} {placeI : Int32} {placeJ : Int32} {formA : Int64} {formB : Int64} {formC : Int64} {x1 : Int32} {out : (Int32 × Int32 × (Nat → Int32))} (h : m_gather count sorts gathered gather x1 = some out) : aM G yX6_gather cX6_gather 2 (some .int) 2 27 0 0 [.ref h0, .int x1] (mw h0 hp n p count sorts rows hand gathered gather paired pairA pairB ideal draft frame one two turned placeI placeJ formA formB formC) sz ((some (.int out.1), mw h0 hp n p count sorts rows hand out.2.1 out.2.2 paired pairA pairB ideal draft frame one two turned placeI placeJ formA formB formC, sz) : oT) := by
  refine aM.of RX6 (by decide) rfl (Nat.le_of_ble_eq_true rfl) (fun K C => ?_)
  have hO : ((some (.int out.1), mw h0 hp n p count sorts rows hand out.2.1 out.2.2 paired pairA pairB ideal draft frame one two turned placeI placeJ formA formB formC, sz) : oT) = ((some (.int out.1), mw h0 hp n p count sorts rows hand out.2.1 out.2.2 paired pairA pairB ideal draft frame one two turned placeI placeJ formA formB formC, sz) : oT) := rfl
  refine r_lve (lv' := [(0, .ref h0), (1, .int x1)]) rfl ?_
  unfold m_gather at h
  refine r_aload_n C 0 rfl dX6_gather_0 rfl ?_
  refine r_iload_n C 1 rfl dX6_gather_1 rfl ?_
  refine r_iconst C (v := 0) dX6_gather_2 (by decide) ?_
  obtain ⟨r1, qr1, h⟩ := bd_i h
  refine q_callV C 0 0 0 (c_is qr1) rfl mw_self rfl ok_is in_is lk6_146 rfl (Nat.le_of_ble_eq_true rfl) ⟨Nat.le_of_ble_eq_true rfl, Nat.le_of_ble_eq_true rfl⟩ dX6_gather_3 rfl rfl ?_
  refine r_if_ne C (tgt := 12) dX6_gather_6 (by decide) (fun hc => ?_) (fun hc => ?_)
  · replace h := br_n hc h
    refine r_aload_n C 0 rfl dX6_gather_12 rfl ?_
    refine m_g_gathered C dX6_gather_13 ?_
    refine r_bipush C (v := 9) dX6_gather_16 (by decide) ?_
    refine r_icmp_ne C (tgt := 24) dX6_gather_18 (by decide) (fun hc => ?_) (fun hc => ?_)
    · replace h := br_n hc h
      refine r_aload_n C 0 rfl dX6_gather_24 rfl ?_
      refine m_g_gather C dX6_gather_25 ?_
      refine r_aload_n C 0 rfl dX6_gather_28 rfl ?_
      refine m_g_gathered C dX6_gather_29 ?_
      refine r_iload_n C 1 rfl dX6_gather_32 rfl ?_
      obtain ⟨hi, h⟩ := gd_t h
      refine m_s_gather C hi dX6_gather_33 ?_
      refine r_aload_n C 0 rfl dX6_gather_34 rfl ?_
      refine r_dup C dX6_gather_35 rfl ?_
      refine m_g_gathered C dX6_gather_36 ?_
      refine r_iconst C (v := 1) dX6_gather_39 (by decide) ?_
      refine r_iadd C dX6_gather_40 ?_
      refine m_p_gathered C dX6_gather_41 ?_
      refine r_aload_n C 0 rfl dX6_gather_44 rfl ?_
      refine m_g_gathered C dX6_gather_45 ?_
      obtain rfl := sm_i h
      exact r_ireturn C (Eq.symm hO) dX6_gather_48
    · replace h := br_p hc h
      refine r_bipush C (v := -3) dX6_gather_21 (by decide) ?_
      obtain rfl := sm_i h
      exact r_ireturn C (Eq.symm hO) dX6_gather_23
  · replace h := br_p hc h
    refine r_bipush C (v := -2) dX6_gather_9 (by decide) ?_
    obtain rfl := sm_i h
    exact r_ireturn C (Eq.symm hO) dX6_gather_11
noncomputable def m_forget (gathered : Int32)  : Option (Int32 × Int32) := some (gathered, (0 : Int32))
set_option maxHeartbeats 4000000 in
set_option maxRecDepth 100000 in
theorem c_forget {G : gT} {h0 : Nat} {hp : cH} {sz : Nat} {n : Int32} {p : Int64} {count : Int32} {sorts : Nat → Int32} {rows : Nat → Int64} {hand : Nat → Int64} {gathered : Int32} {gather : Nat → Int32} {paired : Int32} {pairA : Nat → Int32} {pairB : Nat → Int32} {ideal : Int32} {draft : Nat → Int64} {frame : Nat → Int64} {one : Nat → Int64} {two : Nat → Int64} {turned : Nat → Int64} {placeI : Int32} {placeJ : Int32} {formA : Int64} {formB : Int64} {formC : Int64}  {out : (Int32 × Int32)} (h : m_forget gathered  = some out) : aM G yX6_forget cX6_forget 2 (some .int) 0 0 0 0 [.ref h0] (mw h0 hp n p count sorts rows hand gathered gather paired pairA pairB ideal draft frame one two turned placeI placeJ formA formB formC) sz ((some (.int out.1), mw h0 hp n p count sorts rows hand out.2 gather paired pairA pairB ideal draft frame one two turned placeI placeJ formA formB formC, sz) : oT) := by
  refine aM.of RX6 (by decide) rfl (Nat.le_of_ble_eq_true rfl) (fun K C => ?_)
  have hO : ((some (.int out.1), mw h0 hp n p count sorts rows hand out.2 gather paired pairA pairB ideal draft frame one two turned placeI placeJ formA formB formC, sz) : oT) = ((some (.int out.1), mw h0 hp n p count sorts rows hand out.2 gather paired pairA pairB ideal draft frame one two turned placeI placeJ formA formB formC, sz) : oT) := rfl
  refine r_lve (lv' := [(0, .ref h0)]) rfl ?_
  unfold m_forget at h
  refine r_aload_n C 0 rfl dX6_forget_0 rfl ?_
  refine m_g_gathered C dX6_forget_1 ?_
  refine r_istore_n C (lv' := [(1, .int gathered), (0, .ref h0)]) dX6_forget_4 rfl (by decide) rfl ?_
  refine r_aload_n C 1 rfl dX6_forget_5 rfl ?_
  refine r_iconst C (v := 0) dX6_forget_6 (by decide) ?_
  refine m_p_gathered C dX6_forget_7 ?_
  refine r_iload_n C 0 rfl dX6_forget_10 rfl ?_
  obtain rfl := sm_i h
  exact r_ireturn C (Eq.symm hO) dX6_forget_11
noncomputable def m_conditions_L25 (n : Int32) (p : Int64) (rows : Nat → Int64) (gather : Nat → Int32) (l1 : Int32) (l3 : Int32) (s : (Int32 × Int32 × (Nat → Int64))) : Option ((Int32 × Int32 × (Nat → Int64)) ⊕ (Int32 × (Nat → Int64))) := (m_side n).bind fun r2 => if r2 ≤ s.2.1 then (some (.inr (s.1, s.2.2))) else (if gi l1 9 then (m_of rows (gather l1.toNatClampNeg) l3).bind fun r3 => if gi l1 9 then (m_of rows (gather l1.toNatClampNeg) s.2.1).bind fun r4 => (m_times p r3 r4).bind fun r5 => if l3 = s.2.1 then ((m_set s.2.2 l1 s.1 r5).bind fun r8 => some (.inl (s.1 + 1, s.2.1 + 1, r8))) else ((m_times p ((2 : Int64)) r5).bind fun r6 => (m_set s.2.2 l1 s.1 r6).bind fun r7 => some (.inl (s.1 + 1, s.2.1 + 1, r7))) else none else none)
noncomputable def m_conditions_L14 (n : Int32) (p : Int64) (rows : Nat → Int64) (gather : Nat → Int32) (l1 : Int32) (s : (Int32 × Int32 × (Nat → Int64))) : Option ((Int32 × Int32 × (Nat → Int64)) ⊕ (Nat → Int64)) := (m_side n).bind fun r1 => if r1 ≤ s.2.1 then (some (.inr s.2.2)) else ((itX (m_conditions_L25 n p rows gather l1 s.2.1) (s.1, s.2.1, s.2.2)).bind fun r9 => some (.inl (r9.1, s.2.1 + 1, r9.2)))
noncomputable def m_conditions_L2 (n : Int32) (p : Int64) (rows : Nat → Int64) (gathered : Int32) (gather : Nat → Int32) (s : (Int32 × (Nat → Int64))) : Option ((Int32 × (Nat → Int64)) ⊕ (Nat → Int64)) := if gathered ≤ s.1 then (some (.inr s.2)) else ((itX (m_conditions_L14 n p rows gather s.1) ((0 : Int32), (0 : Int32), s.2)).bind fun r10 => some (.inl (s.1 + 1, r10)))
noncomputable def m_conditions (n : Int32) (p : Int64) (rows : Nat → Int64) (gathered : Int32) (gather : Nat → Int32) (frame : Nat → Int64)  : Option (Int32 × (Nat → Int64)) := (itX (m_conditions_L2 n p rows gathered gather) ((0 : Int32), frame)).bind fun r11 => (m_side n).bind fun r12 => (m_side n).bind fun r13 => (m_reduce p r11 gathered ((r12 * (r13 + ((1 : Int32)))) / ((2 : Int32))) ((r12 * (r13 + ((1 : Int32)))) / ((2 : Int32)))).bind fun r14 => some (r14.1, r14.2)
set_option maxHeartbeats 4000000 in
set_option maxRecDepth 100000 in
theorem w_conditions_L25 {K : kT} {O : oT} (C : aC K cX6_conditions RX6 "conditions" 4 76 0 0 7 (some .int) O) {h0 : Nat} {hp : cH} {sz : Nat} {n : Int32} {p : Int64} {count : Int32} {sorts : Nat → Int32} {rows : Nat → Int64} {hand : Nat → Int64} {gathered : Int32} {gather : Nat → Int32} {paired : Int32} {pairA : Nat → Int32} {pairB : Nat → Int32} {ideal : Int32} {draft : Nat → Int64} {one : Nat → Int64} {two : Nat → Int64} {turned : Nat → Int64} {placeI : Int32} {placeJ : Int32} {formA : Int64} {formB : Int64} {formC : Int64} {l1 : Int32} {l3 : Int32} {v0 : Int32} {v1 : Int32} {v2 : Nat → Int64} {r : (Int32 × (Nat → Int64))} (h : itX (m_conditions_L25 n p rows gather l1 l3) (v0, v1, v2) = some r) (hr : aW K (mw h0 hp n p count sorts rows hand gathered gather paired pairA pairB ideal draft r.2 one two turned placeI placeJ formA formB formC) sz 0 0 98 [(0, .ref h0), (1, .int l1), (2, .int r.1), (3, .int l3)] []) : aW K (mw h0 hp n p count sorts rows hand gathered gather paired pairA pairB ideal draft v2 one two turned placeI placeJ formA formB formC) sz 0 0 25 [(0, .ref h0), (1, .int l1), (2, .int v0), (3, .int l3), (4, .int v1)] [] := by
  refine it_walk (f := m_conditions_L25 n p rows gather l1 l3) (P := fun s => aW K (mw h0 hp n p count sorts rows hand gathered gather paired pairA pairB ideal draft s.2.2 one two turned placeI placeJ formA formB formC) sz 0 0 25 [(0, .ref h0), (1, .int l1), (2, .int s.1), (3, .int l3), (4, .int s.2.1)] []) (R := fun r => aW K (mw h0 hp n p count sorts rows hand gathered gather paired pairA pairB ideal draft r.2 one two turned placeI placeJ formA formB formC) sz 0 0 98 [(0, .ref h0), (1, .int l1), (2, .int r.1), (3, .int l3)] []) ?_ h hr
  clear h hr
  intro s x h kl kr
  unfold m_conditions_L25 at h
  refine r_iload C 4 rfl dX6_conditions_25 ?_
  refine r_aload_n C 0 rfl dX6_conditions_27 rfl ?_
  obtain ⟨r2, qr2, h⟩ := bd_i h
  refine q_callV C 1 0 0 (c_side qr2) rfl mw_self rfl ok_side in_side lk6_111 rfl (Nat.le_of_ble_eq_true rfl) ⟨Nat.le_of_ble_eq_true rfl, Nat.le_of_ble_eq_true rfl⟩ dX6_conditions_28 rfl rfl ?_
  refine r_icmp_ge C (tgt := 98) dX6_conditions_31 (by decide) (fun hc => ?_) (fun hc => ?_)
  · replace h := br_p hc h
    refine r_lv [0, 1, 2, 3] rfl ?_
    exact kr _ (sm_i h)
  · replace h := br_n hc h
    refine r_aload_n C 0 rfl dX6_conditions_34 rfl ?_
    refine r_aload_n C 0 rfl dX6_conditions_35 rfl ?_
    refine r_aload_n C 0 rfl dX6_conditions_36 rfl ?_
    refine m_g_gather C dX6_conditions_37 ?_
    refine r_iload_n C 1 rfl dX6_conditions_40 rfl ?_
    obtain ⟨hi, h⟩ := gd_t h
    refine m_l_gather C hi dX6_conditions_41 ?_
    refine r_iload_n C 3 rfl dX6_conditions_42 rfl ?_
    obtain ⟨r3, qr3, h⟩ := bd_i h
    refine q_callV C 1 0 0 (c_of qr3) rfl mw_self rfl ok_of in_of lk6_108 rfl (Nat.le_of_ble_eq_true rfl) ⟨Nat.le_of_ble_eq_true rfl, Nat.le_of_ble_eq_true rfl⟩ dX6_conditions_43 rfl rfl ?_
    refine r_aload_n C 0 rfl dX6_conditions_46 rfl ?_
    refine r_aload_n C 0 rfl dX6_conditions_47 rfl ?_
    refine m_g_gather C dX6_conditions_48 ?_
    refine r_iload_n C 1 rfl dX6_conditions_51 rfl ?_
    obtain ⟨hi, h⟩ := gd_t h
    refine m_l_gather C hi dX6_conditions_52 ?_
    refine r_iload C 4 rfl dX6_conditions_53 ?_
    obtain ⟨r4, qr4, h⟩ := bd_i h
    refine q_callV C 3 0 0 (c_of qr4) rfl mw_self rfl ok_of in_of lk6_108 rfl (Nat.le_of_ble_eq_true rfl) ⟨Nat.le_of_ble_eq_true rfl, Nat.le_of_ble_eq_true rfl⟩ dX6_conditions_55 rfl rfl ?_
    obtain ⟨r5, qr5, h⟩ := bd_i h
    refine q_callV C 0 0 0 (c_times qr5) rfl mw_self rfl ok_times in_times lk6_76 rfl (Nat.le_of_ble_eq_true rfl) ⟨Nat.le_of_ble_eq_true rfl, Nat.le_of_ble_eq_true rfl⟩ dX6_conditions_58 rfl rfl ?_
    refine r_lstore C (lv' := [(5, .long r5), (0, .ref h0), (1, .int l1), (2, .int s.1), (3, .int l3), (4, .int s.2.1)]) dX6_conditions_61 (by decide) rfl ?_
    refine r_aload_n C 1 rfl dX6_conditions_63 rfl ?_
    refine r_iload_n C 2 rfl dX6_conditions_64 rfl ?_
    refine r_iload_n C 3 rfl dX6_conditions_65 rfl ?_
    refine r_iload_n C 4 rfl dX6_conditions_66 rfl ?_
    refine r_iload C 5 rfl dX6_conditions_67 ?_
    refine r_icmp_ne C (tgt := 77) dX6_conditions_69 (by decide) (fun hc => ?_) (fun hc => ?_)
    · replace h := br_n hc h
      refine r_aload_n C 1 rfl dX6_conditions_77 rfl ?_
      refine r_ldc2 C (v := 2) cl6_50 dX6_conditions_78 ?_
      refine r_lload C 0 rfl dX6_conditions_81 ?_
      obtain ⟨r6, qr6, h⟩ := bd_i h
      refine q_callV C 3 0 0 (c_times qr6) rfl mw_self rfl ok_times in_times lk6_76 rfl (Nat.le_of_ble_eq_true rfl) ⟨Nat.le_of_ble_eq_true rfl, Nat.le_of_ble_eq_true rfl⟩ dX6_conditions_83 rfl rfl ?_
      obtain ⟨r7, qr7, h⟩ := bd_i h
      refine q_callVv C 0 0 0 (c_set qr7) rfl mw_self rfl ok_set in_set lk6_101 rfl (Nat.le_of_ble_eq_true rfl) ⟨Nat.le_of_ble_eq_true rfl, Nat.le_of_ble_eq_true rfl⟩ dX6_conditions_86 rfl rfl ?_
      refine r_iinc C (v := s.1 + 1) (lv' := [(2, .int (s.1 + 1)), (5, .long r5), (0, .ref h0), (1, .int l1), (3, .int l3), (4, .int s.2.1)]) 3 rfl dX6_conditions_89 rfl (by decide) rfl ?_
      refine r_iinc C (v := s.2.1 + 1) (lv' := [(4, .int (s.2.1 + 1)), (2, .int (s.1 + 1)), (5, .long r5), (0, .ref h0), (1, .int l1), (3, .int l3)]) 5 rfl dX6_conditions_92 rfl (by decide) rfl ?_
      refine r_goto C (tgt := 25) dX6_conditions_95 (by decide) ?_
      refine r_lv [3, 4, 1, 5, 0] rfl ?_
      exact kl _ (sm_i h)
    · replace h := br_p hc h
      refine r_lload C 0 rfl dX6_conditions_72 ?_
      refine r_goto C (tgt := 86) dX6_conditions_74 (by decide) ?_
      obtain ⟨r8, qr8, h⟩ := bd_i h
      refine q_callVv C 0 0 0 (c_set qr8) rfl mw_self rfl ok_set in_set lk6_101 rfl (Nat.le_of_ble_eq_true rfl) ⟨Nat.le_of_ble_eq_true rfl, Nat.le_of_ble_eq_true rfl⟩ dX6_conditions_86 rfl rfl ?_
      refine r_iinc C (v := s.1 + 1) (lv' := [(2, .int (s.1 + 1)), (5, .long r5), (0, .ref h0), (1, .int l1), (3, .int l3), (4, .int s.2.1)]) 3 rfl dX6_conditions_89 rfl (by decide) rfl ?_
      refine r_iinc C (v := s.2.1 + 1) (lv' := [(4, .int (s.2.1 + 1)), (2, .int (s.1 + 1)), (5, .long r5), (0, .ref h0), (1, .int l1), (3, .int l3)]) 5 rfl dX6_conditions_92 rfl (by decide) rfl ?_
      refine r_goto C (tgt := 25) dX6_conditions_95 (by decide) ?_
      refine r_lv [3, 4, 1, 5, 0] rfl ?_
      exact kl _ (sm_i h)
set_option maxHeartbeats 4000000 in
set_option maxRecDepth 100000 in
theorem w_conditions_L14 {K : kT} {O : oT} (C : aC K cX6_conditions RX6 "conditions" 4 76 0 0 7 (some .int) O) {h0 : Nat} {hp : cH} {sz : Nat} {n : Int32} {p : Int64} {count : Int32} {sorts : Nat → Int32} {rows : Nat → Int64} {hand : Nat → Int64} {gathered : Int32} {gather : Nat → Int32} {paired : Int32} {pairA : Nat → Int32} {pairB : Nat → Int32} {ideal : Int32} {draft : Nat → Int64} {one : Nat → Int64} {two : Nat → Int64} {turned : Nat → Int64} {placeI : Int32} {placeJ : Int32} {formA : Int64} {formB : Int64} {formC : Int64} {l1 : Int32} {v0 : Int32} {v1 : Int32} {v2 : Nat → Int64} {r : (Nat → Int64)} (h : itX (m_conditions_L14 n p rows gather l1) (v0, v1, v2) = some r) (hr : aW K (mw h0 hp n p count sorts rows hand gathered gather paired pairA pairB ideal draft r one two turned placeI placeJ formA formB formC) sz 0 0 104 [(0, .ref h0), (1, .int l1)] []) : aW K (mw h0 hp n p count sorts rows hand gathered gather paired pairA pairB ideal draft v2 one two turned placeI placeJ formA formB formC) sz 0 0 14 [(0, .ref h0), (1, .int l1), (2, .int v0), (3, .int v1)] [] := by
  refine it_walk (f := m_conditions_L14 n p rows gather l1) (P := fun s => aW K (mw h0 hp n p count sorts rows hand gathered gather paired pairA pairB ideal draft s.2.2 one two turned placeI placeJ formA formB formC) sz 0 0 14 [(0, .ref h0), (1, .int l1), (2, .int s.1), (3, .int s.2.1)] []) (R := fun r => aW K (mw h0 hp n p count sorts rows hand gathered gather paired pairA pairB ideal draft r one two turned placeI placeJ formA formB formC) sz 0 0 104 [(0, .ref h0), (1, .int l1)] []) ?_ h hr
  clear h hr
  intro s x h kl kr
  unfold m_conditions_L14 at h
  refine r_iload_n C 3 rfl dX6_conditions_14 rfl ?_
  refine r_aload_n C 0 rfl dX6_conditions_15 rfl ?_
  obtain ⟨r1, qr1, h⟩ := bd_i h
  refine q_callV C 1 0 0 (c_side qr1) rfl mw_self rfl ok_side in_side lk6_111 rfl (Nat.le_of_ble_eq_true rfl) ⟨Nat.le_of_ble_eq_true rfl, Nat.le_of_ble_eq_true rfl⟩ dX6_conditions_16 rfl rfl ?_
  refine r_icmp_ge C (tgt := 104) dX6_conditions_19 (by decide) (fun hc => ?_) (fun hc => ?_)
  · replace h := br_p hc h
    refine r_lv [0, 1] rfl ?_
    exact kr _ (sm_i h)
  · replace h := br_n hc h
    refine r_iload_n C 3 rfl dX6_conditions_22 rfl ?_
    refine r_istore C (lv' := [(4, .int s.2.1), (0, .ref h0), (1, .int l1), (2, .int s.1), (3, .int s.2.1)]) dX6_conditions_23 (by decide) rfl ?_
    refine r_lv [1, 2, 3, 4, 0] rfl ?_
    obtain ⟨r9, qr9, h⟩ := bd_i h
    refine w_conditions_L25 C qr9 ?_
    refine r_iinc C (v := s.2.1 + 1) (lv' := [(3, .int (s.2.1 + 1)), (0, .ref h0), (1, .int l1), (2, .int r9.1)]) 3 rfl dX6_conditions_98 rfl (by decide) rfl ?_
    refine r_goto C (tgt := 14) dX6_conditions_101 (by decide) ?_
    refine r_lv [1, 2, 3, 0] rfl ?_
    exact kl _ (sm_i h)
set_option maxHeartbeats 4000000 in
set_option maxRecDepth 100000 in
theorem w_conditions_L2 {K : kT} {O : oT} (C : aC K cX6_conditions RX6 "conditions" 4 76 0 0 7 (some .int) O) {h0 : Nat} {hp : cH} {sz : Nat} {n : Int32} {p : Int64} {count : Int32} {sorts : Nat → Int32} {rows : Nat → Int64} {hand : Nat → Int64} {gathered : Int32} {gather : Nat → Int32} {paired : Int32} {pairA : Nat → Int32} {pairB : Nat → Int32} {ideal : Int32} {draft : Nat → Int64} {one : Nat → Int64} {two : Nat → Int64} {turned : Nat → Int64} {placeI : Int32} {placeJ : Int32} {formA : Int64} {formB : Int64} {formC : Int64}  {v0 : Int32} {v1 : Nat → Int64} {r : (Nat → Int64)} (h : itX (m_conditions_L2 n p rows gathered gather) (v0, v1) = some r) (hr : aW K (mw h0 hp n p count sorts rows hand gathered gather paired pairA pairB ideal draft r one two turned placeI placeJ formA formB formC) sz 0 0 110 [(0, .ref h0)] []) : aW K (mw h0 hp n p count sorts rows hand gathered gather paired pairA pairB ideal draft v1 one two turned placeI placeJ formA formB formC) sz 0 0 2 [(0, .ref h0), (1, .int v0)] [] := by
  refine it_walk (f := m_conditions_L2 n p rows gathered gather) (P := fun s => aW K (mw h0 hp n p count sorts rows hand gathered gather paired pairA pairB ideal draft s.2 one two turned placeI placeJ formA formB formC) sz 0 0 2 [(0, .ref h0), (1, .int s.1)] []) (R := fun r => aW K (mw h0 hp n p count sorts rows hand gathered gather paired pairA pairB ideal draft r one two turned placeI placeJ formA formB formC) sz 0 0 110 [(0, .ref h0)] []) ?_ h hr
  clear h hr
  intro s x h kl kr
  unfold m_conditions_L2 at h
  refine r_iload_n C 1 rfl dX6_conditions_2 rfl ?_
  refine r_aload_n C 0 rfl dX6_conditions_3 rfl ?_
  refine m_g_gathered C dX6_conditions_4 ?_
  refine r_icmp_ge C (tgt := 110) dX6_conditions_7 (by decide) (fun hc => ?_) (fun hc => ?_)
  · replace h := br_p hc h
    refine r_lv [0] rfl ?_
    exact kr _ (sm_i h)
  · replace h := br_n hc h
    refine r_iconst C (v := 0) dX6_conditions_10 (by decide) ?_
    refine r_istore_n C (lv' := [(2, .int ((0 : Int32))), (0, .ref h0), (1, .int s.1)]) dX6_conditions_11 rfl (by decide) rfl ?_
    refine r_iconst C (v := 0) dX6_conditions_12 (by decide) ?_
    refine r_istore_n C (lv' := [(3, .int ((0 : Int32))), (2, .int ((0 : Int32))), (0, .ref h0), (1, .int s.1)]) dX6_conditions_13 rfl (by decide) rfl ?_
    refine r_lv [2, 3, 1, 0] rfl ?_
    obtain ⟨r10, qr10, h⟩ := bd_i h
    refine w_conditions_L14 C qr10 ?_
    refine r_iinc C (v := s.1 + 1) (lv' := [(1, .int (s.1 + 1)), (0, .ref h0)]) 1 rfl dX6_conditions_104 rfl (by decide) rfl ?_
    refine r_goto C (tgt := 2) dX6_conditions_107 (by decide) ?_
    refine r_lv [1, 0] rfl ?_
    exact kl _ (sm_i h)
set_option maxHeartbeats 4000000 in
set_option maxRecDepth 100000 in
theorem c_conditions {G : gT} {h0 : Nat} {hp : cH} {sz : Nat} {n : Int32} {p : Int64} {count : Int32} {sorts : Nat → Int32} {rows : Nat → Int64} {hand : Nat → Int64} {gathered : Int32} {gather : Nat → Int32} {paired : Int32} {pairA : Nat → Int32} {pairB : Nat → Int32} {ideal : Int32} {draft : Nat → Int64} {frame : Nat → Int64} {one : Nat → Int64} {two : Nat → Int64} {turned : Nat → Int64} {placeI : Int32} {placeJ : Int32} {formA : Int64} {formB : Int64} {formC : Int64}  {out : (Int32 × (Nat → Int64))} (h : m_conditions n p rows gathered gather frame  = some out) : aM G yX6_conditions cX6_conditions 7 (some .int) 4 76 0 0 [.ref h0] (mw h0 hp n p count sorts rows hand gathered gather paired pairA pairB ideal draft frame one two turned placeI placeJ formA formB formC) sz ((some (.int out.1), mw h0 hp n p count sorts rows hand gathered gather paired pairA pairB ideal draft out.2 one two turned placeI placeJ formA formB formC, sz) : oT) := by
  refine aM.of RX6 (by decide) rfl (Nat.le_of_ble_eq_true rfl) (fun K C => ?_)
  have hO : ((some (.int out.1), mw h0 hp n p count sorts rows hand gathered gather paired pairA pairB ideal draft out.2 one two turned placeI placeJ formA formB formC, sz) : oT) = ((some (.int out.1), mw h0 hp n p count sorts rows hand gathered gather paired pairA pairB ideal draft out.2 one two turned placeI placeJ formA formB formC, sz) : oT) := rfl
  refine r_lve (lv' := [(0, .ref h0)]) rfl ?_
  unfold m_conditions at h
  refine r_iconst C (v := 0) dX6_conditions_0 (by decide) ?_
  refine r_istore_n C (lv' := [(1, .int ((0 : Int32))), (0, .ref h0)]) dX6_conditions_1 rfl (by decide) rfl ?_
  refine r_lv [1, 0] rfl ?_
  obtain ⟨r11, qr11, h⟩ := bd_i h
  refine w_conditions_L2 C qr11 ?_
  refine r_aload_n C 0 rfl dX6_conditions_110 rfl ?_
  obtain ⟨r12, qr12, h⟩ := bd_i h
  refine q_callV C 0 0 0 (c_side qr12) rfl mw_self rfl ok_side in_side lk6_111 rfl (Nat.le_of_ble_eq_true rfl) ⟨Nat.le_of_ble_eq_true rfl, Nat.le_of_ble_eq_true rfl⟩ dX6_conditions_111 rfl rfl ?_
  refine r_aload_n C 0 rfl dX6_conditions_114 rfl ?_
  obtain ⟨r13, qr13, h⟩ := bd_i h
  refine q_callV C 1 0 0 (c_side qr13) rfl mw_self rfl ok_side in_side lk6_111 rfl (Nat.le_of_ble_eq_true rfl) ⟨Nat.le_of_ble_eq_true rfl, Nat.le_of_ble_eq_true rfl⟩ dX6_conditions_115 rfl rfl ?_
  refine r_iconst C (v := 1) dX6_conditions_118 (by decide) ?_
  refine r_iadd C dX6_conditions_119 ?_
  refine r_imul C dX6_conditions_120 ?_
  refine r_iconst C (v := 2) dX6_conditions_121 (by decide) ?_
  refine r_idiv C dX6_conditions_122 (by decide) ?_
  refine r_istore_n C (lv' := [(1, .int ((r12 * (r13 + ((1 : Int32)))) / ((2 : Int32)))), (0, .ref h0)]) dX6_conditions_123 rfl (by decide) rfl ?_
  refine r_aload_n C 1 rfl dX6_conditions_124 rfl ?_
  refine r_aload_n C 1 rfl dX6_conditions_125 rfl ?_
  refine m_g_gathered C dX6_conditions_126 ?_
  refine r_iload_n C 0 rfl dX6_conditions_129 rfl ?_
  refine r_iload_n C 0 rfl dX6_conditions_130 rfl ?_
  obtain ⟨r14, qr14, h⟩ := bd_i h
  refine q_callV C 0 0 0 (c_reduce qr14) rfl mw_self rfl ok_reduce in_reduce lk6_115 rfl (Nat.le_of_ble_eq_true rfl) ⟨Nat.le_of_ble_eq_true rfl, Nat.le_of_ble_eq_true rfl⟩ dX6_conditions_131 rfl rfl ?_
  obtain rfl := sm_i h
  exact r_ireturn C (Eq.symm hO) dX6_conditions_134
noncomputable def m_quadric_L28 (frame : Nat → Int64) (l1 : Int32) (s : Int32) : Option (Int32 ⊕ Int32) := if (l1 - ((1 : Int32))) ≤ s then (some (.inr s)) else ((m_at frame s s).bind fun r4 => if r4 = ((1 : Int64)) then (some (.inl (s + 1))) else (some (.inr s)))
noncomputable def m_quadric_L74 (n : Int32) (p : Int64) (frame : Nat → Int64) (l2 : Int32) (l4 : Int32) (s : (Int32 × Int32 × (Nat → Int64))) : Option ((Int32 × Int32 × (Nat → Int64)) ⊕ (Int32 × (Nat → Int64))) := (m_side n).bind fun r8 => if r8 ≤ s.2.1 then (some (.inr (s.1, s.2.2))) else (if s.1 = l2 then ((m_side n).bind fun r15 => if gi ((l4 * r15) + s.2.1) 16 then (m_side n).bind fun r16 => if gi ((s.2.1 * r16) + l4) 16 then some (.inl (s.1 + 1, s.2.1 + 1, vp_updL (vp_updL s.2.2 ((l4 * r15) + s.2.1).toNatClampNeg ((1 : Int64))) ((s.2.1 * r16) + l4).toNatClampNeg ((1 : Int64)))) else none else none) else (if l2 ≤ s.1 then ((m_side n).bind fun r9 => if gi ((l4 * r9) + s.2.1) 16 then (m_side n).bind fun r10 => if gi ((s.2.1 * r10) + l4) 16 then some (.inl (s.1 + 1, s.2.1 + 1, vp_updL (vp_updL s.2.2 ((l4 * r9) + s.2.1).toNatClampNeg ((0 : Int64))) ((s.2.1 * r10) + l4).toNatClampNeg ((0 : Int64)))) else none else none) else ((m_at frame s.1 l2).bind fun r11 => (m_less p ((0 : Int64)) r11).bind fun r12 => (m_side n).bind fun r13 => if gi ((l4 * r13) + s.2.1) 16 then (m_side n).bind fun r14 => if gi ((s.2.1 * r14) + l4) 16 then some (.inl (s.1 + 1, s.2.1 + 1, vp_updL (vp_updL s.2.2 ((l4 * r13) + s.2.1).toNatClampNeg r12) ((s.2.1 * r14) + l4).toNatClampNeg r12)) else none else none)))
noncomputable def m_quadric_L61 (n : Int32) (p : Int64) (frame : Nat → Int64) (l2 : Int32) (s : (Int32 × Int32 × (Nat → Int64))) : Option ((Int32 × Int32 × (Nat → Int64)) ⊕ (Nat → Int64)) := (m_side n).bind fun r7 => if r7 ≤ s.2.1 then (some (.inr s.2.2)) else ((itX (m_quadric_L74 n p frame l2 s.2.1) (s.1, s.2.1, s.2.2)).bind fun r17 => some (.inl (r17.1, s.2.1 + 1, r17.2)))
noncomputable def m_quadric_J52 (n : Int32) (p : Int64) (count : Int32) (sorts : Nat → Int32) (rows : Nat → Int64) (draft : Nat → Int64) (frame : Nat → Int64) (l2 : Int32) : Option (Int32 × Int32 × (Nat → Int32) × (Nat → Int64) × (Nat → Int64) × (Nat → Int64)) := (m_clear draft).bind fun r6 => (itX (m_quadric_L61 n p frame l2) ((0 : Int32), (0 : Int32), r6)).bind fun r18 => (m_made n p count sorts rows r18 ((4 : Int32))).bind fun r19 => some (r19.1, r19.2.1, r19.2.2.1, r19.2.2.2.1, r19.2.2.2.2, frame)
noncomputable def m_quadric (n : Int32) (p : Int64) (count : Int32) (sorts : Nat → Int32) (rows : Nat → Int64) (gathered : Int32) (gather : Nat → Int32) (draft : Nat → Int64) (frame : Nat → Int64)  : Option (Int32 × Int32 × (Nat → Int32) × (Nat → Int64) × (Nat → Int64) × (Nat → Int64)) := (m_side n).bind fun r1 => (m_side n).bind fun r2 => (m_conditions n p rows gathered gather frame).bind fun r3 => if r3.1 = (((r1 * (r2 + ((1 : Int32)))) / ((2 : Int32))) - ((1 : Int32))) then ((itX (m_quadric_L28 r3.2 ((r1 * (r2 + ((1 : Int32)))) / ((2 : Int32)))) ((0 : Int32))).bind fun r5 => m_quadric_J52 n p count sorts rows draft r3.2 r5) else (some ((-1 : Int32), count, sorts, rows, draft, r3.2))
set_option maxHeartbeats 4000000 in
set_option maxRecDepth 100000 in
theorem w_quadric_L28 {K : kT} {O : oT} (C : aC K cX6_quadric RX6 "quadric" 5 94 0 0 8 (some .int) O) {h0 : Nat} {hp : cH} {sz : Nat} {n : Int32} {p : Int64} {count : Int32} {sorts : Nat → Int32} {rows : Nat → Int64} {hand : Nat → Int64} {gathered : Int32} {gather : Nat → Int32} {paired : Int32} {pairA : Nat → Int32} {pairB : Nat → Int32} {ideal : Int32} {draft : Nat → Int64} {frame : Nat → Int64} {one : Nat → Int64} {two : Nat → Int64} {turned : Nat → Int64} {placeI : Int32} {placeJ : Int32} {formA : Int64} {formB : Int64} {formC : Int64} {l1 : Int32} {v0 : Int32} {r : Int32} (h : itX (m_quadric_L28 frame l1) v0 = some r) (hr : aW K (mw h0 hp n p count sorts rows hand gathered gather paired pairA pairB ideal draft frame one two turned placeI placeJ formA formB formC) sz 0 0 52 [(0, .ref h0), (2, .int r)] []) : aW K (mw h0 hp n p count sorts rows hand gathered gather paired pairA pairB ideal draft frame one two turned placeI placeJ formA formB formC) sz 0 0 28 [(0, .ref h0), (1, .int l1), (2, .int v0)] [] := by
  refine it_walk (f := m_quadric_L28 frame l1) (P := fun s => aW K (mw h0 hp n p count sorts rows hand gathered gather paired pairA pairB ideal draft frame one two turned placeI placeJ formA formB formC) sz 0 0 28 [(0, .ref h0), (1, .int l1), (2, .int s)] []) (R := fun r => aW K (mw h0 hp n p count sorts rows hand gathered gather paired pairA pairB ideal draft frame one two turned placeI placeJ formA formB formC) sz 0 0 52 [(0, .ref h0), (2, .int r)] []) ?_ h hr
  clear h hr
  intro s x h kl kr
  unfold m_quadric_L28 at h
  refine r_iload_n C 2 rfl dX6_quadric_28 rfl ?_
  refine r_iload_n C 1 rfl dX6_quadric_29 rfl ?_
  refine r_iconst C (v := 1) dX6_quadric_30 (by decide) ?_
  refine r_isub C dX6_quadric_31 ?_
  refine r_icmp_ge C (tgt := 52) dX6_quadric_32 (by decide) (fun hc => ?_) (fun hc => ?_)
  · replace h := br_p hc h
    refine r_lv [0, 2] rfl ?_
    exact kr _ (sm_i h)
  · replace h := br_n hc h
    refine r_aload_n C 0 rfl dX6_quadric_35 rfl ?_
    refine r_iload_n C 2 rfl dX6_quadric_36 rfl ?_
    refine r_iload_n C 2 rfl dX6_quadric_37 rfl ?_
    obtain ⟨r4, qr4, h⟩ := bd_i h
    refine q_callV C 0 0 0 (c_at qr4) rfl mw_self rfl ok_at in_at lk6_94 rfl (Nat.le_of_ble_eq_true rfl) ⟨Nat.le_of_ble_eq_true rfl, Nat.le_of_ble_eq_true rfl⟩ dX6_quadric_38 rfl rfl ?_
    refine r_lconst C (v := 1) dX6_quadric_41 (by decide) ?_
    refine r_lne C (tgt := 52) dX6_quadric_42 dX6_quadric_43 (by decide) (fun hc => ?_) (fun hc => ?_)
    · replace h := br_n hc h
      refine r_lv [0, 2] rfl ?_
      exact kr _ (sm_i h)
    · replace h := br_p hc h
      refine r_iinc C (v := s + 1) (lv' := [(2, .int (s + 1)), (0, .ref h0), (1, .int l1)]) 2 rfl dX6_quadric_46 rfl (by decide) rfl ?_
      refine r_goto C (tgt := 28) dX6_quadric_49 (by decide) ?_
      refine r_lv [1, 2, 0] rfl ?_
      exact kl _ (sm_i h)
set_option maxHeartbeats 4000000 in
set_option maxRecDepth 100000 in
theorem w_quadric_L74 {K : kT} {O : oT} (C : aC K cX6_quadric RX6 "quadric" 5 94 0 0 8 (some .int) O) {h0 : Nat} {hp : cH} {sz : Nat} {n : Int32} {p : Int64} {count : Int32} {sorts : Nat → Int32} {rows : Nat → Int64} {hand : Nat → Int64} {gathered : Int32} {gather : Nat → Int32} {paired : Int32} {pairA : Nat → Int32} {pairB : Nat → Int32} {ideal : Int32} {frame : Nat → Int64} {one : Nat → Int64} {two : Nat → Int64} {turned : Nat → Int64} {placeI : Int32} {placeJ : Int32} {formA : Int64} {formB : Int64} {formC : Int64} {l2 : Int32} {l4 : Int32} {v0 : Int32} {v1 : Int32} {v2 : Nat → Int64} {r : (Int32 × (Nat → Int64))} (h : itX (m_quadric_L74 n p frame l2 l4) (v0, v1, v2) = some r) (hr : aW K (mw h0 hp n p count sorts rows hand gathered gather paired pairA pairB ideal r.2 frame one two turned placeI placeJ formA formB formC) sz 0 0 157 [(0, .ref h0), (2, .int l2), (3, .int r.1), (4, .int l4)] []) : aW K (mw h0 hp n p count sorts rows hand gathered gather paired pairA pairB ideal v2 frame one two turned placeI placeJ formA formB formC) sz 0 0 74 [(0, .ref h0), (2, .int l2), (3, .int v0), (4, .int l4), (5, .int v1)] [] := by
  refine it_walk (f := m_quadric_L74 n p frame l2 l4) (P := fun s => aW K (mw h0 hp n p count sorts rows hand gathered gather paired pairA pairB ideal s.2.2 frame one two turned placeI placeJ formA formB formC) sz 0 0 74 [(0, .ref h0), (2, .int l2), (3, .int s.1), (4, .int l4), (5, .int s.2.1)] []) (R := fun r => aW K (mw h0 hp n p count sorts rows hand gathered gather paired pairA pairB ideal r.2 frame one two turned placeI placeJ formA formB formC) sz 0 0 157 [(0, .ref h0), (2, .int l2), (3, .int r.1), (4, .int l4)] []) ?_ h hr
  clear h hr
  intro s x h kl kr
  unfold m_quadric_L74 at h
  refine r_iload C 4 rfl dX6_quadric_74 ?_
  refine r_aload_n C 0 rfl dX6_quadric_76 rfl ?_
  obtain ⟨r8, qr8, h⟩ := bd_i h
  refine q_callV C 1 0 0 (c_side qr8) rfl mw_self rfl ok_side in_side lk6_111 rfl (Nat.le_of_ble_eq_true rfl) ⟨Nat.le_of_ble_eq_true rfl, Nat.le_of_ble_eq_true rfl⟩ dX6_quadric_77 rfl rfl ?_
  refine r_icmp_ge C (tgt := 157) dX6_quadric_80 (by decide) (fun hc => ?_) (fun hc => ?_)
  · replace h := br_p hc h
    refine r_lv [0, 1, 2, 3] rfl ?_
    exact kr _ (sm_i h)
  · replace h := br_n hc h
    refine r_iload_n C 2 rfl dX6_quadric_83 rfl ?_
    refine r_iload_n C 1 rfl dX6_quadric_84 rfl ?_
    refine r_icmp_ne C (tgt := 92) dX6_quadric_85 (by decide) (fun hc => ?_) (fun hc => ?_)
    · replace h := br_n hc h
      refine r_iload_n C 2 rfl dX6_quadric_92 rfl ?_
      refine r_iload_n C 1 rfl dX6_quadric_93 rfl ?_
      refine r_icmp_ge C (tgt := 111) dX6_quadric_94 (by decide) (fun hc => ?_) (fun hc => ?_)
      · replace h := br_p hc h
        refine r_lconst C (v := 0) dX6_quadric_111 (by decide) ?_
        refine r_lstore C (lv' := [(6, .long ((0 : Int64))), (0, .ref h0), (2, .int l2), (3, .int s.1), (4, .int l4), (5, .int s.2.1)]) dX6_quadric_112 (by decide) rfl ?_
        refine r_aload_n C 1 rfl dX6_quadric_114 rfl ?_
        refine m_g_draft C dX6_quadric_115 ?_
        refine r_iload C 4 rfl dX6_quadric_118 ?_
        refine r_aload_n C 1 rfl dX6_quadric_120 rfl ?_
        obtain ⟨r9, qr9, h⟩ := bd_i h
        refine q_callV C 2 0 0 (c_side qr9) rfl mw_self rfl ok_side in_side lk6_111 rfl (Nat.le_of_ble_eq_true rfl) ⟨Nat.le_of_ble_eq_true rfl, Nat.le_of_ble_eq_true rfl⟩ dX6_quadric_121 rfl rfl ?_
        refine r_imul C dX6_quadric_124 ?_
        refine r_iload C 5 rfl dX6_quadric_125 ?_
        refine r_iadd C dX6_quadric_127 ?_
        refine r_lload C 0 rfl dX6_quadric_128 ?_
        obtain ⟨hi, h⟩ := gd_t h
        refine m_s_draft C hi dX6_quadric_130 ?_
        refine r_aload_n C 1 rfl dX6_quadric_131 rfl ?_
        refine m_g_draft C dX6_quadric_132 ?_
        refine r_iload C 5 rfl dX6_quadric_135 ?_
        refine r_aload_n C 1 rfl dX6_quadric_137 rfl ?_
        obtain ⟨r10, qr10, h⟩ := bd_i h
        refine q_callV C 2 0 0 (c_side qr10) rfl mw_self rfl ok_side in_side lk6_111 rfl (Nat.le_of_ble_eq_true rfl) ⟨Nat.le_of_ble_eq_true rfl, Nat.le_of_ble_eq_true rfl⟩ dX6_quadric_138 rfl rfl ?_
        refine r_imul C dX6_quadric_141 ?_
        refine r_iload C 4 rfl dX6_quadric_142 ?_
        refine r_iadd C dX6_quadric_144 ?_
        refine r_lload C 0 rfl dX6_quadric_145 ?_
        obtain ⟨hi, h⟩ := gd_t h
        refine m_s_draft C hi dX6_quadric_147 ?_
        refine r_iinc C (v := s.1 + 1) (lv' := [(3, .int (s.1 + 1)), (6, .long ((0 : Int64))), (0, .ref h0), (2, .int l2), (4, .int l4), (5, .int s.2.1)]) 3 rfl dX6_quadric_148 rfl (by decide) rfl ?_
        refine r_iinc C (v := s.2.1 + 1) (lv' := [(5, .int (s.2.1 + 1)), (3, .int (s.1 + 1)), (6, .long ((0 : Int64))), (0, .ref h0), (2, .int l2), (4, .int l4)]) 5 rfl dX6_quadric_151 rfl (by decide) rfl ?_
        refine r_goto C (tgt := 74) dX6_quadric_154 (by decide) ?_
        refine r_lv [3, 4, 1, 5, 0] rfl ?_
        exact kl _ (sm_i h)
      · replace h := br_n hc h
        refine r_aload_n C 0 rfl dX6_quadric_97 rfl ?_
        refine r_lconst C (v := 0) dX6_quadric_98 (by decide) ?_
        refine r_aload_n C 0 rfl dX6_quadric_99 rfl ?_
        refine r_iload_n C 2 rfl dX6_quadric_100 rfl ?_
        refine r_iload_n C 1 rfl dX6_quadric_101 rfl ?_
        obtain ⟨r11, qr11, h⟩ := bd_i h
        refine q_callV C 3 0 0 (c_at qr11) rfl mw_self rfl ok_at in_at lk6_94 rfl (Nat.le_of_ble_eq_true rfl) ⟨Nat.le_of_ble_eq_true rfl, Nat.le_of_ble_eq_true rfl⟩ dX6_quadric_102 rfl rfl ?_
        obtain ⟨r12, qr12, h⟩ := bd_i h
        refine q_callV C 0 0 0 (c_less qr12) rfl mw_self rfl ok_less in_less lk6_105 rfl (Nat.le_of_ble_eq_true rfl) ⟨Nat.le_of_ble_eq_true rfl, Nat.le_of_ble_eq_true rfl⟩ dX6_quadric_105 rfl rfl ?_
        refine r_goto C (tgt := 112) dX6_quadric_108 (by decide) ?_
        refine r_lstore C (lv' := [(6, .long r12), (0, .ref h0), (2, .int l2), (3, .int s.1), (4, .int l4), (5, .int s.2.1)]) dX6_quadric_112 (by decide) rfl ?_
        refine r_aload_n C 1 rfl dX6_quadric_114 rfl ?_
        refine m_g_draft C dX6_quadric_115 ?_
        refine r_iload C 4 rfl dX6_quadric_118 ?_
        refine r_aload_n C 1 rfl dX6_quadric_120 rfl ?_
        obtain ⟨r13, qr13, h⟩ := bd_i h
        refine q_callV C 2 0 0 (c_side qr13) rfl mw_self rfl ok_side in_side lk6_111 rfl (Nat.le_of_ble_eq_true rfl) ⟨Nat.le_of_ble_eq_true rfl, Nat.le_of_ble_eq_true rfl⟩ dX6_quadric_121 rfl rfl ?_
        refine r_imul C dX6_quadric_124 ?_
        refine r_iload C 5 rfl dX6_quadric_125 ?_
        refine r_iadd C dX6_quadric_127 ?_
        refine r_lload C 0 rfl dX6_quadric_128 ?_
        obtain ⟨hi, h⟩ := gd_t h
        refine m_s_draft C hi dX6_quadric_130 ?_
        refine r_aload_n C 1 rfl dX6_quadric_131 rfl ?_
        refine m_g_draft C dX6_quadric_132 ?_
        refine r_iload C 5 rfl dX6_quadric_135 ?_
        refine r_aload_n C 1 rfl dX6_quadric_137 rfl ?_
        obtain ⟨r14, qr14, h⟩ := bd_i h
        refine q_callV C 2 0 0 (c_side qr14) rfl mw_self rfl ok_side in_side lk6_111 rfl (Nat.le_of_ble_eq_true rfl) ⟨Nat.le_of_ble_eq_true rfl, Nat.le_of_ble_eq_true rfl⟩ dX6_quadric_138 rfl rfl ?_
        refine r_imul C dX6_quadric_141 ?_
        refine r_iload C 4 rfl dX6_quadric_142 ?_
        refine r_iadd C dX6_quadric_144 ?_
        refine r_lload C 0 rfl dX6_quadric_145 ?_
        obtain ⟨hi, h⟩ := gd_t h
        refine m_s_draft C hi dX6_quadric_147 ?_
        refine r_iinc C (v := s.1 + 1) (lv' := [(3, .int (s.1 + 1)), (6, .long r12), (0, .ref h0), (2, .int l2), (4, .int l4), (5, .int s.2.1)]) 3 rfl dX6_quadric_148 rfl (by decide) rfl ?_
        refine r_iinc C (v := s.2.1 + 1) (lv' := [(5, .int (s.2.1 + 1)), (3, .int (s.1 + 1)), (6, .long r12), (0, .ref h0), (2, .int l2), (4, .int l4)]) 5 rfl dX6_quadric_151 rfl (by decide) rfl ?_
        refine r_goto C (tgt := 74) dX6_quadric_154 (by decide) ?_
        refine r_lv [3, 4, 1, 5, 0] rfl ?_
        exact kl _ (sm_i h)
    · replace h := br_p hc h
      refine r_lconst C (v := 1) dX6_quadric_88 (by decide) ?_
      refine r_goto C (tgt := 112) dX6_quadric_89 (by decide) ?_
      refine r_lstore C (lv' := [(6, .long ((1 : Int64))), (0, .ref h0), (2, .int l2), (3, .int s.1), (4, .int l4), (5, .int s.2.1)]) dX6_quadric_112 (by decide) rfl ?_
      refine r_aload_n C 1 rfl dX6_quadric_114 rfl ?_
      refine m_g_draft C dX6_quadric_115 ?_
      refine r_iload C 4 rfl dX6_quadric_118 ?_
      refine r_aload_n C 1 rfl dX6_quadric_120 rfl ?_
      obtain ⟨r15, qr15, h⟩ := bd_i h
      refine q_callV C 2 0 0 (c_side qr15) rfl mw_self rfl ok_side in_side lk6_111 rfl (Nat.le_of_ble_eq_true rfl) ⟨Nat.le_of_ble_eq_true rfl, Nat.le_of_ble_eq_true rfl⟩ dX6_quadric_121 rfl rfl ?_
      refine r_imul C dX6_quadric_124 ?_
      refine r_iload C 5 rfl dX6_quadric_125 ?_
      refine r_iadd C dX6_quadric_127 ?_
      refine r_lload C 0 rfl dX6_quadric_128 ?_
      obtain ⟨hi, h⟩ := gd_t h
      refine m_s_draft C hi dX6_quadric_130 ?_
      refine r_aload_n C 1 rfl dX6_quadric_131 rfl ?_
      refine m_g_draft C dX6_quadric_132 ?_
      refine r_iload C 5 rfl dX6_quadric_135 ?_
      refine r_aload_n C 1 rfl dX6_quadric_137 rfl ?_
      obtain ⟨r16, qr16, h⟩ := bd_i h
      refine q_callV C 2 0 0 (c_side qr16) rfl mw_self rfl ok_side in_side lk6_111 rfl (Nat.le_of_ble_eq_true rfl) ⟨Nat.le_of_ble_eq_true rfl, Nat.le_of_ble_eq_true rfl⟩ dX6_quadric_138 rfl rfl ?_
      refine r_imul C dX6_quadric_141 ?_
      refine r_iload C 4 rfl dX6_quadric_142 ?_
      refine r_iadd C dX6_quadric_144 ?_
      refine r_lload C 0 rfl dX6_quadric_145 ?_
      obtain ⟨hi, h⟩ := gd_t h
      refine m_s_draft C hi dX6_quadric_147 ?_
      refine r_iinc C (v := s.1 + 1) (lv' := [(3, .int (s.1 + 1)), (6, .long ((1 : Int64))), (0, .ref h0), (2, .int l2), (4, .int l4), (5, .int s.2.1)]) 3 rfl dX6_quadric_148 rfl (by decide) rfl ?_
      refine r_iinc C (v := s.2.1 + 1) (lv' := [(5, .int (s.2.1 + 1)), (3, .int (s.1 + 1)), (6, .long ((1 : Int64))), (0, .ref h0), (2, .int l2), (4, .int l4)]) 5 rfl dX6_quadric_151 rfl (by decide) rfl ?_
      refine r_goto C (tgt := 74) dX6_quadric_154 (by decide) ?_
      refine r_lv [3, 4, 1, 5, 0] rfl ?_
      exact kl _ (sm_i h)
set_option maxHeartbeats 4000000 in
set_option maxRecDepth 100000 in
theorem w_quadric_L61 {K : kT} {O : oT} (C : aC K cX6_quadric RX6 "quadric" 5 94 0 0 8 (some .int) O) {h0 : Nat} {hp : cH} {sz : Nat} {n : Int32} {p : Int64} {count : Int32} {sorts : Nat → Int32} {rows : Nat → Int64} {hand : Nat → Int64} {gathered : Int32} {gather : Nat → Int32} {paired : Int32} {pairA : Nat → Int32} {pairB : Nat → Int32} {ideal : Int32} {frame : Nat → Int64} {one : Nat → Int64} {two : Nat → Int64} {turned : Nat → Int64} {placeI : Int32} {placeJ : Int32} {formA : Int64} {formB : Int64} {formC : Int64} {l2 : Int32} {v0 : Int32} {v1 : Int32} {v2 : Nat → Int64} {r : (Nat → Int64)} (h : itX (m_quadric_L61 n p frame l2) (v0, v1, v2) = some r) (hr : aW K (mw h0 hp n p count sorts rows hand gathered gather paired pairA pairB ideal r frame one two turned placeI placeJ formA formB formC) sz 0 0 163 [(0, .ref h0)] []) : aW K (mw h0 hp n p count sorts rows hand gathered gather paired pairA pairB ideal v2 frame one two turned placeI placeJ formA formB formC) sz 0 0 61 [(0, .ref h0), (2, .int l2), (3, .int v0), (4, .int v1)] [] := by
  refine it_walk (f := m_quadric_L61 n p frame l2) (P := fun s => aW K (mw h0 hp n p count sorts rows hand gathered gather paired pairA pairB ideal s.2.2 frame one two turned placeI placeJ formA formB formC) sz 0 0 61 [(0, .ref h0), (2, .int l2), (3, .int s.1), (4, .int s.2.1)] []) (R := fun r => aW K (mw h0 hp n p count sorts rows hand gathered gather paired pairA pairB ideal r frame one two turned placeI placeJ formA formB formC) sz 0 0 163 [(0, .ref h0)] []) ?_ h hr
  clear h hr
  intro s x h kl kr
  unfold m_quadric_L61 at h
  refine r_iload C 3 rfl dX6_quadric_61 ?_
  refine r_aload_n C 0 rfl dX6_quadric_63 rfl ?_
  obtain ⟨r7, qr7, h⟩ := bd_i h
  refine q_callV C 1 0 0 (c_side qr7) rfl mw_self rfl ok_side in_side lk6_111 rfl (Nat.le_of_ble_eq_true rfl) ⟨Nat.le_of_ble_eq_true rfl, Nat.le_of_ble_eq_true rfl⟩ dX6_quadric_64 rfl rfl ?_
  refine r_icmp_ge C (tgt := 163) dX6_quadric_67 (by decide) (fun hc => ?_) (fun hc => ?_)
  · replace h := br_p hc h
    refine r_lv [0] rfl ?_
    exact kr _ (sm_i h)
  · replace h := br_n hc h
    refine r_iload C 3 rfl dX6_quadric_70 ?_
    refine r_istore C (lv' := [(5, .int s.2.1), (0, .ref h0), (2, .int l2), (3, .int s.1), (4, .int s.2.1)]) dX6_quadric_72 (by decide) rfl ?_
    refine r_lv [1, 2, 3, 4, 0] rfl ?_
    obtain ⟨r17, qr17, h⟩ := bd_i h
    refine w_quadric_L74 C qr17 ?_
    refine r_iinc C (v := s.2.1 + 1) (lv' := [(4, .int (s.2.1 + 1)), (0, .ref h0), (2, .int l2), (3, .int r17.1)]) 3 rfl dX6_quadric_157 rfl (by decide) rfl ?_
    refine r_goto C (tgt := 61) dX6_quadric_160 (by decide) ?_
    refine r_lv [1, 2, 3, 0] rfl ?_
    exact kl _ (sm_i h)
set_option maxHeartbeats 4000000 in
set_option maxRecDepth 100000 in
theorem w_quadric_J52 {K : kT} {O : oT} (C : aC K cX6_quadric RX6 "quadric" 5 94 0 0 8 (some .int) O) {h0 : Nat} {hp : cH} {sz : Nat} {n : Int32} {p : Int64} {count : Int32} {sorts : Nat → Int32} {rows : Nat → Int64} {hand : Nat → Int64} {gathered : Int32} {gather : Nat → Int32} {paired : Int32} {pairA : Nat → Int32} {pairB : Nat → Int32} {ideal : Int32} {draft : Nat → Int64} {frame : Nat → Int64} {one : Nat → Int64} {two : Nat → Int64} {turned : Nat → Int64} {placeI : Int32} {placeJ : Int32} {formA : Int64} {formB : Int64} {formC : Int64} {l2 : Int32} {out : (Int32 × Int32 × (Nat → Int32) × (Nat → Int64) × (Nat → Int64) × (Nat → Int64))} (h : m_quadric_J52 n p count sorts rows draft frame l2 = some out) (hO : ((some (.int out.1), mw h0 hp n p out.2.1 out.2.2.1 out.2.2.2.1 hand gathered gather paired pairA pairB ideal out.2.2.2.2.1 out.2.2.2.2.2 one two turned placeI placeJ formA formB formC, sz) : oT) = O) : aW K (mw h0 hp n p count sorts rows hand gathered gather paired pairA pairB ideal draft frame one two turned placeI placeJ formA formB formC) sz 0 0 52 [(0, .ref h0), (2, .int l2)] [] := by
  unfold m_quadric_J52 at h
  refine r_aload_n C 0 rfl dX6_quadric_52 rfl ?_
  obtain ⟨r6, qr6, h⟩ := bd_i h
  refine q_callVv C 0 0 0 (c_clear qr6) rfl mw_self rfl ok_clear in_clear lk6_136 rfl (Nat.le_of_ble_eq_true rfl) ⟨Nat.le_of_ble_eq_true rfl, Nat.le_of_ble_eq_true rfl⟩ dX6_quadric_53 rfl rfl ?_
  refine r_iconst C (v := 0) dX6_quadric_56 (by decide) ?_
  refine r_istore_n C (lv' := [(3, .int ((0 : Int32))), (0, .ref h0), (2, .int l2)]) dX6_quadric_57 rfl (by decide) rfl ?_
  refine r_iconst C (v := 0) dX6_quadric_58 (by decide) ?_
  refine r_istore C (lv' := [(4, .int ((0 : Int32))), (3, .int ((0 : Int32))), (0, .ref h0), (2, .int l2)]) dX6_quadric_59 (by decide) rfl ?_
  refine r_lv [2, 3, 1, 0] rfl ?_
  obtain ⟨r18, qr18, h⟩ := bd_i h
  refine w_quadric_L61 C qr18 ?_
  refine r_aload_n C 0 rfl dX6_quadric_163 rfl ?_
  refine r_iconst C (v := 4) dX6_quadric_164 (by decide) ?_
  obtain ⟨r19, qr19, h⟩ := bd_i h
  refine q_callV C 0 0 0 (c_made qr19) rfl mw_self rfl ok_made in_made lk6_133 rfl (Nat.le_of_ble_eq_true rfl) ⟨Nat.le_of_ble_eq_true rfl, Nat.le_of_ble_eq_true rfl⟩ dX6_quadric_165 rfl rfl ?_
  obtain rfl := sm_i h
  exact r_ireturn C (Eq.symm hO) dX6_quadric_168
set_option maxHeartbeats 4000000 in
set_option maxRecDepth 100000 in
theorem c_quadric {G : gT} {h0 : Nat} {hp : cH} {sz : Nat} {n : Int32} {p : Int64} {count : Int32} {sorts : Nat → Int32} {rows : Nat → Int64} {hand : Nat → Int64} {gathered : Int32} {gather : Nat → Int32} {paired : Int32} {pairA : Nat → Int32} {pairB : Nat → Int32} {ideal : Int32} {draft : Nat → Int64} {frame : Nat → Int64} {one : Nat → Int64} {two : Nat → Int64} {turned : Nat → Int64} {placeI : Int32} {placeJ : Int32} {formA : Int64} {formB : Int64} {formC : Int64}  {out : (Int32 × Int32 × (Nat → Int32) × (Nat → Int64) × (Nat → Int64) × (Nat → Int64))} (h : m_quadric n p count sorts rows gathered gather draft frame  = some out) : aM G yX6_quadric cX6_quadric 8 (some .int) 5 94 0 0 [.ref h0] (mw h0 hp n p count sorts rows hand gathered gather paired pairA pairB ideal draft frame one two turned placeI placeJ formA formB formC) sz ((some (.int out.1), mw h0 hp n p out.2.1 out.2.2.1 out.2.2.2.1 hand gathered gather paired pairA pairB ideal out.2.2.2.2.1 out.2.2.2.2.2 one two turned placeI placeJ formA formB formC, sz) : oT) := by
  refine aM.of RX6 (by decide) rfl (Nat.le_of_ble_eq_true rfl) (fun K C => ?_)
  have hO : ((some (.int out.1), mw h0 hp n p out.2.1 out.2.2.1 out.2.2.2.1 hand gathered gather paired pairA pairB ideal out.2.2.2.2.1 out.2.2.2.2.2 one two turned placeI placeJ formA formB formC, sz) : oT) = ((some (.int out.1), mw h0 hp n p out.2.1 out.2.2.1 out.2.2.2.1 hand gathered gather paired pairA pairB ideal out.2.2.2.2.1 out.2.2.2.2.2 one two turned placeI placeJ formA formB formC, sz) : oT) := rfl
  refine r_lve (lv' := [(0, .ref h0)]) rfl ?_
  unfold m_quadric at h
  refine r_aload_n C 0 rfl dX6_quadric_0 rfl ?_
  obtain ⟨r1, qr1, h⟩ := bd_i h
  refine q_callV C 0 0 0 (c_side qr1) rfl mw_self rfl ok_side in_side lk6_111 rfl (Nat.le_of_ble_eq_true rfl) ⟨Nat.le_of_ble_eq_true rfl, Nat.le_of_ble_eq_true rfl⟩ dX6_quadric_1 rfl rfl ?_
  refine r_aload_n C 0 rfl dX6_quadric_4 rfl ?_
  obtain ⟨r2, qr2, h⟩ := bd_i h
  refine q_callV C 1 0 0 (c_side qr2) rfl mw_self rfl ok_side in_side lk6_111 rfl (Nat.le_of_ble_eq_true rfl) ⟨Nat.le_of_ble_eq_true rfl, Nat.le_of_ble_eq_true rfl⟩ dX6_quadric_5 rfl rfl ?_
  refine r_iconst C (v := 1) dX6_quadric_8 (by decide) ?_
  refine r_iadd C dX6_quadric_9 ?_
  refine r_imul C dX6_quadric_10 ?_
  refine r_iconst C (v := 2) dX6_quadric_11 (by decide) ?_
  refine r_idiv C dX6_quadric_12 (by decide) ?_
  refine r_istore_n C (lv' := [(1, .int ((r1 * (r2 + ((1 : Int32)))) / ((2 : Int32)))), (0, .ref h0)]) dX6_quadric_13 rfl (by decide) rfl ?_
  refine r_aload_n C 1 rfl dX6_quadric_14 rfl ?_
  obtain ⟨r3, qr3, h⟩ := bd_i h
  refine q_callV C 0 0 0 (c_conditions qr3) rfl mw_self rfl ok_conditions in_conditions lk6_250 rfl (Nat.le_of_ble_eq_true rfl) ⟨Nat.le_of_ble_eq_true rfl, Nat.le_of_ble_eq_true rfl⟩ dX6_quadric_15 rfl rfl ?_
  refine r_iload_n C 0 rfl dX6_quadric_18 rfl ?_
  refine r_iconst C (v := 1) dX6_quadric_19 (by decide) ?_
  refine r_isub C dX6_quadric_20 ?_
  refine r_icmp_eq C (tgt := 26) dX6_quadric_21 (by decide) (fun hc => ?_) (fun hc => ?_)
  · replace h := br_p hc h
    refine r_iconst C (v := 0) dX6_quadric_26 (by decide) ?_
    refine r_istore_n C (lv' := [(2, .int ((0 : Int32))), (1, .int ((r1 * (r2 + ((1 : Int32)))) / ((2 : Int32)))), (0, .ref h0)]) dX6_quadric_27 rfl (by decide) rfl ?_
    refine r_lv [2, 1, 0] rfl ?_
    obtain ⟨r5, qr5, h⟩ := bd_i h
    refine w_quadric_L28 C qr5 ?_
    refine r_lv [0, 1] rfl ?_
    exact w_quadric_J52 C h hO
  · replace h := br_n hc h
    refine r_iconst C (v := -1) dX6_quadric_24 (by decide) ?_
    obtain rfl := sm_i h
    exact r_ireturn C (Eq.symm hO) dX6_quadric_25
noncomputable def m_squareRank_L12 (n : Int32) (rows : Nat → Int64) (l1 : Int32) (l2 : Int32) (s : (Int32 × (Nat → Int64))) : Option ((Int32 × (Nat → Int64)) ⊕ (Nat → Int64)) := (m_side n).bind fun r2 => if r2 ≤ s.1 then (some (.inr s.2)) else ((m_side n).bind fun r3 => (m_of rows l1 ((l2 * r3) + s.1)).bind fun r4 => (m_set s.2 l2 s.1 r4).bind fun r5 => some (.inl (s.1 + 1, r5)))
noncomputable def m_squareRank_L2 (n : Int32) (rows : Nat → Int64) (l1 : Int32) (s : (Int32 × (Nat → Int64))) : Option ((Int32 × (Nat → Int64)) ⊕ (Nat → Int64)) := (m_side n).bind fun r1 => if r1 ≤ s.1 then (some (.inr s.2)) else ((itX (m_squareRank_L12 n rows l1 s.1) ((0 : Int32), s.2)).bind fun r6 => some (.inl (s.1 + 1, r6)))
noncomputable def m_squareRank (n : Int32) (p : Int64) (rows : Nat → Int64) (frame : Nat → Int64) (x1 : Int32) : Option (Int32 × (Nat → Int64)) := (itX (m_squareRank_L2 n rows x1) ((0 : Int32), frame)).bind fun r7 => (m_side n).bind fun r8 => (m_side n).bind fun r9 => (m_side n).bind fun r10 => (m_reduce p r7 r8 r9 r10).bind fun r11 => some (r11.1, r11.2)
set_option maxHeartbeats 4000000 in
set_option maxRecDepth 100000 in
theorem w_squareRank_L12 {K : kT} {O : oT} (C : aC K cX6_squareRank RX6 "squareRank" 4 76 0 0 4 (some .int) O) {h0 : Nat} {hp : cH} {sz : Nat} {n : Int32} {p : Int64} {count : Int32} {sorts : Nat → Int32} {rows : Nat → Int64} {hand : Nat → Int64} {gathered : Int32} {gather : Nat → Int32} {paired : Int32} {pairA : Nat → Int32} {pairB : Nat → Int32} {ideal : Int32} {draft : Nat → Int64} {one : Nat → Int64} {two : Nat → Int64} {turned : Nat → Int64} {placeI : Int32} {placeJ : Int32} {formA : Int64} {formB : Int64} {formC : Int64} {l1 : Int32} {l2 : Int32} {v0 : Int32} {v1 : Nat → Int64} {r : (Nat → Int64)} (h : itX (m_squareRank_L12 n rows l1 l2) (v0, v1) = some r) (hr : aW K (mw h0 hp n p count sorts rows hand gathered gather paired pairA pairB ideal draft r one two turned placeI placeJ formA formB formC) sz 0 0 45 [(0, .ref h0), (1, .int l1), (2, .int l2)] []) : aW K (mw h0 hp n p count sorts rows hand gathered gather paired pairA pairB ideal draft v1 one two turned placeI placeJ formA formB formC) sz 0 0 12 [(0, .ref h0), (1, .int l1), (2, .int l2), (3, .int v0)] [] := by
  refine it_walk (f := m_squareRank_L12 n rows l1 l2) (P := fun s => aW K (mw h0 hp n p count sorts rows hand gathered gather paired pairA pairB ideal draft s.2 one two turned placeI placeJ formA formB formC) sz 0 0 12 [(0, .ref h0), (1, .int l1), (2, .int l2), (3, .int s.1)] []) (R := fun r => aW K (mw h0 hp n p count sorts rows hand gathered gather paired pairA pairB ideal draft r one two turned placeI placeJ formA formB formC) sz 0 0 45 [(0, .ref h0), (1, .int l1), (2, .int l2)] []) ?_ h hr
  clear h hr
  intro s x h kl kr
  unfold m_squareRank_L12 at h
  refine r_iload_n C 3 rfl dX6_squareRank_12 rfl ?_
  refine r_aload_n C 0 rfl dX6_squareRank_13 rfl ?_
  obtain ⟨r2, qr2, h⟩ := bd_i h
  refine q_callV C 1 0 0 (c_side qr2) rfl mw_self rfl ok_side in_side lk6_111 rfl (Nat.le_of_ble_eq_true rfl) ⟨Nat.le_of_ble_eq_true rfl, Nat.le_of_ble_eq_true rfl⟩ dX6_squareRank_14 rfl rfl ?_
  refine r_icmp_ge C (tgt := 45) dX6_squareRank_17 (by decide) (fun hc => ?_) (fun hc => ?_)
  · replace h := br_p hc h
    refine r_lv [0, 1, 2] rfl ?_
    exact kr _ (sm_i h)
  · replace h := br_n hc h
    refine r_aload_n C 0 rfl dX6_squareRank_20 rfl ?_
    refine r_iload_n C 2 rfl dX6_squareRank_21 rfl ?_
    refine r_iload_n C 3 rfl dX6_squareRank_22 rfl ?_
    refine r_aload_n C 0 rfl dX6_squareRank_23 rfl ?_
    refine r_iload_n C 1 rfl dX6_squareRank_24 rfl ?_
    refine r_iload_n C 2 rfl dX6_squareRank_25 rfl ?_
    refine r_aload_n C 0 rfl dX6_squareRank_26 rfl ?_
    obtain ⟨r3, qr3, h⟩ := bd_i h
    refine q_callV C 6 0 0 (c_side qr3) rfl mw_self rfl ok_side in_side lk6_111 rfl (Nat.le_of_ble_eq_true rfl) ⟨Nat.le_of_ble_eq_true rfl, Nat.le_of_ble_eq_true rfl⟩ dX6_squareRank_27 rfl rfl ?_
    refine r_imul C dX6_squareRank_30 ?_
    refine r_iload_n C 3 rfl dX6_squareRank_31 rfl ?_
    refine r_iadd C dX6_squareRank_32 ?_
    obtain ⟨r4, qr4, h⟩ := bd_i h
    refine q_callV C 3 0 0 (c_of qr4) rfl mw_self rfl ok_of in_of lk6_108 rfl (Nat.le_of_ble_eq_true rfl) ⟨Nat.le_of_ble_eq_true rfl, Nat.le_of_ble_eq_true rfl⟩ dX6_squareRank_33 rfl rfl ?_
    obtain ⟨r5, qr5, h⟩ := bd_i h
    refine q_callVv C 0 0 0 (c_set qr5) rfl mw_self rfl ok_set in_set lk6_101 rfl (Nat.le_of_ble_eq_true rfl) ⟨Nat.le_of_ble_eq_true rfl, Nat.le_of_ble_eq_true rfl⟩ dX6_squareRank_36 rfl rfl ?_
    refine r_iinc C (v := s.1 + 1) (lv' := [(3, .int (s.1 + 1)), (0, .ref h0), (1, .int l1), (2, .int l2)]) 3 rfl dX6_squareRank_39 rfl (by decide) rfl ?_
    refine r_goto C (tgt := 12) dX6_squareRank_42 (by decide) ?_
    refine r_lv [1, 2, 3, 0] rfl ?_
    exact kl _ (sm_i h)
set_option maxHeartbeats 4000000 in
set_option maxRecDepth 100000 in
theorem w_squareRank_L2 {K : kT} {O : oT} (C : aC K cX6_squareRank RX6 "squareRank" 4 76 0 0 4 (some .int) O) {h0 : Nat} {hp : cH} {sz : Nat} {n : Int32} {p : Int64} {count : Int32} {sorts : Nat → Int32} {rows : Nat → Int64} {hand : Nat → Int64} {gathered : Int32} {gather : Nat → Int32} {paired : Int32} {pairA : Nat → Int32} {pairB : Nat → Int32} {ideal : Int32} {draft : Nat → Int64} {one : Nat → Int64} {two : Nat → Int64} {turned : Nat → Int64} {placeI : Int32} {placeJ : Int32} {formA : Int64} {formB : Int64} {formC : Int64} {l1 : Int32} {v0 : Int32} {v1 : Nat → Int64} {r : (Nat → Int64)} (h : itX (m_squareRank_L2 n rows l1) (v0, v1) = some r) (hr : aW K (mw h0 hp n p count sorts rows hand gathered gather paired pairA pairB ideal draft r one two turned placeI placeJ formA formB formC) sz 0 0 51 [(0, .ref h0)] []) : aW K (mw h0 hp n p count sorts rows hand gathered gather paired pairA pairB ideal draft v1 one two turned placeI placeJ formA formB formC) sz 0 0 2 [(0, .ref h0), (1, .int l1), (2, .int v0)] [] := by
  refine it_walk (f := m_squareRank_L2 n rows l1) (P := fun s => aW K (mw h0 hp n p count sorts rows hand gathered gather paired pairA pairB ideal draft s.2 one two turned placeI placeJ formA formB formC) sz 0 0 2 [(0, .ref h0), (1, .int l1), (2, .int s.1)] []) (R := fun r => aW K (mw h0 hp n p count sorts rows hand gathered gather paired pairA pairB ideal draft r one two turned placeI placeJ formA formB formC) sz 0 0 51 [(0, .ref h0)] []) ?_ h hr
  clear h hr
  intro s x h kl kr
  unfold m_squareRank_L2 at h
  refine r_iload_n C 2 rfl dX6_squareRank_2 rfl ?_
  refine r_aload_n C 0 rfl dX6_squareRank_3 rfl ?_
  obtain ⟨r1, qr1, h⟩ := bd_i h
  refine q_callV C 1 0 0 (c_side qr1) rfl mw_self rfl ok_side in_side lk6_111 rfl (Nat.le_of_ble_eq_true rfl) ⟨Nat.le_of_ble_eq_true rfl, Nat.le_of_ble_eq_true rfl⟩ dX6_squareRank_4 rfl rfl ?_
  refine r_icmp_ge C (tgt := 51) dX6_squareRank_7 (by decide) (fun hc => ?_) (fun hc => ?_)
  · replace h := br_p hc h
    refine r_lv [0] rfl ?_
    exact kr _ (sm_i h)
  · replace h := br_n hc h
    refine r_iconst C (v := 0) dX6_squareRank_10 (by decide) ?_
    refine r_istore_n C (lv' := [(3, .int ((0 : Int32))), (0, .ref h0), (1, .int l1), (2, .int s.1)]) dX6_squareRank_11 rfl (by decide) rfl ?_
    refine r_lv [1, 2, 3, 0] rfl ?_
    obtain ⟨r6, qr6, h⟩ := bd_i h
    refine w_squareRank_L12 C qr6 ?_
    refine r_iinc C (v := s.1 + 1) (lv' := [(2, .int (s.1 + 1)), (0, .ref h0), (1, .int l1)]) 2 rfl dX6_squareRank_45 rfl (by decide) rfl ?_
    refine r_goto C (tgt := 2) dX6_squareRank_48 (by decide) ?_
    refine r_lv [1, 2, 0] rfl ?_
    exact kl _ (sm_i h)
set_option maxHeartbeats 4000000 in
set_option maxRecDepth 100000 in
theorem c_squareRank {G : gT} {h0 : Nat} {hp : cH} {sz : Nat} {n : Int32} {p : Int64} {count : Int32} {sorts : Nat → Int32} {rows : Nat → Int64} {hand : Nat → Int64} {gathered : Int32} {gather : Nat → Int32} {paired : Int32} {pairA : Nat → Int32} {pairB : Nat → Int32} {ideal : Int32} {draft : Nat → Int64} {frame : Nat → Int64} {one : Nat → Int64} {two : Nat → Int64} {turned : Nat → Int64} {placeI : Int32} {placeJ : Int32} {formA : Int64} {formB : Int64} {formC : Int64} {x1 : Int32} {out : (Int32 × (Nat → Int64))} (h : m_squareRank n p rows frame x1 = some out) : aM G yX6_squareRank cX6_squareRank 4 (some .int) 4 76 0 0 [.ref h0, .int x1] (mw h0 hp n p count sorts rows hand gathered gather paired pairA pairB ideal draft frame one two turned placeI placeJ formA formB formC) sz ((some (.int out.1), mw h0 hp n p count sorts rows hand gathered gather paired pairA pairB ideal draft out.2 one two turned placeI placeJ formA formB formC, sz) : oT) := by
  refine aM.of RX6 (by decide) rfl (Nat.le_of_ble_eq_true rfl) (fun K C => ?_)
  have hO : ((some (.int out.1), mw h0 hp n p count sorts rows hand gathered gather paired pairA pairB ideal draft out.2 one two turned placeI placeJ formA formB formC, sz) : oT) = ((some (.int out.1), mw h0 hp n p count sorts rows hand gathered gather paired pairA pairB ideal draft out.2 one two turned placeI placeJ formA formB formC, sz) : oT) := rfl
  refine r_lve (lv' := [(0, .ref h0), (1, .int x1)]) rfl ?_
  unfold m_squareRank at h
  refine r_iconst C (v := 0) dX6_squareRank_0 (by decide) ?_
  refine r_istore_n C (lv' := [(2, .int ((0 : Int32))), (0, .ref h0), (1, .int x1)]) dX6_squareRank_1 rfl (by decide) rfl ?_
  refine r_lv [1, 2, 0] rfl ?_
  obtain ⟨r7, qr7, h⟩ := bd_i h
  refine w_squareRank_L2 C qr7 ?_
  refine r_aload_n C 0 rfl dX6_squareRank_51 rfl ?_
  refine r_aload_n C 0 rfl dX6_squareRank_52 rfl ?_
  obtain ⟨r8, qr8, h⟩ := bd_i h
  refine q_callV C 1 0 0 (c_side qr8) rfl mw_self rfl ok_side in_side lk6_111 rfl (Nat.le_of_ble_eq_true rfl) ⟨Nat.le_of_ble_eq_true rfl, Nat.le_of_ble_eq_true rfl⟩ dX6_squareRank_53 rfl rfl ?_
  refine r_aload_n C 0 rfl dX6_squareRank_56 rfl ?_
  obtain ⟨r9, qr9, h⟩ := bd_i h
  refine q_callV C 2 0 0 (c_side qr9) rfl mw_self rfl ok_side in_side lk6_111 rfl (Nat.le_of_ble_eq_true rfl) ⟨Nat.le_of_ble_eq_true rfl, Nat.le_of_ble_eq_true rfl⟩ dX6_squareRank_57 rfl rfl ?_
  refine r_aload_n C 0 rfl dX6_squareRank_60 rfl ?_
  obtain ⟨r10, qr10, h⟩ := bd_i h
  refine q_callV C 3 0 0 (c_side qr10) rfl mw_self rfl ok_side in_side lk6_111 rfl (Nat.le_of_ble_eq_true rfl) ⟨Nat.le_of_ble_eq_true rfl, Nat.le_of_ble_eq_true rfl⟩ dX6_squareRank_61 rfl rfl ?_
  obtain ⟨r11, qr11, h⟩ := bd_i h
  refine q_callV C 0 0 0 (c_reduce qr11) rfl mw_self rfl ok_reduce in_reduce lk6_115 rfl (Nat.le_of_ble_eq_true rfl) ⟨Nat.le_of_ble_eq_true rfl, Nat.le_of_ble_eq_true rfl⟩ dX6_squareRank_64 rfl rfl ?_
  obtain rfl := sm_i h
  exact r_ireturn C (Eq.symm hO) dX6_squareRank_67
noncomputable def m_rank (n : Int32) (p : Int64) (count : Int32) (sorts : Nat → Int32) (rows : Nat → Int64) (frame : Nat → Int64) (x1 : Int32) : Option (Int32 × (Nat → Int64)) := (m_is count sorts x1 ((4 : Int32))).bind fun r1 => if r1 = 0 then (some ((-2 : Int32), frame)) else ((m_squareRank n p rows frame x1).bind fun r2 => some (r2.1, r2.2))
set_option maxHeartbeats 4000000 in
set_option maxRecDepth 100000 in
theorem c_rank {G : gT} {h0 : Nat} {hp : cH} {sz : Nat} {n : Int32} {p : Int64} {count : Int32} {sorts : Nat → Int32} {rows : Nat → Int64} {hand : Nat → Int64} {gathered : Int32} {gather : Nat → Int32} {paired : Int32} {pairA : Nat → Int32} {pairB : Nat → Int32} {ideal : Int32} {draft : Nat → Int64} {frame : Nat → Int64} {one : Nat → Int64} {two : Nat → Int64} {turned : Nat → Int64} {placeI : Int32} {placeJ : Int32} {formA : Int64} {formB : Int64} {formC : Int64} {x1 : Int32} {out : (Int32 × (Nat → Int64))} (h : m_rank n p count sorts rows frame x1 = some out) : aM G yX6_rank cX6_rank 2 (some .int) 5 91 0 0 [.ref h0, .int x1] (mw h0 hp n p count sorts rows hand gathered gather paired pairA pairB ideal draft frame one two turned placeI placeJ formA formB formC) sz ((some (.int out.1), mw h0 hp n p count sorts rows hand gathered gather paired pairA pairB ideal draft out.2 one two turned placeI placeJ formA formB formC, sz) : oT) := by
  refine aM.of RX6 (by decide) rfl (Nat.le_of_ble_eq_true rfl) (fun K C => ?_)
  have hO : ((some (.int out.1), mw h0 hp n p count sorts rows hand gathered gather paired pairA pairB ideal draft out.2 one two turned placeI placeJ formA formB formC, sz) : oT) = ((some (.int out.1), mw h0 hp n p count sorts rows hand gathered gather paired pairA pairB ideal draft out.2 one two turned placeI placeJ formA formB formC, sz) : oT) := rfl
  refine r_lve (lv' := [(0, .ref h0), (1, .int x1)]) rfl ?_
  unfold m_rank at h
  refine r_aload_n C 0 rfl dX6_rank_0 rfl ?_
  refine r_iload_n C 1 rfl dX6_rank_1 rfl ?_
  refine r_iconst C (v := 4) dX6_rank_2 (by decide) ?_
  obtain ⟨r1, qr1, h⟩ := bd_i h
  refine q_callV C 0 0 0 (c_is qr1) rfl mw_self rfl ok_is in_is lk6_146 rfl (Nat.le_of_ble_eq_true rfl) ⟨Nat.le_of_ble_eq_true rfl, Nat.le_of_ble_eq_true rfl⟩ dX6_rank_3 rfl rfl ?_
  refine r_if_eq C (tgt := 17) dX6_rank_6 (by decide) (fun hc => ?_) (fun hc => ?_)
  · replace h := br_p hc h
    refine r_bipush C (v := -2) dX6_rank_17 (by decide) ?_
    obtain rfl := sm_i h
    exact r_ireturn C (Eq.symm hO) dX6_rank_19
  · replace h := br_n hc h
    refine r_aload_n C 0 rfl dX6_rank_9 rfl ?_
    refine r_iload_n C 1 rfl dX6_rank_10 rfl ?_
    obtain ⟨r2, qr2, h⟩ := bd_i h
    refine q_callV C 0 0 0 (c_squareRank qr2) rfl mw_self rfl ok_squareRank in_squareRank lk6_253 rfl (Nat.le_of_ble_eq_true rfl) ⟨Nat.le_of_ble_eq_true rfl, Nat.le_of_ble_eq_true rfl⟩ dX6_rank_11 rfl rfl ?_
    refine r_goto C (tgt := 19) dX6_rank_14 (by decide) ?_
    obtain rfl := sm_i h
    exact r_ireturn C (Eq.symm hO) dX6_rank_19
