noncomputable def m_through_L91 (p : Int64) (one : Nat → Int64) (two : Nat → Int64) (l1 : Int32) (s : (Int32 × (Nat → Int64))) : Option ((Int32 × (Nat → Int64)) ⊕ (Nat → Int64)) := if ((4 : Int32)) ≤ s.1 then (some (.inr s.2)) else ((m_slot l1 s.1).bind fun r2 => if gi l1 16 then if gi s.1 16 then (m_times p (one l1.toNatClampNeg) (two s.1.toNatClampNeg)).bind fun r3 => if gi s.1 16 then if gi l1 16 then (m_times p (one s.1.toNatClampNeg) (two l1.toNatClampNeg)).bind fun r4 => (m_less p r3 r4).bind fun r5 => if gi r2 16 then some (.inl (s.1 + 1, vp_updL s.2 r2.toNatClampNeg r5)) else none else none else none else none else none)
noncomputable def m_through_L82 (p : Int64) (one : Nat → Int64) (two : Nat → Int64) (s : (Int32 × (Nat → Int64))) : Option ((Int32 × (Nat → Int64)) ⊕ (Nat → Int64)) := if ((4 : Int32)) ≤ s.1 then (some (.inr s.2)) else ((itX (m_through_L91 p one two s.1) (s.1 + ((1 : Int32)), s.2)).bind fun r6 => some (.inl (s.1 + 1, r6)))
noncomputable def m_through_L14 (p : Int64) (one : Nat → Int64) (two : Nat → Int64) (s : (Int32 × (Nat → Int64))) : Option ((Int32 × (Nat → Int64)) ⊕ (Nat → Int64)) := if ((3 : Int32)) ≤ s.1 then (some (.inr s.2)) else (if gi ((s.1 + ((1 : Int32))) - (s.1 + ((1 : Int32))) / ((3 : Int32)) * ((3 : Int32))) 16 then if gi ((s.1 + ((2 : Int32))) - (s.1 + ((2 : Int32))) / ((3 : Int32)) * ((3 : Int32))) 16 then (m_times p (one ((s.1 + ((1 : Int32))) - (s.1 + ((1 : Int32))) / ((3 : Int32)) * ((3 : Int32))).toNatClampNeg) (two ((s.1 + ((2 : Int32))) - (s.1 + ((2 : Int32))) / ((3 : Int32)) * ((3 : Int32))).toNatClampNeg)).bind fun r8 => if gi ((s.1 + ((2 : Int32))) - (s.1 + ((2 : Int32))) / ((3 : Int32)) * ((3 : Int32))) 16 then if gi ((s.1 + ((1 : Int32))) - (s.1 + ((1 : Int32))) / ((3 : Int32)) * ((3 : Int32))) 16 then (m_times p (one ((s.1 + ((2 : Int32))) - (s.1 + ((2 : Int32))) / ((3 : Int32)) * ((3 : Int32))).toNatClampNeg) (two ((s.1 + ((1 : Int32))) - (s.1 + ((1 : Int32))) / ((3 : Int32)) * ((3 : Int32))).toNatClampNeg)).bind fun r9 => (m_less p r8 r9).bind fun r10 => if gi s.1 16 then some (.inl (s.1 + 1, vp_updL s.2 s.1.toNatClampNeg r10)) else none else none else none else none else none)
noncomputable def m_through (n : Int32) (p : Int64) (draft : Nat → Int64) (one : Nat → Int64) (two : Nat → Int64)  : Option (Nat → Int64) := (m_clear draft).bind fun r1 => if n = ((2 : Int32)) then ((itX (m_through_L14 p one two) ((0 : Int32), r1)).bind fun r11 => some r11) else ((itX (m_through_L82 p one two) ((0 : Int32), r1)).bind fun r7 => some r7)
set_option maxHeartbeats 4000000 in
set_option maxRecDepth 100000 in
theorem w_through_L91 {K : kT} {O : oT} (C : aC K cX6_through RX6 "through" 1 21 0 0 4 none O) {h0 : Nat} {hp : cH} {sz : Nat} {n : Int32} {p : Int64} {count : Int32} {sorts : Nat → Int32} {rows : Nat → Int64} {hand : Nat → Int64} {gathered : Int32} {gather : Nat → Int32} {paired : Int32} {pairA : Nat → Int32} {pairB : Nat → Int32} {ideal : Int32} {frame : Nat → Int64} {one : Nat → Int64} {two : Nat → Int64} {turned : Nat → Int64} {placeI : Int32} {placeJ : Int32} {formA : Int64} {formB : Int64} {formC : Int64} {l1 : Int32} {v0 : Int32} {v1 : Nat → Int64} {r : (Nat → Int64)} (h : itX (m_through_L91 p one two l1) (v0, v1) = some r) (hr : aW K (mw h0 hp n p count sorts rows hand gathered gather paired pairA pairB ideal r frame one two turned placeI placeJ formA formB formC) sz 0 0 148 [(0, .ref h0), (1, .int l1)] []) : aW K (mw h0 hp n p count sorts rows hand gathered gather paired pairA pairB ideal v1 frame one two turned placeI placeJ formA formB formC) sz 0 0 91 [(0, .ref h0), (1, .int l1), (2, .int v0)] [] := by
  refine it_walk (f := m_through_L91 p one two l1) (P := fun s => aW K (mw h0 hp n p count sorts rows hand gathered gather paired pairA pairB ideal s.2 frame one two turned placeI placeJ formA formB formC) sz 0 0 91 [(0, .ref h0), (1, .int l1), (2, .int s.1)] []) (R := fun r => aW K (mw h0 hp n p count sorts rows hand gathered gather paired pairA pairB ideal r frame one two turned placeI placeJ formA formB formC) sz 0 0 148 [(0, .ref h0), (1, .int l1)] []) ?_ h hr
  clear h hr
  intro s x h kl kr
  unfold m_through_L91 at h
  refine r_iload_n C 2 rfl dX6_through_91 rfl ?_
  refine r_iconst C (v := 4) dX6_through_92 (by decide) ?_
  refine r_icmp_ge C (tgt := 148) dX6_through_93 (by decide) (fun hc => ?_) (fun hc => ?_)
  · replace h := br_p hc h
    refine r_lv [0, 1] rfl ?_
    exact kr _ (sm_i h)
  · replace h := br_n hc h
    refine r_aload_n C 0 rfl dX6_through_96 rfl ?_
    refine m_g_draft C dX6_through_97 ?_
    refine r_iload_n C 1 rfl dX6_through_100 rfl ?_
    refine r_iload_n C 2 rfl dX6_through_101 rfl ?_
    obtain ⟨r2, qr2, h⟩ := bd_i h
    refine q_callS C 1 0 0 (c_slot qr2) rfl ok_slot in_slot lk6_139 rfl (Nat.le_of_ble_eq_true rfl) ⟨Nat.le_of_ble_eq_true rfl, Nat.le_of_ble_eq_true rfl⟩ dX6_through_102 rfl rfl ?_
    refine r_aload_n C 0 rfl dX6_through_105 rfl ?_
    refine r_aload_n C 0 rfl dX6_through_106 rfl ?_
    refine r_aload_n C 0 rfl dX6_through_107 rfl ?_
    refine m_g_one C dX6_through_108 ?_
    refine r_iload_n C 1 rfl dX6_through_111 rfl ?_
    obtain ⟨hi, h⟩ := gd_t h
    refine m_l_one C hi dX6_through_112 ?_
    refine r_aload_n C 0 rfl dX6_through_113 rfl ?_
    refine m_g_two C dX6_through_114 ?_
    refine r_iload_n C 2 rfl dX6_through_117 rfl ?_
    obtain ⟨hi, h⟩ := gd_t h
    refine m_l_two C hi dX6_through_118 ?_
    obtain ⟨r3, qr3, h⟩ := bd_i h
    refine q_callV C 3 0 0 (c_times qr3) rfl mw_self rfl ok_times in_times lk6_76 rfl (Nat.le_of_ble_eq_true rfl) ⟨Nat.le_of_ble_eq_true rfl, Nat.le_of_ble_eq_true rfl⟩ dX6_through_119 rfl rfl ?_
    refine r_aload_n C 0 rfl dX6_through_122 rfl ?_
    refine r_aload_n C 0 rfl dX6_through_123 rfl ?_
    refine m_g_one C dX6_through_124 ?_
    refine r_iload_n C 2 rfl dX6_through_127 rfl ?_
    obtain ⟨hi, h⟩ := gd_t h
    refine m_l_one C hi dX6_through_128 ?_
    refine r_aload_n C 0 rfl dX6_through_129 rfl ?_
    refine m_g_two C dX6_through_130 ?_
    refine r_iload_n C 1 rfl dX6_through_133 rfl ?_
    obtain ⟨hi, h⟩ := gd_t h
    refine m_l_two C hi dX6_through_134 ?_
    obtain ⟨r4, qr4, h⟩ := bd_i h
    refine q_callV C 5 0 0 (c_times qr4) rfl mw_self rfl ok_times in_times lk6_76 rfl (Nat.le_of_ble_eq_true rfl) ⟨Nat.le_of_ble_eq_true rfl, Nat.le_of_ble_eq_true rfl⟩ dX6_through_135 rfl rfl ?_
    obtain ⟨r5, qr5, h⟩ := bd_i h
    refine q_callV C 2 0 0 (c_less qr5) rfl mw_self rfl ok_less in_less lk6_105 rfl (Nat.le_of_ble_eq_true rfl) ⟨Nat.le_of_ble_eq_true rfl, Nat.le_of_ble_eq_true rfl⟩ dX6_through_138 rfl rfl ?_
    obtain ⟨hi, h⟩ := gd_t h
    refine m_s_draft C hi dX6_through_141 ?_
    refine r_iinc C (v := s.1 + 1) (lv' := [(2, .int (s.1 + 1)), (0, .ref h0), (1, .int l1)]) 2 rfl dX6_through_142 rfl (by decide) rfl ?_
    refine r_goto C (tgt := 91) dX6_through_145 (by decide) ?_
    refine r_lv [1, 2, 0] rfl ?_
    exact kl _ (sm_i h)
set_option maxHeartbeats 4000000 in
set_option maxRecDepth 100000 in
theorem w_through_L82 {K : kT} {O : oT} (C : aC K cX6_through RX6 "through" 1 21 0 0 4 none O) {h0 : Nat} {hp : cH} {sz : Nat} {n : Int32} {p : Int64} {count : Int32} {sorts : Nat → Int32} {rows : Nat → Int64} {hand : Nat → Int64} {gathered : Int32} {gather : Nat → Int32} {paired : Int32} {pairA : Nat → Int32} {pairB : Nat → Int32} {ideal : Int32} {frame : Nat → Int64} {one : Nat → Int64} {two : Nat → Int64} {turned : Nat → Int64} {placeI : Int32} {placeJ : Int32} {formA : Int64} {formB : Int64} {formC : Int64}  {v0 : Int32} {v1 : Nat → Int64} {r : (Nat → Int64)} (h : itX (m_through_L82 p one two) (v0, v1) = some r) (hr : aW K (mw h0 hp n p count sorts rows hand gathered gather paired pairA pairB ideal r frame one two turned placeI placeJ formA formB formC) sz 0 0 154 [] []) : aW K (mw h0 hp n p count sorts rows hand gathered gather paired pairA pairB ideal v1 frame one two turned placeI placeJ formA formB formC) sz 0 0 82 [(0, .ref h0), (1, .int v0)] [] := by
  refine it_walk (f := m_through_L82 p one two) (P := fun s => aW K (mw h0 hp n p count sorts rows hand gathered gather paired pairA pairB ideal s.2 frame one two turned placeI placeJ formA formB formC) sz 0 0 82 [(0, .ref h0), (1, .int s.1)] []) (R := fun r => aW K (mw h0 hp n p count sorts rows hand gathered gather paired pairA pairB ideal r frame one two turned placeI placeJ formA formB formC) sz 0 0 154 [] []) ?_ h hr
  clear h hr
  intro s x h kl kr
  unfold m_through_L82 at h
  refine r_iload_n C 1 rfl dX6_through_82 rfl ?_
  refine r_iconst C (v := 4) dX6_through_83 (by decide) ?_
  refine r_icmp_ge C (tgt := 154) dX6_through_84 (by decide) (fun hc => ?_) (fun hc => ?_)
  · replace h := br_p hc h
    refine r_lv [] rfl ?_
    exact kr _ (sm_i h)
  · replace h := br_n hc h
    refine r_iload_n C 1 rfl dX6_through_87 rfl ?_
    refine r_iconst C (v := 1) dX6_through_88 (by decide) ?_
    refine r_iadd C dX6_through_89 ?_
    refine r_istore_n C (lv' := [(2, .int (s.1 + ((1 : Int32)))), (0, .ref h0), (1, .int s.1)]) dX6_through_90 rfl (by decide) rfl ?_
    refine r_lv [1, 2, 0] rfl ?_
    obtain ⟨r6, qr6, h⟩ := bd_i h
    refine w_through_L91 C qr6 ?_
    refine r_iinc C (v := s.1 + 1) (lv' := [(1, .int (s.1 + 1)), (0, .ref h0)]) 1 rfl dX6_through_148 rfl (by decide) rfl ?_
    refine r_goto C (tgt := 82) dX6_through_151 (by decide) ?_
    refine r_lv [1, 0] rfl ?_
    exact kl _ (sm_i h)
set_option maxHeartbeats 4000000 in
set_option maxRecDepth 100000 in
theorem w_through_L14 {K : kT} {O : oT} (C : aC K cX6_through RX6 "through" 1 21 0 0 4 none O) {h0 : Nat} {hp : cH} {sz : Nat} {n : Int32} {p : Int64} {count : Int32} {sorts : Nat → Int32} {rows : Nat → Int64} {hand : Nat → Int64} {gathered : Int32} {gather : Nat → Int32} {paired : Int32} {pairA : Nat → Int32} {pairB : Nat → Int32} {ideal : Int32} {frame : Nat → Int64} {one : Nat → Int64} {two : Nat → Int64} {turned : Nat → Int64} {placeI : Int32} {placeJ : Int32} {formA : Int64} {formB : Int64} {formC : Int64}  {v0 : Int32} {v1 : Nat → Int64} {r : (Nat → Int64)} (h : itX (m_through_L14 p one two) (v0, v1) = some r) (hr : aW K (mw h0 hp n p count sorts rows hand gathered gather paired pairA pairB ideal r frame one two turned placeI placeJ formA formB formC) sz 0 0 79 [] []) : aW K (mw h0 hp n p count sorts rows hand gathered gather paired pairA pairB ideal v1 frame one two turned placeI placeJ formA formB formC) sz 0 0 14 [(0, .ref h0), (1, .int v0)] [] := by
  refine it_walk (f := m_through_L14 p one two) (P := fun s => aW K (mw h0 hp n p count sorts rows hand gathered gather paired pairA pairB ideal s.2 frame one two turned placeI placeJ formA formB formC) sz 0 0 14 [(0, .ref h0), (1, .int s.1)] []) (R := fun r => aW K (mw h0 hp n p count sorts rows hand gathered gather paired pairA pairB ideal r frame one two turned placeI placeJ formA formB formC) sz 0 0 79 [] []) ?_ h hr
  clear h hr
  intro s x h kl kr
  unfold m_through_L14 at h
  refine r_iload_n C 1 rfl dX6_through_14 rfl ?_
  refine r_iconst C (v := 3) dX6_through_15 (by decide) ?_
  refine r_icmp_ge C (tgt := 79) dX6_through_16 (by decide) (fun hc => ?_) (fun hc => ?_)
  · replace h := br_p hc h
    refine r_lv [] rfl ?_
    exact kr _ (sm_i h)
  · replace h := br_n hc h
    refine r_iload_n C 1 rfl dX6_through_19 rfl ?_
    refine r_iconst C (v := 1) dX6_through_20 (by decide) ?_
    refine r_iadd C dX6_through_21 ?_
    refine r_iconst C (v := 3) dX6_through_22 (by decide) ?_
    refine r_irem C dX6_through_23 (by decide) ?_
    refine r_istore_n C (lv' := [(2, .int ((s.1 + ((1 : Int32))) - (s.1 + ((1 : Int32))) / ((3 : Int32)) * ((3 : Int32)))), (0, .ref h0), (1, .int s.1)]) dX6_through_24 rfl (by decide) rfl ?_
    refine r_iload_n C 2 rfl dX6_through_25 rfl ?_
    refine r_iconst C (v := 2) dX6_through_26 (by decide) ?_
    refine r_iadd C dX6_through_27 ?_
    refine r_iconst C (v := 3) dX6_through_28 (by decide) ?_
    refine r_irem C dX6_through_29 (by decide) ?_
    refine r_istore_n C (lv' := [(3, .int ((s.1 + ((2 : Int32))) - (s.1 + ((2 : Int32))) / ((3 : Int32)) * ((3 : Int32)))), (2, .int ((s.1 + ((1 : Int32))) - (s.1 + ((1 : Int32))) / ((3 : Int32)) * ((3 : Int32)))), (0, .ref h0), (1, .int s.1)]) dX6_through_30 rfl (by decide) rfl ?_
    refine r_aload_n C 2 rfl dX6_through_31 rfl ?_
    refine m_g_draft C dX6_through_32 ?_
    refine r_iload_n C 3 rfl dX6_through_35 rfl ?_
    refine r_aload_n C 2 rfl dX6_through_36 rfl ?_
    refine r_aload_n C 2 rfl dX6_through_37 rfl ?_
    refine r_aload_n C 2 rfl dX6_through_38 rfl ?_
    refine m_g_one C dX6_through_39 ?_
    refine r_iload_n C 1 rfl dX6_through_42 rfl ?_
    obtain ⟨hi, h⟩ := gd_t h
    refine m_l_one C hi dX6_through_43 ?_
    refine r_aload_n C 2 rfl dX6_through_44 rfl ?_
    refine m_g_two C dX6_through_45 ?_
    refine r_iload_n C 0 rfl dX6_through_48 rfl ?_
    obtain ⟨hi, h⟩ := gd_t h
    refine m_l_two C hi dX6_through_49 ?_
    obtain ⟨r8, qr8, h⟩ := bd_i h
    refine q_callV C 3 0 0 (c_times qr8) rfl mw_self rfl ok_times in_times lk6_76 rfl (Nat.le_of_ble_eq_true rfl) ⟨Nat.le_of_ble_eq_true rfl, Nat.le_of_ble_eq_true rfl⟩ dX6_through_50 rfl rfl ?_
    refine r_aload_n C 2 rfl dX6_through_53 rfl ?_
    refine r_aload_n C 2 rfl dX6_through_54 rfl ?_
    refine m_g_one C dX6_through_55 ?_
    refine r_iload_n C 0 rfl dX6_through_58 rfl ?_
    obtain ⟨hi, h⟩ := gd_t h
    refine m_l_one C hi dX6_through_59 ?_
    refine r_aload_n C 2 rfl dX6_through_60 rfl ?_
    refine m_g_two C dX6_through_61 ?_
    refine r_iload_n C 1 rfl dX6_through_64 rfl ?_
    obtain ⟨hi, h⟩ := gd_t h
    refine m_l_two C hi dX6_through_65 ?_
    obtain ⟨r9, qr9, h⟩ := bd_i h
    refine q_callV C 5 0 0 (c_times qr9) rfl mw_self rfl ok_times in_times lk6_76 rfl (Nat.le_of_ble_eq_true rfl) ⟨Nat.le_of_ble_eq_true rfl, Nat.le_of_ble_eq_true rfl⟩ dX6_through_66 rfl rfl ?_
    obtain ⟨r10, qr10, h⟩ := bd_i h
    refine q_callV C 2 0 0 (c_less qr10) rfl mw_self rfl ok_less in_less lk6_105 rfl (Nat.le_of_ble_eq_true rfl) ⟨Nat.le_of_ble_eq_true rfl, Nat.le_of_ble_eq_true rfl⟩ dX6_through_69 rfl rfl ?_
    obtain ⟨hi, h⟩ := gd_t h
    refine m_s_draft C hi dX6_through_72 ?_
    refine r_iinc C (v := s.1 + 1) (lv' := [(1, .int (s.1 + 1)), (3, .int ((s.1 + ((2 : Int32))) - (s.1 + ((2 : Int32))) / ((3 : Int32)) * ((3 : Int32)))), (2, .int ((s.1 + ((1 : Int32))) - (s.1 + ((1 : Int32))) / ((3 : Int32)) * ((3 : Int32)))), (0, .ref h0)]) 3 rfl dX6_through_73 rfl (by decide) rfl ?_
    refine r_goto C (tgt := 14) dX6_through_76 (by decide) ?_
    refine r_lv [3, 0] rfl ?_
    exact kl _ (sm_i h)
set_option maxHeartbeats 4000000 in
set_option maxRecDepth 100000 in
theorem c_through {G : gT} {h0 : Nat} {hp : cH} {sz : Nat} {n : Int32} {p : Int64} {count : Int32} {sorts : Nat → Int32} {rows : Nat → Int64} {hand : Nat → Int64} {gathered : Int32} {gather : Nat → Int32} {paired : Int32} {pairA : Nat → Int32} {pairB : Nat → Int32} {ideal : Int32} {draft : Nat → Int64} {frame : Nat → Int64} {one : Nat → Int64} {two : Nat → Int64} {turned : Nat → Int64} {placeI : Int32} {placeJ : Int32} {formA : Int64} {formB : Int64} {formC : Int64}  {out : (Nat → Int64)} (h : m_through n p draft one two  = some out) : aM G yX6_through cX6_through 4 none 1 21 0 0 [.ref h0] (mw h0 hp n p count sorts rows hand gathered gather paired pairA pairB ideal draft frame one two turned placeI placeJ formA formB formC) sz ((none, mw h0 hp n p count sorts rows hand gathered gather paired pairA pairB ideal out frame one two turned placeI placeJ formA formB formC, sz) : oT) := by
  refine aM.of RX6 (by decide) rfl (Nat.le_of_ble_eq_true rfl) (fun K C => ?_)
  have hO : ((none, mw h0 hp n p count sorts rows hand gathered gather paired pairA pairB ideal out frame one two turned placeI placeJ formA formB formC, sz) : oT) = ((none, mw h0 hp n p count sorts rows hand gathered gather paired pairA pairB ideal out frame one two turned placeI placeJ formA formB formC, sz) : oT) := rfl
  refine r_lve (lv' := [(0, .ref h0)]) rfl ?_
  unfold m_through at h
  refine r_aload_n C 0 rfl dX6_through_0 rfl ?_
  obtain ⟨r1, qr1, h⟩ := bd_i h
  refine q_callVv C 0 0 0 (c_clear qr1) rfl mw_self rfl ok_clear in_clear lk6_136 rfl (Nat.le_of_ble_eq_true rfl) ⟨Nat.le_of_ble_eq_true rfl, Nat.le_of_ble_eq_true rfl⟩ dX6_through_1 rfl rfl ?_
  refine r_aload_n C 0 rfl dX6_through_4 rfl ?_
  refine m_g_n C dX6_through_5 ?_
  refine r_iconst C (v := 2) dX6_through_8 (by decide) ?_
  refine r_icmp_ne C (tgt := 80) dX6_through_9 (by decide) (fun hc => ?_) (fun hc => ?_)
  · replace h := br_n hc h
    refine r_iconst C (v := 0) dX6_through_80 (by decide) ?_
    refine r_istore_n C (lv' := [(1, .int ((0 : Int32))), (0, .ref h0)]) dX6_through_81 rfl (by decide) rfl ?_
    refine r_lv [1, 0] rfl ?_
    obtain ⟨r7, qr7, h⟩ := bd_i h
    refine w_through_L82 C qr7 ?_
    obtain rfl := sm_i h
    exact r_return C (Eq.symm hO) dX6_through_154
  · replace h := br_p hc h
    refine r_iconst C (v := 0) dX6_through_12 (by decide) ?_
    refine r_istore_n C (lv' := [(1, .int ((0 : Int32))), (0, .ref h0)]) dX6_through_13 rfl (by decide) rfl ?_
    refine r_lv [1, 0] rfl ?_
    obtain ⟨r11, qr11, h⟩ := bd_i h
    refine w_through_L14 C qr11 ?_
    obtain rfl := sm_i h
    exact r_return C (Eq.symm hO) dX6_through_79
noncomputable def m_join_J98 (n : Int32) (p : Int64) (count : Int32) (sorts : Nat → Int32) (rows : Nat → Int64) (draft : Nat → Int64) (frame : Nat → Int64) (one : Nat → Int64) (two : Nat → Int64) (l1 : Int32) (l2 : Int32) : Option (Int32 × Int32 × (Nat → Int32) × (Nat → Int64) × (Nat → Int64) × (Nat → Int64) × (Nat → Int64) × (Nat → Int64)) := (m_is count sorts l1 ((1 : Int32))).bind fun r2 => if r2 = 0 then ((m_is count sorts l1 ((1 : Int32))).bind fun r3 => if r3 = 0 then (if n = ((2 : Int32)) then (some ((-2 : Int32), count, sorts, rows, draft, frame, one, two)) else ((m_is count sorts l2 ((1 : Int32))).bind fun r4 => if r4 = 0 then (some ((-2 : Int32), count, sorts, rows, draft, frame, one, two)) else ((m_is count sorts l1 ((0 : Int32))).bind fun r5 => if r5 = 0 then (some ((-2 : Int32), count, sorts, rows, draft, frame, one, two)) else ((m_takeOne n rows one l1).bind fun r6 => (m_spanned p rows draft r6 l2).bind fun r7 => (m_madeOrNone n p count sorts rows r7 ((2 : Int32))).bind fun r8 => some (r8.1, r8.2.1, r8.2.2.1, r8.2.2.2.1, r8.2.2.2.2, frame, r6, two))))) else (if n = ((2 : Int32)) then (some ((-2 : Int32), count, sorts, rows, draft, frame, one, two)) else ((m_is count sorts l2 ((1 : Int32))).bind fun r9 => if r9 = 0 then (some ((-2 : Int32), count, sorts, rows, draft, frame, one, two)) else ((m_is count sorts l2 ((0 : Int32))).bind fun r10 => if r10 = 0 then (some ((-2 : Int32), count, sorts, rows, draft, frame, one, two)) else ((m_takeOne n rows one l2).bind fun r11 => (m_spanned p rows draft r11 l2).bind fun r12 => (m_madeOrNone n p count sorts rows r12 ((2 : Int32))).bind fun r13 => some (r13.1, r13.2.1, r13.2.2.1, r13.2.2.2.1, r13.2.2.2.2, frame, r11, two)))))) else ((m_is count sorts l1 ((1 : Int32))).bind fun r14 => if r14 = 0 then (if n = ((2 : Int32)) then (some ((-2 : Int32), count, sorts, rows, draft, frame, one, two)) else ((m_is count sorts l1 ((1 : Int32))).bind fun r15 => if r15 = 0 then (some ((-2 : Int32), count, sorts, rows, draft, frame, one, two)) else ((m_is count sorts l1 ((0 : Int32))).bind fun r16 => if r16 = 0 then (some ((-2 : Int32), count, sorts, rows, draft, frame, one, two)) else ((m_takeOne n rows one l1).bind fun r17 => (m_spanned p rows draft r17 l1).bind fun r18 => (m_madeOrNone n p count sorts rows r18 ((2 : Int32))).bind fun r19 => some (r19.1, r19.2.1, r19.2.2.1, r19.2.2.2.1, r19.2.2.2.2, frame, r17, two))))) else (if n = ((2 : Int32)) then (some ((-2 : Int32), count, sorts, rows, draft, frame, one, two)) else ((m_is count sorts l1 ((1 : Int32))).bind fun r20 => if r20 = 0 then (some ((-2 : Int32), count, sorts, rows, draft, frame, one, two)) else ((m_is count sorts l2 ((0 : Int32))).bind fun r21 => if r21 = 0 then (some ((-2 : Int32), count, sorts, rows, draft, frame, one, two)) else ((m_takeOne n rows one l2).bind fun r22 => (m_spanned p rows draft r22 l1).bind fun r23 => (m_madeOrNone n p count sorts rows r23 ((2 : Int32))).bind fun r24 => some (r24.1, r24.2.1, r24.2.2.1, r24.2.2.2.1, r24.2.2.2.2, frame, r22, two))))))
noncomputable def m_join_J47 (n : Int32) (p : Int64) (count : Int32) (sorts : Nat → Int32) (rows : Nat → Int64) (draft : Nat → Int64) (frame : Nat → Int64) (one : Nat → Int64) (two : Nat → Int64) (l1 : Int32) (l2 : Int32) : Option (Int32 × Int32 × (Nat → Int32) × (Nat → Int64) × (Nat → Int64) × (Nat → Int64) × (Nat → Int64) × (Nat → Int64)) := if n = ((3 : Int32)) then ((m_is count sorts l1 ((1 : Int32))).bind fun r25 => if r25 = 0 then (m_join_J98 n p count sorts rows draft frame one two l1 l2) else ((m_is count sorts l2 ((1 : Int32))).bind fun r26 => if r26 = 0 then (m_join_J98 n p count sorts rows draft frame one two l1 l2) else (if l1 = l2 then (some ((-1 : Int32), count, sorts, rows, draft, frame, one, two)) else ((m_isCrossed p rows l1 l2).bind fun r27 => if r27 = 0 then (some ((-1 : Int32), count, sorts, rows, draft, frame, one, two)) else ((m_joined n p count sorts rows draft frame one two l1 l2).bind fun r28 => some (r28.1, r28.2.1, r28.2.2.1, r28.2.2.2.1, r28.2.2.2.2.1, r28.2.2.2.2.2.1, r28.2.2.2.2.2.2.1, r28.2.2.2.2.2.2.2)))))) else (m_join_J98 n p count sorts rows draft frame one two l1 l2)
noncomputable def m_join (n : Int32) (p : Int64) (count : Int32) (sorts : Nat → Int32) (rows : Nat → Int64) (draft : Nat → Int64) (frame : Nat → Int64) (one : Nat → Int64) (two : Nat → Int64) (x1 : Int32) (x2 : Int32) : Option (Int32 × Int32 × (Nat → Int32) × (Nat → Int64) × (Nat → Int64) × (Nat → Int64) × (Nat → Int64) × (Nat → Int64)) := (m_is count sorts x1 ((0 : Int32))).bind fun r1 => if r1 = 0 then (m_join_J47 n p count sorts rows draft frame one two x1 x2) else ((m_is count sorts x2 ((0 : Int32))).bind fun r29 => if r29 = 0 then (m_join_J47 n p count sorts rows draft frame one two x1 x2) else ((m_takeOne n rows one x1).bind fun r30 => (m_takeTwo n rows two x2).bind fun r31 => (m_through n p draft r30 r31).bind fun r32 => if x1 = x2 then (some ((-1 : Int32), count, sorts, rows, r32, frame, r30, r31)) else ((m_made n p count sorts rows r32 ((1 : Int32))).bind fun r33 => some (r33.1, r33.2.1, r33.2.2.1, r33.2.2.2.1, r33.2.2.2.2, frame, r30, r31))))
set_option maxHeartbeats 4000000 in
set_option maxRecDepth 100000 in
theorem w_join_J98 {K : kT} {O : oT} (C : aC K cX6_join RX6 "join" 6 106 0 0 5 (some .int) O) {h0 : Nat} {hp : cH} {sz : Nat} {n : Int32} {p : Int64} {count : Int32} {sorts : Nat → Int32} {rows : Nat → Int64} {hand : Nat → Int64} {gathered : Int32} {gather : Nat → Int32} {paired : Int32} {pairA : Nat → Int32} {pairB : Nat → Int32} {ideal : Int32} {draft : Nat → Int64} {frame : Nat → Int64} {one : Nat → Int64} {two : Nat → Int64} {turned : Nat → Int64} {placeI : Int32} {placeJ : Int32} {formA : Int64} {formB : Int64} {formC : Int64} {l1 : Int32} {l2 : Int32} {out : (Int32 × Int32 × (Nat → Int32) × (Nat → Int64) × (Nat → Int64) × (Nat → Int64) × (Nat → Int64) × (Nat → Int64))} (h : m_join_J98 n p count sorts rows draft frame one two l1 l2 = some out) (hO : ((some (.int out.1), mw h0 hp n p out.2.1 out.2.2.1 out.2.2.2.1 hand gathered gather paired pairA pairB ideal out.2.2.2.2.1 out.2.2.2.2.2.1 out.2.2.2.2.2.2.1 out.2.2.2.2.2.2.2 turned placeI placeJ formA formB formC, sz) : oT) = O) : aW K (mw h0 hp n p count sorts rows hand gathered gather paired pairA pairB ideal draft frame one two turned placeI placeJ formA formB formC) sz 0 0 98 [(0, .ref h0), (1, .int l1), (2, .int l2)] [] := by
  unfold m_join_J98 at h
  refine r_aload_n C 0 rfl dX6_join_98 rfl ?_
  refine r_iload_n C 1 rfl dX6_join_99 rfl ?_
  refine r_iconst C (v := 1) dX6_join_100 (by decide) ?_
  obtain ⟨r2, qr2, h⟩ := bd_i h
  refine q_callV C 0 0 0 (c_is qr2) rfl mw_self rfl ok_is in_is lk6_146 rfl (Nat.le_of_ble_eq_true rfl) ⟨Nat.le_of_ble_eq_true rfl, Nat.le_of_ble_eq_true rfl⟩ dX6_join_101 rfl rfl ?_
  refine r_if_eq C (tgt := 111) dX6_join_104 (by decide) (fun hc => ?_) (fun hc => ?_)
  · replace h := br_p hc h
    refine r_iload_n C 2 rfl dX6_join_111 rfl ?_
    refine r_istore_n C (lv' := [(3, .int l2), (0, .ref h0), (1, .int l1), (2, .int l2)]) dX6_join_112 rfl (by decide) rfl ?_
    refine r_aload_n C 1 rfl dX6_join_113 rfl ?_
    refine r_iload_n C 2 rfl dX6_join_114 rfl ?_
    refine r_iconst C (v := 1) dX6_join_115 (by decide) ?_
    obtain ⟨r3, qr3, h⟩ := bd_i h
    refine q_callV C 0 0 0 (c_is qr3) rfl mw_self rfl ok_is in_is lk6_146 rfl (Nat.le_of_ble_eq_true rfl) ⟨Nat.le_of_ble_eq_true rfl, Nat.le_of_ble_eq_true rfl⟩ dX6_join_116 rfl rfl ?_
    refine r_if_eq C (tgt := 126) dX6_join_119 (by decide) (fun hc => ?_) (fun hc => ?_)
    · replace h := br_p hc h
      refine r_iload_n C 2 rfl dX6_join_126 rfl ?_
      refine r_istore C (lv' := [(4, .int l1), (3, .int l2), (0, .ref h0), (1, .int l1), (2, .int l2)]) dX6_join_127 (by decide) rfl ?_
      refine r_aload_n C 2 rfl dX6_join_129 rfl ?_
      refine m_g_n C dX6_join_130 ?_
      refine r_iconst C (v := 2) dX6_join_133 (by decide) ?_
      refine r_icmp_eq C (tgt := 156) dX6_join_134 (by decide) (fun hc => ?_) (fun hc => ?_)
      · replace h := br_p hc h
        refine r_bipush C (v := -2) dX6_join_156 (by decide) ?_
        obtain rfl := sm_i h
        exact r_ireturn C (Eq.symm hO) dX6_join_158
      · replace h := br_n hc h
        refine r_aload_n C 2 rfl dX6_join_137 rfl ?_
        refine r_iload_n C 1 rfl dX6_join_138 rfl ?_
        refine r_iconst C (v := 1) dX6_join_139 (by decide) ?_
        obtain ⟨r4, qr4, h⟩ := bd_i h
        refine q_callV C 0 0 0 (c_is qr4) rfl mw_self rfl ok_is in_is lk6_146 rfl (Nat.le_of_ble_eq_true rfl) ⟨Nat.le_of_ble_eq_true rfl, Nat.le_of_ble_eq_true rfl⟩ dX6_join_140 rfl rfl ?_
        refine r_if_eq C (tgt := 156) dX6_join_143 (by decide) (fun hc => ?_) (fun hc => ?_)
        · replace h := br_p hc h
          refine r_bipush C (v := -2) dX6_join_156 (by decide) ?_
          obtain rfl := sm_i h
          exact r_ireturn C (Eq.symm hO) dX6_join_158
        · replace h := br_n hc h
          refine r_aload_n C 2 rfl dX6_join_146 rfl ?_
          refine r_iload C 0 rfl dX6_join_147 ?_
          refine r_iconst C (v := 0) dX6_join_149 (by decide) ?_
          obtain ⟨r5, qr5, h⟩ := bd_i h
          refine q_callV C 0 0 0 (c_is qr5) rfl mw_self rfl ok_is in_is lk6_146 rfl (Nat.le_of_ble_eq_true rfl) ⟨Nat.le_of_ble_eq_true rfl, Nat.le_of_ble_eq_true rfl⟩ dX6_join_150 rfl rfl ?_
          refine r_if_ne C (tgt := 159) dX6_join_153 (by decide) (fun hc => ?_) (fun hc => ?_)
          · replace h := br_n hc h
            refine r_aload_n C 2 rfl dX6_join_159 rfl ?_
            refine r_iload C 0 rfl dX6_join_160 ?_
            obtain ⟨r6, qr6, h⟩ := bd_i h
            refine q_callVv C 0 0 0 (c_takeOne qr6) rfl mw_self rfl ok_takeOne in_takeOne lk6_150 rfl (Nat.le_of_ble_eq_true rfl) ⟨Nat.le_of_ble_eq_true rfl, Nat.le_of_ble_eq_true rfl⟩ dX6_join_162 rfl rfl ?_
            refine r_aload_n C 2 rfl dX6_join_165 rfl ?_
            refine r_iload_n C 1 rfl dX6_join_166 rfl ?_
            obtain ⟨r7, qr7, h⟩ := bd_i h
            refine q_callVv C 0 0 0 (c_spanned qr7) rfl mw_self rfl ok_spanned in_spanned lk6_165 rfl (Nat.le_of_ble_eq_true rfl) ⟨Nat.le_of_ble_eq_true rfl, Nat.le_of_ble_eq_true rfl⟩ dX6_join_167 rfl rfl ?_
            refine r_aload_n C 2 rfl dX6_join_170 rfl ?_
            refine r_iconst C (v := 2) dX6_join_171 (by decide) ?_
            obtain ⟨r8, qr8, h⟩ := bd_i h
            refine q_callV C 0 0 0 (c_madeOrNone qr8) rfl mw_self rfl ok_madeOrNone in_madeOrNone lk6_168 rfl (Nat.le_of_ble_eq_true rfl) ⟨Nat.le_of_ble_eq_true rfl, Nat.le_of_ble_eq_true rfl⟩ dX6_join_172 rfl rfl ?_
            obtain rfl := sm_i h
            exact r_ireturn C (Eq.symm hO) dX6_join_175
          · replace h := br_p hc h
            refine r_bipush C (v := -2) dX6_join_156 (by decide) ?_
            obtain rfl := sm_i h
            exact r_ireturn C (Eq.symm hO) dX6_join_158
    · replace h := br_n hc h
      refine r_iload_n C 3 rfl dX6_join_122 rfl ?_
      refine r_goto C (tgt := 127) dX6_join_123 (by decide) ?_
      refine r_istore C (lv' := [(4, .int l2), (3, .int l2), (0, .ref h0), (1, .int l1), (2, .int l2)]) dX6_join_127 (by decide) rfl ?_
      refine r_aload_n C 2 rfl dX6_join_129 rfl ?_
      refine m_g_n C dX6_join_130 ?_
      refine r_iconst C (v := 2) dX6_join_133 (by decide) ?_
      refine r_icmp_eq C (tgt := 156) dX6_join_134 (by decide) (fun hc => ?_) (fun hc => ?_)
      · replace h := br_p hc h
        refine r_bipush C (v := -2) dX6_join_156 (by decide) ?_
        obtain rfl := sm_i h
        exact r_ireturn C (Eq.symm hO) dX6_join_158
      · replace h := br_n hc h
        refine r_aload_n C 2 rfl dX6_join_137 rfl ?_
        refine r_iload_n C 1 rfl dX6_join_138 rfl ?_
        refine r_iconst C (v := 1) dX6_join_139 (by decide) ?_
        obtain ⟨r9, qr9, h⟩ := bd_i h
        refine q_callV C 0 0 0 (c_is qr9) rfl mw_self rfl ok_is in_is lk6_146 rfl (Nat.le_of_ble_eq_true rfl) ⟨Nat.le_of_ble_eq_true rfl, Nat.le_of_ble_eq_true rfl⟩ dX6_join_140 rfl rfl ?_
        refine r_if_eq C (tgt := 156) dX6_join_143 (by decide) (fun hc => ?_) (fun hc => ?_)
        · replace h := br_p hc h
          refine r_bipush C (v := -2) dX6_join_156 (by decide) ?_
          obtain rfl := sm_i h
          exact r_ireturn C (Eq.symm hO) dX6_join_158
        · replace h := br_n hc h
          refine r_aload_n C 2 rfl dX6_join_146 rfl ?_
          refine r_iload C 0 rfl dX6_join_147 ?_
          refine r_iconst C (v := 0) dX6_join_149 (by decide) ?_
          obtain ⟨r10, qr10, h⟩ := bd_i h
          refine q_callV C 0 0 0 (c_is qr10) rfl mw_self rfl ok_is in_is lk6_146 rfl (Nat.le_of_ble_eq_true rfl) ⟨Nat.le_of_ble_eq_true rfl, Nat.le_of_ble_eq_true rfl⟩ dX6_join_150 rfl rfl ?_
          refine r_if_ne C (tgt := 159) dX6_join_153 (by decide) (fun hc => ?_) (fun hc => ?_)
          · replace h := br_n hc h
            refine r_aload_n C 2 rfl dX6_join_159 rfl ?_
            refine r_iload C 0 rfl dX6_join_160 ?_
            obtain ⟨r11, qr11, h⟩ := bd_i h
            refine q_callVv C 0 0 0 (c_takeOne qr11) rfl mw_self rfl ok_takeOne in_takeOne lk6_150 rfl (Nat.le_of_ble_eq_true rfl) ⟨Nat.le_of_ble_eq_true rfl, Nat.le_of_ble_eq_true rfl⟩ dX6_join_162 rfl rfl ?_
            refine r_aload_n C 2 rfl dX6_join_165 rfl ?_
            refine r_iload_n C 1 rfl dX6_join_166 rfl ?_
            obtain ⟨r12, qr12, h⟩ := bd_i h
            refine q_callVv C 0 0 0 (c_spanned qr12) rfl mw_self rfl ok_spanned in_spanned lk6_165 rfl (Nat.le_of_ble_eq_true rfl) ⟨Nat.le_of_ble_eq_true rfl, Nat.le_of_ble_eq_true rfl⟩ dX6_join_167 rfl rfl ?_
            refine r_aload_n C 2 rfl dX6_join_170 rfl ?_
            refine r_iconst C (v := 2) dX6_join_171 (by decide) ?_
            obtain ⟨r13, qr13, h⟩ := bd_i h
            refine q_callV C 0 0 0 (c_madeOrNone qr13) rfl mw_self rfl ok_madeOrNone in_madeOrNone lk6_168 rfl (Nat.le_of_ble_eq_true rfl) ⟨Nat.le_of_ble_eq_true rfl, Nat.le_of_ble_eq_true rfl⟩ dX6_join_172 rfl rfl ?_
            obtain rfl := sm_i h
            exact r_ireturn C (Eq.symm hO) dX6_join_175
          · replace h := br_p hc h
            refine r_bipush C (v := -2) dX6_join_156 (by decide) ?_
            obtain rfl := sm_i h
            exact r_ireturn C (Eq.symm hO) dX6_join_158
  · replace h := br_n hc h
    refine r_iload_n C 1 rfl dX6_join_107 rfl ?_
    refine r_goto C (tgt := 112) dX6_join_108 (by decide) ?_
    refine r_istore_n C (lv' := [(3, .int l1), (0, .ref h0), (1, .int l1), (2, .int l2)]) dX6_join_112 rfl (by decide) rfl ?_
    refine r_aload_n C 1 rfl dX6_join_113 rfl ?_
    refine r_iload_n C 2 rfl dX6_join_114 rfl ?_
    refine r_iconst C (v := 1) dX6_join_115 (by decide) ?_
    obtain ⟨r14, qr14, h⟩ := bd_i h
    refine q_callV C 0 0 0 (c_is qr14) rfl mw_self rfl ok_is in_is lk6_146 rfl (Nat.le_of_ble_eq_true rfl) ⟨Nat.le_of_ble_eq_true rfl, Nat.le_of_ble_eq_true rfl⟩ dX6_join_116 rfl rfl ?_
    refine r_if_eq C (tgt := 126) dX6_join_119 (by decide) (fun hc => ?_) (fun hc => ?_)
    · replace h := br_p hc h
      refine r_iload_n C 2 rfl dX6_join_126 rfl ?_
      refine r_istore C (lv' := [(4, .int l1), (3, .int l1), (0, .ref h0), (1, .int l1), (2, .int l2)]) dX6_join_127 (by decide) rfl ?_
      refine r_aload_n C 2 rfl dX6_join_129 rfl ?_
      refine m_g_n C dX6_join_130 ?_
      refine r_iconst C (v := 2) dX6_join_133 (by decide) ?_
      refine r_icmp_eq C (tgt := 156) dX6_join_134 (by decide) (fun hc => ?_) (fun hc => ?_)
      · replace h := br_p hc h
        refine r_bipush C (v := -2) dX6_join_156 (by decide) ?_
        obtain rfl := sm_i h
        exact r_ireturn C (Eq.symm hO) dX6_join_158
      · replace h := br_n hc h
        refine r_aload_n C 2 rfl dX6_join_137 rfl ?_
        refine r_iload_n C 1 rfl dX6_join_138 rfl ?_
        refine r_iconst C (v := 1) dX6_join_139 (by decide) ?_
        obtain ⟨r15, qr15, h⟩ := bd_i h
        refine q_callV C 0 0 0 (c_is qr15) rfl mw_self rfl ok_is in_is lk6_146 rfl (Nat.le_of_ble_eq_true rfl) ⟨Nat.le_of_ble_eq_true rfl, Nat.le_of_ble_eq_true rfl⟩ dX6_join_140 rfl rfl ?_
        refine r_if_eq C (tgt := 156) dX6_join_143 (by decide) (fun hc => ?_) (fun hc => ?_)
        · replace h := br_p hc h
          refine r_bipush C (v := -2) dX6_join_156 (by decide) ?_
          obtain rfl := sm_i h
          exact r_ireturn C (Eq.symm hO) dX6_join_158
        · replace h := br_n hc h
          refine r_aload_n C 2 rfl dX6_join_146 rfl ?_
          refine r_iload C 0 rfl dX6_join_147 ?_
          refine r_iconst C (v := 0) dX6_join_149 (by decide) ?_
          obtain ⟨r16, qr16, h⟩ := bd_i h
          refine q_callV C 0 0 0 (c_is qr16) rfl mw_self rfl ok_is in_is lk6_146 rfl (Nat.le_of_ble_eq_true rfl) ⟨Nat.le_of_ble_eq_true rfl, Nat.le_of_ble_eq_true rfl⟩ dX6_join_150 rfl rfl ?_
          refine r_if_ne C (tgt := 159) dX6_join_153 (by decide) (fun hc => ?_) (fun hc => ?_)
          · replace h := br_n hc h
            refine r_aload_n C 2 rfl dX6_join_159 rfl ?_
            refine r_iload C 0 rfl dX6_join_160 ?_
            obtain ⟨r17, qr17, h⟩ := bd_i h
            refine q_callVv C 0 0 0 (c_takeOne qr17) rfl mw_self rfl ok_takeOne in_takeOne lk6_150 rfl (Nat.le_of_ble_eq_true rfl) ⟨Nat.le_of_ble_eq_true rfl, Nat.le_of_ble_eq_true rfl⟩ dX6_join_162 rfl rfl ?_
            refine r_aload_n C 2 rfl dX6_join_165 rfl ?_
            refine r_iload_n C 1 rfl dX6_join_166 rfl ?_
            obtain ⟨r18, qr18, h⟩ := bd_i h
            refine q_callVv C 0 0 0 (c_spanned qr18) rfl mw_self rfl ok_spanned in_spanned lk6_165 rfl (Nat.le_of_ble_eq_true rfl) ⟨Nat.le_of_ble_eq_true rfl, Nat.le_of_ble_eq_true rfl⟩ dX6_join_167 rfl rfl ?_
            refine r_aload_n C 2 rfl dX6_join_170 rfl ?_
            refine r_iconst C (v := 2) dX6_join_171 (by decide) ?_
            obtain ⟨r19, qr19, h⟩ := bd_i h
            refine q_callV C 0 0 0 (c_madeOrNone qr19) rfl mw_self rfl ok_madeOrNone in_madeOrNone lk6_168 rfl (Nat.le_of_ble_eq_true rfl) ⟨Nat.le_of_ble_eq_true rfl, Nat.le_of_ble_eq_true rfl⟩ dX6_join_172 rfl rfl ?_
            obtain rfl := sm_i h
            exact r_ireturn C (Eq.symm hO) dX6_join_175
          · replace h := br_p hc h
            refine r_bipush C (v := -2) dX6_join_156 (by decide) ?_
            obtain rfl := sm_i h
            exact r_ireturn C (Eq.symm hO) dX6_join_158
    · replace h := br_n hc h
      refine r_iload_n C 3 rfl dX6_join_122 rfl ?_
      refine r_goto C (tgt := 127) dX6_join_123 (by decide) ?_
      refine r_istore C (lv' := [(4, .int l2), (3, .int l1), (0, .ref h0), (1, .int l1), (2, .int l2)]) dX6_join_127 (by decide) rfl ?_
      refine r_aload_n C 2 rfl dX6_join_129 rfl ?_
      refine m_g_n C dX6_join_130 ?_
      refine r_iconst C (v := 2) dX6_join_133 (by decide) ?_
      refine r_icmp_eq C (tgt := 156) dX6_join_134 (by decide) (fun hc => ?_) (fun hc => ?_)
      · replace h := br_p hc h
        refine r_bipush C (v := -2) dX6_join_156 (by decide) ?_
        obtain rfl := sm_i h
        exact r_ireturn C (Eq.symm hO) dX6_join_158
      · replace h := br_n hc h
        refine r_aload_n C 2 rfl dX6_join_137 rfl ?_
        refine r_iload_n C 1 rfl dX6_join_138 rfl ?_
        refine r_iconst C (v := 1) dX6_join_139 (by decide) ?_
        obtain ⟨r20, qr20, h⟩ := bd_i h
        refine q_callV C 0 0 0 (c_is qr20) rfl mw_self rfl ok_is in_is lk6_146 rfl (Nat.le_of_ble_eq_true rfl) ⟨Nat.le_of_ble_eq_true rfl, Nat.le_of_ble_eq_true rfl⟩ dX6_join_140 rfl rfl ?_
        refine r_if_eq C (tgt := 156) dX6_join_143 (by decide) (fun hc => ?_) (fun hc => ?_)
        · replace h := br_p hc h
          refine r_bipush C (v := -2) dX6_join_156 (by decide) ?_
          obtain rfl := sm_i h
          exact r_ireturn C (Eq.symm hO) dX6_join_158
        · replace h := br_n hc h
          refine r_aload_n C 2 rfl dX6_join_146 rfl ?_
          refine r_iload C 0 rfl dX6_join_147 ?_
          refine r_iconst C (v := 0) dX6_join_149 (by decide) ?_
          obtain ⟨r21, qr21, h⟩ := bd_i h
          refine q_callV C 0 0 0 (c_is qr21) rfl mw_self rfl ok_is in_is lk6_146 rfl (Nat.le_of_ble_eq_true rfl) ⟨Nat.le_of_ble_eq_true rfl, Nat.le_of_ble_eq_true rfl⟩ dX6_join_150 rfl rfl ?_
          refine r_if_ne C (tgt := 159) dX6_join_153 (by decide) (fun hc => ?_) (fun hc => ?_)
          · replace h := br_n hc h
            refine r_aload_n C 2 rfl dX6_join_159 rfl ?_
            refine r_iload C 0 rfl dX6_join_160 ?_
            obtain ⟨r22, qr22, h⟩ := bd_i h
            refine q_callVv C 0 0 0 (c_takeOne qr22) rfl mw_self rfl ok_takeOne in_takeOne lk6_150 rfl (Nat.le_of_ble_eq_true rfl) ⟨Nat.le_of_ble_eq_true rfl, Nat.le_of_ble_eq_true rfl⟩ dX6_join_162 rfl rfl ?_
            refine r_aload_n C 2 rfl dX6_join_165 rfl ?_
            refine r_iload_n C 1 rfl dX6_join_166 rfl ?_
            obtain ⟨r23, qr23, h⟩ := bd_i h
            refine q_callVv C 0 0 0 (c_spanned qr23) rfl mw_self rfl ok_spanned in_spanned lk6_165 rfl (Nat.le_of_ble_eq_true rfl) ⟨Nat.le_of_ble_eq_true rfl, Nat.le_of_ble_eq_true rfl⟩ dX6_join_167 rfl rfl ?_
            refine r_aload_n C 2 rfl dX6_join_170 rfl ?_
            refine r_iconst C (v := 2) dX6_join_171 (by decide) ?_
            obtain ⟨r24, qr24, h⟩ := bd_i h
            refine q_callV C 0 0 0 (c_madeOrNone qr24) rfl mw_self rfl ok_madeOrNone in_madeOrNone lk6_168 rfl (Nat.le_of_ble_eq_true rfl) ⟨Nat.le_of_ble_eq_true rfl, Nat.le_of_ble_eq_true rfl⟩ dX6_join_172 rfl rfl ?_
            obtain rfl := sm_i h
            exact r_ireturn C (Eq.symm hO) dX6_join_175
          · replace h := br_p hc h
            refine r_bipush C (v := -2) dX6_join_156 (by decide) ?_
            obtain rfl := sm_i h
            exact r_ireturn C (Eq.symm hO) dX6_join_158
set_option maxHeartbeats 4000000 in
set_option maxRecDepth 100000 in
theorem w_join_J47 {K : kT} {O : oT} (C : aC K cX6_join RX6 "join" 6 106 0 0 5 (some .int) O) {h0 : Nat} {hp : cH} {sz : Nat} {n : Int32} {p : Int64} {count : Int32} {sorts : Nat → Int32} {rows : Nat → Int64} {hand : Nat → Int64} {gathered : Int32} {gather : Nat → Int32} {paired : Int32} {pairA : Nat → Int32} {pairB : Nat → Int32} {ideal : Int32} {draft : Nat → Int64} {frame : Nat → Int64} {one : Nat → Int64} {two : Nat → Int64} {turned : Nat → Int64} {placeI : Int32} {placeJ : Int32} {formA : Int64} {formB : Int64} {formC : Int64} {l1 : Int32} {l2 : Int32} {out : (Int32 × Int32 × (Nat → Int32) × (Nat → Int64) × (Nat → Int64) × (Nat → Int64) × (Nat → Int64) × (Nat → Int64))} (h : m_join_J47 n p count sorts rows draft frame one two l1 l2 = some out) (hO : ((some (.int out.1), mw h0 hp n p out.2.1 out.2.2.1 out.2.2.2.1 hand gathered gather paired pairA pairB ideal out.2.2.2.2.1 out.2.2.2.2.2.1 out.2.2.2.2.2.2.1 out.2.2.2.2.2.2.2 turned placeI placeJ formA formB formC, sz) : oT) = O) : aW K (mw h0 hp n p count sorts rows hand gathered gather paired pairA pairB ideal draft frame one two turned placeI placeJ formA formB formC) sz 0 0 47 [(0, .ref h0), (1, .int l1), (2, .int l2)] [] := by
  unfold m_join_J47 at h
  refine r_aload_n C 0 rfl dX6_join_47 rfl ?_
  refine m_g_n C dX6_join_48 ?_
  refine r_iconst C (v := 3) dX6_join_51 (by decide) ?_
  refine r_icmp_ne C (tgt := 98) dX6_join_52 (by decide) (fun hc => ?_) (fun hc => ?_)
  · replace h := br_n hc h
    refine r_lv [0, 1, 2] rfl ?_
    exact w_join_J98 C h hO
  · replace h := br_p hc h
    refine r_aload_n C 0 rfl dX6_join_55 rfl ?_
    refine r_iload_n C 1 rfl dX6_join_56 rfl ?_
    refine r_iconst C (v := 1) dX6_join_57 (by decide) ?_
    obtain ⟨r25, qr25, h⟩ := bd_i h
    refine q_callV C 0 0 0 (c_is qr25) rfl mw_self rfl ok_is in_is lk6_146 rfl (Nat.le_of_ble_eq_true rfl) ⟨Nat.le_of_ble_eq_true rfl, Nat.le_of_ble_eq_true rfl⟩ dX6_join_58 rfl rfl ?_
    refine r_if_eq C (tgt := 98) dX6_join_61 (by decide) (fun hc => ?_) (fun hc => ?_)
    · replace h := br_p hc h
      refine r_lv [0, 1, 2] rfl ?_
      exact w_join_J98 C h hO
    · replace h := br_n hc h
      refine r_aload_n C 0 rfl dX6_join_64 rfl ?_
      refine r_iload_n C 2 rfl dX6_join_65 rfl ?_
      refine r_iconst C (v := 1) dX6_join_66 (by decide) ?_
      obtain ⟨r26, qr26, h⟩ := bd_i h
      refine q_callV C 0 0 0 (c_is qr26) rfl mw_self rfl ok_is in_is lk6_146 rfl (Nat.le_of_ble_eq_true rfl) ⟨Nat.le_of_ble_eq_true rfl, Nat.le_of_ble_eq_true rfl⟩ dX6_join_67 rfl rfl ?_
      refine r_if_eq C (tgt := 98) dX6_join_70 (by decide) (fun hc => ?_) (fun hc => ?_)
      · replace h := br_p hc h
        refine r_lv [0, 1, 2] rfl ?_
        exact w_join_J98 C h hO
      · replace h := br_n hc h
        refine r_iload_n C 1 rfl dX6_join_73 rfl ?_
        refine r_iload_n C 2 rfl dX6_join_74 rfl ?_
        refine r_icmp_eq C (tgt := 87) dX6_join_75 (by decide) (fun hc => ?_) (fun hc => ?_)
        · replace h := br_p hc h
          refine r_iconst C (v := -1) dX6_join_87 (by decide) ?_
          refine r_goto C (tgt := 97) dX6_join_88 (by decide) ?_
          obtain rfl := sm_i h
          exact r_ireturn C (Eq.symm hO) dX6_join_97
        · replace h := br_n hc h
          refine r_aload_n C 0 rfl dX6_join_78 rfl ?_
          refine r_iload_n C 1 rfl dX6_join_79 rfl ?_
          refine r_iload_n C 2 rfl dX6_join_80 rfl ?_
          obtain ⟨r27, qr27, h⟩ := bd_i h
          refine q_callV C 0 0 0 (c_isCrossed qr27) rfl mw_self rfl ok_isCrossed in_isCrossed lk6_159 rfl (Nat.le_of_ble_eq_true rfl) ⟨Nat.le_of_ble_eq_true rfl, Nat.le_of_ble_eq_true rfl⟩ dX6_join_81 rfl rfl ?_
          refine r_if_ne C (tgt := 91) dX6_join_84 (by decide) (fun hc => ?_) (fun hc => ?_)
          · replace h := br_n hc h
            refine r_aload_n C 0 rfl dX6_join_91 rfl ?_
            refine r_iload_n C 1 rfl dX6_join_92 rfl ?_
            refine r_iload_n C 2 rfl dX6_join_93 rfl ?_
            obtain ⟨r28, qr28, h⟩ := bd_i h
            refine q_callV C 0 0 0 (c_joined qr28) rfl mw_self rfl ok_joined in_joined lk6_162 rfl (Nat.le_of_ble_eq_true rfl) ⟨Nat.le_of_ble_eq_true rfl, Nat.le_of_ble_eq_true rfl⟩ dX6_join_94 rfl rfl ?_
            obtain rfl := sm_i h
            exact r_ireturn C (Eq.symm hO) dX6_join_97
          · replace h := br_p hc h
            refine r_iconst C (v := -1) dX6_join_87 (by decide) ?_
            refine r_goto C (tgt := 97) dX6_join_88 (by decide) ?_
            obtain rfl := sm_i h
            exact r_ireturn C (Eq.symm hO) dX6_join_97
set_option maxHeartbeats 4000000 in
set_option maxRecDepth 100000 in
theorem c_join {G : gT} {h0 : Nat} {hp : cH} {sz : Nat} {n : Int32} {p : Int64} {count : Int32} {sorts : Nat → Int32} {rows : Nat → Int64} {hand : Nat → Int64} {gathered : Int32} {gather : Nat → Int32} {paired : Int32} {pairA : Nat → Int32} {pairB : Nat → Int32} {ideal : Int32} {draft : Nat → Int64} {frame : Nat → Int64} {one : Nat → Int64} {two : Nat → Int64} {turned : Nat → Int64} {placeI : Int32} {placeJ : Int32} {formA : Int64} {formB : Int64} {formC : Int64} {x1 : Int32} {x2 : Int32} {out : (Int32 × Int32 × (Nat → Int32) × (Nat → Int64) × (Nat → Int64) × (Nat → Int64) × (Nat → Int64) × (Nat → Int64))} (h : m_join n p count sorts rows draft frame one two x1 x2 = some out) : aM G yX6_join cX6_join 5 (some .int) 6 106 0 0 [.ref h0, .int x1, .int x2] (mw h0 hp n p count sorts rows hand gathered gather paired pairA pairB ideal draft frame one two turned placeI placeJ formA formB formC) sz ((some (.int out.1), mw h0 hp n p out.2.1 out.2.2.1 out.2.2.2.1 hand gathered gather paired pairA pairB ideal out.2.2.2.2.1 out.2.2.2.2.2.1 out.2.2.2.2.2.2.1 out.2.2.2.2.2.2.2 turned placeI placeJ formA formB formC, sz) : oT) := by
  refine aM.of RX6 (by decide) rfl (Nat.le_of_ble_eq_true rfl) (fun K C => ?_)
  have hO : ((some (.int out.1), mw h0 hp n p out.2.1 out.2.2.1 out.2.2.2.1 hand gathered gather paired pairA pairB ideal out.2.2.2.2.1 out.2.2.2.2.2.1 out.2.2.2.2.2.2.1 out.2.2.2.2.2.2.2 turned placeI placeJ formA formB formC, sz) : oT) = ((some (.int out.1), mw h0 hp n p out.2.1 out.2.2.1 out.2.2.2.1 hand gathered gather paired pairA pairB ideal out.2.2.2.2.1 out.2.2.2.2.2.1 out.2.2.2.2.2.2.1 out.2.2.2.2.2.2.2 turned placeI placeJ formA formB formC, sz) : oT) := rfl
  refine r_lve (lv' := [(0, .ref h0), (1, .int x1), (2, .int x2)]) rfl ?_
  unfold m_join at h
  refine r_aload_n C 0 rfl dX6_join_0 rfl ?_
  refine r_iload_n C 1 rfl dX6_join_1 rfl ?_
  refine r_iconst C (v := 0) dX6_join_2 (by decide) ?_
  obtain ⟨r1, qr1, h⟩ := bd_i h
  refine q_callV C 0 0 0 (c_is qr1) rfl mw_self rfl ok_is in_is lk6_146 rfl (Nat.le_of_ble_eq_true rfl) ⟨Nat.le_of_ble_eq_true rfl, Nat.le_of_ble_eq_true rfl⟩ dX6_join_3 rfl rfl ?_
  refine r_if_eq C (tgt := 47) dX6_join_6 (by decide) (fun hc => ?_) (fun hc => ?_)
  · replace h := br_p hc h
    refine r_lv [0, 1, 2] rfl ?_
    exact w_join_J47 C h hO
  · replace h := br_n hc h
    refine r_aload_n C 0 rfl dX6_join_9 rfl ?_
    refine r_iload_n C 2 rfl dX6_join_10 rfl ?_
    refine r_iconst C (v := 0) dX6_join_11 (by decide) ?_
    obtain ⟨r29, qr29, h⟩ := bd_i h
    refine q_callV C 0 0 0 (c_is qr29) rfl mw_self rfl ok_is in_is lk6_146 rfl (Nat.le_of_ble_eq_true rfl) ⟨Nat.le_of_ble_eq_true rfl, Nat.le_of_ble_eq_true rfl⟩ dX6_join_12 rfl rfl ?_
    refine r_if_eq C (tgt := 47) dX6_join_15 (by decide) (fun hc => ?_) (fun hc => ?_)
    · replace h := br_p hc h
      refine r_lv [0, 1, 2] rfl ?_
      exact w_join_J47 C h hO
    · replace h := br_n hc h
      refine r_aload_n C 0 rfl dX6_join_18 rfl ?_
      refine r_iload_n C 1 rfl dX6_join_19 rfl ?_
      obtain ⟨r30, qr30, h⟩ := bd_i h
      refine q_callVv C 0 0 0 (c_takeOne qr30) rfl mw_self rfl ok_takeOne in_takeOne lk6_150 rfl (Nat.le_of_ble_eq_true rfl) ⟨Nat.le_of_ble_eq_true rfl, Nat.le_of_ble_eq_true rfl⟩ dX6_join_20 rfl rfl ?_
      refine r_aload_n C 0 rfl dX6_join_23 rfl ?_
      refine r_iload_n C 2 rfl dX6_join_24 rfl ?_
      obtain ⟨r31, qr31, h⟩ := bd_i h
      refine q_callVv C 0 0 0 (c_takeTwo qr31) rfl mw_self rfl ok_takeTwo in_takeTwo lk6_153 rfl (Nat.le_of_ble_eq_true rfl) ⟨Nat.le_of_ble_eq_true rfl, Nat.le_of_ble_eq_true rfl⟩ dX6_join_25 rfl rfl ?_
      refine r_aload_n C 0 rfl dX6_join_28 rfl ?_
      obtain ⟨r32, qr32, h⟩ := bd_i h
      refine q_callVv C 0 0 0 (c_through qr32) rfl mw_self rfl ok_through in_through lk6_156 rfl (Nat.le_of_ble_eq_true rfl) ⟨Nat.le_of_ble_eq_true rfl, Nat.le_of_ble_eq_true rfl⟩ dX6_join_29 rfl rfl ?_
      refine r_iload_n C 1 rfl dX6_join_32 rfl ?_
      refine r_iload_n C 2 rfl dX6_join_33 rfl ?_
      refine r_icmp_ne C (tgt := 41) dX6_join_34 (by decide) (fun hc => ?_) (fun hc => ?_)
      · replace h := br_n hc h
        refine r_aload_n C 0 rfl dX6_join_41 rfl ?_
        refine r_iconst C (v := 1) dX6_join_42 (by decide) ?_
        obtain ⟨r33, qr33, h⟩ := bd_i h
        refine q_callV C 0 0 0 (c_made qr33) rfl mw_self rfl ok_made in_made lk6_133 rfl (Nat.le_of_ble_eq_true rfl) ⟨Nat.le_of_ble_eq_true rfl, Nat.le_of_ble_eq_true rfl⟩ dX6_join_43 rfl rfl ?_
        obtain rfl := sm_i h
        exact r_ireturn C (Eq.symm hO) dX6_join_46
      · replace h := br_p hc h
        refine r_iconst C (v := -1) dX6_join_37 (by decide) ?_
        refine r_goto C (tgt := 46) dX6_join_38 (by decide) ?_
        obtain rfl := sm_i h
        exact r_ireturn C (Eq.symm hO) dX6_join_46
noncomputable def m_pierced_L14 (p : Int64) (rows : Nat → Int64) (l1 : Int32) (l2 : Int32) (l3 : Int32) (s : (Int32 × (Nat → Int64))) : Option ((Int32 × (Nat → Int64)) ⊕ (Nat → Int64)) := if ((4 : Int32)) ≤ s.1 then (some (.inr s.2)) else (if gi l3 16 then (m_entry p rows l1 l3 s.1).bind fun r2 => (m_of rows l2 s.1).bind fun r3 => (m_times p r2 r3).bind fun r4 => if p = 0 then none else if gi l3 16 then some (.inl (s.1 + 1, vp_updL s.2 l3.toNatClampNeg (((s.2 l3.toNatClampNeg) + r4) - ((s.2 l3.toNatClampNeg) + r4) / p * p))) else none else none)
noncomputable def m_pierced_L6 (p : Int64) (rows : Nat → Int64) (l1 : Int32) (l2 : Int32) (s : (Int32 × (Nat → Int64))) : Option ((Int32 × (Nat → Int64)) ⊕ (Nat → Int64)) := if ((4 : Int32)) ≤ s.1 then (some (.inr s.2)) else ((itX (m_pierced_L14 p rows l1 l2 s.1) ((0 : Int32), s.2)).bind fun r5 => some (.inl (s.1 + 1, r5)))
noncomputable def m_pierced (p : Int64) (rows : Nat → Int64) (draft : Nat → Int64) (x1 : Int32) (x2 : Int32) : Option (Nat → Int64) := (m_clear draft).bind fun r1 => (itX (m_pierced_L6 p rows x1 x2) ((0 : Int32), r1)).bind fun r6 => some r6
set_option maxHeartbeats 4000000 in
set_option maxRecDepth 100000 in
theorem w_pierced_L14 {K : kT} {O : oT} (C : aC K cX6_pierced RX6 "pierced" 2 38 0 0 5 none O) {h0 : Nat} {hp : cH} {sz : Nat} {n : Int32} {p : Int64} {count : Int32} {sorts : Nat → Int32} {rows : Nat → Int64} {hand : Nat → Int64} {gathered : Int32} {gather : Nat → Int32} {paired : Int32} {pairA : Nat → Int32} {pairB : Nat → Int32} {ideal : Int32} {frame : Nat → Int64} {one : Nat → Int64} {two : Nat → Int64} {turned : Nat → Int64} {placeI : Int32} {placeJ : Int32} {formA : Int64} {formB : Int64} {formC : Int64} {l1 : Int32} {l2 : Int32} {l3 : Int32} {v0 : Int32} {v1 : Nat → Int64} {r : (Nat → Int64)} (h : itX (m_pierced_L14 p rows l1 l2 l3) (v0, v1) = some r) (hr : aW K (mw h0 hp n p count sorts rows hand gathered gather paired pairA pairB ideal r frame one two turned placeI placeJ formA formB formC) sz 0 0 63 [(0, .ref h0), (1, .int l1), (2, .int l2), (3, .int l3)] []) : aW K (mw h0 hp n p count sorts rows hand gathered gather paired pairA pairB ideal v1 frame one two turned placeI placeJ formA formB formC) sz 0 0 14 [(0, .ref h0), (1, .int l1), (2, .int l2), (3, .int l3), (4, .int v0)] [] := by
  refine it_walk (f := m_pierced_L14 p rows l1 l2 l3) (P := fun s => aW K (mw h0 hp n p count sorts rows hand gathered gather paired pairA pairB ideal s.2 frame one two turned placeI placeJ formA formB formC) sz 0 0 14 [(0, .ref h0), (1, .int l1), (2, .int l2), (3, .int l3), (4, .int s.1)] []) (R := fun r => aW K (mw h0 hp n p count sorts rows hand gathered gather paired pairA pairB ideal r frame one two turned placeI placeJ formA formB formC) sz 0 0 63 [(0, .ref h0), (1, .int l1), (2, .int l2), (3, .int l3)] []) ?_ h hr
  clear h hr
  intro s x h kl kr
  unfold m_pierced_L14 at h
  refine r_iload C 4 rfl dX6_pierced_14 ?_
  refine r_iconst C (v := 4) dX6_pierced_16 (by decide) ?_
  refine r_icmp_ge C (tgt := 63) dX6_pierced_17 (by decide) (fun hc => ?_) (fun hc => ?_)
  · replace h := br_p hc h
    refine r_lv [0, 1, 2, 3] rfl ?_
    exact kr _ (sm_i h)
  · replace h := br_n hc h
    refine r_aload_n C 0 rfl dX6_pierced_20 rfl ?_
    refine m_g_draft C dX6_pierced_21 ?_
    refine r_iload_n C 3 rfl dX6_pierced_24 rfl ?_
    refine r_aload_n C 0 rfl dX6_pierced_25 rfl ?_
    refine m_g_draft C dX6_pierced_26 ?_
    refine r_iload_n C 3 rfl dX6_pierced_29 rfl ?_
    obtain ⟨hi, h⟩ := gd_t h
    refine m_l_draft C hi dX6_pierced_30 ?_
    refine r_aload_n C 0 rfl dX6_pierced_31 rfl ?_
    refine r_aload_n C 0 rfl dX6_pierced_32 rfl ?_
    refine r_iload_n C 1 rfl dX6_pierced_33 rfl ?_
    refine r_iload_n C 3 rfl dX6_pierced_34 rfl ?_
    refine r_iload C 4 rfl dX6_pierced_35 ?_
    obtain ⟨r2, qr2, h⟩ := bd_i h
    refine q_callV C 5 0 0 (c_entry qr2) rfl mw_self rfl ok_entry in_entry lk6_142 rfl (Nat.le_of_ble_eq_true rfl) ⟨Nat.le_of_ble_eq_true rfl, Nat.le_of_ble_eq_true rfl⟩ dX6_pierced_37 rfl rfl ?_
    refine r_aload_n C 0 rfl dX6_pierced_40 rfl ?_
    refine r_iload_n C 2 rfl dX6_pierced_41 rfl ?_
    refine r_iload C 4 rfl dX6_pierced_42 ?_
    obtain ⟨r3, qr3, h⟩ := bd_i h
    refine q_callV C 7 0 0 (c_of qr3) rfl mw_self rfl ok_of in_of lk6_108 rfl (Nat.le_of_ble_eq_true rfl) ⟨Nat.le_of_ble_eq_true rfl, Nat.le_of_ble_eq_true rfl⟩ dX6_pierced_44 rfl rfl ?_
    obtain ⟨r4, qr4, h⟩ := bd_i h
    refine q_callV C 4 0 0 (c_times qr4) rfl mw_self rfl ok_times in_times lk6_76 rfl (Nat.le_of_ble_eq_true rfl) ⟨Nat.le_of_ble_eq_true rfl, Nat.le_of_ble_eq_true rfl⟩ dX6_pierced_47 rfl rfl ?_
    refine r_ladd C dX6_pierced_50 ?_
    refine r_aload_n C 0 rfl dX6_pierced_51 rfl ?_
    refine m_g_p C dX6_pierced_52 ?_
    obtain ⟨hne, h⟩ := gd_n h
    refine r_lrem C dX6_pierced_55 hne ?_
    obtain ⟨hi, h⟩ := gd_t h
    refine m_s_draft C hi dX6_pierced_56 ?_
    refine r_iinc C (v := s.1 + 1) (lv' := [(4, .int (s.1 + 1)), (0, .ref h0), (1, .int l1), (2, .int l2), (3, .int l3)]) 4 rfl dX6_pierced_57 rfl (by decide) rfl ?_
    refine r_goto C (tgt := 14) dX6_pierced_60 (by decide) ?_
    refine r_lv [1, 2, 3, 4, 0] rfl ?_
    exact kl _ (sm_i h)
set_option maxHeartbeats 4000000 in
set_option maxRecDepth 100000 in
theorem w_pierced_L6 {K : kT} {O : oT} (C : aC K cX6_pierced RX6 "pierced" 2 38 0 0 5 none O) {h0 : Nat} {hp : cH} {sz : Nat} {n : Int32} {p : Int64} {count : Int32} {sorts : Nat → Int32} {rows : Nat → Int64} {hand : Nat → Int64} {gathered : Int32} {gather : Nat → Int32} {paired : Int32} {pairA : Nat → Int32} {pairB : Nat → Int32} {ideal : Int32} {frame : Nat → Int64} {one : Nat → Int64} {two : Nat → Int64} {turned : Nat → Int64} {placeI : Int32} {placeJ : Int32} {formA : Int64} {formB : Int64} {formC : Int64} {l1 : Int32} {l2 : Int32} {v0 : Int32} {v1 : Nat → Int64} {r : (Nat → Int64)} (h : itX (m_pierced_L6 p rows l1 l2) (v0, v1) = some r) (hr : aW K (mw h0 hp n p count sorts rows hand gathered gather paired pairA pairB ideal r frame one two turned placeI placeJ formA formB formC) sz 0 0 69 [] []) : aW K (mw h0 hp n p count sorts rows hand gathered gather paired pairA pairB ideal v1 frame one two turned placeI placeJ formA formB formC) sz 0 0 6 [(0, .ref h0), (1, .int l1), (2, .int l2), (3, .int v0)] [] := by
  refine it_walk (f := m_pierced_L6 p rows l1 l2) (P := fun s => aW K (mw h0 hp n p count sorts rows hand gathered gather paired pairA pairB ideal s.2 frame one two turned placeI placeJ formA formB formC) sz 0 0 6 [(0, .ref h0), (1, .int l1), (2, .int l2), (3, .int s.1)] []) (R := fun r => aW K (mw h0 hp n p count sorts rows hand gathered gather paired pairA pairB ideal r frame one two turned placeI placeJ formA formB formC) sz 0 0 69 [] []) ?_ h hr
  clear h hr
  intro s x h kl kr
  unfold m_pierced_L6 at h
  refine r_iload_n C 3 rfl dX6_pierced_6 rfl ?_
  refine r_iconst C (v := 4) dX6_pierced_7 (by decide) ?_
  refine r_icmp_ge C (tgt := 69) dX6_pierced_8 (by decide) (fun hc => ?_) (fun hc => ?_)
  · replace h := br_p hc h
    refine r_lv [] rfl ?_
    exact kr _ (sm_i h)
  · replace h := br_n hc h
    refine r_iconst C (v := 0) dX6_pierced_11 (by decide) ?_
    refine r_istore C (lv' := [(4, .int ((0 : Int32))), (0, .ref h0), (1, .int l1), (2, .int l2), (3, .int s.1)]) dX6_pierced_12 (by decide) rfl ?_
    refine r_lv [1, 2, 3, 4, 0] rfl ?_
    obtain ⟨r5, qr5, h⟩ := bd_i h
    refine w_pierced_L14 C qr5 ?_
    refine r_iinc C (v := s.1 + 1) (lv' := [(3, .int (s.1 + 1)), (0, .ref h0), (1, .int l1), (2, .int l2)]) 3 rfl dX6_pierced_63 rfl (by decide) rfl ?_
    refine r_goto C (tgt := 6) dX6_pierced_66 (by decide) ?_
    refine r_lv [1, 2, 3, 0] rfl ?_
    exact kl _ (sm_i h)
set_option maxHeartbeats 4000000 in
set_option maxRecDepth 100000 in
theorem c_pierced {G : gT} {h0 : Nat} {hp : cH} {sz : Nat} {n : Int32} {p : Int64} {count : Int32} {sorts : Nat → Int32} {rows : Nat → Int64} {hand : Nat → Int64} {gathered : Int32} {gather : Nat → Int32} {paired : Int32} {pairA : Nat → Int32} {pairB : Nat → Int32} {ideal : Int32} {draft : Nat → Int64} {frame : Nat → Int64} {one : Nat → Int64} {two : Nat → Int64} {turned : Nat → Int64} {placeI : Int32} {placeJ : Int32} {formA : Int64} {formB : Int64} {formC : Int64} {x1 : Int32} {x2 : Int32} {out : (Nat → Int64)} (h : m_pierced p rows draft x1 x2 = some out) : aM G yX6_pierced cX6_pierced 5 none 2 38 0 0 [.ref h0, .int x1, .int x2] (mw h0 hp n p count sorts rows hand gathered gather paired pairA pairB ideal draft frame one two turned placeI placeJ formA formB formC) sz ((none, mw h0 hp n p count sorts rows hand gathered gather paired pairA pairB ideal out frame one two turned placeI placeJ formA formB formC, sz) : oT) := by
  refine aM.of RX6 (by decide) rfl (Nat.le_of_ble_eq_true rfl) (fun K C => ?_)
  have hO : ((none, mw h0 hp n p count sorts rows hand gathered gather paired pairA pairB ideal out frame one two turned placeI placeJ formA formB formC, sz) : oT) = ((none, mw h0 hp n p count sorts rows hand gathered gather paired pairA pairB ideal out frame one two turned placeI placeJ formA formB formC, sz) : oT) := rfl
  refine r_lve (lv' := [(0, .ref h0), (1, .int x1), (2, .int x2)]) rfl ?_
  unfold m_pierced at h
  refine r_aload_n C 0 rfl dX6_pierced_0 rfl ?_
  obtain ⟨r1, qr1, h⟩ := bd_i h
  refine q_callVv C 0 0 0 (c_clear qr1) rfl mw_self rfl ok_clear in_clear lk6_136 rfl (Nat.le_of_ble_eq_true rfl) ⟨Nat.le_of_ble_eq_true rfl, Nat.le_of_ble_eq_true rfl⟩ dX6_pierced_1 rfl rfl ?_
  refine r_iconst C (v := 0) dX6_pierced_4 (by decide) ?_
  refine r_istore_n C (lv' := [(3, .int ((0 : Int32))), (0, .ref h0), (1, .int x1), (2, .int x2)]) dX6_pierced_5 rfl (by decide) rfl ?_
  refine r_lv [1, 2, 3, 0] rfl ?_
  obtain ⟨r6, qr6, h⟩ := bd_i h
  refine w_pierced_L6 C qr6 ?_
  obtain rfl := sm_i h
  exact r_return C (Eq.symm hO) dX6_pierced_69
noncomputable def m_crossing_L12 (draft : Nat → Int64) (two : Nat → Int64) (s : (Int32 × (Nat → Int64) × (Nat → Int64))) : Option ((Int32 × (Nat → Int64) × (Nat → Int64)) ⊕ ((Nat → Int64) × (Nat → Int64))) := if ((4 : Int32)) ≤ s.1 then (some (.inr (s.2.1, s.2.2))) else (if gi s.1 16 then if gi s.1 16 then if gi s.1 16 then if gi (((4 : Int32)) + s.1) 16 then if gi s.1 16 then if gi s.1 16 then some (.inl (s.1 + 1, vp_updL s.2.1 s.1.toNatClampNeg (two s.1.toNatClampNeg), vp_updL (vp_updL s.2.2 s.1.toNatClampNeg (draft s.1.toNatClampNeg)) (((4 : Int32)) + s.1).toNatClampNeg (s.2.1 s.1.toNatClampNeg))) else none else none else none else none else none else none)
noncomputable def m_crossing_L68 (draft : Nat → Int64) (turned : Nat → Int64) (s : Int32) : Option (Int32 ⊕ Int32) := if ((4 : Int32)) ≤ s then (some (.inr s)) else (if gi s 16 then if (turned s.toNatClampNeg) = ((0 : Int64)) then (if gi s 16 then if (draft s.toNatClampNeg) = ((0 : Int64)) then (some (.inl (s + 1))) else (some (.inr s)) else none) else (some (.inr s)) else none)
noncomputable def m_crossing_L129 (p : Int64) (two : Nat → Int64) (turned : Nat → Int64) (l4 : Int64) (l6 : Int64) (s : (Int32 × (Nat → Int64))) : Option ((Int32 × (Nat → Int64)) ⊕ (Nat → Int64)) := if ((4 : Int32)) ≤ s.1 then (some (.inr s.2)) else (if gi (((4 : Int32)) + s.1) 16 then (m_times p l4 (turned (((4 : Int32)) + s.1).toNatClampNeg)).bind fun r8 => if gi s.1 16 then (m_times p l6 (two s.1.toNatClampNeg)).bind fun r9 => if p = 0 then none else if gi s.1 16 then some (.inl (s.1 + 1, vp_updL s.2 s.1.toNatClampNeg ((r8 + r9) - (r8 + r9) / p * p))) else none else none else none)
noncomputable def m_crossing_J101 (p : Int64) (draft : Nat → Int64) (frame : Nat → Int64) (one : Nat → Int64) (two : Nat → Int64) (turned : Nat → Int64) (l3 : Int32) : Option ((Nat → Int64) × (Nat → Int64) × (Nat → Int64) × (Nat → Int64) × (Nat → Int64)) := if gi l3 16 then (m_less p ((0 : Int64)) (draft l3.toNatClampNeg)).bind fun r6 => if gi l3 16 then (m_clear draft).bind fun r7 => (itX (m_crossing_L129 p two turned r6 (turned l3.toNatClampNeg)) ((0 : Int32), r7)).bind fun r10 => some (r10, frame, one, two, turned) else none else none
noncomputable def m_crossing (n : Int32) (p : Int64) (rows : Nat → Int64) (draft : Nat → Int64) (frame : Nat → Int64) (one : Nat → Int64) (two : Nat → Int64) (turned : Nat → Int64) (x1 : Int32) (x2 : Int32) : Option ((Nat → Int64) × (Nat → Int64) × (Nat → Int64) × (Nat → Int64) × (Nat → Int64)) := (m_base n p rows frame one two x2).bind fun r1 => (m_spanned p rows draft r1.2.1 x1).bind fun r2 => (itX (m_crossing_L12 r2 r1.2.2) ((0 : Int32), r1.2.1, turned)).bind fun r3 => (m_spanned p rows r2 r3.1 x1).bind fun r4 => (itX (m_crossing_L68 r4 r3.2) ((0 : Int32))).bind fun r5 => m_crossing_J101 p r4 r1.1 r3.1 r1.2.2 r3.2 r5
set_option maxHeartbeats 4000000 in
set_option maxRecDepth 100000 in
theorem w_crossing_L12 {K : kT} {O : oT} (C : aC K cX6_crossing RX6 "crossing" 5 91 0 0 9 none O) {h0 : Nat} {hp : cH} {sz : Nat} {n : Int32} {p : Int64} {count : Int32} {sorts : Nat → Int32} {rows : Nat → Int64} {hand : Nat → Int64} {gathered : Int32} {gather : Nat → Int32} {paired : Int32} {pairA : Nat → Int32} {pairB : Nat → Int32} {ideal : Int32} {draft : Nat → Int64} {frame : Nat → Int64} {two : Nat → Int64} {placeI : Int32} {placeJ : Int32} {formA : Int64} {formB : Int64} {formC : Int64} {l1 : Int32} {v0 : Int32} {v1 : Nat → Int64} {v2 : Nat → Int64} {r : ((Nat → Int64) × (Nat → Int64))} (h : itX (m_crossing_L12 draft two) (v0, v1, v2) = some r) (hr : aW K (mw h0 hp n p count sorts rows hand gathered gather paired pairA pairB ideal draft frame r.1 two r.2 placeI placeJ formA formB formC) sz 0 0 61 [(0, .ref h0), (1, .int l1)] []) : aW K (mw h0 hp n p count sorts rows hand gathered gather paired pairA pairB ideal draft frame v1 two v2 placeI placeJ formA formB formC) sz 0 0 12 [(0, .ref h0), (1, .int l1), (3, .int v0)] [] := by
  refine it_walk (f := m_crossing_L12 draft two) (P := fun s => aW K (mw h0 hp n p count sorts rows hand gathered gather paired pairA pairB ideal draft frame s.2.1 two s.2.2 placeI placeJ formA formB formC) sz 0 0 12 [(0, .ref h0), (1, .int l1), (3, .int s.1)] []) (R := fun r => aW K (mw h0 hp n p count sorts rows hand gathered gather paired pairA pairB ideal draft frame r.1 two r.2 placeI placeJ formA formB formC) sz 0 0 61 [(0, .ref h0), (1, .int l1)] []) ?_ h hr
  clear h hr
  intro s x h kl kr
  unfold m_crossing_L12 at h
  refine r_iload_n C 2 rfl dX6_crossing_12 rfl ?_
  refine r_iconst C (v := 4) dX6_crossing_13 (by decide) ?_
  refine r_icmp_ge C (tgt := 61) dX6_crossing_14 (by decide) (fun hc => ?_) (fun hc => ?_)
  · replace h := br_p hc h
    refine r_lv [0, 1] rfl ?_
    exact kr _ (sm_i h)
  · replace h := br_n hc h
    refine r_aload_n C 0 rfl dX6_crossing_17 rfl ?_
    refine m_g_turned C dX6_crossing_18 ?_
    refine r_iload_n C 2 rfl dX6_crossing_21 rfl ?_
    refine r_aload_n C 0 rfl dX6_crossing_22 rfl ?_
    refine m_g_draft C dX6_crossing_23 ?_
    refine r_iload_n C 2 rfl dX6_crossing_26 rfl ?_
    obtain ⟨hi, h⟩ := gd_t h
    refine m_l_draft C hi dX6_crossing_27 ?_
    obtain ⟨hi, h⟩ := gd_t h
    refine m_s_turned C hi dX6_crossing_28 ?_
    refine r_aload_n C 0 rfl dX6_crossing_29 rfl ?_
    refine m_g_turned C dX6_crossing_30 ?_
    refine r_iconst C (v := 4) dX6_crossing_33 (by decide) ?_
    refine r_iload_n C 2 rfl dX6_crossing_34 rfl ?_
    refine r_iadd C dX6_crossing_35 ?_
    refine r_aload_n C 0 rfl dX6_crossing_36 rfl ?_
    refine m_g_one C dX6_crossing_37 ?_
    refine r_iload_n C 2 rfl dX6_crossing_40 rfl ?_
    obtain ⟨hi, h⟩ := gd_t h
    refine m_l_one C hi dX6_crossing_41 ?_
    obtain ⟨hi, h⟩ := gd_t h
    refine m_s_turned C hi dX6_crossing_42 ?_
    refine r_aload_n C 0 rfl dX6_crossing_43 rfl ?_
    refine m_g_one C dX6_crossing_44 ?_
    refine r_iload_n C 2 rfl dX6_crossing_47 rfl ?_
    refine r_aload_n C 0 rfl dX6_crossing_48 rfl ?_
    refine m_g_two C dX6_crossing_49 ?_
    refine r_iload_n C 2 rfl dX6_crossing_52 rfl ?_
    obtain ⟨hi, h⟩ := gd_t h
    refine m_l_two C hi dX6_crossing_53 ?_
    obtain ⟨hi, h⟩ := gd_t h
    refine m_s_one C hi dX6_crossing_54 ?_
    refine r_iinc C (v := s.1 + 1) (lv' := [(3, .int (s.1 + 1)), (0, .ref h0), (1, .int l1)]) 2 rfl dX6_crossing_55 rfl (by decide) rfl ?_
    refine r_goto C (tgt := 12) dX6_crossing_58 (by decide) ?_
    refine r_lv [1, 2, 0] rfl ?_
    exact kl _ (sm_i h)
set_option maxHeartbeats 4000000 in
set_option maxRecDepth 100000 in
theorem w_crossing_L68 {K : kT} {O : oT} (C : aC K cX6_crossing RX6 "crossing" 5 91 0 0 9 none O) {h0 : Nat} {hp : cH} {sz : Nat} {n : Int32} {p : Int64} {count : Int32} {sorts : Nat → Int32} {rows : Nat → Int64} {hand : Nat → Int64} {gathered : Int32} {gather : Nat → Int32} {paired : Int32} {pairA : Nat → Int32} {pairB : Nat → Int32} {ideal : Int32} {draft : Nat → Int64} {frame : Nat → Int64} {one : Nat → Int64} {two : Nat → Int64} {turned : Nat → Int64} {placeI : Int32} {placeJ : Int32} {formA : Int64} {formB : Int64} {formC : Int64}  {v0 : Int32} {r : Int32} (h : itX (m_crossing_L68 draft turned) v0 = some r) (hr : aW K (mw h0 hp n p count sorts rows hand gathered gather paired pairA pairB ideal draft frame one two turned placeI placeJ formA formB formC) sz 0 0 101 [(0, .ref h0), (3, .int r)] []) : aW K (mw h0 hp n p count sorts rows hand gathered gather paired pairA pairB ideal draft frame one two turned placeI placeJ formA formB formC) sz 0 0 68 [(0, .ref h0), (3, .int v0)] [] := by
  refine it_walk (f := m_crossing_L68 draft turned) (P := fun s => aW K (mw h0 hp n p count sorts rows hand gathered gather paired pairA pairB ideal draft frame one two turned placeI placeJ formA formB formC) sz 0 0 68 [(0, .ref h0), (3, .int s)] []) (R := fun r => aW K (mw h0 hp n p count sorts rows hand gathered gather paired pairA pairB ideal draft frame one two turned placeI placeJ formA formB formC) sz 0 0 101 [(0, .ref h0), (3, .int r)] []) ?_ h hr
  clear h hr
  intro s x h kl kr
  unfold m_crossing_L68 at h
  refine r_iload_n C 1 rfl dX6_crossing_68 rfl ?_
  refine r_iconst C (v := 4) dX6_crossing_69 (by decide) ?_
  refine r_icmp_ge C (tgt := 101) dX6_crossing_70 (by decide) (fun hc => ?_) (fun hc => ?_)
  · replace h := br_p hc h
    refine r_lv [0, 1] rfl ?_
    exact kr _ (sm_i h)
  · replace h := br_n hc h
    refine r_aload_n C 0 rfl dX6_crossing_73 rfl ?_
    refine m_g_turned C dX6_crossing_74 ?_
    refine r_iload_n C 1 rfl dX6_crossing_77 rfl ?_
    obtain ⟨hi, h⟩ := gd_t h
    refine m_l_turned C hi dX6_crossing_78 ?_
    refine r_lconst C (v := 0) dX6_crossing_79 (by decide) ?_
    refine r_lne C (tgt := 101) dX6_crossing_80 dX6_crossing_81 (by decide) (fun hc => ?_) (fun hc => ?_)
    · replace h := br_n hc h
      refine r_lv [0, 1] rfl ?_
      exact kr _ (sm_i h)
    · replace h := br_p hc h
      refine r_aload_n C 0 rfl dX6_crossing_84 rfl ?_
      refine m_g_draft C dX6_crossing_85 ?_
      refine r_iload_n C 1 rfl dX6_crossing_88 rfl ?_
      obtain ⟨hi, h⟩ := gd_t h
      refine m_l_draft C hi dX6_crossing_89 ?_
      refine r_lconst C (v := 0) dX6_crossing_90 (by decide) ?_
      refine r_lne C (tgt := 101) dX6_crossing_91 dX6_crossing_92 (by decide) (fun hc => ?_) (fun hc => ?_)
      · replace h := br_n hc h
        refine r_lv [0, 1] rfl ?_
        exact kr _ (sm_i h)
      · replace h := br_p hc h
        refine r_iinc C (v := s + 1) (lv' := [(3, .int (s + 1)), (0, .ref h0)]) 1 rfl dX6_crossing_95 rfl (by decide) rfl ?_
        refine r_goto C (tgt := 68) dX6_crossing_98 (by decide) ?_
        refine r_lv [1, 0] rfl ?_
        exact kl _ (sm_i h)
set_option maxHeartbeats 4000000 in
set_option maxRecDepth 100000 in
theorem w_crossing_L129 {K : kT} {O : oT} (C : aC K cX6_crossing RX6 "crossing" 5 91 0 0 9 none O) {h0 : Nat} {hp : cH} {sz : Nat} {n : Int32} {p : Int64} {count : Int32} {sorts : Nat → Int32} {rows : Nat → Int64} {hand : Nat → Int64} {gathered : Int32} {gather : Nat → Int32} {paired : Int32} {pairA : Nat → Int32} {pairB : Nat → Int32} {ideal : Int32} {frame : Nat → Int64} {one : Nat → Int64} {two : Nat → Int64} {turned : Nat → Int64} {placeI : Int32} {placeJ : Int32} {formA : Int64} {formB : Int64} {formC : Int64} {l4 : Int64} {l6 : Int64} {v0 : Int32} {v1 : Nat → Int64} {r : (Nat → Int64)} (h : itX (m_crossing_L129 p two turned l4 l6) (v0, v1) = some r) (hr : aW K (mw h0 hp n p count sorts rows hand gathered gather paired pairA pairB ideal r frame one two turned placeI placeJ formA formB formC) sz 0 0 182 [] []) : aW K (mw h0 hp n p count sorts rows hand gathered gather paired pairA pairB ideal v1 frame one two turned placeI placeJ formA formB formC) sz 0 0 129 [(0, .ref h0), (4, .long l4), (6, .long l6), (8, .int v0)] [] := by
  refine it_walk (f := m_crossing_L129 p two turned l4 l6) (P := fun s => aW K (mw h0 hp n p count sorts rows hand gathered gather paired pairA pairB ideal s.2 frame one two turned placeI placeJ formA formB formC) sz 0 0 129 [(0, .ref h0), (4, .long l4), (6, .long l6), (8, .int s.1)] []) (R := fun r => aW K (mw h0 hp n p count sorts rows hand gathered gather paired pairA pairB ideal r frame one two turned placeI placeJ formA formB formC) sz 0 0 182 [] []) ?_ h hr
  clear h hr
  intro s x h kl kr
  unfold m_crossing_L129 at h
  refine r_iload C 3 rfl dX6_crossing_129 ?_
  refine r_iconst C (v := 4) dX6_crossing_131 (by decide) ?_
  refine r_icmp_ge C (tgt := 182) dX6_crossing_132 (by decide) (fun hc => ?_) (fun hc => ?_)
  · replace h := br_p hc h
    refine r_lv [] rfl ?_
    exact kr _ (sm_i h)
  · replace h := br_n hc h
    refine r_aload_n C 0 rfl dX6_crossing_135 rfl ?_
    refine m_g_draft C dX6_crossing_136 ?_
    refine r_iload C 3 rfl dX6_crossing_139 ?_
    refine r_aload_n C 0 rfl dX6_crossing_141 rfl ?_
    refine r_lload C 1 rfl dX6_crossing_142 ?_
    refine r_aload_n C 0 rfl dX6_crossing_144 rfl ?_
    refine m_g_turned C dX6_crossing_145 ?_
    refine r_iconst C (v := 4) dX6_crossing_148 (by decide) ?_
    refine r_iload C 3 rfl dX6_crossing_149 ?_
    refine r_iadd C dX6_crossing_151 ?_
    obtain ⟨hi, h⟩ := gd_t h
    refine m_l_turned C hi dX6_crossing_152 ?_
    obtain ⟨r8, qr8, h⟩ := bd_i h
    refine q_callV C 2 0 0 (c_times qr8) rfl mw_self rfl ok_times in_times lk6_76 rfl (Nat.le_of_ble_eq_true rfl) ⟨Nat.le_of_ble_eq_true rfl, Nat.le_of_ble_eq_true rfl⟩ dX6_crossing_153 rfl rfl ?_
    refine r_aload_n C 0 rfl dX6_crossing_156 rfl ?_
    refine r_lload C 2 rfl dX6_crossing_157 ?_
    refine r_aload_n C 0 rfl dX6_crossing_159 rfl ?_
    refine m_g_two C dX6_crossing_160 ?_
    refine r_iload C 3 rfl dX6_crossing_163 ?_
    obtain ⟨hi, h⟩ := gd_t h
    refine m_l_two C hi dX6_crossing_165 ?_
    obtain ⟨r9, qr9, h⟩ := bd_i h
    refine q_callV C 4 0 0 (c_times qr9) rfl mw_self rfl ok_times in_times lk6_76 rfl (Nat.le_of_ble_eq_true rfl) ⟨Nat.le_of_ble_eq_true rfl, Nat.le_of_ble_eq_true rfl⟩ dX6_crossing_166 rfl rfl ?_
    refine r_ladd C dX6_crossing_169 ?_
    refine r_aload_n C 0 rfl dX6_crossing_170 rfl ?_
    refine m_g_p C dX6_crossing_171 ?_
    obtain ⟨hne, h⟩ := gd_n h
    refine r_lrem C dX6_crossing_174 hne ?_
    obtain ⟨hi, h⟩ := gd_t h
    refine m_s_draft C hi dX6_crossing_175 ?_
    refine r_iinc C (v := s.1 + 1) (lv' := [(8, .int (s.1 + 1)), (0, .ref h0), (4, .long l4), (6, .long l6)]) 3 rfl dX6_crossing_176 rfl (by decide) rfl ?_
    refine r_goto C (tgt := 129) dX6_crossing_179 (by decide) ?_
    refine r_lv [1, 2, 3, 0] rfl ?_
    exact kl _ (sm_i h)
set_option maxHeartbeats 4000000 in
set_option maxRecDepth 100000 in
theorem w_crossing_J101 {K : kT} {O : oT} (C : aC K cX6_crossing RX6 "crossing" 5 91 0 0 9 none O) {h0 : Nat} {hp : cH} {sz : Nat} {n : Int32} {p : Int64} {count : Int32} {sorts : Nat → Int32} {rows : Nat → Int64} {hand : Nat → Int64} {gathered : Int32} {gather : Nat → Int32} {paired : Int32} {pairA : Nat → Int32} {pairB : Nat → Int32} {ideal : Int32} {draft : Nat → Int64} {frame : Nat → Int64} {one : Nat → Int64} {two : Nat → Int64} {turned : Nat → Int64} {placeI : Int32} {placeJ : Int32} {formA : Int64} {formB : Int64} {formC : Int64} {l3 : Int32} {out : ((Nat → Int64) × (Nat → Int64) × (Nat → Int64) × (Nat → Int64) × (Nat → Int64))} (h : m_crossing_J101 p draft frame one two turned l3 = some out) (hO : ((none, mw h0 hp n p count sorts rows hand gathered gather paired pairA pairB ideal out.1 out.2.1 out.2.2.1 out.2.2.2.1 out.2.2.2.2 placeI placeJ formA formB formC, sz) : oT) = O) : aW K (mw h0 hp n p count sorts rows hand gathered gather paired pairA pairB ideal draft frame one two turned placeI placeJ formA formB formC) sz 0 0 101 [(0, .ref h0), (3, .int l3)] [] := by
  unfold m_crossing_J101 at h
  refine r_aload_n C 0 rfl dX6_crossing_101 rfl ?_
  refine r_lconst C (v := 0) dX6_crossing_102 (by decide) ?_
  refine r_aload_n C 0 rfl dX6_crossing_103 rfl ?_
  refine m_g_draft C dX6_crossing_104 ?_
  refine r_iload_n C 1 rfl dX6_crossing_107 rfl ?_
  obtain ⟨hi, h⟩ := gd_t h
  refine m_l_draft C hi dX6_crossing_108 ?_
  obtain ⟨r6, qr6, h⟩ := bd_i h
  refine q_callV C 0 0 0 (c_less qr6) rfl mw_self rfl ok_less in_less lk6_105 rfl (Nat.le_of_ble_eq_true rfl) ⟨Nat.le_of_ble_eq_true rfl, Nat.le_of_ble_eq_true rfl⟩ dX6_crossing_109 rfl rfl ?_
  refine r_lstore C (lv' := [(4, .long r6), (0, .ref h0), (3, .int l3)]) dX6_crossing_112 (by decide) rfl ?_
  refine r_aload_n C 1 rfl dX6_crossing_114 rfl ?_
  refine m_g_turned C dX6_crossing_115 ?_
  refine r_iload_n C 2 rfl dX6_crossing_118 rfl ?_
  obtain ⟨hi, h⟩ := gd_t h
  refine m_l_turned C hi dX6_crossing_119 ?_
  refine r_lstore C (lv' := [(6, .long (turned l3.toNatClampNeg)), (4, .long r6), (0, .ref h0), (3, .int l3)]) dX6_crossing_120 (by decide) rfl ?_
  refine r_aload_n C 2 rfl dX6_crossing_122 rfl ?_
  obtain ⟨r7, qr7, h⟩ := bd_i h
  refine q_callVv C 0 0 0 (c_clear qr7) rfl mw_self rfl ok_clear in_clear lk6_136 rfl (Nat.le_of_ble_eq_true rfl) ⟨Nat.le_of_ble_eq_true rfl, Nat.le_of_ble_eq_true rfl⟩ dX6_crossing_123 rfl rfl ?_
  refine r_iconst C (v := 0) dX6_crossing_126 (by decide) ?_
  refine r_istore C (lv' := [(8, .int ((0 : Int32))), (6, .long (turned l3.toNatClampNeg)), (4, .long r6), (0, .ref h0), (3, .int l3)]) dX6_crossing_127 (by decide) rfl ?_
  refine r_lv [3, 2, 1, 0] rfl ?_
  obtain ⟨r10, qr10, h⟩ := bd_i h
  refine w_crossing_L129 C qr10 ?_
  obtain rfl := sm_i h
  exact r_return C (Eq.symm hO) dX6_crossing_182
set_option maxHeartbeats 4000000 in
set_option maxRecDepth 100000 in
theorem c_crossing {G : gT} {h0 : Nat} {hp : cH} {sz : Nat} {n : Int32} {p : Int64} {count : Int32} {sorts : Nat → Int32} {rows : Nat → Int64} {hand : Nat → Int64} {gathered : Int32} {gather : Nat → Int32} {paired : Int32} {pairA : Nat → Int32} {pairB : Nat → Int32} {ideal : Int32} {draft : Nat → Int64} {frame : Nat → Int64} {one : Nat → Int64} {two : Nat → Int64} {turned : Nat → Int64} {placeI : Int32} {placeJ : Int32} {formA : Int64} {formB : Int64} {formC : Int64} {x1 : Int32} {x2 : Int32} {out : ((Nat → Int64) × (Nat → Int64) × (Nat → Int64) × (Nat → Int64) × (Nat → Int64))} (h : m_crossing n p rows draft frame one two turned x1 x2 = some out) : aM G yX6_crossing cX6_crossing 9 none 5 91 0 0 [.ref h0, .int x1, .int x2] (mw h0 hp n p count sorts rows hand gathered gather paired pairA pairB ideal draft frame one two turned placeI placeJ formA formB formC) sz ((none, mw h0 hp n p count sorts rows hand gathered gather paired pairA pairB ideal out.1 out.2.1 out.2.2.1 out.2.2.2.1 out.2.2.2.2 placeI placeJ formA formB formC, sz) : oT) := by
  refine aM.of RX6 (by decide) rfl (Nat.le_of_ble_eq_true rfl) (fun K C => ?_)
  have hO : ((none, mw h0 hp n p count sorts rows hand gathered gather paired pairA pairB ideal out.1 out.2.1 out.2.2.1 out.2.2.2.1 out.2.2.2.2 placeI placeJ formA formB formC, sz) : oT) = ((none, mw h0 hp n p count sorts rows hand gathered gather paired pairA pairB ideal out.1 out.2.1 out.2.2.1 out.2.2.2.1 out.2.2.2.2 placeI placeJ formA formB formC, sz) : oT) := rfl
  refine r_lve (lv' := [(0, .ref h0), (1, .int x1), (2, .int x2)]) rfl ?_
  unfold m_crossing at h
  refine r_aload_n C 0 rfl dX6_crossing_0 rfl ?_
  refine r_iload_n C 2 rfl dX6_crossing_1 rfl ?_
  obtain ⟨r1, qr1, h⟩ := bd_i h
  refine q_callVv C 0 0 0 (c_base qr1) rfl mw_self rfl ok_base in_base lk6_171 rfl (Nat.le_of_ble_eq_true rfl) ⟨Nat.le_of_ble_eq_true rfl, Nat.le_of_ble_eq_true rfl⟩ dX6_crossing_2 rfl rfl ?_
  refine r_aload_n C 0 rfl dX6_crossing_5 rfl ?_
  refine r_iload_n C 1 rfl dX6_crossing_6 rfl ?_
  obtain ⟨r2, qr2, h⟩ := bd_i h
  refine q_callVv C 0 0 0 (c_spanned qr2) rfl mw_self rfl ok_spanned in_spanned lk6_165 rfl (Nat.le_of_ble_eq_true rfl) ⟨Nat.le_of_ble_eq_true rfl, Nat.le_of_ble_eq_true rfl⟩ dX6_crossing_7 rfl rfl ?_
  refine r_iconst C (v := 0) dX6_crossing_10 (by decide) ?_
  refine r_istore_n C (lv' := [(3, .int ((0 : Int32))), (0, .ref h0), (1, .int x1), (2, .int x2)]) dX6_crossing_11 rfl (by decide) rfl ?_
  refine r_lv [1, 2, 0] rfl ?_
  obtain ⟨r3, qr3, h⟩ := bd_i h
  refine w_crossing_L12 C qr3 ?_
  refine r_aload_n C 0 rfl dX6_crossing_61 rfl ?_
  refine r_iload_n C 1 rfl dX6_crossing_62 rfl ?_
  obtain ⟨r4, qr4, h⟩ := bd_i h
  refine q_callVv C 0 0 0 (c_spanned qr4) rfl mw_self rfl ok_spanned in_spanned lk6_165 rfl (Nat.le_of_ble_eq_true rfl) ⟨Nat.le_of_ble_eq_true rfl, Nat.le_of_ble_eq_true rfl⟩ dX6_crossing_63 rfl rfl ?_
  refine r_iconst C (v := 0) dX6_crossing_66 (by decide) ?_
  refine r_istore_n C (lv' := [(3, .int ((0 : Int32))), (0, .ref h0), (1, .int x1)]) dX6_crossing_67 rfl (by decide) rfl ?_
  refine r_lv [1, 0] rfl ?_
  obtain ⟨r5, qr5, h⟩ := bd_i h
  refine w_crossing_L68 C qr5 ?_
  refine r_lv [0, 1] rfl ?_
  exact w_crossing_J101 C h hO
noncomputable def m_turn_L2  (s : (Int32 × (Nat → Int64))) : Option ((Int32 × (Nat → Int64)) ⊕ (Nat → Int64)) := if ((3 : Int32)) ≤ s.1 then (some (.inr s.2)) else (if gi s.1 16 then if gi (((5 : Int32)) - s.1) 16 then if gi s.1 16 then if gi (((5 : Int32)) - s.1) 16 then some (.inl (s.1 + 1, vp_updL (vp_updL s.2 s.1.toNatClampNeg (s.2 (((5 : Int32)) - s.1).toNatClampNeg)) (((5 : Int32)) - s.1).toNatClampNeg (s.2 s.1.toNatClampNeg))) else none else none else none else none)
noncomputable def m_turn (p : Int64) (draft : Nat → Int64)  : Option (Nat → Int64) := (itX m_turn_L2 ((0 : Int32), draft)).bind fun r1 => (m_less p ((0 : Int64)) (r1 ((1 : Int32)).toNatClampNeg)).bind fun r2 => (m_less p ((0 : Int64)) ((vp_updL r1 ((1 : Int32)).toNatClampNeg r2) ((4 : Int32)).toNatClampNeg)).bind fun r3 => some (vp_updL (vp_updL r1 ((1 : Int32)).toNatClampNeg r2) ((4 : Int32)).toNatClampNeg r3)
set_option maxHeartbeats 4000000 in
set_option maxRecDepth 100000 in
theorem w_turn_L2 {K : kT} {O : oT} (C : aC K cX6_turn RX6 "turn" 1 18 0 0 4 none O) {h0 : Nat} {hp : cH} {sz : Nat} {n : Int32} {p : Int64} {count : Int32} {sorts : Nat → Int32} {rows : Nat → Int64} {hand : Nat → Int64} {gathered : Int32} {gather : Nat → Int32} {paired : Int32} {pairA : Nat → Int32} {pairB : Nat → Int32} {ideal : Int32} {frame : Nat → Int64} {one : Nat → Int64} {two : Nat → Int64} {turned : Nat → Int64} {placeI : Int32} {placeJ : Int32} {formA : Int64} {formB : Int64} {formC : Int64}  {v0 : Int32} {v1 : Nat → Int64} {r : (Nat → Int64)} (h : itX (m_turn_L2 ) (v0, v1) = some r) (hr : aW K (mw h0 hp n p count sorts rows hand gathered gather paired pairA pairB ideal r frame one two turned placeI placeJ formA formB formC) sz 0 0 43 [(0, .ref h0)] []) : aW K (mw h0 hp n p count sorts rows hand gathered gather paired pairA pairB ideal v1 frame one two turned placeI placeJ formA formB formC) sz 0 0 2 [(0, .ref h0), (1, .int v0)] [] := by
  refine it_walk (f := m_turn_L2 ) (P := fun s => aW K (mw h0 hp n p count sorts rows hand gathered gather paired pairA pairB ideal s.2 frame one two turned placeI placeJ formA formB formC) sz 0 0 2 [(0, .ref h0), (1, .int s.1)] []) (R := fun r => aW K (mw h0 hp n p count sorts rows hand gathered gather paired pairA pairB ideal r frame one two turned placeI placeJ formA formB formC) sz 0 0 43 [(0, .ref h0)] []) ?_ h hr
  clear h hr
  intro s x h kl kr
  unfold m_turn_L2 at h
  refine r_iload_n C 1 rfl dX6_turn_2 rfl ?_
  refine r_iconst C (v := 3) dX6_turn_3 (by decide) ?_
  refine r_icmp_ge C (tgt := 43) dX6_turn_4 (by decide) (fun hc => ?_) (fun hc => ?_)
  · replace h := br_p hc h
    refine r_lv [0] rfl ?_
    exact kr _ (sm_i h)
  · replace h := br_n hc h
    refine r_aload_n C 0 rfl dX6_turn_7 rfl ?_
    refine m_g_draft C dX6_turn_8 ?_
    refine r_iload_n C 1 rfl dX6_turn_11 rfl ?_
    obtain ⟨hi, h⟩ := gd_t h
    refine m_l_draft C hi dX6_turn_12 ?_
    refine r_lstore_n C (lv' := [(2, .long (s.2 s.1.toNatClampNeg)), (0, .ref h0), (1, .int s.1)]) dX6_turn_13 rfl (by decide) rfl ?_
    refine r_aload_n C 1 rfl dX6_turn_14 rfl ?_
    refine m_g_draft C dX6_turn_15 ?_
    refine r_iload_n C 2 rfl dX6_turn_18 rfl ?_
    refine r_aload_n C 1 rfl dX6_turn_19 rfl ?_
    refine m_g_draft C dX6_turn_20 ?_
    refine r_iconst C (v := 5) dX6_turn_23 (by decide) ?_
    refine r_iload_n C 2 rfl dX6_turn_24 rfl ?_
    refine r_isub C dX6_turn_25 ?_
    obtain ⟨hi, h⟩ := gd_t h
    refine m_l_draft C hi dX6_turn_26 ?_
    obtain ⟨hi, h⟩ := gd_t h
    refine m_s_draft C hi dX6_turn_27 ?_
    refine r_aload_n C 1 rfl dX6_turn_28 rfl ?_
    refine m_g_draft C dX6_turn_29 ?_
    refine r_iconst C (v := 5) dX6_turn_32 (by decide) ?_
    refine r_iload_n C 2 rfl dX6_turn_33 rfl ?_
    refine r_isub C dX6_turn_34 ?_
    refine r_lload_n C 0 rfl dX6_turn_35 rfl ?_
    obtain ⟨hi, h⟩ := gd_t h
    refine m_s_draft C hi dX6_turn_36 ?_
    refine r_iinc C (v := s.1 + 1) (lv' := [(1, .int (s.1 + 1)), (2, .long (s.2 s.1.toNatClampNeg)), (0, .ref h0)]) 2 rfl dX6_turn_37 rfl (by decide) rfl ?_
    refine r_goto C (tgt := 2) dX6_turn_40 (by decide) ?_
    refine r_lv [2, 0] rfl ?_
    exact kl _ (sm_i h)
set_option maxHeartbeats 4000000 in
set_option maxRecDepth 100000 in
theorem c_turn {G : gT} {h0 : Nat} {hp : cH} {sz : Nat} {n : Int32} {p : Int64} {count : Int32} {sorts : Nat → Int32} {rows : Nat → Int64} {hand : Nat → Int64} {gathered : Int32} {gather : Nat → Int32} {paired : Int32} {pairA : Nat → Int32} {pairB : Nat → Int32} {ideal : Int32} {draft : Nat → Int64} {frame : Nat → Int64} {one : Nat → Int64} {two : Nat → Int64} {turned : Nat → Int64} {placeI : Int32} {placeJ : Int32} {formA : Int64} {formB : Int64} {formC : Int64}  {out : (Nat → Int64)} (h : m_turn p draft  = some out) : aM G yX6_turn cX6_turn 4 none 1 18 0 0 [.ref h0] (mw h0 hp n p count sorts rows hand gathered gather paired pairA pairB ideal draft frame one two turned placeI placeJ formA formB formC) sz ((none, mw h0 hp n p count sorts rows hand gathered gather paired pairA pairB ideal out frame one two turned placeI placeJ formA formB formC, sz) : oT) := by
  refine aM.of RX6 (by decide) rfl (Nat.le_of_ble_eq_true rfl) (fun K C => ?_)
  have hO : ((none, mw h0 hp n p count sorts rows hand gathered gather paired pairA pairB ideal out frame one two turned placeI placeJ formA formB formC, sz) : oT) = ((none, mw h0 hp n p count sorts rows hand gathered gather paired pairA pairB ideal out frame one two turned placeI placeJ formA formB formC, sz) : oT) := rfl
  refine r_lve (lv' := [(0, .ref h0)]) rfl ?_
  unfold m_turn at h
  refine r_iconst C (v := 0) dX6_turn_0 (by decide) ?_
  refine r_istore_n C (lv' := [(1, .int ((0 : Int32))), (0, .ref h0)]) dX6_turn_1 rfl (by decide) rfl ?_
  refine r_lv [1, 0] rfl ?_
  obtain ⟨r1, qr1, h⟩ := bd_i h
  refine w_turn_L2 C qr1 ?_
  refine r_aload_n C 0 rfl dX6_turn_43 rfl ?_
  refine m_g_draft C dX6_turn_44 ?_
  refine r_iconst C (v := 1) dX6_turn_47 (by decide) ?_
  refine r_aload_n C 0 rfl dX6_turn_48 rfl ?_
  refine r_lconst C (v := 0) dX6_turn_49 (by decide) ?_
  refine r_aload_n C 0 rfl dX6_turn_50 rfl ?_
  refine m_g_draft C dX6_turn_51 ?_
  refine r_iconst C (v := 1) dX6_turn_54 (by decide) ?_
  refine m_l_draft C (by decide) dX6_turn_55 ?_
  obtain ⟨r2, qr2, h⟩ := bd_i h
  refine q_callV C 2 0 0 (c_less qr2) rfl mw_self rfl ok_less in_less lk6_105 rfl (Nat.le_of_ble_eq_true rfl) ⟨Nat.le_of_ble_eq_true rfl, Nat.le_of_ble_eq_true rfl⟩ dX6_turn_56 rfl rfl ?_
  refine m_s_draft C (by decide) dX6_turn_59 ?_
  refine r_aload_n C 0 rfl dX6_turn_60 rfl ?_
  refine m_g_draft C dX6_turn_61 ?_
  refine r_iconst C (v := 4) dX6_turn_64 (by decide) ?_
  refine r_aload_n C 0 rfl dX6_turn_65 rfl ?_
  refine r_lconst C (v := 0) dX6_turn_66 (by decide) ?_
  refine r_aload_n C 0 rfl dX6_turn_67 rfl ?_
  refine m_g_draft C dX6_turn_68 ?_
  refine r_iconst C (v := 4) dX6_turn_71 (by decide) ?_
  refine m_l_draft C (by decide) dX6_turn_72 ?_
  obtain ⟨r3, qr3, h⟩ := bd_i h
  refine q_callV C 2 0 0 (c_less qr3) rfl mw_self rfl ok_less in_less lk6_105 rfl (Nat.le_of_ble_eq_true rfl) ⟨Nat.le_of_ble_eq_true rfl, Nat.le_of_ble_eq_true rfl⟩ dX6_turn_73 rfl rfl ?_
  refine m_s_draft C (by decide) dX6_turn_76 ?_
  obtain rfl := sm_i h
  exact r_return C (Eq.symm hO) dX6_turn_77
noncomputable def m_both_J143 (n : Int32) (p : Int64) (count : Int32) (sorts : Nat → Int32) (rows : Nat → Int64) (draft : Nat → Int64) (frame : Nat → Int64) (one : Nat → Int64) (two : Nat → Int64) (turned : Nat → Int64) (l1 : Int32) (l2 : Int32) : Option (Int32 × (Nat → Int64) × (Nat → Int64) × (Nat → Int64) × (Nat → Int64) × (Nat → Int64)) := (m_is count sorts l1 ((1 : Int32))).bind fun r3 => if r3 = 0 then ((m_is count sorts l1 ((1 : Int32))).bind fun r4 => if r4 = 0 then ((m_is count sorts l2 ((1 : Int32))).bind fun r5 => if r5 = 0 then (some ((-2 : Int32), draft, frame, one, two, turned)) else ((m_is count sorts l1 ((2 : Int32))).bind fun r6 => if r6 = 0 then (some ((-2 : Int32), draft, frame, one, two, turned)) else ((m_pierced p rows draft l2 l1).bind fun r7 => (m_isNothing n r7 ((0 : Int32))).bind fun r8 => if r8 = 0 then (some ((0 : Int32), r7, frame, one, two, turned)) else (some ((-1 : Int32), r7, frame, one, two, turned))))) else ((m_is count sorts l2 ((1 : Int32))).bind fun r9 => if r9 = 0 then (some ((-2 : Int32), draft, frame, one, two, turned)) else ((m_is count sorts l2 ((2 : Int32))).bind fun r10 => if r10 = 0 then (some ((-2 : Int32), draft, frame, one, two, turned)) else ((m_pierced p rows draft l2 l2).bind fun r11 => (m_isNothing n r11 ((0 : Int32))).bind fun r12 => if r12 = 0 then (some ((0 : Int32), r11, frame, one, two, turned)) else (some ((-1 : Int32), r11, frame, one, two, turned)))))) else ((m_is count sorts l1 ((1 : Int32))).bind fun r13 => if r13 = 0 then ((m_is count sorts l1 ((1 : Int32))).bind fun r14 => if r14 = 0 then (some ((-2 : Int32), draft, frame, one, two, turned)) else ((m_is count sorts l1 ((2 : Int32))).bind fun r15 => if r15 = 0 then (some ((-2 : Int32), draft, frame, one, two, turned)) else ((m_pierced p rows draft l1 l1).bind fun r16 => (m_isNothing n r16 ((0 : Int32))).bind fun r17 => if r17 = 0 then (some ((0 : Int32), r16, frame, one, two, turned)) else (some ((-1 : Int32), r16, frame, one, two, turned))))) else ((m_is count sorts l1 ((1 : Int32))).bind fun r18 => if r18 = 0 then (some ((-2 : Int32), draft, frame, one, two, turned)) else ((m_is count sorts l2 ((2 : Int32))).bind fun r19 => if r19 = 0 then (some ((-2 : Int32), draft, frame, one, two, turned)) else ((m_pierced p rows draft l1 l2).bind fun r20 => (m_isNothing n r20 ((0 : Int32))).bind fun r21 => if r21 = 0 then (some ((0 : Int32), r20, frame, one, two, turned)) else (some ((-1 : Int32), r20, frame, one, two, turned))))))
noncomputable def m_both_J101 (n : Int32) (p : Int64) (count : Int32) (sorts : Nat → Int32) (rows : Nat → Int64) (draft : Nat → Int64) (frame : Nat → Int64) (one : Nat → Int64) (two : Nat → Int64) (turned : Nat → Int64) (l1 : Int32) (l2 : Int32) : Option (Int32 × (Nat → Int64) × (Nat → Int64) × (Nat → Int64) × (Nat → Int64) × (Nat → Int64)) := (m_is count sorts l1 ((1 : Int32))).bind fun r2 => if r2 = 0 then (m_both_J143 n p count sorts rows draft frame one two turned l1 l2) else ((m_is count sorts l2 ((1 : Int32))).bind fun r22 => if r22 = 0 then (m_both_J143 n p count sorts rows draft frame one two turned l1 l2) else (if l1 = l2 then (some ((-1 : Int32), draft, frame, one, two, turned)) else ((m_isCrossed p rows l1 l2).bind fun r23 => if r23 = 0 then (some ((-1 : Int32), draft, frame, one, two, turned)) else ((m_crossing n p rows draft frame one two turned l1 l2).bind fun r24 => some ((0 : Int32), r24.1, r24.2.1, r24.2.2.1, r24.2.2.2.1, r24.2.2.2.2)))))
noncomputable def m_both (n : Int32) (p : Int64) (count : Int32) (sorts : Nat → Int32) (rows : Nat → Int64) (draft : Nat → Int64) (frame : Nat → Int64) (one : Nat → Int64) (two : Nat → Int64) (turned : Nat → Int64) (x1 : Int32) (x2 : Int32) : Option (Int32 × (Nat → Int64) × (Nat → Int64) × (Nat → Int64) × (Nat → Int64) × (Nat → Int64)) := if n = ((2 : Int32)) then ((m_is count sorts x1 ((1 : Int32))).bind fun r30 => if r30 = 0 then (some ((-2 : Int32), draft, frame, one, two, turned)) else ((m_is count sorts x2 ((1 : Int32))).bind fun r31 => if r31 = 0 then (some ((-2 : Int32), draft, frame, one, two, turned)) else ((m_takeOne n rows one x1).bind fun r32 => (m_takeTwo n rows two x2).bind fun r33 => (m_through n p draft r32 r33).bind fun r34 => if x1 = x2 then (some ((-1 : Int32), r34, frame, r32, r33, turned)) else (some ((0 : Int32), r34, frame, r32, r33, turned))))) else ((m_is count sorts x1 ((2 : Int32))).bind fun r1 => if r1 = 0 then (m_both_J101 n p count sorts rows draft frame one two turned x1 x2) else ((m_is count sorts x2 ((2 : Int32))).bind fun r25 => if r25 = 0 then (m_both_J101 n p count sorts rows draft frame one two turned x1 x2) else ((m_takeOne n rows one x1).bind fun r26 => (m_takeTwo n rows two x2).bind fun r27 => (m_through n p draft r26 r27).bind fun r28 => (m_turn p r28).bind fun r29 => if x1 = x2 then (some ((-1 : Int32), r29, frame, r26, r27, turned)) else (some ((1 : Int32), r29, frame, r26, r27, turned)))))
set_option maxHeartbeats 4000000 in
set_option maxRecDepth 100000 in
theorem w_both_J143 {K : kT} {O : oT} (C : aC K cX6_both RX6 "both" 6 111 0 0 5 (some .int) O) {h0 : Nat} {hp : cH} {sz : Nat} {n : Int32} {p : Int64} {count : Int32} {sorts : Nat → Int32} {rows : Nat → Int64} {hand : Nat → Int64} {gathered : Int32} {gather : Nat → Int32} {paired : Int32} {pairA : Nat → Int32} {pairB : Nat → Int32} {ideal : Int32} {draft : Nat → Int64} {frame : Nat → Int64} {one : Nat → Int64} {two : Nat → Int64} {turned : Nat → Int64} {placeI : Int32} {placeJ : Int32} {formA : Int64} {formB : Int64} {formC : Int64} {l1 : Int32} {l2 : Int32} {out : (Int32 × (Nat → Int64) × (Nat → Int64) × (Nat → Int64) × (Nat → Int64) × (Nat → Int64))} (h : m_both_J143 n p count sorts rows draft frame one two turned l1 l2 = some out) (hO : ((some (.int out.1), mw h0 hp n p count sorts rows hand gathered gather paired pairA pairB ideal out.2.1 out.2.2.1 out.2.2.2.1 out.2.2.2.2.1 out.2.2.2.2.2 placeI placeJ formA formB formC, sz) : oT) = O) : aW K (mw h0 hp n p count sorts rows hand gathered gather paired pairA pairB ideal draft frame one two turned placeI placeJ formA formB formC) sz 0 0 143 [(0, .ref h0), (1, .int l1), (2, .int l2)] [] := by
  unfold m_both_J143 at h
  refine r_aload_n C 0 rfl dX6_both_143 rfl ?_
  refine r_iload_n C 1 rfl dX6_both_144 rfl ?_
  refine r_iconst C (v := 1) dX6_both_145 (by decide) ?_
  obtain ⟨r3, qr3, h⟩ := bd_i h
  refine q_callV C 0 0 0 (c_is qr3) rfl mw_self rfl ok_is in_is lk6_146 rfl (Nat.le_of_ble_eq_true rfl) ⟨Nat.le_of_ble_eq_true rfl, Nat.le_of_ble_eq_true rfl⟩ dX6_both_146 rfl rfl ?_
  refine r_if_eq C (tgt := 156) dX6_both_149 (by decide) (fun hc => ?_) (fun hc => ?_)
  · replace h := br_p hc h
    refine r_iload_n C 2 rfl dX6_both_156 rfl ?_
    refine r_istore_n C (lv' := [(3, .int l2), (0, .ref h0), (1, .int l1), (2, .int l2)]) dX6_both_157 rfl (by decide) rfl ?_
    refine r_aload_n C 1 rfl dX6_both_158 rfl ?_
    refine r_iload_n C 2 rfl dX6_both_159 rfl ?_
    refine r_iconst C (v := 1) dX6_both_160 (by decide) ?_
    obtain ⟨r4, qr4, h⟩ := bd_i h
    refine q_callV C 0 0 0 (c_is qr4) rfl mw_self rfl ok_is in_is lk6_146 rfl (Nat.le_of_ble_eq_true rfl) ⟨Nat.le_of_ble_eq_true rfl, Nat.le_of_ble_eq_true rfl⟩ dX6_both_161 rfl rfl ?_
    refine r_if_eq C (tgt := 171) dX6_both_164 (by decide) (fun hc => ?_) (fun hc => ?_)
    · replace h := br_p hc h
      refine r_iload_n C 2 rfl dX6_both_171 rfl ?_
      refine r_istore C (lv' := [(4, .int l1), (3, .int l2), (0, .ref h0), (1, .int l1), (2, .int l2)]) dX6_both_172 (by decide) rfl ?_
      refine r_aload_n C 2 rfl dX6_both_174 rfl ?_
      refine r_iload_n C 1 rfl dX6_both_175 rfl ?_
      refine r_iconst C (v := 1) dX6_both_176 (by decide) ?_
      obtain ⟨r5, qr5, h⟩ := bd_i h
      refine q_callV C 0 0 0 (c_is qr5) rfl mw_self rfl ok_is in_is lk6_146 rfl (Nat.le_of_ble_eq_true rfl) ⟨Nat.le_of_ble_eq_true rfl, Nat.le_of_ble_eq_true rfl⟩ dX6_both_177 rfl rfl ?_
      refine r_if_eq C (tgt := 193) dX6_both_180 (by decide) (fun hc => ?_) (fun hc => ?_)
      · replace h := br_p hc h
        refine r_bipush C (v := -2) dX6_both_193 (by decide) ?_
        obtain rfl := sm_i h
        exact r_ireturn C (Eq.symm hO) dX6_both_195
      · replace h := br_n hc h
        refine r_aload_n C 2 rfl dX6_both_183 rfl ?_
        refine r_iload C 0 rfl dX6_both_184 ?_
        refine r_iconst C (v := 2) dX6_both_186 (by decide) ?_
        obtain ⟨r6, qr6, h⟩ := bd_i h
        refine q_callV C 0 0 0 (c_is qr6) rfl mw_self rfl ok_is in_is lk6_146 rfl (Nat.le_of_ble_eq_true rfl) ⟨Nat.le_of_ble_eq_true rfl, Nat.le_of_ble_eq_true rfl⟩ dX6_both_187 rfl rfl ?_
        refine r_if_ne C (tgt := 196) dX6_both_190 (by decide) (fun hc => ?_) (fun hc => ?_)
        · replace h := br_n hc h
          refine r_aload_n C 2 rfl dX6_both_196 rfl ?_
          refine r_iload_n C 1 rfl dX6_both_197 rfl ?_
          refine r_iload C 0 rfl dX6_both_198 ?_
          obtain ⟨r7, qr7, h⟩ := bd_i h
          refine q_callVv C 0 0 0 (c_pierced qr7) rfl mw_self rfl ok_pierced in_pierced lk6_181 rfl (Nat.le_of_ble_eq_true rfl) ⟨Nat.le_of_ble_eq_true rfl, Nat.le_of_ble_eq_true rfl⟩ dX6_both_200 rfl rfl ?_
          refine r_aload_n C 2 rfl dX6_both_203 rfl ?_
          refine r_iconst C (v := 0) dX6_both_204 (by decide) ?_
          obtain ⟨r8, qr8, h⟩ := bd_i h
          refine q_callV C 0 0 0 (c_isNothing qr8) rfl mw_self rfl ok_isNothing in_isNothing lk6_130 rfl (Nat.le_of_ble_eq_true rfl) ⟨Nat.le_of_ble_eq_true rfl, Nat.le_of_ble_eq_true rfl⟩ dX6_both_205 rfl rfl ?_
          refine r_if_eq C (tgt := 215) dX6_both_208 (by decide) (fun hc => ?_) (fun hc => ?_)
          · replace h := br_p hc h
            refine r_iconst C (v := 0) dX6_both_215 (by decide) ?_
            obtain rfl := sm_i h
            exact r_ireturn C (Eq.symm hO) dX6_both_216
          · replace h := br_n hc h
            refine r_iconst C (v := -1) dX6_both_211 (by decide) ?_
            refine r_goto C (tgt := 216) dX6_both_212 (by decide) ?_
            obtain rfl := sm_i h
            exact r_ireturn C (Eq.symm hO) dX6_both_216
        · replace h := br_p hc h
          refine r_bipush C (v := -2) dX6_both_193 (by decide) ?_
          obtain rfl := sm_i h
          exact r_ireturn C (Eq.symm hO) dX6_both_195
    · replace h := br_n hc h
      refine r_iload_n C 3 rfl dX6_both_167 rfl ?_
      refine r_goto C (tgt := 172) dX6_both_168 (by decide) ?_
      refine r_istore C (lv' := [(4, .int l2), (3, .int l2), (0, .ref h0), (1, .int l1), (2, .int l2)]) dX6_both_172 (by decide) rfl ?_
      refine r_aload_n C 2 rfl dX6_both_174 rfl ?_
      refine r_iload_n C 1 rfl dX6_both_175 rfl ?_
      refine r_iconst C (v := 1) dX6_both_176 (by decide) ?_
      obtain ⟨r9, qr9, h⟩ := bd_i h
      refine q_callV C 0 0 0 (c_is qr9) rfl mw_self rfl ok_is in_is lk6_146 rfl (Nat.le_of_ble_eq_true rfl) ⟨Nat.le_of_ble_eq_true rfl, Nat.le_of_ble_eq_true rfl⟩ dX6_both_177 rfl rfl ?_
      refine r_if_eq C (tgt := 193) dX6_both_180 (by decide) (fun hc => ?_) (fun hc => ?_)
      · replace h := br_p hc h
        refine r_bipush C (v := -2) dX6_both_193 (by decide) ?_
        obtain rfl := sm_i h
        exact r_ireturn C (Eq.symm hO) dX6_both_195
      · replace h := br_n hc h
        refine r_aload_n C 2 rfl dX6_both_183 rfl ?_
        refine r_iload C 0 rfl dX6_both_184 ?_
        refine r_iconst C (v := 2) dX6_both_186 (by decide) ?_
        obtain ⟨r10, qr10, h⟩ := bd_i h
        refine q_callV C 0 0 0 (c_is qr10) rfl mw_self rfl ok_is in_is lk6_146 rfl (Nat.le_of_ble_eq_true rfl) ⟨Nat.le_of_ble_eq_true rfl, Nat.le_of_ble_eq_true rfl⟩ dX6_both_187 rfl rfl ?_
        refine r_if_ne C (tgt := 196) dX6_both_190 (by decide) (fun hc => ?_) (fun hc => ?_)
        · replace h := br_n hc h
          refine r_aload_n C 2 rfl dX6_both_196 rfl ?_
          refine r_iload_n C 1 rfl dX6_both_197 rfl ?_
          refine r_iload C 0 rfl dX6_both_198 ?_
          obtain ⟨r11, qr11, h⟩ := bd_i h
          refine q_callVv C 0 0 0 (c_pierced qr11) rfl mw_self rfl ok_pierced in_pierced lk6_181 rfl (Nat.le_of_ble_eq_true rfl) ⟨Nat.le_of_ble_eq_true rfl, Nat.le_of_ble_eq_true rfl⟩ dX6_both_200 rfl rfl ?_
          refine r_aload_n C 2 rfl dX6_both_203 rfl ?_
          refine r_iconst C (v := 0) dX6_both_204 (by decide) ?_
          obtain ⟨r12, qr12, h⟩ := bd_i h
          refine q_callV C 0 0 0 (c_isNothing qr12) rfl mw_self rfl ok_isNothing in_isNothing lk6_130 rfl (Nat.le_of_ble_eq_true rfl) ⟨Nat.le_of_ble_eq_true rfl, Nat.le_of_ble_eq_true rfl⟩ dX6_both_205 rfl rfl ?_
          refine r_if_eq C (tgt := 215) dX6_both_208 (by decide) (fun hc => ?_) (fun hc => ?_)
          · replace h := br_p hc h
            refine r_iconst C (v := 0) dX6_both_215 (by decide) ?_
            obtain rfl := sm_i h
            exact r_ireturn C (Eq.symm hO) dX6_both_216
          · replace h := br_n hc h
            refine r_iconst C (v := -1) dX6_both_211 (by decide) ?_
            refine r_goto C (tgt := 216) dX6_both_212 (by decide) ?_
            obtain rfl := sm_i h
            exact r_ireturn C (Eq.symm hO) dX6_both_216
        · replace h := br_p hc h
          refine r_bipush C (v := -2) dX6_both_193 (by decide) ?_
          obtain rfl := sm_i h
          exact r_ireturn C (Eq.symm hO) dX6_both_195
  · replace h := br_n hc h
    refine r_iload_n C 1 rfl dX6_both_152 rfl ?_
    refine r_goto C (tgt := 157) dX6_both_153 (by decide) ?_
    refine r_istore_n C (lv' := [(3, .int l1), (0, .ref h0), (1, .int l1), (2, .int l2)]) dX6_both_157 rfl (by decide) rfl ?_
    refine r_aload_n C 1 rfl dX6_both_158 rfl ?_
    refine r_iload_n C 2 rfl dX6_both_159 rfl ?_
    refine r_iconst C (v := 1) dX6_both_160 (by decide) ?_
    obtain ⟨r13, qr13, h⟩ := bd_i h
    refine q_callV C 0 0 0 (c_is qr13) rfl mw_self rfl ok_is in_is lk6_146 rfl (Nat.le_of_ble_eq_true rfl) ⟨Nat.le_of_ble_eq_true rfl, Nat.le_of_ble_eq_true rfl⟩ dX6_both_161 rfl rfl ?_
    refine r_if_eq C (tgt := 171) dX6_both_164 (by decide) (fun hc => ?_) (fun hc => ?_)
    · replace h := br_p hc h
      refine r_iload_n C 2 rfl dX6_both_171 rfl ?_
      refine r_istore C (lv' := [(4, .int l1), (3, .int l1), (0, .ref h0), (1, .int l1), (2, .int l2)]) dX6_both_172 (by decide) rfl ?_
      refine r_aload_n C 2 rfl dX6_both_174 rfl ?_
      refine r_iload_n C 1 rfl dX6_both_175 rfl ?_
      refine r_iconst C (v := 1) dX6_both_176 (by decide) ?_
      obtain ⟨r14, qr14, h⟩ := bd_i h
      refine q_callV C 0 0 0 (c_is qr14) rfl mw_self rfl ok_is in_is lk6_146 rfl (Nat.le_of_ble_eq_true rfl) ⟨Nat.le_of_ble_eq_true rfl, Nat.le_of_ble_eq_true rfl⟩ dX6_both_177 rfl rfl ?_
      refine r_if_eq C (tgt := 193) dX6_both_180 (by decide) (fun hc => ?_) (fun hc => ?_)
      · replace h := br_p hc h
        refine r_bipush C (v := -2) dX6_both_193 (by decide) ?_
        obtain rfl := sm_i h
        exact r_ireturn C (Eq.symm hO) dX6_both_195
      · replace h := br_n hc h
        refine r_aload_n C 2 rfl dX6_both_183 rfl ?_
        refine r_iload C 0 rfl dX6_both_184 ?_
        refine r_iconst C (v := 2) dX6_both_186 (by decide) ?_
        obtain ⟨r15, qr15, h⟩ := bd_i h
        refine q_callV C 0 0 0 (c_is qr15) rfl mw_self rfl ok_is in_is lk6_146 rfl (Nat.le_of_ble_eq_true rfl) ⟨Nat.le_of_ble_eq_true rfl, Nat.le_of_ble_eq_true rfl⟩ dX6_both_187 rfl rfl ?_
        refine r_if_ne C (tgt := 196) dX6_both_190 (by decide) (fun hc => ?_) (fun hc => ?_)
        · replace h := br_n hc h
          refine r_aload_n C 2 rfl dX6_both_196 rfl ?_
          refine r_iload_n C 1 rfl dX6_both_197 rfl ?_
          refine r_iload C 0 rfl dX6_both_198 ?_
          obtain ⟨r16, qr16, h⟩ := bd_i h
          refine q_callVv C 0 0 0 (c_pierced qr16) rfl mw_self rfl ok_pierced in_pierced lk6_181 rfl (Nat.le_of_ble_eq_true rfl) ⟨Nat.le_of_ble_eq_true rfl, Nat.le_of_ble_eq_true rfl⟩ dX6_both_200 rfl rfl ?_
          refine r_aload_n C 2 rfl dX6_both_203 rfl ?_
          refine r_iconst C (v := 0) dX6_both_204 (by decide) ?_
          obtain ⟨r17, qr17, h⟩ := bd_i h
          refine q_callV C 0 0 0 (c_isNothing qr17) rfl mw_self rfl ok_isNothing in_isNothing lk6_130 rfl (Nat.le_of_ble_eq_true rfl) ⟨Nat.le_of_ble_eq_true rfl, Nat.le_of_ble_eq_true rfl⟩ dX6_both_205 rfl rfl ?_
          refine r_if_eq C (tgt := 215) dX6_both_208 (by decide) (fun hc => ?_) (fun hc => ?_)
          · replace h := br_p hc h
            refine r_iconst C (v := 0) dX6_both_215 (by decide) ?_
            obtain rfl := sm_i h
            exact r_ireturn C (Eq.symm hO) dX6_both_216
          · replace h := br_n hc h
            refine r_iconst C (v := -1) dX6_both_211 (by decide) ?_
            refine r_goto C (tgt := 216) dX6_both_212 (by decide) ?_
            obtain rfl := sm_i h
            exact r_ireturn C (Eq.symm hO) dX6_both_216
        · replace h := br_p hc h
          refine r_bipush C (v := -2) dX6_both_193 (by decide) ?_
          obtain rfl := sm_i h
          exact r_ireturn C (Eq.symm hO) dX6_both_195
    · replace h := br_n hc h
      refine r_iload_n C 3 rfl dX6_both_167 rfl ?_
      refine r_goto C (tgt := 172) dX6_both_168 (by decide) ?_
      refine r_istore C (lv' := [(4, .int l2), (3, .int l1), (0, .ref h0), (1, .int l1), (2, .int l2)]) dX6_both_172 (by decide) rfl ?_
      refine r_aload_n C 2 rfl dX6_both_174 rfl ?_
      refine r_iload_n C 1 rfl dX6_both_175 rfl ?_
      refine r_iconst C (v := 1) dX6_both_176 (by decide) ?_
      obtain ⟨r18, qr18, h⟩ := bd_i h
      refine q_callV C 0 0 0 (c_is qr18) rfl mw_self rfl ok_is in_is lk6_146 rfl (Nat.le_of_ble_eq_true rfl) ⟨Nat.le_of_ble_eq_true rfl, Nat.le_of_ble_eq_true rfl⟩ dX6_both_177 rfl rfl ?_
      refine r_if_eq C (tgt := 193) dX6_both_180 (by decide) (fun hc => ?_) (fun hc => ?_)
      · replace h := br_p hc h
        refine r_bipush C (v := -2) dX6_both_193 (by decide) ?_
        obtain rfl := sm_i h
        exact r_ireturn C (Eq.symm hO) dX6_both_195
      · replace h := br_n hc h
        refine r_aload_n C 2 rfl dX6_both_183 rfl ?_
        refine r_iload C 0 rfl dX6_both_184 ?_
        refine r_iconst C (v := 2) dX6_both_186 (by decide) ?_
        obtain ⟨r19, qr19, h⟩ := bd_i h
        refine q_callV C 0 0 0 (c_is qr19) rfl mw_self rfl ok_is in_is lk6_146 rfl (Nat.le_of_ble_eq_true rfl) ⟨Nat.le_of_ble_eq_true rfl, Nat.le_of_ble_eq_true rfl⟩ dX6_both_187 rfl rfl ?_
        refine r_if_ne C (tgt := 196) dX6_both_190 (by decide) (fun hc => ?_) (fun hc => ?_)
        · replace h := br_n hc h
          refine r_aload_n C 2 rfl dX6_both_196 rfl ?_
          refine r_iload_n C 1 rfl dX6_both_197 rfl ?_
          refine r_iload C 0 rfl dX6_both_198 ?_
          obtain ⟨r20, qr20, h⟩ := bd_i h
          refine q_callVv C 0 0 0 (c_pierced qr20) rfl mw_self rfl ok_pierced in_pierced lk6_181 rfl (Nat.le_of_ble_eq_true rfl) ⟨Nat.le_of_ble_eq_true rfl, Nat.le_of_ble_eq_true rfl⟩ dX6_both_200 rfl rfl ?_
          refine r_aload_n C 2 rfl dX6_both_203 rfl ?_
          refine r_iconst C (v := 0) dX6_both_204 (by decide) ?_
          obtain ⟨r21, qr21, h⟩ := bd_i h
          refine q_callV C 0 0 0 (c_isNothing qr21) rfl mw_self rfl ok_isNothing in_isNothing lk6_130 rfl (Nat.le_of_ble_eq_true rfl) ⟨Nat.le_of_ble_eq_true rfl, Nat.le_of_ble_eq_true rfl⟩ dX6_both_205 rfl rfl ?_
          refine r_if_eq C (tgt := 215) dX6_both_208 (by decide) (fun hc => ?_) (fun hc => ?_)
          · replace h := br_p hc h
            refine r_iconst C (v := 0) dX6_both_215 (by decide) ?_
            obtain rfl := sm_i h
            exact r_ireturn C (Eq.symm hO) dX6_both_216
          · replace h := br_n hc h
            refine r_iconst C (v := -1) dX6_both_211 (by decide) ?_
            refine r_goto C (tgt := 216) dX6_both_212 (by decide) ?_
            obtain rfl := sm_i h
            exact r_ireturn C (Eq.symm hO) dX6_both_216
        · replace h := br_p hc h
          refine r_bipush C (v := -2) dX6_both_193 (by decide) ?_
          obtain rfl := sm_i h
          exact r_ireturn C (Eq.symm hO) dX6_both_195
set_option maxHeartbeats 4000000 in
set_option maxRecDepth 100000 in
theorem w_both_J101 {K : kT} {O : oT} (C : aC K cX6_both RX6 "both" 6 111 0 0 5 (some .int) O) {h0 : Nat} {hp : cH} {sz : Nat} {n : Int32} {p : Int64} {count : Int32} {sorts : Nat → Int32} {rows : Nat → Int64} {hand : Nat → Int64} {gathered : Int32} {gather : Nat → Int32} {paired : Int32} {pairA : Nat → Int32} {pairB : Nat → Int32} {ideal : Int32} {draft : Nat → Int64} {frame : Nat → Int64} {one : Nat → Int64} {two : Nat → Int64} {turned : Nat → Int64} {placeI : Int32} {placeJ : Int32} {formA : Int64} {formB : Int64} {formC : Int64} {l1 : Int32} {l2 : Int32} {out : (Int32 × (Nat → Int64) × (Nat → Int64) × (Nat → Int64) × (Nat → Int64) × (Nat → Int64))} (h : m_both_J101 n p count sorts rows draft frame one two turned l1 l2 = some out) (hO : ((some (.int out.1), mw h0 hp n p count sorts rows hand gathered gather paired pairA pairB ideal out.2.1 out.2.2.1 out.2.2.2.1 out.2.2.2.2.1 out.2.2.2.2.2 placeI placeJ formA formB formC, sz) : oT) = O) : aW K (mw h0 hp n p count sorts rows hand gathered gather paired pairA pairB ideal draft frame one two turned placeI placeJ formA formB formC) sz 0 0 101 [(0, .ref h0), (1, .int l1), (2, .int l2)] [] := by
  unfold m_both_J101 at h
  refine r_aload_n C 0 rfl dX6_both_101 rfl ?_
  refine r_iload_n C 1 rfl dX6_both_102 rfl ?_
  refine r_iconst C (v := 1) dX6_both_103 (by decide) ?_
  obtain ⟨r2, qr2, h⟩ := bd_i h
  refine q_callV C 0 0 0 (c_is qr2) rfl mw_self rfl ok_is in_is lk6_146 rfl (Nat.le_of_ble_eq_true rfl) ⟨Nat.le_of_ble_eq_true rfl, Nat.le_of_ble_eq_true rfl⟩ dX6_both_104 rfl rfl ?_
  refine r_if_eq C (tgt := 143) dX6_both_107 (by decide) (fun hc => ?_) (fun hc => ?_)
  · replace h := br_p hc h
    refine r_lv [0, 1, 2] rfl ?_
    exact w_both_J143 C h hO
  · replace h := br_n hc h
    refine r_aload_n C 0 rfl dX6_both_110 rfl ?_
    refine r_iload_n C 2 rfl dX6_both_111 rfl ?_
    refine r_iconst C (v := 1) dX6_both_112 (by decide) ?_
    obtain ⟨r22, qr22, h⟩ := bd_i h
    refine q_callV C 0 0 0 (c_is qr22) rfl mw_self rfl ok_is in_is lk6_146 rfl (Nat.le_of_ble_eq_true rfl) ⟨Nat.le_of_ble_eq_true rfl, Nat.le_of_ble_eq_true rfl⟩ dX6_both_113 rfl rfl ?_
    refine r_if_eq C (tgt := 143) dX6_both_116 (by decide) (fun hc => ?_) (fun hc => ?_)
    · replace h := br_p hc h
      refine r_lv [0, 1, 2] rfl ?_
      exact w_both_J143 C h hO
    · replace h := br_n hc h
      refine r_iload_n C 1 rfl dX6_both_119 rfl ?_
      refine r_iload_n C 2 rfl dX6_both_120 rfl ?_
      refine r_icmp_eq C (tgt := 133) dX6_both_121 (by decide) (fun hc => ?_) (fun hc => ?_)
      · replace h := br_p hc h
        refine r_iconst C (v := -1) dX6_both_133 (by decide) ?_
        obtain rfl := sm_i h
        exact r_ireturn C (Eq.symm hO) dX6_both_134
      · replace h := br_n hc h
        refine r_aload_n C 0 rfl dX6_both_124 rfl ?_
        refine r_iload_n C 1 rfl dX6_both_125 rfl ?_
        refine r_iload_n C 2 rfl dX6_both_126 rfl ?_
        obtain ⟨r23, qr23, h⟩ := bd_i h
        refine q_callV C 0 0 0 (c_isCrossed qr23) rfl mw_self rfl ok_isCrossed in_isCrossed lk6_159 rfl (Nat.le_of_ble_eq_true rfl) ⟨Nat.le_of_ble_eq_true rfl, Nat.le_of_ble_eq_true rfl⟩ dX6_both_127 rfl rfl ?_
        refine r_if_ne C (tgt := 135) dX6_both_130 (by decide) (fun hc => ?_) (fun hc => ?_)
        · replace h := br_n hc h
          refine r_aload_n C 0 rfl dX6_both_135 rfl ?_
          refine r_iload_n C 1 rfl dX6_both_136 rfl ?_
          refine r_iload_n C 2 rfl dX6_both_137 rfl ?_
          obtain ⟨r24, qr24, h⟩ := bd_i h
          refine q_callVv C 0 0 0 (c_crossing qr24) rfl mw_self rfl ok_crossing in_crossing lk6_177 rfl (Nat.le_of_ble_eq_true rfl) ⟨Nat.le_of_ble_eq_true rfl, Nat.le_of_ble_eq_true rfl⟩ dX6_both_138 rfl rfl ?_
          refine r_iconst C (v := 0) dX6_both_141 (by decide) ?_
          obtain rfl := sm_i h
          exact r_ireturn C (Eq.symm hO) dX6_both_142
        · replace h := br_p hc h
          refine r_iconst C (v := -1) dX6_both_133 (by decide) ?_
          obtain rfl := sm_i h
          exact r_ireturn C (Eq.symm hO) dX6_both_134
set_option maxHeartbeats 4000000 in
set_option maxRecDepth 100000 in
theorem c_both {G : gT} {h0 : Nat} {hp : cH} {sz : Nat} {n : Int32} {p : Int64} {count : Int32} {sorts : Nat → Int32} {rows : Nat → Int64} {hand : Nat → Int64} {gathered : Int32} {gather : Nat → Int32} {paired : Int32} {pairA : Nat → Int32} {pairB : Nat → Int32} {ideal : Int32} {draft : Nat → Int64} {frame : Nat → Int64} {one : Nat → Int64} {two : Nat → Int64} {turned : Nat → Int64} {placeI : Int32} {placeJ : Int32} {formA : Int64} {formB : Int64} {formC : Int64} {x1 : Int32} {x2 : Int32} {out : (Int32 × (Nat → Int64) × (Nat → Int64) × (Nat → Int64) × (Nat → Int64) × (Nat → Int64))} (h : m_both n p count sorts rows draft frame one two turned x1 x2 = some out) : aM G yX6_both cX6_both 5 (some .int) 6 111 0 0 [.ref h0, .int x1, .int x2] (mw h0 hp n p count sorts rows hand gathered gather paired pairA pairB ideal draft frame one two turned placeI placeJ formA formB formC) sz ((some (.int out.1), mw h0 hp n p count sorts rows hand gathered gather paired pairA pairB ideal out.2.1 out.2.2.1 out.2.2.2.1 out.2.2.2.2.1 out.2.2.2.2.2 placeI placeJ formA formB formC, sz) : oT) := by
  refine aM.of RX6 (by decide) rfl (Nat.le_of_ble_eq_true rfl) (fun K C => ?_)
  have hO : ((some (.int out.1), mw h0 hp n p count sorts rows hand gathered gather paired pairA pairB ideal out.2.1 out.2.2.1 out.2.2.2.1 out.2.2.2.2.1 out.2.2.2.2.2 placeI placeJ formA formB formC, sz) : oT) = ((some (.int out.1), mw h0 hp n p count sorts rows hand gathered gather paired pairA pairB ideal out.2.1 out.2.2.1 out.2.2.2.1 out.2.2.2.2.1 out.2.2.2.2.2 placeI placeJ formA formB formC, sz) : oT) := rfl
  refine r_lve (lv' := [(0, .ref h0), (1, .int x1), (2, .int x2)]) rfl ?_
  unfold m_both at h
  refine r_aload_n C 0 rfl dX6_both_0 rfl ?_
  refine m_g_n C dX6_both_1 ?_
  refine r_iconst C (v := 2) dX6_both_4 (by decide) ?_
  refine r_icmp_ne C (tgt := 54) dX6_both_5 (by decide) (fun hc => ?_) (fun hc => ?_)
  · replace h := br_n hc h
    refine r_aload_n C 0 rfl dX6_both_54 rfl ?_
    refine r_iload_n C 1 rfl dX6_both_55 rfl ?_
    refine r_iconst C (v := 2) dX6_both_56 (by decide) ?_
    obtain ⟨r1, qr1, h⟩ := bd_i h
    refine q_callV C 0 0 0 (c_is qr1) rfl mw_self rfl ok_is in_is lk6_146 rfl (Nat.le_of_ble_eq_true rfl) ⟨Nat.le_of_ble_eq_true rfl, Nat.le_of_ble_eq_true rfl⟩ dX6_both_57 rfl rfl ?_
    refine r_if_eq C (tgt := 101) dX6_both_60 (by decide) (fun hc => ?_) (fun hc => ?_)
    · replace h := br_p hc h
      refine r_lv [0, 1, 2] rfl ?_
      exact w_both_J101 C h hO
    · replace h := br_n hc h
      refine r_aload_n C 0 rfl dX6_both_63 rfl ?_
      refine r_iload_n C 2 rfl dX6_both_64 rfl ?_
      refine r_iconst C (v := 2) dX6_both_65 (by decide) ?_
      obtain ⟨r25, qr25, h⟩ := bd_i h
      refine q_callV C 0 0 0 (c_is qr25) rfl mw_self rfl ok_is in_is lk6_146 rfl (Nat.le_of_ble_eq_true rfl) ⟨Nat.le_of_ble_eq_true rfl, Nat.le_of_ble_eq_true rfl⟩ dX6_both_66 rfl rfl ?_
      refine r_if_eq C (tgt := 101) dX6_both_69 (by decide) (fun hc => ?_) (fun hc => ?_)
      · replace h := br_p hc h
        refine r_lv [0, 1, 2] rfl ?_
        exact w_both_J101 C h hO
      · replace h := br_n hc h
        refine r_aload_n C 0 rfl dX6_both_72 rfl ?_
        refine r_iload_n C 1 rfl dX6_both_73 rfl ?_
        obtain ⟨r26, qr26, h⟩ := bd_i h
        refine q_callVv C 0 0 0 (c_takeOne qr26) rfl mw_self rfl ok_takeOne in_takeOne lk6_150 rfl (Nat.le_of_ble_eq_true rfl) ⟨Nat.le_of_ble_eq_true rfl, Nat.le_of_ble_eq_true rfl⟩ dX6_both_74 rfl rfl ?_
        refine r_aload_n C 0 rfl dX6_both_77 rfl ?_
        refine r_iload_n C 2 rfl dX6_both_78 rfl ?_
        obtain ⟨r27, qr27, h⟩ := bd_i h
        refine q_callVv C 0 0 0 (c_takeTwo qr27) rfl mw_self rfl ok_takeTwo in_takeTwo lk6_153 rfl (Nat.le_of_ble_eq_true rfl) ⟨Nat.le_of_ble_eq_true rfl, Nat.le_of_ble_eq_true rfl⟩ dX6_both_79 rfl rfl ?_
        refine r_aload_n C 0 rfl dX6_both_82 rfl ?_
        obtain ⟨r28, qr28, h⟩ := bd_i h
        refine q_callVv C 0 0 0 (c_through qr28) rfl mw_self rfl ok_through in_through lk6_156 rfl (Nat.le_of_ble_eq_true rfl) ⟨Nat.le_of_ble_eq_true rfl, Nat.le_of_ble_eq_true rfl⟩ dX6_both_83 rfl rfl ?_
        refine r_aload_n C 0 rfl dX6_both_86 rfl ?_
        obtain ⟨r29, qr29, h⟩ := bd_i h
        refine q_callVv C 0 0 0 (c_turn qr29) rfl mw_self rfl ok_turn in_turn lk6_174 rfl (Nat.le_of_ble_eq_true rfl) ⟨Nat.le_of_ble_eq_true rfl, Nat.le_of_ble_eq_true rfl⟩ dX6_both_87 rfl rfl ?_
        refine r_iload_n C 1 rfl dX6_both_90 rfl ?_
        refine r_iload_n C 2 rfl dX6_both_91 rfl ?_
        refine r_icmp_ne C (tgt := 99) dX6_both_92 (by decide) (fun hc => ?_) (fun hc => ?_)
        · replace h := br_n hc h
          refine r_iconst C (v := 1) dX6_both_99 (by decide) ?_
          obtain rfl := sm_i h
          exact r_ireturn C (Eq.symm hO) dX6_both_100
        · replace h := br_p hc h
          refine r_iconst C (v := -1) dX6_both_95 (by decide) ?_
          refine r_goto C (tgt := 100) dX6_both_96 (by decide) ?_
          obtain rfl := sm_i h
          exact r_ireturn C (Eq.symm hO) dX6_both_100
  · replace h := br_p hc h
    refine r_aload_n C 0 rfl dX6_both_8 rfl ?_
    refine r_iload_n C 1 rfl dX6_both_9 rfl ?_
    refine r_iconst C (v := 1) dX6_both_10 (by decide) ?_
    obtain ⟨r30, qr30, h⟩ := bd_i h
    refine q_callV C 0 0 0 (c_is qr30) rfl mw_self rfl ok_is in_is lk6_146 rfl (Nat.le_of_ble_eq_true rfl) ⟨Nat.le_of_ble_eq_true rfl, Nat.le_of_ble_eq_true rfl⟩ dX6_both_11 rfl rfl ?_
    refine r_if_eq C (tgt := 26) dX6_both_14 (by decide) (fun hc => ?_) (fun hc => ?_)
    · replace h := br_p hc h
      refine r_bipush C (v := -2) dX6_both_26 (by decide) ?_
      obtain rfl := sm_i h
      exact r_ireturn C (Eq.symm hO) dX6_both_28
    · replace h := br_n hc h
      refine r_aload_n C 0 rfl dX6_both_17 rfl ?_
      refine r_iload_n C 2 rfl dX6_both_18 rfl ?_
      refine r_iconst C (v := 1) dX6_both_19 (by decide) ?_
      obtain ⟨r31, qr31, h⟩ := bd_i h
      refine q_callV C 0 0 0 (c_is qr31) rfl mw_self rfl ok_is in_is lk6_146 rfl (Nat.le_of_ble_eq_true rfl) ⟨Nat.le_of_ble_eq_true rfl, Nat.le_of_ble_eq_true rfl⟩ dX6_both_20 rfl rfl ?_
      refine r_if_ne C (tgt := 29) dX6_both_23 (by decide) (fun hc => ?_) (fun hc => ?_)
      · replace h := br_n hc h
        refine r_aload_n C 0 rfl dX6_both_29 rfl ?_
        refine r_iload_n C 1 rfl dX6_both_30 rfl ?_
        obtain ⟨r32, qr32, h⟩ := bd_i h
        refine q_callVv C 0 0 0 (c_takeOne qr32) rfl mw_self rfl ok_takeOne in_takeOne lk6_150 rfl (Nat.le_of_ble_eq_true rfl) ⟨Nat.le_of_ble_eq_true rfl, Nat.le_of_ble_eq_true rfl⟩ dX6_both_31 rfl rfl ?_
        refine r_aload_n C 0 rfl dX6_both_34 rfl ?_
        refine r_iload_n C 2 rfl dX6_both_35 rfl ?_
        obtain ⟨r33, qr33, h⟩ := bd_i h
        refine q_callVv C 0 0 0 (c_takeTwo qr33) rfl mw_self rfl ok_takeTwo in_takeTwo lk6_153 rfl (Nat.le_of_ble_eq_true rfl) ⟨Nat.le_of_ble_eq_true rfl, Nat.le_of_ble_eq_true rfl⟩ dX6_both_36 rfl rfl ?_
        refine r_aload_n C 0 rfl dX6_both_39 rfl ?_
        obtain ⟨r34, qr34, h⟩ := bd_i h
        refine q_callVv C 0 0 0 (c_through qr34) rfl mw_self rfl ok_through in_through lk6_156 rfl (Nat.le_of_ble_eq_true rfl) ⟨Nat.le_of_ble_eq_true rfl, Nat.le_of_ble_eq_true rfl⟩ dX6_both_40 rfl rfl ?_
        refine r_iload_n C 1 rfl dX6_both_43 rfl ?_
        refine r_iload_n C 2 rfl dX6_both_44 rfl ?_
        refine r_icmp_ne C (tgt := 52) dX6_both_45 (by decide) (fun hc => ?_) (fun hc => ?_)
        · replace h := br_n hc h
          refine r_iconst C (v := 0) dX6_both_52 (by decide) ?_
          obtain rfl := sm_i h
          exact r_ireturn C (Eq.symm hO) dX6_both_53
        · replace h := br_p hc h
          refine r_iconst C (v := -1) dX6_both_48 (by decide) ?_
          refine r_goto C (tgt := 53) dX6_both_49 (by decide) ?_
          obtain rfl := sm_i h
          exact r_ireturn C (Eq.symm hO) dX6_both_53
      · replace h := br_p hc h
        refine r_bipush C (v := -2) dX6_both_26 (by decide) ?_
        obtain rfl := sm_i h
        exact r_ireturn C (Eq.symm hO) dX6_both_28
