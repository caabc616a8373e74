noncomputable def m_meet (n : Int32) (p : Int64) (count : Int32) (sorts : Nat → Int32) (rows : Nat → Int64) (draft : Nat → Int64) (frame : Nat → Int64) (one : Nat → Int64) (two : Nat → Int64) (turned : Nat → Int64) (x1 : Int32) (x2 : Int32) : Option (Int32 × Int32 × (Nat → Int32) × (Nat → Int64) × (Nat → Int64) × (Nat → Int64) × (Nat → Int64) × (Nat → Int64) × (Nat → Int64)) := (m_both n p count sorts rows draft frame one two turned x1 x2).bind fun r1 => if 0 ≤ r1.1 then ((m_made n p count sorts rows r1.2.1 r1.1).bind fun r2 => some (r2.1, r2.2.1, r2.2.2.1, r2.2.2.2.1, r2.2.2.2.2, r1.2.2.1, r1.2.2.2.1, r1.2.2.2.2.1, r1.2.2.2.2.2)) else (some (r1.1, count, sorts, rows, r1.2.1, r1.2.2.1, r1.2.2.2.1, r1.2.2.2.2.1, r1.2.2.2.2.2))
set_option maxHeartbeats 4000000 in
set_option maxRecDepth 100000 in
theorem c_meet {G : gT} {h0 : Nat} {hp : cH} {sz : Nat} {n : Int32} {p : Int64} {count : Int32} {sorts : Nat → Int32} {rows : Nat → Int64} {hand : Nat → Int64} {gathered : Int32} {gather : Nat → Int32} {paired : Int32} {pairA : Nat → Int32} {pairB : Nat → Int32} {ideal : Int32} {draft : Nat → Int64} {frame : Nat → Int64} {one : Nat → Int64} {two : Nat → Int64} {turned : Nat → Int64} {placeI : Int32} {placeJ : Int32} {formA : Int64} {formB : Int64} {formC : Int64} {x1 : Int32} {x2 : Int32} {out : (Int32 × Int32 × (Nat → Int32) × (Nat → Int64) × (Nat → Int64) × (Nat → Int64) × (Nat → Int64) × (Nat → Int64) × (Nat → Int64))} (h : m_meet n p count sorts rows draft frame one two turned x1 x2 = some out) : aM G yX6_meet cX6_meet 4 (some .int) 7 127 0 0 [.ref h0, .int x1, .int x2] (mw h0 hp n p count sorts rows hand gathered gather paired pairA pairB ideal draft frame one two turned placeI placeJ formA formB formC) sz ((some (.int out.1), mw h0 hp n p out.2.1 out.2.2.1 out.2.2.2.1 hand gathered gather paired pairA pairB ideal out.2.2.2.2.1 out.2.2.2.2.2.1 out.2.2.2.2.2.2.1 out.2.2.2.2.2.2.2.1 out.2.2.2.2.2.2.2.2 placeI placeJ formA formB formC, sz) : oT) := by
  refine aM.of RX6 (by decide) rfl (Nat.le_of_ble_eq_true rfl) (fun K C => ?_)
  have hO : ((some (.int out.1), mw h0 hp n p out.2.1 out.2.2.1 out.2.2.2.1 hand gathered gather paired pairA pairB ideal out.2.2.2.2.1 out.2.2.2.2.2.1 out.2.2.2.2.2.2.1 out.2.2.2.2.2.2.2.1 out.2.2.2.2.2.2.2.2 placeI placeJ formA formB formC, sz) : oT) = ((some (.int out.1), mw h0 hp n p out.2.1 out.2.2.1 out.2.2.2.1 hand gathered gather paired pairA pairB ideal out.2.2.2.2.1 out.2.2.2.2.2.1 out.2.2.2.2.2.2.1 out.2.2.2.2.2.2.2.1 out.2.2.2.2.2.2.2.2 placeI placeJ formA formB formC, sz) : oT) := rfl
  refine r_lve (lv' := [(0, .ref h0), (1, .int x1), (2, .int x2)]) rfl ?_
  unfold m_meet at h
  refine r_aload_n C 0 rfl dX6_meet_0 rfl ?_
  refine r_iload_n C 1 rfl dX6_meet_1 rfl ?_
  refine r_iload_n C 2 rfl dX6_meet_2 rfl ?_
  obtain ⟨r1, qr1, h⟩ := bd_i h
  refine q_callV C 0 0 0 (c_both qr1) rfl mw_self rfl ok_both in_both lk6_184 rfl (Nat.le_of_ble_eq_true rfl) ⟨Nat.le_of_ble_eq_true rfl, Nat.le_of_ble_eq_true rfl⟩ dX6_meet_3 rfl rfl ?_
  refine r_istore_n C (lv' := [(3, .int r1.1), (0, .ref h0), (1, .int x1), (2, .int x2)]) dX6_meet_6 rfl (by decide) rfl ?_
  refine r_iload_n C 0 rfl dX6_meet_7 rfl ?_
  refine r_if_ge C (tgt := 15) dX6_meet_8 (by decide) (fun hc => ?_) (fun hc => ?_)
  · replace h := br_p hc h
    refine r_aload_n C 1 rfl dX6_meet_15 rfl ?_
    refine r_iload_n C 0 rfl dX6_meet_16 rfl ?_
    obtain ⟨r2, qr2, h⟩ := bd_i h
    refine q_callV C 0 0 0 (c_made qr2) rfl mw_self rfl ok_made in_made lk6_133 rfl (Nat.le_of_ble_eq_true rfl) ⟨Nat.le_of_ble_eq_true rfl, Nat.le_of_ble_eq_true rfl⟩ dX6_meet_17 rfl rfl ?_
    obtain rfl := sm_i h
    exact r_ireturn C (Eq.symm hO) dX6_meet_20
  · replace h := br_n hc h
    refine r_iload_n C 0 rfl dX6_meet_11 rfl ?_
    refine r_goto C (tgt := 20) dX6_meet_12 (by decide) ?_
    obtain rfl := sm_i h
    exact r_ireturn C (Eq.symm hO) dX6_meet_20
noncomputable def m_dot_L5 (n : Int32) (p : Int64) (rows : Nat → Int64) (l1 : Int32) (l2 : Int32) (s : (Int64 × Int32)) : Option ((Int64 × Int32) ⊕ Int64) := (m_side n).bind fun r1 => if r1 ≤ s.2 then (some (.inr s.1)) else ((m_of rows l1 s.2).bind fun r2 => (m_of rows l2 s.2).bind fun r3 => (m_times p r2 r3).bind fun r4 => if p = 0 then none else some (.inl ((s.1 + r4) - (s.1 + r4) / p * p, s.2 + 1)))
noncomputable def m_dot (n : Int32) (p : Int64) (rows : Nat → Int64) (x1 : Int32) (x2 : Int32) : Option Int64 := (itX (m_dot_L5 n p rows x1 x2) ((0 : Int64), (0 : Int32))).bind fun r5 => some r5
set_option maxHeartbeats 4000000 in
set_option maxRecDepth 100000 in
theorem w_dot_L5 {K : kT} {O : oT} (C : aC K cX6_dot RX6 "dot" 1 19 0 0 6 (some .long) O) {h0 : Nat} {hp : cH} {sz : Nat} {n : Int32} {p : Int64} {count : Int32} {sorts : Nat → Int32} {rows : Nat → Int64} {hand : Nat → Int64} {gathered : Int32} {gather : Nat → Int32} {paired : Int32} {pairA : Nat → Int32} {pairB : Nat → Int32} {ideal : Int32} {draft : Nat → Int64} {frame : Nat → Int64} {one : Nat → Int64} {two : Nat → Int64} {turned : Nat → Int64} {placeI : Int32} {placeJ : Int32} {formA : Int64} {formB : Int64} {formC : Int64} {l1 : Int32} {l2 : Int32} {v0 : Int64} {v1 : Int32} {r : Int64} (h : itX (m_dot_L5 n p rows l1 l2) (v0, v1) = some r) (hr : aW K (mw h0 hp n p count sorts rows hand gathered gather paired pairA pairB ideal draft frame one two turned placeI placeJ formA formB formC) sz 0 0 46 [(3, .long r)] []) : aW K (mw h0 hp n p count sorts rows hand gathered gather paired pairA pairB ideal draft frame one two turned placeI placeJ formA formB formC) sz 0 0 5 [(0, .ref h0), (1, .int l1), (2, .int l2), (3, .long v0), (5, .int v1)] [] := by
  refine it_walk (f := m_dot_L5 n p rows l1 l2) (P := fun s => aW K (mw h0 hp n p count sorts rows hand gathered gather paired pairA pairB ideal draft frame one two turned placeI placeJ formA formB formC) sz 0 0 5 [(0, .ref h0), (1, .int l1), (2, .int l2), (3, .long s.1), (5, .int s.2)] []) (R := fun r => aW K (mw h0 hp n p count sorts rows hand gathered gather paired pairA pairB ideal draft frame one two turned placeI placeJ formA formB formC) sz 0 0 46 [(3, .long r)] []) ?_ h hr
  clear h hr
  intro s x h kl kr
  unfold m_dot_L5 at h
  refine r_iload C 4 rfl dX6_dot_5 ?_
  refine r_aload_n C 0 rfl dX6_dot_7 rfl ?_
  obtain ⟨r1, qr1, h⟩ := bd_i h
  refine q_callV C 1 0 0 (c_side qr1) rfl mw_self rfl ok_side in_side lk6_111 rfl (Nat.le_of_ble_eq_true rfl) ⟨Nat.le_of_ble_eq_true rfl, Nat.le_of_ble_eq_true rfl⟩ dX6_dot_8 rfl rfl ?_
  refine r_icmp_ge C (tgt := 46) dX6_dot_11 (by decide) (fun hc => ?_) (fun hc => ?_)
  · replace h := br_p hc h
    refine r_lv [3] rfl ?_
    exact kr _ (sm_i h)
  · replace h := br_n hc h
    refine r_lload_n C 3 rfl dX6_dot_14 rfl ?_
    refine r_aload_n C 0 rfl dX6_dot_15 rfl ?_
    refine r_aload_n C 0 rfl dX6_dot_16 rfl ?_
    refine r_iload_n C 1 rfl dX6_dot_17 rfl ?_
    refine r_iload C 4 rfl dX6_dot_18 ?_
    obtain ⟨r2, qr2, h⟩ := bd_i h
    refine q_callV C 3 0 0 (c_of qr2) rfl mw_self rfl ok_of in_of lk6_108 rfl (Nat.le_of_ble_eq_true rfl) ⟨Nat.le_of_ble_eq_true rfl, Nat.le_of_ble_eq_true rfl⟩ dX6_dot_20 rfl rfl ?_
    refine r_aload_n C 0 rfl dX6_dot_23 rfl ?_
    refine r_iload_n C 2 rfl dX6_dot_24 rfl ?_
    refine r_iload C 4 rfl dX6_dot_25 ?_
    obtain ⟨r3, qr3, h⟩ := bd_i h
    refine q_callV C 5 0 0 (c_of qr3) rfl mw_self rfl ok_of in_of lk6_108 rfl (Nat.le_of_ble_eq_true rfl) ⟨Nat.le_of_ble_eq_true rfl, Nat.le_of_ble_eq_true rfl⟩ dX6_dot_27 rfl rfl ?_
    obtain ⟨r4, qr4, h⟩ := bd_i h
    refine q_callV C 2 0 0 (c_times qr4) rfl mw_self rfl ok_times in_times lk6_76 rfl (Nat.le_of_ble_eq_true rfl) ⟨Nat.le_of_ble_eq_true rfl, Nat.le_of_ble_eq_true rfl⟩ dX6_dot_30 rfl rfl ?_
    refine r_ladd C dX6_dot_33 ?_
    refine r_aload_n C 0 rfl dX6_dot_34 rfl ?_
    refine m_g_p C dX6_dot_35 ?_
    obtain ⟨hne, h⟩ := gd_n h
    refine r_lrem C dX6_dot_38 hne ?_
    refine r_lstore_n C (lv' := [(3, .long ((s.1 + r4) - (s.1 + r4) / p * p)), (0, .ref h0), (1, .int l1), (2, .int l2), (5, .int s.2)]) dX6_dot_39 rfl (by decide) rfl ?_
    refine r_iinc C (v := s.2 + 1) (lv' := [(5, .int (s.2 + 1)), (3, .long ((s.1 + r4) - (s.1 + r4) / p * p)), (0, .ref h0), (1, .int l1), (2, .int l2)]) 4 rfl dX6_dot_40 rfl (by decide) rfl ?_
    refine r_goto C (tgt := 5) dX6_dot_43 (by decide) ?_
    refine r_lv [2, 3, 4, 1, 0] rfl ?_
    exact kl _ (sm_i h)
set_option maxHeartbeats 4000000 in
set_option maxRecDepth 100000 in
theorem c_dot {G : gT} {h0 : Nat} {hp : cH} {sz : Nat} {n : Int32} {p : Int64} {count : Int32} {sorts : Nat → Int32} {rows : Nat → Int64} {hand : Nat → Int64} {gathered : Int32} {gather : Nat → Int32} {paired : Int32} {pairA : Nat → Int32} {pairB : Nat → Int32} {ideal : Int32} {draft : Nat → Int64} {frame : Nat → Int64} {one : Nat → Int64} {two : Nat → Int64} {turned : Nat → Int64} {placeI : Int32} {placeJ : Int32} {formA : Int64} {formB : Int64} {formC : Int64} {x1 : Int32} {x2 : Int32} {out : Int64} (h : m_dot n p rows x1 x2 = some out) : aM G yX6_dot cX6_dot 6 (some .long) 1 19 0 0 [.ref h0, .int x1, .int x2] (mw h0 hp n p count sorts rows hand gathered gather paired pairA pairB ideal draft frame one two turned placeI placeJ formA formB formC) sz ((some (.long out), mw h0 hp n p count sorts rows hand gathered gather paired pairA pairB ideal draft frame one two turned placeI placeJ formA formB formC, sz) : oT) := by
  refine aM.of RX6 (by decide) rfl (Nat.le_of_ble_eq_true rfl) (fun K C => ?_)
  have hO : ((some (.long out), mw h0 hp n p count sorts rows hand gathered gather paired pairA pairB ideal draft frame one two turned placeI placeJ formA formB formC, sz) : oT) = ((some (.long out), mw h0 hp n p count sorts rows hand gathered gather paired pairA pairB ideal draft frame one two turned placeI placeJ formA formB formC, sz) : oT) := rfl
  refine r_lve (lv' := [(0, .ref h0), (1, .int x1), (2, .int x2)]) rfl ?_
  unfold m_dot at h
  refine r_lconst C (v := 0) dX6_dot_0 (by decide) ?_
  refine r_lstore_n C (lv' := [(3, .long ((0 : Int64))), (0, .ref h0), (1, .int x1), (2, .int x2)]) dX6_dot_1 rfl (by decide) rfl ?_
  refine r_iconst C (v := 0) dX6_dot_2 (by decide) ?_
  refine r_istore C (lv' := [(5, .int ((0 : Int32))), (3, .long ((0 : Int64))), (0, .ref h0), (1, .int x1), (2, .int x2)]) dX6_dot_3 (by decide) rfl ?_
  refine r_lv [2, 3, 4, 1, 0] rfl ?_
  obtain ⟨r5, qr5, h⟩ := bd_i h
  refine w_dot_L5 C qr5 ?_
  refine r_lload_n C 0 rfl dX6_dot_46 rfl ?_
  obtain rfl := sm_i h
  exact r_lreturn C (Eq.symm hO) dX6_dot_47
noncomputable def m_form_L18 (n : Int32) (p : Int64) (rows : Nat → Int64) (one : Nat → Int64) (two : Nat → Int64) (l1 : Int32) (l2 : Int32) (l3 : Int32) (l6 : Int32) (s : (Int64 × Int32)) : Option ((Int64 × Int32) ⊕ Int64) := (m_side n).bind fun r2 => if r2 ≤ s.2 then (some (.inr s.1)) else (if l2 = 0 then (if gi l6 16 then if l3 = 0 then (if gi s.2 16 then (m_times p (two l6.toNatClampNeg) (two s.2.toNatClampNeg)).bind fun r3 => (m_side n).bind fun r4 => (m_of rows l1 ((l6 * r4) + s.2)).bind fun r5 => (m_times p r5 r3).bind fun r6 => if p = 0 then none else some (.inl ((s.1 + r6) - (s.1 + r6) / p * p, s.2 + 1)) else none) else (if gi s.2 16 then (m_times p (two l6.toNatClampNeg) (one s.2.toNatClampNeg)).bind fun r7 => (m_side n).bind fun r8 => (m_of rows l1 ((l6 * r8) + s.2)).bind fun r9 => (m_times p r9 r7).bind fun r10 => if p = 0 then none else some (.inl ((s.1 + r10) - (s.1 + r10) / p * p, s.2 + 1)) else none) else none) else (if gi l6 16 then if l3 = 0 then (if gi s.2 16 then (m_times p (one l6.toNatClampNeg) (two s.2.toNatClampNeg)).bind fun r11 => (m_side n).bind fun r12 => (m_of rows l1 ((l6 * r12) + s.2)).bind fun r13 => (m_times p r13 r11).bind fun r14 => if p = 0 then none else some (.inl ((s.1 + r14) - (s.1 + r14) / p * p, s.2 + 1)) else none) else (if gi s.2 16 then (m_times p (one l6.toNatClampNeg) (one s.2.toNatClampNeg)).bind fun r15 => (m_side n).bind fun r16 => (m_of rows l1 ((l6 * r16) + s.2)).bind fun r17 => (m_times p r17 r15).bind fun r18 => if p = 0 then none else some (.inl ((s.1 + r18) - (s.1 + r18) / p * p, s.2 + 1)) else none) else none))
noncomputable def m_form_L6 (n : Int32) (p : Int64) (rows : Nat → Int64) (one : Nat → Int64) (two : Nat → Int64) (l1 : Int32) (l2 : Int32) (l3 : Int32) (s : (Int64 × Int32)) : Option ((Int64 × Int32) ⊕ Int64) := (m_side n).bind fun r1 => if r1 ≤ s.2 then (some (.inr s.1)) else ((itX (m_form_L18 n p rows one two l1 l2 l3 s.2) (s.1, (0 : Int32))).bind fun r19 => some (.inl (r19, s.2 + 1)))
noncomputable def m_form (n : Int32) (p : Int64) (rows : Nat → Int64) (one : Nat → Int64) (two : Nat → Int64) (x1 : Int32) (x2 : Int32) (x3 : Int32) : Option Int64 := (itX (m_form_L6 n p rows one two x1 x2 x3) ((0 : Int64), (0 : Int32))).bind fun r20 => some r20
set_option maxHeartbeats 4000000 in
set_option maxRecDepth 100000 in
theorem w_form_L18 {K : kT} {O : oT} (C : aC K cX6_form RX6 "form" 1 18 0 0 10 (some .long) O) {h0 : Nat} {hp : cH} {sz : Nat} {n : Int32} {p : Int64} {count : Int32} {sorts : Nat → Int32} {rows : Nat → Int64} {hand : Nat → Int64} {gathered : Int32} {gather : Nat → Int32} {paired : Int32} {pairA : Nat → Int32} {pairB : Nat → Int32} {ideal : Int32} {draft : Nat → Int64} {frame : Nat → Int64} {one : Nat → Int64} {two : Nat → Int64} {turned : Nat → Int64} {placeI : Int32} {placeJ : Int32} {formA : Int64} {formB : Int64} {formC : Int64} {l1 : Int32} {l2 : Int32} {l3 : Int32} {l6 : Int32} {v0 : Int64} {v1 : Int32} {r : Int64} (h : itX (m_form_L18 n p rows one two l1 l2 l3 l6) (v0, v1) = some r) (hr : aW K (mw h0 hp n p count sorts rows hand gathered gather paired pairA pairB ideal draft frame one two turned placeI placeJ formA formB formC) sz 0 0 112 [(0, .ref h0), (1, .int l1), (2, .int l2), (3, .int l3), (4, .long r), (6, .int l6)] []) : aW K (mw h0 hp n p count sorts rows hand gathered gather paired pairA pairB ideal draft frame one two turned placeI placeJ formA formB formC) sz 0 0 18 [(0, .ref h0), (1, .int l1), (2, .int l2), (3, .int l3), (4, .long v0), (6, .int l6), (7, .int v1)] [] := by
  refine it_walk (f := m_form_L18 n p rows one two l1 l2 l3 l6) (P := fun s => aW K (mw h0 hp n p count sorts rows hand gathered gather paired pairA pairB ideal draft frame one two turned placeI placeJ formA formB formC) sz 0 0 18 [(0, .ref h0), (1, .int l1), (2, .int l2), (3, .int l3), (4, .long s.1), (6, .int l6), (7, .int s.2)] []) (R := fun r => aW K (mw h0 hp n p count sorts rows hand gathered gather paired pairA pairB ideal draft frame one two turned placeI placeJ formA formB formC) sz 0 0 112 [(0, .ref h0), (1, .int l1), (2, .int l2), (3, .int l3), (4, .long r), (6, .int l6)] []) ?_ h hr
  clear h hr
  intro s x h kl kr
  unfold m_form_L18 at h
  refine r_iload C 6 rfl dX6_form_18 ?_
  refine r_aload_n C 0 rfl dX6_form_20 rfl ?_
  obtain ⟨r2, qr2, h⟩ := bd_i h
  refine q_callV C 1 0 0 (c_side qr2) rfl mw_self rfl ok_side in_side lk6_111 rfl (Nat.le_of_ble_eq_true rfl) ⟨Nat.le_of_ble_eq_true rfl, Nat.le_of_ble_eq_true rfl⟩ dX6_form_21 rfl rfl ?_
  refine r_icmp_ge C (tgt := 112) dX6_form_24 (by decide) (fun hc => ?_) (fun hc => ?_)
  · replace h := br_p hc h
    refine r_lv [0, 1, 2, 3, 4, 5] rfl ?_
    exact kr _ (sm_i h)
  · replace h := br_n hc h
    refine r_aload_n C 0 rfl dX6_form_27 rfl ?_
    refine r_iload_n C 2 rfl dX6_form_28 rfl ?_
    refine r_if_eq C (tgt := 42) dX6_form_29 (by decide) (fun hc => ?_) (fun hc => ?_)
    · replace h := br_p hc h
      refine r_aload_n C 0 rfl dX6_form_42 rfl ?_
      refine m_g_two C dX6_form_43 ?_
      refine r_iload C 5 rfl dX6_form_46 ?_
      obtain ⟨hi, h⟩ := gd_t h
      refine m_l_two C hi dX6_form_48 ?_
      refine r_iload_n C 3 rfl dX6_form_49 rfl ?_
      refine r_if_eq C (tgt := 63) dX6_form_50 (by decide) (fun hc => ?_) (fun hc => ?_)
      · replace h := br_p hc h
        refine r_aload_n C 0 rfl dX6_form_63 rfl ?_
        refine m_g_two C dX6_form_64 ?_
        refine r_iload C 6 rfl dX6_form_67 ?_
        obtain ⟨hi, h⟩ := gd_t h
        refine m_l_two C hi dX6_form_69 ?_
        obtain ⟨r3, qr3, h⟩ := bd_i h
        refine q_callV C 0 0 0 (c_times qr3) rfl mw_self rfl ok_times in_times lk6_76 rfl (Nat.le_of_ble_eq_true rfl) ⟨Nat.le_of_ble_eq_true rfl, Nat.le_of_ble_eq_true rfl⟩ dX6_form_70 rfl rfl ?_
        refine r_lstore C (lv' := [(8, .long r3), (0, .ref h0), (1, .int l1), (2, .int l2), (3, .int l3), (4, .long s.1), (6, .int l6), (7, .int s.2)]) dX6_form_73 (by decide) rfl ?_
        refine r_lload C 5 rfl dX6_form_75 ?_
        refine r_aload_n C 1 rfl dX6_form_77 rfl ?_
        refine r_aload_n C 1 rfl dX6_form_78 rfl ?_
        refine r_iload_n C 2 rfl dX6_form_79 rfl ?_
        refine r_iload C 6 rfl dX6_form_80 ?_
        refine r_aload_n C 1 rfl dX6_form_82 rfl ?_
        obtain ⟨r4, qr4, h⟩ := bd_i h
        refine q_callV C 6 0 0 (c_side qr4) rfl mw_self rfl ok_side in_side lk6_111 rfl (Nat.le_of_ble_eq_true rfl) ⟨Nat.le_of_ble_eq_true rfl, Nat.le_of_ble_eq_true rfl⟩ dX6_form_83 rfl rfl ?_
        refine r_imul C dX6_form_86 ?_
        refine r_iload C 7 rfl dX6_form_87 ?_
        refine r_iadd C dX6_form_89 ?_
        obtain ⟨r5, qr5, h⟩ := bd_i h
        refine q_callV C 3 0 0 (c_of qr5) rfl mw_self rfl ok_of in_of lk6_108 rfl (Nat.le_of_ble_eq_true rfl) ⟨Nat.le_of_ble_eq_true rfl, Nat.le_of_ble_eq_true rfl⟩ dX6_form_90 rfl rfl ?_
        refine r_lload C 0 rfl dX6_form_93 ?_
        obtain ⟨r6, qr6, h⟩ := bd_i h
        refine q_callV C 2 0 0 (c_times qr6) rfl mw_self rfl ok_times in_times lk6_76 rfl (Nat.le_of_ble_eq_true rfl) ⟨Nat.le_of_ble_eq_true rfl, Nat.le_of_ble_eq_true rfl⟩ dX6_form_95 rfl rfl ?_
        refine r_ladd C dX6_form_98 ?_
        refine r_aload_n C 1 rfl dX6_form_99 rfl ?_
        refine m_g_p C dX6_form_100 ?_
        obtain ⟨hne, h⟩ := gd_n h
        refine r_lrem C dX6_form_103 hne ?_
        refine r_lstore C (lv' := [(4, .long ((s.1 + r6) - (s.1 + r6) / p * p)), (8, .long r3), (0, .ref h0), (1, .int l1), (2, .int l2), (3, .int l3), (6, .int l6), (7, .int s.2)]) dX6_form_104 (by decide) rfl ?_
        refine r_iinc C (v := s.2 + 1) (lv' := [(7, .int (s.2 + 1)), (4, .long ((s.1 + r6) - (s.1 + r6) / p * p)), (8, .long r3), (0, .ref h0), (1, .int l1), (2, .int l2), (3, .int l3), (6, .int l6)]) 7 rfl dX6_form_106 rfl (by decide) rfl ?_
        refine r_goto C (tgt := 18) dX6_form_109 (by decide) ?_
        refine r_lv [3, 4, 5, 6, 1, 7, 0] rfl ?_
        exact kl _ (sm_i h)
      · replace h := br_n hc h
        refine r_aload_n C 0 rfl dX6_form_53 rfl ?_
        refine m_g_one C dX6_form_54 ?_
        refine r_iload C 6 rfl dX6_form_57 ?_
        obtain ⟨hi, h⟩ := gd_t h
        refine m_l_one C hi dX6_form_59 ?_
        refine r_goto C (tgt := 70) dX6_form_60 (by decide) ?_
        obtain ⟨r7, qr7, h⟩ := bd_i h
        refine q_callV C 0 0 0 (c_times qr7) rfl mw_self rfl ok_times in_times lk6_76 rfl (Nat.le_of_ble_eq_true rfl) ⟨Nat.le_of_ble_eq_true rfl, Nat.le_of_ble_eq_true rfl⟩ dX6_form_70 rfl rfl ?_
        refine r_lstore C (lv' := [(8, .long r7), (0, .ref h0), (1, .int l1), (2, .int l2), (3, .int l3), (4, .long s.1), (6, .int l6), (7, .int s.2)]) dX6_form_73 (by decide) rfl ?_
        refine r_lload C 5 rfl dX6_form_75 ?_
        refine r_aload_n C 1 rfl dX6_form_77 rfl ?_
        refine r_aload_n C 1 rfl dX6_form_78 rfl ?_
        refine r_iload_n C 2 rfl dX6_form_79 rfl ?_
        refine r_iload C 6 rfl dX6_form_80 ?_
        refine r_aload_n C 1 rfl dX6_form_82 rfl ?_
        obtain ⟨r8, qr8, h⟩ := bd_i h
        refine q_callV C 6 0 0 (c_side qr8) rfl mw_self rfl ok_side in_side lk6_111 rfl (Nat.le_of_ble_eq_true rfl) ⟨Nat.le_of_ble_eq_true rfl, Nat.le_of_ble_eq_true rfl⟩ dX6_form_83 rfl rfl ?_
        refine r_imul C dX6_form_86 ?_
        refine r_iload C 7 rfl dX6_form_87 ?_
        refine r_iadd C dX6_form_89 ?_
        obtain ⟨r9, qr9, h⟩ := bd_i h
        refine q_callV C 3 0 0 (c_of qr9) rfl mw_self rfl ok_of in_of lk6_108 rfl (Nat.le_of_ble_eq_true rfl) ⟨Nat.le_of_ble_eq_true rfl, Nat.le_of_ble_eq_true rfl⟩ dX6_form_90 rfl rfl ?_
        refine r_lload C 0 rfl dX6_form_93 ?_
        obtain ⟨r10, qr10, h⟩ := bd_i h
        refine q_callV C 2 0 0 (c_times qr10) rfl mw_self rfl ok_times in_times lk6_76 rfl (Nat.le_of_ble_eq_true rfl) ⟨Nat.le_of_ble_eq_true rfl, Nat.le_of_ble_eq_true rfl⟩ dX6_form_95 rfl rfl ?_
        refine r_ladd C dX6_form_98 ?_
        refine r_aload_n C 1 rfl dX6_form_99 rfl ?_
        refine m_g_p C dX6_form_100 ?_
        obtain ⟨hne, h⟩ := gd_n h
        refine r_lrem C dX6_form_103 hne ?_
        refine r_lstore C (lv' := [(4, .long ((s.1 + r10) - (s.1 + r10) / p * p)), (8, .long r7), (0, .ref h0), (1, .int l1), (2, .int l2), (3, .int l3), (6, .int l6), (7, .int s.2)]) dX6_form_104 (by decide) rfl ?_
        refine r_iinc C (v := s.2 + 1) (lv' := [(7, .int (s.2 + 1)), (4, .long ((s.1 + r10) - (s.1 + r10) / p * p)), (8, .long r7), (0, .ref h0), (1, .int l1), (2, .int l2), (3, .int l3), (6, .int l6)]) 7 rfl dX6_form_106 rfl (by decide) rfl ?_
        refine r_goto C (tgt := 18) dX6_form_109 (by decide) ?_
        refine r_lv [3, 4, 5, 6, 1, 7, 0] rfl ?_
        exact kl _ (sm_i h)
    · replace h := br_n hc h
      refine r_aload_n C 0 rfl dX6_form_32 rfl ?_
      refine m_g_one C dX6_form_33 ?_
      refine r_iload C 5 rfl dX6_form_36 ?_
      obtain ⟨hi, h⟩ := gd_t h
      refine m_l_one C hi dX6_form_38 ?_
      refine r_goto C (tgt := 49) dX6_form_39 (by decide) ?_
      refine r_iload_n C 3 rfl dX6_form_49 rfl ?_
      refine r_if_eq C (tgt := 63) dX6_form_50 (by decide) (fun hc => ?_) (fun hc => ?_)
      · replace h := br_p hc h
        refine r_aload_n C 0 rfl dX6_form_63 rfl ?_
        refine m_g_two C dX6_form_64 ?_
        refine r_iload C 6 rfl dX6_form_67 ?_
        obtain ⟨hi, h⟩ := gd_t h
        refine m_l_two C hi dX6_form_69 ?_
        obtain ⟨r11, qr11, h⟩ := bd_i h
        refine q_callV C 0 0 0 (c_times qr11) rfl mw_self rfl ok_times in_times lk6_76 rfl (Nat.le_of_ble_eq_true rfl) ⟨Nat.le_of_ble_eq_true rfl, Nat.le_of_ble_eq_true rfl⟩ dX6_form_70 rfl rfl ?_
        refine r_lstore C (lv' := [(8, .long r11), (0, .ref h0), (1, .int l1), (2, .int l2), (3, .int l3), (4, .long s.1), (6, .int l6), (7, .int s.2)]) dX6_form_73 (by decide) rfl ?_
        refine r_lload C 5 rfl dX6_form_75 ?_
        refine r_aload_n C 1 rfl dX6_form_77 rfl ?_
        refine r_aload_n C 1 rfl dX6_form_78 rfl ?_
        refine r_iload_n C 2 rfl dX6_form_79 rfl ?_
        refine r_iload C 6 rfl dX6_form_80 ?_
        refine r_aload_n C 1 rfl dX6_form_82 rfl ?_
        obtain ⟨r12, qr12, h⟩ := bd_i h
        refine q_callV C 6 0 0 (c_side qr12) rfl mw_self rfl ok_side in_side lk6_111 rfl (Nat.le_of_ble_eq_true rfl) ⟨Nat.le_of_ble_eq_true rfl, Nat.le_of_ble_eq_true rfl⟩ dX6_form_83 rfl rfl ?_
        refine r_imul C dX6_form_86 ?_
        refine r_iload C 7 rfl dX6_form_87 ?_
        refine r_iadd C dX6_form_89 ?_
        obtain ⟨r13, qr13, h⟩ := bd_i h
        refine q_callV C 3 0 0 (c_of qr13) rfl mw_self rfl ok_of in_of lk6_108 rfl (Nat.le_of_ble_eq_true rfl) ⟨Nat.le_of_ble_eq_true rfl, Nat.le_of_ble_eq_true rfl⟩ dX6_form_90 rfl rfl ?_
        refine r_lload C 0 rfl dX6_form_93 ?_
        obtain ⟨r14, qr14, h⟩ := bd_i h
        refine q_callV C 2 0 0 (c_times qr14) rfl mw_self rfl ok_times in_times lk6_76 rfl (Nat.le_of_ble_eq_true rfl) ⟨Nat.le_of_ble_eq_true rfl, Nat.le_of_ble_eq_true rfl⟩ dX6_form_95 rfl rfl ?_
        refine r_ladd C dX6_form_98 ?_
        refine r_aload_n C 1 rfl dX6_form_99 rfl ?_
        refine m_g_p C dX6_form_100 ?_
        obtain ⟨hne, h⟩ := gd_n h
        refine r_lrem C dX6_form_103 hne ?_
        refine r_lstore C (lv' := [(4, .long ((s.1 + r14) - (s.1 + r14) / p * p)), (8, .long r11), (0, .ref h0), (1, .int l1), (2, .int l2), (3, .int l3), (6, .int l6), (7, .int s.2)]) dX6_form_104 (by decide) rfl ?_
        refine r_iinc C (v := s.2 + 1) (lv' := [(7, .int (s.2 + 1)), (4, .long ((s.1 + r14) - (s.1 + r14) / p * p)), (8, .long r11), (0, .ref h0), (1, .int l1), (2, .int l2), (3, .int l3), (6, .int l6)]) 7 rfl dX6_form_106 rfl (by decide) rfl ?_
        refine r_goto C (tgt := 18) dX6_form_109 (by decide) ?_
        refine r_lv [3, 4, 5, 6, 1, 7, 0] rfl ?_
        exact kl _ (sm_i h)
      · replace h := br_n hc h
        refine r_aload_n C 0 rfl dX6_form_53 rfl ?_
        refine m_g_one C dX6_form_54 ?_
        refine r_iload C 6 rfl dX6_form_57 ?_
        obtain ⟨hi, h⟩ := gd_t h
        refine m_l_one C hi dX6_form_59 ?_
        refine r_goto C (tgt := 70) dX6_form_60 (by decide) ?_
        obtain ⟨r15, qr15, h⟩ := bd_i h
        refine q_callV C 0 0 0 (c_times qr15) rfl mw_self rfl ok_times in_times lk6_76 rfl (Nat.le_of_ble_eq_true rfl) ⟨Nat.le_of_ble_eq_true rfl, Nat.le_of_ble_eq_true rfl⟩ dX6_form_70 rfl rfl ?_
        refine r_lstore C (lv' := [(8, .long r15), (0, .ref h0), (1, .int l1), (2, .int l2), (3, .int l3), (4, .long s.1), (6, .int l6), (7, .int s.2)]) dX6_form_73 (by decide) rfl ?_
        refine r_lload C 5 rfl dX6_form_75 ?_
        refine r_aload_n C 1 rfl dX6_form_77 rfl ?_
        refine r_aload_n C 1 rfl dX6_form_78 rfl ?_
        refine r_iload_n C 2 rfl dX6_form_79 rfl ?_
        refine r_iload C 6 rfl dX6_form_80 ?_
        refine r_aload_n C 1 rfl dX6_form_82 rfl ?_
        obtain ⟨r16, qr16, h⟩ := bd_i h
        refine q_callV C 6 0 0 (c_side qr16) rfl mw_self rfl ok_side in_side lk6_111 rfl (Nat.le_of_ble_eq_true rfl) ⟨Nat.le_of_ble_eq_true rfl, Nat.le_of_ble_eq_true rfl⟩ dX6_form_83 rfl rfl ?_
        refine r_imul C dX6_form_86 ?_
        refine r_iload C 7 rfl dX6_form_87 ?_
        refine r_iadd C dX6_form_89 ?_
        obtain ⟨r17, qr17, h⟩ := bd_i h
        refine q_callV C 3 0 0 (c_of qr17) rfl mw_self rfl ok_of in_of lk6_108 rfl (Nat.le_of_ble_eq_true rfl) ⟨Nat.le_of_ble_eq_true rfl, Nat.le_of_ble_eq_true rfl⟩ dX6_form_90 rfl rfl ?_
        refine r_lload C 0 rfl dX6_form_93 ?_
        obtain ⟨r18, qr18, h⟩ := bd_i h
        refine q_callV C 2 0 0 (c_times qr18) rfl mw_self rfl ok_times in_times lk6_76 rfl (Nat.le_of_ble_eq_true rfl) ⟨Nat.le_of_ble_eq_true rfl, Nat.le_of_ble_eq_true rfl⟩ dX6_form_95 rfl rfl ?_
        refine r_ladd C dX6_form_98 ?_
        refine r_aload_n C 1 rfl dX6_form_99 rfl ?_
        refine m_g_p C dX6_form_100 ?_
        obtain ⟨hne, h⟩ := gd_n h
        refine r_lrem C dX6_form_103 hne ?_
        refine r_lstore C (lv' := [(4, .long ((s.1 + r18) - (s.1 + r18) / p * p)), (8, .long r15), (0, .ref h0), (1, .int l1), (2, .int l2), (3, .int l3), (6, .int l6), (7, .int s.2)]) dX6_form_104 (by decide) rfl ?_
        refine r_iinc C (v := s.2 + 1) (lv' := [(7, .int (s.2 + 1)), (4, .long ((s.1 + r18) - (s.1 + r18) / p * p)), (8, .long r15), (0, .ref h0), (1, .int l1), (2, .int l2), (3, .int l3), (6, .int l6)]) 7 rfl dX6_form_106 rfl (by decide) rfl ?_
        refine r_goto C (tgt := 18) dX6_form_109 (by decide) ?_
        refine r_lv [3, 4, 5, 6, 1, 7, 0] rfl ?_
        exact kl _ (sm_i h)
set_option maxHeartbeats 4000000 in
set_option maxRecDepth 100000 in
theorem w_form_L6 {K : kT} {O : oT} (C : aC K cX6_form RX6 "form" 1 18 0 0 10 (some .long) O) {h0 : Nat} {hp : cH} {sz : Nat} {n : Int32} {p : Int64} {count : Int32} {sorts : Nat → Int32} {rows : Nat → Int64} {hand : Nat → Int64} {gathered : Int32} {gather : Nat → Int32} {paired : Int32} {pairA : Nat → Int32} {pairB : Nat → Int32} {ideal : Int32} {draft : Nat → Int64} {frame : Nat → Int64} {one : Nat → Int64} {two : Nat → Int64} {turned : Nat → Int64} {placeI : Int32} {placeJ : Int32} {formA : Int64} {formB : Int64} {formC : Int64} {l1 : Int32} {l2 : Int32} {l3 : Int32} {v0 : Int64} {v1 : Int32} {r : Int64} (h : itX (m_form_L6 n p rows one two l1 l2 l3) (v0, v1) = some r) (hr : aW K (mw h0 hp n p count sorts rows hand gathered gather paired pairA pairB ideal draft frame one two turned placeI placeJ formA formB formC) sz 0 0 118 [(4, .long r)] []) : aW K (mw h0 hp n p count sorts rows hand gathered gather paired pairA pairB ideal draft frame one two turned placeI placeJ formA formB formC) sz 0 0 6 [(0, .ref h0), (1, .int l1), (2, .int l2), (3, .int l3), (4, .long v0), (6, .int v1)] [] := by
  refine it_walk (f := m_form_L6 n p rows one two l1 l2 l3) (P := fun s => aW K (mw h0 hp n p count sorts rows hand gathered gather paired pairA pairB ideal draft frame one two turned placeI placeJ formA formB formC) sz 0 0 6 [(0, .ref h0), (1, .int l1), (2, .int l2), (3, .int l3), (4, .long s.1), (6, .int s.2)] []) (R := fun r => aW K (mw h0 hp n p count sorts rows hand gathered gather paired pairA pairB ideal draft frame one two turned placeI placeJ formA formB formC) sz 0 0 118 [(4, .long r)] []) ?_ h hr
  clear h hr
  intro s x h kl kr
  unfold m_form_L6 at h
  refine r_iload C 5 rfl dX6_form_6 ?_
  refine r_aload_n C 0 rfl dX6_form_8 rfl ?_
  obtain ⟨r1, qr1, h⟩ := bd_i h
  refine q_callV C 1 0 0 (c_side qr1) rfl mw_self rfl ok_side in_side lk6_111 rfl (Nat.le_of_ble_eq_true rfl) ⟨Nat.le_of_ble_eq_true rfl, Nat.le_of_ble_eq_true rfl⟩ dX6_form_9 rfl rfl ?_
  refine r_icmp_ge C (tgt := 118) dX6_form_12 (by decide) (fun hc => ?_) (fun hc => ?_)
  · replace h := br_p hc h
    refine r_lv [4] rfl ?_
    exact kr _ (sm_i h)
  · replace h := br_n hc h
    refine r_iconst C (v := 0) dX6_form_15 (by decide) ?_
    refine r_istore C (lv' := [(7, .int ((0 : Int32))), (0, .ref h0), (1, .int l1), (2, .int l2), (3, .int l3), (4, .long s.1), (6, .int s.2)]) dX6_form_16 (by decide) rfl ?_
    refine r_lv [1, 2, 3, 4, 5, 6, 0] rfl ?_
    obtain ⟨r19, qr19, h⟩ := bd_i h
    refine w_form_L18 C qr19 ?_
    refine r_iinc C (v := s.2 + 1) (lv' := [(6, .int (s.2 + 1)), (0, .ref h0), (1, .int l1), (2, .int l2), (3, .int l3), (4, .long r19)]) 5 rfl dX6_form_112 rfl (by decide) rfl ?_
    refine r_goto C (tgt := 6) dX6_form_115 (by decide) ?_
    refine r_lv [1, 2, 3, 4, 5, 0] rfl ?_
    exact kl _ (sm_i h)
set_option maxHeartbeats 4000000 in
set_option maxRecDepth 100000 in
theorem c_form {G : gT} {h0 : Nat} {hp : cH} {sz : Nat} {n : Int32} {p : Int64} {count : Int32} {sorts : Nat → Int32} {rows : Nat → Int64} {hand : Nat → Int64} {gathered : Int32} {gather : Nat → Int32} {paired : Int32} {pairA : Nat → Int32} {pairB : Nat → Int32} {ideal : Int32} {draft : Nat → Int64} {frame : Nat → Int64} {one : Nat → Int64} {two : Nat → Int64} {turned : Nat → Int64} {placeI : Int32} {placeJ : Int32} {formA : Int64} {formB : Int64} {formC : Int64} {x1 : Int32} {x2 : Int32} {x3 : Int32} {out : Int64} (h : m_form n p rows one two x1 x2 x3 = some out) : aM G yX6_form cX6_form 10 (some .long) 1 18 0 0 [.ref h0, .int x1, .int x2, .int x3] (mw h0 hp n p count sorts rows hand gathered gather paired pairA pairB ideal draft frame one two turned placeI placeJ formA formB formC) sz ((some (.long out), mw h0 hp n p count sorts rows hand gathered gather paired pairA pairB ideal draft frame one two turned placeI placeJ formA formB formC, sz) : oT) := by
  refine aM.of RX6 (by decide) rfl (Nat.le_of_ble_eq_true rfl) (fun K C => ?_)
  have hO : ((some (.long out), mw h0 hp n p count sorts rows hand gathered gather paired pairA pairB ideal draft frame one two turned placeI placeJ formA formB formC, sz) : oT) = ((some (.long out), mw h0 hp n p count sorts rows hand gathered gather paired pairA pairB ideal draft frame one two turned placeI placeJ formA formB formC, sz) : oT) := rfl
  refine r_lve (lv' := [(0, .ref h0), (1, .int x1), (2, .int x2), (3, .int x3)]) rfl ?_
  unfold m_form at h
  refine r_lconst C (v := 0) dX6_form_0 (by decide) ?_
  refine r_lstore C (lv' := [(4, .long ((0 : Int64))), (0, .ref h0), (1, .int x1), (2, .int x2), (3, .int x3)]) dX6_form_1 (by decide) rfl ?_
  refine r_iconst C (v := 0) dX6_form_3 (by decide) ?_
  refine r_istore C (lv' := [(6, .int ((0 : Int32))), (4, .long ((0 : Int64))), (0, .ref h0), (1, .int x1), (2, .int x2), (3, .int x3)]) dX6_form_4 (by decide) rfl ?_
  refine r_lv [2, 3, 4, 5, 1, 0] rfl ?_
  obtain ⟨r20, qr20, h⟩ := bd_i h
  refine w_form_L6 C qr20 ?_
  refine r_lload C 0 rfl dX6_form_118 ?_
  obtain rfl := sm_i h
  exact r_lreturn C (Eq.symm hO) dX6_form_120
noncomputable def m_isOn_J165 (n : Int32) (p : Int64) (rows : Nat → Int64) (draft : Nat → Int64) (one : Nat → Int64) (l1 : Int32) (l2 : Int32) (l3 : Int32) (l4 : Int32) : Option (Int32 × (Nat → Int64) × (Nat → Int64)) := if l3 = ((1 : Int32)) then (if l4 = ((2 : Int32)) then ((m_pierced p rows draft l1 l2).bind fun r1 => (m_isNothing n r1 ((0 : Int32))).bind fun r2 => if r2 = 0 then (some ((0 : Int32), r1, one)) else (some ((1 : Int32), r1, one))) else (some ((-2 : Int32), draft, one))) else (some ((-2 : Int32), draft, one))
noncomputable def m_isOn_J123 (n : Int32) (p : Int64) (rows : Nat → Int64) (draft : Nat → Int64) (one : Nat → Int64) (l1 : Int32) (l2 : Int32) (l3 : Int32) (l4 : Int32) : Option (Int32 × (Nat → Int64) × (Nat → Int64)) := if n = ((3 : Int32)) then (if l3 = 0 then (if l4 = ((1 : Int32)) then ((m_takeOne n rows one l1).bind fun r3 => (m_spanned p rows draft r3 l2).bind fun r4 => (m_isNothing n r4 ((2 : Int32))).bind fun r5 => if r5 = 0 then (some ((0 : Int32), r4, r3)) else (some ((1 : Int32), r4, r3))) else (m_isOn_J165 n p rows draft one l1 l2 l3 l4)) else (m_isOn_J165 n p rows draft one l1 l2 l3 l4)) else (m_isOn_J165 n p rows draft one l1 l2 l3 l4)
noncomputable def m_isOn_J89 (n : Int32) (p : Int64) (rows : Nat → Int64) (draft : Nat → Int64) (one : Nat → Int64) (l1 : Int32) (l2 : Int32) (l3 : Int32) (l4 : Int32) : Option (Int32 × (Nat → Int64) × (Nat → Int64)) := if n = ((3 : Int32)) then (if l4 = ((1 : Int32)) then (if l3 = ((1 : Int32)) then ((m_isCrossed p rows l1 l2).bind fun r6 => if r6 = 0 then (some ((0 : Int32), draft, one)) else (some ((1 : Int32), draft, one))) else (m_isOn_J123 n p rows draft one l1 l2 l3 l4)) else (m_isOn_J123 n p rows draft one l1 l2 l3 l4)) else (m_isOn_J123 n p rows draft one l1 l2 l3 l4)
noncomputable def m_isOn_J48 (n : Int32) (p : Int64) (rows : Nat → Int64) (draft : Nat → Int64) (one : Nat → Int64) (l1 : Int32) (l2 : Int32) (l3 : Int32) (l4 : Int32) : Option (Int32 × (Nat → Int64) × (Nat → Int64)) := if l3 = 0 then (if l4 = ((2 : Int32)) then ((m_dot n p rows l1 l2).bind fun r7 => if r7 = ((0 : Int64)) then (some ((1 : Int32), draft, one)) else (some ((0 : Int32), draft, one))) else (if l4 = ((1 : Int32)) then (if n = ((2 : Int32)) then ((m_dot n p rows l1 l2).bind fun r8 => if r8 = ((0 : Int64)) then (some ((1 : Int32), draft, one)) else (some ((0 : Int32), draft, one))) else (m_isOn_J89 n p rows draft one l1 l2 l3 l4)) else (m_isOn_J89 n p rows draft one l1 l2 l3 l4))) else (m_isOn_J89 n p rows draft one l1 l2 l3 l4)
noncomputable def m_isOn (n : Int32) (p : Int64) (sorts : Nat → Int32) (rows : Nat → Int64) (draft : Nat → Int64) (one : Nat → Int64) (two : Nat → Int64) (x1 : Int32) (x2 : Int32) : Option (Int32 × (Nat → Int64) × (Nat → Int64)) := if gi x1 60 then if gi x2 60 then if (sorts x1.toNatClampNeg) = 0 then (if (sorts x2.toNatClampNeg) = ((4 : Int32)) then ((m_takeOne n rows one x1).bind fun r9 => (m_form n p rows r9 two x2 ((1 : Int32)) ((1 : Int32))).bind fun r10 => if r10 = ((0 : Int64)) then (some ((1 : Int32), draft, r9)) else (some ((0 : Int32), draft, r9))) else (m_isOn_J48 n p rows draft one x1 x2 (sorts x1.toNatClampNeg) (sorts x2.toNatClampNeg))) else (m_isOn_J48 n p rows draft one x1 x2 (sorts x1.toNatClampNeg) (sorts x2.toNatClampNeg)) else none else none
set_option maxHeartbeats 4000000 in
set_option maxRecDepth 100000 in
theorem w_isOn_J165 {K : kT} {O : oT} (C : aC K cX6_isOn RX6 "isOn" 3 56 0 0 5 (some .int) O) {h0 : Nat} {hp : cH} {sz : Nat} {n : Int32} {p : Int64} {count : Int32} {sorts : Nat → Int32} {rows : Nat → Int64} {hand : Nat → Int64} {gathered : Int32} {gather : Nat → Int32} {paired : Int32} {pairA : Nat → Int32} {pairB : Nat → Int32} {ideal : Int32} {draft : Nat → Int64} {frame : Nat → Int64} {one : Nat → Int64} {two : Nat → Int64} {turned : Nat → Int64} {placeI : Int32} {placeJ : Int32} {formA : Int64} {formB : Int64} {formC : Int64} {l1 : Int32} {l2 : Int32} {l3 : Int32} {l4 : Int32} {out : (Int32 × (Nat → Int64) × (Nat → Int64))} (h : m_isOn_J165 n p rows draft one l1 l2 l3 l4 = some out) (hO : ((some (.int out.1), mw h0 hp n p count sorts rows hand gathered gather paired pairA pairB ideal out.2.1 frame out.2.2 two turned placeI placeJ formA formB formC, sz) : oT) = O) : aW K (mw h0 hp n p count sorts rows hand gathered gather paired pairA pairB ideal draft frame one two turned placeI placeJ formA formB formC) sz 0 0 165 [(0, .ref h0), (1, .int l1), (2, .int l2), (3, .int l3), (4, .int l4)] [] := by
  unfold m_isOn_J165 at h
  refine r_iload_n C 3 rfl dX6_isOn_165 rfl ?_
  refine r_iconst C (v := 1) dX6_isOn_166 (by decide) ?_
  refine r_icmp_ne C (tgt := 196) dX6_isOn_167 (by decide) (fun hc => ?_) (fun hc => ?_)
  · replace h := br_n hc h
    refine r_bipush C (v := -2) dX6_isOn_196 (by decide) ?_
    obtain rfl := sm_i h
    exact r_ireturn C (Eq.symm hO) dX6_isOn_198
  · replace h := br_p hc h
    refine r_iload C 4 rfl dX6_isOn_170 ?_
    refine r_iconst C (v := 2) dX6_isOn_172 (by decide) ?_
    refine r_icmp_ne C (tgt := 196) dX6_isOn_173 (by decide) (fun hc => ?_) (fun hc => ?_)
    · replace h := br_n hc h
      refine r_bipush C (v := -2) dX6_isOn_196 (by decide) ?_
      obtain rfl := sm_i h
      exact r_ireturn C (Eq.symm hO) dX6_isOn_198
    · replace h := br_p hc h
      refine r_aload_n C 0 rfl dX6_isOn_176 rfl ?_
      refine r_iload_n C 1 rfl dX6_isOn_177 rfl ?_
      refine r_iload_n C 2 rfl dX6_isOn_178 rfl ?_
      obtain ⟨r1, qr1, h⟩ := bd_i h
      refine q_callVv C 0 0 0 (c_pierced qr1) rfl mw_self rfl ok_pierced in_pierced lk6_181 rfl (Nat.le_of_ble_eq_true rfl) ⟨Nat.le_of_ble_eq_true rfl, Nat.le_of_ble_eq_true rfl⟩ dX6_isOn_179 rfl rfl ?_
      refine r_aload_n C 0 rfl dX6_isOn_182 rfl ?_
      refine r_iconst C (v := 0) dX6_isOn_183 (by decide) ?_
      obtain ⟨r2, qr2, h⟩ := bd_i h
      refine q_callV C 0 0 0 (c_isNothing qr2) rfl mw_self rfl ok_isNothing in_isNothing lk6_130 rfl (Nat.le_of_ble_eq_true rfl) ⟨Nat.le_of_ble_eq_true rfl, Nat.le_of_ble_eq_true rfl⟩ dX6_isOn_184 rfl rfl ?_
      refine r_if_eq C (tgt := 194) dX6_isOn_187 (by decide) (fun hc => ?_) (fun hc => ?_)
      · replace h := br_p hc h
        refine r_iconst C (v := 0) dX6_isOn_194 (by decide) ?_
        obtain rfl := sm_i h
        exact r_ireturn C (Eq.symm hO) dX6_isOn_195
      · replace h := br_n hc h
        refine r_iconst C (v := 1) dX6_isOn_190 (by decide) ?_
        refine r_goto C (tgt := 195) dX6_isOn_191 (by decide) ?_
        obtain rfl := sm_i h
        exact r_ireturn C (Eq.symm hO) dX6_isOn_195
set_option maxHeartbeats 4000000 in
set_option maxRecDepth 100000 in
theorem w_isOn_J123 {K : kT} {O : oT} (C : aC K cX6_isOn RX6 "isOn" 3 56 0 0 5 (some .int) O) {h0 : Nat} {hp : cH} {sz : Nat} {n : Int32} {p : Int64} {count : Int32} {sorts : Nat → Int32} {rows : Nat → Int64} {hand : Nat → Int64} {gathered : Int32} {gather : Nat → Int32} {paired : Int32} {pairA : Nat → Int32} {pairB : Nat → Int32} {ideal : Int32} {draft : Nat → Int64} {frame : Nat → Int64} {one : Nat → Int64} {two : Nat → Int64} {turned : Nat → Int64} {placeI : Int32} {placeJ : Int32} {formA : Int64} {formB : Int64} {formC : Int64} {l1 : Int32} {l2 : Int32} {l3 : Int32} {l4 : Int32} {out : (Int32 × (Nat → Int64) × (Nat → Int64))} (h : m_isOn_J123 n p rows draft one l1 l2 l3 l4 = some out) (hO : ((some (.int out.1), mw h0 hp n p count sorts rows hand gathered gather paired pairA pairB ideal out.2.1 frame out.2.2 two turned placeI placeJ formA formB formC, sz) : oT) = O) : aW K (mw h0 hp n p count sorts rows hand gathered gather paired pairA pairB ideal draft frame one two turned placeI placeJ formA formB formC) sz 0 0 123 [(0, .ref h0), (1, .int l1), (2, .int l2), (3, .int l3), (4, .int l4)] [] := by
  unfold m_isOn_J123 at h
  refine r_aload_n C 0 rfl dX6_isOn_123 rfl ?_
  refine m_g_n C dX6_isOn_124 ?_
  refine r_iconst C (v := 3) dX6_isOn_127 (by decide) ?_
  refine r_icmp_ne C (tgt := 165) dX6_isOn_128 (by decide) (fun hc => ?_) (fun hc => ?_)
  · replace h := br_n hc h
    refine r_lv [0, 1, 2, 3, 4] rfl ?_
    exact w_isOn_J165 C h hO
  · replace h := br_p hc h
    refine r_iload_n C 3 rfl dX6_isOn_131 rfl ?_
    refine r_if_ne C (tgt := 165) dX6_isOn_132 (by decide) (fun hc => ?_) (fun hc => ?_)
    · replace h := br_n hc h
      refine r_lv [0, 1, 2, 3, 4] rfl ?_
      exact w_isOn_J165 C h hO
    · replace h := br_p hc h
      refine r_iload C 4 rfl dX6_isOn_135 ?_
      refine r_iconst C (v := 1) dX6_isOn_137 (by decide) ?_
      refine r_icmp_ne C (tgt := 165) dX6_isOn_138 (by decide) (fun hc => ?_) (fun hc => ?_)
      · replace h := br_n hc h
        refine r_lv [0, 1, 2, 3, 4] rfl ?_
        exact w_isOn_J165 C h hO
      · replace h := br_p hc h
        refine r_aload_n C 0 rfl dX6_isOn_141 rfl ?_
        refine r_iload_n C 1 rfl dX6_isOn_142 rfl ?_
        obtain ⟨r3, qr3, h⟩ := bd_i h
        refine q_callVv C 0 0 0 (c_takeOne qr3) rfl mw_self rfl ok_takeOne in_takeOne lk6_150 rfl (Nat.le_of_ble_eq_true rfl) ⟨Nat.le_of_ble_eq_true rfl, Nat.le_of_ble_eq_true rfl⟩ dX6_isOn_143 rfl rfl ?_
        refine r_aload_n C 0 rfl dX6_isOn_146 rfl ?_
        refine r_iload_n C 2 rfl dX6_isOn_147 rfl ?_
        obtain ⟨r4, qr4, h⟩ := bd_i h
        refine q_callVv C 0 0 0 (c_spanned qr4) rfl mw_self rfl ok_spanned in_spanned lk6_165 rfl (Nat.le_of_ble_eq_true rfl) ⟨Nat.le_of_ble_eq_true rfl, Nat.le_of_ble_eq_true rfl⟩ dX6_isOn_148 rfl rfl ?_
        refine r_aload_n C 0 rfl dX6_isOn_151 rfl ?_
        refine r_iconst C (v := 2) dX6_isOn_152 (by decide) ?_
        obtain ⟨r5, qr5, h⟩ := bd_i h
        refine q_callV C 0 0 0 (c_isNothing qr5) rfl mw_self rfl ok_isNothing in_isNothing lk6_130 rfl (Nat.le_of_ble_eq_true rfl) ⟨Nat.le_of_ble_eq_true rfl, Nat.le_of_ble_eq_true rfl⟩ dX6_isOn_153 rfl rfl ?_
        refine r_if_eq C (tgt := 163) dX6_isOn_156 (by decide) (fun hc => ?_) (fun hc => ?_)
        · replace h := br_p hc h
          refine r_iconst C (v := 0) dX6_isOn_163 (by decide) ?_
          obtain rfl := sm_i h
          exact r_ireturn C (Eq.symm hO) dX6_isOn_164
        · replace h := br_n hc h
          refine r_iconst C (v := 1) dX6_isOn_159 (by decide) ?_
          refine r_goto C (tgt := 164) dX6_isOn_160 (by decide) ?_
          obtain rfl := sm_i h
          exact r_ireturn C (Eq.symm hO) dX6_isOn_164
set_option maxHeartbeats 4000000 in
set_option maxRecDepth 100000 in
theorem w_isOn_J89 {K : kT} {O : oT} (C : aC K cX6_isOn RX6 "isOn" 3 56 0 0 5 (some .int) O) {h0 : Nat} {hp : cH} {sz : Nat} {n : Int32} {p : Int64} {count : Int32} {sorts : Nat → Int32} {rows : Nat → Int64} {hand : Nat → Int64} {gathered : Int32} {gather : Nat → Int32} {paired : Int32} {pairA : Nat → Int32} {pairB : Nat → Int32} {ideal : Int32} {draft : Nat → Int64} {frame : Nat → Int64} {one : Nat → Int64} {two : Nat → Int64} {turned : Nat → Int64} {placeI : Int32} {placeJ : Int32} {formA : Int64} {formB : Int64} {formC : Int64} {l1 : Int32} {l2 : Int32} {l3 : Int32} {l4 : Int32} {out : (Int32 × (Nat → Int64) × (Nat → Int64))} (h : m_isOn_J89 n p rows draft one l1 l2 l3 l4 = some out) (hO : ((some (.int out.1), mw h0 hp n p count sorts rows hand gathered gather paired pairA pairB ideal out.2.1 frame out.2.2 two turned placeI placeJ formA formB formC, sz) : oT) = O) : aW K (mw h0 hp n p count sorts rows hand gathered gather paired pairA pairB ideal draft frame one two turned placeI placeJ formA formB formC) sz 0 0 89 [(0, .ref h0), (1, .int l1), (2, .int l2), (3, .int l3), (4, .int l4)] [] := by
  unfold m_isOn_J89 at h
  refine r_aload_n C 0 rfl dX6_isOn_89 rfl ?_
  refine m_g_n C dX6_isOn_90 ?_
  refine r_iconst C (v := 3) dX6_isOn_93 (by decide) ?_
  refine r_icmp_ne C (tgt := 123) dX6_isOn_94 (by decide) (fun hc => ?_) (fun hc => ?_)
  · replace h := br_n hc h
    refine r_lv [0, 1, 2, 3, 4] rfl ?_
    exact w_isOn_J123 C h hO
  · replace h := br_p hc h
    refine r_iload C 4 rfl dX6_isOn_97 ?_
    refine r_iconst C (v := 1) dX6_isOn_99 (by decide) ?_
    refine r_icmp_ne C (tgt := 123) dX6_isOn_100 (by decide) (fun hc => ?_) (fun hc => ?_)
    · replace h := br_n hc h
      refine r_lv [0, 1, 2, 3, 4] rfl ?_
      exact w_isOn_J123 C h hO
    · replace h := br_p hc h
      refine r_iload_n C 3 rfl dX6_isOn_103 rfl ?_
      refine r_iconst C (v := 1) dX6_isOn_104 (by decide) ?_
      refine r_icmp_ne C (tgt := 123) dX6_isOn_105 (by decide) (fun hc => ?_) (fun hc => ?_)
      · replace h := br_n hc h
        refine r_lv [0, 1, 2, 3, 4] rfl ?_
        exact w_isOn_J123 C h hO
      · replace h := br_p hc h
        refine r_aload_n C 0 rfl dX6_isOn_108 rfl ?_
        refine r_iload_n C 1 rfl dX6_isOn_109 rfl ?_
        refine r_iload_n C 2 rfl dX6_isOn_110 rfl ?_
        obtain ⟨r6, qr6, h⟩ := bd_i h
        refine q_callV C 0 0 0 (c_isCrossed qr6) rfl mw_self rfl ok_isCrossed in_isCrossed lk6_159 rfl (Nat.le_of_ble_eq_true rfl) ⟨Nat.le_of_ble_eq_true rfl, Nat.le_of_ble_eq_true rfl⟩ dX6_isOn_111 rfl rfl ?_
        refine r_if_eq C (tgt := 121) dX6_isOn_114 (by decide) (fun hc => ?_) (fun hc => ?_)
        · replace h := br_p hc h
          refine r_iconst C (v := 0) dX6_isOn_121 (by decide) ?_
          obtain rfl := sm_i h
          exact r_ireturn C (Eq.symm hO) dX6_isOn_122
        · replace h := br_n hc h
          refine r_iconst C (v := 1) dX6_isOn_117 (by decide) ?_
          refine r_goto C (tgt := 122) dX6_isOn_118 (by decide) ?_
          obtain rfl := sm_i h
          exact r_ireturn C (Eq.symm hO) dX6_isOn_122
set_option maxHeartbeats 4000000 in
set_option maxRecDepth 100000 in
theorem w_isOn_J48 {K : kT} {O : oT} (C : aC K cX6_isOn RX6 "isOn" 3 56 0 0 5 (some .int) O) {h0 : Nat} {hp : cH} {sz : Nat} {n : Int32} {p : Int64} {count : Int32} {sorts : Nat → Int32} {rows : Nat → Int64} {hand : Nat → Int64} {gathered : Int32} {gather : Nat → Int32} {paired : Int32} {pairA : Nat → Int32} {pairB : Nat → Int32} {ideal : Int32} {draft : Nat → Int64} {frame : Nat → Int64} {one : Nat → Int64} {two : Nat → Int64} {turned : Nat → Int64} {placeI : Int32} {placeJ : Int32} {formA : Int64} {formB : Int64} {formC : Int64} {l1 : Int32} {l2 : Int32} {l3 : Int32} {l4 : Int32} {out : (Int32 × (Nat → Int64) × (Nat → Int64))} (h : m_isOn_J48 n p rows draft one l1 l2 l3 l4 = some out) (hO : ((some (.int out.1), mw h0 hp n p count sorts rows hand gathered gather paired pairA pairB ideal out.2.1 frame out.2.2 two turned placeI placeJ formA formB formC, sz) : oT) = O) : aW K (mw h0 hp n p count sorts rows hand gathered gather paired pairA pairB ideal draft frame one two turned placeI placeJ formA formB formC) sz 0 0 48 [(0, .ref h0), (1, .int l1), (2, .int l2), (3, .int l3), (4, .int l4)] [] := by
  unfold m_isOn_J48 at h
  refine r_iload_n C 3 rfl dX6_isOn_48 rfl ?_
  refine r_if_ne C (tgt := 89) dX6_isOn_49 (by decide) (fun hc => ?_) (fun hc => ?_)
  · replace h := br_n hc h
    refine r_lv [0, 1, 2, 3, 4] rfl ?_
    exact w_isOn_J89 C h hO
  · replace h := br_p hc h
    refine r_iload C 4 rfl dX6_isOn_52 ?_
    refine r_iconst C (v := 2) dX6_isOn_54 (by decide) ?_
    refine r_icmp_eq C (tgt := 72) dX6_isOn_55 (by decide) (fun hc => ?_) (fun hc => ?_)
    · replace h := br_p hc h
      refine r_aload_n C 0 rfl dX6_isOn_72 rfl ?_
      refine r_iload_n C 1 rfl dX6_isOn_73 rfl ?_
      refine r_iload_n C 2 rfl dX6_isOn_74 rfl ?_
      obtain ⟨r7, qr7, h⟩ := bd_i h
      refine q_callV C 0 0 0 (c_dot qr7) rfl mw_self rfl ok_dot in_dot lk6_191 rfl (Nat.le_of_ble_eq_true rfl) ⟨Nat.le_of_ble_eq_true rfl, Nat.le_of_ble_eq_true rfl⟩ dX6_isOn_75 rfl rfl ?_
      refine r_lconst C (v := 0) dX6_isOn_78 (by decide) ?_
      refine r_lne C (tgt := 87) dX6_isOn_79 dX6_isOn_80 (by decide) (fun hc => ?_) (fun hc => ?_)
      · replace h := br_n hc h
        refine r_iconst C (v := 0) dX6_isOn_87 (by decide) ?_
        obtain rfl := sm_i h
        exact r_ireturn C (Eq.symm hO) dX6_isOn_88
      · replace h := br_p hc h
        refine r_iconst C (v := 1) dX6_isOn_83 (by decide) ?_
        refine r_goto C (tgt := 88) dX6_isOn_84 (by decide) ?_
        obtain rfl := sm_i h
        exact r_ireturn C (Eq.symm hO) dX6_isOn_88
    · replace h := br_n hc h
      refine r_iload C 4 rfl dX6_isOn_58 ?_
      refine r_iconst C (v := 1) dX6_isOn_60 (by decide) ?_
      refine r_icmp_ne C (tgt := 89) dX6_isOn_61 (by decide) (fun hc => ?_) (fun hc => ?_)
      · replace h := br_n hc h
        refine r_lv [0, 1, 2, 3, 4] rfl ?_
        exact w_isOn_J89 C h hO
      · replace h := br_p hc h
        refine r_aload_n C 0 rfl dX6_isOn_64 rfl ?_
        refine m_g_n C dX6_isOn_65 ?_
        refine r_iconst C (v := 2) dX6_isOn_68 (by decide) ?_
        refine r_icmp_ne C (tgt := 89) dX6_isOn_69 (by decide) (fun hc => ?_) (fun hc => ?_)
        · replace h := br_n hc h
          refine r_lv [0, 1, 2, 3, 4] rfl ?_
          exact w_isOn_J89 C h hO
        · replace h := br_p hc h
          refine r_aload_n C 0 rfl dX6_isOn_72 rfl ?_
          refine r_iload_n C 1 rfl dX6_isOn_73 rfl ?_
          refine r_iload_n C 2 rfl dX6_isOn_74 rfl ?_
          obtain ⟨r8, qr8, h⟩ := bd_i h
          refine q_callV C 0 0 0 (c_dot qr8) rfl mw_self rfl ok_dot in_dot lk6_191 rfl (Nat.le_of_ble_eq_true rfl) ⟨Nat.le_of_ble_eq_true rfl, Nat.le_of_ble_eq_true rfl⟩ dX6_isOn_75 rfl rfl ?_
          refine r_lconst C (v := 0) dX6_isOn_78 (by decide) ?_
          refine r_lne C (tgt := 87) dX6_isOn_79 dX6_isOn_80 (by decide) (fun hc => ?_) (fun hc => ?_)
          · replace h := br_n hc h
            refine r_iconst C (v := 0) dX6_isOn_87 (by decide) ?_
            obtain rfl := sm_i h
            exact r_ireturn C (Eq.symm hO) dX6_isOn_88
          · replace h := br_p hc h
            refine r_iconst C (v := 1) dX6_isOn_83 (by decide) ?_
            refine r_goto C (tgt := 88) dX6_isOn_84 (by decide) ?_
            obtain rfl := sm_i h
            exact r_ireturn C (Eq.symm hO) dX6_isOn_88
set_option maxHeartbeats 4000000 in
set_option maxRecDepth 100000 in
theorem c_isOn {G : gT} {h0 : Nat} {hp : cH} {sz : Nat} {n : Int32} {p : Int64} {count : Int32} {sorts : Nat → Int32} {rows : Nat → Int64} {hand : Nat → Int64} {gathered : Int32} {gather : Nat → Int32} {paired : Int32} {pairA : Nat → Int32} {pairB : Nat → Int32} {ideal : Int32} {draft : Nat → Int64} {frame : Nat → Int64} {one : Nat → Int64} {two : Nat → Int64} {turned : Nat → Int64} {placeI : Int32} {placeJ : Int32} {formA : Int64} {formB : Int64} {formC : Int64} {x1 : Int32} {x2 : Int32} {out : (Int32 × (Nat → Int64) × (Nat → Int64))} (h : m_isOn n p sorts rows draft one two x1 x2 = some out) : aM G yX6_isOn cX6_isOn 5 (some .int) 3 56 0 0 [.ref h0, .int x1, .int x2] (mw h0 hp n p count sorts rows hand gathered gather paired pairA pairB ideal draft frame one two turned placeI placeJ formA formB formC) sz ((some (.int out.1), mw h0 hp n p count sorts rows hand gathered gather paired pairA pairB ideal out.2.1 frame out.2.2 two turned placeI placeJ formA formB formC, sz) : oT) := by
  refine aM.of RX6 (by decide) rfl (Nat.le_of_ble_eq_true rfl) (fun K C => ?_)
  have hO : ((some (.int out.1), mw h0 hp n p count sorts rows hand gathered gather paired pairA pairB ideal out.2.1 frame out.2.2 two turned placeI placeJ formA formB formC, sz) : oT) = ((some (.int out.1), mw h0 hp n p count sorts rows hand gathered gather paired pairA pairB ideal out.2.1 frame out.2.2 two turned placeI placeJ formA formB formC, sz) : oT) := rfl
  refine r_lve (lv' := [(0, .ref h0), (1, .int x1), (2, .int x2)]) rfl ?_
  unfold m_isOn at h
  refine r_aload_n C 0 rfl dX6_isOn_0 rfl ?_
  refine m_g_sorts C dX6_isOn_1 ?_
  refine r_iload_n C 1 rfl dX6_isOn_4 rfl ?_
  obtain ⟨hi, h⟩ := gd_t h
  refine m_l_sorts C hi dX6_isOn_5 ?_
  refine r_istore_n C (lv' := [(3, .int (sorts x1.toNatClampNeg)), (0, .ref h0), (1, .int x1), (2, .int x2)]) dX6_isOn_6 rfl (by decide) rfl ?_
  refine r_aload_n C 1 rfl dX6_isOn_7 rfl ?_
  refine m_g_sorts C dX6_isOn_8 ?_
  refine r_iload_n C 3 rfl dX6_isOn_11 rfl ?_
  obtain ⟨hi, h⟩ := gd_t h
  refine m_l_sorts C hi dX6_isOn_12 ?_
  refine r_istore C (lv' := [(4, .int (sorts x2.toNatClampNeg)), (3, .int (sorts x1.toNatClampNeg)), (0, .ref h0), (1, .int x1), (2, .int x2)]) dX6_isOn_13 (by decide) rfl ?_
  refine r_iload_n C 1 rfl dX6_isOn_15 rfl ?_
  refine r_if_ne C (tgt := 48) dX6_isOn_16 (by decide) (fun hc => ?_) (fun hc => ?_)
  · replace h := br_n hc h
    refine r_lv [2, 3, 4, 1, 0] rfl ?_
    exact w_isOn_J48 C h hO
  · replace h := br_p hc h
    refine r_iload C 0 rfl dX6_isOn_19 ?_
    refine r_iconst C (v := 4) dX6_isOn_21 (by decide) ?_
    refine r_icmp_ne C (tgt := 48) dX6_isOn_22 (by decide) (fun hc => ?_) (fun hc => ?_)
    · replace h := br_n hc h
      refine r_lv [2, 3, 4, 1, 0] rfl ?_
      exact w_isOn_J48 C h hO
    · replace h := br_p hc h
      refine r_aload_n C 2 rfl dX6_isOn_25 rfl ?_
      refine r_iload_n C 3 rfl dX6_isOn_26 rfl ?_
      obtain ⟨r9, qr9, h⟩ := bd_i h
      refine q_callVv C 0 0 0 (c_takeOne qr9) rfl mw_self rfl ok_takeOne in_takeOne lk6_150 rfl (Nat.le_of_ble_eq_true rfl) ⟨Nat.le_of_ble_eq_true rfl, Nat.le_of_ble_eq_true rfl⟩ dX6_isOn_27 rfl rfl ?_
      refine r_aload_n C 2 rfl dX6_isOn_30 rfl ?_
      refine r_iload_n C 4 rfl dX6_isOn_31 rfl ?_
      refine r_iconst C (v := 1) dX6_isOn_32 (by decide) ?_
      refine r_iconst C (v := 1) dX6_isOn_33 (by decide) ?_
      obtain ⟨r10, qr10, h⟩ := bd_i h
      refine q_callV C 0 0 0 (c_form qr10) rfl mw_self rfl ok_form in_form lk6_187 rfl (Nat.le_of_ble_eq_true rfl) ⟨Nat.le_of_ble_eq_true rfl, Nat.le_of_ble_eq_true rfl⟩ dX6_isOn_34 rfl rfl ?_
      refine r_lconst C (v := 0) dX6_isOn_37 (by decide) ?_
      refine r_lne C (tgt := 46) dX6_isOn_38 dX6_isOn_39 (by decide) (fun hc => ?_) (fun hc => ?_)
      · replace h := br_n hc h
        refine r_iconst C (v := 0) dX6_isOn_46 (by decide) ?_
        obtain rfl := sm_i h
        exact r_ireturn C (Eq.symm hO) dX6_isOn_47
      · replace h := br_p hc h
        refine r_iconst C (v := 1) dX6_isOn_42 (by decide) ?_
        refine r_goto C (tgt := 47) dX6_isOn_43 (by decide) ?_
        obtain rfl := sm_i h
        exact r_ireturn C (Eq.symm hO) dX6_isOn_47
noncomputable def m_on (n : Int32) (p : Int64) (count : Int32) (sorts : Nat → Int32) (rows : Nat → Int64) (draft : Nat → Int64) (one : Nat → Int64) (two : Nat → Int64) (x1 : Int32) (x2 : Int32) : Option (Int32 × (Nat → Int64) × (Nat → Int64)) := (m_isObject count x1).bind fun r1 => if r1 = 0 then (some ((-2 : Int32), draft, one)) else ((m_isObject count x2).bind fun r2 => if r2 = 0 then (some ((-2 : Int32), draft, one)) else (if gi x1 60 then if gi x2 60 then if (sorts x2.toNatClampNeg) < (sorts x1.toNatClampNeg) then ((m_isOn n p sorts rows draft one two x2 x1).bind fun r3 => some (r3.1, r3.2.1, r3.2.2)) else ((m_isOn n p sorts rows draft one two x1 x2).bind fun r4 => some (r4.1, r4.2.1, r4.2.2)) else none else none))
set_option maxHeartbeats 4000000 in
set_option maxRecDepth 100000 in
theorem c_on {G : gT} {h0 : Nat} {hp : cH} {sz : Nat} {n : Int32} {p : Int64} {count : Int32} {sorts : Nat → Int32} {rows : Nat → Int64} {hand : Nat → Int64} {gathered : Int32} {gather : Nat → Int32} {paired : Int32} {pairA : Nat → Int32} {pairB : Nat → Int32} {ideal : Int32} {draft : Nat → Int64} {frame : Nat → Int64} {one : Nat → Int64} {two : Nat → Int64} {turned : Nat → Int64} {placeI : Int32} {placeJ : Int32} {formA : Int64} {formB : Int64} {formC : Int64} {x1 : Int32} {x2 : Int32} {out : (Int32 × (Nat → Int64) × (Nat → Int64))} (h : m_on n p count sorts rows draft one two x1 x2 = some out) : aM G yX6_on cX6_on 3 (some .int) 4 72 0 0 [.ref h0, .int x1, .int x2] (mw h0 hp n p count sorts rows hand gathered gather paired pairA pairB ideal draft frame one two turned placeI placeJ formA formB formC) sz ((some (.int out.1), mw h0 hp n p count sorts rows hand gathered gather paired pairA pairB ideal out.2.1 frame out.2.2 two turned placeI placeJ formA formB formC, sz) : oT) := by
  refine aM.of RX6 (by decide) rfl (Nat.le_of_ble_eq_true rfl) (fun K C => ?_)
  have hO : ((some (.int out.1), mw h0 hp n p count sorts rows hand gathered gather paired pairA pairB ideal out.2.1 frame out.2.2 two turned placeI placeJ formA formB formC, sz) : oT) = ((some (.int out.1), mw h0 hp n p count sorts rows hand gathered gather paired pairA pairB ideal out.2.1 frame out.2.2 two turned placeI placeJ formA formB formC, sz) : oT) := rfl
  refine r_lve (lv' := [(0, .ref h0), (1, .int x1), (2, .int x2)]) rfl ?_
  unfold m_on at h
  refine r_aload_n C 0 rfl dX6_on_0 rfl ?_
  refine r_iload_n C 1 rfl dX6_on_1 rfl ?_
  obtain ⟨r1, qr1, h⟩ := bd_i h
  refine q_callV C 0 0 0 (c_isObject qr1) rfl mw_self rfl ok_isObject in_isObject lk6_119 rfl (Nat.le_of_ble_eq_true rfl) ⟨Nat.le_of_ble_eq_true rfl, Nat.le_of_ble_eq_true rfl⟩ dX6_on_2 rfl rfl ?_
  refine r_if_eq C (tgt := 16) dX6_on_5 (by decide) (fun hc => ?_) (fun hc => ?_)
  · replace h := br_p hc h
    refine r_bipush C (v := -2) dX6_on_16 (by decide) ?_
    obtain rfl := sm_i h
    exact r_ireturn C (Eq.symm hO) dX6_on_18
  · replace h := br_n hc h
    refine r_aload_n C 0 rfl dX6_on_8 rfl ?_
    refine r_iload_n C 2 rfl dX6_on_9 rfl ?_
    obtain ⟨r2, qr2, h⟩ := bd_i h
    refine q_callV C 0 0 0 (c_isObject qr2) rfl mw_self rfl ok_isObject in_isObject lk6_119 rfl (Nat.le_of_ble_eq_true rfl) ⟨Nat.le_of_ble_eq_true rfl, Nat.le_of_ble_eq_true rfl⟩ dX6_on_10 rfl rfl ?_
    refine r_if_ne C (tgt := 19) dX6_on_13 (by decide) (fun hc => ?_) (fun hc => ?_)
    · replace h := br_n hc h
      refine r_aload_n C 0 rfl dX6_on_19 rfl ?_
      refine m_g_sorts C dX6_on_20 ?_
      refine r_iload_n C 1 rfl dX6_on_23 rfl ?_
      obtain ⟨hi, h⟩ := gd_t h
      refine m_l_sorts C hi dX6_on_24 ?_
      refine r_aload_n C 0 rfl dX6_on_25 rfl ?_
      refine m_g_sorts C dX6_on_26 ?_
      refine r_iload_n C 2 rfl dX6_on_29 rfl ?_
      obtain ⟨hi, h⟩ := gd_t h
      refine m_l_sorts C hi dX6_on_30 ?_
      refine r_icmp_gt C (tgt := 43) dX6_on_31 (by decide) (fun hc => ?_) (fun hc => ?_)
      · replace h := br_p hc h
        refine r_aload_n C 0 rfl dX6_on_43 rfl ?_
        refine r_iload_n C 2 rfl dX6_on_44 rfl ?_
        refine r_iload_n C 1 rfl dX6_on_45 rfl ?_
        obtain ⟨r3, qr3, h⟩ := bd_i h
        refine q_callV C 0 0 0 (c_isOn qr3) rfl mw_self rfl ok_isOn in_isOn lk6_194 rfl (Nat.le_of_ble_eq_true rfl) ⟨Nat.le_of_ble_eq_true rfl, Nat.le_of_ble_eq_true rfl⟩ dX6_on_46 rfl rfl ?_
        obtain rfl := sm_i h
        exact r_ireturn C (Eq.symm hO) dX6_on_49
      · replace h := br_n hc h
        refine r_aload_n C 0 rfl dX6_on_34 rfl ?_
        refine r_iload_n C 1 rfl dX6_on_35 rfl ?_
        refine r_iload_n C 2 rfl dX6_on_36 rfl ?_
        obtain ⟨r4, qr4, h⟩ := bd_i h
        refine q_callV C 0 0 0 (c_isOn qr4) rfl mw_self rfl ok_isOn in_isOn lk6_194 rfl (Nat.le_of_ble_eq_true rfl) ⟨Nat.le_of_ble_eq_true rfl, Nat.le_of_ble_eq_true rfl⟩ dX6_on_37 rfl rfl ?_
        refine r_goto C (tgt := 49) dX6_on_40 (by decide) ?_
        obtain rfl := sm_i h
        exact r_ireturn C (Eq.symm hO) dX6_on_49
    · replace h := br_p hc h
      refine r_bipush C (v := -2) dX6_on_16 (by decide) ?_
      obtain rfl := sm_i h
      exact r_ireturn C (Eq.symm hO) dX6_on_18
noncomputable def m_areOne (n : Int32) (count : Int32) (sorts : Nat → Int32) (x1 : Int32) (x2 : Int32) : Option Int32 := (m_isObject count x1).bind fun r1 => if r1 = 0 then (some ((0 : Int32))) else ((m_isObject count x2).bind fun r2 => if r2 = 0 then (some ((0 : Int32))) else (if gi x1 60 then if gi x2 60 then if (sorts x1.toNatClampNeg) = (sorts x2.toNatClampNeg) then (if gi x1 60 then if (sorts x1.toNatClampNeg) = 0 then (some ((1 : Int32))) else (if gi x1 60 then if n = ((2 : Int32)) then (if (sorts x1.toNatClampNeg) = ((1 : Int32)) then (some ((1 : Int32))) else (some ((0 : Int32)))) else (if (sorts x1.toNatClampNeg) = ((2 : Int32)) then (some ((1 : Int32))) else (some ((0 : Int32)))) else none) else none) else (some ((0 : Int32))) else none else none))
set_option maxHeartbeats 4000000 in
set_option maxRecDepth 100000 in
theorem c_areOne {G : gT} {h0 : Nat} {hp : cH} {sz : Nat} {n : Int32} {p : Int64} {count : Int32} {sorts : Nat → Int32} {rows : Nat → Int64} {hand : Nat → Int64} {gathered : Int32} {gather : Nat → Int32} {paired : Int32} {pairA : Nat → Int32} {pairB : Nat → Int32} {ideal : Int32} {draft : Nat → Int64} {frame : Nat → Int64} {one : Nat → Int64} {two : Nat → Int64} {turned : Nat → Int64} {placeI : Int32} {placeJ : Int32} {formA : Int64} {formB : Int64} {formC : Int64} {x1 : Int32} {x2 : Int32} {out : Int32} (h : m_areOne n count sorts x1 x2 = some out) : aM G yX6_areOne cX6_areOne 3 (some .boolean) 1 13 0 0 [.ref h0, .int x1, .int x2] (mw h0 hp n p count sorts rows hand gathered gather paired pairA pairB ideal draft frame one two turned placeI placeJ formA formB formC) sz ((some (.int out), mw h0 hp n p count sorts rows hand gathered gather paired pairA pairB ideal draft frame one two turned placeI placeJ formA formB formC, sz) : oT) := by
  refine aM.of RX6 (by decide) rfl (Nat.le_of_ble_eq_true rfl) (fun K C => ?_)
  have hO : ((some (.int out), mw h0 hp n p count sorts rows hand gathered gather paired pairA pairB ideal draft frame one two turned placeI placeJ formA formB formC, sz) : oT) = ((some (.int out), mw h0 hp n p count sorts rows hand gathered gather paired pairA pairB ideal draft frame one two turned placeI placeJ formA formB formC, sz) : oT) := rfl
  refine r_lve (lv' := [(0, .ref h0), (1, .int x1), (2, .int x2)]) rfl ?_
  unfold m_areOne at h
  refine r_aload_n C 0 rfl dX6_areOne_0 rfl ?_
  refine r_iload_n C 1 rfl dX6_areOne_1 rfl ?_
  obtain ⟨r1, qr1, h⟩ := bd_i h
  refine q_callV C 0 0 0 (c_isObject qr1) rfl mw_self rfl ok_isObject in_isObject lk6_119 rfl (Nat.le_of_ble_eq_true rfl) ⟨Nat.le_of_ble_eq_true rfl, Nat.le_of_ble_eq_true rfl⟩ dX6_areOne_2 rfl rfl ?_
  refine r_if_eq C (tgt := 66) dX6_areOne_5 (by decide) (fun hc => ?_) (fun hc => ?_)
  · replace h := br_p hc h
    refine r_iconst C (v := 0) dX6_areOne_66 (by decide) ?_
    obtain rfl := sm_i h
    exact r_zreturn C rfl (Eq.symm hO) dX6_areOne_67
  · replace h := br_n hc h
    refine r_aload_n C 0 rfl dX6_areOne_8 rfl ?_
    refine r_iload_n C 2 rfl dX6_areOne_9 rfl ?_
    obtain ⟨r2, qr2, h⟩ := bd_i h
    refine q_callV C 0 0 0 (c_isObject qr2) rfl mw_self rfl ok_isObject in_isObject lk6_119 rfl (Nat.le_of_ble_eq_true rfl) ⟨Nat.le_of_ble_eq_true rfl, Nat.le_of_ble_eq_true rfl⟩ dX6_areOne_10 rfl rfl ?_
    refine r_if_eq C (tgt := 66) dX6_areOne_13 (by decide) (fun hc => ?_) (fun hc => ?_)
    · replace h := br_p hc h
      refine r_iconst C (v := 0) dX6_areOne_66 (by decide) ?_
      obtain rfl := sm_i h
      exact r_zreturn C rfl (Eq.symm hO) dX6_areOne_67
    · replace h := br_n hc h
      refine r_aload_n C 0 rfl dX6_areOne_16 rfl ?_
      refine m_g_sorts C dX6_areOne_17 ?_
      refine r_iload_n C 1 rfl dX6_areOne_20 rfl ?_
      obtain ⟨hi, h⟩ := gd_t h
      refine m_l_sorts C hi dX6_areOne_21 ?_
      refine r_aload_n C 0 rfl dX6_areOne_22 rfl ?_
      refine m_g_sorts C dX6_areOne_23 ?_
      refine r_iload_n C 2 rfl dX6_areOne_26 rfl ?_
      obtain ⟨hi, h⟩ := gd_t h
      refine m_l_sorts C hi dX6_areOne_27 ?_
      refine r_icmp_ne C (tgt := 66) dX6_areOne_28 (by decide) (fun hc => ?_) (fun hc => ?_)
      · replace h := br_n hc h
        refine r_iconst C (v := 0) dX6_areOne_66 (by decide) ?_
        obtain rfl := sm_i h
        exact r_zreturn C rfl (Eq.symm hO) dX6_areOne_67
      · replace h := br_p hc h
        refine r_aload_n C 0 rfl dX6_areOne_31 rfl ?_
        refine m_g_sorts C dX6_areOne_32 ?_
        refine r_iload_n C 1 rfl dX6_areOne_35 rfl ?_
        obtain ⟨hi, h⟩ := gd_t h
        refine m_l_sorts C hi dX6_areOne_36 ?_
        refine r_if_eq C (tgt := 62) dX6_areOne_37 (by decide) (fun hc => ?_) (fun hc => ?_)
        · replace h := br_p hc h
          refine r_iconst C (v := 1) dX6_areOne_62 (by decide) ?_
          refine r_goto C (tgt := 67) dX6_areOne_63 (by decide) ?_
          obtain rfl := sm_i h
          exact r_zreturn C rfl (Eq.symm hO) dX6_areOne_67
        · replace h := br_n hc h
          refine r_aload_n C 0 rfl dX6_areOne_40 rfl ?_
          refine m_g_sorts C dX6_areOne_41 ?_
          refine r_iload_n C 1 rfl dX6_areOne_44 rfl ?_
          obtain ⟨hi, h⟩ := gd_t h
          refine m_l_sorts C hi dX6_areOne_45 ?_
          refine r_aload_n C 0 rfl dX6_areOne_46 rfl ?_
          refine m_g_n C dX6_areOne_47 ?_
          refine r_iconst C (v := 2) dX6_areOne_50 (by decide) ?_
          refine r_icmp_ne C (tgt := 58) dX6_areOne_51 (by decide) (fun hc => ?_) (fun hc => ?_)
          · replace h := br_n hc h
            refine r_iconst C (v := 2) dX6_areOne_58 (by decide) ?_
            refine r_icmp_ne C (tgt := 66) dX6_areOne_59 (by decide) (fun hc => ?_) (fun hc => ?_)
            · replace h := br_n hc h
              refine r_iconst C (v := 0) dX6_areOne_66 (by decide) ?_
              obtain rfl := sm_i h
              exact r_zreturn C rfl (Eq.symm hO) dX6_areOne_67
            · replace h := br_p hc h
              refine r_iconst C (v := 1) dX6_areOne_62 (by decide) ?_
              refine r_goto C (tgt := 67) dX6_areOne_63 (by decide) ?_
              obtain rfl := sm_i h
              exact r_zreturn C rfl (Eq.symm hO) dX6_areOne_67
          · replace h := br_p hc h
            refine r_iconst C (v := 1) dX6_areOne_54 (by decide) ?_
            refine r_goto C (tgt := 59) dX6_areOne_55 (by decide) ?_
            refine r_icmp_ne C (tgt := 66) dX6_areOne_59 (by decide) (fun hc => ?_) (fun hc => ?_)
            · replace h := br_n hc h
              refine r_iconst C (v := 0) dX6_areOne_66 (by decide) ?_
              obtain rfl := sm_i h
              exact r_zreturn C rfl (Eq.symm hO) dX6_areOne_67
            · replace h := br_p hc h
              refine r_iconst C (v := 1) dX6_areOne_62 (by decide) ?_
              refine r_goto C (tgt := 67) dX6_areOne_63 (by decide) ?_
              obtain rfl := sm_i h
              exact r_zreturn C rfl (Eq.symm hO) dX6_areOne_67
noncomputable def m_lay_L3 (rows : Nat → Int64) (l1 : Int32) (l2 : Int32) (l3 : Int32) (s : (Int32 × (Nat → Int64))) : Option ((Int32 × (Nat → Int64)) ⊕ (Nat → Int64)) := if l3 ≤ s.1 then (some (.inr s.2)) else ((m_of rows l2 s.1).bind fun r1 => (m_set s.2 l1 s.1 r1).bind fun r2 => some (.inl (s.1 + 1, r2)))
noncomputable def m_lay (rows : Nat → Int64) (frame : Nat → Int64) (x1 : Int32) (x2 : Int32) (x3 : Int32) : Option (Nat → Int64) := (itX (m_lay_L3 rows x1 x2 x3) ((0 : Int32), frame)).bind fun r3 => some r3
set_option maxHeartbeats 4000000 in
set_option maxRecDepth 100000 in
theorem w_lay_L3 {K : kT} {O : oT} (C : aC K cX6_lay RX6 "lay" 1 17 0 0 5 none O) {h0 : Nat} {hp : cH} {sz : Nat} {n : Int32} {p : Int64} {count : Int32} {sorts : Nat → Int32} {rows : Nat → Int64} {hand : Nat → Int64} {gathered : Int32} {gather : Nat → Int32} {paired : Int32} {pairA : Nat → Int32} {pairB : Nat → Int32} {ideal : Int32} {draft : Nat → Int64} {one : Nat → Int64} {two : Nat → Int64} {turned : Nat → Int64} {placeI : Int32} {placeJ : Int32} {formA : Int64} {formB : Int64} {formC : Int64} {l1 : Int32} {l2 : Int32} {l3 : Int32} {v0 : Int32} {v1 : Nat → Int64} {r : (Nat → Int64)} (h : itX (m_lay_L3 rows l1 l2 l3) (v0, v1) = some r) (hr : aW K (mw h0 hp n p count sorts rows hand gathered gather paired pairA pairB ideal draft r one two turned placeI placeJ formA formB formC) sz 0 0 29 [] []) : aW K (mw h0 hp n p count sorts rows hand gathered gather paired pairA pairB ideal draft v1 one two turned placeI placeJ formA formB formC) sz 0 0 3 [(0, .ref h0), (1, .int l1), (2, .int l2), (3, .int l3), (4, .int v0)] [] := by
  refine it_walk (f := m_lay_L3 rows l1 l2 l3) (P := fun s => aW K (mw h0 hp n p count sorts rows hand gathered gather paired pairA pairB ideal draft s.2 one two turned placeI placeJ formA formB formC) sz 0 0 3 [(0, .ref h0), (1, .int l1), (2, .int l2), (3, .int l3), (4, .int s.1)] []) (R := fun r => aW K (mw h0 hp n p count sorts rows hand gathered gather paired pairA pairB ideal draft r one two turned placeI placeJ formA formB formC) sz 0 0 29 [] []) ?_ h hr
  clear h hr
  intro s x h kl kr
  unfold m_lay_L3 at h
  refine r_iload C 4 rfl dX6_lay_3 ?_
  refine r_iload_n C 3 rfl dX6_lay_5 rfl ?_
  refine r_icmp_ge C (tgt := 29) dX6_lay_6 (by decide) (fun hc => ?_) (fun hc => ?_)
  · replace h := br_p hc h
    refine r_lv [] rfl ?_
    exact kr _ (sm_i h)
  · replace h := br_n hc h
    refine r_aload_n C 0 rfl dX6_lay_9 rfl ?_
    refine r_iload_n C 1 rfl dX6_lay_10 rfl ?_
    refine r_iload C 4 rfl dX6_lay_11 ?_
    refine r_aload_n C 0 rfl dX6_lay_13 rfl ?_
    refine r_iload_n C 2 rfl dX6_lay_14 rfl ?_
    refine r_iload C 4 rfl dX6_lay_15 ?_
    obtain ⟨r1, qr1, h⟩ := bd_i h
    refine q_callV C 3 0 0 (c_of qr1) rfl mw_self rfl ok_of in_of lk6_108 rfl (Nat.le_of_ble_eq_true rfl) ⟨Nat.le_of_ble_eq_true rfl, Nat.le_of_ble_eq_true rfl⟩ dX6_lay_17 rfl rfl ?_
    obtain ⟨r2, qr2, h⟩ := bd_i h
    refine q_callVv C 0 0 0 (c_set qr2) rfl mw_self rfl ok_set in_set lk6_101 rfl (Nat.le_of_ble_eq_true rfl) ⟨Nat.le_of_ble_eq_true rfl, Nat.le_of_ble_eq_true rfl⟩ dX6_lay_20 rfl rfl ?_
    refine r_iinc C (v := s.1 + 1) (lv' := [(4, .int (s.1 + 1)), (0, .ref h0), (1, .int l1), (2, .int l2), (3, .int l3)]) 4 rfl dX6_lay_23 rfl (by decide) rfl ?_
    refine r_goto C (tgt := 3) dX6_lay_26 (by decide) ?_
    refine r_lv [1, 2, 3, 4, 0] rfl ?_
    exact kl _ (sm_i h)
set_option maxHeartbeats 4000000 in
set_option maxRecDepth 100000 in
theorem c_lay {G : gT} {h0 : Nat} {hp : cH} {sz : Nat} {n : Int32} {p : Int64} {count : Int32} {sorts : Nat → Int32} {rows : Nat → Int64} {hand : Nat → Int64} {gathered : Int32} {gather : Nat → Int32} {paired : Int32} {pairA : Nat → Int32} {pairB : Nat → Int32} {ideal : Int32} {draft : Nat → Int64} {frame : Nat → Int64} {one : Nat → Int64} {two : Nat → Int64} {turned : Nat → Int64} {placeI : Int32} {placeJ : Int32} {formA : Int64} {formB : Int64} {formC : Int64} {x1 : Int32} {x2 : Int32} {x3 : Int32} {out : (Nat → Int64)} (h : m_lay rows frame x1 x2 x3 = some out) : aM G yX6_lay cX6_lay 5 none 1 17 0 0 [.ref h0, .int x1, .int x2, .int x3] (mw h0 hp n p count sorts rows hand gathered gather paired pairA pairB ideal draft frame one two turned placeI placeJ formA formB formC) sz ((none, mw h0 hp n p count sorts rows hand gathered gather paired pairA pairB ideal draft out one two turned placeI placeJ formA formB formC, sz) : oT) := by
  refine aM.of RX6 (by decide) rfl (Nat.le_of_ble_eq_true rfl) (fun K C => ?_)
  have hO : ((none, mw h0 hp n p count sorts rows hand gathered gather paired pairA pairB ideal draft out one two turned placeI placeJ formA formB formC, sz) : oT) = ((none, mw h0 hp n p count sorts rows hand gathered gather paired pairA pairB ideal draft out one two turned placeI placeJ formA formB formC, sz) : oT) := rfl
  refine r_lve (lv' := [(0, .ref h0), (1, .int x1), (2, .int x2), (3, .int x3)]) rfl ?_
  unfold m_lay at h
  refine r_iconst C (v := 0) dX6_lay_0 (by decide) ?_
  refine r_istore C (lv' := [(4, .int ((0 : Int32))), (0, .ref h0), (1, .int x1), (2, .int x2), (3, .int x3)]) dX6_lay_1 (by decide) rfl ?_
  refine r_lv [1, 2, 3, 4, 0] rfl ?_
  obtain ⟨r3, qr3, h⟩ := bd_i h
  refine w_lay_L3 C qr3 ?_
  obtain rfl := sm_i h
  exact r_return C (Eq.symm hO) dX6_lay_29
noncomputable def m_rankOf (n : Int32) (p : Int64) (rows : Nat → Int64) (frame : Nat → Int64) (x1 : Int32) (x2 : Int32) (x3 : Int32) (x4 : Int32) : Option (Int32 × (Nat → Int64)) := (m_side n).bind fun r1 => (m_lay rows frame ((0 : Int32)) x1 r1).bind fun r2 => (m_side n).bind fun r3 => (m_lay rows r2 ((1 : Int32)) x2 r3).bind fun r4 => (m_side n).bind fun r5 => (m_lay rows r4 ((2 : Int32)) x3 r5).bind fun r6 => (m_side n).bind fun r7 => (m_lay rows r6 ((3 : Int32)) x4 r7).bind fun r8 => (m_side n).bind fun r9 => (m_side n).bind fun r10 => (m_reduce p r8 ((4 : Int32)) r9 r10).bind fun r11 => some (r11.1, r11.2)
set_option maxHeartbeats 4000000 in
set_option maxRecDepth 100000 in
theorem c_rankOf {G : gT} {h0 : Nat} {hp : cH} {sz : Nat} {n : Int32} {p : Int64} {count : Int32} {sorts : Nat → Int32} {rows : Nat → Int64} {hand : Nat → Int64} {gathered : Int32} {gather : Nat → Int32} {paired : Int32} {pairA : Nat → Int32} {pairB : Nat → Int32} {ideal : Int32} {draft : Nat → Int64} {frame : Nat → Int64} {one : Nat → Int64} {two : Nat → Int64} {turned : Nat → Int64} {placeI : Int32} {placeJ : Int32} {formA : Int64} {formB : Int64} {formC : Int64} {x1 : Int32} {x2 : Int32} {x3 : Int32} {x4 : Int32} {out : (Int32 × (Nat → Int64))} (h : m_rankOf n p rows frame x1 x2 x3 x4 = some out) : aM G yX6_rankOf cX6_rankOf 5 (some .int) 4 76 0 0 [.ref h0, .int x1, .int x2, .int x3, .int x4] (mw h0 hp n p count sorts rows hand gathered gather paired pairA pairB ideal draft frame one two turned placeI placeJ formA formB formC) sz ((some (.int out.1), mw h0 hp n p count sorts rows hand gathered gather paired pairA pairB ideal draft out.2 one two turned placeI placeJ formA formB formC, sz) : oT) := by
  refine aM.of RX6 (by decide) rfl (Nat.le_of_ble_eq_true rfl) (fun K C => ?_)
  have hO : ((some (.int out.1), mw h0 hp n p count sorts rows hand gathered gather paired pairA pairB ideal draft out.2 one two turned placeI placeJ formA formB formC, sz) : oT) = ((some (.int out.1), mw h0 hp n p count sorts rows hand gathered gather paired pairA pairB ideal draft out.2 one two turned placeI placeJ formA formB formC, sz) : oT) := rfl
  refine r_lve (lv' := [(0, .ref h0), (1, .int x1), (2, .int x2), (3, .int x3), (4, .int x4)]) rfl ?_
  unfold m_rankOf at h
  refine r_aload_n C 0 rfl dX6_rankOf_0 rfl ?_
  refine r_iconst C (v := 0) dX6_rankOf_1 (by decide) ?_
  refine r_iload_n C 1 rfl dX6_rankOf_2 rfl ?_
  refine r_aload_n C 0 rfl dX6_rankOf_3 rfl ?_
  obtain ⟨r1, qr1, h⟩ := bd_i h
  refine q_callV C 3 0 0 (c_side qr1) rfl mw_self rfl ok_side in_side lk6_111 rfl (Nat.le_of_ble_eq_true rfl) ⟨Nat.le_of_ble_eq_true rfl, Nat.le_of_ble_eq_true rfl⟩ dX6_rankOf_4 rfl rfl ?_
  obtain ⟨r2, qr2, h⟩ := bd_i h
  refine q_callVv C 0 0 0 (c_lay qr2) rfl mw_self rfl ok_lay in_lay lk6_197 rfl (Nat.le_of_ble_eq_true rfl) ⟨Nat.le_of_ble_eq_true rfl, Nat.le_of_ble_eq_true rfl⟩ dX6_rankOf_7 rfl rfl ?_
  refine r_aload_n C 0 rfl dX6_rankOf_10 rfl ?_
  refine r_iconst C (v := 1) dX6_rankOf_11 (by decide) ?_
  refine r_iload_n C 2 rfl dX6_rankOf_12 rfl ?_
  refine r_aload_n C 0 rfl dX6_rankOf_13 rfl ?_
  obtain ⟨r3, qr3, h⟩ := bd_i h
  refine q_callV C 3 0 0 (c_side qr3) rfl mw_self rfl ok_side in_side lk6_111 rfl (Nat.le_of_ble_eq_true rfl) ⟨Nat.le_of_ble_eq_true rfl, Nat.le_of_ble_eq_true rfl⟩ dX6_rankOf_14 rfl rfl ?_
  obtain ⟨r4, qr4, h⟩ := bd_i h
  refine q_callVv C 0 0 0 (c_lay qr4) rfl mw_self rfl ok_lay in_lay lk6_197 rfl (Nat.le_of_ble_eq_true rfl) ⟨Nat.le_of_ble_eq_true rfl, Nat.le_of_ble_eq_true rfl⟩ dX6_rankOf_17 rfl rfl ?_
  refine r_aload_n C 0 rfl dX6_rankOf_20 rfl ?_
  refine r_iconst C (v := 2) dX6_rankOf_21 (by decide) ?_
  refine r_iload_n C 3 rfl dX6_rankOf_22 rfl ?_
  refine r_aload_n C 0 rfl dX6_rankOf_23 rfl ?_
  obtain ⟨r5, qr5, h⟩ := bd_i h
  refine q_callV C 3 0 0 (c_side qr5) rfl mw_self rfl ok_side in_side lk6_111 rfl (Nat.le_of_ble_eq_true rfl) ⟨Nat.le_of_ble_eq_true rfl, Nat.le_of_ble_eq_true rfl⟩ dX6_rankOf_24 rfl rfl ?_
  obtain ⟨r6, qr6, h⟩ := bd_i h
  refine q_callVv C 0 0 0 (c_lay qr6) rfl mw_self rfl ok_lay in_lay lk6_197 rfl (Nat.le_of_ble_eq_true rfl) ⟨Nat.le_of_ble_eq_true rfl, Nat.le_of_ble_eq_true rfl⟩ dX6_rankOf_27 rfl rfl ?_
  refine r_aload_n C 0 rfl dX6_rankOf_30 rfl ?_
  refine r_iconst C (v := 3) dX6_rankOf_31 (by decide) ?_
  refine r_iload C 4 rfl dX6_rankOf_32 ?_
  refine r_aload_n C 0 rfl dX6_rankOf_34 rfl ?_
  obtain ⟨r7, qr7, h⟩ := bd_i h
  refine q_callV C 3 0 0 (c_side qr7) rfl mw_self rfl ok_side in_side lk6_111 rfl (Nat.le_of_ble_eq_true rfl) ⟨Nat.le_of_ble_eq_true rfl, Nat.le_of_ble_eq_true rfl⟩ dX6_rankOf_35 rfl rfl ?_
  obtain ⟨r8, qr8, h⟩ := bd_i h
  refine q_callVv C 0 0 0 (c_lay qr8) rfl mw_self rfl ok_lay in_lay lk6_197 rfl (Nat.le_of_ble_eq_true rfl) ⟨Nat.le_of_ble_eq_true rfl, Nat.le_of_ble_eq_true rfl⟩ dX6_rankOf_38 rfl rfl ?_
  refine r_aload_n C 0 rfl dX6_rankOf_41 rfl ?_
  refine r_iconst C (v := 4) dX6_rankOf_42 (by decide) ?_
  refine r_aload_n C 0 rfl dX6_rankOf_43 rfl ?_
  obtain ⟨r9, qr9, h⟩ := bd_i h
  refine q_callV C 2 0 0 (c_side qr9) rfl mw_self rfl ok_side in_side lk6_111 rfl (Nat.le_of_ble_eq_true rfl) ⟨Nat.le_of_ble_eq_true rfl, Nat.le_of_ble_eq_true rfl⟩ dX6_rankOf_44 rfl rfl ?_
  refine r_aload_n C 0 rfl dX6_rankOf_47 rfl ?_
  obtain ⟨r10, qr10, h⟩ := bd_i h
  refine q_callV C 3 0 0 (c_side qr10) rfl mw_self rfl ok_side in_side lk6_111 rfl (Nat.le_of_ble_eq_true rfl) ⟨Nat.le_of_ble_eq_true rfl, Nat.le_of_ble_eq_true rfl⟩ dX6_rankOf_48 rfl rfl ?_
  obtain ⟨r11, qr11, h⟩ := bd_i h
  refine q_callV C 0 0 0 (c_reduce qr11) rfl mw_self rfl ok_reduce in_reduce lk6_115 rfl (Nat.le_of_ble_eq_true rfl) ⟨Nat.le_of_ble_eq_true rfl, Nat.le_of_ble_eq_true rfl⟩ dX6_rankOf_51 rfl rfl ?_
  obtain rfl := sm_i h
  exact r_ireturn C (Eq.symm hO) dX6_rankOf_54
noncomputable def m_bracket (p : Int64) (rows : Nat → Int64) (x1 : Int32) (x2 : Int32) (x3 : Int32) (x4 : Int32) : Option Int64 := (m_of rows x1 x3).bind fun r1 => (m_of rows x2 x4).bind fun r2 => (m_times p r1 r2).bind fun r3 => (m_of rows x1 x4).bind fun r4 => (m_of rows x2 x3).bind fun r5 => (m_times p r4 r5).bind fun r6 => (m_less p r3 r6).bind fun r7 => some r7
set_option maxHeartbeats 4000000 in
set_option maxRecDepth 100000 in
theorem c_bracket {G : gT} {h0 : Nat} {hp : cH} {sz : Nat} {n : Int32} {p : Int64} {count : Int32} {sorts : Nat → Int32} {rows : Nat → Int64} {hand : Nat → Int64} {gathered : Int32} {gather : Nat → Int32} {paired : Int32} {pairA : Nat → Int32} {pairB : Nat → Int32} {ideal : Int32} {draft : Nat → Int64} {frame : Nat → Int64} {one : Nat → Int64} {two : Nat → Int64} {turned : Nat → Int64} {placeI : Int32} {placeJ : Int32} {formA : Int64} {formB : Int64} {formC : Int64} {x1 : Int32} {x2 : Int32} {x3 : Int32} {x4 : Int32} {out : Int64} (h : m_bracket p rows x1 x2 x3 x4 = some out) : aM G yX6_bracket cX6_bracket 5 (some .long) 1 20 0 0 [.ref h0, .int x1, .int x2, .int x3, .int x4] (mw h0 hp n p count sorts rows hand gathered gather paired pairA pairB ideal draft frame one two turned placeI placeJ formA formB formC) sz ((some (.long out), mw h0 hp n p count sorts rows hand gathered gather paired pairA pairB ideal draft frame one two turned placeI placeJ formA formB formC, sz) : oT) := by
  refine aM.of RX6 (by decide) rfl (Nat.le_of_ble_eq_true rfl) (fun K C => ?_)
  have hO : ((some (.long out), mw h0 hp n p count sorts rows hand gathered gather paired pairA pairB ideal draft frame one two turned placeI placeJ formA formB formC, sz) : oT) = ((some (.long out), mw h0 hp n p count sorts rows hand gathered gather paired pairA pairB ideal draft frame one two turned placeI placeJ formA formB formC, sz) : oT) := rfl
  refine r_lve (lv' := [(0, .ref h0), (1, .int x1), (2, .int x2), (3, .int x3), (4, .int x4)]) rfl ?_
  unfold m_bracket at h
  refine r_aload_n C 0 rfl dX6_bracket_0 rfl ?_
  refine r_aload_n C 0 rfl dX6_bracket_1 rfl ?_
  refine r_aload_n C 0 rfl dX6_bracket_2 rfl ?_
  refine r_iload_n C 1 rfl dX6_bracket_3 rfl ?_
  refine r_iload_n C 3 rfl dX6_bracket_4 rfl ?_
  obtain ⟨r1, qr1, h⟩ := bd_i h
  refine q_callV C 2 0 0 (c_of qr1) rfl mw_self rfl ok_of in_of lk6_108 rfl (Nat.le_of_ble_eq_true rfl) ⟨Nat.le_of_ble_eq_true rfl, Nat.le_of_ble_eq_true rfl⟩ dX6_bracket_5 rfl rfl ?_
  refine r_aload_n C 0 rfl dX6_bracket_8 rfl ?_
  refine r_iload_n C 2 rfl dX6_bracket_9 rfl ?_
  refine r_iload C 4 rfl dX6_bracket_10 ?_
  obtain ⟨r2, qr2, h⟩ := bd_i h
  refine q_callV C 4 0 0 (c_of qr2) rfl mw_self rfl ok_of in_of lk6_108 rfl (Nat.le_of_ble_eq_true rfl) ⟨Nat.le_of_ble_eq_true rfl, Nat.le_of_ble_eq_true rfl⟩ dX6_bracket_12 rfl rfl ?_
  obtain ⟨r3, qr3, h⟩ := bd_i h
  refine q_callV C 1 0 0 (c_times qr3) rfl mw_self rfl ok_times in_times lk6_76 rfl (Nat.le_of_ble_eq_true rfl) ⟨Nat.le_of_ble_eq_true rfl, Nat.le_of_ble_eq_true rfl⟩ dX6_bracket_15 rfl rfl ?_
  refine r_aload_n C 0 rfl dX6_bracket_18 rfl ?_
  refine r_aload_n C 0 rfl dX6_bracket_19 rfl ?_
  refine r_iload_n C 1 rfl dX6_bracket_20 rfl ?_
  refine r_iload C 4 rfl dX6_bracket_21 ?_
  obtain ⟨r4, qr4, h⟩ := bd_i h
  refine q_callV C 4 0 0 (c_of qr4) rfl mw_self rfl ok_of in_of lk6_108 rfl (Nat.le_of_ble_eq_true rfl) ⟨Nat.le_of_ble_eq_true rfl, Nat.le_of_ble_eq_true rfl⟩ dX6_bracket_23 rfl rfl ?_
  refine r_aload_n C 0 rfl dX6_bracket_26 rfl ?_
  refine r_iload_n C 2 rfl dX6_bracket_27 rfl ?_
  refine r_iload_n C 3 rfl dX6_bracket_28 rfl ?_
  obtain ⟨r5, qr5, h⟩ := bd_i h
  refine q_callV C 6 0 0 (c_of qr5) rfl mw_self rfl ok_of in_of lk6_108 rfl (Nat.le_of_ble_eq_true rfl) ⟨Nat.le_of_ble_eq_true rfl, Nat.le_of_ble_eq_true rfl⟩ dX6_bracket_29 rfl rfl ?_
  obtain ⟨r6, qr6, h⟩ := bd_i h
  refine q_callV C 3 0 0 (c_times qr6) rfl mw_self rfl ok_times in_times lk6_76 rfl (Nat.le_of_ble_eq_true rfl) ⟨Nat.le_of_ble_eq_true rfl, Nat.le_of_ble_eq_true rfl⟩ dX6_bracket_32 rfl rfl ?_
  obtain ⟨r7, qr7, h⟩ := bd_i h
  refine q_callV C 0 0 0 (c_less qr7) rfl mw_self rfl ok_less in_less lk6_105 rfl (Nat.le_of_ble_eq_true rfl) ⟨Nat.le_of_ble_eq_true rfl, Nat.le_of_ble_eq_true rfl⟩ dX6_bracket_35 rfl rfl ?_
  obtain rfl := sm_i h
  exact r_lreturn C (Eq.symm hO) dX6_bracket_38
noncomputable def m_places_L23J157 (placeI : Int32) (placeJ : Int32) (l6 : Int32) : Option ((Int32 × Int32 × Int32) ⊕ (Int32 × Int32)) := some (.inl (l6 + 1, placeI, placeJ))
noncomputable def m_places_L23J125 (placeI : Int32) (placeJ : Int32) (l5 : Int32) (l6 : Int32) : Option ((Int32 × Int32 × Int32) ⊕ (Int32 × Int32)) := if placeI = ((-1 : Int32)) then (if ((1 : Int32)) = 0 then (m_places_L23J157 placeI placeJ l6) else (m_places_L23J157 l5 l6 l6)) else (m_places_L23J157 placeI placeJ l6)
noncomputable def m_places_L23 (n : Int32) (p : Int64) (rows : Nat → Int64) (l1 : Int32) (l2 : Int32) (l3 : Int32) (l4 : Int32) (l5 : Int32) (s : (Int32 × Int32 × Int32)) : Option ((Int32 × Int32 × Int32) ⊕ (Int32 × Int32)) := (m_side n).bind fun r2 => if r2 ≤ s.1 then (some (.inr (s.2.1, s.2.2))) else ((m_bracket p rows l1 l2 l5 s.1).bind fun r3 => if r3 = ((0 : Int64)) then ((m_bracket p rows l1 l3 l5 s.1).bind fun r4 => if r4 = ((0 : Int64)) then ((m_bracket p rows l1 l4 l5 s.1).bind fun r5 => if r5 = ((0 : Int64)) then ((m_bracket p rows l2 l3 l5 s.1).bind fun r6 => if r6 = ((0 : Int64)) then ((m_bracket p rows l2 l4 l5 s.1).bind fun r7 => if r7 = ((0 : Int64)) then ((m_bracket p rows l3 l4 l5 s.1).bind fun r8 => if r8 = ((0 : Int64)) then (if s.2.1 = ((-1 : Int32)) then (if ((0 : Int32)) = 0 then (m_places_L23J157 s.2.1 s.2.2 s.1) else (m_places_L23J157 l5 s.1 s.1)) else (m_places_L23J157 s.2.1 s.2.2 s.1)) else (m_places_L23J125 s.2.1 s.2.2 l5 s.1)) else (m_places_L23J125 s.2.1 s.2.2 l5 s.1)) else (m_places_L23J125 s.2.1 s.2.2 l5 s.1)) else (m_places_L23J125 s.2.1 s.2.2 l5 s.1)) else (m_places_L23J125 s.2.1 s.2.2 l5 s.1)) else (m_places_L23J125 s.2.1 s.2.2 l5 s.1))
noncomputable def m_places_L8 (n : Int32) (p : Int64) (rows : Nat → Int64) (l1 : Int32) (l2 : Int32) (l3 : Int32) (l4 : Int32) (s : (Int32 × Int32 × Int32)) : Option ((Int32 × Int32 × Int32) ⊕ (Int32 × Int32)) := (m_side n).bind fun r1 => if r1 ≤ s.1 then (some (.inr (s.2.1, s.2.2))) else ((itX (m_places_L23 n p rows l1 l2 l3 l4 s.1) (s.1 + ((1 : Int32)), s.2.1, s.2.2)).bind fun r9 => some (.inl (s.1 + 1, r9.1, r9.2)))
noncomputable def m_places (n : Int32) (p : Int64) (rows : Nat → Int64) (placeI : Int32) (placeJ : Int32) (x1 : Int32) (x2 : Int32) (x3 : Int32) (x4 : Int32) : Option (Int32 × Int32) := (itX (m_places_L8 n p rows x1 x2 x3 x4) ((0 : Int32), (-1 : Int32), placeJ)).bind fun r10 => some (r10.1, r10.2)
set_option maxHeartbeats 4000000 in
set_option maxRecDepth 100000 in
theorem w_places_L23J157 {K : kT} {O : oT} (C : aC K cX6_places RX6 "places" 2 36 0 0 8 none O) {h0 : Nat} {hp : cH} {sz : Nat} {n : Int32} {p : Int64} {count : Int32} {sorts : Nat → Int32} {rows : Nat → Int64} {hand : Nat → Int64} {gathered : Int32} {gather : Nat → Int32} {paired : Int32} {pairA : Nat → Int32} {pairB : Nat → Int32} {ideal : Int32} {draft : Nat → Int64} {frame : Nat → Int64} {one : Nat → Int64} {two : Nat → Int64} {turned : Nat → Int64} {placeI : Int32} {placeJ : Int32} {formA : Int64} {formB : Int64} {formC : Int64} {l1 : Int32} {l2 : Int32} {l3 : Int32} {l4 : Int32} {l5 : Int32} {l6 : Int32}  {x : (Int32 × Int32 × Int32) ⊕ (Int32 × Int32)} (h : m_places_L23J157 placeI placeJ l6 = some x) (kl : ∀ s, x = .inl s → aW K (mw h0 hp n p count sorts rows hand gathered gather paired pairA pairB ideal draft frame one two turned s.2.1 s.2.2 formA formB formC) sz 0 0 23 [(0, .ref h0), (1, .int l1), (2, .int l2), (3, .int l3), (4, .int l4), (5, .int l5), (6, .int s.1)] []) (kr : ∀ r, x = .inr r → aW K (mw h0 hp n p count sorts rows hand gathered gather paired pairA pairB ideal draft frame one two turned r.1 r.2 formA formB formC) sz 0 0 163 [(0, .ref h0), (1, .int l1), (2, .int l2), (3, .int l3), (4, .int l4), (5, .int l5)] []) : aW K (mw h0 hp n p count sorts rows hand gathered gather paired pairA pairB ideal draft frame one two turned placeI placeJ formA formB formC) sz 0 0 157 [(0, .ref h0), (1, .int l1), (2, .int l2), (3, .int l3), (4, .int l4), (5, .int l5), (6, .int l6)] [] := by
  unfold m_places_L23J157 at h
  refine r_iinc C (v := l6 + 1) (lv' := [(6, .int (l6 + 1)), (0, .ref h0), (1, .int l1), (2, .int l2), (3, .int l3), (4, .int l4), (5, .int l5)]) 6 rfl dX6_places_157 rfl (by decide) rfl ?_
  refine r_goto C (tgt := 23) dX6_places_160 (by decide) ?_
  refine r_lv [1, 2, 3, 4, 5, 6, 0] rfl ?_
  exact kl _ (sm_i h)
set_option maxHeartbeats 4000000 in
set_option maxRecDepth 100000 in
theorem w_places_L23J125 {K : kT} {O : oT} (C : aC K cX6_places RX6 "places" 2 36 0 0 8 none O) {h0 : Nat} {hp : cH} {sz : Nat} {n : Int32} {p : Int64} {count : Int32} {sorts : Nat → Int32} {rows : Nat → Int64} {hand : Nat → Int64} {gathered : Int32} {gather : Nat → Int32} {paired : Int32} {pairA : Nat → Int32} {pairB : Nat → Int32} {ideal : Int32} {draft : Nat → Int64} {frame : Nat → Int64} {one : Nat → Int64} {two : Nat → Int64} {turned : Nat → Int64} {placeI : Int32} {placeJ : Int32} {formA : Int64} {formB : Int64} {formC : Int64} {l1 : Int32} {l2 : Int32} {l3 : Int32} {l4 : Int32} {l5 : Int32} {l6 : Int32}  {x : (Int32 × Int32 × Int32) ⊕ (Int32 × Int32)} (h : m_places_L23J125 placeI placeJ l5 l6 = some x) (kl : ∀ s, x = .inl s → aW K (mw h0 hp n p count sorts rows hand gathered gather paired pairA pairB ideal draft frame one two turned s.2.1 s.2.2 formA formB formC) sz 0 0 23 [(0, .ref h0), (1, .int l1), (2, .int l2), (3, .int l3), (4, .int l4), (5, .int l5), (6, .int s.1)] []) (kr : ∀ r, x = .inr r → aW K (mw h0 hp n p count sorts rows hand gathered gather paired pairA pairB ideal draft frame one two turned r.1 r.2 formA formB formC) sz 0 0 163 [(0, .ref h0), (1, .int l1), (2, .int l2), (3, .int l3), (4, .int l4), (5, .int l5)] []) : aW K (mw h0 hp n p count sorts rows hand gathered gather paired pairA pairB ideal draft frame one two turned placeI placeJ formA formB formC) sz 0 0 125 [(0, .ref h0), (1, .int l1), (2, .int l2), (3, .int l3), (4, .int l4), (5, .int l5), (6, .int l6)] [] := by
  unfold m_places_L23J125 at h
  refine r_iconst C (v := 1) dX6_places_125 (by decide) ?_
  refine r_goto C (tgt := 130) dX6_places_126 (by decide) ?_
  refine r_istore C (lv' := [(7, .int ((1 : Int32))), (0, .ref h0), (1, .int l1), (2, .int l2), (3, .int l3), (4, .int l4), (5, .int l5), (6, .int l6)]) dX6_places_130 (by decide) rfl ?_
  refine r_aload_n C 1 rfl dX6_places_132 rfl ?_
  refine m_g_placeI C dX6_places_133 ?_
  refine r_iconst C (v := -1) dX6_places_136 (by decide) ?_
  refine r_icmp_ne C (tgt := 157) dX6_places_137 (by decide) (fun hc => ?_) (fun hc => ?_)
  · replace h := br_n hc h
    refine r_lv [1, 2, 3, 4, 5, 6, 7] rfl ?_
    exact w_places_L23J157 C h kl kr
  · replace h := br_p hc h
    refine r_iload C 0 rfl dX6_places_140 ?_
    refine r_if_eq C (tgt := 157) dX6_places_142 (by decide) (fun hc => ?_) (fun hc => ?_)
    · replace h := br_p hc h
      refine r_lv [1, 2, 3, 4, 5, 6, 7] rfl ?_
      exact w_places_L23J157 C h kl kr
    · replace h := br_n hc h
      refine r_aload_n C 1 rfl dX6_places_145 rfl ?_
      refine r_iload C 6 rfl dX6_places_146 ?_
      refine m_p_placeI C dX6_places_148 ?_
      refine r_aload_n C 1 rfl dX6_places_151 rfl ?_
      refine r_iload C 7 rfl dX6_places_152 ?_
      refine m_p_placeJ C dX6_places_154 ?_
      refine r_lv [1, 2, 3, 4, 5, 6, 7] rfl ?_
      exact w_places_L23J157 C h kl kr
set_option maxHeartbeats 4000000 in
set_option maxRecDepth 100000 in
theorem w_places_L23 {K : kT} {O : oT} (C : aC K cX6_places RX6 "places" 2 36 0 0 8 none O) {h0 : Nat} {hp : cH} {sz : Nat} {n : Int32} {p : Int64} {count : Int32} {sorts : Nat → Int32} {rows : Nat → Int64} {hand : Nat → Int64} {gathered : Int32} {gather : Nat → Int32} {paired : Int32} {pairA : Nat → Int32} {pairB : Nat → Int32} {ideal : Int32} {draft : Nat → Int64} {frame : Nat → Int64} {one : Nat → Int64} {two : Nat → Int64} {turned : Nat → Int64} {formA : Int64} {formB : Int64} {formC : Int64} {l1 : Int32} {l2 : Int32} {l3 : Int32} {l4 : Int32} {l5 : Int32} {v0 : Int32} {v1 : Int32} {v2 : Int32} {r : (Int32 × Int32)} (h : itX (m_places_L23 n p rows l1 l2 l3 l4 l5) (v0, v1, v2) = some r) (hr : aW K (mw h0 hp n p count sorts rows hand gathered gather paired pairA pairB ideal draft frame one two turned r.1 r.2 formA formB formC) sz 0 0 163 [(0, .ref h0), (1, .int l1), (2, .int l2), (3, .int l3), (4, .int l4), (5, .int l5)] []) : aW K (mw h0 hp n p count sorts rows hand gathered gather paired pairA pairB ideal draft frame one two turned v1 v2 formA formB formC) sz 0 0 23 [(0, .ref h0), (1, .int l1), (2, .int l2), (3, .int l3), (4, .int l4), (5, .int l5), (6, .int v0)] [] := by
  refine it_walk (f := m_places_L23 n p rows l1 l2 l3 l4 l5) (P := fun s => aW K (mw h0 hp n p count sorts rows hand gathered gather paired pairA pairB ideal draft frame one two turned s.2.1 s.2.2 formA formB formC) sz 0 0 23 [(0, .ref h0), (1, .int l1), (2, .int l2), (3, .int l3), (4, .int l4), (5, .int l5), (6, .int s.1)] []) (R := fun r => aW K (mw h0 hp n p count sorts rows hand gathered gather paired pairA pairB ideal draft frame one two turned r.1 r.2 formA formB formC) sz 0 0 163 [(0, .ref h0), (1, .int l1), (2, .int l2), (3, .int l3), (4, .int l4), (5, .int l5)] []) ?_ h hr
  clear h hr
  intro s x h kl kr
  unfold m_places_L23 at h
  refine r_iload C 6 rfl dX6_places_23 ?_
  refine r_aload_n C 0 rfl dX6_places_25 rfl ?_
  obtain ⟨r2, qr2, h⟩ := bd_i h
  refine q_callV C 1 0 0 (c_side qr2) rfl mw_self rfl ok_side in_side lk6_111 rfl (Nat.le_of_ble_eq_true rfl) ⟨Nat.le_of_ble_eq_true rfl, Nat.le_of_ble_eq_true rfl⟩ dX6_places_26 rfl rfl ?_
  refine r_icmp_ge C (tgt := 163) dX6_places_29 (by decide) (fun hc => ?_) (fun hc => ?_)
  · replace h := br_p hc h
    refine r_lv [0, 1, 2, 3, 4, 5] rfl ?_
    exact kr _ (sm_i h)
  · replace h := br_n hc h
    refine r_aload_n C 0 rfl dX6_places_32 rfl ?_
    refine r_iload_n C 1 rfl dX6_places_33 rfl ?_
    refine r_iload_n C 2 rfl dX6_places_34 rfl ?_
    refine r_iload C 5 rfl dX6_places_35 ?_
    refine r_iload C 6 rfl dX6_places_37 ?_
    obtain ⟨r3, qr3, h⟩ := bd_i h
    refine q_callV C 0 0 0 (c_bracket qr3) rfl mw_self rfl ok_bracket in_bracket lk6_204 rfl (Nat.le_of_ble_eq_true rfl) ⟨Nat.le_of_ble_eq_true rfl, Nat.le_of_ble_eq_true rfl⟩ dX6_places_39 rfl rfl ?_
    refine r_lconst C (v := 0) dX6_places_42 (by decide) ?_
    refine r_lne C (tgt := 125) dX6_places_43 dX6_places_44 (by decide) (fun hc => ?_) (fun hc => ?_)
    · replace h := br_n hc h
      refine r_lv [0, 1, 2, 3, 4, 5, 6] rfl ?_
      exact w_places_L23J125 C h kl kr
    · replace h := br_p hc h
      refine r_aload_n C 0 rfl dX6_places_47 rfl ?_
      refine r_iload_n C 1 rfl dX6_places_48 rfl ?_
      refine r_iload_n C 3 rfl dX6_places_49 rfl ?_
      refine r_iload C 5 rfl dX6_places_50 ?_
      refine r_iload C 6 rfl dX6_places_52 ?_
      obtain ⟨r4, qr4, h⟩ := bd_i h
      refine q_callV C 0 0 0 (c_bracket qr4) rfl mw_self rfl ok_bracket in_bracket lk6_204 rfl (Nat.le_of_ble_eq_true rfl) ⟨Nat.le_of_ble_eq_true rfl, Nat.le_of_ble_eq_true rfl⟩ dX6_places_54 rfl rfl ?_
      refine r_lconst C (v := 0) dX6_places_57 (by decide) ?_
      refine r_lne C (tgt := 125) dX6_places_58 dX6_places_59 (by decide) (fun hc => ?_) (fun hc => ?_)
      · replace h := br_n hc h
        refine r_lv [0, 1, 2, 3, 4, 5, 6] rfl ?_
        exact w_places_L23J125 C h kl kr
      · replace h := br_p hc h
        refine r_aload_n C 0 rfl dX6_places_62 rfl ?_
        refine r_iload_n C 1 rfl dX6_places_63 rfl ?_
        refine r_iload C 4 rfl dX6_places_64 ?_
        refine r_iload C 5 rfl dX6_places_66 ?_
        refine r_iload C 6 rfl dX6_places_68 ?_
        obtain ⟨r5, qr5, h⟩ := bd_i h
        refine q_callV C 0 0 0 (c_bracket qr5) rfl mw_self rfl ok_bracket in_bracket lk6_204 rfl (Nat.le_of_ble_eq_true rfl) ⟨Nat.le_of_ble_eq_true rfl, Nat.le_of_ble_eq_true rfl⟩ dX6_places_70 rfl rfl ?_
        refine r_lconst C (v := 0) dX6_places_73 (by decide) ?_
        refine r_lne C (tgt := 125) dX6_places_74 dX6_places_75 (by decide) (fun hc => ?_) (fun hc => ?_)
        · replace h := br_n hc h
          refine r_lv [0, 1, 2, 3, 4, 5, 6] rfl ?_
          exact w_places_L23J125 C h kl kr
        · replace h := br_p hc h
          refine r_aload_n C 0 rfl dX6_places_78 rfl ?_
          refine r_iload_n C 2 rfl dX6_places_79 rfl ?_
          refine r_iload_n C 3 rfl dX6_places_80 rfl ?_
          refine r_iload C 5 rfl dX6_places_81 ?_
          refine r_iload C 6 rfl dX6_places_83 ?_
          obtain ⟨r6, qr6, h⟩ := bd_i h
          refine q_callV C 0 0 0 (c_bracket qr6) rfl mw_self rfl ok_bracket in_bracket lk6_204 rfl (Nat.le_of_ble_eq_true rfl) ⟨Nat.le_of_ble_eq_true rfl, Nat.le_of_ble_eq_true rfl⟩ dX6_places_85 rfl rfl ?_
          refine r_lconst C (v := 0) dX6_places_88 (by decide) ?_
          refine r_lne C (tgt := 125) dX6_places_89 dX6_places_90 (by decide) (fun hc => ?_) (fun hc => ?_)
          · replace h := br_n hc h
            refine r_lv [0, 1, 2, 3, 4, 5, 6] rfl ?_
            exact w_places_L23J125 C h kl kr
          · replace h := br_p hc h
            refine r_aload_n C 0 rfl dX6_places_93 rfl ?_
            refine r_iload_n C 2 rfl dX6_places_94 rfl ?_
            refine r_iload C 4 rfl dX6_places_95 ?_
            refine r_iload C 5 rfl dX6_places_97 ?_
            refine r_iload C 6 rfl dX6_places_99 ?_
            obtain ⟨r7, qr7, h⟩ := bd_i h
            refine q_callV C 0 0 0 (c_bracket qr7) rfl mw_self rfl ok_bracket in_bracket lk6_204 rfl (Nat.le_of_ble_eq_true rfl) ⟨Nat.le_of_ble_eq_true rfl, Nat.le_of_ble_eq_true rfl⟩ dX6_places_101 rfl rfl ?_
            refine r_lconst C (v := 0) dX6_places_104 (by decide) ?_
            refine r_lne C (tgt := 125) dX6_places_105 dX6_places_106 (by decide) (fun hc => ?_) (fun hc => ?_)
            · replace h := br_n hc h
              refine r_lv [0, 1, 2, 3, 4, 5, 6] rfl ?_
              exact w_places_L23J125 C h kl kr
            · replace h := br_p hc h
              refine r_aload_n C 0 rfl dX6_places_109 rfl ?_
              refine r_iload_n C 3 rfl dX6_places_110 rfl ?_
              refine r_iload C 4 rfl dX6_places_111 ?_
              refine r_iload C 5 rfl dX6_places_113 ?_
              refine r_iload C 6 rfl dX6_places_115 ?_
              obtain ⟨r8, qr8, h⟩ := bd_i h
              refine q_callV C 0 0 0 (c_bracket qr8) rfl mw_self rfl ok_bracket in_bracket lk6_204 rfl (Nat.le_of_ble_eq_true rfl) ⟨Nat.le_of_ble_eq_true rfl, Nat.le_of_ble_eq_true rfl⟩ dX6_places_117 rfl rfl ?_
              refine r_lconst C (v := 0) dX6_places_120 (by decide) ?_
              refine r_leq C (tgt := 129) dX6_places_121 dX6_places_122 (by decide) (fun hc => ?_) (fun hc => ?_)
              · replace h := br_p hc h
                refine r_iconst C (v := 0) dX6_places_129 (by decide) ?_
                refine r_istore C (lv' := [(7, .int ((0 : Int32))), (0, .ref h0), (1, .int l1), (2, .int l2), (3, .int l3), (4, .int l4), (5, .int l5), (6, .int s.1)]) dX6_places_130 (by decide) rfl ?_
                refine r_aload_n C 1 rfl dX6_places_132 rfl ?_
                refine m_g_placeI C dX6_places_133 ?_
                refine r_iconst C (v := -1) dX6_places_136 (by decide) ?_
                refine r_icmp_ne C (tgt := 157) dX6_places_137 (by decide) (fun hc => ?_) (fun hc => ?_)
                · replace h := br_n hc h
                  refine r_lv [1, 2, 3, 4, 5, 6, 7] rfl ?_
                  exact w_places_L23J157 C h kl kr
                · replace h := br_p hc h
                  refine r_iload C 0 rfl dX6_places_140 ?_
                  refine r_if_eq C (tgt := 157) dX6_places_142 (by decide) (fun hc => ?_) (fun hc => ?_)
                  · replace h := br_p hc h
                    refine r_lv [1, 2, 3, 4, 5, 6, 7] rfl ?_
                    exact w_places_L23J157 C h kl kr
                  · replace h := br_n hc h
                    refine r_aload_n C 1 rfl dX6_places_145 rfl ?_
                    refine r_iload C 6 rfl dX6_places_146 ?_
                    refine m_p_placeI C dX6_places_148 ?_
                    refine r_aload_n C 1 rfl dX6_places_151 rfl ?_
                    refine r_iload C 7 rfl dX6_places_152 ?_
                    refine m_p_placeJ C dX6_places_154 ?_
                    refine r_lv [1, 2, 3, 4, 5, 6, 7] rfl ?_
                    exact w_places_L23J157 C h kl kr
              · replace h := br_n hc h
                refine r_lv [0, 1, 2, 3, 4, 5, 6] rfl ?_
                exact w_places_L23J125 C h kl kr
set_option maxHeartbeats 4000000 in
set_option maxRecDepth 100000 in
theorem w_places_L8 {K : kT} {O : oT} (C : aC K cX6_places RX6 "places" 2 36 0 0 8 none O) {h0 : Nat} {hp : cH} {sz : Nat} {n : Int32} {p : Int64} {count : Int32} {sorts : Nat → Int32} {rows : Nat → Int64} {hand : Nat → Int64} {gathered : Int32} {gather : Nat → Int32} {paired : Int32} {pairA : Nat → Int32} {pairB : Nat → Int32} {ideal : Int32} {draft : Nat → Int64} {frame : Nat → Int64} {one : Nat → Int64} {two : Nat → Int64} {turned : Nat → Int64} {formA : Int64} {formB : Int64} {formC : Int64} {l1 : Int32} {l2 : Int32} {l3 : Int32} {l4 : Int32} {v0 : Int32} {v1 : Int32} {v2 : Int32} {r : (Int32 × Int32)} (h : itX (m_places_L8 n p rows l1 l2 l3 l4) (v0, v1, v2) = some r) (hr : aW K (mw h0 hp n p count sorts rows hand gathered gather paired pairA pairB ideal draft frame one two turned r.1 r.2 formA formB formC) sz 0 0 169 [] []) : aW K (mw h0 hp n p count sorts rows hand gathered gather paired pairA pairB ideal draft frame one two turned v1 v2 formA formB formC) sz 0 0 8 [(0, .ref h0), (1, .int l1), (2, .int l2), (3, .int l3), (4, .int l4), (5, .int v0)] [] := by
  refine it_walk (f := m_places_L8 n p rows l1 l2 l3 l4) (P := fun s => aW K (mw h0 hp n p count sorts rows hand gathered gather paired pairA pairB ideal draft frame one two turned s.2.1 s.2.2 formA formB formC) sz 0 0 8 [(0, .ref h0), (1, .int l1), (2, .int l2), (3, .int l3), (4, .int l4), (5, .int s.1)] []) (R := fun r => aW K (mw h0 hp n p count sorts rows hand gathered gather paired pairA pairB ideal draft frame one two turned r.1 r.2 formA formB formC) sz 0 0 169 [] []) ?_ h hr
  clear h hr
  intro s x h kl kr
  unfold m_places_L8 at h
  refine r_iload C 5 rfl dX6_places_8 ?_
  refine r_aload_n C 0 rfl dX6_places_10 rfl ?_
  obtain ⟨r1, qr1, h⟩ := bd_i h
  refine q_callV C 1 0 0 (c_side qr1) rfl mw_self rfl ok_side in_side lk6_111 rfl (Nat.le_of_ble_eq_true rfl) ⟨Nat.le_of_ble_eq_true rfl, Nat.le_of_ble_eq_true rfl⟩ dX6_places_11 rfl rfl ?_
  refine r_icmp_ge C (tgt := 169) dX6_places_14 (by decide) (fun hc => ?_) (fun hc => ?_)
  · replace h := br_p hc h
    refine r_lv [] rfl ?_
    exact kr _ (sm_i h)
  · replace h := br_n hc h
    refine r_iload C 5 rfl dX6_places_17 ?_
    refine r_iconst C (v := 1) dX6_places_19 (by decide) ?_
    refine r_iadd C dX6_places_20 ?_
    refine r_istore C (lv' := [(6, .int (s.1 + ((1 : Int32)))), (0, .ref h0), (1, .int l1), (2, .int l2), (3, .int l3), (4, .int l4), (5, .int s.1)]) dX6_places_21 (by decide) rfl ?_
    refine r_lv [1, 2, 3, 4, 5, 6, 0] rfl ?_
    obtain ⟨r9, qr9, h⟩ := bd_i h
    refine w_places_L23 C qr9 ?_
    refine r_iinc C (v := s.1 + 1) (lv' := [(5, .int (s.1 + 1)), (0, .ref h0), (1, .int l1), (2, .int l2), (3, .int l3), (4, .int l4)]) 5 rfl dX6_places_163 rfl (by decide) rfl ?_
    refine r_goto C (tgt := 8) dX6_places_166 (by decide) ?_
    refine r_lv [1, 2, 3, 4, 5, 0] rfl ?_
    exact kl _ (sm_i h)
set_option maxHeartbeats 4000000 in
set_option maxRecDepth 100000 in
theorem c_places {G : gT} {h0 : Nat} {hp : cH} {sz : Nat} {n : Int32} {p : Int64} {count : Int32} {sorts : Nat → Int32} {rows : Nat → Int64} {hand : Nat → Int64} {gathered : Int32} {gather : Nat → Int32} {paired : Int32} {pairA : Nat → Int32} {pairB : Nat → Int32} {ideal : Int32} {draft : Nat → Int64} {frame : Nat → Int64} {one : Nat → Int64} {two : Nat → Int64} {turned : Nat → Int64} {placeI : Int32} {placeJ : Int32} {formA : Int64} {formB : Int64} {formC : Int64} {x1 : Int32} {x2 : Int32} {x3 : Int32} {x4 : Int32} {out : (Int32 × Int32)} (h : m_places n p rows placeI placeJ x1 x2 x3 x4 = some out) : aM G yX6_places cX6_places 8 none 2 36 0 0 [.ref h0, .int x1, .int x2, .int x3, .int x4] (mw h0 hp n p count sorts rows hand gathered gather paired pairA pairB ideal draft frame one two turned placeI placeJ formA formB formC) sz ((none, mw h0 hp n p count sorts rows hand gathered gather paired pairA pairB ideal draft frame one two turned out.1 out.2 formA formB formC, sz) : oT) := by
  refine aM.of RX6 (by decide) rfl (Nat.le_of_ble_eq_true rfl) (fun K C => ?_)
  have hO : ((none, mw h0 hp n p count sorts rows hand gathered gather paired pairA pairB ideal draft frame one two turned out.1 out.2 formA formB formC, sz) : oT) = ((none, mw h0 hp n p count sorts rows hand gathered gather paired pairA pairB ideal draft frame one two turned out.1 out.2 formA formB formC, sz) : oT) := rfl
  refine r_lve (lv' := [(0, .ref h0), (1, .int x1), (2, .int x2), (3, .int x3), (4, .int x4)]) rfl ?_
  unfold m_places at h
  refine r_aload_n C 0 rfl dX6_places_0 rfl ?_
  refine r_iconst C (v := -1) dX6_places_1 (by decide) ?_
  refine m_p_placeI C dX6_places_2 ?_
  refine r_iconst C (v := 0) dX6_places_5 (by decide) ?_
  refine r_istore C (lv' := [(5, .int ((0 : Int32))), (0, .ref h0), (1, .int x1), (2, .int x2), (3, .int x3), (4, .int x4)]) dX6_places_6 (by decide) rfl ?_
  refine r_lv [1, 2, 3, 4, 5, 0] rfl ?_
  obtain ⟨r10, qr10, h⟩ := bd_i h
  refine w_places_L8 C qr10 ?_
  obtain rfl := sm_i h
  exact r_return C (Eq.symm hO) dX6_places_169
noncomputable def m_brackets (p : Int64) (rows : Nat → Int64) (placeI : Int32) (placeJ : Int32) (x1 : Int32) (x2 : Int32) : Option Int64 := (m_bracket p rows x1 x2 placeI placeJ).bind fun r1 => some r1
set_option maxHeartbeats 4000000 in
set_option maxRecDepth 100000 in
theorem c_brackets {G : gT} {h0 : Nat} {hp : cH} {sz : Nat} {n : Int32} {p : Int64} {count : Int32} {sorts : Nat → Int32} {rows : Nat → Int64} {hand : Nat → Int64} {gathered : Int32} {gather : Nat → Int32} {paired : Int32} {pairA : Nat → Int32} {pairB : Nat → Int32} {ideal : Int32} {draft : Nat → Int64} {frame : Nat → Int64} {one : Nat → Int64} {two : Nat → Int64} {turned : Nat → Int64} {placeI : Int32} {placeJ : Int32} {formA : Int64} {formB : Int64} {formC : Int64} {x1 : Int32} {x2 : Int32} {out : Int64} (h : m_brackets p rows placeI placeJ x1 x2 = some out) : aM G yX6_brackets cX6_brackets 3 (some .long) 2 36 0 0 [.ref h0, .int x1, .int x2] (mw h0 hp n p count sorts rows hand gathered gather paired pairA pairB ideal draft frame one two turned placeI placeJ formA formB formC) sz ((some (.long out), mw h0 hp n p count sorts rows hand gathered gather paired pairA pairB ideal draft frame one two turned placeI placeJ formA formB formC, sz) : oT) := by
  refine aM.of RX6 (by decide) rfl (Nat.le_of_ble_eq_true rfl) (fun K C => ?_)
  have hO : ((some (.long out), mw h0 hp n p count sorts rows hand gathered gather paired pairA pairB ideal draft frame one two turned placeI placeJ formA formB formC, sz) : oT) = ((some (.long out), mw h0 hp n p count sorts rows hand gathered gather paired pairA pairB ideal draft frame one two turned placeI placeJ formA formB formC, sz) : oT) := rfl
  refine r_lve (lv' := [(0, .ref h0), (1, .int x1), (2, .int x2)]) rfl ?_
  unfold m_brackets at h
  refine r_aload_n C 0 rfl dX6_brackets_0 rfl ?_
  refine r_iload_n C 1 rfl dX6_brackets_1 rfl ?_
  refine r_iload_n C 2 rfl dX6_brackets_2 rfl ?_
  refine r_aload_n C 0 rfl dX6_brackets_3 rfl ?_
  refine m_g_placeI C dX6_brackets_4 ?_
  refine r_aload_n C 0 rfl dX6_brackets_7 rfl ?_
  refine m_g_placeJ C dX6_brackets_8 ?_
  obtain ⟨r1, qr1, h⟩ := bd_i h
  refine q_callV C 0 0 0 (c_bracket qr1) rfl mw_self rfl ok_bracket in_bracket lk6_204 rfl (Nat.le_of_ble_eq_true rfl) ⟨Nat.le_of_ble_eq_true rfl, Nat.le_of_ble_eq_true rfl⟩ dX6_brackets_11 rfl rfl ?_
  obtain rfl := sm_i h
  exact r_lreturn C (Eq.symm hO) dX6_brackets_14
noncomputable def m_cross (n : Int32) (p : Int64) (count : Int32) (sorts : Nat → Int32) (rows : Nat → Int64) (frame : Nat → Int64) (placeI : Int32) (placeJ : Int32) (x1 : Int32) (x2 : Int32) (x3 : Int32) (x4 : Int32) : Option (Int64 × (Nat → Int64) × Int32 × Int32) := (m_areOne n count sorts x1 x2).bind fun r1 => if r1 = 0 then (some ((-2 : Int64), frame, placeI, placeJ)) else ((m_areOne n count sorts x2 x3).bind fun r2 => if r2 = 0 then (some ((-2 : Int64), frame, placeI, placeJ)) else ((m_areOne n count sorts x3 x4).bind fun r3 => if r3 = 0 then (some ((-2 : Int64), frame, placeI, placeJ)) else ((m_rankOf n p rows frame x1 x2 x3 x4).bind fun r4 => if r4.1 = ((2 : Int32)) then ((m_places n p rows placeI placeJ x1 x2 x3 x4).bind fun r5 => (m_brackets p rows r5.1 r5.2 x1 x3).bind fun r6 => (m_brackets p rows r5.1 r5.2 x2 x4).bind fun r7 => (m_times p r6 r7).bind fun r8 => (m_brackets p rows r5.1 r5.2 x2 x3).bind fun r9 => (m_brackets p rows r5.1 r5.2 x1 x4).bind fun r10 => (m_times p r9 r10).bind fun r11 => if r11 = ((0 : Int64)) then (if r8 = ((0 : Int64)) then (some ((-1 : Int64), r4.2, r5.1, r5.2)) else (some (p, r4.2, r5.1, r5.2))) else ((m_over p r11).bind fun r12 => (m_times p r8 r12).bind fun r13 => some (r13, r4.2, r5.1, r5.2))) else (some ((-1 : Int64), r4.2, placeI, placeJ)))))
set_option maxHeartbeats 4000000 in
set_option maxRecDepth 100000 in
theorem c_cross {G : gT} {h0 : Nat} {hp : cH} {sz : Nat} {n : Int32} {p : Int64} {count : Int32} {sorts : Nat → Int32} {rows : Nat → Int64} {hand : Nat → Int64} {gathered : Int32} {gather : Nat → Int32} {paired : Int32} {pairA : Nat → Int32} {pairB : Nat → Int32} {ideal : Int32} {draft : Nat → Int64} {frame : Nat → Int64} {one : Nat → Int64} {two : Nat → Int64} {turned : Nat → Int64} {placeI : Int32} {placeJ : Int32} {formA : Int64} {formB : Int64} {formC : Int64} {x1 : Int32} {x2 : Int32} {x3 : Int32} {x4 : Int32} {out : (Int64 × (Nat → Int64) × Int32 × Int32)} (h : m_cross n p count sorts rows frame placeI placeJ x1 x2 x3 x4 = some out) : aM G yX6_cross cX6_cross 9 (some .long) 5 92 0 0 [.ref h0, .int x1, .int x2, .int x3, .int x4] (mw h0 hp n p count sorts rows hand gathered gather paired pairA pairB ideal draft frame one two turned placeI placeJ formA formB formC) sz ((some (.long out.1), mw h0 hp n p count sorts rows hand gathered gather paired pairA pairB ideal draft out.2.1 one two turned out.2.2.1 out.2.2.2 formA formB formC, sz) : oT) := by
  refine aM.of RX6 (by decide) rfl (Nat.le_of_ble_eq_true rfl) (fun K C => ?_)
  have hO : ((some (.long out.1), mw h0 hp n p count sorts rows hand gathered gather paired pairA pairB ideal draft out.2.1 one two turned out.2.2.1 out.2.2.2 formA formB formC, sz) : oT) = ((some (.long out.1), mw h0 hp n p count sorts rows hand gathered gather paired pairA pairB ideal draft out.2.1 one two turned out.2.2.1 out.2.2.2 formA formB formC, sz) : oT) := rfl
  refine r_lve (lv' := [(0, .ref h0), (1, .int x1), (2, .int x2), (3, .int x3), (4, .int x4)]) rfl ?_
  unfold m_cross at h
  refine r_aload_n C 0 rfl dX6_cross_0 rfl ?_
  refine r_iload_n C 1 rfl dX6_cross_1 rfl ?_
  refine r_iload_n C 2 rfl dX6_cross_2 rfl ?_
  obtain ⟨r1, qr1, h⟩ := bd_i h
  refine q_callV C 0 0 0 (c_areOne qr1) rfl mw_self rfl ok_areOne in_areOne lk6_211 rfl (Nat.le_of_ble_eq_true rfl) ⟨Nat.le_of_ble_eq_true rfl, Nat.le_of_ble_eq_true rfl⟩ dX6_cross_3 rfl rfl ?_
  refine r_if_eq C (tgt := 28) dX6_cross_6 (by decide) (fun hc => ?_) (fun hc => ?_)
  · replace h := br_p hc h
    refine r_ldc2 C (v := -2) cl6_214 dX6_cross_28 ?_
    obtain rfl := sm_i h
    exact r_lreturn C (Eq.symm hO) dX6_cross_31
  · replace h := br_n hc h
    refine r_aload_n C 0 rfl dX6_cross_9 rfl ?_
    refine r_iload_n C 2 rfl dX6_cross_10 rfl ?_
    refine r_iload_n C 3 rfl dX6_cross_11 rfl ?_
    obtain ⟨r2, qr2, h⟩ := bd_i h
    refine q_callV C 0 0 0 (c_areOne qr2) rfl mw_self rfl ok_areOne in_areOne lk6_211 rfl (Nat.le_of_ble_eq_true rfl) ⟨Nat.le_of_ble_eq_true rfl, Nat.le_of_ble_eq_true rfl⟩ dX6_cross_12 rfl rfl ?_
    refine r_if_eq C (tgt := 28) dX6_cross_15 (by decide) (fun hc => ?_) (fun hc => ?_)
    · replace h := br_p hc h
      refine r_ldc2 C (v := -2) cl6_214 dX6_cross_28 ?_
      obtain rfl := sm_i h
      exact r_lreturn C (Eq.symm hO) dX6_cross_31
    · replace h := br_n hc h
      refine r_aload_n C 0 rfl dX6_cross_18 rfl ?_
      refine r_iload_n C 3 rfl dX6_cross_19 rfl ?_
      refine r_iload C 4 rfl dX6_cross_20 ?_
      obtain ⟨r3, qr3, h⟩ := bd_i h
      refine q_callV C 0 0 0 (c_areOne qr3) rfl mw_self rfl ok_areOne in_areOne lk6_211 rfl (Nat.le_of_ble_eq_true rfl) ⟨Nat.le_of_ble_eq_true rfl, Nat.le_of_ble_eq_true rfl⟩ dX6_cross_22 rfl rfl ?_
      refine r_if_ne C (tgt := 32) dX6_cross_25 (by decide) (fun hc => ?_) (fun hc => ?_)
      · replace h := br_n hc h
        refine r_aload_n C 0 rfl dX6_cross_32 rfl ?_
        refine r_iload_n C 1 rfl dX6_cross_33 rfl ?_
        refine r_iload_n C 2 rfl dX6_cross_34 rfl ?_
        refine r_iload_n C 3 rfl dX6_cross_35 rfl ?_
        refine r_iload C 4 rfl dX6_cross_36 ?_
        obtain ⟨r4, qr4, h⟩ := bd_i h
        refine q_callV C 0 0 0 (c_rankOf qr4) rfl mw_self rfl ok_rankOf in_rankOf lk6_216 rfl (Nat.le_of_ble_eq_true rfl) ⟨Nat.le_of_ble_eq_true rfl, Nat.le_of_ble_eq_true rfl⟩ dX6_cross_38 rfl rfl ?_
        refine r_iconst C (v := 2) dX6_cross_41 (by decide) ?_
        refine r_icmp_eq C (tgt := 49) dX6_cross_42 (by decide) (fun hc => ?_) (fun hc => ?_)
        · replace h := br_p hc h
          refine r_aload_n C 0 rfl dX6_cross_49 rfl ?_
          refine r_iload_n C 1 rfl dX6_cross_50 rfl ?_
          refine r_iload_n C 2 rfl dX6_cross_51 rfl ?_
          refine r_iload_n C 3 rfl dX6_cross_52 rfl ?_
          refine r_iload C 4 rfl dX6_cross_53 ?_
          obtain ⟨r5, qr5, h⟩ := bd_i h
          refine q_callVv C 0 0 0 (c_places qr5) rfl mw_self rfl ok_places in_places lk6_222 rfl (Nat.le_of_ble_eq_true rfl) ⟨Nat.le_of_ble_eq_true rfl, Nat.le_of_ble_eq_true rfl⟩ dX6_cross_55 rfl rfl ?_
          refine r_aload_n C 0 rfl dX6_cross_58 rfl ?_
          refine r_aload_n C 0 rfl dX6_cross_59 rfl ?_
          refine r_iload_n C 1 rfl dX6_cross_60 rfl ?_
          refine r_iload_n C 3 rfl dX6_cross_61 rfl ?_
          obtain ⟨r6, qr6, h⟩ := bd_i h
          refine q_callV C 1 0 0 (c_brackets qr6) rfl mw_self rfl ok_brackets in_brackets lk6_226 rfl (Nat.le_of_ble_eq_true rfl) ⟨Nat.le_of_ble_eq_true rfl, Nat.le_of_ble_eq_true rfl⟩ dX6_cross_62 rfl rfl ?_
          refine r_aload_n C 0 rfl dX6_cross_65 rfl ?_
          refine r_iload_n C 2 rfl dX6_cross_66 rfl ?_
          refine r_iload C 4 rfl dX6_cross_67 ?_
          obtain ⟨r7, qr7, h⟩ := bd_i h
          refine q_callV C 3 0 0 (c_brackets qr7) rfl mw_self rfl ok_brackets in_brackets lk6_226 rfl (Nat.le_of_ble_eq_true rfl) ⟨Nat.le_of_ble_eq_true rfl, Nat.le_of_ble_eq_true rfl⟩ dX6_cross_69 rfl rfl ?_
          obtain ⟨r8, qr8, h⟩ := bd_i h
          refine q_callV C 0 0 0 (c_times qr8) rfl mw_self rfl ok_times in_times lk6_76 rfl (Nat.le_of_ble_eq_true rfl) ⟨Nat.le_of_ble_eq_true rfl, Nat.le_of_ble_eq_true rfl⟩ dX6_cross_72 rfl rfl ?_
          refine r_lstore C (lv' := [(5, .long r8), (0, .ref h0), (1, .int x1), (2, .int x2), (3, .int x3), (4, .int x4)]) dX6_cross_75 (by decide) rfl ?_
          refine r_aload_n C 1 rfl dX6_cross_77 rfl ?_
          refine r_aload_n C 1 rfl dX6_cross_78 rfl ?_
          refine r_iload_n C 3 rfl dX6_cross_79 rfl ?_
          refine r_iload_n C 4 rfl dX6_cross_80 rfl ?_
          obtain ⟨r9, qr9, h⟩ := bd_i h
          refine q_callV C 1 0 0 (c_brackets qr9) rfl mw_self rfl ok_brackets in_brackets lk6_226 rfl (Nat.le_of_ble_eq_true rfl) ⟨Nat.le_of_ble_eq_true rfl, Nat.le_of_ble_eq_true rfl⟩ dX6_cross_81 rfl rfl ?_
          refine r_aload_n C 1 rfl dX6_cross_84 rfl ?_
          refine r_iload_n C 2 rfl dX6_cross_85 rfl ?_
          refine r_iload C 5 rfl dX6_cross_86 ?_
          obtain ⟨r10, qr10, h⟩ := bd_i h
          refine q_callV C 3 0 0 (c_brackets qr10) rfl mw_self rfl ok_brackets in_brackets lk6_226 rfl (Nat.le_of_ble_eq_true rfl) ⟨Nat.le_of_ble_eq_true rfl, Nat.le_of_ble_eq_true rfl⟩ dX6_cross_88 rfl rfl ?_
          obtain ⟨r11, qr11, h⟩ := bd_i h
          refine q_callV C 0 0 0 (c_times qr11) rfl mw_self rfl ok_times in_times lk6_76 rfl (Nat.le_of_ble_eq_true rfl) ⟨Nat.le_of_ble_eq_true rfl, Nat.le_of_ble_eq_true rfl⟩ dX6_cross_91 rfl rfl ?_
          refine r_lstore C (lv' := [(7, .long r11), (5, .long r8), (0, .ref h0), (1, .int x1), (2, .int x2), (3, .int x3), (4, .int x4)]) dX6_cross_94 (by decide) rfl ?_
          refine r_lload C 0 rfl dX6_cross_96 ?_
          refine r_lconst C (v := 0) dX6_cross_98 (by decide) ?_
          refine r_leq C (tgt := 118) dX6_cross_99 dX6_cross_100 (by decide) (fun hc => ?_) (fun hc => ?_)
          · replace h := br_p hc h
            refine r_lload C 1 rfl dX6_cross_118 ?_
            refine r_lconst C (v := 0) dX6_cross_120 (by decide) ?_
            refine r_leq C (tgt := 132) dX6_cross_121 dX6_cross_122 (by decide) (fun hc => ?_) (fun hc => ?_)
            · replace h := br_p hc h
              refine r_ldc2 C (v := -1) cl6_220 dX6_cross_132 ?_
              obtain rfl := sm_i h
              exact r_lreturn C (Eq.symm hO) dX6_cross_135
            · replace h := br_n hc h
              refine r_aload_n C 2 rfl dX6_cross_125 rfl ?_
              refine m_g_p C dX6_cross_126 ?_
              refine r_goto C (tgt := 135) dX6_cross_129 (by decide) ?_
              obtain rfl := sm_i h
              exact r_lreturn C (Eq.symm hO) dX6_cross_135
          · replace h := br_n hc h
            refine r_aload_n C 2 rfl dX6_cross_103 rfl ?_
            refine r_lload C 1 rfl dX6_cross_104 ?_
            refine r_aload_n C 2 rfl dX6_cross_106 rfl ?_
            refine r_lload C 0 rfl dX6_cross_107 ?_
            obtain ⟨r12, qr12, h⟩ := bd_i h
            refine q_callV C 3 0 0 (c_over qr12) rfl mw_self rfl ok_over in_over lk6_98 rfl (Nat.le_of_ble_eq_true rfl) ⟨Nat.le_of_ble_eq_true rfl, Nat.le_of_ble_eq_true rfl⟩ dX6_cross_109 rfl rfl ?_
            obtain ⟨r13, qr13, h⟩ := bd_i h
            refine q_callV C 0 0 0 (c_times qr13) rfl mw_self rfl ok_times in_times lk6_76 rfl (Nat.le_of_ble_eq_true rfl) ⟨Nat.le_of_ble_eq_true rfl, Nat.le_of_ble_eq_true rfl⟩ dX6_cross_112 rfl rfl ?_
            refine r_goto C (tgt := 135) dX6_cross_115 (by decide) ?_
            obtain rfl := sm_i h
            exact r_lreturn C (Eq.symm hO) dX6_cross_135
        · replace h := br_n hc h
          refine r_ldc2 C (v := -1) cl6_220 dX6_cross_45 ?_
          obtain rfl := sm_i h
          exact r_lreturn C (Eq.symm hO) dX6_cross_48
      · replace h := br_p hc h
        refine r_ldc2 C (v := -2) cl6_214 dX6_cross_28 ?_
        obtain rfl := sm_i h
        exact r_lreturn C (Eq.symm hO) dX6_cross_31
