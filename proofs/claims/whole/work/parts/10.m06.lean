noncomputable def m_compose (n : Int32) (p : Int64) (count : Int32) (sorts : Nat → Int32) (rows : Nat → Int64) (draft : Nat → Int64) (x1 : Int32) (x2 : Int32) : Option (Int32 × Int32 × (Nat → Int32) × (Nat → Int64) × (Nat → Int64)) := (m_is count sorts x1 ((3 : Int32))).bind fun r1 => if r1 = 0 then (some ((-2 : Int32), count, sorts, rows, draft)) else ((m_is count sorts x2 ((3 : Int32))).bind fun r2 => if r2 = 0 then (some ((-2 : Int32), count, sorts, rows, draft)) else ((m_product n p rows draft x1 x2).bind fun r3 => (m_made n p count sorts rows r3 ((3 : Int32))).bind fun r4 => some (r4.1, r4.2.1, r4.2.2.1, r4.2.2.2.1, r4.2.2.2.2)))
set_option maxHeartbeats 4000000 in
set_option maxRecDepth 100000 in
theorem c_compose {G : gT} {h0 : Nat} {hp : cH} {sz : Nat} {n : Int32} {p : Int64} {count : Int32} {sorts : Nat → Int32} {rows : Nat → Int64} {hand : Nat → Int64} {gathered : Int32} {gather : Nat → Int32} {paired : Int32} {pairA : Nat → Int32} {pairB : Nat → Int32} {ideal : Int32} {draft : Nat → Int64} {frame : Nat → Int64} {one : Nat → Int64} {two : Nat → Int64} {turned : Nat → Int64} {placeI : Int32} {placeJ : Int32} {formA : Int64} {formB : Int64} {formC : Int64} {x1 : Int32} {x2 : Int32} {out : (Int32 × Int32 × (Nat → Int32) × (Nat → Int64) × (Nat → Int64))} (h : m_compose n p count sorts rows draft x1 x2 = some out) : aM G yX6_compose cX6_compose 3 (some .int) 5 85 0 0 [.ref h0, .int x1, .int x2] (mw h0 hp n p count sorts rows hand gathered gather paired pairA pairB ideal draft frame one two turned placeI placeJ formA formB formC) sz ((some (.int out.1), mw h0 hp n p out.2.1 out.2.2.1 out.2.2.2.1 hand gathered gather paired pairA pairB ideal out.2.2.2.2 frame one two turned placeI placeJ formA formB formC, sz) : oT) := by
  refine aM.of RX6 (by decide) rfl (Nat.le_of_ble_eq_true rfl) (fun K C => ?_)
  have hO : ((some (.int out.1), mw h0 hp n p out.2.1 out.2.2.1 out.2.2.2.1 hand gathered gather paired pairA pairB ideal out.2.2.2.2 frame one two turned placeI placeJ formA formB formC, sz) : oT) = ((some (.int out.1), mw h0 hp n p out.2.1 out.2.2.1 out.2.2.2.1 hand gathered gather paired pairA pairB ideal out.2.2.2.2 frame one two turned placeI placeJ formA formB formC, sz) : oT) := rfl
  refine r_lve (lv' := [(0, .ref h0), (1, .int x1), (2, .int x2)]) rfl ?_
  unfold m_compose at h
  refine r_aload_n C 0 rfl dX6_compose_0 rfl ?_
  refine r_iload_n C 1 rfl dX6_compose_1 rfl ?_
  refine r_iconst C (v := 3) dX6_compose_2 (by decide) ?_
  obtain ⟨r1, qr1, h⟩ := bd_i h
  refine q_callV C 0 0 0 (c_is qr1) rfl mw_self rfl ok_is in_is lk6_146 rfl (Nat.le_of_ble_eq_true rfl) ⟨Nat.le_of_ble_eq_true rfl, Nat.le_of_ble_eq_true rfl⟩ dX6_compose_3 rfl rfl ?_
  refine r_if_eq C (tgt := 18) dX6_compose_6 (by decide) (fun hc => ?_) (fun hc => ?_)
  · replace h := br_p hc h
    refine r_bipush C (v := -2) dX6_compose_18 (by decide) ?_
    obtain rfl := sm_i h
    exact r_ireturn C (Eq.symm hO) dX6_compose_20
  · replace h := br_n hc h
    refine r_aload_n C 0 rfl dX6_compose_9 rfl ?_
    refine r_iload_n C 2 rfl dX6_compose_10 rfl ?_
    refine r_iconst C (v := 3) dX6_compose_11 (by decide) ?_
    obtain ⟨r2, qr2, h⟩ := bd_i h
    refine q_callV C 0 0 0 (c_is qr2) rfl mw_self rfl ok_is in_is lk6_146 rfl (Nat.le_of_ble_eq_true rfl) ⟨Nat.le_of_ble_eq_true rfl, Nat.le_of_ble_eq_true rfl⟩ dX6_compose_12 rfl rfl ?_
    refine r_if_ne C (tgt := 21) dX6_compose_15 (by decide) (fun hc => ?_) (fun hc => ?_)
    · replace h := br_n hc h
      refine r_aload_n C 0 rfl dX6_compose_21 rfl ?_
      refine r_iload_n C 1 rfl dX6_compose_22 rfl ?_
      refine r_iload_n C 2 rfl dX6_compose_23 rfl ?_
      obtain ⟨r3, qr3, h⟩ := bd_i h
      refine q_callVv C 0 0 0 (c_product qr3) rfl mw_self rfl ok_product in_product lk6_237 rfl (Nat.le_of_ble_eq_true rfl) ⟨Nat.le_of_ble_eq_true rfl, Nat.le_of_ble_eq_true rfl⟩ dX6_compose_24 rfl rfl ?_
      refine r_aload_n C 0 rfl dX6_compose_27 rfl ?_
      refine r_iconst C (v := 3) dX6_compose_28 (by decide) ?_
      obtain ⟨r4, qr4, h⟩ := bd_i h
      refine q_callV C 0 0 0 (c_made qr4) rfl mw_self rfl ok_made in_made lk6_133 rfl (Nat.le_of_ble_eq_true rfl) ⟨Nat.le_of_ble_eq_true rfl, Nat.le_of_ble_eq_true rfl⟩ dX6_compose_29 rfl rfl ?_
      obtain rfl := sm_i h
      exact r_ireturn C (Eq.symm hO) dX6_compose_32
    · replace h := br_p hc h
      refine r_bipush C (v := -2) dX6_compose_18 (by decide) ?_
      obtain rfl := sm_i h
      exact r_ireturn C (Eq.symm hO) dX6_compose_20
noncomputable def m_isTurned_L12 (n : Int32) (rows : Nat → Int64) (l1 : Int32) (l2 : Int32) (s : (Int32 × (Nat → Int64))) : Option ((Int32 × (Nat → Int64)) ⊕ (Nat → Int64)) := (m_side n).bind fun r2 => if r2 ≤ s.1 then (some (.inr s.2)) else ((m_side n).bind fun r3 => (m_of rows l1 ((l2 * r3) + s.1)).bind fun r4 => (m_set s.2 l2 s.1 r4).bind fun r5 => (m_side n).bind fun r6 => if l2 = s.1 then ((m_set r5 l2 (r6 + s.1) ((1 : Int64))).bind fun r8 => some (.inl (s.1 + 1, r8))) else ((m_set r5 l2 (r6 + s.1) ((0 : Int64))).bind fun r7 => some (.inl (s.1 + 1, r7))))
noncomputable def m_isTurned_L2 (n : Int32) (rows : Nat → Int64) (l1 : Int32) (s : (Int32 × (Nat → Int64))) : Option ((Int32 × (Nat → Int64)) ⊕ (Nat → Int64)) := (m_side n).bind fun r1 => if r1 ≤ s.1 then (some (.inr s.2)) else ((itX (m_isTurned_L12 n rows l1 s.1) ((0 : Int32), s.2)).bind fun r9 => some (.inl (s.1 + 1, r9)))
noncomputable def m_isTurned_L111 (n : Int32) (frame : Nat → Int64) (l2 : Int32) (s : (Int32 × (Nat → Int64))) : Option ((Int32 × (Nat → Int64)) ⊕ (Nat → Int64)) := (m_side n).bind fun r17 => if r17 ≤ s.1 then (some (.inr s.2)) else ((m_side n).bind fun r18 => (m_side n).bind fun r19 => (m_at frame l2 (r19 + s.1)).bind fun r20 => if gi ((l2 * r18) + s.1) 16 then some (.inl (s.1 + 1, vp_updL s.2 ((l2 * r18) + s.1).toNatClampNeg r20)) else none)
noncomputable def m_isTurned_L101 (n : Int32) (frame : Nat → Int64) (s : (Int32 × (Nat → Int64))) : Option ((Int32 × (Nat → Int64)) ⊕ (Nat → Int64)) := (m_side n).bind fun r16 => if r16 ≤ s.1 then (some (.inr s.2)) else ((itX (m_isTurned_L111 n frame s.1) ((0 : Int32), s.2)).bind fun r21 => some (.inl (s.1 + 1, r21)))
noncomputable def m_isTurned (n : Int32) (p : Int64) (rows : Nat → Int64) (frame : Nat → Int64) (turned : Nat → Int64) (x1 : Int32) : Option (Int32 × (Nat → Int64) × (Nat → Int64)) := (itX (m_isTurned_L2 n rows x1) ((0 : Int32), frame)).bind fun r10 => (m_side n).bind fun r11 => (m_side n).bind fun r12 => (m_side n).bind fun r13 => (m_reduce p r10 r11 (((2 : Int32)) * r12) r13).bind fun r14 => (m_side n).bind fun r15 => if r15 ≤ r14.1 then ((itX (m_isTurned_L101 n r14.2) ((0 : Int32), turned)).bind fun r22 => some ((1 : Int32), r14.2, r22)) else (some ((0 : Int32), r14.2, turned))
set_option maxHeartbeats 4000000 in
set_option maxRecDepth 100000 in
theorem w_isTurned_L12 {K : kT} {O : oT} (C : aC K cX6_isTurned RX6 "isTurned" 4 76 0 0 4 (some .boolean) O) {h0 : Nat} {hp : cH} {sz : Nat} {n : Int32} {p : Int64} {count : Int32} {sorts : Nat → Int32} {rows : Nat → Int64} {hand : Nat → Int64} {gathered : Int32} {gather : Nat → Int32} {paired : Int32} {pairA : Nat → Int32} {pairB : Nat → Int32} {ideal : Int32} {draft : Nat → Int64} {one : Nat → Int64} {two : Nat → Int64} {turned : Nat → Int64} {placeI : Int32} {placeJ : Int32} {formA : Int64} {formB : Int64} {formC : Int64} {l1 : Int32} {l2 : Int32} {v0 : Int32} {v1 : Nat → Int64} {r : (Nat → Int64)} (h : itX (m_isTurned_L12 n rows l1 l2) (v0, v1) = some r) (hr : aW K (mw h0 hp n p count sorts rows hand gathered gather paired pairA pairB ideal draft r one two turned placeI placeJ formA formB formC) sz 0 0 66 [(0, .ref h0), (1, .int l1), (2, .int l2)] []) : aW K (mw h0 hp n p count sorts rows hand gathered gather paired pairA pairB ideal draft v1 one two turned placeI placeJ formA formB formC) sz 0 0 12 [(0, .ref h0), (1, .int l1), (2, .int l2), (3, .int v0)] [] := by
  refine it_walk (f := m_isTurned_L12 n rows l1 l2) (P := fun s => aW K (mw h0 hp n p count sorts rows hand gathered gather paired pairA pairB ideal draft s.2 one two turned placeI placeJ formA formB formC) sz 0 0 12 [(0, .ref h0), (1, .int l1), (2, .int l2), (3, .int s.1)] []) (R := fun r => aW K (mw h0 hp n p count sorts rows hand gathered gather paired pairA pairB ideal draft r one two turned placeI placeJ formA formB formC) sz 0 0 66 [(0, .ref h0), (1, .int l1), (2, .int l2)] []) ?_ h hr
  clear h hr
  intro s x h kl kr
  unfold m_isTurned_L12 at h
  refine r_iload_n C 3 rfl dX6_isTurned_12 rfl ?_
  refine r_aload_n C 0 rfl dX6_isTurned_13 rfl ?_
  obtain ⟨r2, qr2, h⟩ := bd_i h
  refine q_callV C 1 0 0 (c_side qr2) rfl mw_self rfl ok_side in_side lk6_111 rfl (Nat.le_of_ble_eq_true rfl) ⟨Nat.le_of_ble_eq_true rfl, Nat.le_of_ble_eq_true rfl⟩ dX6_isTurned_14 rfl rfl ?_
  refine r_icmp_ge C (tgt := 66) dX6_isTurned_17 (by decide) (fun hc => ?_) (fun hc => ?_)
  · replace h := br_p hc h
    refine r_lv [0, 1, 2] rfl ?_
    exact kr _ (sm_i h)
  · replace h := br_n hc h
    refine r_aload_n C 0 rfl dX6_isTurned_20 rfl ?_
    refine r_iload_n C 2 rfl dX6_isTurned_21 rfl ?_
    refine r_iload_n C 3 rfl dX6_isTurned_22 rfl ?_
    refine r_aload_n C 0 rfl dX6_isTurned_23 rfl ?_
    refine r_iload_n C 1 rfl dX6_isTurned_24 rfl ?_
    refine r_iload_n C 2 rfl dX6_isTurned_25 rfl ?_
    refine r_aload_n C 0 rfl dX6_isTurned_26 rfl ?_
    obtain ⟨r3, qr3, h⟩ := bd_i h
    refine q_callV C 6 0 0 (c_side qr3) rfl mw_self rfl ok_side in_side lk6_111 rfl (Nat.le_of_ble_eq_true rfl) ⟨Nat.le_of_ble_eq_true rfl, Nat.le_of_ble_eq_true rfl⟩ dX6_isTurned_27 rfl rfl ?_
    refine r_imul C dX6_isTurned_30 ?_
    refine r_iload_n C 3 rfl dX6_isTurned_31 rfl ?_
    refine r_iadd C dX6_isTurned_32 ?_
    obtain ⟨r4, qr4, h⟩ := bd_i h
    refine q_callV C 3 0 0 (c_of qr4) rfl mw_self rfl ok_of in_of lk6_108 rfl (Nat.le_of_ble_eq_true rfl) ⟨Nat.le_of_ble_eq_true rfl, Nat.le_of_ble_eq_true rfl⟩ dX6_isTurned_33 rfl rfl ?_
    obtain ⟨r5, qr5, h⟩ := bd_i h
    refine q_callVv C 0 0 0 (c_set qr5) rfl mw_self rfl ok_set in_set lk6_101 rfl (Nat.le_of_ble_eq_true rfl) ⟨Nat.le_of_ble_eq_true rfl, Nat.le_of_ble_eq_true rfl⟩ dX6_isTurned_36 rfl rfl ?_
    refine r_aload_n C 0 rfl dX6_isTurned_39 rfl ?_
    refine r_iload_n C 2 rfl dX6_isTurned_40 rfl ?_
    refine r_aload_n C 0 rfl dX6_isTurned_41 rfl ?_
    obtain ⟨r6, qr6, h⟩ := bd_i h
    refine q_callV C 2 0 0 (c_side qr6) rfl mw_self rfl ok_side in_side lk6_111 rfl (Nat.le_of_ble_eq_true rfl) ⟨Nat.le_of_ble_eq_true rfl, Nat.le_of_ble_eq_true rfl⟩ dX6_isTurned_42 rfl rfl ?_
    refine r_iload_n C 3 rfl dX6_isTurned_45 rfl ?_
    refine r_iadd C dX6_isTurned_46 ?_
    refine r_iload_n C 2 rfl dX6_isTurned_47 rfl ?_
    refine r_iload_n C 3 rfl dX6_isTurned_48 rfl ?_
    refine r_icmp_ne C (tgt := 56) dX6_isTurned_49 (by decide) (fun hc => ?_) (fun hc => ?_)
    · replace h := br_n hc h
      refine r_lconst C (v := 0) dX6_isTurned_56 (by decide) ?_
      obtain ⟨r7, qr7, h⟩ := bd_i h
      refine q_callVv C 0 0 0 (c_set qr7) rfl mw_self rfl ok_set in_set lk6_101 rfl (Nat.le_of_ble_eq_true rfl) ⟨Nat.le_of_ble_eq_true rfl, Nat.le_of_ble_eq_true rfl⟩ dX6_isTurned_57 rfl rfl ?_
      refine r_iinc C (v := s.1 + 1) (lv' := [(3, .int (s.1 + 1)), (0, .ref h0), (1, .int l1), (2, .int l2)]) 3 rfl dX6_isTurned_60 rfl (by decide) rfl ?_
      refine r_goto C (tgt := 12) dX6_isTurned_63 (by decide) ?_
      refine r_lv [1, 2, 3, 0] rfl ?_
      exact kl _ (sm_i h)
    · replace h := br_p hc h
      refine r_lconst C (v := 1) dX6_isTurned_52 (by decide) ?_
      refine r_goto C (tgt := 57) dX6_isTurned_53 (by decide) ?_
      obtain ⟨r8, qr8, h⟩ := bd_i h
      refine q_callVv C 0 0 0 (c_set qr8) rfl mw_self rfl ok_set in_set lk6_101 rfl (Nat.le_of_ble_eq_true rfl) ⟨Nat.le_of_ble_eq_true rfl, Nat.le_of_ble_eq_true rfl⟩ dX6_isTurned_57 rfl rfl ?_
      refine r_iinc C (v := s.1 + 1) (lv' := [(3, .int (s.1 + 1)), (0, .ref h0), (1, .int l1), (2, .int l2)]) 3 rfl dX6_isTurned_60 rfl (by decide) rfl ?_
      refine r_goto C (tgt := 12) dX6_isTurned_63 (by decide) ?_
      refine r_lv [1, 2, 3, 0] rfl ?_
      exact kl _ (sm_i h)
set_option maxHeartbeats 4000000 in
set_option maxRecDepth 100000 in
theorem w_isTurned_L2 {K : kT} {O : oT} (C : aC K cX6_isTurned RX6 "isTurned" 4 76 0 0 4 (some .boolean) O) {h0 : Nat} {hp : cH} {sz : Nat} {n : Int32} {p : Int64} {count : Int32} {sorts : Nat → Int32} {rows : Nat → Int64} {hand : Nat → Int64} {gathered : Int32} {gather : Nat → Int32} {paired : Int32} {pairA : Nat → Int32} {pairB : Nat → Int32} {ideal : Int32} {draft : Nat → Int64} {one : Nat → Int64} {two : Nat → Int64} {turned : Nat → Int64} {placeI : Int32} {placeJ : Int32} {formA : Int64} {formB : Int64} {formC : Int64} {l1 : Int32} {v0 : Int32} {v1 : Nat → Int64} {r : (Nat → Int64)} (h : itX (m_isTurned_L2 n rows l1) (v0, v1) = some r) (hr : aW K (mw h0 hp n p count sorts rows hand gathered gather paired pairA pairB ideal draft r one two turned placeI placeJ formA formB formC) sz 0 0 72 [(0, .ref h0)] []) : aW K (mw h0 hp n p count sorts rows hand gathered gather paired pairA pairB ideal draft v1 one two turned placeI placeJ formA formB formC) sz 0 0 2 [(0, .ref h0), (1, .int l1), (2, .int v0)] [] := by
  refine it_walk (f := m_isTurned_L2 n rows l1) (P := fun s => aW K (mw h0 hp n p count sorts rows hand gathered gather paired pairA pairB ideal draft s.2 one two turned placeI placeJ formA formB formC) sz 0 0 2 [(0, .ref h0), (1, .int l1), (2, .int s.1)] []) (R := fun r => aW K (mw h0 hp n p count sorts rows hand gathered gather paired pairA pairB ideal draft r one two turned placeI placeJ formA formB formC) sz 0 0 72 [(0, .ref h0)] []) ?_ h hr
  clear h hr
  intro s x h kl kr
  unfold m_isTurned_L2 at h
  refine r_iload_n C 2 rfl dX6_isTurned_2 rfl ?_
  refine r_aload_n C 0 rfl dX6_isTurned_3 rfl ?_
  obtain ⟨r1, qr1, h⟩ := bd_i h
  refine q_callV C 1 0 0 (c_side qr1) rfl mw_self rfl ok_side in_side lk6_111 rfl (Nat.le_of_ble_eq_true rfl) ⟨Nat.le_of_ble_eq_true rfl, Nat.le_of_ble_eq_true rfl⟩ dX6_isTurned_4 rfl rfl ?_
  refine r_icmp_ge C (tgt := 72) dX6_isTurned_7 (by decide) (fun hc => ?_) (fun hc => ?_)
  · replace h := br_p hc h
    refine r_lv [0] rfl ?_
    exact kr _ (sm_i h)
  · replace h := br_n hc h
    refine r_iconst C (v := 0) dX6_isTurned_10 (by decide) ?_
    refine r_istore_n C (lv' := [(3, .int ((0 : Int32))), (0, .ref h0), (1, .int l1), (2, .int s.1)]) dX6_isTurned_11 rfl (by decide) rfl ?_
    refine r_lv [1, 2, 3, 0] rfl ?_
    obtain ⟨r9, qr9, h⟩ := bd_i h
    refine w_isTurned_L12 C qr9 ?_
    refine r_iinc C (v := s.1 + 1) (lv' := [(2, .int (s.1 + 1)), (0, .ref h0), (1, .int l1)]) 2 rfl dX6_isTurned_66 rfl (by decide) rfl ?_
    refine r_goto C (tgt := 2) dX6_isTurned_69 (by decide) ?_
    refine r_lv [1, 2, 0] rfl ?_
    exact kl _ (sm_i h)
set_option maxHeartbeats 4000000 in
set_option maxRecDepth 100000 in
theorem w_isTurned_L111 {K : kT} {O : oT} (C : aC K cX6_isTurned RX6 "isTurned" 4 76 0 0 4 (some .boolean) O) {h0 : Nat} {hp : cH} {sz : Nat} {n : Int32} {p : Int64} {count : Int32} {sorts : Nat → Int32} {rows : Nat → Int64} {hand : Nat → Int64} {gathered : Int32} {gather : Nat → Int32} {paired : Int32} {pairA : Nat → Int32} {pairB : Nat → Int32} {ideal : Int32} {draft : Nat → Int64} {frame : Nat → Int64} {one : Nat → Int64} {two : Nat → Int64} {placeI : Int32} {placeJ : Int32} {formA : Int64} {formB : Int64} {formC : Int64} {l2 : Int32} {v0 : Int32} {v1 : Nat → Int64} {r : (Nat → Int64)} (h : itX (m_isTurned_L111 n frame l2) (v0, v1) = some r) (hr : aW K (mw h0 hp n p count sorts rows hand gathered gather paired pairA pairB ideal draft frame one two r placeI placeJ formA formB formC) sz 0 0 149 [(0, .ref h0), (2, .int l2)] []) : aW K (mw h0 hp n p count sorts rows hand gathered gather paired pairA pairB ideal draft frame one two v1 placeI placeJ formA formB formC) sz 0 0 111 [(0, .ref h0), (2, .int l2), (3, .int v0)] [] := by
  refine it_walk (f := m_isTurned_L111 n frame l2) (P := fun s => aW K (mw h0 hp n p count sorts rows hand gathered gather paired pairA pairB ideal draft frame one two s.2 placeI placeJ formA formB formC) sz 0 0 111 [(0, .ref h0), (2, .int l2), (3, .int s.1)] []) (R := fun r => aW K (mw h0 hp n p count sorts rows hand gathered gather paired pairA pairB ideal draft frame one two r placeI placeJ formA formB formC) sz 0 0 149 [(0, .ref h0), (2, .int l2)] []) ?_ h hr
  clear h hr
  intro s x h kl kr
  unfold m_isTurned_L111 at h
  refine r_iload_n C 2 rfl dX6_isTurned_111 rfl ?_
  refine r_aload_n C 0 rfl dX6_isTurned_112 rfl ?_
  obtain ⟨r17, qr17, h⟩ := bd_i h
  refine q_callV C 1 0 0 (c_side qr17) rfl mw_self rfl ok_side in_side lk6_111 rfl (Nat.le_of_ble_eq_true rfl) ⟨Nat.le_of_ble_eq_true rfl, Nat.le_of_ble_eq_true rfl⟩ dX6_isTurned_113 rfl rfl ?_
  refine r_icmp_ge C (tgt := 149) dX6_isTurned_116 (by decide) (fun hc => ?_) (fun hc => ?_)
  · replace h := br_p hc h
    refine r_lv [0, 1] rfl ?_
    exact kr _ (sm_i h)
  · replace h := br_n hc h
    refine r_aload_n C 0 rfl dX6_isTurned_119 rfl ?_
    refine m_g_turned C dX6_isTurned_120 ?_
    refine r_iload_n C 1 rfl dX6_isTurned_123 rfl ?_
    refine r_aload_n C 0 rfl dX6_isTurned_124 rfl ?_
    obtain ⟨r18, qr18, h⟩ := bd_i h
    refine q_callV C 2 0 0 (c_side qr18) rfl mw_self rfl ok_side in_side lk6_111 rfl (Nat.le_of_ble_eq_true rfl) ⟨Nat.le_of_ble_eq_true rfl, Nat.le_of_ble_eq_true rfl⟩ dX6_isTurned_125 rfl rfl ?_
    refine r_imul C dX6_isTurned_128 ?_
    refine r_iload_n C 2 rfl dX6_isTurned_129 rfl ?_
    refine r_iadd C dX6_isTurned_130 ?_
    refine r_aload_n C 0 rfl dX6_isTurned_131 rfl ?_
    refine r_iload_n C 1 rfl dX6_isTurned_132 rfl ?_
    refine r_aload_n C 0 rfl dX6_isTurned_133 rfl ?_
    obtain ⟨r19, qr19, h⟩ := bd_i h
    refine q_callV C 4 0 0 (c_side qr19) rfl mw_self rfl ok_side in_side lk6_111 rfl (Nat.le_of_ble_eq_true rfl) ⟨Nat.le_of_ble_eq_true rfl, Nat.le_of_ble_eq_true rfl⟩ dX6_isTurned_134 rfl rfl ?_
    refine r_iload_n C 2 rfl dX6_isTurned_137 rfl ?_
    refine r_iadd C dX6_isTurned_138 ?_
    obtain ⟨r20, qr20, h⟩ := bd_i h
    refine q_callV C 2 0 0 (c_at qr20) rfl mw_self rfl ok_at in_at lk6_94 rfl (Nat.le_of_ble_eq_true rfl) ⟨Nat.le_of_ble_eq_true rfl, Nat.le_of_ble_eq_true rfl⟩ dX6_isTurned_139 rfl rfl ?_
    obtain ⟨hi, h⟩ := gd_t h
    refine m_s_turned C hi dX6_isTurned_142 ?_
    refine r_iinc C (v := s.1 + 1) (lv' := [(3, .int (s.1 + 1)), (0, .ref h0), (2, .int l2)]) 2 rfl dX6_isTurned_143 rfl (by decide) rfl ?_
    refine r_goto C (tgt := 111) dX6_isTurned_146 (by decide) ?_
    refine r_lv [1, 2, 0] rfl ?_
    exact kl _ (sm_i h)
set_option maxHeartbeats 4000000 in
set_option maxRecDepth 100000 in
theorem w_isTurned_L101 {K : kT} {O : oT} (C : aC K cX6_isTurned RX6 "isTurned" 4 76 0 0 4 (some .boolean) O) {h0 : Nat} {hp : cH} {sz : Nat} {n : Int32} {p : Int64} {count : Int32} {sorts : Nat → Int32} {rows : Nat → Int64} {hand : Nat → Int64} {gathered : Int32} {gather : Nat → Int32} {paired : Int32} {pairA : Nat → Int32} {pairB : Nat → Int32} {ideal : Int32} {draft : Nat → Int64} {frame : Nat → Int64} {one : Nat → Int64} {two : Nat → Int64} {placeI : Int32} {placeJ : Int32} {formA : Int64} {formB : Int64} {formC : Int64}  {v0 : Int32} {v1 : Nat → Int64} {r : (Nat → Int64)} (h : itX (m_isTurned_L101 n frame) (v0, v1) = some r) (hr : aW K (mw h0 hp n p count sorts rows hand gathered gather paired pairA pairB ideal draft frame one two r placeI placeJ formA formB formC) sz 0 0 155 [] []) : aW K (mw h0 hp n p count sorts rows hand gathered gather paired pairA pairB ideal draft frame one two v1 placeI placeJ formA formB formC) sz 0 0 101 [(0, .ref h0), (2, .int v0)] [] := by
  refine it_walk (f := m_isTurned_L101 n frame) (P := fun s => aW K (mw h0 hp n p count sorts rows hand gathered gather paired pairA pairB ideal draft frame one two s.2 placeI placeJ formA formB formC) sz 0 0 101 [(0, .ref h0), (2, .int s.1)] []) (R := fun r => aW K (mw h0 hp n p count sorts rows hand gathered gather paired pairA pairB ideal draft frame one two r placeI placeJ formA formB formC) sz 0 0 155 [] []) ?_ h hr
  clear h hr
  intro s x h kl kr
  unfold m_isTurned_L101 at h
  refine r_iload_n C 1 rfl dX6_isTurned_101 rfl ?_
  refine r_aload_n C 0 rfl dX6_isTurned_102 rfl ?_
  obtain ⟨r16, qr16, h⟩ := bd_i h
  refine q_callV C 1 0 0 (c_side qr16) rfl mw_self rfl ok_side in_side lk6_111 rfl (Nat.le_of_ble_eq_true rfl) ⟨Nat.le_of_ble_eq_true rfl, Nat.le_of_ble_eq_true rfl⟩ dX6_isTurned_103 rfl rfl ?_
  refine r_icmp_ge C (tgt := 155) dX6_isTurned_106 (by decide) (fun hc => ?_) (fun hc => ?_)
  · replace h := br_p hc h
    refine r_lv [] rfl ?_
    exact kr _ (sm_i h)
  · replace h := br_n hc h
    refine r_iconst C (v := 0) dX6_isTurned_109 (by decide) ?_
    refine r_istore_n C (lv' := [(3, .int ((0 : Int32))), (0, .ref h0), (2, .int s.1)]) dX6_isTurned_110 rfl (by decide) rfl ?_
    refine r_lv [1, 2, 0] rfl ?_
    obtain ⟨r21, qr21, h⟩ := bd_i h
    refine w_isTurned_L111 C qr21 ?_
    refine r_iinc C (v := s.1 + 1) (lv' := [(2, .int (s.1 + 1)), (0, .ref h0)]) 1 rfl dX6_isTurned_149 rfl (by decide) rfl ?_
    refine r_goto C (tgt := 101) dX6_isTurned_152 (by decide) ?_
    refine r_lv [1, 0] rfl ?_
    exact kl _ (sm_i h)
set_option maxHeartbeats 4000000 in
set_option maxRecDepth 100000 in
theorem c_isTurned {G : gT} {h0 : Nat} {hp : cH} {sz : Nat} {n : Int32} {p : Int64} {count : Int32} {sorts : Nat → Int32} {rows : Nat → Int64} {hand : Nat → Int64} {gathered : Int32} {gather : Nat → Int32} {paired : Int32} {pairA : Nat → Int32} {pairB : Nat → Int32} {ideal : Int32} {draft : Nat → Int64} {frame : Nat → Int64} {one : Nat → Int64} {two : Nat → Int64} {turned : Nat → Int64} {placeI : Int32} {placeJ : Int32} {formA : Int64} {formB : Int64} {formC : Int64} {x1 : Int32} {out : (Int32 × (Nat → Int64) × (Nat → Int64))} (h : m_isTurned n p rows frame turned x1 = some out) : aM G yX6_isTurned cX6_isTurned 4 (some .boolean) 4 76 0 0 [.ref h0, .int x1] (mw h0 hp n p count sorts rows hand gathered gather paired pairA pairB ideal draft frame one two turned placeI placeJ formA formB formC) sz ((some (.int out.1), mw h0 hp n p count sorts rows hand gathered gather paired pairA pairB ideal draft out.2.1 one two out.2.2 placeI placeJ formA formB formC, sz) : oT) := by
  refine aM.of RX6 (by decide) rfl (Nat.le_of_ble_eq_true rfl) (fun K C => ?_)
  have hO : ((some (.int out.1), mw h0 hp n p count sorts rows hand gathered gather paired pairA pairB ideal draft out.2.1 one two out.2.2 placeI placeJ formA formB formC, sz) : oT) = ((some (.int out.1), mw h0 hp n p count sorts rows hand gathered gather paired pairA pairB ideal draft out.2.1 one two out.2.2 placeI placeJ formA formB formC, sz) : oT) := rfl
  refine r_lve (lv' := [(0, .ref h0), (1, .int x1)]) rfl ?_
  unfold m_isTurned at h
  refine r_iconst C (v := 0) dX6_isTurned_0 (by decide) ?_
  refine r_istore_n C (lv' := [(2, .int ((0 : Int32))), (0, .ref h0), (1, .int x1)]) dX6_isTurned_1 rfl (by decide) rfl ?_
  refine r_lv [1, 2, 0] rfl ?_
  obtain ⟨r10, qr10, h⟩ := bd_i h
  refine w_isTurned_L2 C qr10 ?_
  refine r_aload_n C 0 rfl dX6_isTurned_72 rfl ?_
  refine r_aload_n C 0 rfl dX6_isTurned_73 rfl ?_
  obtain ⟨r11, qr11, h⟩ := bd_i h
  refine q_callV C 1 0 0 (c_side qr11) rfl mw_self rfl ok_side in_side lk6_111 rfl (Nat.le_of_ble_eq_true rfl) ⟨Nat.le_of_ble_eq_true rfl, Nat.le_of_ble_eq_true rfl⟩ dX6_isTurned_74 rfl rfl ?_
  refine r_iconst C (v := 2) dX6_isTurned_77 (by decide) ?_
  refine r_aload_n C 0 rfl dX6_isTurned_78 rfl ?_
  obtain ⟨r12, qr12, h⟩ := bd_i h
  refine q_callV C 3 0 0 (c_side qr12) rfl mw_self rfl ok_side in_side lk6_111 rfl (Nat.le_of_ble_eq_true rfl) ⟨Nat.le_of_ble_eq_true rfl, Nat.le_of_ble_eq_true rfl⟩ dX6_isTurned_79 rfl rfl ?_
  refine r_imul C dX6_isTurned_82 ?_
  refine r_aload_n C 0 rfl dX6_isTurned_83 rfl ?_
  obtain ⟨r13, qr13, h⟩ := bd_i h
  refine q_callV C 3 0 0 (c_side qr13) rfl mw_self rfl ok_side in_side lk6_111 rfl (Nat.le_of_ble_eq_true rfl) ⟨Nat.le_of_ble_eq_true rfl, Nat.le_of_ble_eq_true rfl⟩ dX6_isTurned_84 rfl rfl ?_
  obtain ⟨r14, qr14, h⟩ := bd_i h
  refine q_callV C 0 0 0 (c_reduce qr14) rfl mw_self rfl ok_reduce in_reduce lk6_115 rfl (Nat.le_of_ble_eq_true rfl) ⟨Nat.le_of_ble_eq_true rfl, Nat.le_of_ble_eq_true rfl⟩ dX6_isTurned_87 rfl rfl ?_
  refine r_aload_n C 0 rfl dX6_isTurned_90 rfl ?_
  obtain ⟨r15, qr15, h⟩ := bd_i h
  refine q_callV C 1 0 0 (c_side qr15) rfl mw_self rfl ok_side in_side lk6_111 rfl (Nat.le_of_ble_eq_true rfl) ⟨Nat.le_of_ble_eq_true rfl, Nat.le_of_ble_eq_true rfl⟩ dX6_isTurned_91 rfl rfl ?_
  refine r_icmp_ge C (tgt := 99) dX6_isTurned_94 (by decide) (fun hc => ?_) (fun hc => ?_)
  · replace h := br_p hc h
    refine r_iconst C (v := 0) dX6_isTurned_99 (by decide) ?_
    refine r_istore_n C (lv' := [(2, .int ((0 : Int32))), (0, .ref h0)]) dX6_isTurned_100 rfl (by decide) rfl ?_
    refine r_lv [1, 0] rfl ?_
    obtain ⟨r22, qr22, h⟩ := bd_i h
    refine w_isTurned_L101 C qr22 ?_
    refine r_iconst C (v := 1) dX6_isTurned_155 (by decide) ?_
    obtain rfl := sm_i h
    exact r_zreturn C rfl (Eq.symm hO) dX6_isTurned_156
  · replace h := br_n hc h
    refine r_iconst C (v := 0) dX6_isTurned_97 (by decide) ?_
    obtain rfl := sm_i h
    exact r_zreturn C rfl (Eq.symm hO) dX6_isTurned_98
noncomputable def m_inverse_L24 (n : Int32) (turned : Nat → Int64) (s : (Int32 × (Nat → Int64))) : Option ((Int32 × (Nat → Int64)) ⊕ (Nat → Int64)) := (m_side n).bind fun r4 => (m_side n).bind fun r5 => if (r4 * r5) ≤ s.1 then (some (.inr s.2)) else (if gi s.1 16 then if gi s.1 16 then some (.inl (s.1 + 1, vp_updL s.2 s.1.toNatClampNeg (turned s.1.toNatClampNeg))) else none else none)
noncomputable def m_inverse (n : Int32) (p : Int64) (count : Int32) (sorts : Nat → Int32) (rows : Nat → Int64) (draft : Nat → Int64) (frame : Nat → Int64) (turned : Nat → Int64) (x1 : Int32) : Option (Int32 × Int32 × (Nat → Int32) × (Nat → Int64) × (Nat → Int64) × (Nat → Int64) × (Nat → Int64)) := (m_is count sorts x1 ((3 : Int32))).bind fun r1 => if r1 = 0 then (some ((-2 : Int32), count, sorts, rows, draft, frame, turned)) else ((m_isTurned n p rows frame turned x1).bind fun r2 => (m_clear draft).bind fun r3 => (itX (m_inverse_L24 n r2.2.2) ((0 : Int32), r3)).bind fun r6 => (m_made n p count sorts rows r6 ((3 : Int32))).bind fun r7 => some (r7.1, r7.2.1, r7.2.2.1, r7.2.2.2.1, r7.2.2.2.2, r2.2.1, r2.2.2))
set_option maxHeartbeats 4000000 in
set_option maxRecDepth 100000 in
theorem w_inverse_L24 {K : kT} {O : oT} (C : aC K cX6_inverse RX6 "inverse" 5 91 0 0 3 (some .int) O) {h0 : Nat} {hp : cH} {sz : Nat} {n : Int32} {p : Int64} {count : Int32} {sorts : Nat → Int32} {rows : Nat → Int64} {hand : Nat → Int64} {gathered : Int32} {gather : Nat → Int32} {paired : Int32} {pairA : Nat → Int32} {pairB : Nat → Int32} {ideal : Int32} {frame : Nat → Int64} {one : Nat → Int64} {two : Nat → Int64} {turned : Nat → Int64} {placeI : Int32} {placeJ : Int32} {formA : Int64} {formB : Int64} {formC : Int64}  {v0 : Int32} {v1 : Nat → Int64} {r : (Nat → Int64)} (h : itX (m_inverse_L24 n turned) (v0, v1) = some r) (hr : aW K (mw h0 hp n p count sorts rows hand gathered gather paired pairA pairB ideal r frame one two turned placeI placeJ formA formB formC) sz 0 0 55 [(0, .ref h0)] []) : aW K (mw h0 hp n p count sorts rows hand gathered gather paired pairA pairB ideal v1 frame one two turned placeI placeJ formA formB formC) sz 0 0 24 [(0, .ref h0), (2, .int v0)] [] := by
  refine it_walk (f := m_inverse_L24 n turned) (P := fun s => aW K (mw h0 hp n p count sorts rows hand gathered gather paired pairA pairB ideal s.2 frame one two turned placeI placeJ formA formB formC) sz 0 0 24 [(0, .ref h0), (2, .int s.1)] []) (R := fun r => aW K (mw h0 hp n p count sorts rows hand gathered gather paired pairA pairB ideal r frame one two turned placeI placeJ formA formB formC) sz 0 0 55 [(0, .ref h0)] []) ?_ h hr
  clear h hr
  intro s x h kl kr
  unfold m_inverse_L24 at h
  refine r_iload_n C 1 rfl dX6_inverse_24 rfl ?_
  refine r_aload_n C 0 rfl dX6_inverse_25 rfl ?_
  obtain ⟨r4, qr4, h⟩ := bd_i h
  refine q_callV C 1 0 0 (c_side qr4) rfl mw_self rfl ok_side in_side lk6_111 rfl (Nat.le_of_ble_eq_true rfl) ⟨Nat.le_of_ble_eq_true rfl, Nat.le_of_ble_eq_true rfl⟩ dX6_inverse_26 rfl rfl ?_
  refine r_aload_n C 0 rfl dX6_inverse_29 rfl ?_
  obtain ⟨r5, qr5, h⟩ := bd_i h
  refine q_callV C 2 0 0 (c_side qr5) rfl mw_self rfl ok_side in_side lk6_111 rfl (Nat.le_of_ble_eq_true rfl) ⟨Nat.le_of_ble_eq_true rfl, Nat.le_of_ble_eq_true rfl⟩ dX6_inverse_30 rfl rfl ?_
  refine r_imul C dX6_inverse_33 ?_
  refine r_icmp_ge C (tgt := 55) dX6_inverse_34 (by decide) (fun hc => ?_) (fun hc => ?_)
  · replace h := br_p hc h
    refine r_lv [0] rfl ?_
    exact kr _ (sm_i h)
  · replace h := br_n hc h
    refine r_aload_n C 0 rfl dX6_inverse_37 rfl ?_
    refine m_g_draft C dX6_inverse_38 ?_
    refine r_iload_n C 1 rfl dX6_inverse_41 rfl ?_
    refine r_aload_n C 0 rfl dX6_inverse_42 rfl ?_
    refine m_g_turned C dX6_inverse_43 ?_
    refine r_iload_n C 1 rfl dX6_inverse_46 rfl ?_
    obtain ⟨hi, h⟩ := gd_t h
    refine m_l_turned C hi dX6_inverse_47 ?_
    obtain ⟨hi, h⟩ := gd_t h
    refine m_s_draft C hi dX6_inverse_48 ?_
    refine r_iinc C (v := s.1 + 1) (lv' := [(2, .int (s.1 + 1)), (0, .ref h0)]) 1 rfl dX6_inverse_49 rfl (by decide) rfl ?_
    refine r_goto C (tgt := 24) dX6_inverse_52 (by decide) ?_
    refine r_lv [1, 0] rfl ?_
    exact kl _ (sm_i h)
set_option maxHeartbeats 4000000 in
set_option maxRecDepth 100000 in
theorem c_inverse {G : gT} {h0 : Nat} {hp : cH} {sz : Nat} {n : Int32} {p : Int64} {count : Int32} {sorts : Nat → Int32} {rows : Nat → Int64} {hand : Nat → Int64} {gathered : Int32} {gather : Nat → Int32} {paired : Int32} {pairA : Nat → Int32} {pairB : Nat → Int32} {ideal : Int32} {draft : Nat → Int64} {frame : Nat → Int64} {one : Nat → Int64} {two : Nat → Int64} {turned : Nat → Int64} {placeI : Int32} {placeJ : Int32} {formA : Int64} {formB : Int64} {formC : Int64} {x1 : Int32} {out : (Int32 × Int32 × (Nat → Int32) × (Nat → Int64) × (Nat → Int64) × (Nat → Int64) × (Nat → Int64))} (h : m_inverse n p count sorts rows draft frame turned x1 = some out) : aM G yX6_inverse cX6_inverse 3 (some .int) 5 91 0 0 [.ref h0, .int x1] (mw h0 hp n p count sorts rows hand gathered gather paired pairA pairB ideal draft frame one two turned placeI placeJ formA formB formC) sz ((some (.int out.1), mw h0 hp n p out.2.1 out.2.2.1 out.2.2.2.1 hand gathered gather paired pairA pairB ideal out.2.2.2.2.1 out.2.2.2.2.2.1 one two out.2.2.2.2.2.2 placeI placeJ formA formB formC, sz) : oT) := by
  refine aM.of RX6 (by decide) rfl (Nat.le_of_ble_eq_true rfl) (fun K C => ?_)
  have hO : ((some (.int out.1), mw h0 hp n p out.2.1 out.2.2.1 out.2.2.2.1 hand gathered gather paired pairA pairB ideal out.2.2.2.2.1 out.2.2.2.2.2.1 one two out.2.2.2.2.2.2 placeI placeJ formA formB formC, sz) : oT) = ((some (.int out.1), mw h0 hp n p out.2.1 out.2.2.1 out.2.2.2.1 hand gathered gather paired pairA pairB ideal out.2.2.2.2.1 out.2.2.2.2.2.1 one two out.2.2.2.2.2.2 placeI placeJ formA formB formC, sz) : oT) := rfl
  refine r_lve (lv' := [(0, .ref h0), (1, .int x1)]) rfl ?_
  unfold m_inverse at h
  refine r_aload_n C 0 rfl dX6_inverse_0 rfl ?_
  refine r_iload_n C 1 rfl dX6_inverse_1 rfl ?_
  refine r_iconst C (v := 3) dX6_inverse_2 (by decide) ?_
  obtain ⟨r1, qr1, h⟩ := bd_i h
  refine q_callV C 0 0 0 (c_is qr1) rfl mw_self rfl ok_is in_is lk6_146 rfl (Nat.le_of_ble_eq_true rfl) ⟨Nat.le_of_ble_eq_true rfl, Nat.le_of_ble_eq_true rfl⟩ dX6_inverse_3 rfl rfl ?_
  refine r_if_ne C (tgt := 12) dX6_inverse_6 (by decide) (fun hc => ?_) (fun hc => ?_)
  · replace h := br_n hc h
    refine r_aload_n C 0 rfl dX6_inverse_12 rfl ?_
    refine r_iload_n C 1 rfl dX6_inverse_13 rfl ?_
    obtain ⟨r2, qr2, h⟩ := bd_i h
    refine q_callV C 0 0 0 (c_isTurned qr2) rfl mw_self rfl ok_isTurned in_isTurned lk6_240 rfl (Nat.le_of_ble_eq_true rfl) ⟨Nat.le_of_ble_eq_true rfl, Nat.le_of_ble_eq_true rfl⟩ dX6_inverse_14 rfl rfl ?_
    refine r_pop C dX6_inverse_17 rfl ?_
    refine r_aload_n C 0 rfl dX6_inverse_18 rfl ?_
    obtain ⟨r3, qr3, h⟩ := bd_i h
    refine q_callVv C 0 0 0 (c_clear qr3) rfl mw_self rfl ok_clear in_clear lk6_136 rfl (Nat.le_of_ble_eq_true rfl) ⟨Nat.le_of_ble_eq_true rfl, Nat.le_of_ble_eq_true rfl⟩ dX6_inverse_19 rfl rfl ?_
    refine r_iconst C (v := 0) dX6_inverse_22 (by decide) ?_
    refine r_istore_n C (lv' := [(2, .int ((0 : Int32))), (0, .ref h0), (1, .int x1)]) dX6_inverse_23 rfl (by decide) rfl ?_
    refine r_lv [1, 0] rfl ?_
    obtain ⟨r6, qr6, h⟩ := bd_i h
    refine w_inverse_L24 C qr6 ?_
    refine r_aload_n C 0 rfl dX6_inverse_55 rfl ?_
    refine r_iconst C (v := 3) dX6_inverse_56 (by decide) ?_
    obtain ⟨r7, qr7, h⟩ := bd_i h
    refine q_callV C 0 0 0 (c_made qr7) rfl mw_self rfl ok_made in_made lk6_133 rfl (Nat.le_of_ble_eq_true rfl) ⟨Nat.le_of_ble_eq_true rfl, Nat.le_of_ble_eq_true rfl⟩ dX6_inverse_57 rfl rfl ?_
    obtain rfl := sm_i h
    exact r_ireturn C (Eq.symm hO) dX6_inverse_60
  · replace h := br_p hc h
    refine r_bipush C (v := -2) dX6_inverse_9 (by decide) ?_
    obtain rfl := sm_i h
    exact r_ireturn C (Eq.symm hO) dX6_inverse_11
noncomputable def m_squared_L30 (n : Int32) (p : Int64) (rows : Nat → Int64) (turned : Nat → Int64) (l1 : Int32) (l2 : Int32) (l3 : Int32) (l4 : Int32) (l5 : Int32) (s : (Int64 × Int32)) : Option ((Int64 × Int32) ⊕ Int64) := (m_side n).bind fun r3 => if r3 ≤ s.2 then (some (.inr s.1)) else (if l3 = ((3 : Int32)) then ((m_side n).bind fun r8 => (m_of rows l1 ((l4 * r8) + s.2)).bind fun r9 => (m_side n).bind fun r10 => (m_of rows l2 ((s.2 * r10) + l5)).bind fun r11 => (m_times p r9 r11).bind fun r12 => if p = 0 then none else some (.inl ((s.1 + r12) - (s.1 + r12) / p * p, s.2 + 1))) else ((m_side n).bind fun r4 => if gi ((s.2 * r4) + l4) 16 then (m_side n).bind fun r5 => (m_of rows l2 ((s.2 * r5) + l5)).bind fun r6 => (m_times p (turned ((s.2 * r4) + l4).toNatClampNeg) r6).bind fun r7 => if p = 0 then none else some (.inl ((s.1 + r7) - (s.1 + r7) / p * p, s.2 + 1)) else none))
noncomputable def m_squared_L15 (n : Int32) (p : Int64) (rows : Nat → Int64) (turned : Nat → Int64) (l1 : Int32) (l2 : Int32) (l3 : Int32) (l4 : Int32) (s : (Int32 × (Nat → Int64))) : Option ((Int32 × (Nat → Int64)) ⊕ (Nat → Int64)) := (m_side n).bind fun r2 => if r2 ≤ s.1 then (some (.inr s.2)) else ((itX (m_squared_L30 n p rows turned l1 l2 l3 l4 s.1) ((0 : Int64), (0 : Int32))).bind fun r13 => (m_side n).bind fun r14 => if gi ((l4 * r14) + s.1) 16 then some (.inl (s.1 + 1, vp_updL s.2 ((l4 * r14) + s.1).toNatClampNeg r13)) else none)
noncomputable def m_squared_L3 (n : Int32) (p : Int64) (rows : Nat → Int64) (turned : Nat → Int64) (l1 : Int32) (l2 : Int32) (l3 : Int32) (s : (Int32 × (Nat → Int64))) : Option ((Int32 × (Nat → Int64)) ⊕ (Nat → Int64)) := (m_side n).bind fun r1 => if r1 ≤ s.1 then (some (.inr s.2)) else ((itX (m_squared_L15 n p rows turned l1 l2 l3 s.1) ((0 : Int32), s.2)).bind fun r15 => some (.inl (s.1 + 1, r15)))
noncomputable def m_squared_L176 (n : Int32) (p : Int64) (one : Nat → Int64) (turned : Nat → Int64) (l4 : Int32) (l5 : Int32) (s : (Int32 × (Nat → Int64))) : Option ((Int32 × (Nat → Int64)) ⊕ (Nat → Int64)) := (m_side n).bind fun r20 => if r20 ≤ s.1 then (some (.inr s.2)) else ((m_side n).bind fun r21 => (m_side n).bind fun r22 => if gi ((l4 * r22) + l5) 16 then (m_side n).bind fun r23 => if gi ((l4 * r23) + s.1) 16 then (m_side n).bind fun r24 => if gi ((s.1 * r24) + l5) 16 then (m_times p (one ((l4 * r23) + s.1).toNatClampNeg) (turned ((s.1 * r24) + l5).toNatClampNeg)).bind fun r25 => if p = 0 then none else if gi ((l4 * r21) + l5) 16 then some (.inl (s.1 + 1, vp_updL s.2 ((l4 * r21) + l5).toNatClampNeg (((s.2 ((l4 * r22) + l5).toNatClampNeg) + r25) - ((s.2 ((l4 * r22) + l5).toNatClampNeg) + r25) / p * p))) else none else none else none else none)
noncomputable def m_squared_L164 (n : Int32) (p : Int64) (one : Nat → Int64) (turned : Nat → Int64) (l4 : Int32) (s : (Int32 × (Nat → Int64))) : Option ((Int32 × (Nat → Int64)) ⊕ (Nat → Int64)) := (m_side n).bind fun r19 => if r19 ≤ s.1 then (some (.inr s.2)) else ((itX (m_squared_L176 n p one turned l4 s.1) ((0 : Int32), s.2)).bind fun r26 => some (.inl (s.1 + 1, r26)))
noncomputable def m_squared_L152 (n : Int32) (p : Int64) (one : Nat → Int64) (turned : Nat → Int64) (s : (Int32 × (Nat → Int64))) : Option ((Int32 × (Nat → Int64)) ⊕ (Nat → Int64)) := (m_side n).bind fun r18 => if r18 ≤ s.1 then (some (.inr s.2)) else ((itX (m_squared_L164 n p one turned s.1) ((0 : Int32), s.2)).bind fun r27 => some (.inl (s.1 + 1, r27)))
noncomputable def m_squared (n : Int32) (p : Int64) (rows : Nat → Int64) (draft : Nat → Int64) (one : Nat → Int64) (turned : Nat → Int64) (x1 : Int32) (x2 : Int32) (x3 : Int32) : Option ((Nat → Int64) × (Nat → Int64)) := (itX (m_squared_L3 n p rows turned x1 x2 x3) ((0 : Int32), one)).bind fun r16 => (m_clear draft).bind fun r17 => (itX (m_squared_L152 n p r16 turned) ((0 : Int32), r17)).bind fun r28 => some (r28, r16)
set_option maxHeartbeats 4000000 in
set_option maxRecDepth 100000 in
theorem w_squared_L30 {K : kT} {O : oT} (C : aC K cX6_squared RX6 "squared" 1 21 0 0 11 none O) {h0 : Nat} {hp : cH} {sz : Nat} {n : Int32} {p : Int64} {count : Int32} {sorts : Nat → Int32} {rows : Nat → Int64} {hand : Nat → Int64} {gathered : Int32} {gather : Nat → Int32} {paired : Int32} {pairA : Nat → Int32} {pairB : Nat → Int32} {ideal : Int32} {draft : Nat → Int64} {frame : Nat → Int64} {one : Nat → Int64} {two : Nat → Int64} {turned : Nat → Int64} {placeI : Int32} {placeJ : Int32} {formA : Int64} {formB : Int64} {formC : Int64} {l1 : Int32} {l2 : Int32} {l3 : Int32} {l4 : Int32} {l5 : Int32} {v0 : Int64} {v1 : Int32} {r : Int64} (h : itX (m_squared_L30 n p rows turned l1 l2 l3 l4 l5) (v0, v1) = some r) (hr : aW K (mw h0 hp n p count sorts rows hand gathered gather paired pairA pairB ideal draft frame one two turned placeI placeJ formA formB formC) sz 0 0 116 [(0, .ref h0), (1, .int l1), (2, .int l2), (3, .int l3), (4, .int l4), (5, .int l5), (6, .long r)] []) : aW K (mw h0 hp n p count sorts rows hand gathered gather paired pairA pairB ideal draft frame one two turned placeI placeJ formA formB formC) sz 0 0 30 [(0, .ref h0), (1, .int l1), (2, .int l2), (3, .int l3), (4, .int l4), (5, .int l5), (6, .long v0), (8, .int v1)] [] := by
  refine it_walk (f := m_squared_L30 n p rows turned l1 l2 l3 l4 l5) (P := fun s => aW K (mw h0 hp n p count sorts rows hand gathered gather paired pairA pairB ideal draft frame one two turned placeI placeJ formA formB formC) sz 0 0 30 [(0, .ref h0), (1, .int l1), (2, .int l2), (3, .int l3), (4, .int l4), (5, .int l5), (6, .long s.1), (8, .int s.2)] []) (R := fun r => aW K (mw h0 hp n p count sorts rows hand gathered gather paired pairA pairB ideal draft frame one two turned placeI placeJ formA formB formC) sz 0 0 116 [(0, .ref h0), (1, .int l1), (2, .int l2), (3, .int l3), (4, .int l4), (5, .int l5), (6, .long r)] []) ?_ h hr
  clear h hr
  intro s x h kl kr
  unfold m_squared_L30 at h
  refine r_iload C 7 rfl dX6_squared_30 ?_
  refine r_aload_n C 0 rfl dX6_squared_32 rfl ?_
  obtain ⟨r3, qr3, h⟩ := bd_i h
  refine q_callV C 1 0 0 (c_side qr3) rfl mw_self rfl ok_side in_side lk6_111 rfl (Nat.le_of_ble_eq_true rfl) ⟨Nat.le_of_ble_eq_true rfl, Nat.le_of_ble_eq_true rfl⟩ dX6_squared_33 rfl rfl ?_
  refine r_icmp_ge C (tgt := 116) dX6_squared_36 (by decide) (fun hc => ?_) (fun hc => ?_)
  · replace h := br_p hc h
    refine r_lv [0, 1, 2, 3, 4, 5, 6] rfl ?_
    exact kr _ (sm_i h)
  · replace h := br_n hc h
    refine r_iload_n C 3 rfl dX6_squared_39 rfl ?_
    refine r_iconst C (v := 3) dX6_squared_40 (by decide) ?_
    refine r_icmp_ne C (tgt := 62) dX6_squared_41 (by decide) (fun hc => ?_) (fun hc => ?_)
    · replace h := br_n hc h
      refine r_aload_n C 0 rfl dX6_squared_62 rfl ?_
      refine m_g_turned C dX6_squared_63 ?_
      refine r_iload C 7 rfl dX6_squared_66 ?_
      refine r_aload_n C 0 rfl dX6_squared_68 rfl ?_
      obtain ⟨r4, qr4, h⟩ := bd_i h
      refine q_callV C 2 0 0 (c_side qr4) rfl mw_self rfl ok_side in_side lk6_111 rfl (Nat.le_of_ble_eq_true rfl) ⟨Nat.le_of_ble_eq_true rfl, Nat.le_of_ble_eq_true rfl⟩ dX6_squared_69 rfl rfl ?_
      refine r_imul C dX6_squared_72 ?_
      refine r_iload C 4 rfl dX6_squared_73 ?_
      refine r_iadd C dX6_squared_75 ?_
      obtain ⟨hi, h⟩ := gd_t h
      refine m_l_turned C hi dX6_squared_76 ?_
      refine r_lstore C (lv' := [(9, .long (turned ((s.2 * r4) + l4).toNatClampNeg)), (0, .ref h0), (1, .int l1), (2, .int l2), (3, .int l3), (4, .int l4), (5, .int l5), (6, .long s.1), (8, .int s.2)]) dX6_squared_77 (by decide) rfl ?_
      refine r_lload C 7 rfl dX6_squared_79 ?_
      refine r_aload_n C 1 rfl dX6_squared_81 rfl ?_
      refine r_lload C 0 rfl dX6_squared_82 ?_
      refine r_aload_n C 1 rfl dX6_squared_84 rfl ?_
      refine r_iload_n C 3 rfl dX6_squared_85 rfl ?_
      refine r_iload C 8 rfl dX6_squared_86 ?_
      refine r_aload_n C 1 rfl dX6_squared_88 rfl ?_
      obtain ⟨r5, qr5, h⟩ := bd_i h
      refine q_callV C 8 0 0 (c_side qr5) rfl mw_self rfl ok_side in_side lk6_111 rfl (Nat.le_of_ble_eq_true rfl) ⟨Nat.le_of_ble_eq_true rfl, Nat.le_of_ble_eq_true rfl⟩ dX6_squared_89 rfl rfl ?_
      refine r_imul C dX6_squared_92 ?_
      refine r_iload C 6 rfl dX6_squared_93 ?_
      refine r_iadd C dX6_squared_95 ?_
      obtain ⟨r6, qr6, h⟩ := bd_i h
      refine q_callV C 5 0 0 (c_of qr6) rfl mw_self rfl ok_of in_of lk6_108 rfl (Nat.le_of_ble_eq_true rfl) ⟨Nat.le_of_ble_eq_true rfl, Nat.le_of_ble_eq_true rfl⟩ dX6_squared_96 rfl rfl ?_
      obtain ⟨r7, qr7, h⟩ := bd_i h
      refine q_callV C 2 0 0 (c_times qr7) rfl mw_self rfl ok_times in_times lk6_76 rfl (Nat.le_of_ble_eq_true rfl) ⟨Nat.le_of_ble_eq_true rfl, Nat.le_of_ble_eq_true rfl⟩ dX6_squared_99 rfl rfl ?_
      refine r_ladd C dX6_squared_102 ?_
      refine r_aload_n C 1 rfl dX6_squared_103 rfl ?_
      refine m_g_p C dX6_squared_104 ?_
      obtain ⟨hne, h⟩ := gd_n h
      refine r_lrem C dX6_squared_107 hne ?_
      refine r_lstore C (lv' := [(6, .long ((s.1 + r7) - (s.1 + r7) / p * p)), (9, .long (turned ((s.2 * r4) + l4).toNatClampNeg)), (0, .ref h0), (1, .int l1), (2, .int l2), (3, .int l3), (4, .int l4), (5, .int l5), (8, .int s.2)]) dX6_squared_108 (by decide) rfl ?_
      refine r_iinc C (v := s.2 + 1) (lv' := [(8, .int (s.2 + 1)), (6, .long ((s.1 + r7) - (s.1 + r7) / p * p)), (9, .long (turned ((s.2 * r4) + l4).toNatClampNeg)), (0, .ref h0), (1, .int l1), (2, .int l2), (3, .int l3), (4, .int l4), (5, .int l5)]) 8 rfl dX6_squared_110 rfl (by decide) rfl ?_
      refine r_goto C (tgt := 30) dX6_squared_113 (by decide) ?_
      refine r_lv [3, 4, 5, 6, 7, 8, 1, 0] rfl ?_
      exact kl _ (sm_i h)
    · replace h := br_p hc h
      refine r_aload_n C 0 rfl dX6_squared_44 rfl ?_
      refine r_iload_n C 1 rfl dX6_squared_45 rfl ?_
      refine r_iload C 4 rfl dX6_squared_46 ?_
      refine r_aload_n C 0 rfl dX6_squared_48 rfl ?_
      obtain ⟨r8, qr8, h⟩ := bd_i h
      refine q_callV C 3 0 0 (c_side qr8) rfl mw_self rfl ok_side in_side lk6_111 rfl (Nat.le_of_ble_eq_true rfl) ⟨Nat.le_of_ble_eq_true rfl, Nat.le_of_ble_eq_true rfl⟩ dX6_squared_49 rfl rfl ?_
      refine r_imul C dX6_squared_52 ?_
      refine r_iload C 7 rfl dX6_squared_53 ?_
      refine r_iadd C dX6_squared_55 ?_
      obtain ⟨r9, qr9, h⟩ := bd_i h
      refine q_callV C 0 0 0 (c_of qr9) rfl mw_self rfl ok_of in_of lk6_108 rfl (Nat.le_of_ble_eq_true rfl) ⟨Nat.le_of_ble_eq_true rfl, Nat.le_of_ble_eq_true rfl⟩ dX6_squared_56 rfl rfl ?_
      refine r_goto C (tgt := 77) dX6_squared_59 (by decide) ?_
      refine r_lstore C (lv' := [(9, .long r9), (0, .ref h0), (1, .int l1), (2, .int l2), (3, .int l3), (4, .int l4), (5, .int l5), (6, .long s.1), (8, .int s.2)]) dX6_squared_77 (by decide) rfl ?_
      refine r_lload C 7 rfl dX6_squared_79 ?_
      refine r_aload_n C 1 rfl dX6_squared_81 rfl ?_
      refine r_lload C 0 rfl dX6_squared_82 ?_
      refine r_aload_n C 1 rfl dX6_squared_84 rfl ?_
      refine r_iload_n C 3 rfl dX6_squared_85 rfl ?_
      refine r_iload C 8 rfl dX6_squared_86 ?_
      refine r_aload_n C 1 rfl dX6_squared_88 rfl ?_
      obtain ⟨r10, qr10, h⟩ := bd_i h
      refine q_callV C 8 0 0 (c_side qr10) rfl mw_self rfl ok_side in_side lk6_111 rfl (Nat.le_of_ble_eq_true rfl) ⟨Nat.le_of_ble_eq_true rfl, Nat.le_of_ble_eq_true rfl⟩ dX6_squared_89 rfl rfl ?_
      refine r_imul C dX6_squared_92 ?_
      refine r_iload C 6 rfl dX6_squared_93 ?_
      refine r_iadd C dX6_squared_95 ?_
      obtain ⟨r11, qr11, h⟩ := bd_i h
      refine q_callV C 5 0 0 (c_of qr11) rfl mw_self rfl ok_of in_of lk6_108 rfl (Nat.le_of_ble_eq_true rfl) ⟨Nat.le_of_ble_eq_true rfl, Nat.le_of_ble_eq_true rfl⟩ dX6_squared_96 rfl rfl ?_
      obtain ⟨r12, qr12, h⟩ := bd_i h
      refine q_callV C 2 0 0 (c_times qr12) rfl mw_self rfl ok_times in_times lk6_76 rfl (Nat.le_of_ble_eq_true rfl) ⟨Nat.le_of_ble_eq_true rfl, Nat.le_of_ble_eq_true rfl⟩ dX6_squared_99 rfl rfl ?_
      refine r_ladd C dX6_squared_102 ?_
      refine r_aload_n C 1 rfl dX6_squared_103 rfl ?_
      refine m_g_p C dX6_squared_104 ?_
      obtain ⟨hne, h⟩ := gd_n h
      refine r_lrem C dX6_squared_107 hne ?_
      refine r_lstore C (lv' := [(6, .long ((s.1 + r12) - (s.1 + r12) / p * p)), (9, .long r9), (0, .ref h0), (1, .int l1), (2, .int l2), (3, .int l3), (4, .int l4), (5, .int l5), (8, .int s.2)]) dX6_squared_108 (by decide) rfl ?_
      refine r_iinc C (v := s.2 + 1) (lv' := [(8, .int (s.2 + 1)), (6, .long ((s.1 + r12) - (s.1 + r12) / p * p)), (9, .long r9), (0, .ref h0), (1, .int l1), (2, .int l2), (3, .int l3), (4, .int l4), (5, .int l5)]) 8 rfl dX6_squared_110 rfl (by decide) rfl ?_
      refine r_goto C (tgt := 30) dX6_squared_113 (by decide) ?_
      refine r_lv [3, 4, 5, 6, 7, 8, 1, 0] rfl ?_
      exact kl _ (sm_i h)
set_option maxHeartbeats 4000000 in
set_option maxRecDepth 100000 in
theorem w_squared_L15 {K : kT} {O : oT} (C : aC K cX6_squared RX6 "squared" 1 21 0 0 11 none O) {h0 : Nat} {hp : cH} {sz : Nat} {n : Int32} {p : Int64} {count : Int32} {sorts : Nat → Int32} {rows : Nat → Int64} {hand : Nat → Int64} {gathered : Int32} {gather : Nat → Int32} {paired : Int32} {pairA : Nat → Int32} {pairB : Nat → Int32} {ideal : Int32} {draft : Nat → Int64} {frame : Nat → Int64} {two : Nat → Int64} {turned : Nat → Int64} {placeI : Int32} {placeJ : Int32} {formA : Int64} {formB : Int64} {formC : Int64} {l1 : Int32} {l2 : Int32} {l3 : Int32} {l4 : Int32} {v0 : Int32} {v1 : Nat → Int64} {r : (Nat → Int64)} (h : itX (m_squared_L15 n p rows turned l1 l2 l3 l4) (v0, v1) = some r) (hr : aW K (mw h0 hp n p count sorts rows hand gathered gather paired pairA pairB ideal draft frame r two turned placeI placeJ formA formB formC) sz 0 0 139 [(0, .ref h0), (1, .int l1), (2, .int l2), (3, .int l3), (4, .int l4)] []) : aW K (mw h0 hp n p count sorts rows hand gathered gather paired pairA pairB ideal draft frame v1 two turned placeI placeJ formA formB formC) sz 0 0 15 [(0, .ref h0), (1, .int l1), (2, .int l2), (3, .int l3), (4, .int l4), (5, .int v0)] [] := by
  refine it_walk (f := m_squared_L15 n p rows turned l1 l2 l3 l4) (P := fun s => aW K (mw h0 hp n p count sorts rows hand gathered gather paired pairA pairB ideal draft frame s.2 two turned placeI placeJ formA formB formC) sz 0 0 15 [(0, .ref h0), (1, .int l1), (2, .int l2), (3, .int l3), (4, .int l4), (5, .int s.1)] []) (R := fun r => aW K (mw h0 hp n p count sorts rows hand gathered gather paired pairA pairB ideal draft frame r two turned placeI placeJ formA formB formC) sz 0 0 139 [(0, .ref h0), (1, .int l1), (2, .int l2), (3, .int l3), (4, .int l4)] []) ?_ h hr
  clear h hr
  intro s x h kl kr
  unfold m_squared_L15 at h
  refine r_iload C 5 rfl dX6_squared_15 ?_
  refine r_aload_n C 0 rfl dX6_squared_17 rfl ?_
  obtain ⟨r2, qr2, h⟩ := bd_i h
  refine q_callV C 1 0 0 (c_side qr2) rfl mw_self rfl ok_side in_side lk6_111 rfl (Nat.le_of_ble_eq_true rfl) ⟨Nat.le_of_ble_eq_true rfl, Nat.le_of_ble_eq_true rfl⟩ dX6_squared_18 rfl rfl ?_
  refine r_icmp_ge C (tgt := 139) dX6_squared_21 (by decide) (fun hc => ?_) (fun hc => ?_)
  · replace h := br_p hc h
    refine r_lv [0, 1, 2, 3, 4] rfl ?_
    exact kr _ (sm_i h)
  · replace h := br_n hc h
    refine r_lconst C (v := 0) dX6_squared_24 (by decide) ?_
    refine r_lstore C (lv' := [(6, .long ((0 : Int64))), (0, .ref h0), (1, .int l1), (2, .int l2), (3, .int l3), (4, .int l4), (5, .int s.1)]) dX6_squared_25 (by decide) rfl ?_
    refine r_iconst C (v := 0) dX6_squared_27 (by decide) ?_
    refine r_istore C (lv' := [(8, .int ((0 : Int32))), (6, .long ((0 : Int64))), (0, .ref h0), (1, .int l1), (2, .int l2), (3, .int l3), (4, .int l4), (5, .int s.1)]) dX6_squared_28 (by decide) rfl ?_
    refine r_lv [2, 3, 4, 5, 6, 7, 1, 0] rfl ?_
    obtain ⟨r13, qr13, h⟩ := bd_i h
    refine w_squared_L30 C qr13 ?_
    refine r_aload_n C 0 rfl dX6_squared_116 rfl ?_
    refine m_g_one C dX6_squared_117 ?_
    refine r_iload C 4 rfl dX6_squared_120 ?_
    refine r_aload_n C 0 rfl dX6_squared_122 rfl ?_
    obtain ⟨r14, qr14, h⟩ := bd_i h
    refine q_callV C 2 0 0 (c_side qr14) rfl mw_self rfl ok_side in_side lk6_111 rfl (Nat.le_of_ble_eq_true rfl) ⟨Nat.le_of_ble_eq_true rfl, Nat.le_of_ble_eq_true rfl⟩ dX6_squared_123 rfl rfl ?_
    refine r_imul C dX6_squared_126 ?_
    refine r_iload C 5 rfl dX6_squared_127 ?_
    refine r_iadd C dX6_squared_129 ?_
    refine r_lload C 6 rfl dX6_squared_130 ?_
    obtain ⟨hi, h⟩ := gd_t h
    refine m_s_one C hi dX6_squared_132 ?_
    refine r_iinc C (v := s.1 + 1) (lv' := [(5, .int (s.1 + 1)), (0, .ref h0), (1, .int l1), (2, .int l2), (3, .int l3), (4, .int l4), (6, .long r13)]) 5 rfl dX6_squared_133 rfl (by decide) rfl ?_
    refine r_goto C (tgt := 15) dX6_squared_136 (by decide) ?_
    refine r_lv [1, 2, 3, 4, 5, 0] rfl ?_
    exact kl _ (sm_i h)
set_option maxHeartbeats 4000000 in
set_option maxRecDepth 100000 in
theorem w_squared_L3 {K : kT} {O : oT} (C : aC K cX6_squared RX6 "squared" 1 21 0 0 11 none O) {h0 : Nat} {hp : cH} {sz : Nat} {n : Int32} {p : Int64} {count : Int32} {sorts : Nat → Int32} {rows : Nat → Int64} {hand : Nat → Int64} {gathered : Int32} {gather : Nat → Int32} {paired : Int32} {pairA : Nat → Int32} {pairB : Nat → Int32} {ideal : Int32} {draft : Nat → Int64} {frame : Nat → Int64} {two : Nat → Int64} {turned : Nat → Int64} {placeI : Int32} {placeJ : Int32} {formA : Int64} {formB : Int64} {formC : Int64} {l1 : Int32} {l2 : Int32} {l3 : Int32} {v0 : Int32} {v1 : Nat → Int64} {r : (Nat → Int64)} (h : itX (m_squared_L3 n p rows turned l1 l2 l3) (v0, v1) = some r) (hr : aW K (mw h0 hp n p count sorts rows hand gathered gather paired pairA pairB ideal draft frame r two turned placeI placeJ formA formB formC) sz 0 0 145 [(0, .ref h0)] []) : aW K (mw h0 hp n p count sorts rows hand gathered gather paired pairA pairB ideal draft frame v1 two turned placeI placeJ formA formB formC) sz 0 0 3 [(0, .ref h0), (1, .int l1), (2, .int l2), (3, .int l3), (4, .int v0)] [] := by
  refine it_walk (f := m_squared_L3 n p rows turned l1 l2 l3) (P := fun s => aW K (mw h0 hp n p count sorts rows hand gathered gather paired pairA pairB ideal draft frame s.2 two turned placeI placeJ formA formB formC) sz 0 0 3 [(0, .ref h0), (1, .int l1), (2, .int l2), (3, .int l3), (4, .int s.1)] []) (R := fun r => aW K (mw h0 hp n p count sorts rows hand gathered gather paired pairA pairB ideal draft frame r two turned placeI placeJ formA formB formC) sz 0 0 145 [(0, .ref h0)] []) ?_ h hr
  clear h hr
  intro s x h kl kr
  unfold m_squared_L3 at h
  refine r_iload C 4 rfl dX6_squared_3 ?_
  refine r_aload_n C 0 rfl dX6_squared_5 rfl ?_
  obtain ⟨r1, qr1, h⟩ := bd_i h
  refine q_callV C 1 0 0 (c_side qr1) rfl mw_self rfl ok_side in_side lk6_111 rfl (Nat.le_of_ble_eq_true rfl) ⟨Nat.le_of_ble_eq_true rfl, Nat.le_of_ble_eq_true rfl⟩ dX6_squared_6 rfl rfl ?_
  refine r_icmp_ge C (tgt := 145) dX6_squared_9 (by decide) (fun hc => ?_) (fun hc => ?_)
  · replace h := br_p hc h
    refine r_lv [0] rfl ?_
    exact kr _ (sm_i h)
  · replace h := br_n hc h
    refine r_iconst C (v := 0) dX6_squared_12 (by decide) ?_
    refine r_istore C (lv' := [(5, .int ((0 : Int32))), (0, .ref h0), (1, .int l1), (2, .int l2), (3, .int l3), (4, .int s.1)]) dX6_squared_13 (by decide) rfl ?_
    refine r_lv [1, 2, 3, 4, 5, 0] rfl ?_
    obtain ⟨r15, qr15, h⟩ := bd_i h
    refine w_squared_L15 C qr15 ?_
    refine r_iinc C (v := s.1 + 1) (lv' := [(4, .int (s.1 + 1)), (0, .ref h0), (1, .int l1), (2, .int l2), (3, .int l3)]) 4 rfl dX6_squared_139 rfl (by decide) rfl ?_
    refine r_goto C (tgt := 3) dX6_squared_142 (by decide) ?_
    refine r_lv [1, 2, 3, 4, 0] rfl ?_
    exact kl _ (sm_i h)
set_option maxHeartbeats 4000000 in
set_option maxRecDepth 100000 in
theorem w_squared_L176 {K : kT} {O : oT} (C : aC K cX6_squared RX6 "squared" 1 21 0 0 11 none O) {h0 : Nat} {hp : cH} {sz : Nat} {n : Int32} {p : Int64} {count : Int32} {sorts : Nat → Int32} {rows : Nat → Int64} {hand : Nat → Int64} {gathered : Int32} {gather : Nat → Int32} {paired : Int32} {pairA : Nat → Int32} {pairB : Nat → Int32} {ideal : Int32} {frame : Nat → Int64} {one : Nat → Int64} {two : Nat → Int64} {turned : Nat → Int64} {placeI : Int32} {placeJ : Int32} {formA : Int64} {formB : Int64} {formC : Int64} {l4 : Int32} {l5 : Int32} {v0 : Int32} {v1 : Nat → Int64} {r : (Nat → Int64)} (h : itX (m_squared_L176 n p one turned l4 l5) (v0, v1) = some r) (hr : aW K (mw h0 hp n p count sorts rows hand gathered gather paired pairA pairB ideal r frame one two turned placeI placeJ formA formB formC) sz 0 0 261 [(0, .ref h0), (4, .int l4), (5, .int l5)] []) : aW K (mw h0 hp n p count sorts rows hand gathered gather paired pairA pairB ideal v1 frame one two turned placeI placeJ formA formB formC) sz 0 0 176 [(0, .ref h0), (4, .int l4), (5, .int l5), (6, .int v0)] [] := by
  refine it_walk (f := m_squared_L176 n p one turned l4 l5) (P := fun s => aW K (mw h0 hp n p count sorts rows hand gathered gather paired pairA pairB ideal s.2 frame one two turned placeI placeJ formA formB formC) sz 0 0 176 [(0, .ref h0), (4, .int l4), (5, .int l5), (6, .int s.1)] []) (R := fun r => aW K (mw h0 hp n p count sorts rows hand gathered gather paired pairA pairB ideal r frame one two turned placeI placeJ formA formB formC) sz 0 0 261 [(0, .ref h0), (4, .int l4), (5, .int l5)] []) ?_ h hr
  clear h hr
  intro s x h kl kr
  unfold m_squared_L176 at h
  refine r_iload C 3 rfl dX6_squared_176 ?_
  refine r_aload_n C 0 rfl dX6_squared_178 rfl ?_
  obtain ⟨r20, qr20, h⟩ := bd_i h
  refine q_callV C 1 0 0 (c_side qr20) rfl mw_self rfl ok_side in_side lk6_111 rfl (Nat.le_of_ble_eq_true rfl) ⟨Nat.le_of_ble_eq_true rfl, Nat.le_of_ble_eq_true rfl⟩ dX6_squared_179 rfl rfl ?_
  refine r_icmp_ge C (tgt := 261) dX6_squared_182 (by decide) (fun hc => ?_) (fun hc => ?_)
  · replace h := br_p hc h
    refine r_lv [0, 1, 2] rfl ?_
    exact kr _ (sm_i h)
  · replace h := br_n hc h
    refine r_aload_n C 0 rfl dX6_squared_185 rfl ?_
    refine m_g_draft C dX6_squared_186 ?_
    refine r_iload C 1 rfl dX6_squared_189 ?_
    refine r_aload_n C 0 rfl dX6_squared_191 rfl ?_
    obtain ⟨r21, qr21, h⟩ := bd_i h
    refine q_callV C 2 0 0 (c_side qr21) rfl mw_self rfl ok_side in_side lk6_111 rfl (Nat.le_of_ble_eq_true rfl) ⟨Nat.le_of_ble_eq_true rfl, Nat.le_of_ble_eq_true rfl⟩ dX6_squared_192 rfl rfl ?_
    refine r_imul C dX6_squared_195 ?_
    refine r_iload C 2 rfl dX6_squared_196 ?_
    refine r_iadd C dX6_squared_198 ?_
    refine r_aload_n C 0 rfl dX6_squared_199 rfl ?_
    refine m_g_draft C dX6_squared_200 ?_
    refine r_iload C 1 rfl dX6_squared_203 ?_
    refine r_aload_n C 0 rfl dX6_squared_205 rfl ?_
    obtain ⟨r22, qr22, h⟩ := bd_i h
    refine q_callV C 4 0 0 (c_side qr22) rfl mw_self rfl ok_side in_side lk6_111 rfl (Nat.le_of_ble_eq_true rfl) ⟨Nat.le_of_ble_eq_true rfl, Nat.le_of_ble_eq_true rfl⟩ dX6_squared_206 rfl rfl ?_
    refine r_imul C dX6_squared_209 ?_
    refine r_iload C 2 rfl dX6_squared_210 ?_
    refine r_iadd C dX6_squared_212 ?_
    obtain ⟨hi, h⟩ := gd_t h
    refine m_l_draft C hi dX6_squared_213 ?_
    refine r_aload_n C 0 rfl dX6_squared_214 rfl ?_
    refine r_aload_n C 0 rfl dX6_squared_215 rfl ?_
    refine m_g_one C dX6_squared_216 ?_
    refine r_iload C 1 rfl dX6_squared_219 ?_
    refine r_aload_n C 0 rfl dX6_squared_221 rfl ?_
    obtain ⟨r23, qr23, h⟩ := bd_i h
    refine q_callV C 7 0 0 (c_side qr23) rfl mw_self rfl ok_side in_side lk6_111 rfl (Nat.le_of_ble_eq_true rfl) ⟨Nat.le_of_ble_eq_true rfl, Nat.le_of_ble_eq_true rfl⟩ dX6_squared_222 rfl rfl ?_
    refine r_imul C dX6_squared_225 ?_
    refine r_iload C 3 rfl dX6_squared_226 ?_
    refine r_iadd C dX6_squared_228 ?_
    obtain ⟨hi, h⟩ := gd_t h
    refine m_l_one C hi dX6_squared_229 ?_
    refine r_aload_n C 0 rfl dX6_squared_230 rfl ?_
    refine m_g_turned C dX6_squared_231 ?_
    refine r_iload C 3 rfl dX6_squared_234 ?_
    refine r_aload_n C 0 rfl dX6_squared_236 rfl ?_
    obtain ⟨r24, qr24, h⟩ := bd_i h
    refine q_callV C 9 0 0 (c_side qr24) rfl mw_self rfl ok_side in_side lk6_111 rfl (Nat.le_of_ble_eq_true rfl) ⟨Nat.le_of_ble_eq_true rfl, Nat.le_of_ble_eq_true rfl⟩ dX6_squared_237 rfl rfl ?_
    refine r_imul C dX6_squared_240 ?_
    refine r_iload C 2 rfl dX6_squared_241 ?_
    refine r_iadd C dX6_squared_243 ?_
    obtain ⟨hi, h⟩ := gd_t h
    refine m_l_turned C hi dX6_squared_244 ?_
    obtain ⟨r25, qr25, h⟩ := bd_i h
    refine q_callV C 4 0 0 (c_times qr25) rfl mw_self rfl ok_times in_times lk6_76 rfl (Nat.le_of_ble_eq_true rfl) ⟨Nat.le_of_ble_eq_true rfl, Nat.le_of_ble_eq_true rfl⟩ dX6_squared_245 rfl rfl ?_
    refine r_ladd C dX6_squared_248 ?_
    refine r_aload_n C 0 rfl dX6_squared_249 rfl ?_
    refine m_g_p C dX6_squared_250 ?_
    obtain ⟨hne, h⟩ := gd_n h
    refine r_lrem C dX6_squared_253 hne ?_
    obtain ⟨hi, h⟩ := gd_t h
    refine m_s_draft C hi dX6_squared_254 ?_
    refine r_iinc C (v := s.1 + 1) (lv' := [(6, .int (s.1 + 1)), (0, .ref h0), (4, .int l4), (5, .int l5)]) 3 rfl dX6_squared_255 rfl (by decide) rfl ?_
    refine r_goto C (tgt := 176) dX6_squared_258 (by decide) ?_
    refine r_lv [1, 2, 3, 0] rfl ?_
    exact kl _ (sm_i h)
set_option maxHeartbeats 4000000 in
set_option maxRecDepth 100000 in
theorem w_squared_L164 {K : kT} {O : oT} (C : aC K cX6_squared RX6 "squared" 1 21 0 0 11 none O) {h0 : Nat} {hp : cH} {sz : Nat} {n : Int32} {p : Int64} {count : Int32} {sorts : Nat → Int32} {rows : Nat → Int64} {hand : Nat → Int64} {gathered : Int32} {gather : Nat → Int32} {paired : Int32} {pairA : Nat → Int32} {pairB : Nat → Int32} {ideal : Int32} {frame : Nat → Int64} {one : Nat → Int64} {two : Nat → Int64} {turned : Nat → Int64} {placeI : Int32} {placeJ : Int32} {formA : Int64} {formB : Int64} {formC : Int64} {l4 : Int32} {v0 : Int32} {v1 : Nat → Int64} {r : (Nat → Int64)} (h : itX (m_squared_L164 n p one turned l4) (v0, v1) = some r) (hr : aW K (mw h0 hp n p count sorts rows hand gathered gather paired pairA pairB ideal r frame one two turned placeI placeJ formA formB formC) sz 0 0 267 [(0, .ref h0), (4, .int l4)] []) : aW K (mw h0 hp n p count sorts rows hand gathered gather paired pairA pairB ideal v1 frame one two turned placeI placeJ formA formB formC) sz 0 0 164 [(0, .ref h0), (4, .int l4), (5, .int v0)] [] := by
  refine it_walk (f := m_squared_L164 n p one turned l4) (P := fun s => aW K (mw h0 hp n p count sorts rows hand gathered gather paired pairA pairB ideal s.2 frame one two turned placeI placeJ formA formB formC) sz 0 0 164 [(0, .ref h0), (4, .int l4), (5, .int s.1)] []) (R := fun r => aW K (mw h0 hp n p count sorts rows hand gathered gather paired pairA pairB ideal r frame one two turned placeI placeJ formA formB formC) sz 0 0 267 [(0, .ref h0), (4, .int l4)] []) ?_ h hr
  clear h hr
  intro s x h kl kr
  unfold m_squared_L164 at h
  refine r_iload C 2 rfl dX6_squared_164 ?_
  refine r_aload_n C 0 rfl dX6_squared_166 rfl ?_
  obtain ⟨r19, qr19, h⟩ := bd_i h
  refine q_callV C 1 0 0 (c_side qr19) rfl mw_self rfl ok_side in_side lk6_111 rfl (Nat.le_of_ble_eq_true rfl) ⟨Nat.le_of_ble_eq_true rfl, Nat.le_of_ble_eq_true rfl⟩ dX6_squared_167 rfl rfl ?_
  refine r_icmp_ge C (tgt := 267) dX6_squared_170 (by decide) (fun hc => ?_) (fun hc => ?_)
  · replace h := br_p hc h
    refine r_lv [0, 1] rfl ?_
    exact kr _ (sm_i h)
  · replace h := br_n hc h
    refine r_iconst C (v := 0) dX6_squared_173 (by decide) ?_
    refine r_istore C (lv' := [(6, .int ((0 : Int32))), (0, .ref h0), (4, .int l4), (5, .int s.1)]) dX6_squared_174 (by decide) rfl ?_
    refine r_lv [1, 2, 3, 0] rfl ?_
    obtain ⟨r26, qr26, h⟩ := bd_i h
    refine w_squared_L176 C qr26 ?_
    refine r_iinc C (v := s.1 + 1) (lv' := [(5, .int (s.1 + 1)), (0, .ref h0), (4, .int l4)]) 2 rfl dX6_squared_261 rfl (by decide) rfl ?_
    refine r_goto C (tgt := 164) dX6_squared_264 (by decide) ?_
    refine r_lv [1, 2, 0] rfl ?_
    exact kl _ (sm_i h)
set_option maxHeartbeats 4000000 in
set_option maxRecDepth 100000 in
theorem w_squared_L152 {K : kT} {O : oT} (C : aC K cX6_squared RX6 "squared" 1 21 0 0 11 none O) {h0 : Nat} {hp : cH} {sz : Nat} {n : Int32} {p : Int64} {count : Int32} {sorts : Nat → Int32} {rows : Nat → Int64} {hand : Nat → Int64} {gathered : Int32} {gather : Nat → Int32} {paired : Int32} {pairA : Nat → Int32} {pairB : Nat → Int32} {ideal : Int32} {frame : Nat → Int64} {one : Nat → Int64} {two : Nat → Int64} {turned : Nat → Int64} {placeI : Int32} {placeJ : Int32} {formA : Int64} {formB : Int64} {formC : Int64}  {v0 : Int32} {v1 : Nat → Int64} {r : (Nat → Int64)} (h : itX (m_squared_L152 n p one turned) (v0, v1) = some r) (hr : aW K (mw h0 hp n p count sorts rows hand gathered gather paired pairA pairB ideal r frame one two turned placeI placeJ formA formB formC) sz 0 0 273 [] []) : aW K (mw h0 hp n p count sorts rows hand gathered gather paired pairA pairB ideal v1 frame one two turned placeI placeJ formA formB formC) sz 0 0 152 [(0, .ref h0), (4, .int v0)] [] := by
  refine it_walk (f := m_squared_L152 n p one turned) (P := fun s => aW K (mw h0 hp n p count sorts rows hand gathered gather paired pairA pairB ideal s.2 frame one two turned placeI placeJ formA formB formC) sz 0 0 152 [(0, .ref h0), (4, .int s.1)] []) (R := fun r => aW K (mw h0 hp n p count sorts rows hand gathered gather paired pairA pairB ideal r frame one two turned placeI placeJ formA formB formC) sz 0 0 273 [] []) ?_ h hr
  clear h hr
  intro s x h kl kr
  unfold m_squared_L152 at h
  refine r_iload C 1 rfl dX6_squared_152 ?_
  refine r_aload_n C 0 rfl dX6_squared_154 rfl ?_
  obtain ⟨r18, qr18, h⟩ := bd_i h
  refine q_callV C 1 0 0 (c_side qr18) rfl mw_self rfl ok_side in_side lk6_111 rfl (Nat.le_of_ble_eq_true rfl) ⟨Nat.le_of_ble_eq_true rfl, Nat.le_of_ble_eq_true rfl⟩ dX6_squared_155 rfl rfl ?_
  refine r_icmp_ge C (tgt := 273) dX6_squared_158 (by decide) (fun hc => ?_) (fun hc => ?_)
  · replace h := br_p hc h
    refine r_lv [] rfl ?_
    exact kr _ (sm_i h)
  · replace h := br_n hc h
    refine r_iconst C (v := 0) dX6_squared_161 (by decide) ?_
    refine r_istore C (lv' := [(5, .int ((0 : Int32))), (0, .ref h0), (4, .int s.1)]) dX6_squared_162 (by decide) rfl ?_
    refine r_lv [1, 2, 0] rfl ?_
    obtain ⟨r27, qr27, h⟩ := bd_i h
    refine w_squared_L164 C qr27 ?_
    refine r_iinc C (v := s.1 + 1) (lv' := [(4, .int (s.1 + 1)), (0, .ref h0)]) 1 rfl dX6_squared_267 rfl (by decide) rfl ?_
    refine r_goto C (tgt := 152) dX6_squared_270 (by decide) ?_
    refine r_lv [1, 0] rfl ?_
    exact kl _ (sm_i h)
set_option maxHeartbeats 4000000 in
set_option maxRecDepth 100000 in
theorem c_squared {G : gT} {h0 : Nat} {hp : cH} {sz : Nat} {n : Int32} {p : Int64} {count : Int32} {sorts : Nat → Int32} {rows : Nat → Int64} {hand : Nat → Int64} {gathered : Int32} {gather : Nat → Int32} {paired : Int32} {pairA : Nat → Int32} {pairB : Nat → Int32} {ideal : Int32} {draft : Nat → Int64} {frame : Nat → Int64} {one : Nat → Int64} {two : Nat → Int64} {turned : Nat → Int64} {placeI : Int32} {placeJ : Int32} {formA : Int64} {formB : Int64} {formC : Int64} {x1 : Int32} {x2 : Int32} {x3 : Int32} {out : ((Nat → Int64) × (Nat → Int64))} (h : m_squared n p rows draft one turned x1 x2 x3 = some out) : aM G yX6_squared cX6_squared 11 none 1 21 0 0 [.ref h0, .int x1, .int x2, .int x3] (mw h0 hp n p count sorts rows hand gathered gather paired pairA pairB ideal draft frame one two turned placeI placeJ formA formB formC) sz ((none, mw h0 hp n p count sorts rows hand gathered gather paired pairA pairB ideal out.1 frame out.2 two turned placeI placeJ formA formB formC, sz) : oT) := by
  refine aM.of RX6 (by decide) rfl (Nat.le_of_ble_eq_true rfl) (fun K C => ?_)
  have hO : ((none, mw h0 hp n p count sorts rows hand gathered gather paired pairA pairB ideal out.1 frame out.2 two turned placeI placeJ formA formB formC, sz) : oT) = ((none, mw h0 hp n p count sorts rows hand gathered gather paired pairA pairB ideal out.1 frame out.2 two turned placeI placeJ formA formB formC, sz) : oT) := rfl
  refine r_lve (lv' := [(0, .ref h0), (1, .int x1), (2, .int x2), (3, .int x3)]) rfl ?_
  unfold m_squared at h
  refine r_iconst C (v := 0) dX6_squared_0 (by decide) ?_
  refine r_istore C (lv' := [(4, .int ((0 : Int32))), (0, .ref h0), (1, .int x1), (2, .int x2), (3, .int x3)]) dX6_squared_1 (by decide) rfl ?_
  refine r_lv [1, 2, 3, 4, 0] rfl ?_
  obtain ⟨r16, qr16, h⟩ := bd_i h
  refine w_squared_L3 C qr16 ?_
  refine r_aload_n C 0 rfl dX6_squared_145 rfl ?_
  obtain ⟨r17, qr17, h⟩ := bd_i h
  refine q_callVv C 0 0 0 (c_clear qr17) rfl mw_self rfl ok_clear in_clear lk6_136 rfl (Nat.le_of_ble_eq_true rfl) ⟨Nat.le_of_ble_eq_true rfl, Nat.le_of_ble_eq_true rfl⟩ dX6_squared_146 rfl rfl ?_
  refine r_iconst C (v := 0) dX6_squared_149 (by decide) ?_
  refine r_istore C (lv' := [(4, .int ((0 : Int32))), (0, .ref h0)]) dX6_squared_150 (by decide) rfl ?_
  refine r_lv [1, 0] rfl ?_
  obtain ⟨r28, qr28, h⟩ := bd_i h
  refine w_squared_L152 C qr28 ?_
  obtain rfl := sm_i h
  exact r_return C (Eq.symm hO) dX6_squared_273
noncomputable def m_mapped_L20 (n : Int32) (p : Int64) (rows : Nat → Int64) (one : Nat → Int64) (two : Nat → Int64) (l1 : Int32) (l2 : Int32) (l3 : Int32) (s : (Int32 × (Nat → Int64))) : Option ((Int32 × (Nat → Int64)) ⊕ (Nat → Int64)) := (m_side n).bind fun r2 => if r2 ≤ s.1 then (some (.inr s.2)) else (if gi l3 16 then (m_side n).bind fun r3 => (m_of rows l1 ((l3 * r3) + s.1)).bind fun r4 => if l2 = 0 then (if gi s.1 16 then (m_times p r4 (two s.1.toNatClampNeg)).bind fun r5 => if p = 0 then none else if gi l3 16 then some (.inl (s.1 + 1, vp_updL s.2 l3.toNatClampNeg (((s.2 l3.toNatClampNeg) + r5) - ((s.2 l3.toNatClampNeg) + r5) / p * p))) else none else none) else (if gi s.1 16 then (m_times p r4 (one s.1.toNatClampNeg)).bind fun r6 => if p = 0 then none else if gi l3 16 then some (.inl (s.1 + 1, vp_updL s.2 l3.toNatClampNeg (((s.2 l3.toNatClampNeg) + r6) - ((s.2 l3.toNatClampNeg) + r6) / p * p))) else none else none) else none)
noncomputable def m_mapped_L2 (n : Int32) (p : Int64) (rows : Nat → Int64) (one : Nat → Int64) (two : Nat → Int64) (l1 : Int32) (l2 : Int32) (s : (Int32 × (Nat → Int64))) : Option ((Int32 × (Nat → Int64)) ⊕ (Nat → Int64)) := (m_side n).bind fun r1 => if r1 ≤ s.1 then (some (.inr s.2)) else (if gi s.1 16 then (itX (m_mapped_L20 n p rows one two l1 l2 s.1) ((0 : Int32), vp_updL s.2 s.1.toNatClampNeg ((0 : Int64)))).bind fun r7 => some (.inl (s.1 + 1, r7)) else none)
noncomputable def m_mapped_L100J139 (one : Nat → Int64) (two : Nat → Int64) (l3 : Int32) : Option ((Int32 × (Nat → Int64) × (Nat → Int64)) ⊕ ((Nat → Int64) × (Nat → Int64))) := some (.inl (l3 + 1, one, two))
noncomputable def m_mapped_L100 (n : Int32) (draft : Nat → Int64) (l2 : Int32) (s : (Int32 × (Nat → Int64) × (Nat → Int64))) : Option ((Int32 × (Nat → Int64) × (Nat → Int64)) ⊕ ((Nat → Int64) × (Nat → Int64))) := (m_side n).bind fun r9 => if r9 ≤ s.1 then (some (.inr (s.2.1, s.2.2))) else (if l2 = 0 then (if gi s.1 16 then if gi s.1 16 then m_mapped_L100J139 s.2.1 (vp_updL s.2.2 s.1.toNatClampNeg (draft s.1.toNatClampNeg)) s.1 else none else none) else (if gi s.1 16 then if gi s.1 16 then m_mapped_L100J139 (vp_updL s.2.1 s.1.toNatClampNeg (draft s.1.toNatClampNeg)) s.2.2 s.1 else none else none))
noncomputable def m_mapped (n : Int32) (p : Int64) (rows : Nat → Int64) (draft : Nat → Int64) (one : Nat → Int64) (two : Nat → Int64) (x1 : Int32) (x2 : Int32) : Option ((Nat → Int64) × (Nat → Int64) × (Nat → Int64)) := (itX (m_mapped_L2 n p rows one two x1 x2) ((0 : Int32), draft)).bind fun r8 => (itX (m_mapped_L100 n r8 x2) ((0 : Int32), one, two)).bind fun r10 => some (r8, r10.1, r10.2)
set_option maxHeartbeats 4000000 in
set_option maxRecDepth 100000 in
theorem w_mapped_L20 {K : kT} {O : oT} (C : aC K cX6_mapped RX6 "mapped" 1 20 0 0 5 none O) {h0 : Nat} {hp : cH} {sz : Nat} {n : Int32} {p : Int64} {count : Int32} {sorts : Nat → Int32} {rows : Nat → Int64} {hand : Nat → Int64} {gathered : Int32} {gather : Nat → Int32} {paired : Int32} {pairA : Nat → Int32} {pairB : Nat → Int32} {ideal : Int32} {frame : Nat → Int64} {one : Nat → Int64} {two : Nat → Int64} {turned : Nat → Int64} {placeI : Int32} {placeJ : Int32} {formA : Int64} {formB : Int64} {formC : Int64} {l1 : Int32} {l2 : Int32} {l3 : Int32} {v0 : Int32} {v1 : Nat → Int64} {r : (Nat → Int64)} (h : itX (m_mapped_L20 n p rows one two l1 l2 l3) (v0, v1) = some r) (hr : aW K (mw h0 hp n p count sorts rows hand gathered gather paired pairA pairB ideal r frame one two turned placeI placeJ formA formB formC) sz 0 0 92 [(0, .ref h0), (1, .int l1), (2, .int l2), (3, .int l3)] []) : aW K (mw h0 hp n p count sorts rows hand gathered gather paired pairA pairB ideal v1 frame one two turned placeI placeJ formA formB formC) sz 0 0 20 [(0, .ref h0), (1, .int l1), (2, .int l2), (3, .int l3), (4, .int v0)] [] := by
  refine it_walk (f := m_mapped_L20 n p rows one two l1 l2 l3) (P := fun s => aW K (mw h0 hp n p count sorts rows hand gathered gather paired pairA pairB ideal s.2 frame one two turned placeI placeJ formA formB formC) sz 0 0 20 [(0, .ref h0), (1, .int l1), (2, .int l2), (3, .int l3), (4, .int s.1)] []) (R := fun r => aW K (mw h0 hp n p count sorts rows hand gathered gather paired pairA pairB ideal r frame one two turned placeI placeJ formA formB formC) sz 0 0 92 [(0, .ref h0), (1, .int l1), (2, .int l2), (3, .int l3)] []) ?_ h hr
  clear h hr
  intro s x h kl kr
  unfold m_mapped_L20 at h
  refine r_iload C 4 rfl dX6_mapped_20 ?_
  refine r_aload_n C 0 rfl dX6_mapped_22 rfl ?_
  obtain ⟨r2, qr2, h⟩ := bd_i h
  refine q_callV C 1 0 0 (c_side qr2) rfl mw_self rfl ok_side in_side lk6_111 rfl (Nat.le_of_ble_eq_true rfl) ⟨Nat.le_of_ble_eq_true rfl, Nat.le_of_ble_eq_true rfl⟩ dX6_mapped_23 rfl rfl ?_
  refine r_icmp_ge C (tgt := 92) dX6_mapped_26 (by decide) (fun hc => ?_) (fun hc => ?_)
  · replace h := br_p hc h
    refine r_lv [0, 1, 2, 3] rfl ?_
    exact kr _ (sm_i h)
  · replace h := br_n hc h
    refine r_aload_n C 0 rfl dX6_mapped_29 rfl ?_
    refine m_g_draft C dX6_mapped_30 ?_
    refine r_iload_n C 3 rfl dX6_mapped_33 rfl ?_
    refine r_aload_n C 0 rfl dX6_mapped_34 rfl ?_
    refine m_g_draft C dX6_mapped_35 ?_
    refine r_iload_n C 3 rfl dX6_mapped_38 rfl ?_
    obtain ⟨hi, h⟩ := gd_t h
    refine m_l_draft C hi dX6_mapped_39 ?_
    refine r_aload_n C 0 rfl dX6_mapped_40 rfl ?_
    refine r_aload_n C 0 rfl dX6_mapped_41 rfl ?_
    refine r_iload_n C 1 rfl dX6_mapped_42 rfl ?_
    refine r_iload_n C 3 rfl dX6_mapped_43 rfl ?_
    refine r_aload_n C 0 rfl dX6_mapped_44 rfl ?_
    obtain ⟨r3, qr3, h⟩ := bd_i h
    refine q_callV C 8 0 0 (c_side qr3) rfl mw_self rfl ok_side in_side lk6_111 rfl (Nat.le_of_ble_eq_true rfl) ⟨Nat.le_of_ble_eq_true rfl, Nat.le_of_ble_eq_true rfl⟩ dX6_mapped_45 rfl rfl ?_
    refine r_imul C dX6_mapped_48 ?_
    refine r_iload C 4 rfl dX6_mapped_49 ?_
    refine r_iadd C dX6_mapped_51 ?_
    obtain ⟨r4, qr4, h⟩ := bd_i h
    refine q_callV C 5 0 0 (c_of qr4) rfl mw_self rfl ok_of in_of lk6_108 rfl (Nat.le_of_ble_eq_true rfl) ⟨Nat.le_of_ble_eq_true rfl, Nat.le_of_ble_eq_true rfl⟩ dX6_mapped_52 rfl rfl ?_
    refine r_iload_n C 2 rfl dX6_mapped_55 rfl ?_
    refine r_if_eq C (tgt := 69) dX6_mapped_56 (by decide) (fun hc => ?_) (fun hc => ?_)
    · replace h := br_p hc h
      refine r_aload_n C 0 rfl dX6_mapped_69 rfl ?_
      refine m_g_two C dX6_mapped_70 ?_
      refine r_iload C 4 rfl dX6_mapped_73 ?_
      obtain ⟨hi, h⟩ := gd_t h
      refine m_l_two C hi dX6_mapped_75 ?_
      obtain ⟨r5, qr5, h⟩ := bd_i h
      refine q_callV C 4 0 0 (c_times qr5) rfl mw_self rfl ok_times in_times lk6_76 rfl (Nat.le_of_ble_eq_true rfl) ⟨Nat.le_of_ble_eq_true rfl, Nat.le_of_ble_eq_true rfl⟩ dX6_mapped_76 rfl rfl ?_
      refine r_ladd C dX6_mapped_79 ?_
      refine r_aload_n C 0 rfl dX6_mapped_80 rfl ?_
      refine m_g_p C dX6_mapped_81 ?_
      obtain ⟨hne, h⟩ := gd_n h
      refine r_lrem C dX6_mapped_84 hne ?_
      obtain ⟨hi, h⟩ := gd_t h
      refine m_s_draft C hi dX6_mapped_85 ?_
      refine r_iinc C (v := s.1 + 1) (lv' := [(4, .int (s.1 + 1)), (0, .ref h0), (1, .int l1), (2, .int l2), (3, .int l3)]) 4 rfl dX6_mapped_86 rfl (by decide) rfl ?_
      refine r_goto C (tgt := 20) dX6_mapped_89 (by decide) ?_
      refine r_lv [1, 2, 3, 4, 0] rfl ?_
      exact kl _ (sm_i h)
    · replace h := br_n hc h
      refine r_aload_n C 0 rfl dX6_mapped_59 rfl ?_
      refine m_g_one C dX6_mapped_60 ?_
      refine r_iload C 4 rfl dX6_mapped_63 ?_
      obtain ⟨hi, h⟩ := gd_t h
      refine m_l_one C hi dX6_mapped_65 ?_
      refine r_goto C (tgt := 76) dX6_mapped_66 (by decide) ?_
      obtain ⟨r6, qr6, h⟩ := bd_i h
      refine q_callV C 4 0 0 (c_times qr6) rfl mw_self rfl ok_times in_times lk6_76 rfl (Nat.le_of_ble_eq_true rfl) ⟨Nat.le_of_ble_eq_true rfl, Nat.le_of_ble_eq_true rfl⟩ dX6_mapped_76 rfl rfl ?_
      refine r_ladd C dX6_mapped_79 ?_
      refine r_aload_n C 0 rfl dX6_mapped_80 rfl ?_
      refine m_g_p C dX6_mapped_81 ?_
      obtain ⟨hne, h⟩ := gd_n h
      refine r_lrem C dX6_mapped_84 hne ?_
      obtain ⟨hi, h⟩ := gd_t h
      refine m_s_draft C hi dX6_mapped_85 ?_
      refine r_iinc C (v := s.1 + 1) (lv' := [(4, .int (s.1 + 1)), (0, .ref h0), (1, .int l1), (2, .int l2), (3, .int l3)]) 4 rfl dX6_mapped_86 rfl (by decide) rfl ?_
      refine r_goto C (tgt := 20) dX6_mapped_89 (by decide) ?_
      refine r_lv [1, 2, 3, 4, 0] rfl ?_
      exact kl _ (sm_i h)
set_option maxHeartbeats 4000000 in
set_option maxRecDepth 100000 in
theorem w_mapped_L2 {K : kT} {O : oT} (C : aC K cX6_mapped RX6 "mapped" 1 20 0 0 5 none O) {h0 : Nat} {hp : cH} {sz : Nat} {n : Int32} {p : Int64} {count : Int32} {sorts : Nat → Int32} {rows : Nat → Int64} {hand : Nat → Int64} {gathered : Int32} {gather : Nat → Int32} {paired : Int32} {pairA : Nat → Int32} {pairB : Nat → Int32} {ideal : Int32} {frame : Nat → Int64} {one : Nat → Int64} {two : Nat → Int64} {turned : Nat → Int64} {placeI : Int32} {placeJ : Int32} {formA : Int64} {formB : Int64} {formC : Int64} {l1 : Int32} {l2 : Int32} {v0 : Int32} {v1 : Nat → Int64} {r : (Nat → Int64)} (h : itX (m_mapped_L2 n p rows one two l1 l2) (v0, v1) = some r) (hr : aW K (mw h0 hp n p count sorts rows hand gathered gather paired pairA pairB ideal r frame one two turned placeI placeJ formA formB formC) sz 0 0 98 [(0, .ref h0), (2, .int l2)] []) : aW K (mw h0 hp n p count sorts rows hand gathered gather paired pairA pairB ideal v1 frame one two turned placeI placeJ formA formB formC) sz 0 0 2 [(0, .ref h0), (1, .int l1), (2, .int l2), (3, .int v0)] [] := by
  refine it_walk (f := m_mapped_L2 n p rows one two l1 l2) (P := fun s => aW K (mw h0 hp n p count sorts rows hand gathered gather paired pairA pairB ideal s.2 frame one two turned placeI placeJ formA formB formC) sz 0 0 2 [(0, .ref h0), (1, .int l1), (2, .int l2), (3, .int s.1)] []) (R := fun r => aW K (mw h0 hp n p count sorts rows hand gathered gather paired pairA pairB ideal r frame one two turned placeI placeJ formA formB formC) sz 0 0 98 [(0, .ref h0), (2, .int l2)] []) ?_ h hr
  clear h hr
  intro s x h kl kr
  unfold m_mapped_L2 at h
  refine r_iload_n C 3 rfl dX6_mapped_2 rfl ?_
  refine r_aload_n C 0 rfl dX6_mapped_3 rfl ?_
  obtain ⟨r1, qr1, h⟩ := bd_i h
  refine q_callV C 1 0 0 (c_side qr1) rfl mw_self rfl ok_side in_side lk6_111 rfl (Nat.le_of_ble_eq_true rfl) ⟨Nat.le_of_ble_eq_true rfl, Nat.le_of_ble_eq_true rfl⟩ dX6_mapped_4 rfl rfl ?_
  refine r_icmp_ge C (tgt := 98) dX6_mapped_7 (by decide) (fun hc => ?_) (fun hc => ?_)
  · replace h := br_p hc h
    refine r_lv [0, 2] rfl ?_
    exact kr _ (sm_i h)
  · replace h := br_n hc h
    refine r_aload_n C 0 rfl dX6_mapped_10 rfl ?_
    refine m_g_draft C dX6_mapped_11 ?_
    refine r_iload_n C 3 rfl dX6_mapped_14 rfl ?_
    refine r_lconst C (v := 0) dX6_mapped_15 (by decide) ?_
    obtain ⟨hi, h⟩ := gd_t h
    refine m_s_draft C hi dX6_mapped_16 ?_
    refine r_iconst C (v := 0) dX6_mapped_17 (by decide) ?_
    refine r_istore C (lv' := [(4, .int ((0 : Int32))), (0, .ref h0), (1, .int l1), (2, .int l2), (3, .int s.1)]) dX6_mapped_18 (by decide) rfl ?_
    refine r_lv [1, 2, 3, 4, 0] rfl ?_
    obtain ⟨r7, qr7, h⟩ := bd_i h
    refine w_mapped_L20 C qr7 ?_
    refine r_iinc C (v := s.1 + 1) (lv' := [(3, .int (s.1 + 1)), (0, .ref h0), (1, .int l1), (2, .int l2)]) 3 rfl dX6_mapped_92 rfl (by decide) rfl ?_
    refine r_goto C (tgt := 2) dX6_mapped_95 (by decide) ?_
    refine r_lv [1, 2, 3, 0] rfl ?_
    exact kl _ (sm_i h)
set_option maxHeartbeats 4000000 in
set_option maxRecDepth 100000 in
theorem w_mapped_L100J139 {K : kT} {O : oT} (C : aC K cX6_mapped RX6 "mapped" 1 20 0 0 5 none O) {h0 : Nat} {hp : cH} {sz : Nat} {n : Int32} {p : Int64} {count : Int32} {sorts : Nat → Int32} {rows : Nat → Int64} {hand : Nat → Int64} {gathered : Int32} {gather : Nat → Int32} {paired : Int32} {pairA : Nat → Int32} {pairB : Nat → Int32} {ideal : Int32} {draft : Nat → Int64} {frame : Nat → Int64} {one : Nat → Int64} {two : Nat → Int64} {turned : Nat → Int64} {placeI : Int32} {placeJ : Int32} {formA : Int64} {formB : Int64} {formC : Int64} {l2 : Int32} {l3 : Int32}  {x : (Int32 × (Nat → Int64) × (Nat → Int64)) ⊕ ((Nat → Int64) × (Nat → Int64))} (h : m_mapped_L100J139 one two l3 = some x) (kl : ∀ s, x = .inl s → aW K (mw h0 hp n p count sorts rows hand gathered gather paired pairA pairB ideal draft frame s.2.1 s.2.2 turned placeI placeJ formA formB formC) sz 0 0 100 [(0, .ref h0), (2, .int l2), (3, .int s.1)] []) (kr : ∀ r, x = .inr r → aW K (mw h0 hp n p count sorts rows hand gathered gather paired pairA pairB ideal draft frame r.1 r.2 turned placeI placeJ formA formB formC) sz 0 0 145 [] []) : aW K (mw h0 hp n p count sorts rows hand gathered gather paired pairA pairB ideal draft frame one two turned placeI placeJ formA formB formC) sz 0 0 139 [(0, .ref h0), (2, .int l2), (3, .int l3)] [] := by
  unfold m_mapped_L100J139 at h
  refine r_iinc C (v := l3 + 1) (lv' := [(3, .int (l3 + 1)), (0, .ref h0), (2, .int l2)]) 2 rfl dX6_mapped_139 rfl (by decide) rfl ?_
  refine r_goto C (tgt := 100) dX6_mapped_142 (by decide) ?_
  refine r_lv [1, 2, 0] rfl ?_
  exact kl _ (sm_i h)
set_option maxHeartbeats 4000000 in
set_option maxRecDepth 100000 in
theorem w_mapped_L100 {K : kT} {O : oT} (C : aC K cX6_mapped RX6 "mapped" 1 20 0 0 5 none O) {h0 : Nat} {hp : cH} {sz : Nat} {n : Int32} {p : Int64} {count : Int32} {sorts : Nat → Int32} {rows : Nat → Int64} {hand : Nat → Int64} {gathered : Int32} {gather : Nat → Int32} {paired : Int32} {pairA : Nat → Int32} {pairB : Nat → Int32} {ideal : Int32} {draft : Nat → Int64} {frame : Nat → Int64} {turned : Nat → Int64} {placeI : Int32} {placeJ : Int32} {formA : Int64} {formB : Int64} {formC : Int64} {l2 : Int32} {v0 : Int32} {v1 : Nat → Int64} {v2 : Nat → Int64} {r : ((Nat → Int64) × (Nat → Int64))} (h : itX (m_mapped_L100 n draft l2) (v0, v1, v2) = some r) (hr : aW K (mw h0 hp n p count sorts rows hand gathered gather paired pairA pairB ideal draft frame r.1 r.2 turned placeI placeJ formA formB formC) sz 0 0 145 [] []) : aW K (mw h0 hp n p count sorts rows hand gathered gather paired pairA pairB ideal draft frame v1 v2 turned placeI placeJ formA formB formC) sz 0 0 100 [(0, .ref h0), (2, .int l2), (3, .int v0)] [] := by
  refine it_walk (f := m_mapped_L100 n draft l2) (P := fun s => aW K (mw h0 hp n p count sorts rows hand gathered gather paired pairA pairB ideal draft frame s.2.1 s.2.2 turned placeI placeJ formA formB formC) sz 0 0 100 [(0, .ref h0), (2, .int l2), (3, .int s.1)] []) (R := fun r => aW K (mw h0 hp n p count sorts rows hand gathered gather paired pairA pairB ideal draft frame r.1 r.2 turned placeI placeJ formA formB formC) sz 0 0 145 [] []) ?_ h hr
  clear h hr
  intro s x h kl kr
  unfold m_mapped_L100 at h
  refine r_iload_n C 2 rfl dX6_mapped_100 rfl ?_
  refine r_aload_n C 0 rfl dX6_mapped_101 rfl ?_
  obtain ⟨r9, qr9, h⟩ := bd_i h
  refine q_callV C 1 0 0 (c_side qr9) rfl mw_self rfl ok_side in_side lk6_111 rfl (Nat.le_of_ble_eq_true rfl) ⟨Nat.le_of_ble_eq_true rfl, Nat.le_of_ble_eq_true rfl⟩ dX6_mapped_102 rfl rfl ?_
  refine r_icmp_ge C (tgt := 145) dX6_mapped_105 (by decide) (fun hc => ?_) (fun hc => ?_)
  · replace h := br_p hc h
    refine r_lv [] rfl ?_
    exact kr _ (sm_i h)
  · replace h := br_n hc h
    refine r_iload_n C 1 rfl dX6_mapped_108 rfl ?_
    refine r_if_eq C (tgt := 127) dX6_mapped_109 (by decide) (fun hc => ?_) (fun hc => ?_)
    · replace h := br_p hc h
      refine r_aload_n C 0 rfl dX6_mapped_127 rfl ?_
      refine m_g_two C dX6_mapped_128 ?_
      refine r_iload_n C 2 rfl dX6_mapped_131 rfl ?_
      refine r_aload_n C 0 rfl dX6_mapped_132 rfl ?_
      refine m_g_draft C dX6_mapped_133 ?_
      refine r_iload_n C 2 rfl dX6_mapped_136 rfl ?_
      obtain ⟨hi, h⟩ := gd_t h
      refine m_l_draft C hi dX6_mapped_137 ?_
      obtain ⟨hi, h⟩ := gd_t h
      refine m_s_two C hi dX6_mapped_138 ?_
      refine r_lv [0, 1, 2] rfl ?_
      exact w_mapped_L100J139 C h kl kr
    · replace h := br_n hc h
      refine r_aload_n C 0 rfl dX6_mapped_112 rfl ?_
      refine m_g_one C dX6_mapped_113 ?_
      refine r_iload_n C 2 rfl dX6_mapped_116 rfl ?_
      refine r_aload_n C 0 rfl dX6_mapped_117 rfl ?_
      refine m_g_draft C dX6_mapped_118 ?_
      refine r_iload_n C 2 rfl dX6_mapped_121 rfl ?_
      obtain ⟨hi, h⟩ := gd_t h
      refine m_l_draft C hi dX6_mapped_122 ?_
      obtain ⟨hi, h⟩ := gd_t h
      refine m_s_one C hi dX6_mapped_123 ?_
      refine r_goto C (tgt := 139) dX6_mapped_124 (by decide) ?_
      refine r_lv [0, 1, 2] rfl ?_
      exact w_mapped_L100J139 C h kl kr
set_option maxHeartbeats 4000000 in
set_option maxRecDepth 100000 in
theorem c_mapped {G : gT} {h0 : Nat} {hp : cH} {sz : Nat} {n : Int32} {p : Int64} {count : Int32} {sorts : Nat → Int32} {rows : Nat → Int64} {hand : Nat → Int64} {gathered : Int32} {gather : Nat → Int32} {paired : Int32} {pairA : Nat → Int32} {pairB : Nat → Int32} {ideal : Int32} {draft : Nat → Int64} {frame : Nat → Int64} {one : Nat → Int64} {two : Nat → Int64} {turned : Nat → Int64} {placeI : Int32} {placeJ : Int32} {formA : Int64} {formB : Int64} {formC : Int64} {x1 : Int32} {x2 : Int32} {out : ((Nat → Int64) × (Nat → Int64) × (Nat → Int64))} (h : m_mapped n p rows draft one two x1 x2 = some out) : aM G yX6_mapped cX6_mapped 5 none 1 20 0 0 [.ref h0, .int x1, .int x2] (mw h0 hp n p count sorts rows hand gathered gather paired pairA pairB ideal draft frame one two turned placeI placeJ formA formB formC) sz ((none, mw h0 hp n p count sorts rows hand gathered gather paired pairA pairB ideal out.1 frame out.2.1 out.2.2 turned placeI placeJ formA formB formC, sz) : oT) := by
  refine aM.of RX6 (by decide) rfl (Nat.le_of_ble_eq_true rfl) (fun K C => ?_)
  have hO : ((none, mw h0 hp n p count sorts rows hand gathered gather paired pairA pairB ideal out.1 frame out.2.1 out.2.2 turned placeI placeJ formA formB formC, sz) : oT) = ((none, mw h0 hp n p count sorts rows hand gathered gather paired pairA pairB ideal out.1 frame out.2.1 out.2.2 turned placeI placeJ formA formB formC, sz) : oT) := rfl
  refine r_lve (lv' := [(0, .ref h0), (1, .int x1), (2, .int x2)]) rfl ?_
  unfold m_mapped at h
  refine r_iconst C (v := 0) dX6_mapped_0 (by decide) ?_
  refine r_istore_n C (lv' := [(3, .int ((0 : Int32))), (0, .ref h0), (1, .int x1), (2, .int x2)]) dX6_mapped_1 rfl (by decide) rfl ?_
  refine r_lv [1, 2, 3, 0] rfl ?_
  obtain ⟨r8, qr8, h⟩ := bd_i h
  refine w_mapped_L2 C qr8 ?_
  refine r_iconst C (v := 0) dX6_mapped_98 (by decide) ?_
  refine r_istore_n C (lv' := [(3, .int ((0 : Int32))), (0, .ref h0), (2, .int x2)]) dX6_mapped_99 rfl (by decide) rfl ?_
  refine r_lv [1, 2, 0] rfl ?_
  obtain ⟨r10, qr10, h⟩ := bd_i h
  refine w_mapped_L100 C qr10 ?_
  obtain rfl := sm_i h
  exact r_return C (Eq.symm hO) dX6_mapped_145
noncomputable def m_apply_L121 (n : Int32) (p : Int64) (rows : Nat → Int64) (turned : Nat → Int64) (l2 : Int32) (l4 : Int32) (s : (Int32 × (Nat → Int64))) : Option ((Int32 × (Nat → Int64)) ⊕ (Nat → Int64)) := (m_side n).bind fun r6 => if r6 ≤ s.1 then (some (.inr s.2)) else (if gi l4 16 then (m_of rows l2 s.1).bind fun r7 => (m_side n).bind fun r8 => if gi ((s.1 * r8) + l4) 16 then (m_times p r7 (turned ((s.1 * r8) + l4).toNatClampNeg)).bind fun r9 => if p = 0 then none else if gi l4 16 then some (.inl (s.1 + 1, vp_updL s.2 l4.toNatClampNeg (((s.2 l4.toNatClampNeg) + r9) - ((s.2 l4.toNatClampNeg) + r9) / p * p))) else none else none else none)
noncomputable def m_apply_L109 (n : Int32) (p : Int64) (rows : Nat → Int64) (turned : Nat → Int64) (l2 : Int32) (s : (Int32 × (Nat → Int64))) : Option ((Int32 × (Nat → Int64)) ⊕ (Nat → Int64)) := (m_side n).bind fun r5 => if r5 ≤ s.1 then (some (.inr s.2)) else ((itX (m_apply_L121 n p rows turned l2 s.1) ((0 : Int32), s.2)).bind fun r10 => some (.inl (s.1 + 1, r10)))
noncomputable def m_apply_J102 (n : Int32) (p : Int64) (count : Int32) (sorts : Nat → Int32) (rows : Nat → Int64) (draft : Nat → Int64) (frame : Nat → Int64) (one : Nat → Int64) (two : Nat → Int64) (turned : Nat → Int64) (l2 : Int32) (l3 : Int32) : Option (Int32 × Int32 × (Nat → Int32) × (Nat → Int64) × (Nat → Int64) × (Nat → Int64) × (Nat → Int64) × (Nat → Int64) × (Nat → Int64)) := (m_clear draft).bind fun r4 => (itX (m_apply_L109 n p rows turned l2) ((0 : Int32), r4)).bind fun r11 => (m_made n p count sorts rows r11 l3).bind fun r12 => some (r12.1, r12.2.1, r12.2.2.1, r12.2.2.2.1, r12.2.2.2.2, frame, one, two, turned)
noncomputable def m_apply_J92 (n : Int32) (p : Int64) (count : Int32) (sorts : Nat → Int32) (rows : Nat → Int64) (draft : Nat → Int64) (frame : Nat → Int64) (one : Nat → Int64) (two : Nat → Int64) (turned : Nat → Int64) (l1 : Int32) (l2 : Int32) (l3 : Int32) : Option (Int32 × Int32 × (Nat → Int32) × (Nat → Int64) × (Nat → Int64) × (Nat → Int64) × (Nat → Int64) × (Nat → Int64) × (Nat → Int64)) := if l3 = ((1 : Int32)) then (m_apply_J102 n p count sorts rows draft frame one two turned l2 l3) else (if l3 = ((2 : Int32)) then (m_apply_J102 n p count sorts rows draft frame one two turned l2 l3) else ((m_squared n p rows draft one turned l1 l2 l3).bind fun r13 => (m_made n p count sorts rows r13.1 l3).bind fun r14 => some (r14.1, r14.2.1, r14.2.2.1, r14.2.2.2.1, r14.2.2.2.2, frame, r13.2, two, turned)))
noncomputable def m_apply (n : Int32) (p : Int64) (count : Int32) (sorts : Nat → Int32) (rows : Nat → Int64) (draft : Nat → Int64) (frame : Nat → Int64) (one : Nat → Int64) (two : Nat → Int64) (turned : Nat → Int64) (x1 : Int32) (x2 : Int32) : Option (Int32 × Int32 × (Nat → Int32) × (Nat → Int64) × (Nat → Int64) × (Nat → Int64) × (Nat → Int64) × (Nat → Int64) × (Nat → Int64)) := (m_is count sorts x1 ((3 : Int32))).bind fun r1 => if r1 = 0 then (some ((-2 : Int32), count, sorts, rows, draft, frame, one, two, turned)) else ((m_isObject count x2).bind fun r2 => if r2 = 0 then (some ((-2 : Int32), count, sorts, rows, draft, frame, one, two, turned)) else (if gi x2 60 then (m_isTurned n p rows frame turned x1).bind fun r3 => if (sorts x2.toNatClampNeg) = 0 then ((m_clear draft).bind fun r20 => (m_takeOne n rows one x2).bind fun r21 => (m_mapped n p rows r20 r21 two x1 ((1 : Int32))).bind fun r22 => (m_made n p count sorts rows r22.1 (sorts x2.toNatClampNeg)).bind fun r23 => some (r23.1, r23.2.1, r23.2.2.1, r23.2.2.2.1, r23.2.2.2.2, r3.2.1, r22.2.1, r22.2.2, r3.2.2)) else (if (sorts x2.toNatClampNeg) = ((1 : Int32)) then (if n = ((3 : Int32)) then ((m_base n p rows r3.2.1 one two x2).bind fun r15 => (m_mapped n p rows draft r15.2.1 r15.2.2 x1 ((1 : Int32))).bind fun r16 => (m_mapped n p rows r16.1 r16.2.1 r16.2.2 x1 ((0 : Int32))).bind fun r17 => (m_through n p r17.1 r17.2.1 r17.2.2).bind fun r18 => (m_made n p count sorts rows r18 (sorts x2.toNatClampNeg)).bind fun r19 => some (r19.1, r19.2.1, r19.2.2.1, r19.2.2.2.1, r19.2.2.2.2, r15.1, r17.2.1, r17.2.2, r3.2.2)) else (m_apply_J92 n p count sorts rows draft r3.2.1 one two r3.2.2 x1 x2 (sorts x2.toNatClampNeg))) else (m_apply_J92 n p count sorts rows draft r3.2.1 one two r3.2.2 x1 x2 (sorts x2.toNatClampNeg))) else none))
set_option maxHeartbeats 4000000 in
set_option maxRecDepth 100000 in
theorem w_apply_L121 {K : kT} {O : oT} (C : aC K cX6_apply RX6 "apply" 5 91 0 0 6 (some .int) O) {h0 : Nat} {hp : cH} {sz : Nat} {n : Int32} {p : Int64} {count : Int32} {sorts : Nat → Int32} {rows : Nat → Int64} {hand : Nat → Int64} {gathered : Int32} {gather : Nat → Int32} {paired : Int32} {pairA : Nat → Int32} {pairB : Nat → Int32} {ideal : Int32} {frame : Nat → Int64} {one : Nat → Int64} {two : Nat → Int64} {turned : Nat → Int64} {placeI : Int32} {placeJ : Int32} {formA : Int64} {formB : Int64} {formC : Int64} {l2 : Int32} {l3 : Int32} {l4 : Int32} {v0 : Int32} {v1 : Nat → Int64} {r : (Nat → Int64)} (h : itX (m_apply_L121 n p rows turned l2 l4) (v0, v1) = some r) (hr : aW K (mw h0 hp n p count sorts rows hand gathered gather paired pairA pairB ideal r frame one two turned placeI placeJ formA formB formC) sz 0 0 182 [(0, .ref h0), (2, .int l2), (3, .int l3), (4, .int l4)] []) : aW K (mw h0 hp n p count sorts rows hand gathered gather paired pairA pairB ideal v1 frame one two turned placeI placeJ formA formB formC) sz 0 0 121 [(0, .ref h0), (2, .int l2), (3, .int l3), (4, .int l4), (5, .int v0)] [] := by
  refine it_walk (f := m_apply_L121 n p rows turned l2 l4) (P := fun s => aW K (mw h0 hp n p count sorts rows hand gathered gather paired pairA pairB ideal s.2 frame one two turned placeI placeJ formA formB formC) sz 0 0 121 [(0, .ref h0), (2, .int l2), (3, .int l3), (4, .int l4), (5, .int s.1)] []) (R := fun r => aW K (mw h0 hp n p count sorts rows hand gathered gather paired pairA pairB ideal r frame one two turned placeI placeJ formA formB formC) sz 0 0 182 [(0, .ref h0), (2, .int l2), (3, .int l3), (4, .int l4)] []) ?_ h hr
  clear h hr
  intro s x h kl kr
  unfold m_apply_L121 at h
  refine r_iload C 4 rfl dX6_apply_121 ?_
  refine r_aload_n C 0 rfl dX6_apply_123 rfl ?_
  obtain ⟨r6, qr6, h⟩ := bd_i h
  refine q_callV C 1 0 0 (c_side qr6) rfl mw_self rfl ok_side in_side lk6_111 rfl (Nat.le_of_ble_eq_true rfl) ⟨Nat.le_of_ble_eq_true rfl, Nat.le_of_ble_eq_true rfl⟩ dX6_apply_124 rfl rfl ?_
  refine r_icmp_ge C (tgt := 182) dX6_apply_127 (by decide) (fun hc => ?_) (fun hc => ?_)
  · replace h := br_p hc h
    refine r_lv [0, 1, 2, 3] rfl ?_
    exact kr _ (sm_i h)
  · replace h := br_n hc h
    refine r_aload_n C 0 rfl dX6_apply_130 rfl ?_
    refine m_g_draft C dX6_apply_131 ?_
    refine r_iload C 3 rfl dX6_apply_134 ?_
    refine r_aload_n C 0 rfl dX6_apply_136 rfl ?_
    refine m_g_draft C dX6_apply_137 ?_
    refine r_iload C 3 rfl dX6_apply_140 ?_
    obtain ⟨hi, h⟩ := gd_t h
    refine m_l_draft C hi dX6_apply_142 ?_
    refine r_aload_n C 0 rfl dX6_apply_143 rfl ?_
    refine r_aload_n C 0 rfl dX6_apply_144 rfl ?_
    refine r_iload_n C 1 rfl dX6_apply_145 rfl ?_
    refine r_iload C 4 rfl dX6_apply_146 ?_
    obtain ⟨r7, qr7, h⟩ := bd_i h
    refine q_callV C 5 0 0 (c_of qr7) rfl mw_self rfl ok_of in_of lk6_108 rfl (Nat.le_of_ble_eq_true rfl) ⟨Nat.le_of_ble_eq_true rfl, Nat.le_of_ble_eq_true rfl⟩ dX6_apply_148 rfl rfl ?_
    refine r_aload_n C 0 rfl dX6_apply_151 rfl ?_
    refine m_g_turned C dX6_apply_152 ?_
    refine r_iload C 4 rfl dX6_apply_155 ?_
    refine r_aload_n C 0 rfl dX6_apply_157 rfl ?_
    obtain ⟨r8, qr8, h⟩ := bd_i h
    refine q_callV C 9 0 0 (c_side qr8) rfl mw_self rfl ok_side in_side lk6_111 rfl (Nat.le_of_ble_eq_true rfl) ⟨Nat.le_of_ble_eq_true rfl, Nat.le_of_ble_eq_true rfl⟩ dX6_apply_158 rfl rfl ?_
    refine r_imul C dX6_apply_161 ?_
    refine r_iload C 3 rfl dX6_apply_162 ?_
    refine r_iadd C dX6_apply_164 ?_
    obtain ⟨hi, h⟩ := gd_t h
    refine m_l_turned C hi dX6_apply_165 ?_
    obtain ⟨r9, qr9, h⟩ := bd_i h
    refine q_callV C 4 0 0 (c_times qr9) rfl mw_self rfl ok_times in_times lk6_76 rfl (Nat.le_of_ble_eq_true rfl) ⟨Nat.le_of_ble_eq_true rfl, Nat.le_of_ble_eq_true rfl⟩ dX6_apply_166 rfl rfl ?_
    refine r_ladd C dX6_apply_169 ?_
    refine r_aload_n C 0 rfl dX6_apply_170 rfl ?_
    refine m_g_p C dX6_apply_171 ?_
    obtain ⟨hne, h⟩ := gd_n h
    refine r_lrem C dX6_apply_174 hne ?_
    obtain ⟨hi, h⟩ := gd_t h
    refine m_s_draft C hi dX6_apply_175 ?_
    refine r_iinc C (v := s.1 + 1) (lv' := [(5, .int (s.1 + 1)), (0, .ref h0), (2, .int l2), (3, .int l3), (4, .int l4)]) 4 rfl dX6_apply_176 rfl (by decide) rfl ?_
    refine r_goto C (tgt := 121) dX6_apply_179 (by decide) ?_
    refine r_lv [1, 2, 3, 4, 0] rfl ?_
    exact kl _ (sm_i h)
set_option maxHeartbeats 4000000 in
set_option maxRecDepth 100000 in
theorem w_apply_L109 {K : kT} {O : oT} (C : aC K cX6_apply RX6 "apply" 5 91 0 0 6 (some .int) O) {h0 : Nat} {hp : cH} {sz : Nat} {n : Int32} {p : Int64} {count : Int32} {sorts : Nat → Int32} {rows : Nat → Int64} {hand : Nat → Int64} {gathered : Int32} {gather : Nat → Int32} {paired : Int32} {pairA : Nat → Int32} {pairB : Nat → Int32} {ideal : Int32} {frame : Nat → Int64} {one : Nat → Int64} {two : Nat → Int64} {turned : Nat → Int64} {placeI : Int32} {placeJ : Int32} {formA : Int64} {formB : Int64} {formC : Int64} {l2 : Int32} {l3 : Int32} {v0 : Int32} {v1 : Nat → Int64} {r : (Nat → Int64)} (h : itX (m_apply_L109 n p rows turned l2) (v0, v1) = some r) (hr : aW K (mw h0 hp n p count sorts rows hand gathered gather paired pairA pairB ideal r frame one two turned placeI placeJ formA formB formC) sz 0 0 188 [(0, .ref h0), (3, .int l3)] []) : aW K (mw h0 hp n p count sorts rows hand gathered gather paired pairA pairB ideal v1 frame one two turned placeI placeJ formA formB formC) sz 0 0 109 [(0, .ref h0), (2, .int l2), (3, .int l3), (4, .int v0)] [] := by
  refine it_walk (f := m_apply_L109 n p rows turned l2) (P := fun s => aW K (mw h0 hp n p count sorts rows hand gathered gather paired pairA pairB ideal s.2 frame one two turned placeI placeJ formA formB formC) sz 0 0 109 [(0, .ref h0), (2, .int l2), (3, .int l3), (4, .int s.1)] []) (R := fun r => aW K (mw h0 hp n p count sorts rows hand gathered gather paired pairA pairB ideal r frame one two turned placeI placeJ formA formB formC) sz 0 0 188 [(0, .ref h0), (3, .int l3)] []) ?_ h hr
  clear h hr
  intro s x h kl kr
  unfold m_apply_L109 at h
  refine r_iload C 3 rfl dX6_apply_109 ?_
  refine r_aload_n C 0 rfl dX6_apply_111 rfl ?_
  obtain ⟨r5, qr5, h⟩ := bd_i h
  refine q_callV C 1 0 0 (c_side qr5) rfl mw_self rfl ok_side in_side lk6_111 rfl (Nat.le_of_ble_eq_true rfl) ⟨Nat.le_of_ble_eq_true rfl, Nat.le_of_ble_eq_true rfl⟩ dX6_apply_112 rfl rfl ?_
  refine r_icmp_ge C (tgt := 188) dX6_apply_115 (by decide) (fun hc => ?_) (fun hc => ?_)
  · replace h := br_p hc h
    refine r_lv [0, 2] rfl ?_
    exact kr _ (sm_i h)
  · replace h := br_n hc h
    refine r_iconst C (v := 0) dX6_apply_118 (by decide) ?_
    refine r_istore C (lv' := [(5, .int ((0 : Int32))), (0, .ref h0), (2, .int l2), (3, .int l3), (4, .int s.1)]) dX6_apply_119 (by decide) rfl ?_
    refine r_lv [1, 2, 3, 4, 0] rfl ?_
    obtain ⟨r10, qr10, h⟩ := bd_i h
    refine w_apply_L121 C qr10 ?_
    refine r_iinc C (v := s.1 + 1) (lv' := [(4, .int (s.1 + 1)), (0, .ref h0), (2, .int l2), (3, .int l3)]) 3 rfl dX6_apply_182 rfl (by decide) rfl ?_
    refine r_goto C (tgt := 109) dX6_apply_185 (by decide) ?_
    refine r_lv [1, 2, 3, 0] rfl ?_
    exact kl _ (sm_i h)
set_option maxHeartbeats 4000000 in
set_option maxRecDepth 100000 in
theorem w_apply_J102 {K : kT} {O : oT} (C : aC K cX6_apply RX6 "apply" 5 91 0 0 6 (some .int) O) {h0 : Nat} {hp : cH} {sz : Nat} {n : Int32} {p : Int64} {count : Int32} {sorts : Nat → Int32} {rows : Nat → Int64} {hand : Nat → Int64} {gathered : Int32} {gather : Nat → Int32} {paired : Int32} {pairA : Nat → Int32} {pairB : Nat → Int32} {ideal : Int32} {draft : Nat → Int64} {frame : Nat → Int64} {one : Nat → Int64} {two : Nat → Int64} {turned : Nat → Int64} {placeI : Int32} {placeJ : Int32} {formA : Int64} {formB : Int64} {formC : Int64} {l2 : Int32} {l3 : Int32} {out : (Int32 × Int32 × (Nat → Int32) × (Nat → Int64) × (Nat → Int64) × (Nat → Int64) × (Nat → Int64) × (Nat → Int64) × (Nat → Int64))} (h : m_apply_J102 n p count sorts rows draft frame one two turned l2 l3 = some out) (hO : ((some (.int out.1), mw h0 hp n p out.2.1 out.2.2.1 out.2.2.2.1 hand gathered gather paired pairA pairB ideal out.2.2.2.2.1 out.2.2.2.2.2.1 out.2.2.2.2.2.2.1 out.2.2.2.2.2.2.2.1 out.2.2.2.2.2.2.2.2 placeI placeJ formA formB formC, sz) : oT) = O) : aW K (mw h0 hp n p count sorts rows hand gathered gather paired pairA pairB ideal draft frame one two turned placeI placeJ formA formB formC) sz 0 0 102 [(0, .ref h0), (2, .int l2), (3, .int l3)] [] := by
  unfold m_apply_J102 at h
  refine r_aload_n C 0 rfl dX6_apply_102 rfl ?_
  obtain ⟨r4, qr4, h⟩ := bd_i h
  refine q_callVv C 0 0 0 (c_clear qr4) rfl mw_self rfl ok_clear in_clear lk6_136 rfl (Nat.le_of_ble_eq_true rfl) ⟨Nat.le_of_ble_eq_true rfl, Nat.le_of_ble_eq_true rfl⟩ dX6_apply_103 rfl rfl ?_
  refine r_iconst C (v := 0) dX6_apply_106 (by decide) ?_
  refine r_istore C (lv' := [(4, .int ((0 : Int32))), (0, .ref h0), (2, .int l2), (3, .int l3)]) dX6_apply_107 (by decide) rfl ?_
  refine r_lv [1, 2, 3, 0] rfl ?_
  obtain ⟨r11, qr11, h⟩ := bd_i h
  refine w_apply_L109 C qr11 ?_
  refine r_goto C (tgt := 198) dX6_apply_188 (by decide) ?_
  refine r_aload_n C 0 rfl dX6_apply_198 rfl ?_
  refine r_iload_n C 1 rfl dX6_apply_199 rfl ?_
  obtain ⟨r12, qr12, h⟩ := bd_i h
  refine q_callV C 0 0 0 (c_made qr12) rfl mw_self rfl ok_made in_made lk6_133 rfl (Nat.le_of_ble_eq_true rfl) ⟨Nat.le_of_ble_eq_true rfl, Nat.le_of_ble_eq_true rfl⟩ dX6_apply_200 rfl rfl ?_
  obtain rfl := sm_i h
  exact r_ireturn C (Eq.symm hO) dX6_apply_203
set_option maxHeartbeats 4000000 in
set_option maxRecDepth 100000 in
theorem w_apply_J92 {K : kT} {O : oT} (C : aC K cX6_apply RX6 "apply" 5 91 0 0 6 (some .int) O) {h0 : Nat} {hp : cH} {sz : Nat} {n : Int32} {p : Int64} {count : Int32} {sorts : Nat → Int32} {rows : Nat → Int64} {hand : Nat → Int64} {gathered : Int32} {gather : Nat → Int32} {paired : Int32} {pairA : Nat → Int32} {pairB : Nat → Int32} {ideal : Int32} {draft : Nat → Int64} {frame : Nat → Int64} {one : Nat → Int64} {two : Nat → Int64} {turned : Nat → Int64} {placeI : Int32} {placeJ : Int32} {formA : Int64} {formB : Int64} {formC : Int64} {l1 : Int32} {l2 : Int32} {l3 : Int32} {out : (Int32 × Int32 × (Nat → Int32) × (Nat → Int64) × (Nat → Int64) × (Nat → Int64) × (Nat → Int64) × (Nat → Int64) × (Nat → Int64))} (h : m_apply_J92 n p count sorts rows draft frame one two turned l1 l2 l3 = some out) (hO : ((some (.int out.1), mw h0 hp n p out.2.1 out.2.2.1 out.2.2.2.1 hand gathered gather paired pairA pairB ideal out.2.2.2.2.1 out.2.2.2.2.2.1 out.2.2.2.2.2.2.1 out.2.2.2.2.2.2.2.1 out.2.2.2.2.2.2.2.2 placeI placeJ formA formB formC, sz) : oT) = O) : aW K (mw h0 hp n p count sorts rows hand gathered gather paired pairA pairB ideal draft frame one two turned placeI placeJ formA formB formC) sz 0 0 92 [(0, .ref h0), (1, .int l1), (2, .int l2), (3, .int l3)] [] := by
  unfold m_apply_J92 at h
  refine r_iload_n C 3 rfl dX6_apply_92 rfl ?_
  refine r_iconst C (v := 1) dX6_apply_93 (by decide) ?_
  refine r_icmp_eq C (tgt := 102) dX6_apply_94 (by decide) (fun hc => ?_) (fun hc => ?_)
  · replace h := br_p hc h
    refine r_lv [0, 2, 3] rfl ?_
    exact w_apply_J102 C h hO
  · replace h := br_n hc h
    refine r_iload_n C 3 rfl dX6_apply_97 rfl ?_
    refine r_iconst C (v := 2) dX6_apply_98 (by decide) ?_
    refine r_icmp_ne C (tgt := 191) dX6_apply_99 (by decide) (fun hc => ?_) (fun hc => ?_)
    · replace h := br_n hc h
      refine r_aload_n C 0 rfl dX6_apply_191 rfl ?_
      refine r_iload_n C 1 rfl dX6_apply_192 rfl ?_
      refine r_iload_n C 2 rfl dX6_apply_193 rfl ?_
      refine r_iload_n C 3 rfl dX6_apply_194 rfl ?_
      obtain ⟨r13, qr13, h⟩ := bd_i h
      refine q_callVv C 0 0 0 (c_squared qr13) rfl mw_self rfl ok_squared in_squared lk6_247 rfl (Nat.le_of_ble_eq_true rfl) ⟨Nat.le_of_ble_eq_true rfl, Nat.le_of_ble_eq_true rfl⟩ dX6_apply_195 rfl rfl ?_
      refine r_aload_n C 0 rfl dX6_apply_198 rfl ?_
      refine r_iload_n C 3 rfl dX6_apply_199 rfl ?_
      obtain ⟨r14, qr14, h⟩ := bd_i h
      refine q_callV C 0 0 0 (c_made qr14) rfl mw_self rfl ok_made in_made lk6_133 rfl (Nat.le_of_ble_eq_true rfl) ⟨Nat.le_of_ble_eq_true rfl, Nat.le_of_ble_eq_true rfl⟩ dX6_apply_200 rfl rfl ?_
      obtain rfl := sm_i h
      exact r_ireturn C (Eq.symm hO) dX6_apply_203
    · replace h := br_p hc h
      refine r_lv [0, 2, 3] rfl ?_
      exact w_apply_J102 C h hO
set_option maxHeartbeats 4000000 in
set_option maxRecDepth 100000 in
theorem c_apply {G : gT} {h0 : Nat} {hp : cH} {sz : Nat} {n : Int32} {p : Int64} {count : Int32} {sorts : Nat → Int32} {rows : Nat → Int64} {hand : Nat → Int64} {gathered : Int32} {gather : Nat → Int32} {paired : Int32} {pairA : Nat → Int32} {pairB : Nat → Int32} {ideal : Int32} {draft : Nat → Int64} {frame : Nat → Int64} {one : Nat → Int64} {two : Nat → Int64} {turned : Nat → Int64} {placeI : Int32} {placeJ : Int32} {formA : Int64} {formB : Int64} {formC : Int64} {x1 : Int32} {x2 : Int32} {out : (Int32 × Int32 × (Nat → Int32) × (Nat → Int64) × (Nat → Int64) × (Nat → Int64) × (Nat → Int64) × (Nat → Int64) × (Nat → Int64))} (h : m_apply n p count sorts rows draft frame one two turned x1 x2 = some out) : aM G yX6_apply cX6_apply 6 (some .int) 5 91 0 0 [.ref h0, .int x1, .int x2] (mw h0 hp n p count sorts rows hand gathered gather paired pairA pairB ideal draft frame one two turned placeI placeJ formA formB formC) sz ((some (.int out.1), mw h0 hp n p out.2.1 out.2.2.1 out.2.2.2.1 hand gathered gather paired pairA pairB ideal out.2.2.2.2.1 out.2.2.2.2.2.1 out.2.2.2.2.2.2.1 out.2.2.2.2.2.2.2.1 out.2.2.2.2.2.2.2.2 placeI placeJ formA formB formC, sz) : oT) := by
  refine aM.of RX6 (by decide) rfl (Nat.le_of_ble_eq_true rfl) (fun K C => ?_)
  have hO : ((some (.int out.1), mw h0 hp n p out.2.1 out.2.2.1 out.2.2.2.1 hand gathered gather paired pairA pairB ideal out.2.2.2.2.1 out.2.2.2.2.2.1 out.2.2.2.2.2.2.1 out.2.2.2.2.2.2.2.1 out.2.2.2.2.2.2.2.2 placeI placeJ formA formB formC, sz) : oT) = ((some (.int out.1), mw h0 hp n p out.2.1 out.2.2.1 out.2.2.2.1 hand gathered gather paired pairA pairB ideal out.2.2.2.2.1 out.2.2.2.2.2.1 out.2.2.2.2.2.2.1 out.2.2.2.2.2.2.2.1 out.2.2.2.2.2.2.2.2 placeI placeJ formA formB formC, sz) : oT) := rfl
  refine r_lve (lv' := [(0, .ref h0), (1, .int x1), (2, .int x2)]) rfl ?_
  unfold m_apply at h
  refine r_aload_n C 0 rfl dX6_apply_0 rfl ?_
  refine r_iload_n C 1 rfl dX6_apply_1 rfl ?_
  refine r_iconst C (v := 3) dX6_apply_2 (by decide) ?_
  obtain ⟨r1, qr1, h⟩ := bd_i h
  refine q_callV C 0 0 0 (c_is qr1) rfl mw_self rfl ok_is in_is lk6_146 rfl (Nat.le_of_ble_eq_true rfl) ⟨Nat.le_of_ble_eq_true rfl, Nat.le_of_ble_eq_true rfl⟩ dX6_apply_3 rfl rfl ?_
  refine r_if_eq C (tgt := 17) dX6_apply_6 (by decide) (fun hc => ?_) (fun hc => ?_)
  · replace h := br_p hc h
    refine r_bipush C (v := -2) dX6_apply_17 (by decide) ?_
    obtain rfl := sm_i h
    exact r_ireturn C (Eq.symm hO) dX6_apply_19
  · replace h := br_n hc h
    refine r_aload_n C 0 rfl dX6_apply_9 rfl ?_
    refine r_iload_n C 2 rfl dX6_apply_10 rfl ?_
    obtain ⟨r2, qr2, h⟩ := bd_i h
    refine q_callV C 0 0 0 (c_isObject qr2) rfl mw_self rfl ok_isObject in_isObject lk6_119 rfl (Nat.le_of_ble_eq_true rfl) ⟨Nat.le_of_ble_eq_true rfl, Nat.le_of_ble_eq_true rfl⟩ dX6_apply_11 rfl rfl ?_
    refine r_if_ne C (tgt := 20) dX6_apply_14 (by decide) (fun hc => ?_) (fun hc => ?_)
    · replace h := br_n hc h
      refine r_aload_n C 0 rfl dX6_apply_20 rfl ?_
      refine m_g_sorts C dX6_apply_21 ?_
      refine r_iload_n C 2 rfl dX6_apply_24 rfl ?_
      obtain ⟨hi, h⟩ := gd_t h
      refine m_l_sorts C hi dX6_apply_25 ?_
      refine r_istore_n C (lv' := [(3, .int (sorts x2.toNatClampNeg)), (0, .ref h0), (1, .int x1), (2, .int x2)]) dX6_apply_26 rfl (by decide) rfl ?_
      refine r_aload_n C 1 rfl dX6_apply_27 rfl ?_
      refine r_iload_n C 2 rfl dX6_apply_28 rfl ?_
      obtain ⟨r3, qr3, h⟩ := bd_i h
      refine q_callV C 0 0 0 (c_isTurned qr3) rfl mw_self rfl ok_isTurned in_isTurned lk6_240 rfl (Nat.le_of_ble_eq_true rfl) ⟨Nat.le_of_ble_eq_true rfl, Nat.le_of_ble_eq_true rfl⟩ dX6_apply_29 rfl rfl ?_
      refine r_pop C dX6_apply_32 rfl ?_
      refine r_iload_n C 0 rfl dX6_apply_33 rfl ?_
      refine r_if_ne C (tgt := 55) dX6_apply_34 (by decide) (fun hc => ?_) (fun hc => ?_)
      · replace h := br_n hc h
        refine r_iload_n C 0 rfl dX6_apply_55 rfl ?_
        refine r_iconst C (v := 1) dX6_apply_56 (by decide) ?_
        refine r_icmp_ne C (tgt := 92) dX6_apply_57 (by decide) (fun hc => ?_) (fun hc => ?_)
        · replace h := br_n hc h
          refine r_lv [1, 2, 3, 0] rfl ?_
          exact w_apply_J92 C h hO
        · replace h := br_p hc h
          refine r_aload_n C 1 rfl dX6_apply_60 rfl ?_
          refine m_g_n C dX6_apply_61 ?_
          refine r_iconst C (v := 3) dX6_apply_64 (by decide) ?_
          refine r_icmp_ne C (tgt := 92) dX6_apply_65 (by decide) (fun hc => ?_) (fun hc => ?_)
          · replace h := br_n hc h
            refine r_lv [1, 2, 3, 0] rfl ?_
            exact w_apply_J92 C h hO
          · replace h := br_p hc h
            refine r_aload_n C 1 rfl dX6_apply_68 rfl ?_
            refine r_iload_n C 3 rfl dX6_apply_69 rfl ?_
            obtain ⟨r15, qr15, h⟩ := bd_i h
            refine q_callVv C 0 0 0 (c_base qr15) rfl mw_self rfl ok_base in_base lk6_171 rfl (Nat.le_of_ble_eq_true rfl) ⟨Nat.le_of_ble_eq_true rfl, Nat.le_of_ble_eq_true rfl⟩ dX6_apply_70 rfl rfl ?_
            refine r_aload_n C 1 rfl dX6_apply_73 rfl ?_
            refine r_iload_n C 2 rfl dX6_apply_74 rfl ?_
            refine r_iconst C (v := 1) dX6_apply_75 (by decide) ?_
            obtain ⟨r16, qr16, h⟩ := bd_i h
            refine q_callVv C 0 0 0 (c_mapped qr16) rfl mw_self rfl ok_mapped in_mapped lk6_243 rfl (Nat.le_of_ble_eq_true rfl) ⟨Nat.le_of_ble_eq_true rfl, Nat.le_of_ble_eq_true rfl⟩ dX6_apply_76 rfl rfl ?_
            refine r_aload_n C 1 rfl dX6_apply_79 rfl ?_
            refine r_iload_n C 2 rfl dX6_apply_80 rfl ?_
            refine r_iconst C (v := 0) dX6_apply_81 (by decide) ?_
            obtain ⟨r17, qr17, h⟩ := bd_i h
            refine q_callVv C 0 0 0 (c_mapped qr17) rfl mw_self rfl ok_mapped in_mapped lk6_243 rfl (Nat.le_of_ble_eq_true rfl) ⟨Nat.le_of_ble_eq_true rfl, Nat.le_of_ble_eq_true rfl⟩ dX6_apply_82 rfl rfl ?_
            refine r_aload_n C 1 rfl dX6_apply_85 rfl ?_
            obtain ⟨r18, qr18, h⟩ := bd_i h
            refine q_callVv C 0 0 0 (c_through qr18) rfl mw_self rfl ok_through in_through lk6_156 rfl (Nat.le_of_ble_eq_true rfl) ⟨Nat.le_of_ble_eq_true rfl, Nat.le_of_ble_eq_true rfl⟩ dX6_apply_86 rfl rfl ?_
            refine r_goto C (tgt := 198) dX6_apply_89 (by decide) ?_
            refine r_aload_n C 1 rfl dX6_apply_198 rfl ?_
            refine r_iload_n C 0 rfl dX6_apply_199 rfl ?_
            obtain ⟨r19, qr19, h⟩ := bd_i h
            refine q_callV C 0 0 0 (c_made qr19) rfl mw_self rfl ok_made in_made lk6_133 rfl (Nat.le_of_ble_eq_true rfl) ⟨Nat.le_of_ble_eq_true rfl, Nat.le_of_ble_eq_true rfl⟩ dX6_apply_200 rfl rfl ?_
            obtain rfl := sm_i h
            exact r_ireturn C (Eq.symm hO) dX6_apply_203
      · replace h := br_p hc h
        refine r_aload_n C 1 rfl dX6_apply_37 rfl ?_
        obtain ⟨r20, qr20, h⟩ := bd_i h
        refine q_callVv C 0 0 0 (c_clear qr20) rfl mw_self rfl ok_clear in_clear lk6_136 rfl (Nat.le_of_ble_eq_true rfl) ⟨Nat.le_of_ble_eq_true rfl, Nat.le_of_ble_eq_true rfl⟩ dX6_apply_38 rfl rfl ?_
        refine r_aload_n C 1 rfl dX6_apply_41 rfl ?_
        refine r_iload_n C 3 rfl dX6_apply_42 rfl ?_
        obtain ⟨r21, qr21, h⟩ := bd_i h
        refine q_callVv C 0 0 0 (c_takeOne qr21) rfl mw_self rfl ok_takeOne in_takeOne lk6_150 rfl (Nat.le_of_ble_eq_true rfl) ⟨Nat.le_of_ble_eq_true rfl, Nat.le_of_ble_eq_true rfl⟩ dX6_apply_43 rfl rfl ?_
        refine r_aload_n C 1 rfl dX6_apply_46 rfl ?_
        refine r_iload_n C 2 rfl dX6_apply_47 rfl ?_
        refine r_iconst C (v := 1) dX6_apply_48 (by decide) ?_
        obtain ⟨r22, qr22, h⟩ := bd_i h
        refine q_callVv C 0 0 0 (c_mapped qr22) rfl mw_self rfl ok_mapped in_mapped lk6_243 rfl (Nat.le_of_ble_eq_true rfl) ⟨Nat.le_of_ble_eq_true rfl, Nat.le_of_ble_eq_true rfl⟩ dX6_apply_49 rfl rfl ?_
        refine r_goto C (tgt := 198) dX6_apply_52 (by decide) ?_
        refine r_aload_n C 1 rfl dX6_apply_198 rfl ?_
        refine r_iload_n C 0 rfl dX6_apply_199 rfl ?_
        obtain ⟨r23, qr23, h⟩ := bd_i h
        refine q_callV C 0 0 0 (c_made qr23) rfl mw_self rfl ok_made in_made lk6_133 rfl (Nat.le_of_ble_eq_true rfl) ⟨Nat.le_of_ble_eq_true rfl, Nat.le_of_ble_eq_true rfl⟩ dX6_apply_200 rfl rfl ?_
        obtain rfl := sm_i h
        exact r_ireturn C (Eq.symm hO) dX6_apply_203
    · replace h := br_p hc h
      refine r_bipush C (v := -2) dX6_apply_17 (by decide) ?_
      obtain rfl := sm_i h
      exact r_ireturn C (Eq.symm hO) dX6_apply_19
