noncomputable def m_at (frame : Nat → Int64) (x1 : Int32) (x2 : Int32) : Option Int64 := if gi ((((20 : Int32)) * x1) + x2) 320 then some (frame ((((20 : Int32)) * x1) + x2).toNatClampNeg) else none
set_option maxHeartbeats 4000000 in
set_option maxRecDepth 100000 in
theorem c_at {G : gT} {h0 : Nat} {hp : cH} {sz : Nat} {n : Int32} {p : Int64} {count : Int32} {sorts : Nat → Int32} {rows : Nat → Int64} {hand : Nat → Int64} {gathered : Int32} {gather : Nat → Int32} {paired : Int32} {pairA : Nat → Int32} {pairB : Nat → Int32} {ideal : Int32} {draft : Nat → Int64} {frame : Nat → Int64} {one : Nat → Int64} {two : Nat → Int64} {turned : Nat → Int64} {placeI : Int32} {placeJ : Int32} {formA : Int64} {formB : Int64} {formC : Int64} {x1 : Int32} {x2 : Int32} {out : Int64} (h : m_at frame x1 x2 = some out) : aM G yX6_at cX6_at 3 (some .long) 0 0 0 0 [.ref h0, .int x1, .int x2] (mw h0 hp n p count sorts rows hand gathered gather paired pairA pairB ideal draft frame one two turned placeI placeJ formA formB formC) sz ((some (.long out), mw h0 hp n p count sorts rows hand gathered gather paired pairA pairB ideal draft frame one two turned placeI placeJ formA formB formC, sz) : oT) := by
  refine aM.of RX6 (by decide) rfl (Nat.le_of_ble_eq_true rfl) (fun K C => ?_)
  have hO : ((some (.long out), mw h0 hp n p count sorts rows hand gathered gather paired pairA pairB ideal draft frame one two turned placeI placeJ formA formB formC, sz) : oT) = ((some (.long out), mw h0 hp n p count sorts rows hand gathered gather paired pairA pairB ideal draft frame one two turned placeI placeJ formA formB formC, sz) : oT) := rfl
  refine r_lve (lv' := [(0, .ref h0), (1, .int x1), (2, .int x2)]) rfl ?_
  unfold m_at at h
  refine r_aload_n C 0 rfl dX6_at_0 rfl ?_
  refine m_g_frame C dX6_at_1 ?_
  refine r_bipush C (v := 20) dX6_at_4 (by decide) ?_
  refine r_iload_n C 1 rfl dX6_at_6 rfl ?_
  refine r_imul C dX6_at_7 ?_
  refine r_iload_n C 2 rfl dX6_at_8 rfl ?_
  refine r_iadd C dX6_at_9 ?_
  obtain ⟨hi, h⟩ := gd_t h
  refine m_l_frame C hi dX6_at_10 ?_
  obtain rfl := sm_i h
  exact r_lreturn C (Eq.symm hO) dX6_at_11
noncomputable def m_less (p : Int64) (x1 : Int64) (x3 : Int64) : Option Int64 := if x1 < x3 then (some ((x1 - x3) + p)) else (some (x1 - x3))
set_option maxHeartbeats 4000000 in
set_option maxRecDepth 100000 in
theorem c_less {G : gT} {h0 : Nat} {hp : cH} {sz : Nat} {n : Int32} {p : Int64} {count : Int32} {sorts : Nat → Int32} {rows : Nat → Int64} {hand : Nat → Int64} {gathered : Int32} {gather : Nat → Int32} {paired : Int32} {pairA : Nat → Int32} {pairB : Nat → Int32} {ideal : Int32} {draft : Nat → Int64} {frame : Nat → Int64} {one : Nat → Int64} {two : Nat → Int64} {turned : Nat → Int64} {placeI : Int32} {placeJ : Int32} {formA : Int64} {formB : Int64} {formC : Int64} {x1 : Int64} {x3 : Int64} {out : Int64} (h : m_less p x1 x3 = some out) : aM G yX6_less cX6_less 5 (some .long) 0 0 0 0 [.ref h0, .long x1, .long x3] (mw h0 hp n p count sorts rows hand gathered gather paired pairA pairB ideal draft frame one two turned placeI placeJ formA formB formC) sz ((some (.long out), mw h0 hp n p count sorts rows hand gathered gather paired pairA pairB ideal draft frame one two turned placeI placeJ formA formB formC, sz) : oT) := by
  refine aM.of RX6 (by decide) rfl (Nat.le_of_ble_eq_true rfl) (fun K C => ?_)
  have hO : ((some (.long out), mw h0 hp n p count sorts rows hand gathered gather paired pairA pairB ideal draft frame one two turned placeI placeJ formA formB formC, sz) : oT) = ((some (.long out), mw h0 hp n p count sorts rows hand gathered gather paired pairA pairB ideal draft frame one two turned placeI placeJ formA formB formC, sz) : oT) := rfl
  refine r_lve (lv' := [(0, .ref h0), (1, .long x1), (3, .long x3)]) rfl ?_
  unfold m_less at h
  refine r_lload_n C 1 rfl dX6_less_0 rfl ?_
  refine r_lload_n C 2 rfl dX6_less_1 rfl ?_
  refine r_llt C (tgt := 12) dX6_less_2 dX6_less_3 (by decide) (fun hc => ?_) (fun hc => ?_)
  · replace h := br_p hc h
    refine r_lload_n C 1 rfl dX6_less_12 rfl ?_
    refine r_lload_n C 2 rfl dX6_less_13 rfl ?_
    refine r_lsub C dX6_less_14 ?_
    refine r_aload_n C 0 rfl dX6_less_15 rfl ?_
    refine m_g_p C dX6_less_16 ?_
    refine r_ladd C dX6_less_19 ?_
    obtain rfl := sm_i h
    exact r_lreturn C (Eq.symm hO) dX6_less_20
  · replace h := br_n hc h
    refine r_lload_n C 1 rfl dX6_less_6 rfl ?_
    refine r_lload_n C 2 rfl dX6_less_7 rfl ?_
    refine r_lsub C dX6_less_8 ?_
    refine r_goto C (tgt := 20) dX6_less_9 (by decide) ?_
    obtain rfl := sm_i h
    exact r_lreturn C (Eq.symm hO) dX6_less_20
noncomputable def m_set (frame : Nat → Int64) (x1 : Int32) (x2 : Int32) (x3 : Int64) : Option (Nat → Int64) := if gi ((((20 : Int32)) * x1) + x2) 320 then some (vp_updL frame ((((20 : Int32)) * x1) + x2).toNatClampNeg x3) else none
set_option maxHeartbeats 4000000 in
set_option maxRecDepth 100000 in
theorem c_set {G : gT} {h0 : Nat} {hp : cH} {sz : Nat} {n : Int32} {p : Int64} {count : Int32} {sorts : Nat → Int32} {rows : Nat → Int64} {hand : Nat → Int64} {gathered : Int32} {gather : Nat → Int32} {paired : Int32} {pairA : Nat → Int32} {pairB : Nat → Int32} {ideal : Int32} {draft : Nat → Int64} {frame : Nat → Int64} {one : Nat → Int64} {two : Nat → Int64} {turned : Nat → Int64} {placeI : Int32} {placeJ : Int32} {formA : Int64} {formB : Int64} {formC : Int64} {x1 : Int32} {x2 : Int32} {x3 : Int64} {out : (Nat → Int64)} (h : m_set frame x1 x2 x3 = some out) : aM G yX6_set cX6_set 5 none 0 0 0 0 [.ref h0, .int x1, .int x2, .long x3] (mw h0 hp n p count sorts rows hand gathered gather paired pairA pairB ideal draft frame one two turned placeI placeJ formA formB formC) sz ((none, mw h0 hp n p count sorts rows hand gathered gather paired pairA pairB ideal draft out one two turned placeI placeJ formA formB formC, sz) : oT) := by
  refine aM.of RX6 (by decide) rfl (Nat.le_of_ble_eq_true rfl) (fun K C => ?_)
  have hO : ((none, mw h0 hp n p count sorts rows hand gathered gather paired pairA pairB ideal draft out one two turned placeI placeJ formA formB formC, sz) : oT) = ((none, mw h0 hp n p count sorts rows hand gathered gather paired pairA pairB ideal draft out one two turned placeI placeJ formA formB formC, sz) : oT) := rfl
  refine r_lve (lv' := [(0, .ref h0), (1, .int x1), (2, .int x2), (3, .long x3)]) rfl ?_
  unfold m_set at h
  refine r_aload_n C 0 rfl dX6_set_0 rfl ?_
  refine m_g_frame C dX6_set_1 ?_
  refine r_bipush C (v := 20) dX6_set_4 (by decide) ?_
  refine r_iload_n C 1 rfl dX6_set_6 rfl ?_
  refine r_imul C dX6_set_7 ?_
  refine r_iload_n C 2 rfl dX6_set_8 rfl ?_
  refine r_iadd C dX6_set_9 ?_
  refine r_lload_n C 3 rfl dX6_set_10 rfl ?_
  obtain ⟨hi, h⟩ := gd_t h
  refine m_s_frame C hi dX6_set_11 ?_
  obtain rfl := sm_i h
  exact r_return C (Eq.symm hO) dX6_set_12
noncomputable def m_reduce_L22 (frame : Nat → Int64) (l1 : Int32) (l5 : Int32) (s : Int32) : Option (Int32 ⊕ Int32) := if l1 ≤ s then (some (.inr s)) else ((m_at frame s l5).bind fun r1 => if r1 = ((0 : Int64)) then (some (.inl (s + 1))) else (some (.inr s)))
noncomputable def m_reduce_L6J219 (frame : Nat → Int64) (l4 : Int32) (l5 : Int32) : Option ((Int32 × Int32 × (Nat → Int64)) ⊕ (Int32 × (Nat → Int64))) := some (.inl (l4, l5 + 1, frame))
noncomputable def m_reduce_L70 (p : Int64) (l2 : Int32) (l4 : Int32) (l6 : Int32) (l7 : Int64) (s : (Int32 × (Nat → Int64))) : Option ((Int32 × (Nat → Int64)) ⊕ (Nat → Int64)) := if l2 ≤ s.1 then (some (.inr s.2)) else ((m_at s.2 l6 s.1).bind fun r5 => (m_at s.2 l4 s.1).bind fun r6 => (m_set s.2 l6 s.1 r6).bind fun r7 => (m_times p r5 l7).bind fun r8 => (m_set r7 l4 s.1 r8).bind fun r9 => some (.inl (s.1 + 1, r9)))
noncomputable def m_reduce_L157 (p : Int64) (l2 : Int32) (l4 : Int32) (l9 : Int32) (l10 : Int64) (s : (Int32 × (Nat → Int64))) : Option ((Int32 × (Nat → Int64)) ⊕ (Nat → Int64)) := if l2 ≤ s.1 then (some (.inr s.2)) else (if l10 = ((0 : Int64)) then (some (.inr s.2)) else ((m_at s.2 l9 s.1).bind fun r12 => (m_at s.2 l4 s.1).bind fun r13 => (m_times p l10 r13).bind fun r14 => (m_less p r12 r14).bind fun r15 => (m_set s.2 l9 s.1 r15).bind fun r16 => some (.inl (s.1 + 1, r16))))
noncomputable def m_reduce_L127J210 (frame : Nat → Int64) (l9 : Int32) : Option ((Int32 × (Nat → Int64)) ⊕ (Nat → Int64)) := some (.inl (l9 + 1, frame))
noncomputable def m_reduce_L127 (p : Int64) (l1 : Int32) (l2 : Int32) (l4 : Int32) (l5 : Int32) (s : (Int32 × (Nat → Int64))) : Option ((Int32 × (Nat → Int64)) ⊕ (Nat → Int64)) := if l1 ≤ s.1 then (some (.inr s.2)) else (if s.1 = l4 then ((itX (m_reduce_L157 p l2 l4 s.1 ((0 : Int64))) ((0 : Int32), s.2)).bind fun r18 => m_reduce_L127J210 r18 s.1) else ((m_at s.2 s.1 l5).bind fun r11 => (itX (m_reduce_L157 p l2 l4 s.1 r11) ((0 : Int32), s.2)).bind fun r17 => m_reduce_L127J210 r17 s.1))
noncomputable def m_reduce_L6J47 (p : Int64) (frame : Nat → Int64) (l1 : Int32) (l2 : Int32) (l4 : Int32) (l5 : Int32) (l6 : Int32) : Option ((Int32 × Int32 × (Nat → Int64)) ⊕ (Int32 × (Nat → Int64))) := if l1 ≤ l6 then (m_reduce_L6J219 frame l4 l5) else ((m_at frame l6 l5).bind fun r3 => (m_over p r3).bind fun r4 => (itX (m_reduce_L70 p l2 l4 l6 r4) ((0 : Int32), frame)).bind fun r10 => (itX (m_reduce_L127 p l1 l2 l4 l5) ((0 : Int32), r10)).bind fun r19 => m_reduce_L6J219 r19 (l4 + 1) l5)
noncomputable def m_reduce_L6 (p : Int64) (l1 : Int32) (l2 : Int32) (l3 : Int32) (s : (Int32 × Int32 × (Nat → Int64))) : Option ((Int32 × Int32 × (Nat → Int64)) ⊕ (Int32 × (Nat → Int64))) := if l3 ≤ s.2.1 then (some (.inr (s.1, s.2.2))) else (if l1 ≤ s.1 then (some (.inr (s.1, s.2.2))) else ((itX (m_reduce_L22 s.2.2 l1 s.2.1) s.1).bind fun r2 => m_reduce_L6J47 p s.2.2 l1 l2 s.1 s.2.1 r2))
noncomputable def m_reduce (p : Int64) (frame : Nat → Int64) (x1 : Int32) (x2 : Int32) (x3 : Int32) : Option (Int32 × (Nat → Int64)) := (itX (m_reduce_L6 p x1 x2 x3) ((0 : Int32), (0 : Int32), frame)).bind fun r20 => some (r20.1, r20.2)
set_option maxHeartbeats 4000000 in
set_option maxRecDepth 100000 in
theorem w_reduce_L22 {K : kT} {O : oT} (C : aC K cX6_reduce RX6 "reduce" 3 52 0 0 13 (some .int) O) {h0 : Nat} {hp : cH} {sz : Nat} {n : Int32} {p : Int64} {count : Int32} {sorts : Nat → Int32} {rows : Nat → Int64} {hand : Nat → Int64} {gathered : Int32} {gather : Nat → Int32} {paired : Int32} {pairA : Nat → Int32} {pairB : Nat → Int32} {ideal : Int32} {draft : Nat → Int64} {frame : Nat → Int64} {one : Nat → Int64} {two : Nat → Int64} {turned : Nat → Int64} {placeI : Int32} {placeJ : Int32} {formA : Int64} {formB : Int64} {formC : Int64} {l1 : Int32} {l2 : Int32} {l3 : Int32} {l4 : Int32} {l5 : Int32} {v0 : Int32} {r : Int32} (h : itX (m_reduce_L22 frame l1 l5) v0 = some r) (hr : aW K (mw h0 hp n p count sorts rows hand gathered gather paired pairA pairB ideal draft frame one two turned placeI placeJ formA formB formC) sz 0 0 47 [(0, .ref h0), (1, .int l1), (2, .int l2), (3, .int l3), (4, .int l4), (5, .int l5), (6, .int r)] []) : aW K (mw h0 hp n p count sorts rows hand gathered gather paired pairA pairB ideal draft frame one two turned placeI placeJ formA formB formC) sz 0 0 22 [(0, .ref h0), (1, .int l1), (2, .int l2), (3, .int l3), (4, .int l4), (5, .int l5), (6, .int v0)] [] := by
  refine it_walk (f := m_reduce_L22 frame l1 l5) (P := fun s => aW K (mw h0 hp n p count sorts rows hand gathered gather paired pairA pairB ideal draft frame one two turned placeI placeJ formA formB formC) sz 0 0 22 [(0, .ref h0), (1, .int l1), (2, .int l2), (3, .int l3), (4, .int l4), (5, .int l5), (6, .int s)] []) (R := fun r => aW K (mw h0 hp n p count sorts rows hand gathered gather paired pairA pairB ideal draft frame one two turned placeI placeJ formA formB formC) sz 0 0 47 [(0, .ref h0), (1, .int l1), (2, .int l2), (3, .int l3), (4, .int l4), (5, .int l5), (6, .int r)] []) ?_ h hr
  clear h hr
  intro s x h kl kr
  unfold m_reduce_L22 at h
  refine r_iload C 6 rfl dX6_reduce_22 ?_
  refine r_iload_n C 1 rfl dX6_reduce_24 rfl ?_
  refine r_icmp_ge C (tgt := 47) dX6_reduce_25 (by decide) (fun hc => ?_) (fun hc => ?_)
  · replace h := br_p hc h
    refine r_lv [0, 1, 2, 3, 4, 5, 6] rfl ?_
    exact kr _ (sm_i h)
  · replace h := br_n hc h
    refine r_aload_n C 0 rfl dX6_reduce_28 rfl ?_
    refine r_iload C 6 rfl dX6_reduce_29 ?_
    refine r_iload C 5 rfl dX6_reduce_31 ?_
    obtain ⟨r1, qr1, h⟩ := bd_i h
    refine q_callV C 0 0 0 (c_at qr1) rfl mw_self rfl ok_at in_at lk6_94 rfl (Nat.le_of_ble_eq_true rfl) ⟨Nat.le_of_ble_eq_true rfl, Nat.le_of_ble_eq_true rfl⟩ dX6_reduce_33 rfl rfl ?_
    refine r_lconst C (v := 0) dX6_reduce_36 (by decide) ?_
    refine r_lne C (tgt := 47) dX6_reduce_37 dX6_reduce_38 (by decide) (fun hc => ?_) (fun hc => ?_)
    · replace h := br_n hc h
      refine r_lv [0, 1, 2, 3, 4, 5, 6] rfl ?_
      exact kr _ (sm_i h)
    · replace h := br_p hc h
      refine r_iinc C (v := s + 1) (lv' := [(6, .int (s + 1)), (0, .ref h0), (1, .int l1), (2, .int l2), (3, .int l3), (4, .int l4), (5, .int l5)]) 6 rfl dX6_reduce_41 rfl (by decide) rfl ?_
      refine r_goto C (tgt := 22) dX6_reduce_44 (by decide) ?_
      refine r_lv [1, 2, 3, 4, 5, 6, 0] rfl ?_
      exact kl _ (sm_i h)
set_option maxHeartbeats 4000000 in
set_option maxRecDepth 100000 in
theorem w_reduce_L6J219 {K : kT} {O : oT} (C : aC K cX6_reduce RX6 "reduce" 3 52 0 0 13 (some .int) O) {h0 : Nat} {hp : cH} {sz : Nat} {n : Int32} {p : Int64} {count : Int32} {sorts : Nat → Int32} {rows : Nat → Int64} {hand : Nat → Int64} {gathered : Int32} {gather : Nat → Int32} {paired : Int32} {pairA : Nat → Int32} {pairB : Nat → Int32} {ideal : Int32} {draft : Nat → Int64} {frame : Nat → Int64} {one : Nat → Int64} {two : Nat → Int64} {turned : Nat → Int64} {placeI : Int32} {placeJ : Int32} {formA : Int64} {formB : Int64} {formC : Int64} {l1 : Int32} {l2 : Int32} {l3 : Int32} {l4 : Int32} {l5 : Int32}  {x : (Int32 × Int32 × (Nat → Int64)) ⊕ (Int32 × (Nat → Int64))} (h : m_reduce_L6J219 frame l4 l5 = some x) (kl : ∀ s, x = .inl s → aW K (mw h0 hp n p count sorts rows hand gathered gather paired pairA pairB ideal draft s.2.2 one two turned placeI placeJ formA formB formC) sz 0 0 6 [(0, .ref h0), (1, .int l1), (2, .int l2), (3, .int l3), (4, .int s.1), (5, .int s.2.1)] []) (kr : ∀ r, x = .inr r → aW K (mw h0 hp n p count sorts rows hand gathered gather paired pairA pairB ideal draft r.2 one two turned placeI placeJ formA formB formC) sz 0 0 225 [(4, .int r.1)] []) : aW K (mw h0 hp n p count sorts rows hand gathered gather paired pairA pairB ideal draft frame one two turned placeI placeJ formA formB formC) sz 0 0 219 [(0, .ref h0), (1, .int l1), (2, .int l2), (3, .int l3), (4, .int l4), (5, .int l5)] [] := by
  unfold m_reduce_L6J219 at h
  refine r_iinc C (v := l5 + 1) (lv' := [(5, .int (l5 + 1)), (0, .ref h0), (1, .int l1), (2, .int l2), (3, .int l3), (4, .int l4)]) 5 rfl dX6_reduce_219 rfl (by decide) rfl ?_
  refine r_goto C (tgt := 6) dX6_reduce_222 (by decide) ?_
  refine r_lv [1, 2, 3, 4, 5, 0] rfl ?_
  exact kl _ (sm_i h)
set_option maxHeartbeats 4000000 in
set_option maxRecDepth 100000 in
theorem w_reduce_L70 {K : kT} {O : oT} (C : aC K cX6_reduce RX6 "reduce" 3 52 0 0 13 (some .int) O) {h0 : Nat} {hp : cH} {sz : Nat} {n : Int32} {p : Int64} {count : Int32} {sorts : Nat → Int32} {rows : Nat → Int64} {hand : Nat → Int64} {gathered : Int32} {gather : Nat → Int32} {paired : Int32} {pairA : Nat → Int32} {pairB : Nat → Int32} {ideal : Int32} {draft : Nat → Int64} {one : Nat → Int64} {two : Nat → Int64} {turned : Nat → Int64} {placeI : Int32} {placeJ : Int32} {formA : Int64} {formB : Int64} {formC : Int64} {l1 : Int32} {l2 : Int32} {l3 : Int32} {l4 : Int32} {l5 : Int32} {l6 : Int32} {l7 : Int64} {v0 : Int32} {v1 : Nat → Int64} {r : (Nat → Int64)} (h : itX (m_reduce_L70 p l2 l4 l6 l7) (v0, v1) = some r) (hr : aW K (mw h0 hp n p count sorts rows hand gathered gather paired pairA pairB ideal draft r one two turned placeI placeJ formA formB formC) sz 0 0 124 [(0, .ref h0), (1, .int l1), (2, .int l2), (3, .int l3), (4, .int l4), (5, .int l5)] []) : aW K (mw h0 hp n p count sorts rows hand gathered gather paired pairA pairB ideal draft v1 one two turned placeI placeJ formA formB formC) sz 0 0 70 [(0, .ref h0), (1, .int l1), (2, .int l2), (3, .int l3), (4, .int l4), (5, .int l5), (6, .int l6), (7, .long l7), (9, .int v0)] [] := by
  refine it_walk (f := m_reduce_L70 p l2 l4 l6 l7) (P := fun s => aW K (mw h0 hp n p count sorts rows hand gathered gather paired pairA pairB ideal draft s.2 one two turned placeI placeJ formA formB formC) sz 0 0 70 [(0, .ref h0), (1, .int l1), (2, .int l2), (3, .int l3), (4, .int l4), (5, .int l5), (6, .int l6), (7, .long l7), (9, .int s.1)] []) (R := fun r => aW K (mw h0 hp n p count sorts rows hand gathered gather paired pairA pairB ideal draft r one two turned placeI placeJ formA formB formC) sz 0 0 124 [(0, .ref h0), (1, .int l1), (2, .int l2), (3, .int l3), (4, .int l4), (5, .int l5)] []) ?_ h hr
  clear h hr
  intro s x h kl kr
  unfold m_reduce_L70 at h
  refine r_iload C 8 rfl dX6_reduce_70 ?_
  refine r_iload_n C 2 rfl dX6_reduce_72 rfl ?_
  refine r_icmp_ge C (tgt := 124) dX6_reduce_73 (by decide) (fun hc => ?_) (fun hc => ?_)
  · replace h := br_p hc h
    refine r_lv [0, 1, 2, 3, 4, 5] rfl ?_
    exact kr _ (sm_i h)
  · replace h := br_n hc h
    refine r_aload_n C 0 rfl dX6_reduce_76 rfl ?_
    refine r_iload C 6 rfl dX6_reduce_77 ?_
    refine r_iload C 8 rfl dX6_reduce_79 ?_
    obtain ⟨r5, qr5, h⟩ := bd_i h
    refine q_callV C 0 0 0 (c_at qr5) rfl mw_self rfl ok_at in_at lk6_94 rfl (Nat.le_of_ble_eq_true rfl) ⟨Nat.le_of_ble_eq_true rfl, Nat.le_of_ble_eq_true rfl⟩ dX6_reduce_81 rfl rfl ?_
    refine r_lstore C (lv' := [(10, .long r5), (0, .ref h0), (1, .int l1), (2, .int l2), (3, .int l3), (4, .int l4), (5, .int l5), (6, .int l6), (7, .long l7), (9, .int s.1)]) dX6_reduce_84 (by decide) rfl ?_
    refine r_aload_n C 1 rfl dX6_reduce_86 rfl ?_
    refine r_iload C 7 rfl dX6_reduce_87 ?_
    refine r_iload C 9 rfl dX6_reduce_89 ?_
    refine r_aload_n C 1 rfl dX6_reduce_91 rfl ?_
    refine r_iload C 5 rfl dX6_reduce_92 ?_
    refine r_iload C 9 rfl dX6_reduce_94 ?_
    obtain ⟨r6, qr6, h⟩ := bd_i h
    refine q_callV C 3 0 0 (c_at qr6) rfl mw_self rfl ok_at in_at lk6_94 rfl (Nat.le_of_ble_eq_true rfl) ⟨Nat.le_of_ble_eq_true rfl, Nat.le_of_ble_eq_true rfl⟩ dX6_reduce_96 rfl rfl ?_
    obtain ⟨r7, qr7, h⟩ := bd_i h
    refine q_callVv C 0 0 0 (c_set qr7) rfl mw_self rfl ok_set in_set lk6_101 rfl (Nat.le_of_ble_eq_true rfl) ⟨Nat.le_of_ble_eq_true rfl, Nat.le_of_ble_eq_true rfl⟩ dX6_reduce_99 rfl rfl ?_
    refine r_aload_n C 1 rfl dX6_reduce_102 rfl ?_
    refine r_iload C 5 rfl dX6_reduce_103 ?_
    refine r_iload C 9 rfl dX6_reduce_105 ?_
    refine r_aload_n C 1 rfl dX6_reduce_107 rfl ?_
    refine r_lload C 0 rfl dX6_reduce_108 ?_
    refine r_lload C 8 rfl dX6_reduce_110 ?_
    obtain ⟨r8, qr8, h⟩ := bd_i h
    refine q_callV C 3 0 0 (c_times qr8) rfl mw_self rfl ok_times in_times lk6_76 rfl (Nat.le_of_ble_eq_true rfl) ⟨Nat.le_of_ble_eq_true rfl, Nat.le_of_ble_eq_true rfl⟩ dX6_reduce_112 rfl rfl ?_
    obtain ⟨r9, qr9, h⟩ := bd_i h
    refine q_callVv C 0 0 0 (c_set qr9) rfl mw_self rfl ok_set in_set lk6_101 rfl (Nat.le_of_ble_eq_true rfl) ⟨Nat.le_of_ble_eq_true rfl, Nat.le_of_ble_eq_true rfl⟩ dX6_reduce_115 rfl rfl ?_
    refine r_iinc C (v := s.1 + 1) (lv' := [(9, .int (s.1 + 1)), (10, .long r5), (0, .ref h0), (1, .int l1), (2, .int l2), (3, .int l3), (4, .int l4), (5, .int l5), (6, .int l6), (7, .long l7)]) 9 rfl dX6_reduce_118 rfl (by decide) rfl ?_
    refine r_goto C (tgt := 70) dX6_reduce_121 (by decide) ?_
    refine r_lv [2, 3, 4, 5, 6, 7, 8, 9, 0] rfl ?_
    exact kl _ (sm_i h)
set_option maxHeartbeats 4000000 in
set_option maxRecDepth 100000 in
theorem w_reduce_L157 {K : kT} {O : oT} (C : aC K cX6_reduce RX6 "reduce" 3 52 0 0 13 (some .int) O) {h0 : Nat} {hp : cH} {sz : Nat} {n : Int32} {p : Int64} {count : Int32} {sorts : Nat → Int32} {rows : Nat → Int64} {hand : Nat → Int64} {gathered : Int32} {gather : Nat → Int32} {paired : Int32} {pairA : Nat → Int32} {pairB : Nat → Int32} {ideal : Int32} {draft : Nat → Int64} {one : Nat → Int64} {two : Nat → Int64} {turned : Nat → Int64} {placeI : Int32} {placeJ : Int32} {formA : Int64} {formB : Int64} {formC : Int64} {l1 : Int32} {l2 : Int32} {l3 : Int32} {l4 : Int32} {l5 : Int32} {l9 : Int32} {l10 : Int64} {v0 : Int32} {v1 : Nat → Int64} {r : (Nat → Int64)} (h : itX (m_reduce_L157 p l2 l4 l9 l10) (v0, v1) = some r) (hr : aW K (mw h0 hp n p count sorts rows hand gathered gather paired pairA pairB ideal draft r one two turned placeI placeJ formA formB formC) sz 0 0 210 [(0, .ref h0), (1, .int l1), (2, .int l2), (3, .int l3), (4, .int l4), (5, .int l5), (9, .int l9)] []) : aW K (mw h0 hp n p count sorts rows hand gathered gather paired pairA pairB ideal draft v1 one two turned placeI placeJ formA formB formC) sz 0 0 157 [(0, .ref h0), (1, .int l1), (2, .int l2), (3, .int l3), (4, .int l4), (5, .int l5), (9, .int l9), (10, .long l10), (12, .int v0)] [] := by
  refine it_walk (f := m_reduce_L157 p l2 l4 l9 l10) (P := fun s => aW K (mw h0 hp n p count sorts rows hand gathered gather paired pairA pairB ideal draft s.2 one two turned placeI placeJ formA formB formC) sz 0 0 157 [(0, .ref h0), (1, .int l1), (2, .int l2), (3, .int l3), (4, .int l4), (5, .int l5), (9, .int l9), (10, .long l10), (12, .int s.1)] []) (R := fun r => aW K (mw h0 hp n p count sorts rows hand gathered gather paired pairA pairB ideal draft r one two turned placeI placeJ formA formB formC) sz 0 0 210 [(0, .ref h0), (1, .int l1), (2, .int l2), (3, .int l3), (4, .int l4), (5, .int l5), (9, .int l9)] []) ?_ h hr
  clear h hr
  intro s x h kl kr
  unfold m_reduce_L157 at h
  refine r_iload C 8 rfl dX6_reduce_157 ?_
  refine r_iload_n C 2 rfl dX6_reduce_159 rfl ?_
  refine r_icmp_ge C (tgt := 210) dX6_reduce_160 (by decide) (fun hc => ?_) (fun hc => ?_)
  · replace h := br_p hc h
    refine r_lv [0, 1, 2, 3, 4, 5, 6] rfl ?_
    exact kr _ (sm_i h)
  · replace h := br_n hc h
    refine r_lload C 7 rfl dX6_reduce_163 ?_
    refine r_lconst C (v := 0) dX6_reduce_165 (by decide) ?_
    refine r_leq C (tgt := 210) dX6_reduce_166 dX6_reduce_167 (by decide) (fun hc => ?_) (fun hc => ?_)
    · replace h := br_p hc h
      refine r_lv [0, 1, 2, 3, 4, 5, 6] rfl ?_
      exact kr _ (sm_i h)
    · replace h := br_n hc h
      refine r_aload_n C 0 rfl dX6_reduce_170 rfl ?_
      refine r_iload C 6 rfl dX6_reduce_171 ?_
      refine r_iload C 8 rfl dX6_reduce_173 ?_
      refine r_aload_n C 0 rfl dX6_reduce_175 rfl ?_
      refine r_aload_n C 0 rfl dX6_reduce_176 rfl ?_
      refine r_iload C 6 rfl dX6_reduce_177 ?_
      refine r_iload C 8 rfl dX6_reduce_179 ?_
      obtain ⟨r12, qr12, h⟩ := bd_i h
      refine q_callV C 4 0 0 (c_at qr12) rfl mw_self rfl ok_at in_at lk6_94 rfl (Nat.le_of_ble_eq_true rfl) ⟨Nat.le_of_ble_eq_true rfl, Nat.le_of_ble_eq_true rfl⟩ dX6_reduce_181 rfl rfl ?_
      refine r_aload_n C 0 rfl dX6_reduce_184 rfl ?_
      refine r_lload C 7 rfl dX6_reduce_185 ?_
      refine r_aload_n C 0 rfl dX6_reduce_187 rfl ?_
      refine r_iload C 4 rfl dX6_reduce_188 ?_
      refine r_iload C 8 rfl dX6_reduce_190 ?_
      obtain ⟨r13, qr13, h⟩ := bd_i h
      refine q_callV C 9 0 0 (c_at qr13) rfl mw_self rfl ok_at in_at lk6_94 rfl (Nat.le_of_ble_eq_true rfl) ⟨Nat.le_of_ble_eq_true rfl, Nat.le_of_ble_eq_true rfl⟩ dX6_reduce_192 rfl rfl ?_
      obtain ⟨r14, qr14, h⟩ := bd_i h
      refine q_callV C 6 0 0 (c_times qr14) rfl mw_self rfl ok_times in_times lk6_76 rfl (Nat.le_of_ble_eq_true rfl) ⟨Nat.le_of_ble_eq_true rfl, Nat.le_of_ble_eq_true rfl⟩ dX6_reduce_195 rfl rfl ?_
      obtain ⟨r15, qr15, h⟩ := bd_i h
      refine q_callV C 3 0 0 (c_less qr15) rfl mw_self rfl ok_less in_less lk6_105 rfl (Nat.le_of_ble_eq_true rfl) ⟨Nat.le_of_ble_eq_true rfl, Nat.le_of_ble_eq_true rfl⟩ dX6_reduce_198 rfl rfl ?_
      obtain ⟨r16, qr16, h⟩ := bd_i h
      refine q_callVv C 0 0 0 (c_set qr16) rfl mw_self rfl ok_set in_set lk6_101 rfl (Nat.le_of_ble_eq_true rfl) ⟨Nat.le_of_ble_eq_true rfl, Nat.le_of_ble_eq_true rfl⟩ dX6_reduce_201 rfl rfl ?_
      refine r_iinc C (v := s.1 + 1) (lv' := [(12, .int (s.1 + 1)), (0, .ref h0), (1, .int l1), (2, .int l2), (3, .int l3), (4, .int l4), (5, .int l5), (9, .int l9), (10, .long l10)]) 8 rfl dX6_reduce_204 rfl (by decide) rfl ?_
      refine r_goto C (tgt := 157) dX6_reduce_207 (by decide) ?_
      refine r_lv [1, 2, 3, 4, 5, 6, 7, 8, 0] rfl ?_
      exact kl _ (sm_i h)
set_option maxHeartbeats 4000000 in
set_option maxRecDepth 100000 in
theorem w_reduce_L127J210 {K : kT} {O : oT} (C : aC K cX6_reduce RX6 "reduce" 3 52 0 0 13 (some .int) O) {h0 : Nat} {hp : cH} {sz : Nat} {n : Int32} {p : Int64} {count : Int32} {sorts : Nat → Int32} {rows : Nat → Int64} {hand : Nat → Int64} {gathered : Int32} {gather : Nat → Int32} {paired : Int32} {pairA : Nat → Int32} {pairB : Nat → Int32} {ideal : Int32} {draft : Nat → Int64} {frame : Nat → Int64} {one : Nat → Int64} {two : Nat → Int64} {turned : Nat → Int64} {placeI : Int32} {placeJ : Int32} {formA : Int64} {formB : Int64} {formC : Int64} {l1 : Int32} {l2 : Int32} {l3 : Int32} {l4 : Int32} {l5 : Int32} {l9 : Int32}  {x : (Int32 × (Nat → Int64)) ⊕ (Nat → Int64)} (h : m_reduce_L127J210 frame l9 = some x) (kl : ∀ s, x = .inl s → aW K (mw h0 hp n p count sorts rows hand gathered gather paired pairA pairB ideal draft s.2 one two turned placeI placeJ formA formB formC) sz 0 0 127 [(0, .ref h0), (1, .int l1), (2, .int l2), (3, .int l3), (4, .int l4), (5, .int l5), (9, .int s.1)] []) (kr : ∀ r, x = .inr r → aW K (mw h0 hp n p count sorts rows hand gathered gather paired pairA pairB ideal draft r one two turned placeI placeJ formA formB formC) sz 0 0 216 [(0, .ref h0), (1, .int l1), (2, .int l2), (3, .int l3), (4, .int l4), (5, .int l5)] []) : aW K (mw h0 hp n p count sorts rows hand gathered gather paired pairA pairB ideal draft frame one two turned placeI placeJ formA formB formC) sz 0 0 210 [(0, .ref h0), (1, .int l1), (2, .int l2), (3, .int l3), (4, .int l4), (5, .int l5), (9, .int l9)] [] := by
  unfold m_reduce_L127J210 at h
  refine r_iinc C (v := l9 + 1) (lv' := [(9, .int (l9 + 1)), (0, .ref h0), (1, .int l1), (2, .int l2), (3, .int l3), (4, .int l4), (5, .int l5)]) 6 rfl dX6_reduce_210 rfl (by decide) rfl ?_
  refine r_goto C (tgt := 127) dX6_reduce_213 (by decide) ?_
  refine r_lv [1, 2, 3, 4, 5, 6, 0] rfl ?_
  exact kl _ (sm_i h)
set_option maxHeartbeats 4000000 in
set_option maxRecDepth 100000 in
theorem w_reduce_L127 {K : kT} {O : oT} (C : aC K cX6_reduce RX6 "reduce" 3 52 0 0 13 (some .int) O) {h0 : Nat} {hp : cH} {sz : Nat} {n : Int32} {p : Int64} {count : Int32} {sorts : Nat → Int32} {rows : Nat → Int64} {hand : Nat → Int64} {gathered : Int32} {gather : Nat → Int32} {paired : Int32} {pairA : Nat → Int32} {pairB : Nat → Int32} {ideal : Int32} {draft : Nat → Int64} {one : Nat → Int64} {two : Nat → Int64} {turned : Nat → Int64} {placeI : Int32} {placeJ : Int32} {formA : Int64} {formB : Int64} {formC : Int64} {l1 : Int32} {l2 : Int32} {l3 : Int32} {l4 : Int32} {l5 : Int32} {v0 : Int32} {v1 : Nat → Int64} {r : (Nat → Int64)} (h : itX (m_reduce_L127 p l1 l2 l4 l5) (v0, v1) = some r) (hr : aW K (mw h0 hp n p count sorts rows hand gathered gather paired pairA pairB ideal draft r one two turned placeI placeJ formA formB formC) sz 0 0 216 [(0, .ref h0), (1, .int l1), (2, .int l2), (3, .int l3), (4, .int l4), (5, .int l5)] []) : aW K (mw h0 hp n p count sorts rows hand gathered gather paired pairA pairB ideal draft v1 one two turned placeI placeJ formA formB formC) sz 0 0 127 [(0, .ref h0), (1, .int l1), (2, .int l2), (3, .int l3), (4, .int l4), (5, .int l5), (9, .int v0)] [] := by
  refine it_walk (f := m_reduce_L127 p l1 l2 l4 l5) (P := fun s => aW K (mw h0 hp n p count sorts rows hand gathered gather paired pairA pairB ideal draft s.2 one two turned placeI placeJ formA formB formC) sz 0 0 127 [(0, .ref h0), (1, .int l1), (2, .int l2), (3, .int l3), (4, .int l4), (5, .int l5), (9, .int s.1)] []) (R := fun r => aW K (mw h0 hp n p count sorts rows hand gathered gather paired pairA pairB ideal draft r one two turned placeI placeJ formA formB formC) sz 0 0 216 [(0, .ref h0), (1, .int l1), (2, .int l2), (3, .int l3), (4, .int l4), (5, .int l5)] []) ?_ h hr
  clear h hr
  intro s x h kl kr
  unfold m_reduce_L127 at h
  refine r_iload C 6 rfl dX6_reduce_127 ?_
  refine r_iload_n C 1 rfl dX6_reduce_129 rfl ?_
  refine r_icmp_ge C (tgt := 216) dX6_reduce_130 (by decide) (fun hc => ?_) (fun hc => ?_)
  · replace h := br_p hc h
    refine r_lv [0, 1, 2, 3, 4, 5] rfl ?_
    exact kr _ (sm_i h)
  · replace h := br_n hc h
    refine r_iload C 6 rfl dX6_reduce_133 ?_
    refine r_iload C 4 rfl dX6_reduce_135 ?_
    refine r_icmp_ne C (tgt := 144) dX6_reduce_137 (by decide) (fun hc => ?_) (fun hc => ?_)
    · replace h := br_n hc h
      refine r_aload_n C 0 rfl dX6_reduce_144 rfl ?_
      refine r_iload C 6 rfl dX6_reduce_145 ?_
      refine r_iload C 5 rfl dX6_reduce_147 ?_
      obtain ⟨r11, qr11, h⟩ := bd_i h
      refine q_callV C 0 0 0 (c_at qr11) rfl mw_self rfl ok_at in_at lk6_94 rfl (Nat.le_of_ble_eq_true rfl) ⟨Nat.le_of_ble_eq_true rfl, Nat.le_of_ble_eq_true rfl⟩ dX6_reduce_149 rfl rfl ?_
      refine r_lstore C (lv' := [(10, .long r11), (0, .ref h0), (1, .int l1), (2, .int l2), (3, .int l3), (4, .int l4), (5, .int l5), (9, .int s.1)]) dX6_reduce_152 (by decide) rfl ?_
      refine r_iconst C (v := 0) dX6_reduce_154 (by decide) ?_
      refine r_istore C (lv' := [(12, .int ((0 : Int32))), (10, .long r11), (0, .ref h0), (1, .int l1), (2, .int l2), (3, .int l3), (4, .int l4), (5, .int l5), (9, .int s.1)]) dX6_reduce_155 (by decide) rfl ?_
      refine r_lv [2, 3, 4, 5, 6, 7, 8, 1, 0] rfl ?_
      obtain ⟨r17, qr17, h⟩ := bd_i h
      refine w_reduce_L157 C qr17 ?_
      refine r_lv [0, 1, 2, 3, 4, 5, 6] rfl ?_
      exact w_reduce_L127J210 C h kl kr
    · replace h := br_p hc h
      refine r_lconst C (v := 0) dX6_reduce_140 (by decide) ?_
      refine r_goto C (tgt := 152) dX6_reduce_141 (by decide) ?_
      refine r_lstore C (lv' := [(10, .long ((0 : Int64))), (0, .ref h0), (1, .int l1), (2, .int l2), (3, .int l3), (4, .int l4), (5, .int l5), (9, .int s.1)]) dX6_reduce_152 (by decide) rfl ?_
      refine r_iconst C (v := 0) dX6_reduce_154 (by decide) ?_
      refine r_istore C (lv' := [(12, .int ((0 : Int32))), (10, .long ((0 : Int64))), (0, .ref h0), (1, .int l1), (2, .int l2), (3, .int l3), (4, .int l4), (5, .int l5), (9, .int s.1)]) dX6_reduce_155 (by decide) rfl ?_
      refine r_lv [2, 3, 4, 5, 6, 7, 8, 1, 0] rfl ?_
      obtain ⟨r18, qr18, h⟩ := bd_i h
      refine w_reduce_L157 C qr18 ?_
      refine r_lv [0, 1, 2, 3, 4, 5, 6] rfl ?_
      exact w_reduce_L127J210 C h kl kr
set_option maxHeartbeats 4000000 in
set_option maxRecDepth 100000 in
theorem w_reduce_L6J47 {K : kT} {O : oT} (C : aC K cX6_reduce RX6 "reduce" 3 52 0 0 13 (some .int) O) {h0 : Nat} {hp : cH} {sz : Nat} {n : Int32} {p : Int64} {count : Int32} {sorts : Nat → Int32} {rows : Nat → Int64} {hand : Nat → Int64} {gathered : Int32} {gather : Nat → Int32} {paired : Int32} {pairA : Nat → Int32} {pairB : Nat → Int32} {ideal : Int32} {draft : Nat → Int64} {frame : Nat → Int64} {one : Nat → Int64} {two : Nat → Int64} {turned : Nat → Int64} {placeI : Int32} {placeJ : Int32} {formA : Int64} {formB : Int64} {formC : Int64} {l1 : Int32} {l2 : Int32} {l3 : Int32} {l4 : Int32} {l5 : Int32} {l6 : Int32}  {x : (Int32 × Int32 × (Nat → Int64)) ⊕ (Int32 × (Nat → Int64))} (h : m_reduce_L6J47 p frame l1 l2 l4 l5 l6 = some x) (kl : ∀ s, x = .inl s → aW K (mw h0 hp n p count sorts rows hand gathered gather paired pairA pairB ideal draft s.2.2 one two turned placeI placeJ formA formB formC) sz 0 0 6 [(0, .ref h0), (1, .int l1), (2, .int l2), (3, .int l3), (4, .int s.1), (5, .int s.2.1)] []) (kr : ∀ r, x = .inr r → aW K (mw h0 hp n p count sorts rows hand gathered gather paired pairA pairB ideal draft r.2 one two turned placeI placeJ formA formB formC) sz 0 0 225 [(4, .int r.1)] []) : aW K (mw h0 hp n p count sorts rows hand gathered gather paired pairA pairB ideal draft frame one two turned placeI placeJ formA formB formC) sz 0 0 47 [(0, .ref h0), (1, .int l1), (2, .int l2), (3, .int l3), (4, .int l4), (5, .int l5), (6, .int l6)] [] := by
  unfold m_reduce_L6J47 at h
  refine r_iload C 6 rfl dX6_reduce_47 ?_
  refine r_iload_n C 1 rfl dX6_reduce_49 rfl ?_
  refine r_icmp_ge C (tgt := 219) dX6_reduce_50 (by decide) (fun hc => ?_) (fun hc => ?_)
  · replace h := br_p hc h
    refine r_lv [0, 1, 2, 3, 4, 5] rfl ?_
    exact w_reduce_L6J219 C h kl kr
  · replace h := br_n hc h
    refine r_aload_n C 0 rfl dX6_reduce_53 rfl ?_
    refine r_aload_n C 0 rfl dX6_reduce_54 rfl ?_
    refine r_iload C 6 rfl dX6_reduce_55 ?_
    refine r_iload C 5 rfl dX6_reduce_57 ?_
    obtain ⟨r3, qr3, h⟩ := bd_i h
    refine q_callV C 1 0 0 (c_at qr3) rfl mw_self rfl ok_at in_at lk6_94 rfl (Nat.le_of_ble_eq_true rfl) ⟨Nat.le_of_ble_eq_true rfl, Nat.le_of_ble_eq_true rfl⟩ dX6_reduce_59 rfl rfl ?_
    obtain ⟨r4, qr4, h⟩ := bd_i h
    refine q_callV C 0 0 0 (c_over qr4) rfl mw_self rfl ok_over in_over lk6_98 rfl (Nat.le_of_ble_eq_true rfl) ⟨Nat.le_of_ble_eq_true rfl, Nat.le_of_ble_eq_true rfl⟩ dX6_reduce_62 rfl rfl ?_
    refine r_lstore C (lv' := [(7, .long r4), (0, .ref h0), (1, .int l1), (2, .int l2), (3, .int l3), (4, .int l4), (5, .int l5), (6, .int l6)]) dX6_reduce_65 (by decide) rfl ?_
    refine r_iconst C (v := 0) dX6_reduce_67 (by decide) ?_
    refine r_istore C (lv' := [(9, .int ((0 : Int32))), (7, .long r4), (0, .ref h0), (1, .int l1), (2, .int l2), (3, .int l3), (4, .int l4), (5, .int l5), (6, .int l6)]) dX6_reduce_68 (by decide) rfl ?_
    refine r_lv [2, 3, 4, 5, 6, 7, 8, 1, 0] rfl ?_
    obtain ⟨r10, qr10, h⟩ := bd_i h
    refine w_reduce_L70 C qr10 ?_
    refine r_iconst C (v := 0) dX6_reduce_124 (by decide) ?_
    refine r_istore C (lv' := [(9, .int ((0 : Int32))), (0, .ref h0), (1, .int l1), (2, .int l2), (3, .int l3), (4, .int l4), (5, .int l5)]) dX6_reduce_125 (by decide) rfl ?_
    refine r_lv [1, 2, 3, 4, 5, 6, 0] rfl ?_
    obtain ⟨r19, qr19, h⟩ := bd_i h
    refine w_reduce_L127 C qr19 ?_
    refine r_iinc C (v := l4 + 1) (lv' := [(4, .int (l4 + 1)), (0, .ref h0), (1, .int l1), (2, .int l2), (3, .int l3), (5, .int l5)]) 4 rfl dX6_reduce_216 rfl (by decide) rfl ?_
    refine r_lv [1, 2, 3, 4, 0, 5] rfl ?_
    exact w_reduce_L6J219 C h kl kr
set_option maxHeartbeats 4000000 in
set_option maxRecDepth 100000 in
theorem w_reduce_L6 {K : kT} {O : oT} (C : aC K cX6_reduce RX6 "reduce" 3 52 0 0 13 (some .int) O) {h0 : Nat} {hp : cH} {sz : Nat} {n : Int32} {p : Int64} {count : Int32} {sorts : Nat → Int32} {rows : Nat → Int64} {hand : Nat → Int64} {gathered : Int32} {gather : Nat → Int32} {paired : Int32} {pairA : Nat → Int32} {pairB : Nat → Int32} {ideal : Int32} {draft : Nat → Int64} {one : Nat → Int64} {two : Nat → Int64} {turned : Nat → Int64} {placeI : Int32} {placeJ : Int32} {formA : Int64} {formB : Int64} {formC : Int64} {l1 : Int32} {l2 : Int32} {l3 : Int32} {v0 : Int32} {v1 : Int32} {v2 : Nat → Int64} {r : (Int32 × (Nat → Int64))} (h : itX (m_reduce_L6 p l1 l2 l3) (v0, v1, v2) = some r) (hr : aW K (mw h0 hp n p count sorts rows hand gathered gather paired pairA pairB ideal draft r.2 one two turned placeI placeJ formA formB formC) sz 0 0 225 [(4, .int r.1)] []) : aW K (mw h0 hp n p count sorts rows hand gathered gather paired pairA pairB ideal draft v2 one two turned placeI placeJ formA formB formC) sz 0 0 6 [(0, .ref h0), (1, .int l1), (2, .int l2), (3, .int l3), (4, .int v0), (5, .int v1)] [] := by
  refine it_walk (f := m_reduce_L6 p l1 l2 l3) (P := fun s => aW K (mw h0 hp n p count sorts rows hand gathered gather paired pairA pairB ideal draft s.2.2 one two turned placeI placeJ formA formB formC) sz 0 0 6 [(0, .ref h0), (1, .int l1), (2, .int l2), (3, .int l3), (4, .int s.1), (5, .int s.2.1)] []) (R := fun r => aW K (mw h0 hp n p count sorts rows hand gathered gather paired pairA pairB ideal draft r.2 one two turned placeI placeJ formA formB formC) sz 0 0 225 [(4, .int r.1)] []) ?_ h hr
  clear h hr
  intro s x h kl kr
  unfold m_reduce_L6 at h
  refine r_iload C 5 rfl dX6_reduce_6 ?_
  refine r_iload_n C 3 rfl dX6_reduce_8 rfl ?_
  refine r_icmp_ge C (tgt := 225) dX6_reduce_9 (by decide) (fun hc => ?_) (fun hc => ?_)
  · replace h := br_p hc h
    refine r_lv [4] rfl ?_
    exact kr _ (sm_i h)
  · replace h := br_n hc h
    refine r_iload C 4 rfl dX6_reduce_12 ?_
    refine r_iload_n C 1 rfl dX6_reduce_14 rfl ?_
    refine r_icmp_ge C (tgt := 225) dX6_reduce_15 (by decide) (fun hc => ?_) (fun hc => ?_)
    · replace h := br_p hc h
      refine r_lv [4] rfl ?_
      exact kr _ (sm_i h)
    · replace h := br_n hc h
      refine r_iload C 4 rfl dX6_reduce_18 ?_
      refine r_istore C (lv' := [(6, .int s.1), (0, .ref h0), (1, .int l1), (2, .int l2), (3, .int l3), (4, .int s.1), (5, .int s.2.1)]) dX6_reduce_20 (by decide) rfl ?_
      refine r_lv [1, 2, 3, 4, 5, 6, 0] rfl ?_
      obtain ⟨r2, qr2, h⟩ := bd_i h
      refine w_reduce_L22 C qr2 ?_
      refine r_lv [0, 1, 2, 3, 4, 5, 6] rfl ?_
      exact w_reduce_L6J47 C h kl kr
set_option maxHeartbeats 4000000 in
set_option maxRecDepth 100000 in
theorem c_reduce {G : gT} {h0 : Nat} {hp : cH} {sz : Nat} {n : Int32} {p : Int64} {count : Int32} {sorts : Nat → Int32} {rows : Nat → Int64} {hand : Nat → Int64} {gathered : Int32} {gather : Nat → Int32} {paired : Int32} {pairA : Nat → Int32} {pairB : Nat → Int32} {ideal : Int32} {draft : Nat → Int64} {frame : Nat → Int64} {one : Nat → Int64} {two : Nat → Int64} {turned : Nat → Int64} {placeI : Int32} {placeJ : Int32} {formA : Int64} {formB : Int64} {formC : Int64} {x1 : Int32} {x2 : Int32} {x3 : Int32} {out : (Int32 × (Nat → Int64))} (h : m_reduce p frame x1 x2 x3 = some out) : aM G yX6_reduce cX6_reduce 13 (some .int) 3 52 0 0 [.ref h0, .int x1, .int x2, .int x3] (mw h0 hp n p count sorts rows hand gathered gather paired pairA pairB ideal draft frame one two turned placeI placeJ formA formB formC) sz ((some (.int out.1), mw h0 hp n p count sorts rows hand gathered gather paired pairA pairB ideal draft out.2 one two turned placeI placeJ formA formB formC, sz) : oT) := by
  refine aM.of RX6 (by decide) rfl (Nat.le_of_ble_eq_true rfl) (fun K C => ?_)
  have hO : ((some (.int out.1), mw h0 hp n p count sorts rows hand gathered gather paired pairA pairB ideal draft out.2 one two turned placeI placeJ formA formB formC, sz) : oT) = ((some (.int out.1), mw h0 hp n p count sorts rows hand gathered gather paired pairA pairB ideal draft out.2 one two turned placeI placeJ formA formB formC, sz) : oT) := rfl
  refine r_lve (lv' := [(0, .ref h0), (1, .int x1), (2, .int x2), (3, .int x3)]) rfl ?_
  unfold m_reduce at h
  refine r_iconst C (v := 0) dX6_reduce_0 (by decide) ?_
  refine r_istore C (lv' := [(4, .int ((0 : Int32))), (0, .ref h0), (1, .int x1), (2, .int x2), (3, .int x3)]) dX6_reduce_1 (by decide) rfl ?_
  refine r_iconst C (v := 0) dX6_reduce_3 (by decide) ?_
  refine r_istore C (lv' := [(5, .int ((0 : Int32))), (4, .int ((0 : Int32))), (0, .ref h0), (1, .int x1), (2, .int x2), (3, .int x3)]) dX6_reduce_4 (by decide) rfl ?_
  refine r_lv [2, 3, 4, 5, 1, 0] rfl ?_
  obtain ⟨r20, qr20, h⟩ := bd_i h
  refine w_reduce_L6 C qr20 ?_
  refine r_iload C 0 rfl dX6_reduce_225 ?_
  obtain rfl := sm_i h
  exact r_ireturn C (Eq.symm hO) dX6_reduce_227
noncomputable def m_make_L31 (n : Int32) (hand : Nat → Int64) (l1 : Int32) (s : (Int32 × (Nat → Int64))) : Option ((Int32 × (Nat → Int64)) ⊕ (Nat → Int64)) := (m_width n l1).bind fun r2 => if r2 ≤ s.1 then (some (.inr s.2)) else (if gi s.1 16 then if gi s.1 16 then some (.inl (s.1 + 1, vp_updL s.2 s.1.toNatClampNeg (hand s.1.toNatClampNeg))) else none else none)
noncomputable def m_make_L158J222 (frame : Nat → Int64) (l3 : Int32) : Option ((Int32 × (Nat → Int64)) ⊕ ((Nat → Int64) ⊕ (Int32 × Int32 × (Nat → Int32) × (Nat → Int64) × (Nat → Int64) × (Nat → Int64)))) := some (.inl (l3 + 1, frame))
noncomputable def m_make_L158 (n : Int32) (count : Int32) (sorts : Nat → Int32) (rows : Nat → Int64) (draft : Nat → Int64) (l1 : Int32) (l2 : Int32) (s : (Int32 × (Nat → Int64))) : Option ((Int32 × (Nat → Int64)) ⊕ ((Nat → Int64) ⊕ (Int32 × Int32 × (Nat → Int32) × (Nat → Int64) × (Nat → Int64) × (Nat → Int64)))) := (m_side n).bind fun r6 => if r6 ≤ s.1 then (some (.inr (.inl s.2))) else ((m_side n).bind fun r7 => if gi ((l2 * r7) + s.1) 16 then (m_set s.2 l2 s.1 (draft ((l2 * r7) + s.1).toNatClampNeg)).bind fun r8 => if l1 = ((4 : Int32)) then ((m_side n).bind fun r9 => if gi ((l2 * r9) + s.1) 16 then (m_side n).bind fun r10 => if gi ((s.1 * r10) + l2) 16 then if (draft ((l2 * r9) + s.1).toNatClampNeg) = (draft ((s.1 * r10) + l2).toNatClampNeg) then (m_make_L158J222 r8 s.1) else (some (.inr (.inr ((-1 : Int32), count, sorts, rows, draft, r8)))) else none else none) else (m_make_L158J222 r8 s.1) else none)
noncomputable def m_make_L148 (n : Int32) (count : Int32) (sorts : Nat → Int32) (rows : Nat → Int64) (draft : Nat → Int64) (l1 : Int32) (s : (Int32 × (Nat → Int64))) : Option ((Int32 × (Nat → Int64)) ⊕ ((Nat → Int64) ⊕ (Int32 × Int32 × (Nat → Int32) × (Nat → Int64) × (Nat → Int64) × (Nat → Int64)))) := (m_side n).bind fun r5 => if r5 ≤ s.1 then (some (.inr (.inl s.2))) else ((itX (m_make_L158 n count sorts rows draft l1 s.1) ((0 : Int32), s.2)).bind fun r11 => match r11 with | .inl r11 => (some (.inl (s.1 + 1, r11))) | .inr o12 => some (.inr (.inr o12)))
noncomputable def m_make_J146 (n : Int32) (p : Int64) (count : Int32) (sorts : Nat → Int32) (rows : Nat → Int64) (draft : Nat → Int64) (frame : Nat → Int64) (l1 : Int32) : Option (Int32 × Int32 × (Nat → Int32) × (Nat → Int64) × (Nat → Int64) × (Nat → Int64)) := (itX (m_make_L148 n count sorts rows draft l1) ((0 : Int32), frame)).bind fun r13 => match r13 with | .inl r13 => (if l1 = ((3 : Int32)) then ((m_side n).bind fun r15 => (m_side n).bind fun r16 => (m_side n).bind fun r17 => (m_reduce p r13 r15 r16 r17).bind fun r18 => (m_side n).bind fun r19 => if r19 ≤ r18.1 then ((m_made n p count sorts rows draft l1).bind fun r20 => some (r20.1, r20.2.1, r20.2.2.1, r20.2.2.2.1, r20.2.2.2.2, r18.2)) else (some ((-1 : Int32), count, sorts, rows, draft, r18.2))) else ((m_made n p count sorts rows draft l1).bind fun r14 => some (r14.1, r14.2.1, r14.2.2.1, r14.2.2.2.1, r14.2.2.2.2, r13))) | .inr o21 => some o21
noncomputable def m_make_J25 (n : Int32) (p : Int64) (count : Int32) (sorts : Nat → Int32) (rows : Nat → Int64) (hand : Nat → Int64) (draft : Nat → Int64) (frame : Nat → Int64) (l1 : Int32) : Option (Int32 × Int32 × (Nat → Int32) × (Nat → Int64) × (Nat → Int64) × (Nat → Int64)) := (m_clear draft).bind fun r1 => (itX (m_make_L31 n hand l1) ((0 : Int32), r1)).bind fun r3 => (m_isNothing n r3 l1).bind fun r4 => if r4 = 0 then (if l1 = ((1 : Int32)) then (if n = ((3 : Int32)) then ((m_times p (r3 ((0 : Int32)).toNatClampNeg) (r3 ((5 : Int32)).toNatClampNeg)).bind fun r22 => (m_times p (r3 ((2 : Int32)).toNatClampNeg) (r3 ((3 : Int32)).toNatClampNeg)).bind fun r23 => if p = 0 then none else (m_times p (r3 ((1 : Int32)).toNatClampNeg) (r3 ((4 : Int32)).toNatClampNeg)).bind fun r24 => (m_less p ((r22 + r23) - (r22 + r23) / p * p) r24).bind fun r25 => if r25 = ((0 : Int64)) then (m_make_J146 n p count sorts rows r3 frame l1) else (some ((-1 : Int32), count, sorts, rows, r3, frame))) else (m_make_J146 n p count sorts rows r3 frame l1)) else (m_make_J146 n p count sorts rows r3 frame l1)) else (some ((-1 : Int32), count, sorts, rows, r3, frame))
noncomputable def m_make (n : Int32) (p : Int64) (count : Int32) (sorts : Nat → Int32) (rows : Nat → Int64) (hand : Nat → Int64) (draft : Nat → Int64) (frame : Nat → Int64) (x1 : Int32) : Option (Int32 × Int32 × (Nat → Int32) × (Nat → Int64) × (Nat → Int64) × (Nat → Int64)) := if x1 < 0 then (some ((-2 : Int32), count, sorts, rows, draft, frame)) else (if ((4 : Int32)) < x1 then (some ((-2 : Int32), count, sorts, rows, draft, frame)) else (if x1 = ((2 : Int32)) then (if n = ((2 : Int32)) then (some ((-2 : Int32), count, sorts, rows, draft, frame)) else (m_make_J25 n p count sorts rows hand draft frame x1)) else (m_make_J25 n p count sorts rows hand draft frame x1)))
set_option maxHeartbeats 4000000 in
set_option maxRecDepth 100000 in
theorem w_make_L31 {K : kT} {O : oT} (C : aC K cX6_make RX6 "make" 5 85 0 0 4 (some .int) O) {h0 : Nat} {hp : cH} {sz : Nat} {n : Int32} {p : Int64} {count : Int32} {sorts : Nat → Int32} {rows : Nat → Int64} {hand : Nat → Int64} {gathered : Int32} {gather : Nat → Int32} {paired : Int32} {pairA : Nat → Int32} {pairB : Nat → Int32} {ideal : Int32} {frame : Nat → Int64} {one : Nat → Int64} {two : Nat → Int64} {turned : Nat → Int64} {placeI : Int32} {placeJ : Int32} {formA : Int64} {formB : Int64} {formC : Int64} {l1 : Int32} {v0 : Int32} {v1 : Nat → Int64} {r : (Nat → Int64)} (h : itX (m_make_L31 n hand l1) (v0, v1) = some r) (hr : aW K (mw h0 hp n p count sorts rows hand gathered gather paired pairA pairB ideal r frame one two turned placeI placeJ formA formB formC) sz 0 0 58 [(0, .ref h0), (1, .int l1)] []) : aW K (mw h0 hp n p count sorts rows hand gathered gather paired pairA pairB ideal v1 frame one two turned placeI placeJ formA formB formC) sz 0 0 31 [(0, .ref h0), (1, .int l1), (2, .int v0)] [] := by
  refine it_walk (f := m_make_L31 n hand l1) (P := fun s => aW K (mw h0 hp n p count sorts rows hand gathered gather paired pairA pairB ideal s.2 frame one two turned placeI placeJ formA formB formC) sz 0 0 31 [(0, .ref h0), (1, .int l1), (2, .int s.1)] []) (R := fun r => aW K (mw h0 hp n p count sorts rows hand gathered gather paired pairA pairB ideal r frame one two turned placeI placeJ formA formB formC) sz 0 0 58 [(0, .ref h0), (1, .int l1)] []) ?_ h hr
  clear h hr
  intro s x h kl kr
  unfold m_make_L31 at h
  refine r_iload_n C 2 rfl dX6_make_31 rfl ?_
  refine r_aload_n C 0 rfl dX6_make_32 rfl ?_
  refine r_iload_n C 1 rfl dX6_make_33 rfl ?_
  obtain ⟨r2, qr2, h⟩ := bd_i h
  refine q_callV C 1 0 0 (c_width qr2) rfl mw_self rfl ok_width in_width lk6_122 rfl (Nat.le_of_ble_eq_true rfl) ⟨Nat.le_of_ble_eq_true rfl, Nat.le_of_ble_eq_true rfl⟩ dX6_make_34 rfl rfl ?_
  refine r_icmp_ge C (tgt := 58) dX6_make_37 (by decide) (fun hc => ?_) (fun hc => ?_)
  · replace h := br_p hc h
    refine r_lv [0, 1] rfl ?_
    exact kr _ (sm_i h)
  · replace h := br_n hc h
    refine r_aload_n C 0 rfl dX6_make_40 rfl ?_
    refine m_g_draft C dX6_make_41 ?_
    refine r_iload_n C 2 rfl dX6_make_44 rfl ?_
    refine r_aload_n C 0 rfl dX6_make_45 rfl ?_
    refine m_g_hand C dX6_make_46 ?_
    refine r_iload_n C 2 rfl dX6_make_49 rfl ?_
    obtain ⟨hi, h⟩ := gd_t h
    refine m_l_hand C hi dX6_make_50 ?_
    obtain ⟨hi, h⟩ := gd_t h
    refine m_s_draft C hi dX6_make_51 ?_
    refine r_iinc C (v := s.1 + 1) (lv' := [(2, .int (s.1 + 1)), (0, .ref h0), (1, .int l1)]) 2 rfl dX6_make_52 rfl (by decide) rfl ?_
    refine r_goto C (tgt := 31) dX6_make_55 (by decide) ?_
    refine r_lv [1, 2, 0] rfl ?_
    exact kl _ (sm_i h)
set_option maxHeartbeats 4000000 in
set_option maxRecDepth 100000 in
theorem w_make_L158J222 {K : kT} {O : oT} (C : aC K cX6_make RX6 "make" 5 85 0 0 4 (some .int) O) {h0 : Nat} {hp : cH} {sz : Nat} {n : Int32} {p : Int64} {count : Int32} {sorts : Nat → Int32} {rows : Nat → Int64} {hand : Nat → Int64} {gathered : Int32} {gather : Nat → Int32} {paired : Int32} {pairA : Nat → Int32} {pairB : Nat → Int32} {ideal : Int32} {draft : Nat → Int64} {frame : Nat → Int64} {one : Nat → Int64} {two : Nat → Int64} {turned : Nat → Int64} {placeI : Int32} {placeJ : Int32} {formA : Int64} {formB : Int64} {formC : Int64} {l1 : Int32} {l2 : Int32} {l3 : Int32}  {x : (Int32 × (Nat → Int64)) ⊕ ((Nat → Int64) ⊕ (Int32 × Int32 × (Nat → Int32) × (Nat → Int64) × (Nat → Int64) × (Nat → Int64)))} (h : m_make_L158J222 frame l3 = some x) (kl : ∀ s, x = .inl s → aW K (mw h0 hp n p count sorts rows hand gathered gather paired pairA pairB ideal draft s.2 one two turned placeI placeJ formA formB formC) sz 0 0 158 [(0, .ref h0), (1, .int l1), (2, .int l2), (3, .int s.1)] []) (kr : ∀ r, x = .inr r → Sum.elim (fun r => aW K (mw h0 hp n p count sorts rows hand gathered gather paired pairA pairB ideal draft r one two turned placeI placeJ formA formB formC) sz 0 0 228 [(0, .ref h0), (1, .int l1), (2, .int l2)] []) (fun o => ((some (.int o.1), mw h0 hp n p o.2.1 o.2.2.1 o.2.2.2.1 hand gathered gather paired pairA pairB ideal o.2.2.2.2.1 o.2.2.2.2.2 one two turned placeI placeJ formA formB formC, sz) : oT) = O) r) : aW K (mw h0 hp n p count sorts rows hand gathered gather paired pairA pairB ideal draft frame one two turned placeI placeJ formA formB formC) sz 0 0 222 [(0, .ref h0), (1, .int l1), (2, .int l2), (3, .int l3)] [] := by
  unfold m_make_L158J222 at h
  refine r_iinc C (v := l3 + 1) (lv' := [(3, .int (l3 + 1)), (0, .ref h0), (1, .int l1), (2, .int l2)]) 3 rfl dX6_make_222 rfl (by decide) rfl ?_
  refine r_goto C (tgt := 158) dX6_make_225 (by decide) ?_
  refine r_lv [1, 2, 3, 0] rfl ?_
  exact kl _ (sm_i h)
set_option maxHeartbeats 4000000 in
set_option maxRecDepth 100000 in
theorem w_make_L158 {K : kT} {O : oT} (C : aC K cX6_make RX6 "make" 5 85 0 0 4 (some .int) O) {h0 : Nat} {hp : cH} {sz : Nat} {n : Int32} {p : Int64} {count : Int32} {sorts : Nat → Int32} {rows : Nat → Int64} {hand : Nat → Int64} {gathered : Int32} {gather : Nat → Int32} {paired : Int32} {pairA : Nat → Int32} {pairB : Nat → Int32} {ideal : Int32} {draft : Nat → Int64} {one : Nat → Int64} {two : Nat → Int64} {turned : Nat → Int64} {placeI : Int32} {placeJ : Int32} {formA : Int64} {formB : Int64} {formC : Int64} {l1 : Int32} {l2 : Int32} {v0 : Int32} {v1 : Nat → Int64} {r : ((Nat → Int64) ⊕ (Int32 × Int32 × (Nat → Int32) × (Nat → Int64) × (Nat → Int64) × (Nat → Int64)))} (h : itX (m_make_L158 n count sorts rows draft l1 l2) (v0, v1) = some r) (hr : Sum.elim (fun r => aW K (mw h0 hp n p count sorts rows hand gathered gather paired pairA pairB ideal draft r one two turned placeI placeJ formA formB formC) sz 0 0 228 [(0, .ref h0), (1, .int l1), (2, .int l2)] []) (fun o => ((some (.int o.1), mw h0 hp n p o.2.1 o.2.2.1 o.2.2.2.1 hand gathered gather paired pairA pairB ideal o.2.2.2.2.1 o.2.2.2.2.2 one two turned placeI placeJ formA formB formC, sz) : oT) = O) r) : aW K (mw h0 hp n p count sorts rows hand gathered gather paired pairA pairB ideal draft v1 one two turned placeI placeJ formA formB formC) sz 0 0 158 [(0, .ref h0), (1, .int l1), (2, .int l2), (3, .int v0)] [] := by
  refine it_walk (f := m_make_L158 n count sorts rows draft l1 l2) (P := fun s => aW K (mw h0 hp n p count sorts rows hand gathered gather paired pairA pairB ideal draft s.2 one two turned placeI placeJ formA formB formC) sz 0 0 158 [(0, .ref h0), (1, .int l1), (2, .int l2), (3, .int s.1)] []) (R := fun r => Sum.elim (fun r => aW K (mw h0 hp n p count sorts rows hand gathered gather paired pairA pairB ideal draft r one two turned placeI placeJ formA formB formC) sz 0 0 228 [(0, .ref h0), (1, .int l1), (2, .int l2)] []) (fun o => ((some (.int o.1), mw h0 hp n p o.2.1 o.2.2.1 o.2.2.2.1 hand gathered gather paired pairA pairB ideal o.2.2.2.2.1 o.2.2.2.2.2 one two turned placeI placeJ formA formB formC, sz) : oT) = O) r) ?_ h hr
  clear h hr
  intro s x h kl kr
  unfold m_make_L158 at h
  refine r_iload_n C 3 rfl dX6_make_158 rfl ?_
  refine r_aload_n C 0 rfl dX6_make_159 rfl ?_
  obtain ⟨r6, qr6, h⟩ := bd_i h
  refine q_callV C 1 0 0 (c_side qr6) rfl mw_self rfl ok_side in_side lk6_111 rfl (Nat.le_of_ble_eq_true rfl) ⟨Nat.le_of_ble_eq_true rfl, Nat.le_of_ble_eq_true rfl⟩ dX6_make_160 rfl rfl ?_
  refine r_icmp_ge C (tgt := 228) dX6_make_163 (by decide) (fun hc => ?_) (fun hc => ?_)
  · replace h := br_p hc h
    refine r_lv [0, 1, 2] rfl ?_
    exact kr _ (sm_i h)
  · replace h := br_n hc h
    refine r_aload_n C 0 rfl dX6_make_166 rfl ?_
    refine r_iload_n C 2 rfl dX6_make_167 rfl ?_
    refine r_iload_n C 3 rfl dX6_make_168 rfl ?_
    refine r_aload_n C 0 rfl dX6_make_169 rfl ?_
    refine m_g_draft C dX6_make_170 ?_
    refine r_iload_n C 2 rfl dX6_make_173 rfl ?_
    refine r_aload_n C 0 rfl dX6_make_174 rfl ?_
    obtain ⟨r7, qr7, h⟩ := bd_i h
    refine q_callV C 5 0 0 (c_side qr7) rfl mw_self rfl ok_side in_side lk6_111 rfl (Nat.le_of_ble_eq_true rfl) ⟨Nat.le_of_ble_eq_true rfl, Nat.le_of_ble_eq_true rfl⟩ dX6_make_175 rfl rfl ?_
    refine r_imul C dX6_make_178 ?_
    refine r_iload_n C 3 rfl dX6_make_179 rfl ?_
    refine r_iadd C dX6_make_180 ?_
    obtain ⟨hi, h⟩ := gd_t h
    refine m_l_draft C hi dX6_make_181 ?_
    obtain ⟨r8, qr8, h⟩ := bd_i h
    refine q_callVv C 0 0 0 (c_set qr8) rfl mw_self rfl ok_set in_set lk6_101 rfl (Nat.le_of_ble_eq_true rfl) ⟨Nat.le_of_ble_eq_true rfl, Nat.le_of_ble_eq_true rfl⟩ dX6_make_182 rfl rfl ?_
    refine r_iload_n C 1 rfl dX6_make_185 rfl ?_
    refine r_iconst C (v := 4) dX6_make_186 (by decide) ?_
    refine r_icmp_ne C (tgt := 222) dX6_make_187 (by decide) (fun hc => ?_) (fun hc => ?_)
    · replace h := br_n hc h
      refine r_lv [0, 1, 2, 3] rfl ?_
      exact w_make_L158J222 C h kl kr
    · replace h := br_p hc h
      refine r_aload_n C 0 rfl dX6_make_190 rfl ?_
      refine m_g_draft C dX6_make_191 ?_
      refine r_iload_n C 2 rfl dX6_make_194 rfl ?_
      refine r_aload_n C 0 rfl dX6_make_195 rfl ?_
      obtain ⟨r9, qr9, h⟩ := bd_i h
      refine q_callV C 2 0 0 (c_side qr9) rfl mw_self rfl ok_side in_side lk6_111 rfl (Nat.le_of_ble_eq_true rfl) ⟨Nat.le_of_ble_eq_true rfl, Nat.le_of_ble_eq_true rfl⟩ dX6_make_196 rfl rfl ?_
      refine r_imul C dX6_make_199 ?_
      refine r_iload_n C 3 rfl dX6_make_200 rfl ?_
      refine r_iadd C dX6_make_201 ?_
      obtain ⟨hi, h⟩ := gd_t h
      refine m_l_draft C hi dX6_make_202 ?_
      refine r_aload_n C 0 rfl dX6_make_203 rfl ?_
      refine m_g_draft C dX6_make_204 ?_
      refine r_iload_n C 3 rfl dX6_make_207 rfl ?_
      refine r_aload_n C 0 rfl dX6_make_208 rfl ?_
      obtain ⟨r10, qr10, h⟩ := bd_i h
      refine q_callV C 4 0 0 (c_side qr10) rfl mw_self rfl ok_side in_side lk6_111 rfl (Nat.le_of_ble_eq_true rfl) ⟨Nat.le_of_ble_eq_true rfl, Nat.le_of_ble_eq_true rfl⟩ dX6_make_209 rfl rfl ?_
      refine r_imul C dX6_make_212 ?_
      refine r_iload_n C 2 rfl dX6_make_213 rfl ?_
      refine r_iadd C dX6_make_214 ?_
      obtain ⟨hi, h⟩ := gd_t h
      refine m_l_draft C hi dX6_make_215 ?_
      refine r_leq C (tgt := 222) dX6_make_216 dX6_make_217 (by decide) (fun hc => ?_) (fun hc => ?_)
      · replace h := br_p hc h
        refine r_lv [0, 1, 2, 3] rfl ?_
        exact w_make_L158J222 C h kl kr
      · replace h := br_n hc h
        refine r_iconst C (v := -1) dX6_make_220 (by decide) ?_
        exact r_ireturn C (Eq.symm (kr _ (sm_i h))) dX6_make_221
set_option maxHeartbeats 4000000 in
set_option maxRecDepth 100000 in
theorem w_make_L148 {K : kT} {O : oT} (C : aC K cX6_make RX6 "make" 5 85 0 0 4 (some .int) O) {h0 : Nat} {hp : cH} {sz : Nat} {n : Int32} {p : Int64} {count : Int32} {sorts : Nat → Int32} {rows : Nat → Int64} {hand : Nat → Int64} {gathered : Int32} {gather : Nat → Int32} {paired : Int32} {pairA : Nat → Int32} {pairB : Nat → Int32} {ideal : Int32} {draft : Nat → Int64} {one : Nat → Int64} {two : Nat → Int64} {turned : Nat → Int64} {placeI : Int32} {placeJ : Int32} {formA : Int64} {formB : Int64} {formC : Int64} {l1 : Int32} {v0 : Int32} {v1 : Nat → Int64} {r : ((Nat → Int64) ⊕ (Int32 × Int32 × (Nat → Int32) × (Nat → Int64) × (Nat → Int64) × (Nat → Int64)))} (h : itX (m_make_L148 n count sorts rows draft l1) (v0, v1) = some r) (hr : Sum.elim (fun r => aW K (mw h0 hp n p count sorts rows hand gathered gather paired pairA pairB ideal draft r one two turned placeI placeJ formA formB formC) sz 0 0 234 [(0, .ref h0), (1, .int l1)] []) (fun o => ((some (.int o.1), mw h0 hp n p o.2.1 o.2.2.1 o.2.2.2.1 hand gathered gather paired pairA pairB ideal o.2.2.2.2.1 o.2.2.2.2.2 one two turned placeI placeJ formA formB formC, sz) : oT) = O) r) : aW K (mw h0 hp n p count sorts rows hand gathered gather paired pairA pairB ideal draft v1 one two turned placeI placeJ formA formB formC) sz 0 0 148 [(0, .ref h0), (1, .int l1), (2, .int v0)] [] := by
  refine it_walk (f := m_make_L148 n count sorts rows draft l1) (P := fun s => aW K (mw h0 hp n p count sorts rows hand gathered gather paired pairA pairB ideal draft s.2 one two turned placeI placeJ formA formB formC) sz 0 0 148 [(0, .ref h0), (1, .int l1), (2, .int s.1)] []) (R := fun r => Sum.elim (fun r => aW K (mw h0 hp n p count sorts rows hand gathered gather paired pairA pairB ideal draft r one two turned placeI placeJ formA formB formC) sz 0 0 234 [(0, .ref h0), (1, .int l1)] []) (fun o => ((some (.int o.1), mw h0 hp n p o.2.1 o.2.2.1 o.2.2.2.1 hand gathered gather paired pairA pairB ideal o.2.2.2.2.1 o.2.2.2.2.2 one two turned placeI placeJ formA formB formC, sz) : oT) = O) r) ?_ h hr
  clear h hr
  intro s x h kl kr
  unfold m_make_L148 at h
  refine r_iload_n C 2 rfl dX6_make_148 rfl ?_
  refine r_aload_n C 0 rfl dX6_make_149 rfl ?_
  obtain ⟨r5, qr5, h⟩ := bd_i h
  refine q_callV C 1 0 0 (c_side qr5) rfl mw_self rfl ok_side in_side lk6_111 rfl (Nat.le_of_ble_eq_true rfl) ⟨Nat.le_of_ble_eq_true rfl, Nat.le_of_ble_eq_true rfl⟩ dX6_make_150 rfl rfl ?_
  refine r_icmp_ge C (tgt := 234) dX6_make_153 (by decide) (fun hc => ?_) (fun hc => ?_)
  · replace h := br_p hc h
    refine r_lv [0, 1] rfl ?_
    exact kr _ (sm_i h)
  · replace h := br_n hc h
    refine r_iconst C (v := 0) dX6_make_156 (by decide) ?_
    refine r_istore_n C (lv' := [(3, .int ((0 : Int32))), (0, .ref h0), (1, .int l1), (2, .int s.1)]) dX6_make_157 rfl (by decide) rfl ?_
    refine r_lv [1, 2, 3, 0] rfl ?_
    obtain ⟨r11, qr11, h⟩ := bd_i h
    cases r11 with
    | inl r11 =>
      replace h : _ = some _ := h
      refine w_make_L158 C qr11 ?_
      refine r_iinc C (v := s.1 + 1) (lv' := [(2, .int (s.1 + 1)), (0, .ref h0), (1, .int l1)]) 2 rfl dX6_make_228 rfl (by decide) rfl ?_
      refine r_goto C (tgt := 148) dX6_make_231 (by decide) ?_
      refine r_lv [1, 2, 0] rfl ?_
      exact kl _ (sm_i h)
    | inr o12 =>
      exact w_make_L158 C qr11 (kr _ (sm_i h))
set_option maxHeartbeats 4000000 in
set_option maxRecDepth 100000 in
theorem w_make_J146 {K : kT} {O : oT} (C : aC K cX6_make RX6 "make" 5 85 0 0 4 (some .int) O) {h0 : Nat} {hp : cH} {sz : Nat} {n : Int32} {p : Int64} {count : Int32} {sorts : Nat → Int32} {rows : Nat → Int64} {hand : Nat → Int64} {gathered : Int32} {gather : Nat → Int32} {paired : Int32} {pairA : Nat → Int32} {pairB : Nat → Int32} {ideal : Int32} {draft : Nat → Int64} {frame : Nat → Int64} {one : Nat → Int64} {two : Nat → Int64} {turned : Nat → Int64} {placeI : Int32} {placeJ : Int32} {formA : Int64} {formB : Int64} {formC : Int64} {l1 : Int32} {out : (Int32 × Int32 × (Nat → Int32) × (Nat → Int64) × (Nat → Int64) × (Nat → Int64))} (h : m_make_J146 n p count sorts rows draft frame l1 = some out) (hO : ((some (.int out.1), mw h0 hp n p out.2.1 out.2.2.1 out.2.2.2.1 hand gathered gather paired pairA pairB ideal out.2.2.2.2.1 out.2.2.2.2.2 one two turned placeI placeJ formA formB formC, sz) : oT) = O) : aW K (mw h0 hp n p count sorts rows hand gathered gather paired pairA pairB ideal draft frame one two turned placeI placeJ formA formB formC) sz 0 0 146 [(0, .ref h0), (1, .int l1)] [] := by
  unfold m_make_J146 at h
  refine r_iconst C (v := 0) dX6_make_146 (by decide) ?_
  refine r_istore_n C (lv' := [(2, .int ((0 : Int32))), (0, .ref h0), (1, .int l1)]) dX6_make_147 rfl (by decide) rfl ?_
  refine r_lv [1, 2, 0] rfl ?_
  obtain ⟨r13, qr13, h⟩ := bd_i h
  cases r13 with
  | inl r13 =>
    replace h : _ = some _ := h
    refine w_make_L148 C qr13 ?_
    refine r_iload_n C 1 rfl dX6_make_234 rfl ?_
    refine r_iconst C (v := 3) dX6_make_235 (by decide) ?_
    refine r_icmp_ne C (tgt := 266) dX6_make_236 (by decide) (fun hc => ?_) (fun hc => ?_)
    · replace h := br_n hc h
      refine r_aload_n C 0 rfl dX6_make_266 rfl ?_
      refine r_iload_n C 1 rfl dX6_make_267 rfl ?_
      obtain ⟨r14, qr14, h⟩ := bd_i h
      refine q_callV C 0 0 0 (c_made qr14) rfl mw_self rfl ok_made in_made lk6_133 rfl (Nat.le_of_ble_eq_true rfl) ⟨Nat.le_of_ble_eq_true rfl, Nat.le_of_ble_eq_true rfl⟩ dX6_make_268 rfl rfl ?_
      obtain rfl := sm_i h
      exact r_ireturn C (Eq.symm hO) dX6_make_271
    · replace h := br_p hc h
      refine r_aload_n C 0 rfl dX6_make_239 rfl ?_
      refine r_aload_n C 0 rfl dX6_make_240 rfl ?_
      obtain ⟨r15, qr15, h⟩ := bd_i h
      refine q_callV C 1 0 0 (c_side qr15) rfl mw_self rfl ok_side in_side lk6_111 rfl (Nat.le_of_ble_eq_true rfl) ⟨Nat.le_of_ble_eq_true rfl, Nat.le_of_ble_eq_true rfl⟩ dX6_make_241 rfl rfl ?_
      refine r_aload_n C 0 rfl dX6_make_244 rfl ?_
      obtain ⟨r16, qr16, h⟩ := bd_i h
      refine q_callV C 2 0 0 (c_side qr16) rfl mw_self rfl ok_side in_side lk6_111 rfl (Nat.le_of_ble_eq_true rfl) ⟨Nat.le_of_ble_eq_true rfl, Nat.le_of_ble_eq_true rfl⟩ dX6_make_245 rfl rfl ?_
      refine r_aload_n C 0 rfl dX6_make_248 rfl ?_
      obtain ⟨r17, qr17, h⟩ := bd_i h
      refine q_callV C 3 0 0 (c_side qr17) rfl mw_self rfl ok_side in_side lk6_111 rfl (Nat.le_of_ble_eq_true rfl) ⟨Nat.le_of_ble_eq_true rfl, Nat.le_of_ble_eq_true rfl⟩ dX6_make_249 rfl rfl ?_
      obtain ⟨r18, qr18, h⟩ := bd_i h
      refine q_callV C 0 0 0 (c_reduce qr18) rfl mw_self rfl ok_reduce in_reduce lk6_115 rfl (Nat.le_of_ble_eq_true rfl) ⟨Nat.le_of_ble_eq_true rfl, Nat.le_of_ble_eq_true rfl⟩ dX6_make_252 rfl rfl ?_
      refine r_aload_n C 0 rfl dX6_make_255 rfl ?_
      obtain ⟨r19, qr19, h⟩ := bd_i h
      refine q_callV C 1 0 0 (c_side qr19) rfl mw_self rfl ok_side in_side lk6_111 rfl (Nat.le_of_ble_eq_true rfl) ⟨Nat.le_of_ble_eq_true rfl, Nat.le_of_ble_eq_true rfl⟩ dX6_make_256 rfl rfl ?_
      refine r_icmp_ge C (tgt := 266) dX6_make_259 (by decide) (fun hc => ?_) (fun hc => ?_)
      · replace h := br_p hc h
        refine r_aload_n C 0 rfl dX6_make_266 rfl ?_
        refine r_iload_n C 1 rfl dX6_make_267 rfl ?_
        obtain ⟨r20, qr20, h⟩ := bd_i h
        refine q_callV C 0 0 0 (c_made qr20) rfl mw_self rfl ok_made in_made lk6_133 rfl (Nat.le_of_ble_eq_true rfl) ⟨Nat.le_of_ble_eq_true rfl, Nat.le_of_ble_eq_true rfl⟩ dX6_make_268 rfl rfl ?_
        obtain rfl := sm_i h
        exact r_ireturn C (Eq.symm hO) dX6_make_271
      · replace h := br_n hc h
        refine r_iconst C (v := -1) dX6_make_262 (by decide) ?_
        refine r_goto C (tgt := 271) dX6_make_263 (by decide) ?_
        obtain rfl := sm_i h
        exact r_ireturn C (Eq.symm hO) dX6_make_271
  | inr o21 =>
    obtain rfl := sm_i h
    exact w_make_L148 C qr13 hO
set_option maxHeartbeats 4000000 in
set_option maxRecDepth 100000 in
theorem w_make_J25 {K : kT} {O : oT} (C : aC K cX6_make RX6 "make" 5 85 0 0 4 (some .int) O) {h0 : Nat} {hp : cH} {sz : Nat} {n : Int32} {p : Int64} {count : Int32} {sorts : Nat → Int32} {rows : Nat → Int64} {hand : Nat → Int64} {gathered : Int32} {gather : Nat → Int32} {paired : Int32} {pairA : Nat → Int32} {pairB : Nat → Int32} {ideal : Int32} {draft : Nat → Int64} {frame : Nat → Int64} {one : Nat → Int64} {two : Nat → Int64} {turned : Nat → Int64} {placeI : Int32} {placeJ : Int32} {formA : Int64} {formB : Int64} {formC : Int64} {l1 : Int32} {out : (Int32 × Int32 × (Nat → Int32) × (Nat → Int64) × (Nat → Int64) × (Nat → Int64))} (h : m_make_J25 n p count sorts rows hand draft frame l1 = some out) (hO : ((some (.int out.1), mw h0 hp n p out.2.1 out.2.2.1 out.2.2.2.1 hand gathered gather paired pairA pairB ideal out.2.2.2.2.1 out.2.2.2.2.2 one two turned placeI placeJ formA formB formC, sz) : oT) = O) : aW K (mw h0 hp n p count sorts rows hand gathered gather paired pairA pairB ideal draft frame one two turned placeI placeJ formA formB formC) sz 0 0 25 [(0, .ref h0), (1, .int l1)] [] := by
  unfold m_make_J25 at h
  refine r_aload_n C 0 rfl dX6_make_25 rfl ?_
  obtain ⟨r1, qr1, h⟩ := bd_i h
  refine q_callVv C 0 0 0 (c_clear qr1) rfl mw_self rfl ok_clear in_clear lk6_136 rfl (Nat.le_of_ble_eq_true rfl) ⟨Nat.le_of_ble_eq_true rfl, Nat.le_of_ble_eq_true rfl⟩ dX6_make_26 rfl rfl ?_
  refine r_iconst C (v := 0) dX6_make_29 (by decide) ?_
  refine r_istore_n C (lv' := [(2, .int ((0 : Int32))), (0, .ref h0), (1, .int l1)]) dX6_make_30 rfl (by decide) rfl ?_
  refine r_lv [1, 2, 0] rfl ?_
  obtain ⟨r3, qr3, h⟩ := bd_i h
  refine w_make_L31 C qr3 ?_
  refine r_aload_n C 0 rfl dX6_make_58 rfl ?_
  refine r_iload_n C 1 rfl dX6_make_59 rfl ?_
  obtain ⟨r4, qr4, h⟩ := bd_i h
  refine q_callV C 0 0 0 (c_isNothing qr4) rfl mw_self rfl ok_isNothing in_isNothing lk6_130 rfl (Nat.le_of_ble_eq_true rfl) ⟨Nat.le_of_ble_eq_true rfl, Nat.le_of_ble_eq_true rfl⟩ dX6_make_60 rfl rfl ?_
  refine r_if_eq C (tgt := 68) dX6_make_63 (by decide) (fun hc => ?_) (fun hc => ?_)
  · replace h := br_p hc h
    refine r_iload_n C 1 rfl dX6_make_68 rfl ?_
    refine r_iconst C (v := 1) dX6_make_69 (by decide) ?_
    refine r_icmp_ne C (tgt := 146) dX6_make_70 (by decide) (fun hc => ?_) (fun hc => ?_)
    · replace h := br_n hc h
      refine r_lv [0, 1] rfl ?_
      exact w_make_J146 C h hO
    · replace h := br_p hc h
      refine r_aload_n C 0 rfl dX6_make_73 rfl ?_
      refine m_g_n C dX6_make_74 ?_
      refine r_iconst C (v := 3) dX6_make_77 (by decide) ?_
      refine r_icmp_ne C (tgt := 146) dX6_make_78 (by decide) (fun hc => ?_) (fun hc => ?_)
      · replace h := br_n hc h
        refine r_lv [0, 1] rfl ?_
        exact w_make_J146 C h hO
      · replace h := br_p hc h
        refine r_aload_n C 0 rfl dX6_make_81 rfl ?_
        refine r_aload_n C 0 rfl dX6_make_82 rfl ?_
        refine r_aload_n C 0 rfl dX6_make_83 rfl ?_
        refine m_g_draft C dX6_make_84 ?_
        refine r_iconst C (v := 0) dX6_make_87 (by decide) ?_
        refine m_l_draft C (by decide) dX6_make_88 ?_
        refine r_aload_n C 0 rfl dX6_make_89 rfl ?_
        refine m_g_draft C dX6_make_90 ?_
        refine r_iconst C (v := 5) dX6_make_93 (by decide) ?_
        refine m_l_draft C (by decide) dX6_make_94 ?_
        obtain ⟨r22, qr22, h⟩ := bd_i h
        refine q_callV C 1 0 0 (c_times qr22) rfl mw_self rfl ok_times in_times lk6_76 rfl (Nat.le_of_ble_eq_true rfl) ⟨Nat.le_of_ble_eq_true rfl, Nat.le_of_ble_eq_true rfl⟩ dX6_make_95 rfl rfl ?_
        refine r_aload_n C 0 rfl dX6_make_98 rfl ?_
        refine r_aload_n C 0 rfl dX6_make_99 rfl ?_
        refine m_g_draft C dX6_make_100 ?_
        refine r_iconst C (v := 2) dX6_make_103 (by decide) ?_
        refine m_l_draft C (by decide) dX6_make_104 ?_
        refine r_aload_n C 0 rfl dX6_make_105 rfl ?_
        refine m_g_draft C dX6_make_106 ?_
        refine r_iconst C (v := 3) dX6_make_109 (by decide) ?_
        refine m_l_draft C (by decide) dX6_make_110 ?_
        obtain ⟨r23, qr23, h⟩ := bd_i h
        refine q_callV C 3 0 0 (c_times qr23) rfl mw_self rfl ok_times in_times lk6_76 rfl (Nat.le_of_ble_eq_true rfl) ⟨Nat.le_of_ble_eq_true rfl, Nat.le_of_ble_eq_true rfl⟩ dX6_make_111 rfl rfl ?_
        refine r_ladd C dX6_make_114 ?_
        refine r_aload_n C 0 rfl dX6_make_115 rfl ?_
        refine m_g_p C dX6_make_116 ?_
        obtain ⟨hne, h⟩ := gd_n h
        refine r_lrem C dX6_make_119 hne ?_
        refine r_aload_n C 0 rfl dX6_make_120 rfl ?_
        refine r_aload_n C 0 rfl dX6_make_121 rfl ?_
        refine m_g_draft C dX6_make_122 ?_
        refine r_iconst C (v := 1) dX6_make_125 (by decide) ?_
        refine m_l_draft C (by decide) dX6_make_126 ?_
        refine r_aload_n C 0 rfl dX6_make_127 rfl ?_
        refine m_g_draft C dX6_make_128 ?_
        refine r_iconst C (v := 4) dX6_make_131 (by decide) ?_
        refine m_l_draft C (by decide) dX6_make_132 ?_
        obtain ⟨r24, qr24, h⟩ := bd_i h
        refine q_callV C 3 0 0 (c_times qr24) rfl mw_self rfl ok_times in_times lk6_76 rfl (Nat.le_of_ble_eq_true rfl) ⟨Nat.le_of_ble_eq_true rfl, Nat.le_of_ble_eq_true rfl⟩ dX6_make_133 rfl rfl ?_
        obtain ⟨r25, qr25, h⟩ := bd_i h
        refine q_callV C 0 0 0 (c_less qr25) rfl mw_self rfl ok_less in_less lk6_105 rfl (Nat.le_of_ble_eq_true rfl) ⟨Nat.le_of_ble_eq_true rfl, Nat.le_of_ble_eq_true rfl⟩ dX6_make_136 rfl rfl ?_
        refine r_lconst C (v := 0) dX6_make_139 (by decide) ?_
        refine r_leq C (tgt := 146) dX6_make_140 dX6_make_141 (by decide) (fun hc => ?_) (fun hc => ?_)
        · replace h := br_p hc h
          refine r_lv [0, 1] rfl ?_
          exact w_make_J146 C h hO
        · replace h := br_n hc h
          refine r_iconst C (v := -1) dX6_make_144 (by decide) ?_
          obtain rfl := sm_i h
          exact r_ireturn C (Eq.symm hO) dX6_make_145
  · replace h := br_n hc h
    refine r_iconst C (v := -1) dX6_make_66 (by decide) ?_
    obtain rfl := sm_i h
    exact r_ireturn C (Eq.symm hO) dX6_make_67
set_option maxHeartbeats 4000000 in
set_option maxRecDepth 100000 in
theorem c_make {G : gT} {h0 : Nat} {hp : cH} {sz : Nat} {n : Int32} {p : Int64} {count : Int32} {sorts : Nat → Int32} {rows : Nat → Int64} {hand : Nat → Int64} {gathered : Int32} {gather : Nat → Int32} {paired : Int32} {pairA : Nat → Int32} {pairB : Nat → Int32} {ideal : Int32} {draft : Nat → Int64} {frame : Nat → Int64} {one : Nat → Int64} {two : Nat → Int64} {turned : Nat → Int64} {placeI : Int32} {placeJ : Int32} {formA : Int64} {formB : Int64} {formC : Int64} {x1 : Int32} {out : (Int32 × Int32 × (Nat → Int32) × (Nat → Int64) × (Nat → Int64) × (Nat → Int64))} (h : m_make n p count sorts rows hand draft frame x1 = some out) : aM G yX6_make cX6_make 4 (some .int) 5 85 0 0 [.ref h0, .int x1] (mw h0 hp n p count sorts rows hand gathered gather paired pairA pairB ideal draft frame one two turned placeI placeJ formA formB formC) sz ((some (.int out.1), mw h0 hp n p out.2.1 out.2.2.1 out.2.2.2.1 hand gathered gather paired pairA pairB ideal out.2.2.2.2.1 out.2.2.2.2.2 one two turned placeI placeJ formA formB formC, sz) : oT) := by
  refine aM.of RX6 (by decide) rfl (Nat.le_of_ble_eq_true rfl) (fun K C => ?_)
  have hO : ((some (.int out.1), mw h0 hp n p out.2.1 out.2.2.1 out.2.2.2.1 hand gathered gather paired pairA pairB ideal out.2.2.2.2.1 out.2.2.2.2.2 one two turned placeI placeJ formA formB formC, sz) : oT) = ((some (.int out.1), mw h0 hp n p out.2.1 out.2.2.1 out.2.2.2.1 hand gathered gather paired pairA pairB ideal out.2.2.2.2.1 out.2.2.2.2.2 one two turned placeI placeJ formA formB formC, sz) : oT) := rfl
  refine r_lve (lv' := [(0, .ref h0), (1, .int x1)]) rfl ?_
  unfold m_make at h
  refine r_iload_n C 1 rfl dX6_make_0 rfl ?_
  refine r_if_lt C (tgt := 22) dX6_make_1 (by decide) (fun hc => ?_) (fun hc => ?_)
  · replace h := br_p hc h
    refine r_bipush C (v := -2) dX6_make_22 (by decide) ?_
    obtain rfl := sm_i h
    exact r_ireturn C (Eq.symm hO) dX6_make_24
  · replace h := br_n hc h
    refine r_iload_n C 1 rfl dX6_make_4 rfl ?_
    refine r_iconst C (v := 4) dX6_make_5 (by decide) ?_
    refine r_icmp_gt C (tgt := 22) dX6_make_6 (by decide) (fun hc => ?_) (fun hc => ?_)
    · replace h := br_p hc h
      refine r_bipush C (v := -2) dX6_make_22 (by decide) ?_
      obtain rfl := sm_i h
      exact r_ireturn C (Eq.symm hO) dX6_make_24
    · replace h := br_n hc h
      refine r_iload_n C 1 rfl dX6_make_9 rfl ?_
      refine r_iconst C (v := 2) dX6_make_10 (by decide) ?_
      refine r_icmp_ne C (tgt := 25) dX6_make_11 (by decide) (fun hc => ?_) (fun hc => ?_)
      · replace h := br_n hc h
        refine r_lv [0, 1] rfl ?_
        exact w_make_J25 C h hO
      · replace h := br_p hc h
        refine r_aload_n C 0 rfl dX6_make_14 rfl ?_
        refine m_g_n C dX6_make_15 ?_
        refine r_iconst C (v := 2) dX6_make_18 (by decide) ?_
        refine r_icmp_ne C (tgt := 25) dX6_make_19 (by decide) (fun hc => ?_) (fun hc => ?_)
        · replace h := br_n hc h
          refine r_lv [0, 1] rfl ?_
          exact w_make_J25 C h hO
        · replace h := br_p hc h
          refine r_bipush C (v := -2) dX6_make_22 (by decide) ?_
          obtain rfl := sm_i h
          exact r_ireturn C (Eq.symm hO) dX6_make_24
noncomputable def m_isObject (count : Int32) (x1 : Int32) : Option Int32 := if x1 < 0 then (some ((0 : Int32))) else (if count ≤ x1 then (some ((0 : Int32))) else (some ((1 : Int32))))
set_option maxHeartbeats 4000000 in
set_option maxRecDepth 100000 in
theorem c_isObject {G : gT} {h0 : Nat} {hp : cH} {sz : Nat} {n : Int32} {p : Int64} {count : Int32} {sorts : Nat → Int32} {rows : Nat → Int64} {hand : Nat → Int64} {gathered : Int32} {gather : Nat → Int32} {paired : Int32} {pairA : Nat → Int32} {pairB : Nat → Int32} {ideal : Int32} {draft : Nat → Int64} {frame : Nat → Int64} {one : Nat → Int64} {two : Nat → Int64} {turned : Nat → Int64} {placeI : Int32} {placeJ : Int32} {formA : Int64} {formB : Int64} {formC : Int64} {x1 : Int32} {out : Int32} (h : m_isObject count x1 = some out) : aM G yX6_isObject cX6_isObject 2 (some .boolean) 0 0 0 0 [.ref h0, .int x1] (mw h0 hp n p count sorts rows hand gathered gather paired pairA pairB ideal draft frame one two turned placeI placeJ formA formB formC) sz ((some (.int out), mw h0 hp n p count sorts rows hand gathered gather paired pairA pairB ideal draft frame one two turned placeI placeJ formA formB formC, sz) : oT) := by
  refine aM.of RX6 (by decide) rfl (Nat.le_of_ble_eq_true rfl) (fun K C => ?_)
  have hO : ((some (.int out), mw h0 hp n p count sorts rows hand gathered gather paired pairA pairB ideal draft frame one two turned placeI placeJ formA formB formC, sz) : oT) = ((some (.int out), mw h0 hp n p count sorts rows hand gathered gather paired pairA pairB ideal draft frame one two turned placeI placeJ formA formB formC, sz) : oT) := rfl
  refine r_lve (lv' := [(0, .ref h0), (1, .int x1)]) rfl ?_
  unfold m_isObject at h
  refine r_iload_n C 1 rfl dX6_isObject_0 rfl ?_
  refine r_if_lt C (tgt := 16) dX6_isObject_1 (by decide) (fun hc => ?_) (fun hc => ?_)
  · replace h := br_p hc h
    refine r_iconst C (v := 0) dX6_isObject_16 (by decide) ?_
    obtain rfl := sm_i h
    exact r_zreturn C rfl (Eq.symm hO) dX6_isObject_17
  · replace h := br_n hc h
    refine r_iload_n C 1 rfl dX6_isObject_4 rfl ?_
    refine r_aload_n C 0 rfl dX6_isObject_5 rfl ?_
    refine m_g_count C dX6_isObject_6 ?_
    refine r_icmp_ge C (tgt := 16) dX6_isObject_9 (by decide) (fun hc => ?_) (fun hc => ?_)
    · replace h := br_p hc h
      refine r_iconst C (v := 0) dX6_isObject_16 (by decide) ?_
      obtain rfl := sm_i h
      exact r_zreturn C rfl (Eq.symm hO) dX6_isObject_17
    · replace h := br_n hc h
      refine r_iconst C (v := 1) dX6_isObject_12 (by decide) ?_
      refine r_goto C (tgt := 17) dX6_isObject_13 (by decide) ?_
      obtain rfl := sm_i h
      exact r_zreturn C rfl (Eq.symm hO) dX6_isObject_17
noncomputable def m_number (n : Int32) (count : Int32) (sorts : Nat → Int32) (rows : Nat → Int64) (x1 : Int32) (x2 : Int32) : Option Int32 := (m_isObject count x1).bind fun r1 => if r1 = 0 then (some ((-2 : Int32))) else (if x2 < 0 then (some ((-2 : Int32))) else (if gi x1 60 then (m_width n (sorts x1.toNatClampNeg)).bind fun r2 => if r2 ≤ x2 then (some ((-2 : Int32))) else ((m_of rows x1 x2).bind fun r3 => some r3.toInt32) else none))
set_option maxHeartbeats 4000000 in
set_option maxRecDepth 100000 in
theorem c_number {G : gT} {h0 : Nat} {hp : cH} {sz : Nat} {n : Int32} {p : Int64} {count : Int32} {sorts : Nat → Int32} {rows : Nat → Int64} {hand : Nat → Int64} {gathered : Int32} {gather : Nat → Int32} {paired : Int32} {pairA : Nat → Int32} {pairB : Nat → Int32} {ideal : Int32} {draft : Nat → Int64} {frame : Nat → Int64} {one : Nat → Int64} {two : Nat → Int64} {turned : Nat → Int64} {placeI : Int32} {placeJ : Int32} {formA : Int64} {formB : Int64} {formC : Int64} {x1 : Int32} {x2 : Int32} {out : Int32} (h : m_number n count sorts rows x1 x2 = some out) : aM G yX6_number cX6_number 3 (some .int) 2 27 0 0 [.ref h0, .int x1, .int x2] (mw h0 hp n p count sorts rows hand gathered gather paired pairA pairB ideal draft frame one two turned placeI placeJ formA formB formC) sz ((some (.int out), mw h0 hp n p count sorts rows hand gathered gather paired pairA pairB ideal draft frame one two turned placeI placeJ formA formB formC, sz) : oT) := by
  refine aM.of RX6 (by decide) rfl (Nat.le_of_ble_eq_true rfl) (fun K C => ?_)
  have hO : ((some (.int out), mw h0 hp n p count sorts rows hand gathered gather paired pairA pairB ideal draft frame one two turned placeI placeJ formA formB formC, sz) : oT) = ((some (.int out), mw h0 hp n p count sorts rows hand gathered gather paired pairA pairB ideal draft frame one two turned placeI placeJ formA formB formC, sz) : oT) := rfl
  refine r_lve (lv' := [(0, .ref h0), (1, .int x1), (2, .int x2)]) rfl ?_
  unfold m_number at h
  refine r_aload_n C 0 rfl dX6_number_0 rfl ?_
  refine r_iload_n C 1 rfl dX6_number_1 rfl ?_
  obtain ⟨r1, qr1, h⟩ := bd_i h
  refine q_callV C 0 0 0 (c_isObject qr1) rfl mw_self rfl ok_isObject in_isObject lk6_119 rfl (Nat.le_of_ble_eq_true rfl) ⟨Nat.le_of_ble_eq_true rfl, Nat.le_of_ble_eq_true rfl⟩ dX6_number_2 rfl rfl ?_
  refine r_if_eq C (tgt := 36) dX6_number_5 (by decide) (fun hc => ?_) (fun hc => ?_)
  · replace h := br_p hc h
    refine r_bipush C (v := -2) dX6_number_36 (by decide) ?_
    obtain rfl := sm_i h
    exact r_ireturn C (Eq.symm hO) dX6_number_38
  · replace h := br_n hc h
    refine r_iload_n C 2 rfl dX6_number_8 rfl ?_
    refine r_if_lt C (tgt := 36) dX6_number_9 (by decide) (fun hc => ?_) (fun hc => ?_)
    · replace h := br_p hc h
      refine r_bipush C (v := -2) dX6_number_36 (by decide) ?_
      obtain rfl := sm_i h
      exact r_ireturn C (Eq.symm hO) dX6_number_38
    · replace h := br_n hc h
      refine r_iload_n C 2 rfl dX6_number_12 rfl ?_
      refine r_aload_n C 0 rfl dX6_number_13 rfl ?_
      refine r_aload_n C 0 rfl dX6_number_14 rfl ?_
      refine m_g_sorts C dX6_number_15 ?_
      refine r_iload_n C 1 rfl dX6_number_18 rfl ?_
      obtain ⟨hi, h⟩ := gd_t h
      refine m_l_sorts C hi dX6_number_19 ?_
      obtain ⟨r2, qr2, h⟩ := bd_i h
      refine q_callV C 1 0 0 (c_width qr2) rfl mw_self rfl ok_width in_width lk6_122 rfl (Nat.le_of_ble_eq_true rfl) ⟨Nat.le_of_ble_eq_true rfl, Nat.le_of_ble_eq_true rfl⟩ dX6_number_20 rfl rfl ?_
      refine r_icmp_ge C (tgt := 36) dX6_number_23 (by decide) (fun hc => ?_) (fun hc => ?_)
      · replace h := br_p hc h
        refine r_bipush C (v := -2) dX6_number_36 (by decide) ?_
        obtain rfl := sm_i h
        exact r_ireturn C (Eq.symm hO) dX6_number_38
      · replace h := br_n hc h
        refine r_aload_n C 0 rfl dX6_number_26 rfl ?_
        refine r_iload_n C 1 rfl dX6_number_27 rfl ?_
        refine r_iload_n C 2 rfl dX6_number_28 rfl ?_
        obtain ⟨r3, qr3, h⟩ := bd_i h
        refine q_callV C 0 0 0 (c_of qr3) rfl mw_self rfl ok_of in_of lk6_108 rfl (Nat.le_of_ble_eq_true rfl) ⟨Nat.le_of_ble_eq_true rfl, Nat.le_of_ble_eq_true rfl⟩ dX6_number_29 rfl rfl ?_
        refine r_l2i C dX6_number_32 ?_
        refine r_goto C (tgt := 38) dX6_number_33 (by decide) ?_
        obtain rfl := sm_i h
        exact r_ireturn C (Eq.symm hO) dX6_number_38
noncomputable def m_sort (count : Int32) (sorts : Nat → Int32) (x1 : Int32) : Option Int32 := (m_isObject count x1).bind fun r1 => if r1 = 0 then (some ((-2 : Int32))) else (if gi x1 60 then some (sorts x1.toNatClampNeg) else none)
set_option maxHeartbeats 4000000 in
set_option maxRecDepth 100000 in
theorem c_sort {G : gT} {h0 : Nat} {hp : cH} {sz : Nat} {n : Int32} {p : Int64} {count : Int32} {sorts : Nat → Int32} {rows : Nat → Int64} {hand : Nat → Int64} {gathered : Int32} {gather : Nat → Int32} {paired : Int32} {pairA : Nat → Int32} {pairB : Nat → Int32} {ideal : Int32} {draft : Nat → Int64} {frame : Nat → Int64} {one : Nat → Int64} {two : Nat → Int64} {turned : Nat → Int64} {placeI : Int32} {placeJ : Int32} {formA : Int64} {formB : Int64} {formC : Int64} {x1 : Int32} {out : Int32} (h : m_sort count sorts x1 = some out) : aM G yX6_sort cX6_sort 2 (some .int) 1 13 0 0 [.ref h0, .int x1] (mw h0 hp n p count sorts rows hand gathered gather paired pairA pairB ideal draft frame one two turned placeI placeJ formA formB formC) sz ((some (.int out), mw h0 hp n p count sorts rows hand gathered gather paired pairA pairB ideal draft frame one two turned placeI placeJ formA formB formC, sz) : oT) := by
  refine aM.of RX6 (by decide) rfl (Nat.le_of_ble_eq_true rfl) (fun K C => ?_)
  have hO : ((some (.int out), mw h0 hp n p count sorts rows hand gathered gather paired pairA pairB ideal draft frame one two turned placeI placeJ formA formB formC, sz) : oT) = ((some (.int out), mw h0 hp n p count sorts rows hand gathered gather paired pairA pairB ideal draft frame one two turned placeI placeJ formA formB formC, sz) : oT) := rfl
  refine r_lve (lv' := [(0, .ref h0), (1, .int x1)]) rfl ?_
  unfold m_sort at h
  refine r_aload_n C 0 rfl dX6_sort_0 rfl ?_
  refine r_iload_n C 1 rfl dX6_sort_1 rfl ?_
  obtain ⟨r1, qr1, h⟩ := bd_i h
  refine q_callV C 0 0 0 (c_isObject qr1) rfl mw_self rfl ok_isObject in_isObject lk6_119 rfl (Nat.le_of_ble_eq_true rfl) ⟨Nat.le_of_ble_eq_true rfl, Nat.le_of_ble_eq_true rfl⟩ dX6_sort_2 rfl rfl ?_
  refine r_if_eq C (tgt := 17) dX6_sort_5 (by decide) (fun hc => ?_) (fun hc => ?_)
  · replace h := br_p hc h
    refine r_bipush C (v := -2) dX6_sort_17 (by decide) ?_
    obtain rfl := sm_i h
    exact r_ireturn C (Eq.symm hO) dX6_sort_19
  · replace h := br_n hc h
    refine r_aload_n C 0 rfl dX6_sort_8 rfl ?_
    refine m_g_sorts C dX6_sort_9 ?_
    refine r_iload_n C 1 rfl dX6_sort_12 rfl ?_
    obtain ⟨hi, h⟩ := gd_t h
    refine m_l_sorts C hi dX6_sort_13 ?_
    refine r_goto C (tgt := 19) dX6_sort_14 (by decide) ?_
    obtain rfl := sm_i h
    exact r_ireturn C (Eq.symm hO) dX6_sort_19
noncomputable def m_is (count : Int32) (sorts : Nat → Int32) (x1 : Int32) (x2 : Int32) : Option Int32 := (m_isObject count x1).bind fun r1 => if r1 = 0 then (some ((0 : Int32))) else (if gi x1 60 then if (sorts x1.toNatClampNeg) = x2 then (some ((1 : Int32))) else (some ((0 : Int32))) else none)
set_option maxHeartbeats 4000000 in
set_option maxRecDepth 100000 in
theorem c_is {G : gT} {h0 : Nat} {hp : cH} {sz : Nat} {n : Int32} {p : Int64} {count : Int32} {sorts : Nat → Int32} {rows : Nat → Int64} {hand : Nat → Int64} {gathered : Int32} {gather : Nat → Int32} {paired : Int32} {pairA : Nat → Int32} {pairB : Nat → Int32} {ideal : Int32} {draft : Nat → Int64} {frame : Nat → Int64} {one : Nat → Int64} {two : Nat → Int64} {turned : Nat → Int64} {placeI : Int32} {placeJ : Int32} {formA : Int64} {formB : Int64} {formC : Int64} {x1 : Int32} {x2 : Int32} {out : Int32} (h : m_is count sorts x1 x2 = some out) : aM G yX6_is cX6_is 3 (some .boolean) 1 13 0 0 [.ref h0, .int x1, .int x2] (mw h0 hp n p count sorts rows hand gathered gather paired pairA pairB ideal draft frame one two turned placeI placeJ formA formB formC) sz ((some (.int out), mw h0 hp n p count sorts rows hand gathered gather paired pairA pairB ideal draft frame one two turned placeI placeJ formA formB formC, sz) : oT) := by
  refine aM.of RX6 (by decide) rfl (Nat.le_of_ble_eq_true rfl) (fun K C => ?_)
  have hO : ((some (.int out), mw h0 hp n p count sorts rows hand gathered gather paired pairA pairB ideal draft frame one two turned placeI placeJ formA formB formC, sz) : oT) = ((some (.int out), mw h0 hp n p count sorts rows hand gathered gather paired pairA pairB ideal draft frame one two turned placeI placeJ formA formB formC, sz) : oT) := rfl
  refine r_lve (lv' := [(0, .ref h0), (1, .int x1), (2, .int x2)]) rfl ?_
  unfold m_is at h
  refine r_aload_n C 0 rfl dX6_is_0 rfl ?_
  refine r_iload_n C 1 rfl dX6_is_1 rfl ?_
  obtain ⟨r1, qr1, h⟩ := bd_i h
  refine q_callV C 0 0 0 (c_isObject qr1) rfl mw_self rfl ok_isObject in_isObject lk6_119 rfl (Nat.le_of_ble_eq_true rfl) ⟨Nat.le_of_ble_eq_true rfl, Nat.le_of_ble_eq_true rfl⟩ dX6_is_2 rfl rfl ?_
  refine r_if_eq C (tgt := 22) dX6_is_5 (by decide) (fun hc => ?_) (fun hc => ?_)
  · replace h := br_p hc h
    refine r_iconst C (v := 0) dX6_is_22 (by decide) ?_
    obtain rfl := sm_i h
    exact r_zreturn C rfl (Eq.symm hO) dX6_is_23
  · replace h := br_n hc h
    refine r_aload_n C 0 rfl dX6_is_8 rfl ?_
    refine m_g_sorts C dX6_is_9 ?_
    refine r_iload_n C 1 rfl dX6_is_12 rfl ?_
    obtain ⟨hi, h⟩ := gd_t h
    refine m_l_sorts C hi dX6_is_13 ?_
    refine r_iload_n C 2 rfl dX6_is_14 rfl ?_
    refine r_icmp_ne C (tgt := 22) dX6_is_15 (by decide) (fun hc => ?_) (fun hc => ?_)
    · replace h := br_n hc h
      refine r_iconst C (v := 0) dX6_is_22 (by decide) ?_
      obtain rfl := sm_i h
      exact r_zreturn C rfl (Eq.symm hO) dX6_is_23
    · replace h := br_p hc h
      refine r_iconst C (v := 1) dX6_is_18 (by decide) ?_
      refine r_goto C (tgt := 23) dX6_is_19 (by decide) ?_
      obtain rfl := sm_i h
      exact r_zreturn C rfl (Eq.symm hO) dX6_is_23
noncomputable def m_takeOne_L2 (n : Int32) (rows : Nat → Int64) (l1 : Int32) (s : (Int32 × (Nat → Int64))) : Option ((Int32 × (Nat → Int64)) ⊕ (Nat → Int64)) := (m_side n).bind fun r1 => if r1 ≤ s.1 then (some (.inr s.2)) else ((m_of rows l1 s.1).bind fun r2 => if gi s.1 16 then some (.inl (s.1 + 1, vp_updL s.2 s.1.toNatClampNeg r2)) else none)
noncomputable def m_takeOne (n : Int32) (rows : Nat → Int64) (one : Nat → Int64) (x1 : Int32) : Option (Nat → Int64) := (itX (m_takeOne_L2 n rows x1) ((0 : Int32), one)).bind fun r3 => some r3
set_option maxHeartbeats 4000000 in
set_option maxRecDepth 100000 in
theorem w_takeOne_L2 {K : kT} {O : oT} (C : aC K cX6_takeOne RX6 "takeOne" 1 16 0 0 3 none O) {h0 : Nat} {hp : cH} {sz : Nat} {n : Int32} {p : Int64} {count : Int32} {sorts : Nat → Int32} {rows : Nat → Int64} {hand : Nat → Int64} {gathered : Int32} {gather : Nat → Int32} {paired : Int32} {pairA : Nat → Int32} {pairB : Nat → Int32} {ideal : Int32} {draft : Nat → Int64} {frame : Nat → Int64} {two : Nat → Int64} {turned : Nat → Int64} {placeI : Int32} {placeJ : Int32} {formA : Int64} {formB : Int64} {formC : Int64} {l1 : Int32} {v0 : Int32} {v1 : Nat → Int64} {r : (Nat → Int64)} (h : itX (m_takeOne_L2 n rows l1) (v0, v1) = some r) (hr : aW K (mw h0 hp n p count sorts rows hand gathered gather paired pairA pairB ideal draft frame r two turned placeI placeJ formA formB formC) sz 0 0 28 [] []) : aW K (mw h0 hp n p count sorts rows hand gathered gather paired pairA pairB ideal draft frame v1 two turned placeI placeJ formA formB formC) sz 0 0 2 [(0, .ref h0), (1, .int l1), (2, .int v0)] [] := by
  refine it_walk (f := m_takeOne_L2 n rows l1) (P := fun s => aW K (mw h0 hp n p count sorts rows hand gathered gather paired pairA pairB ideal draft frame s.2 two turned placeI placeJ formA formB formC) sz 0 0 2 [(0, .ref h0), (1, .int l1), (2, .int s.1)] []) (R := fun r => aW K (mw h0 hp n p count sorts rows hand gathered gather paired pairA pairB ideal draft frame r two turned placeI placeJ formA formB formC) sz 0 0 28 [] []) ?_ h hr
  clear h hr
  intro s x h kl kr
  unfold m_takeOne_L2 at h
  refine r_iload_n C 2 rfl dX6_takeOne_2 rfl ?_
  refine r_aload_n C 0 rfl dX6_takeOne_3 rfl ?_
  obtain ⟨r1, qr1, h⟩ := bd_i h
  refine q_callV C 1 0 0 (c_side qr1) rfl mw_self rfl ok_side in_side lk6_111 rfl (Nat.le_of_ble_eq_true rfl) ⟨Nat.le_of_ble_eq_true rfl, Nat.le_of_ble_eq_true rfl⟩ dX6_takeOne_4 rfl rfl ?_
  refine r_icmp_ge C (tgt := 28) dX6_takeOne_7 (by decide) (fun hc => ?_) (fun hc => ?_)
  · replace h := br_p hc h
    refine r_lv [] rfl ?_
    exact kr _ (sm_i h)
  · replace h := br_n hc h
    refine r_aload_n C 0 rfl dX6_takeOne_10 rfl ?_
    refine m_g_one C dX6_takeOne_11 ?_
    refine r_iload_n C 2 rfl dX6_takeOne_14 rfl ?_
    refine r_aload_n C 0 rfl dX6_takeOne_15 rfl ?_
    refine r_iload_n C 1 rfl dX6_takeOne_16 rfl ?_
    refine r_iload_n C 2 rfl dX6_takeOne_17 rfl ?_
    obtain ⟨r2, qr2, h⟩ := bd_i h
    refine q_callV C 2 0 0 (c_of qr2) rfl mw_self rfl ok_of in_of lk6_108 rfl (Nat.le_of_ble_eq_true rfl) ⟨Nat.le_of_ble_eq_true rfl, Nat.le_of_ble_eq_true rfl⟩ dX6_takeOne_18 rfl rfl ?_
    obtain ⟨hi, h⟩ := gd_t h
    refine m_s_one C hi dX6_takeOne_21 ?_
    refine r_iinc C (v := s.1 + 1) (lv' := [(2, .int (s.1 + 1)), (0, .ref h0), (1, .int l1)]) 2 rfl dX6_takeOne_22 rfl (by decide) rfl ?_
    refine r_goto C (tgt := 2) dX6_takeOne_25 (by decide) ?_
    refine r_lv [1, 2, 0] rfl ?_
    exact kl _ (sm_i h)
set_option maxHeartbeats 4000000 in
set_option maxRecDepth 100000 in
theorem c_takeOne {G : gT} {h0 : Nat} {hp : cH} {sz : Nat} {n : Int32} {p : Int64} {count : Int32} {sorts : Nat → Int32} {rows : Nat → Int64} {hand : Nat → Int64} {gathered : Int32} {gather : Nat → Int32} {paired : Int32} {pairA : Nat → Int32} {pairB : Nat → Int32} {ideal : Int32} {draft : Nat → Int64} {frame : Nat → Int64} {one : Nat → Int64} {two : Nat → Int64} {turned : Nat → Int64} {placeI : Int32} {placeJ : Int32} {formA : Int64} {formB : Int64} {formC : Int64} {x1 : Int32} {out : (Nat → Int64)} (h : m_takeOne n rows one x1 = some out) : aM G yX6_takeOne cX6_takeOne 3 none 1 16 0 0 [.ref h0, .int x1] (mw h0 hp n p count sorts rows hand gathered gather paired pairA pairB ideal draft frame one two turned placeI placeJ formA formB formC) sz ((none, mw h0 hp n p count sorts rows hand gathered gather paired pairA pairB ideal draft frame out two turned placeI placeJ formA formB formC, sz) : oT) := by
  refine aM.of RX6 (by decide) rfl (Nat.le_of_ble_eq_true rfl) (fun K C => ?_)
  have hO : ((none, mw h0 hp n p count sorts rows hand gathered gather paired pairA pairB ideal draft frame out two turned placeI placeJ formA formB formC, sz) : oT) = ((none, mw h0 hp n p count sorts rows hand gathered gather paired pairA pairB ideal draft frame out two turned placeI placeJ formA formB formC, sz) : oT) := rfl
  refine r_lve (lv' := [(0, .ref h0), (1, .int x1)]) rfl ?_
  unfold m_takeOne at h
  refine r_iconst C (v := 0) dX6_takeOne_0 (by decide) ?_
  refine r_istore_n C (lv' := [(2, .int ((0 : Int32))), (0, .ref h0), (1, .int x1)]) dX6_takeOne_1 rfl (by decide) rfl ?_
  refine r_lv [1, 2, 0] rfl ?_
  obtain ⟨r3, qr3, h⟩ := bd_i h
  refine w_takeOne_L2 C qr3 ?_
  obtain rfl := sm_i h
  exact r_return C (Eq.symm hO) dX6_takeOne_28
noncomputable def m_slot  (x0 : Int32) (x1 : Int32) : Option Int32 := if x0 = 0 then (some (x1 - ((1 : Int32)))) else (if x0 = ((1 : Int32)) then (some (x1 + ((1 : Int32)))) else (some ((5 : Int32))))
set_option maxHeartbeats 4000000 in
set_option maxRecDepth 100000 in
theorem c_slot {G : gT} {h0 : Nat} {hp : cH} {sz : Nat} {n : Int32} {p : Int64} {count : Int32} {sorts : Nat → Int32} {rows : Nat → Int64} {hand : Nat → Int64} {gathered : Int32} {gather : Nat → Int32} {paired : Int32} {pairA : Nat → Int32} {pairB : Nat → Int32} {ideal : Int32} {draft : Nat → Int64} {frame : Nat → Int64} {one : Nat → Int64} {two : Nat → Int64} {turned : Nat → Int64} {placeI : Int32} {placeJ : Int32} {formA : Int64} {formB : Int64} {formC : Int64} {x0 : Int32} {x1 : Int32} {out : Int32} (h : m_slot  x0 x1 = some out) : aM G yX6_slot cX6_slot 2 (some .int) 0 0 0 0 [.int x0, .int x1] (mw h0 hp n p count sorts rows hand gathered gather paired pairA pairB ideal draft frame one two turned placeI placeJ formA formB formC) sz ((some (.int out), mw h0 hp n p count sorts rows hand gathered gather paired pairA pairB ideal draft frame one two turned placeI placeJ formA formB formC, sz) : oT) := by
  refine aM.of RX6 (by decide) rfl (Nat.le_of_ble_eq_true rfl) (fun K C => ?_)
  have hO : ((some (.int out), mw h0 hp n p count sorts rows hand gathered gather paired pairA pairB ideal draft frame one two turned placeI placeJ formA formB formC, sz) : oT) = ((some (.int out), mw h0 hp n p count sorts rows hand gathered gather paired pairA pairB ideal draft frame one two turned placeI placeJ formA formB formC, sz) : oT) := rfl
  refine r_lve (lv' := [(0, .int x0), (1, .int x1)]) rfl ?_
  unfold m_slot at h
  refine r_iload_n C 0 rfl dX6_slot_0 rfl ?_
  refine r_if_ne C (tgt := 10) dX6_slot_1 (by decide) (fun hc => ?_) (fun hc => ?_)
  · replace h := br_n hc h
    refine r_iload_n C 0 rfl dX6_slot_10 rfl ?_
    refine r_iconst C (v := 1) dX6_slot_11 (by decide) ?_
    refine r_icmp_ne C (tgt := 21) dX6_slot_12 (by decide) (fun hc => ?_) (fun hc => ?_)
    · replace h := br_n hc h
      refine r_iconst C (v := 5) dX6_slot_21 (by decide) ?_
      obtain rfl := sm_i h
      exact r_ireturn C (Eq.symm hO) dX6_slot_22
    · replace h := br_p hc h
      refine r_iload_n C 1 rfl dX6_slot_15 rfl ?_
      refine r_iconst C (v := 1) dX6_slot_16 (by decide) ?_
      refine r_iadd C dX6_slot_17 ?_
      refine r_goto C (tgt := 22) dX6_slot_18 (by decide) ?_
      obtain rfl := sm_i h
      exact r_ireturn C (Eq.symm hO) dX6_slot_22
  · replace h := br_p hc h
    refine r_iload_n C 1 rfl dX6_slot_4 rfl ?_
    refine r_iconst C (v := 1) dX6_slot_5 (by decide) ?_
    refine r_isub C dX6_slot_6 ?_
    refine r_goto C (tgt := 22) dX6_slot_7 (by decide) ?_
    obtain rfl := sm_i h
    exact r_ireturn C (Eq.symm hO) dX6_slot_22
noncomputable def m_entry (p : Int64) (rows : Nat → Int64) (x1 : Int32) (x2 : Int32) (x3 : Int32) : Option Int64 := if x2 = x3 then (some ((0 : Int64))) else (if x3 ≤ x2 then ((m_slot x3 x2).bind fun r1 => (m_of rows x1 r1).bind fun r2 => (m_less p ((0 : Int64)) r2).bind fun r3 => some r3) else ((m_slot x2 x3).bind fun r4 => (m_of rows x1 r4).bind fun r5 => some r5))
set_option maxHeartbeats 4000000 in
set_option maxRecDepth 100000 in
theorem c_entry {G : gT} {h0 : Nat} {hp : cH} {sz : Nat} {n : Int32} {p : Int64} {count : Int32} {sorts : Nat → Int32} {rows : Nat → Int64} {hand : Nat → Int64} {gathered : Int32} {gather : Nat → Int32} {paired : Int32} {pairA : Nat → Int32} {pairB : Nat → Int32} {ideal : Int32} {draft : Nat → Int64} {frame : Nat → Int64} {one : Nat → Int64} {two : Nat → Int64} {turned : Nat → Int64} {placeI : Int32} {placeJ : Int32} {formA : Int64} {formB : Int64} {formC : Int64} {x1 : Int32} {x2 : Int32} {x3 : Int32} {out : Int64} (h : m_entry p rows x1 x2 x3 = some out) : aM G yX6_entry cX6_entry 4 (some .long) 1 18 0 0 [.ref h0, .int x1, .int x2, .int x3] (mw h0 hp n p count sorts rows hand gathered gather paired pairA pairB ideal draft frame one two turned placeI placeJ formA formB formC) sz ((some (.long out), mw h0 hp n p count sorts rows hand gathered gather paired pairA pairB ideal draft frame one two turned placeI placeJ formA formB formC, sz) : oT) := by
  refine aM.of RX6 (by decide) rfl (Nat.le_of_ble_eq_true rfl) (fun K C => ?_)
  have hO : ((some (.long out), mw h0 hp n p count sorts rows hand gathered gather paired pairA pairB ideal draft frame one two turned placeI placeJ formA formB formC, sz) : oT) = ((some (.long out), mw h0 hp n p count sorts rows hand gathered gather paired pairA pairB ideal draft frame one two turned placeI placeJ formA formB formC, sz) : oT) := rfl
  refine r_lve (lv' := [(0, .ref h0), (1, .int x1), (2, .int x2), (3, .int x3)]) rfl ?_
  unfold m_entry at h
  refine r_iload_n C 2 rfl dX6_entry_0 rfl ?_
  refine r_iload_n C 3 rfl dX6_entry_1 rfl ?_
  refine r_icmp_ne C (tgt := 9) dX6_entry_2 (by decide) (fun hc => ?_) (fun hc => ?_)
  · replace h := br_n hc h
    refine r_iload_n C 2 rfl dX6_entry_9 rfl ?_
    refine r_iload_n C 3 rfl dX6_entry_10 rfl ?_
    refine r_icmp_ge C (tgt := 27) dX6_entry_11 (by decide) (fun hc => ?_) (fun hc => ?_)
    · replace h := br_p hc h
      refine r_aload_n C 0 rfl dX6_entry_27 rfl ?_
      refine r_lconst C (v := 0) dX6_entry_28 (by decide) ?_
      refine r_aload_n C 0 rfl dX6_entry_29 rfl ?_
      refine r_iload_n C 1 rfl dX6_entry_30 rfl ?_
      refine r_iload_n C 3 rfl dX6_entry_31 rfl ?_
      refine r_iload_n C 2 rfl dX6_entry_32 rfl ?_
      obtain ⟨r1, qr1, h⟩ := bd_i h
      refine q_callS C 5 0 0 (c_slot qr1) rfl ok_slot in_slot lk6_139 rfl (Nat.le_of_ble_eq_true rfl) ⟨Nat.le_of_ble_eq_true rfl, Nat.le_of_ble_eq_true rfl⟩ dX6_entry_33 rfl rfl ?_
      obtain ⟨r2, qr2, h⟩ := bd_i h
      refine q_callV C 3 0 0 (c_of qr2) rfl mw_self rfl ok_of in_of lk6_108 rfl (Nat.le_of_ble_eq_true rfl) ⟨Nat.le_of_ble_eq_true rfl, Nat.le_of_ble_eq_true rfl⟩ dX6_entry_36 rfl rfl ?_
      obtain ⟨r3, qr3, h⟩ := bd_i h
      refine q_callV C 0 0 0 (c_less qr3) rfl mw_self rfl ok_less in_less lk6_105 rfl (Nat.le_of_ble_eq_true rfl) ⟨Nat.le_of_ble_eq_true rfl, Nat.le_of_ble_eq_true rfl⟩ dX6_entry_39 rfl rfl ?_
      obtain rfl := sm_i h
      exact r_lreturn C (Eq.symm hO) dX6_entry_42
    · replace h := br_n hc h
      refine r_aload_n C 0 rfl dX6_entry_14 rfl ?_
      refine r_iload_n C 1 rfl dX6_entry_15 rfl ?_
      refine r_iload_n C 2 rfl dX6_entry_16 rfl ?_
      refine r_iload_n C 3 rfl dX6_entry_17 rfl ?_
      obtain ⟨r4, qr4, h⟩ := bd_i h
      refine q_callS C 2 0 0 (c_slot qr4) rfl ok_slot in_slot lk6_139 rfl (Nat.le_of_ble_eq_true rfl) ⟨Nat.le_of_ble_eq_true rfl, Nat.le_of_ble_eq_true rfl⟩ dX6_entry_18 rfl rfl ?_
      obtain ⟨r5, qr5, h⟩ := bd_i h
      refine q_callV C 0 0 0 (c_of qr5) rfl mw_self rfl ok_of in_of lk6_108 rfl (Nat.le_of_ble_eq_true rfl) ⟨Nat.le_of_ble_eq_true rfl, Nat.le_of_ble_eq_true rfl⟩ dX6_entry_21 rfl rfl ?_
      refine r_goto C (tgt := 42) dX6_entry_24 (by decide) ?_
      obtain rfl := sm_i h
      exact r_lreturn C (Eq.symm hO) dX6_entry_42
  · replace h := br_p hc h
    refine r_lconst C (v := 0) dX6_entry_5 (by decide) ?_
    refine r_goto C (tgt := 42) dX6_entry_6 (by decide) ?_
    obtain rfl := sm_i h
    exact r_lreturn C (Eq.symm hO) dX6_entry_42
