noncomputable def m_holds_L156 (turned : Nat → Int64) (s : (Int32 × (Nat → Int64))) : Option ((Int32 × (Nat → Int64)) ⊕ (Nat → Int64)) := if ((9 : Int32)) ≤ s.1 then (some (.inr s.2)) else (if gi s.1 16 then (m_set s.2 (s.1 / ((3 : Int32))) (s.1 - s.1 / ((3 : Int32)) * ((3 : Int32))) (turned s.1.toNatClampNeg)).bind fun r5 => some (.inl (s.1 + 1, r5)) else none)
noncomputable def m_holds_J154 (p : Int64) (draft : Nat → Int64) (frame : Nat → Int64) (one : Nat → Int64) (two : Nat → Int64) (turned : Nat → Int64) : Option (Int32 × (Nat → Int64) × (Nat → Int64) × (Nat → Int64) × (Nat → Int64) × (Nat → Int64)) := (itX (m_holds_L156 turned) ((0 : Int32), frame)).bind fun r6 => (m_reduce p r6 ((3 : Int32)) ((3 : Int32)) ((3 : Int32))).bind fun r7 => if ((3 : Int32)) ≤ r7.1 then (some ((0 : Int32), draft, r7.2, one, two, turned)) else (some ((1 : Int32), draft, r7.2, one, two, turned))
noncomputable def m_holds_J61 (n : Int32) (p : Int64) (rows : Nat → Int64) (gather : Nat → Int32) (draft : Nat → Int64) (frame : Nat → Int64) (one : Nat → Int64) (two : Nat → Int64) (turned : Nat → Int64) (l1 : Int32) : Option (Int32 × (Nat → Int64) × (Nat → Int64) × (Nat → Int64) × (Nat → Int64) × (Nat → Int64)) := if ((0 : Int32)) = 0 then (some ((-1 : Int32), draft, frame, one, two, turned)) else ((m_isMet n p rows gather draft one two turned ((0 : Int32)) ((1 : Int32)) ((3 : Int32)) ((4 : Int32)) ((0 : Int32))).bind fun r19 => if r19.1 = 0 then (some ((-1 : Int32), r19.2.1, frame, r19.2.2.1, r19.2.2.2.1, r19.2.2.2.2)) else ((m_isMet n p rows gather r19.2.1 r19.2.2.1 r19.2.2.2.1 r19.2.2.2.2 ((1 : Int32)) ((2 : Int32)) ((4 : Int32)) ((5 : Int32)) ((1 : Int32))).bind fun r20 => if r20.1 = 0 then (some ((-1 : Int32), r20.2.1, frame, r20.2.2.1, r20.2.2.2.1, r20.2.2.2.2)) else (if l1 = ((1 : Int32)) then ((m_isMet n p rows gather r20.2.1 r20.2.2.1 r20.2.2.2.1 r20.2.2.2.2 ((2 : Int32)) ((0 : Int32)) ((5 : Int32)) ((3 : Int32)) ((2 : Int32))).bind fun r22 => if r22.1 = 0 then (some ((-1 : Int32), r22.2.1, frame, r22.2.2.1, r22.2.2.2.1, r22.2.2.2.2)) else (m_holds_J154 p r22.2.1 frame r22.2.2.1 r22.2.2.2.1 r22.2.2.2.2)) else ((m_isMet n p rows gather r20.2.1 r20.2.2.1 r20.2.2.2.1 r20.2.2.2.2 ((2 : Int32)) ((3 : Int32)) ((5 : Int32)) ((0 : Int32)) ((2 : Int32))).bind fun r21 => if r21.1 = 0 then (some ((-1 : Int32), r21.2.1, frame, r21.2.2.1, r21.2.2.2.1, r21.2.2.2.2)) else (m_holds_J154 p r21.2.1 frame r21.2.2.1 r21.2.2.2.1 r21.2.2.2.2)))))
noncomputable def m_holds (n : Int32) (p : Int64) (rows : Nat → Int64) (gathered : Int32) (gather : Nat → Int32) (draft : Nat → Int64) (frame : Nat → Int64) (one : Nat → Int64) (two : Nat → Int64) (turned : Nat → Int64) (x1 : Int32) : Option (Int32 × (Nat → Int64) × (Nat → Int64) × (Nat → Int64) × (Nat → Int64) × (Nat → Int64)) := if n = ((3 : Int32)) then (some ((-2 : Int32), draft, frame, one, two, turned)) else (if x1 < 0 then (some ((-2 : Int32), draft, frame, one, two, turned)) else (if x1 ≤ ((2 : Int32)) then (if gathered = ((6 : Int32)) then (if x1 = 0 then ((m_rankOfThree p rows gather frame ((0 : Int32)) ((2 : Int32)) ((4 : Int32))).bind fun r18 => if ((3 : Int32)) ≤ r18.1 then (m_holds_J61 n p rows gather draft r18.2 one two turned x1) else ((m_rankOfThree p rows gather r18.2 ((1 : Int32)) ((3 : Int32)) ((5 : Int32))).bind fun r23 => if ((3 : Int32)) ≤ r23.1 then (m_holds_J61 n p rows gather draft r23.2 one two turned x1) else (if ((1 : Int32)) = 0 then (some ((-1 : Int32), draft, r23.2, one, two, turned)) else ((m_isMet n p rows gather draft one two turned ((0 : Int32)) ((1 : Int32)) ((3 : Int32)) ((4 : Int32)) ((0 : Int32))).bind fun r24 => if r24.1 = 0 then (some ((-1 : Int32), r24.2.1, r23.2, r24.2.2.1, r24.2.2.2.1, r24.2.2.2.2)) else ((m_isMet n p rows gather r24.2.1 r24.2.2.1 r24.2.2.2.1 r24.2.2.2.2 ((1 : Int32)) ((2 : Int32)) ((4 : Int32)) ((5 : Int32)) ((1 : Int32))).bind fun r25 => if r25.1 = 0 then (some ((-1 : Int32), r25.2.1, r23.2, r25.2.2.1, r25.2.2.2.1, r25.2.2.2.2)) else (if x1 = ((1 : Int32)) then ((m_isMet n p rows gather r25.2.1 r25.2.2.1 r25.2.2.2.1 r25.2.2.2.2 ((2 : Int32)) ((0 : Int32)) ((5 : Int32)) ((3 : Int32)) ((2 : Int32))).bind fun r27 => if r27.1 = 0 then (some ((-1 : Int32), r27.2.1, r23.2, r27.2.2.1, r27.2.2.2.1, r27.2.2.2.2)) else (m_holds_J154 p r27.2.1 r23.2 r27.2.2.1 r27.2.2.2.1 r27.2.2.2.2)) else ((m_isMet n p rows gather r25.2.1 r25.2.2.1 r25.2.2.2.1 r25.2.2.2.2 ((2 : Int32)) ((3 : Int32)) ((5 : Int32)) ((0 : Int32)) ((2 : Int32))).bind fun r26 => if r26.1 = 0 then (some ((-1 : Int32), r26.2.1, r23.2, r26.2.2.1, r26.2.2.2.1, r26.2.2.2.2)) else (m_holds_J154 p r26.2.1 r23.2 r26.2.2.1 r26.2.2.2.1 r26.2.2.2.2)))))))) else (if x1 = ((1 : Int32)) then ((m_areThree p rows gather frame one two turned).bind fun r13 => if r13.1 = 0 then (some ((-1 : Int32), draft, r13.2.1, r13.2.2.1, r13.2.2.2.1, r13.2.2.2.2)) else ((m_isMet n p rows gather draft r13.2.2.1 r13.2.2.2.1 r13.2.2.2.2 ((0 : Int32)) ((1 : Int32)) ((3 : Int32)) ((4 : Int32)) ((0 : Int32))).bind fun r14 => if r14.1 = 0 then (some ((-1 : Int32), r14.2.1, r13.2.1, r14.2.2.1, r14.2.2.2.1, r14.2.2.2.2)) else ((m_isMet n p rows gather r14.2.1 r14.2.2.1 r14.2.2.2.1 r14.2.2.2.2 ((1 : Int32)) ((2 : Int32)) ((4 : Int32)) ((5 : Int32)) ((1 : Int32))).bind fun r15 => if r15.1 = 0 then (some ((-1 : Int32), r15.2.1, r13.2.1, r15.2.2.1, r15.2.2.2.1, r15.2.2.2.2)) else (if x1 = ((1 : Int32)) then ((m_isMet n p rows gather r15.2.1 r15.2.2.1 r15.2.2.2.1 r15.2.2.2.2 ((2 : Int32)) ((0 : Int32)) ((5 : Int32)) ((3 : Int32)) ((2 : Int32))).bind fun r17 => if r17.1 = 0 then (some ((-1 : Int32), r17.2.1, r13.2.1, r17.2.2.1, r17.2.2.2.1, r17.2.2.2.2)) else (m_holds_J154 p r17.2.1 r13.2.1 r17.2.2.1 r17.2.2.2.1 r17.2.2.2.2)) else ((m_isMet n p rows gather r15.2.1 r15.2.2.1 r15.2.2.2.1 r15.2.2.2.2 ((2 : Int32)) ((3 : Int32)) ((5 : Int32)) ((0 : Int32)) ((2 : Int32))).bind fun r16 => if r16.1 = 0 then (some ((-1 : Int32), r16.2.1, r13.2.1, r16.2.2.1, r16.2.2.2.1, r16.2.2.2.2)) else (m_holds_J154 p r16.2.1 r13.2.1 r16.2.2.1 r16.2.2.2.1 r16.2.2.2.2)))))) else ((m_conditions n p rows gathered gather frame).bind fun r1 => if ((6 : Int32)) ≤ r1.1 then (if ((0 : Int32)) = 0 then (some ((-1 : Int32), draft, r1.2, one, two, turned)) else ((m_isMet n p rows gather draft one two turned ((0 : Int32)) ((1 : Int32)) ((3 : Int32)) ((4 : Int32)) ((0 : Int32))).bind fun r2 => if r2.1 = 0 then (some ((-1 : Int32), r2.2.1, r1.2, r2.2.2.1, r2.2.2.2.1, r2.2.2.2.2)) else ((m_isMet n p rows gather r2.2.1 r2.2.2.1 r2.2.2.2.1 r2.2.2.2.2 ((1 : Int32)) ((2 : Int32)) ((4 : Int32)) ((5 : Int32)) ((1 : Int32))).bind fun r3 => if r3.1 = 0 then (some ((-1 : Int32), r3.2.1, r1.2, r3.2.2.1, r3.2.2.2.1, r3.2.2.2.2)) else (if x1 = ((1 : Int32)) then ((m_isMet n p rows gather r3.2.1 r3.2.2.1 r3.2.2.2.1 r3.2.2.2.2 ((2 : Int32)) ((0 : Int32)) ((5 : Int32)) ((3 : Int32)) ((2 : Int32))).bind fun r8 => if r8.1 = 0 then (some ((-1 : Int32), r8.2.1, r1.2, r8.2.2.1, r8.2.2.2.1, r8.2.2.2.2)) else (m_holds_J154 p r8.2.1 r1.2 r8.2.2.1 r8.2.2.2.1 r8.2.2.2.2)) else ((m_isMet n p rows gather r3.2.1 r3.2.2.1 r3.2.2.2.1 r3.2.2.2.2 ((2 : Int32)) ((3 : Int32)) ((5 : Int32)) ((0 : Int32)) ((2 : Int32))).bind fun r4 => if r4.1 = 0 then (some ((-1 : Int32), r4.2.1, r1.2, r4.2.2.1, r4.2.2.2.1, r4.2.2.2.2)) else (m_holds_J154 p r4.2.1 r1.2 r4.2.2.1 r4.2.2.2.1 r4.2.2.2.2)))))) else (if ((1 : Int32)) = 0 then (some ((-1 : Int32), draft, r1.2, one, two, turned)) else ((m_isMet n p rows gather draft one two turned ((0 : Int32)) ((1 : Int32)) ((3 : Int32)) ((4 : Int32)) ((0 : Int32))).bind fun r9 => if r9.1 = 0 then (some ((-1 : Int32), r9.2.1, r1.2, r9.2.2.1, r9.2.2.2.1, r9.2.2.2.2)) else ((m_isMet n p rows gather r9.2.1 r9.2.2.1 r9.2.2.2.1 r9.2.2.2.2 ((1 : Int32)) ((2 : Int32)) ((4 : Int32)) ((5 : Int32)) ((1 : Int32))).bind fun r10 => if r10.1 = 0 then (some ((-1 : Int32), r10.2.1, r1.2, r10.2.2.1, r10.2.2.2.1, r10.2.2.2.2)) else (if x1 = ((1 : Int32)) then ((m_isMet n p rows gather r10.2.1 r10.2.2.1 r10.2.2.2.1 r10.2.2.2.2 ((2 : Int32)) ((0 : Int32)) ((5 : Int32)) ((3 : Int32)) ((2 : Int32))).bind fun r12 => if r12.1 = 0 then (some ((-1 : Int32), r12.2.1, r1.2, r12.2.2.1, r12.2.2.2.1, r12.2.2.2.2)) else (m_holds_J154 p r12.2.1 r1.2 r12.2.2.1 r12.2.2.2.1 r12.2.2.2.2)) else ((m_isMet n p rows gather r10.2.1 r10.2.2.1 r10.2.2.2.1 r10.2.2.2.2 ((2 : Int32)) ((3 : Int32)) ((5 : Int32)) ((0 : Int32)) ((2 : Int32))).bind fun r11 => if r11.1 = 0 then (some ((-1 : Int32), r11.2.1, r1.2, r11.2.2.1, r11.2.2.2.1, r11.2.2.2.2)) else (m_holds_J154 p r11.2.1 r1.2 r11.2.2.1 r11.2.2.2.1 r11.2.2.2.2))))))))) else (some ((-1 : Int32), draft, frame, one, two, turned))) else (some ((-2 : Int32), draft, frame, one, two, turned))))
set_option maxHeartbeats 4000000 in
set_option maxRecDepth 100000 in
theorem w_holds_L156 {K : kT} {O : oT} (C : aC K cX6_holds RX6 "holds" 5 94 0 0 4 (some .int) O) {h0 : Nat} {hp : cH} {sz : Nat} {n : Int32} {p : Int64} {count : Int32} {sorts : Nat → Int32} {rows : Nat → Int64} {hand : Nat → Int64} {gathered : Int32} {gather : Nat → Int32} {paired : Int32} {pairA : Nat → Int32} {pairB : Nat → Int32} {ideal : Int32} {draft : Nat → Int64} {one : Nat → Int64} {two : Nat → Int64} {turned : Nat → Int64} {placeI : Int32} {placeJ : Int32} {formA : Int64} {formB : Int64} {formC : Int64}  {v0 : Int32} {v1 : Nat → Int64} {r : (Nat → Int64)} (h : itX (m_holds_L156 turned) (v0, v1) = some r) (hr : aW K (mw h0 hp n p count sorts rows hand gathered gather paired pairA pairB ideal draft r one two turned placeI placeJ formA formB formC) sz 0 0 184 [(0, .ref h0)] []) : aW K (mw h0 hp n p count sorts rows hand gathered gather paired pairA pairB ideal draft v1 one two turned placeI placeJ formA formB formC) sz 0 0 156 [(0, .ref h0), (3, .int v0)] [] := by
  refine it_walk (f := m_holds_L156 turned) (P := fun s => aW K (mw h0 hp n p count sorts rows hand gathered gather paired pairA pairB ideal draft s.2 one two turned placeI placeJ formA formB formC) sz 0 0 156 [(0, .ref h0), (3, .int s.1)] []) (R := fun r => aW K (mw h0 hp n p count sorts rows hand gathered gather paired pairA pairB ideal draft r one two turned placeI placeJ formA formB formC) sz 0 0 184 [(0, .ref h0)] []) ?_ h hr
  clear h hr
  intro s x h kl kr
  unfold m_holds_L156 at h
  refine r_iload_n C 1 rfl dX6_holds_156 rfl ?_
  refine r_bipush C (v := 9) dX6_holds_157 (by decide) ?_
  refine r_icmp_ge C (tgt := 184) dX6_holds_159 (by decide) (fun hc => ?_) (fun hc => ?_)
  · replace h := br_p hc h
    refine r_lv [0] rfl ?_
    exact kr _ (sm_i h)
  · replace h := br_n hc h
    refine r_aload_n C 0 rfl dX6_holds_162 rfl ?_
    refine r_iload_n C 1 rfl dX6_holds_163 rfl ?_
    refine r_iconst C (v := 3) dX6_holds_164 (by decide) ?_
    refine r_idiv C dX6_holds_165 (by decide) ?_
    refine r_iload_n C 1 rfl dX6_holds_166 rfl ?_
    refine r_iconst C (v := 3) dX6_holds_167 (by decide) ?_
    refine r_irem C dX6_holds_168 (by decide) ?_
    refine r_aload_n C 0 rfl dX6_holds_169 rfl ?_
    refine m_g_turned C dX6_holds_170 ?_
    refine r_iload_n C 1 rfl dX6_holds_173 rfl ?_
    obtain ⟨hi, h⟩ := gd_t h
    refine m_l_turned C hi dX6_holds_174 ?_
    obtain ⟨r5, qr5, h⟩ := bd_i h
    refine q_callVv C 0 0 0 (c_set qr5) rfl mw_self rfl ok_set in_set lk6_101 rfl (Nat.le_of_ble_eq_true rfl) ⟨Nat.le_of_ble_eq_true rfl, Nat.le_of_ble_eq_true rfl⟩ dX6_holds_175 rfl rfl ?_
    refine r_iinc C (v := s.1 + 1) (lv' := [(3, .int (s.1 + 1)), (0, .ref h0)]) 1 rfl dX6_holds_178 rfl (by decide) rfl ?_
    refine r_goto C (tgt := 156) dX6_holds_181 (by decide) ?_
    refine r_lv [1, 0] rfl ?_
    exact kl _ (sm_i h)
set_option maxHeartbeats 4000000 in
set_option maxRecDepth 100000 in
theorem w_holds_J154 {K : kT} {O : oT} (C : aC K cX6_holds RX6 "holds" 5 94 0 0 4 (some .int) O) {h0 : Nat} {hp : cH} {sz : Nat} {n : Int32} {p : Int64} {count : Int32} {sorts : Nat → Int32} {rows : Nat → Int64} {hand : Nat → Int64} {gathered : Int32} {gather : Nat → Int32} {paired : Int32} {pairA : Nat → Int32} {pairB : Nat → Int32} {ideal : Int32} {draft : Nat → Int64} {frame : Nat → Int64} {one : Nat → Int64} {two : Nat → Int64} {turned : Nat → Int64} {placeI : Int32} {placeJ : Int32} {formA : Int64} {formB : Int64} {formC : Int64}  {out : (Int32 × (Nat → Int64) × (Nat → Int64) × (Nat → Int64) × (Nat → Int64) × (Nat → Int64))} (h : m_holds_J154 p draft frame one two turned = some out) (hO : ((some (.int out.1), mw h0 hp n p count sorts rows hand gathered gather paired pairA pairB ideal out.2.1 out.2.2.1 out.2.2.2.1 out.2.2.2.2.1 out.2.2.2.2.2 placeI placeJ formA formB formC, sz) : oT) = O) : aW K (mw h0 hp n p count sorts rows hand gathered gather paired pairA pairB ideal draft frame one two turned placeI placeJ formA formB formC) sz 0 0 154 [(0, .ref h0)] [] := by
  unfold m_holds_J154 at h
  refine r_iconst C (v := 0) dX6_holds_154 (by decide) ?_
  refine r_istore_n C (lv' := [(3, .int ((0 : Int32))), (0, .ref h0)]) dX6_holds_155 rfl (by decide) rfl ?_
  refine r_lv [1, 0] rfl ?_
  obtain ⟨r6, qr6, h⟩ := bd_i h
  refine w_holds_L156 C qr6 ?_
  refine r_aload_n C 0 rfl dX6_holds_184 rfl ?_
  refine r_iconst C (v := 3) dX6_holds_185 (by decide) ?_
  refine r_iconst C (v := 3) dX6_holds_186 (by decide) ?_
  refine r_iconst C (v := 3) dX6_holds_187 (by decide) ?_
  obtain ⟨r7, qr7, h⟩ := bd_i h
  refine q_callV C 0 0 0 (c_reduce qr7) rfl mw_self rfl ok_reduce in_reduce lk6_115 rfl (Nat.le_of_ble_eq_true rfl) ⟨Nat.le_of_ble_eq_true rfl, Nat.le_of_ble_eq_true rfl⟩ dX6_holds_188 rfl rfl ?_
  refine r_iconst C (v := 3) dX6_holds_191 (by decide) ?_
  refine r_icmp_ge C (tgt := 199) dX6_holds_192 (by decide) (fun hc => ?_) (fun hc => ?_)
  · replace h := br_p hc h
    refine r_iconst C (v := 0) dX6_holds_199 (by decide) ?_
    obtain rfl := sm_i h
    exact r_ireturn C (Eq.symm hO) dX6_holds_200
  · replace h := br_n hc h
    refine r_iconst C (v := 1) dX6_holds_195 (by decide) ?_
    refine r_goto C (tgt := 200) dX6_holds_196 (by decide) ?_
    obtain rfl := sm_i h
    exact r_ireturn C (Eq.symm hO) dX6_holds_200
set_option maxHeartbeats 4000000 in
set_option maxRecDepth 100000 in
theorem w_holds_J61 {K : kT} {O : oT} (C : aC K cX6_holds RX6 "holds" 5 94 0 0 4 (some .int) O) {h0 : Nat} {hp : cH} {sz : Nat} {n : Int32} {p : Int64} {count : Int32} {sorts : Nat → Int32} {rows : Nat → Int64} {hand : Nat → Int64} {gathered : Int32} {gather : Nat → Int32} {paired : Int32} {pairA : Nat → Int32} {pairB : Nat → Int32} {ideal : Int32} {draft : Nat → Int64} {frame : Nat → Int64} {one : Nat → Int64} {two : Nat → Int64} {turned : Nat → Int64} {placeI : Int32} {placeJ : Int32} {formA : Int64} {formB : Int64} {formC : Int64} {l1 : Int32} {out : (Int32 × (Nat → Int64) × (Nat → Int64) × (Nat → Int64) × (Nat → Int64) × (Nat → Int64))} (h : m_holds_J61 n p rows gather draft frame one two turned l1 = some out) (hO : ((some (.int out.1), mw h0 hp n p count sorts rows hand gathered gather paired pairA pairB ideal out.2.1 out.2.2.1 out.2.2.2.1 out.2.2.2.2.1 out.2.2.2.2.2 placeI placeJ formA formB formC, sz) : oT) = O) : aW K (mw h0 hp n p count sorts rows hand gathered gather paired pairA pairB ideal draft frame one two turned placeI placeJ formA formB formC) sz 0 0 61 [(0, .ref h0), (1, .int l1)] [] := by
  unfold m_holds_J61 at h
  refine r_iconst C (v := 0) dX6_holds_61 (by decide) ?_
  refine r_goto C (tgt := 91) dX6_holds_62 (by decide) ?_
  refine r_istore_n C (lv' := [(2, .int ((0 : Int32))), (0, .ref h0), (1, .int l1)]) dX6_holds_91 rfl (by decide) rfl ?_
  refine r_iload_n C 0 rfl dX6_holds_92 rfl ?_
  refine r_if_eq C (tgt := 152) dX6_holds_93 (by decide) (fun hc => ?_) (fun hc => ?_)
  · replace h := br_p hc h
    refine r_iconst C (v := -1) dX6_holds_152 (by decide) ?_
    obtain rfl := sm_i h
    exact r_ireturn C (Eq.symm hO) dX6_holds_153
  · replace h := br_n hc h
    refine r_aload_n C 1 rfl dX6_holds_96 rfl ?_
    refine r_iconst C (v := 0) dX6_holds_97 (by decide) ?_
    refine r_iconst C (v := 1) dX6_holds_98 (by decide) ?_
    refine r_iconst C (v := 3) dX6_holds_99 (by decide) ?_
    refine r_iconst C (v := 4) dX6_holds_100 (by decide) ?_
    refine r_iconst C (v := 0) dX6_holds_101 (by decide) ?_
    obtain ⟨r19, qr19, h⟩ := bd_i h
    refine q_callV C 0 0 0 (c_isMet qr19) rfl mw_self rfl ok_isMet in_isMet lk6_292 rfl (Nat.le_of_ble_eq_true rfl) ⟨Nat.le_of_ble_eq_true rfl, Nat.le_of_ble_eq_true rfl⟩ dX6_holds_102 rfl rfl ?_
    refine r_if_eq C (tgt := 152) dX6_holds_105 (by decide) (fun hc => ?_) (fun hc => ?_)
    · replace h := br_p hc h
      refine r_iconst C (v := -1) dX6_holds_152 (by decide) ?_
      obtain rfl := sm_i h
      exact r_ireturn C (Eq.symm hO) dX6_holds_153
    · replace h := br_n hc h
      refine r_aload_n C 1 rfl dX6_holds_108 rfl ?_
      refine r_iconst C (v := 1) dX6_holds_109 (by decide) ?_
      refine r_iconst C (v := 2) dX6_holds_110 (by decide) ?_
      refine r_iconst C (v := 4) dX6_holds_111 (by decide) ?_
      refine r_iconst C (v := 5) dX6_holds_112 (by decide) ?_
      refine r_iconst C (v := 1) dX6_holds_113 (by decide) ?_
      obtain ⟨r20, qr20, h⟩ := bd_i h
      refine q_callV C 0 0 0 (c_isMet qr20) rfl mw_self rfl ok_isMet in_isMet lk6_292 rfl (Nat.le_of_ble_eq_true rfl) ⟨Nat.le_of_ble_eq_true rfl, Nat.le_of_ble_eq_true rfl⟩ dX6_holds_114 rfl rfl ?_
      refine r_if_eq C (tgt := 152) dX6_holds_117 (by decide) (fun hc => ?_) (fun hc => ?_)
      · replace h := br_p hc h
        refine r_iconst C (v := -1) dX6_holds_152 (by decide) ?_
        obtain rfl := sm_i h
        exact r_ireturn C (Eq.symm hO) dX6_holds_153
      · replace h := br_n hc h
        refine r_iload_n C 2 rfl dX6_holds_120 rfl ?_
        refine r_iconst C (v := 1) dX6_holds_121 (by decide) ?_
        refine r_icmp_ne C (tgt := 140) dX6_holds_122 (by decide) (fun hc => ?_) (fun hc => ?_)
        · replace h := br_n hc h
          refine r_aload_n C 1 rfl dX6_holds_140 rfl ?_
          refine r_iconst C (v := 2) dX6_holds_141 (by decide) ?_
          refine r_iconst C (v := 3) dX6_holds_142 (by decide) ?_
          refine r_iconst C (v := 5) dX6_holds_143 (by decide) ?_
          refine r_iconst C (v := 0) dX6_holds_144 (by decide) ?_
          refine r_iconst C (v := 2) dX6_holds_145 (by decide) ?_
          obtain ⟨r21, qr21, h⟩ := bd_i h
          refine q_callV C 0 0 0 (c_isMet qr21) rfl mw_self rfl ok_isMet in_isMet lk6_292 rfl (Nat.le_of_ble_eq_true rfl) ⟨Nat.le_of_ble_eq_true rfl, Nat.le_of_ble_eq_true rfl⟩ dX6_holds_146 rfl rfl ?_
          refine r_if_ne C (tgt := 154) dX6_holds_149 (by decide) (fun hc => ?_) (fun hc => ?_)
          · replace h := br_n hc h
            refine r_lv [1] rfl ?_
            exact w_holds_J154 C h hO
          · replace h := br_p hc h
            refine r_iconst C (v := -1) dX6_holds_152 (by decide) ?_
            obtain rfl := sm_i h
            exact r_ireturn C (Eq.symm hO) dX6_holds_153
        · replace h := br_p hc h
          refine r_aload_n C 1 rfl dX6_holds_125 rfl ?_
          refine r_iconst C (v := 2) dX6_holds_126 (by decide) ?_
          refine r_iconst C (v := 0) dX6_holds_127 (by decide) ?_
          refine r_iconst C (v := 5) dX6_holds_128 (by decide) ?_
          refine r_iconst C (v := 3) dX6_holds_129 (by decide) ?_
          refine r_iconst C (v := 2) dX6_holds_130 (by decide) ?_
          obtain ⟨r22, qr22, h⟩ := bd_i h
          refine q_callV C 0 0 0 (c_isMet qr22) rfl mw_self rfl ok_isMet in_isMet lk6_292 rfl (Nat.le_of_ble_eq_true rfl) ⟨Nat.le_of_ble_eq_true rfl, Nat.le_of_ble_eq_true rfl⟩ dX6_holds_131 rfl rfl ?_
          refine r_if_eq C (tgt := 152) dX6_holds_134 (by decide) (fun hc => ?_) (fun hc => ?_)
          · replace h := br_p hc h
            refine r_iconst C (v := -1) dX6_holds_152 (by decide) ?_
            obtain rfl := sm_i h
            exact r_ireturn C (Eq.symm hO) dX6_holds_153
          · replace h := br_n hc h
            refine r_goto C (tgt := 154) dX6_holds_137 (by decide) ?_
            refine r_lv [1] rfl ?_
            exact w_holds_J154 C h hO
set_option maxHeartbeats 4000000 in
set_option maxRecDepth 100000 in
theorem c_holds {G : gT} {h0 : Nat} {hp : cH} {sz : Nat} {n : Int32} {p : Int64} {count : Int32} {sorts : Nat → Int32} {rows : Nat → Int64} {hand : Nat → Int64} {gathered : Int32} {gather : Nat → Int32} {paired : Int32} {pairA : Nat → Int32} {pairB : Nat → Int32} {ideal : Int32} {draft : Nat → Int64} {frame : Nat → Int64} {one : Nat → Int64} {two : Nat → Int64} {turned : Nat → Int64} {placeI : Int32} {placeJ : Int32} {formA : Int64} {formB : Int64} {formC : Int64} {x1 : Int32} {out : (Int32 × (Nat → Int64) × (Nat → Int64) × (Nat → Int64) × (Nat → Int64) × (Nat → Int64))} (h : m_holds n p rows gathered gather draft frame one two turned x1 = some out) : aM G yX6_holds cX6_holds 4 (some .int) 5 94 0 0 [.ref h0, .int x1] (mw h0 hp n p count sorts rows hand gathered gather paired pairA pairB ideal draft frame one two turned placeI placeJ formA formB formC) sz ((some (.int out.1), mw h0 hp n p count sorts rows hand gathered gather paired pairA pairB ideal out.2.1 out.2.2.1 out.2.2.2.1 out.2.2.2.2.1 out.2.2.2.2.2 placeI placeJ formA formB formC, sz) : oT) := by
  refine aM.of RX6 (by decide) rfl (Nat.le_of_ble_eq_true rfl) (fun K C => ?_)
  have hO : ((some (.int out.1), mw h0 hp n p count sorts rows hand gathered gather paired pairA pairB ideal out.2.1 out.2.2.1 out.2.2.2.1 out.2.2.2.2.1 out.2.2.2.2.2 placeI placeJ formA formB formC, sz) : oT) = ((some (.int out.1), mw h0 hp n p count sorts rows hand gathered gather paired pairA pairB ideal out.2.1 out.2.2.1 out.2.2.2.1 out.2.2.2.2.1 out.2.2.2.2.2 placeI placeJ formA formB formC, sz) : oT) := rfl
  refine r_lve (lv' := [(0, .ref h0), (1, .int x1)]) rfl ?_
  unfold m_holds at h
  refine r_aload_n C 0 rfl dX6_holds_0 rfl ?_
  refine m_g_n C dX6_holds_1 ?_
  refine r_iconst C (v := 3) dX6_holds_4 (by decide) ?_
  refine r_icmp_eq C (tgt := 17) dX6_holds_5 (by decide) (fun hc => ?_) (fun hc => ?_)
  · replace h := br_p hc h
    refine r_bipush C (v := -2) dX6_holds_17 (by decide) ?_
    obtain rfl := sm_i h
    exact r_ireturn C (Eq.symm hO) dX6_holds_19
  · replace h := br_n hc h
    refine r_iload_n C 1 rfl dX6_holds_8 rfl ?_
    refine r_if_lt C (tgt := 17) dX6_holds_9 (by decide) (fun hc => ?_) (fun hc => ?_)
    · replace h := br_p hc h
      refine r_bipush C (v := -2) dX6_holds_17 (by decide) ?_
      obtain rfl := sm_i h
      exact r_ireturn C (Eq.symm hO) dX6_holds_19
    · replace h := br_n hc h
      refine r_iload_n C 1 rfl dX6_holds_12 rfl ?_
      refine r_iconst C (v := 2) dX6_holds_13 (by decide) ?_
      refine r_icmp_le C (tgt := 20) dX6_holds_14 (by decide) (fun hc => ?_) (fun hc => ?_)
      · replace h := br_p hc h
        refine r_aload_n C 0 rfl dX6_holds_20 rfl ?_
        refine m_g_gathered C dX6_holds_21 ?_
        refine r_bipush C (v := 6) dX6_holds_24 (by decide) ?_
        refine r_icmp_eq C (tgt := 31) dX6_holds_26 (by decide) (fun hc => ?_) (fun hc => ?_)
        · replace h := br_p hc h
          refine r_iload_n C 1 rfl dX6_holds_31 rfl ?_
          refine r_if_ne C (tgt := 65) dX6_holds_32 (by decide) (fun hc => ?_) (fun hc => ?_)
          · replace h := br_n hc h
            refine r_iload_n C 1 rfl dX6_holds_65 rfl ?_
            refine r_iconst C (v := 1) dX6_holds_66 (by decide) ?_
            refine r_icmp_ne C (tgt := 77) dX6_holds_67 (by decide) (fun hc => ?_) (fun hc => ?_)
            · replace h := br_n hc h
              refine r_aload_n C 0 rfl dX6_holds_77 rfl ?_
              obtain ⟨r1, qr1, h⟩ := bd_i h
              refine q_callV C 0 0 0 (c_conditions qr1) rfl mw_self rfl ok_conditions in_conditions lk6_250 rfl (Nat.le_of_ble_eq_true rfl) ⟨Nat.le_of_ble_eq_true rfl, Nat.le_of_ble_eq_true rfl⟩ dX6_holds_78 rfl rfl ?_
              refine r_bipush C (v := 6) dX6_holds_81 (by decide) ?_
              refine r_icmp_ge C (tgt := 90) dX6_holds_83 (by decide) (fun hc => ?_) (fun hc => ?_)
              · replace h := br_p hc h
                refine r_iconst C (v := 0) dX6_holds_90 (by decide) ?_
                refine r_istore_n C (lv' := [(2, .int ((0 : Int32))), (0, .ref h0), (1, .int x1)]) dX6_holds_91 rfl (by decide) rfl ?_
                refine r_iload_n C 0 rfl dX6_holds_92 rfl ?_
                refine r_if_eq C (tgt := 152) dX6_holds_93 (by decide) (fun hc => ?_) (fun hc => ?_)
                · replace h := br_p hc h
                  refine r_iconst C (v := -1) dX6_holds_152 (by decide) ?_
                  obtain rfl := sm_i h
                  exact r_ireturn C (Eq.symm hO) dX6_holds_153
                · replace h := br_n hc h
                  refine r_aload_n C 1 rfl dX6_holds_96 rfl ?_
                  refine r_iconst C (v := 0) dX6_holds_97 (by decide) ?_
                  refine r_iconst C (v := 1) dX6_holds_98 (by decide) ?_
                  refine r_iconst C (v := 3) dX6_holds_99 (by decide) ?_
                  refine r_iconst C (v := 4) dX6_holds_100 (by decide) ?_
                  refine r_iconst C (v := 0) dX6_holds_101 (by decide) ?_
                  obtain ⟨r2, qr2, h⟩ := bd_i h
                  refine q_callV C 0 0 0 (c_isMet qr2) rfl mw_self rfl ok_isMet in_isMet lk6_292 rfl (Nat.le_of_ble_eq_true rfl) ⟨Nat.le_of_ble_eq_true rfl, Nat.le_of_ble_eq_true rfl⟩ dX6_holds_102 rfl rfl ?_
                  refine r_if_eq C (tgt := 152) dX6_holds_105 (by decide) (fun hc => ?_) (fun hc => ?_)
                  · replace h := br_p hc h
                    refine r_iconst C (v := -1) dX6_holds_152 (by decide) ?_
                    obtain rfl := sm_i h
                    exact r_ireturn C (Eq.symm hO) dX6_holds_153
                  · replace h := br_n hc h
                    refine r_aload_n C 1 rfl dX6_holds_108 rfl ?_
                    refine r_iconst C (v := 1) dX6_holds_109 (by decide) ?_
                    refine r_iconst C (v := 2) dX6_holds_110 (by decide) ?_
                    refine r_iconst C (v := 4) dX6_holds_111 (by decide) ?_
                    refine r_iconst C (v := 5) dX6_holds_112 (by decide) ?_
                    refine r_iconst C (v := 1) dX6_holds_113 (by decide) ?_
                    obtain ⟨r3, qr3, h⟩ := bd_i h
                    refine q_callV C 0 0 0 (c_isMet qr3) rfl mw_self rfl ok_isMet in_isMet lk6_292 rfl (Nat.le_of_ble_eq_true rfl) ⟨Nat.le_of_ble_eq_true rfl, Nat.le_of_ble_eq_true rfl⟩ dX6_holds_114 rfl rfl ?_
                    refine r_if_eq C (tgt := 152) dX6_holds_117 (by decide) (fun hc => ?_) (fun hc => ?_)
                    · replace h := br_p hc h
                      refine r_iconst C (v := -1) dX6_holds_152 (by decide) ?_
                      obtain rfl := sm_i h
                      exact r_ireturn C (Eq.symm hO) dX6_holds_153
                    · replace h := br_n hc h
                      refine r_iload_n C 2 rfl dX6_holds_120 rfl ?_
                      refine r_iconst C (v := 1) dX6_holds_121 (by decide) ?_
                      refine r_icmp_ne C (tgt := 140) dX6_holds_122 (by decide) (fun hc => ?_) (fun hc => ?_)
                      · replace h := br_n hc h
                        refine r_aload_n C 1 rfl dX6_holds_140 rfl ?_
                        refine r_iconst C (v := 2) dX6_holds_141 (by decide) ?_
                        refine r_iconst C (v := 3) dX6_holds_142 (by decide) ?_
                        refine r_iconst C (v := 5) dX6_holds_143 (by decide) ?_
                        refine r_iconst C (v := 0) dX6_holds_144 (by decide) ?_
                        refine r_iconst C (v := 2) dX6_holds_145 (by decide) ?_
                        obtain ⟨r4, qr4, h⟩ := bd_i h
                        refine q_callV C 0 0 0 (c_isMet qr4) rfl mw_self rfl ok_isMet in_isMet lk6_292 rfl (Nat.le_of_ble_eq_true rfl) ⟨Nat.le_of_ble_eq_true rfl, Nat.le_of_ble_eq_true rfl⟩ dX6_holds_146 rfl rfl ?_
                        refine r_if_ne C (tgt := 154) dX6_holds_149 (by decide) (fun hc => ?_) (fun hc => ?_)
                        · replace h := br_n hc h
                          refine r_lv [1] rfl ?_
                          exact w_holds_J154 C h hO
                        · replace h := br_p hc h
                          refine r_iconst C (v := -1) dX6_holds_152 (by decide) ?_
                          obtain rfl := sm_i h
                          exact r_ireturn C (Eq.symm hO) dX6_holds_153
                      · replace h := br_p hc h
                        refine r_aload_n C 1 rfl dX6_holds_125 rfl ?_
                        refine r_iconst C (v := 2) dX6_holds_126 (by decide) ?_
                        refine r_iconst C (v := 0) dX6_holds_127 (by decide) ?_
                        refine r_iconst C (v := 5) dX6_holds_128 (by decide) ?_
                        refine r_iconst C (v := 3) dX6_holds_129 (by decide) ?_
                        refine r_iconst C (v := 2) dX6_holds_130 (by decide) ?_
                        obtain ⟨r8, qr8, h⟩ := bd_i h
                        refine q_callV C 0 0 0 (c_isMet qr8) rfl mw_self rfl ok_isMet in_isMet lk6_292 rfl (Nat.le_of_ble_eq_true rfl) ⟨Nat.le_of_ble_eq_true rfl, Nat.le_of_ble_eq_true rfl⟩ dX6_holds_131 rfl rfl ?_
                        refine r_if_eq C (tgt := 152) dX6_holds_134 (by decide) (fun hc => ?_) (fun hc => ?_)
                        · replace h := br_p hc h
                          refine r_iconst C (v := -1) dX6_holds_152 (by decide) ?_
                          obtain rfl := sm_i h
                          exact r_ireturn C (Eq.symm hO) dX6_holds_153
                        · replace h := br_n hc h
                          refine r_goto C (tgt := 154) dX6_holds_137 (by decide) ?_
                          refine r_lv [1] rfl ?_
                          exact w_holds_J154 C h hO
              · replace h := br_n hc h
                refine r_iconst C (v := 1) dX6_holds_86 (by decide) ?_
                refine r_goto C (tgt := 91) dX6_holds_87 (by decide) ?_
                refine r_istore_n C (lv' := [(2, .int ((1 : Int32))), (0, .ref h0), (1, .int x1)]) dX6_holds_91 rfl (by decide) rfl ?_
                refine r_iload_n C 0 rfl dX6_holds_92 rfl ?_
                refine r_if_eq C (tgt := 152) dX6_holds_93 (by decide) (fun hc => ?_) (fun hc => ?_)
                · replace h := br_p hc h
                  refine r_iconst C (v := -1) dX6_holds_152 (by decide) ?_
                  obtain rfl := sm_i h
                  exact r_ireturn C (Eq.symm hO) dX6_holds_153
                · replace h := br_n hc h
                  refine r_aload_n C 1 rfl dX6_holds_96 rfl ?_
                  refine r_iconst C (v := 0) dX6_holds_97 (by decide) ?_
                  refine r_iconst C (v := 1) dX6_holds_98 (by decide) ?_
                  refine r_iconst C (v := 3) dX6_holds_99 (by decide) ?_
                  refine r_iconst C (v := 4) dX6_holds_100 (by decide) ?_
                  refine r_iconst C (v := 0) dX6_holds_101 (by decide) ?_
                  obtain ⟨r9, qr9, h⟩ := bd_i h
                  refine q_callV C 0 0 0 (c_isMet qr9) rfl mw_self rfl ok_isMet in_isMet lk6_292 rfl (Nat.le_of_ble_eq_true rfl) ⟨Nat.le_of_ble_eq_true rfl, Nat.le_of_ble_eq_true rfl⟩ dX6_holds_102 rfl rfl ?_
                  refine r_if_eq C (tgt := 152) dX6_holds_105 (by decide) (fun hc => ?_) (fun hc => ?_)
                  · replace h := br_p hc h
                    refine r_iconst C (v := -1) dX6_holds_152 (by decide) ?_
                    obtain rfl := sm_i h
                    exact r_ireturn C (Eq.symm hO) dX6_holds_153
                  · replace h := br_n hc h
                    refine r_aload_n C 1 rfl dX6_holds_108 rfl ?_
                    refine r_iconst C (v := 1) dX6_holds_109 (by decide) ?_
                    refine r_iconst C (v := 2) dX6_holds_110 (by decide) ?_
                    refine r_iconst C (v := 4) dX6_holds_111 (by decide) ?_
                    refine r_iconst C (v := 5) dX6_holds_112 (by decide) ?_
                    refine r_iconst C (v := 1) dX6_holds_113 (by decide) ?_
                    obtain ⟨r10, qr10, h⟩ := bd_i h
                    refine q_callV C 0 0 0 (c_isMet qr10) rfl mw_self rfl ok_isMet in_isMet lk6_292 rfl (Nat.le_of_ble_eq_true rfl) ⟨Nat.le_of_ble_eq_true rfl, Nat.le_of_ble_eq_true rfl⟩ dX6_holds_114 rfl rfl ?_
                    refine r_if_eq C (tgt := 152) dX6_holds_117 (by decide) (fun hc => ?_) (fun hc => ?_)
                    · replace h := br_p hc h
                      refine r_iconst C (v := -1) dX6_holds_152 (by decide) ?_
                      obtain rfl := sm_i h
                      exact r_ireturn C (Eq.symm hO) dX6_holds_153
                    · replace h := br_n hc h
                      refine r_iload_n C 2 rfl dX6_holds_120 rfl ?_
                      refine r_iconst C (v := 1) dX6_holds_121 (by decide) ?_
                      refine r_icmp_ne C (tgt := 140) dX6_holds_122 (by decide) (fun hc => ?_) (fun hc => ?_)
                      · replace h := br_n hc h
                        refine r_aload_n C 1 rfl dX6_holds_140 rfl ?_
                        refine r_iconst C (v := 2) dX6_holds_141 (by decide) ?_
                        refine r_iconst C (v := 3) dX6_holds_142 (by decide) ?_
                        refine r_iconst C (v := 5) dX6_holds_143 (by decide) ?_
                        refine r_iconst C (v := 0) dX6_holds_144 (by decide) ?_
                        refine r_iconst C (v := 2) dX6_holds_145 (by decide) ?_
                        obtain ⟨r11, qr11, h⟩ := bd_i h
                        refine q_callV C 0 0 0 (c_isMet qr11) rfl mw_self rfl ok_isMet in_isMet lk6_292 rfl (Nat.le_of_ble_eq_true rfl) ⟨Nat.le_of_ble_eq_true rfl, Nat.le_of_ble_eq_true rfl⟩ dX6_holds_146 rfl rfl ?_
                        refine r_if_ne C (tgt := 154) dX6_holds_149 (by decide) (fun hc => ?_) (fun hc => ?_)
                        · replace h := br_n hc h
                          refine r_lv [1] rfl ?_
                          exact w_holds_J154 C h hO
                        · replace h := br_p hc h
                          refine r_iconst C (v := -1) dX6_holds_152 (by decide) ?_
                          obtain rfl := sm_i h
                          exact r_ireturn C (Eq.symm hO) dX6_holds_153
                      · replace h := br_p hc h
                        refine r_aload_n C 1 rfl dX6_holds_125 rfl ?_
                        refine r_iconst C (v := 2) dX6_holds_126 (by decide) ?_
                        refine r_iconst C (v := 0) dX6_holds_127 (by decide) ?_
                        refine r_iconst C (v := 5) dX6_holds_128 (by decide) ?_
                        refine r_iconst C (v := 3) dX6_holds_129 (by decide) ?_
                        refine r_iconst C (v := 2) dX6_holds_130 (by decide) ?_
                        obtain ⟨r12, qr12, h⟩ := bd_i h
                        refine q_callV C 0 0 0 (c_isMet qr12) rfl mw_self rfl ok_isMet in_isMet lk6_292 rfl (Nat.le_of_ble_eq_true rfl) ⟨Nat.le_of_ble_eq_true rfl, Nat.le_of_ble_eq_true rfl⟩ dX6_holds_131 rfl rfl ?_
                        refine r_if_eq C (tgt := 152) dX6_holds_134 (by decide) (fun hc => ?_) (fun hc => ?_)
                        · replace h := br_p hc h
                          refine r_iconst C (v := -1) dX6_holds_152 (by decide) ?_
                          obtain rfl := sm_i h
                          exact r_ireturn C (Eq.symm hO) dX6_holds_153
                        · replace h := br_n hc h
                          refine r_goto C (tgt := 154) dX6_holds_137 (by decide) ?_
                          refine r_lv [1] rfl ?_
                          exact w_holds_J154 C h hO
            · replace h := br_p hc h
              refine r_aload_n C 0 rfl dX6_holds_70 rfl ?_
              obtain ⟨r13, qr13, h⟩ := bd_i h
              refine q_callV C 0 0 0 (c_areThree qr13) rfl mw_self rfl ok_areThree in_areThree lk6_288 rfl (Nat.le_of_ble_eq_true rfl) ⟨Nat.le_of_ble_eq_true rfl, Nat.le_of_ble_eq_true rfl⟩ dX6_holds_71 rfl rfl ?_
              refine r_goto C (tgt := 91) dX6_holds_74 (by decide) ?_
              refine r_istore_n C (lv' := [(2, .int r13.1), (0, .ref h0), (1, .int x1)]) dX6_holds_91 rfl (by decide) rfl ?_
              refine r_iload_n C 0 rfl dX6_holds_92 rfl ?_
              refine r_if_eq C (tgt := 152) dX6_holds_93 (by decide) (fun hc => ?_) (fun hc => ?_)
              · replace h := br_p hc h
                refine r_iconst C (v := -1) dX6_holds_152 (by decide) ?_
                obtain rfl := sm_i h
                exact r_ireturn C (Eq.symm hO) dX6_holds_153
              · replace h := br_n hc h
                refine r_aload_n C 1 rfl dX6_holds_96 rfl ?_
                refine r_iconst C (v := 0) dX6_holds_97 (by decide) ?_
                refine r_iconst C (v := 1) dX6_holds_98 (by decide) ?_
                refine r_iconst C (v := 3) dX6_holds_99 (by decide) ?_
                refine r_iconst C (v := 4) dX6_holds_100 (by decide) ?_
                refine r_iconst C (v := 0) dX6_holds_101 (by decide) ?_
                obtain ⟨r14, qr14, h⟩ := bd_i h
                refine q_callV C 0 0 0 (c_isMet qr14) rfl mw_self rfl ok_isMet in_isMet lk6_292 rfl (Nat.le_of_ble_eq_true rfl) ⟨Nat.le_of_ble_eq_true rfl, Nat.le_of_ble_eq_true rfl⟩ dX6_holds_102 rfl rfl ?_
                refine r_if_eq C (tgt := 152) dX6_holds_105 (by decide) (fun hc => ?_) (fun hc => ?_)
                · replace h := br_p hc h
                  refine r_iconst C (v := -1) dX6_holds_152 (by decide) ?_
                  obtain rfl := sm_i h
                  exact r_ireturn C (Eq.symm hO) dX6_holds_153
                · replace h := br_n hc h
                  refine r_aload_n C 1 rfl dX6_holds_108 rfl ?_
                  refine r_iconst C (v := 1) dX6_holds_109 (by decide) ?_
                  refine r_iconst C (v := 2) dX6_holds_110 (by decide) ?_
                  refine r_iconst C (v := 4) dX6_holds_111 (by decide) ?_
                  refine r_iconst C (v := 5) dX6_holds_112 (by decide) ?_
                  refine r_iconst C (v := 1) dX6_holds_113 (by decide) ?_
                  obtain ⟨r15, qr15, h⟩ := bd_i h
                  refine q_callV C 0 0 0 (c_isMet qr15) rfl mw_self rfl ok_isMet in_isMet lk6_292 rfl (Nat.le_of_ble_eq_true rfl) ⟨Nat.le_of_ble_eq_true rfl, Nat.le_of_ble_eq_true rfl⟩ dX6_holds_114 rfl rfl ?_
                  refine r_if_eq C (tgt := 152) dX6_holds_117 (by decide) (fun hc => ?_) (fun hc => ?_)
                  · replace h := br_p hc h
                    refine r_iconst C (v := -1) dX6_holds_152 (by decide) ?_
                    obtain rfl := sm_i h
                    exact r_ireturn C (Eq.symm hO) dX6_holds_153
                  · replace h := br_n hc h
                    refine r_iload_n C 2 rfl dX6_holds_120 rfl ?_
                    refine r_iconst C (v := 1) dX6_holds_121 (by decide) ?_
                    refine r_icmp_ne C (tgt := 140) dX6_holds_122 (by decide) (fun hc => ?_) (fun hc => ?_)
                    · replace h := br_n hc h
                      refine r_aload_n C 1 rfl dX6_holds_140 rfl ?_
                      refine r_iconst C (v := 2) dX6_holds_141 (by decide) ?_
                      refine r_iconst C (v := 3) dX6_holds_142 (by decide) ?_
                      refine r_iconst C (v := 5) dX6_holds_143 (by decide) ?_
                      refine r_iconst C (v := 0) dX6_holds_144 (by decide) ?_
                      refine r_iconst C (v := 2) dX6_holds_145 (by decide) ?_
                      obtain ⟨r16, qr16, h⟩ := bd_i h
                      refine q_callV C 0 0 0 (c_isMet qr16) rfl mw_self rfl ok_isMet in_isMet lk6_292 rfl (Nat.le_of_ble_eq_true rfl) ⟨Nat.le_of_ble_eq_true rfl, Nat.le_of_ble_eq_true rfl⟩ dX6_holds_146 rfl rfl ?_
                      refine r_if_ne C (tgt := 154) dX6_holds_149 (by decide) (fun hc => ?_) (fun hc => ?_)
                      · replace h := br_n hc h
                        refine r_lv [1] rfl ?_
                        exact w_holds_J154 C h hO
                      · replace h := br_p hc h
                        refine r_iconst C (v := -1) dX6_holds_152 (by decide) ?_
                        obtain rfl := sm_i h
                        exact r_ireturn C (Eq.symm hO) dX6_holds_153
                    · replace h := br_p hc h
                      refine r_aload_n C 1 rfl dX6_holds_125 rfl ?_
                      refine r_iconst C (v := 2) dX6_holds_126 (by decide) ?_
                      refine r_iconst C (v := 0) dX6_holds_127 (by decide) ?_
                      refine r_iconst C (v := 5) dX6_holds_128 (by decide) ?_
                      refine r_iconst C (v := 3) dX6_holds_129 (by decide) ?_
                      refine r_iconst C (v := 2) dX6_holds_130 (by decide) ?_
                      obtain ⟨r17, qr17, h⟩ := bd_i h
                      refine q_callV C 0 0 0 (c_isMet qr17) rfl mw_self rfl ok_isMet in_isMet lk6_292 rfl (Nat.le_of_ble_eq_true rfl) ⟨Nat.le_of_ble_eq_true rfl, Nat.le_of_ble_eq_true rfl⟩ dX6_holds_131 rfl rfl ?_
                      refine r_if_eq C (tgt := 152) dX6_holds_134 (by decide) (fun hc => ?_) (fun hc => ?_)
                      · replace h := br_p hc h
                        refine r_iconst C (v := -1) dX6_holds_152 (by decide) ?_
                        obtain rfl := sm_i h
                        exact r_ireturn C (Eq.symm hO) dX6_holds_153
                      · replace h := br_n hc h
                        refine r_goto C (tgt := 154) dX6_holds_137 (by decide) ?_
                        refine r_lv [1] rfl ?_
                        exact w_holds_J154 C h hO
          · replace h := br_p hc h
            refine r_aload_n C 0 rfl dX6_holds_35 rfl ?_
            refine r_iconst C (v := 0) dX6_holds_36 (by decide) ?_
            refine r_iconst C (v := 2) dX6_holds_37 (by decide) ?_
            refine r_iconst C (v := 4) dX6_holds_38 (by decide) ?_
            obtain ⟨r18, qr18, h⟩ := bd_i h
            refine q_callV C 0 0 0 (c_rankOfThree qr18) rfl mw_self rfl ok_rankOfThree in_rankOfThree lk6_285 rfl (Nat.le_of_ble_eq_true rfl) ⟨Nat.le_of_ble_eq_true rfl, Nat.le_of_ble_eq_true rfl⟩ dX6_holds_39 rfl rfl ?_
            refine r_iconst C (v := 3) dX6_holds_42 (by decide) ?_
            refine r_icmp_ge C (tgt := 61) dX6_holds_43 (by decide) (fun hc => ?_) (fun hc => ?_)
            · replace h := br_p hc h
              refine r_lv [0, 1] rfl ?_
              exact w_holds_J61 C h hO
            · replace h := br_n hc h
              refine r_aload_n C 0 rfl dX6_holds_46 rfl ?_
              refine r_iconst C (v := 1) dX6_holds_47 (by decide) ?_
              refine r_iconst C (v := 3) dX6_holds_48 (by decide) ?_
              refine r_iconst C (v := 5) dX6_holds_49 (by decide) ?_
              obtain ⟨r23, qr23, h⟩ := bd_i h
              refine q_callV C 0 0 0 (c_rankOfThree qr23) rfl mw_self rfl ok_rankOfThree in_rankOfThree lk6_285 rfl (Nat.le_of_ble_eq_true rfl) ⟨Nat.le_of_ble_eq_true rfl, Nat.le_of_ble_eq_true rfl⟩ dX6_holds_50 rfl rfl ?_
              refine r_iconst C (v := 3) dX6_holds_53 (by decide) ?_
              refine r_icmp_ge C (tgt := 61) dX6_holds_54 (by decide) (fun hc => ?_) (fun hc => ?_)
              · replace h := br_p hc h
                refine r_lv [0, 1] rfl ?_
                exact w_holds_J61 C h hO
              · replace h := br_n hc h
                refine r_iconst C (v := 1) dX6_holds_57 (by decide) ?_
                refine r_goto C (tgt := 91) dX6_holds_58 (by decide) ?_
                refine r_istore_n C (lv' := [(2, .int ((1 : Int32))), (0, .ref h0), (1, .int x1)]) dX6_holds_91 rfl (by decide) rfl ?_
                refine r_iload_n C 0 rfl dX6_holds_92 rfl ?_
                refine r_if_eq C (tgt := 152) dX6_holds_93 (by decide) (fun hc => ?_) (fun hc => ?_)
                · replace h := br_p hc h
                  refine r_iconst C (v := -1) dX6_holds_152 (by decide) ?_
                  obtain rfl := sm_i h
                  exact r_ireturn C (Eq.symm hO) dX6_holds_153
                · replace h := br_n hc h
                  refine r_aload_n C 1 rfl dX6_holds_96 rfl ?_
                  refine r_iconst C (v := 0) dX6_holds_97 (by decide) ?_
                  refine r_iconst C (v := 1) dX6_holds_98 (by decide) ?_
                  refine r_iconst C (v := 3) dX6_holds_99 (by decide) ?_
                  refine r_iconst C (v := 4) dX6_holds_100 (by decide) ?_
                  refine r_iconst C (v := 0) dX6_holds_101 (by decide) ?_
                  obtain ⟨r24, qr24, h⟩ := bd_i h
                  refine q_callV C 0 0 0 (c_isMet qr24) rfl mw_self rfl ok_isMet in_isMet lk6_292 rfl (Nat.le_of_ble_eq_true rfl) ⟨Nat.le_of_ble_eq_true rfl, Nat.le_of_ble_eq_true rfl⟩ dX6_holds_102 rfl rfl ?_
                  refine r_if_eq C (tgt := 152) dX6_holds_105 (by decide) (fun hc => ?_) (fun hc => ?_)
                  · replace h := br_p hc h
                    refine r_iconst C (v := -1) dX6_holds_152 (by decide) ?_
                    obtain rfl := sm_i h
                    exact r_ireturn C (Eq.symm hO) dX6_holds_153
                  · replace h := br_n hc h
                    refine r_aload_n C 1 rfl dX6_holds_108 rfl ?_
                    refine r_iconst C (v := 1) dX6_holds_109 (by decide) ?_
                    refine r_iconst C (v := 2) dX6_holds_110 (by decide) ?_
                    refine r_iconst C (v := 4) dX6_holds_111 (by decide) ?_
                    refine r_iconst C (v := 5) dX6_holds_112 (by decide) ?_
                    refine r_iconst C (v := 1) dX6_holds_113 (by decide) ?_
                    obtain ⟨r25, qr25, h⟩ := bd_i h
                    refine q_callV C 0 0 0 (c_isMet qr25) rfl mw_self rfl ok_isMet in_isMet lk6_292 rfl (Nat.le_of_ble_eq_true rfl) ⟨Nat.le_of_ble_eq_true rfl, Nat.le_of_ble_eq_true rfl⟩ dX6_holds_114 rfl rfl ?_
                    refine r_if_eq C (tgt := 152) dX6_holds_117 (by decide) (fun hc => ?_) (fun hc => ?_)
                    · replace h := br_p hc h
                      refine r_iconst C (v := -1) dX6_holds_152 (by decide) ?_
                      obtain rfl := sm_i h
                      exact r_ireturn C (Eq.symm hO) dX6_holds_153
                    · replace h := br_n hc h
                      refine r_iload_n C 2 rfl dX6_holds_120 rfl ?_
                      refine r_iconst C (v := 1) dX6_holds_121 (by decide) ?_
                      refine r_icmp_ne C (tgt := 140) dX6_holds_122 (by decide) (fun hc => ?_) (fun hc => ?_)
                      · replace h := br_n hc h
                        refine r_aload_n C 1 rfl dX6_holds_140 rfl ?_
                        refine r_iconst C (v := 2) dX6_holds_141 (by decide) ?_
                        refine r_iconst C (v := 3) dX6_holds_142 (by decide) ?_
                        refine r_iconst C (v := 5) dX6_holds_143 (by decide) ?_
                        refine r_iconst C (v := 0) dX6_holds_144 (by decide) ?_
                        refine r_iconst C (v := 2) dX6_holds_145 (by decide) ?_
                        obtain ⟨r26, qr26, h⟩ := bd_i h
                        refine q_callV C 0 0 0 (c_isMet qr26) rfl mw_self rfl ok_isMet in_isMet lk6_292 rfl (Nat.le_of_ble_eq_true rfl) ⟨Nat.le_of_ble_eq_true rfl, Nat.le_of_ble_eq_true rfl⟩ dX6_holds_146 rfl rfl ?_
                        refine r_if_ne C (tgt := 154) dX6_holds_149 (by decide) (fun hc => ?_) (fun hc => ?_)
                        · replace h := br_n hc h
                          refine r_lv [1] rfl ?_
                          exact w_holds_J154 C h hO
                        · replace h := br_p hc h
                          refine r_iconst C (v := -1) dX6_holds_152 (by decide) ?_
                          obtain rfl := sm_i h
                          exact r_ireturn C (Eq.symm hO) dX6_holds_153
                      · replace h := br_p hc h
                        refine r_aload_n C 1 rfl dX6_holds_125 rfl ?_
                        refine r_iconst C (v := 2) dX6_holds_126 (by decide) ?_
                        refine r_iconst C (v := 0) dX6_holds_127 (by decide) ?_
                        refine r_iconst C (v := 5) dX6_holds_128 (by decide) ?_
                        refine r_iconst C (v := 3) dX6_holds_129 (by decide) ?_
                        refine r_iconst C (v := 2) dX6_holds_130 (by decide) ?_
                        obtain ⟨r27, qr27, h⟩ := bd_i h
                        refine q_callV C 0 0 0 (c_isMet qr27) rfl mw_self rfl ok_isMet in_isMet lk6_292 rfl (Nat.le_of_ble_eq_true rfl) ⟨Nat.le_of_ble_eq_true rfl, Nat.le_of_ble_eq_true rfl⟩ dX6_holds_131 rfl rfl ?_
                        refine r_if_eq C (tgt := 152) dX6_holds_134 (by decide) (fun hc => ?_) (fun hc => ?_)
                        · replace h := br_p hc h
                          refine r_iconst C (v := -1) dX6_holds_152 (by decide) ?_
                          obtain rfl := sm_i h
                          exact r_ireturn C (Eq.symm hO) dX6_holds_153
                        · replace h := br_n hc h
                          refine r_goto C (tgt := 154) dX6_holds_137 (by decide) ?_
                          refine r_lv [1] rfl ?_
                          exact w_holds_J154 C h hO
        · replace h := br_n hc h
          refine r_iconst C (v := -1) dX6_holds_29 (by decide) ?_
          obtain rfl := sm_i h
          exact r_ireturn C (Eq.symm hO) dX6_holds_30
      · replace h := br_n hc h
        refine r_bipush C (v := -2) dX6_holds_17 (by decide) ?_
        obtain rfl := sm_i h
        exact r_ireturn C (Eq.symm hO) dX6_holds_19
noncomputable def m_told (n : Int32) (p : Int64) (count : Int32) (gathered : Int32) (paired : Int32) (ideal : Int32) (x1 : Int32) : Option Int32 := if x1 = 0 then (some n) else (if x1 = ((1 : Int32)) then (some p.toInt32) else (if x1 = ((2 : Int32)) then (some count) else (if x1 = ((3 : Int32)) then (some gathered) else (if x1 = ((4 : Int32)) then (some paired) else (if x1 = ((5 : Int32)) then (some ideal) else (some ((-2 : Int32))))))))
set_option maxHeartbeats 4000000 in
set_option maxRecDepth 100000 in
theorem c_told {G : gT} {h0 : Nat} {hp : cH} {sz : Nat} {n : Int32} {p : Int64} {count : Int32} {sorts : Nat → Int32} {rows : Nat → Int64} {hand : Nat → Int64} {gathered : Int32} {gather : Nat → Int32} {paired : Int32} {pairA : Nat → Int32} {pairB : Nat → Int32} {ideal : Int32} {draft : Nat → Int64} {frame : Nat → Int64} {one : Nat → Int64} {two : Nat → Int64} {turned : Nat → Int64} {placeI : Int32} {placeJ : Int32} {formA : Int64} {formB : Int64} {formC : Int64} {x1 : Int32} {out : Int32} (h : m_told n p count gathered paired ideal x1 = some out) : aM G yX6_told cX6_told 2 (some .int) 0 0 0 0 [.ref h0, .int x1] (mw h0 hp n p count sorts rows hand gathered gather paired pairA pairB ideal draft frame one two turned placeI placeJ formA formB formC) sz ((some (.int out), mw h0 hp n p count sorts rows hand gathered gather paired pairA pairB ideal draft frame one two turned placeI placeJ formA formB formC, sz) : oT) := by
  refine aM.of RX6 (by decide) rfl (Nat.le_of_ble_eq_true rfl) (fun K C => ?_)
  have hO : ((some (.int out), mw h0 hp n p count sorts rows hand gathered gather paired pairA pairB ideal draft frame one two turned placeI placeJ formA formB formC, sz) : oT) = ((some (.int out), mw h0 hp n p count sorts rows hand gathered gather paired pairA pairB ideal draft frame one two turned placeI placeJ formA formB formC, sz) : oT) := rfl
  refine r_lve (lv' := [(0, .ref h0), (1, .int x1)]) rfl ?_
  unfold m_told at h
  refine r_iload_n C 1 rfl dX6_told_0 rfl ?_
  refine r_if_ne C (tgt := 11) dX6_told_1 (by decide) (fun hc => ?_) (fun hc => ?_)
  · replace h := br_n hc h
    refine r_iload_n C 1 rfl dX6_told_11 rfl ?_
    refine r_iconst C (v := 1) dX6_told_12 (by decide) ?_
    refine r_icmp_ne C (tgt := 24) dX6_told_13 (by decide) (fun hc => ?_) (fun hc => ?_)
    · replace h := br_n hc h
      refine r_iload_n C 1 rfl dX6_told_24 rfl ?_
      refine r_iconst C (v := 2) dX6_told_25 (by decide) ?_
      refine r_icmp_ne C (tgt := 36) dX6_told_26 (by decide) (fun hc => ?_) (fun hc => ?_)
      · replace h := br_n hc h
        refine r_iload_n C 1 rfl dX6_told_36 rfl ?_
        refine r_iconst C (v := 3) dX6_told_37 (by decide) ?_
        refine r_icmp_ne C (tgt := 48) dX6_told_38 (by decide) (fun hc => ?_) (fun hc => ?_)
        · replace h := br_n hc h
          refine r_iload_n C 1 rfl dX6_told_48 rfl ?_
          refine r_iconst C (v := 4) dX6_told_49 (by decide) ?_
          refine r_icmp_ne C (tgt := 60) dX6_told_50 (by decide) (fun hc => ?_) (fun hc => ?_)
          · replace h := br_n hc h
            refine r_iload_n C 1 rfl dX6_told_60 rfl ?_
            refine r_iconst C (v := 5) dX6_told_61 (by decide) ?_
            refine r_icmp_ne C (tgt := 72) dX6_told_62 (by decide) (fun hc => ?_) (fun hc => ?_)
            · replace h := br_n hc h
              refine r_bipush C (v := -2) dX6_told_72 (by decide) ?_
              obtain rfl := sm_i h
              exact r_ireturn C (Eq.symm hO) dX6_told_74
            · replace h := br_p hc h
              refine r_aload_n C 0 rfl dX6_told_65 rfl ?_
              refine m_g_ideal C dX6_told_66 ?_
              refine r_goto C (tgt := 74) dX6_told_69 (by decide) ?_
              obtain rfl := sm_i h
              exact r_ireturn C (Eq.symm hO) dX6_told_74
          · replace h := br_p hc h
            refine r_aload_n C 0 rfl dX6_told_53 rfl ?_
            refine m_g_paired C dX6_told_54 ?_
            refine r_goto C (tgt := 74) dX6_told_57 (by decide) ?_
            obtain rfl := sm_i h
            exact r_ireturn C (Eq.symm hO) dX6_told_74
        · replace h := br_p hc h
          refine r_aload_n C 0 rfl dX6_told_41 rfl ?_
          refine m_g_gathered C dX6_told_42 ?_
          refine r_goto C (tgt := 74) dX6_told_45 (by decide) ?_
          obtain rfl := sm_i h
          exact r_ireturn C (Eq.symm hO) dX6_told_74
      · replace h := br_p hc h
        refine r_aload_n C 0 rfl dX6_told_29 rfl ?_
        refine m_g_count C dX6_told_30 ?_
        refine r_goto C (tgt := 74) dX6_told_33 (by decide) ?_
        obtain rfl := sm_i h
        exact r_ireturn C (Eq.symm hO) dX6_told_74
    · replace h := br_p hc h
      refine r_aload_n C 0 rfl dX6_told_16 rfl ?_
      refine m_g_p C dX6_told_17 ?_
      refine r_l2i C dX6_told_20 ?_
      refine r_goto C (tgt := 74) dX6_told_21 (by decide) ?_
      obtain rfl := sm_i h
      exact r_ireturn C (Eq.symm hO) dX6_told_74
  · replace h := br_p hc h
    refine r_aload_n C 0 rfl dX6_told_4 rfl ?_
    refine m_g_n C dX6_told_5 ?_
    refine r_goto C (tgt := 74) dX6_told_8 (by decide) ?_
    obtain rfl := sm_i h
    exact r_ireturn C (Eq.symm hO) dX6_told_74
