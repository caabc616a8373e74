noncomputable def f_J9_min_f86c9 (l0 : Int64) (l2 : Int64) : Option Int64 := if l2 < l0 then (some l2) else (some l0)
set_option maxHeartbeats 4000000 in
set_option maxRecDepth 100000 in
theorem k_J9_min_f86c9 {G : gT} {hp : cH} {sz : Nat} {l0 : Int64} {l2 : Int64} {o0 : Int64} (h : f_J9_min_f86c9 l0 l2 = some o0) : aM G yJ9_min_f86c9 cJ9_min_f86c9 4 (some .long) 0 0 0 (64 * 0) [.long l0, .long l2] hp sz ((some (.long o0), hp, sz) : oT) := by
  refine aM.ofF RJ9 (by decide +kernel) rfl (Nat.le_of_ble_eq_true rfl) (fun K C => ?_)
  have hO : ((some (.long o0), hp, sz) : oT) = ((some (.long o0), hp, sz) : oT) := rfl
  refine r_lve (lv' := [(0, .long l0), (2, .long l2)]) rfl ?_
  unfold f_J9_min_f86c9 at h
  refine r_lload_n C 0 rfl dJ9_min_f86c9_0 rfl ?_
  refine r_lload_n C 1 rfl dJ9_min_f86c9_1 rfl ?_
  refine r_lgt C (tgt := 10) dJ9_min_f86c9_2 dJ9_min_f86c9_3 (by decide) (fun hc => ?_) (fun hc => ?_)
  · replace h := br_p hc h
    refine r_lload_n C 1 rfl dJ9_min_f86c9_10 rfl ?_
    cases h
    exact r_lreturn C (Eq.symm hO) dJ9_min_f86c9_11
  · replace h := br_n hc h
    refine r_lload_n C 0 rfl dJ9_min_f86c9_6 rfl ?_
    refine r_goto C (tgt := 11) dJ9_min_f86c9_7 (by decide) ?_
    cases h
    exact r_lreturn C (Eq.symm hO) dJ9_min_f86c9_11
noncomputable def f_X0_squareRoot_L42 (l3 : Int32) (l4 : Int64) : Option ((Int32 × Int64) ⊕ (Int32 × Int64)) := if ((32 : Int32)) ≤ l3 then (some (.inr (l3, l4))) else (if (l4 - l4 / ((2 : Int64)) * ((2 : Int64))) = ((0 : Int64)) then (some (.inl (l3 + 1, l4 / ((2 : Int64))))) else (some (.inr (l3, l4))))
noncomputable def f_X0_squareRoot_L114J166 (l6 : Int64) (l8 : Int64) (l12 : Int32) (l13 : Int64) : Option ((Int64 × Int64 × Int64 × Int32) ⊕ Int64) := some (.inl (l6, l8, l13, l12 + (-1)))
noncomputable def f_X0_squareRoot_L114 (hp : cH) (l0 : Nat) (l6 : Int64) (l8 : Int64) (l10 : Int64) (l12 : Int32) : Option ((Int64 × Int64 × Int64 × Int32) ⊕ Int64) := if l12 ≤ 0 then (some (.inr l6)) else (if isO hp l0 0 = true then (f_X0_times hp l0 l10 l10).bind fun r22 => (f_X0_power hp l0 l8 (((1 : Int64)) <<< ((l12 - ((1 : Int32))).toInt64 &&& 63))).bind fun r24 => if r24 = ((1 : Int64)) then (f_X0_squareRoot_L114J166 l6 l8 l12 r22) else ((f_X0_times hp l0 l6 l10).bind fun r26 => (f_X0_times hp l0 l8 r22).bind fun r28 => f_X0_squareRoot_L114J166 r26 r28 l12 r22) else none)
noncomputable def f_X0_squareRoot_J73 (hp : cH) (l0 : Nat) (l1 : Int64) (l3 : Int32) (l4 : Int64) : Option Int64 := if isO hp l0 0 = true then (f_X0_power hp l0 l1 ((l4 + ((1 : Int64))) / ((2 : Int64)))).bind fun r13 => (f_X0_power hp l0 l1 l4).bind fun r15 => (f_X0_leastNonSquare hp l0).bind fun r17 => (f_X0_power hp l0 r17 l4).bind fun r19 => (itX (fun s => f_X0_squareRoot_L114 hp l0 s.1 s.2.1 s.2.2.1 s.2.2.2) (r13, r15, r19, l3 - ((1 : Int32)))).bind fun y29 => (gJ hp l0 0 0).bind fun w31 => (f_J9_min_f86c9 y29 (w31 - y29)).bind fun r34 => some r34 else none
noncomputable def f_X0_squareRoot (hp : cH) (l0 : Nat) (l1 : Int64) : Option Int64 := if l1 = ((0 : Int64)) then (some ((0 : Int64))) else ((gJ hp l0 0 0).bind fun w1 => if isO hp l0 0 = true then (f_X0_power hp l0 l1 ((w1 - ((1 : Int64))) / ((2 : Int64)))).bind fun r5 => if r5 = ((1 : Int64)) then ((gJ hp l0 0 0).bind fun w6 => (itX (fun s => f_X0_squareRoot_L42 s.1 s.2) ((0 : Int32), w6 - ((1 : Int64)))).bind fun (y8, y9) => f_X0_squareRoot_J73 hp l0 l1 y8 y9) else (some ((-1 : Int64))) else none)
set_option maxHeartbeats 4000000 in
set_option maxRecDepth 100000 in
theorem w_X0_squareRoot_L42 {K : kT} {O : oT} (C : aC K cX0_squareRoot RX0 "squareRoot" 2 37 0 (64 * 0) 15 (some .long) O) {hp : cH} {sz : Nat} {l0 : Nat} {l1 : Int64} {l3 : Int32} {l4 : Int64} {e3 : Int32} {e4 : Int64} (h : itX (fun s => f_X0_squareRoot_L42 s.1 s.2) (l3, l4) = some (e3, e4)) (hr : aW K hp sz 0 (64 * 0) 73 [(0, .ref l0), (1, .long l1), (3, .int e3), (4, .long e4)] []) : aW K hp sz 0 (64 * 0) 42 [(0, .ref l0), (1, .long l1), (3, .int l3), (4, .long l4)] [] := by
  refine it_walk (f := fun s => f_X0_squareRoot_L42 s.1 s.2) (P := fun s => aW K hp sz 0 (64 * 0) 42 [(0, .ref l0), (1, .long l1), (3, .int s.1), (4, .long s.2)] []) (R := fun r => aW K hp sz 0 (64 * 0) 73 [(0, .ref l0), (1, .long l1), (3, .int r.1), (4, .long r.2)] []) ?_ h hr
  clear h hr
  rintro ⟨l3, l4⟩ x h kl kr
  show aW K hp sz 0 (64 * 0) 42 [(0, .ref l0), (1, .long l1), (3, .int l3), (4, .long l4)] []
  replace h : f_X0_squareRoot_L42 l3 l4 = some x := h
  unfold f_X0_squareRoot_L42 at h
  refine r_iload_n C 2 rfl dX0_squareRoot_42 rfl ?_
  refine r_bipush C (v := 32) dX0_squareRoot_43 (by decide) ?_
  refine r_icmp_ge C (tgt := 73) dX0_squareRoot_45 (by decide) (fun hc => ?_) (fun hc => ?_)
  · replace h := br_p hc h
    refine r_lv (lv' := [(0, .ref l0), (1, .long l1), (3, .int l3), (4, .long l4)]) [0, 1, 2, 3] rfl ?_
    exact kr _ (sm_i h)
  · replace h := br_n hc h
    refine r_lload C 3 rfl dX0_squareRoot_48 ?_
    refine r_ldc2 C (v := 2) clX0_25 dX0_squareRoot_50 ?_
    refine r_lrem C dX0_squareRoot_53 (by decide) ?_
    refine r_lconst C (v := 0) dX0_squareRoot_54 (by decide) ?_
    refine r_lne C (tgt := 73) dX0_squareRoot_55 dX0_squareRoot_56 (by decide) (fun hc => ?_) (fun hc => ?_)
    · replace h := br_n hc h
      refine r_lv (lv' := [(0, .ref l0), (1, .long l1), (3, .int l3), (4, .long l4)]) [0, 1, 2, 3] rfl ?_
      exact kr _ (sm_i h)
    · replace h := br_p hc h
      refine r_lload C 3 rfl dX0_squareRoot_59 ?_
      refine r_ldc2 C (v := 2) clX0_25 dX0_squareRoot_61 ?_
      refine r_ldiv C dX0_squareRoot_64 (by decide) ?_
      refine r_lstore C (lv' := [(4, .long (l4 / ((2 : Int64)))), (0, .ref l0), (1, .long l1), (3, .int l3)]) dX0_squareRoot_65 (by decide) rfl ?_
      refine r_iinc C (v := l3 + 1) (lv' := [(3, .int (l3 + 1)), (4, .long (l4 / ((2 : Int64)))), (0, .ref l0), (1, .long l1)]) 3 rfl dX0_squareRoot_67 rfl (by decide) rfl ?_
      refine r_goto C (tgt := 42) dX0_squareRoot_70 (by decide) ?_
      refine r_lv (lv' := [(0, .ref l0), (1, .long l1), (3, .int (l3 + 1)), (4, .long (l4 / ((2 : Int64))))]) [2, 3, 0, 1] rfl ?_
      exact kl _ (sm_i h)
set_option maxHeartbeats 4000000 in
set_option maxRecDepth 100000 in
theorem w_X0_squareRoot_L114J166 {K : kT} {O : oT} (C : aC K cX0_squareRoot RX0 "squareRoot" 2 37 0 (64 * 0) 15 (some .long) O) {hp : cH} {sz : Nat} {l0 : Nat} {l6 : Int64} {l8 : Int64} {l12 : Int32} {l13 : Int64}  {x : (Int64 × Int64 × Int64 × Int32) ⊕ Int64} (h : f_X0_squareRoot_L114J166 l6 l8 l12 l13 = some x) (kl : ∀ s, x = .inl s → aW K hp sz 0 (64 * 0) 114 [(0, .ref l0), (6, .long s.1), (8, .long s.2.1), (10, .long s.2.2.1), (12, .int s.2.2.2)] []) (kr : ∀ r, x = .inr r → aW K hp sz 0 (64 * 0) 176 [(0, .ref l0), (6, .long r)] []) : aW K hp sz 0 (64 * 0) 166 [(0, .ref l0), (6, .long l6), (8, .long l8), (12, .int l12), (13, .long l13)] [] := by
  unfold f_X0_squareRoot_L114J166 at h
  refine r_lload C 4 rfl dX0_squareRoot_166 ?_
  refine r_lstore C (lv' := [(10, .long l13), (0, .ref l0), (6, .long l6), (8, .long l8), (12, .int l12), (13, .long l13)]) dX0_squareRoot_168 (by decide) rfl ?_
  refine r_iinc C (v := l12 + (-1)) (lv' := [(12, .int (l12 + (-1))), (10, .long l13), (0, .ref l0), (6, .long l6), (8, .long l8), (13, .long l13)]) 4 rfl dX0_squareRoot_170 rfl (by decide) rfl ?_
  refine r_goto C (tgt := 114) dX0_squareRoot_173 (by decide) ?_
  refine r_lv (lv' := [(0, .ref l0), (6, .long l6), (8, .long l8), (10, .long l13), (12, .int (l12 + (-1)))]) [2, 3, 4, 1, 0] rfl ?_
  exact kl _ (sm_i h)
set_option maxHeartbeats 4000000 in
set_option maxRecDepth 100000 in
theorem w_X0_squareRoot_L114 {K : kT} {O : oT} (C : aC K cX0_squareRoot RX0 "squareRoot" 2 37 0 (64 * 0) 15 (some .long) O) {hp : cH} {sz : Nat} {l0 : Nat} {l6 : Int64} {l8 : Int64} {l10 : Int64} {l12 : Int32} {e6 : Int64} (h : itX (fun s => f_X0_squareRoot_L114 hp l0 s.1 s.2.1 s.2.2.1 s.2.2.2) (l6, l8, l10, l12) = some e6) (hr : aW K hp sz 0 (64 * 0) 176 [(0, .ref l0), (6, .long e6)] []) : aW K hp sz 0 (64 * 0) 114 [(0, .ref l0), (6, .long l6), (8, .long l8), (10, .long l10), (12, .int l12)] [] := by
  refine it_walk (f := fun s => f_X0_squareRoot_L114 hp l0 s.1 s.2.1 s.2.2.1 s.2.2.2) (P := fun s => aW K hp sz 0 (64 * 0) 114 [(0, .ref l0), (6, .long s.1), (8, .long s.2.1), (10, .long s.2.2.1), (12, .int s.2.2.2)] []) (R := fun r => aW K hp sz 0 (64 * 0) 176 [(0, .ref l0), (6, .long r)] []) ?_ h hr
  clear h hr
  rintro ⟨l6, l8, l10, l12⟩ x h kl kr
  show aW K hp sz 0 (64 * 0) 114 [(0, .ref l0), (6, .long l6), (8, .long l8), (10, .long l10), (12, .int l12)] []
  replace h : f_X0_squareRoot_L114 hp l0 l6 l8 l10 l12 = some x := h
  unfold f_X0_squareRoot_L114 at h
  refine r_iload C 4 rfl dX0_squareRoot_114 ?_
  refine r_if_le C (tgt := 176) dX0_squareRoot_116 (by decide) (fun hc => ?_) (fun hc => ?_)
  · replace h := br_p hc h
    refine r_lv (lv' := [(0, .ref l0), (6, .long l6)]) [0, 1] rfl ?_
    exact kr _ (sm_i h)
  · replace h := br_n hc h
    refine r_aload_n C 0 rfl dX0_squareRoot_119 rfl ?_
    refine r_lload C 3 rfl dX0_squareRoot_120 ?_
    refine r_lload C 3 rfl dX0_squareRoot_122 ?_
    replace h := gd_t h
    obtain ⟨ho20, h⟩ := h
    obtain ⟨_, ho20⟩ := isO_s ho20
    replace h := bd_i h
    obtain ⟨r22, q21, h⟩ := h
    refine q_callV C 0 0 (64 * 0) (k_X0_times q21) rfl ho20 rfl okX0_times inX0_times lkX0_36 rfl (Nat.le_of_ble_eq_true rfl) ⟨by decide, by decide⟩ dX0_squareRoot_124 (by omega) (by omega) ?_
    refine r_lstore C (lv' := [(13, .long r22), (0, .ref l0), (6, .long l6), (8, .long l8), (10, .long l10), (12, .int l12)]) dX0_squareRoot_127 (by decide) rfl ?_
    refine r_aload_n C 1 rfl dX0_squareRoot_129 rfl ?_
    refine r_lload C 3 rfl dX0_squareRoot_130 ?_
    refine r_lconst C (v := 1) dX0_squareRoot_132 (by decide) ?_
    refine r_iload C 5 rfl dX0_squareRoot_133 ?_
    refine r_iconst C (v := 1) dX0_squareRoot_135 (by decide) ?_
    refine r_isub C dX0_squareRoot_136 ?_
    refine r_lshl C dX0_squareRoot_137 ?_
    replace h := bd_i h
    obtain ⟨r24, q23, h⟩ := h
    refine q_callV C 0 0 (64 * 0) (k_X0_power q23) rfl ho20 rfl okX0_power inX0_power lkX0_27 rfl (Nat.le_of_ble_eq_true rfl) ⟨by decide, by decide⟩ dX0_squareRoot_138 (by omega) (by omega) ?_
    refine r_lconst C (v := 1) dX0_squareRoot_141 (by decide) ?_
    refine r_leq C (tgt := 166) dX0_squareRoot_142 dX0_squareRoot_143 (by decide) (fun hc => ?_) (fun hc => ?_)
    · replace h := br_p hc h
      refine r_lv (lv' := [(0, .ref l0), (6, .long l6), (8, .long l8), (12, .int l12), (13, .long r22)]) [1, 2, 3, 5, 0] rfl ?_
      exact w_X0_squareRoot_L114J166 C  h kl kr
    · replace h := br_n hc h
      refine r_aload_n C 1 rfl dX0_squareRoot_146 rfl ?_
      refine r_lload C 2 rfl dX0_squareRoot_147 ?_
      refine r_lload C 4 rfl dX0_squareRoot_149 ?_
      replace h := bd_i h
      obtain ⟨r26, q25, h⟩ := h
      refine q_callV C 0 0 (64 * 0) (k_X0_times q25) rfl ho20 rfl okX0_times inX0_times lkX0_36 rfl (Nat.le_of_ble_eq_true rfl) ⟨by decide, by decide⟩ dX0_squareRoot_151 (by omega) (by omega) ?_
      refine r_lstore C (lv' := [(6, .long r26), (13, .long r22), (0, .ref l0), (8, .long l8), (10, .long l10), (12, .int l12)]) dX0_squareRoot_154 (by decide) rfl ?_
      refine r_aload_n C 2 rfl dX0_squareRoot_156 rfl ?_
      refine r_lload C 3 rfl dX0_squareRoot_157 ?_
      refine r_lload C 1 rfl dX0_squareRoot_159 ?_
      replace h := bd_i h
      obtain ⟨r28, q27, h⟩ := h
      refine q_callV C 0 0 (64 * 0) (k_X0_times q27) rfl ho20 rfl okX0_times inX0_times lkX0_36 rfl (Nat.le_of_ble_eq_true rfl) ⟨by decide, by decide⟩ dX0_squareRoot_161 (by omega) (by omega) ?_
      refine r_lstore C (lv' := [(8, .long r28), (6, .long r26), (13, .long r22), (0, .ref l0), (10, .long l10), (12, .int l12)]) dX0_squareRoot_164 (by decide) rfl ?_
      refine r_lv (lv' := [(0, .ref l0), (6, .long r26), (8, .long r28), (12, .int l12), (13, .long r22)]) [3, 1, 0, 5, 2] rfl ?_
      exact w_X0_squareRoot_L114J166 C  h kl kr
set_option maxHeartbeats 4000000 in
set_option maxRecDepth 100000 in
theorem w_X0_squareRoot_J73 {K : kT} {O : oT} (C : aC K cX0_squareRoot RX0 "squareRoot" 2 37 0 (64 * 0) 15 (some .long) O) {hp : cH} {sz : Nat} {l0 : Nat} {l1 : Int64} {l3 : Int32} {l4 : Int64} {o0 : Int64} (h : f_X0_squareRoot_J73 hp l0 l1 l3 l4 = some o0) (hO : ((some (.long o0), hp, sz) : oT) = O) : aW K hp sz 0 (64 * 0) 73 [(0, .ref l0), (1, .long l1), (3, .int l3), (4, .long l4)] [] := by
  unfold f_X0_squareRoot_J73 at h
  refine r_aload_n C 0 rfl dX0_squareRoot_73 rfl ?_
  refine r_lload_n C 1 rfl dX0_squareRoot_74 rfl ?_
  refine r_lload C 3 rfl dX0_squareRoot_75 ?_
  refine r_lconst C (v := 1) dX0_squareRoot_77 (by decide) ?_
  refine r_ladd C dX0_squareRoot_78 ?_
  refine r_ldc2 C (v := 2) clX0_25 dX0_squareRoot_79 ?_
  refine r_ldiv C dX0_squareRoot_82 (by decide) ?_
  replace h := gd_t h
  obtain ⟨ho11, h⟩ := h
  obtain ⟨_, ho11⟩ := isO_s ho11
  replace h := bd_i h
  obtain ⟨r13, q12, h⟩ := h
  refine q_callV C 0 0 (64 * 0) (k_X0_power q12) rfl ho11 rfl okX0_power inX0_power lkX0_27 rfl (Nat.le_of_ble_eq_true rfl) ⟨by decide, by decide⟩ dX0_squareRoot_83 (by omega) (by omega) ?_
  refine r_lstore C (lv' := [(6, .long r13), (0, .ref l0), (1, .long l1), (3, .int l3), (4, .long l4)]) dX0_squareRoot_86 (by decide) rfl ?_
  refine r_aload_n C 1 rfl dX0_squareRoot_88 rfl ?_
  refine r_lload_n C 2 rfl dX0_squareRoot_89 rfl ?_
  refine r_lload C 4 rfl dX0_squareRoot_90 ?_
  replace h := bd_i h
  obtain ⟨r15, q14, h⟩ := h
  refine q_callV C 0 0 (64 * 0) (k_X0_power q14) rfl ho11 rfl okX0_power inX0_power lkX0_27 rfl (Nat.le_of_ble_eq_true rfl) ⟨by decide, by decide⟩ dX0_squareRoot_92 (by omega) (by omega) ?_
  refine r_lstore C (lv' := [(8, .long r15), (6, .long r13), (0, .ref l0), (1, .long l1), (3, .int l3), (4, .long l4)]) dX0_squareRoot_95 (by decide) rfl ?_
  refine r_aload_n C 2 rfl dX0_squareRoot_97 rfl ?_
  refine r_aload_n C 2 rfl dX0_squareRoot_98 rfl ?_
  replace h := bd_i h
  obtain ⟨r17, q16, h⟩ := h
  refine q_callV C 1 0 (64 * 0) (k_X0_leastNonSquare q16) rfl ho11 rfl okX0_leastNonSquare inX0_leastNonSquare lkX0_32 rfl (Nat.le_of_ble_eq_true rfl) ⟨by decide, by decide⟩ dX0_squareRoot_99 (by omega) (by omega) ?_
  refine r_lload C 5 rfl dX0_squareRoot_102 ?_
  replace h := bd_i h
  obtain ⟨r19, q18, h⟩ := h
  refine q_callV C 0 0 (64 * 0) (k_X0_power q18) rfl ho11 rfl okX0_power inX0_power lkX0_27 rfl (Nat.le_of_ble_eq_true rfl) ⟨by decide, by decide⟩ dX0_squareRoot_104 (by omega) (by omega) ?_
  refine r_lstore C (lv' := [(10, .long r19), (8, .long r15), (6, .long r13), (0, .ref l0), (1, .long l1), (3, .int l3), (4, .long l4)]) dX0_squareRoot_107 (by decide) rfl ?_
  refine r_iload_n C 5 rfl dX0_squareRoot_109 rfl ?_
  refine r_iconst C (v := 1) dX0_squareRoot_110 (by decide) ?_
  refine r_isub C dX0_squareRoot_111 ?_
  refine r_istore C (lv' := [(12, .int (l3 - ((1 : Int32)))), (10, .long r19), (8, .long r15), (6, .long r13), (0, .ref l0), (1, .long l1), (3, .int l3), (4, .long l4)]) dX0_squareRoot_112 (by decide) rfl ?_
  refine r_lv (lv' := [(0, .ref l0), (6, .long r13), (8, .long r15), (10, .long r19), (12, .int (l3 - ((1 : Int32))))]) [4, 3, 2, 1, 0] rfl ?_
  replace h := bd_i h
  obtain ⟨y29, q30, h⟩ := h
  refine w_X0_squareRoot_L114 C  q30 ?_
  refine r_lload C 1 rfl dX0_squareRoot_176 ?_
  refine r_aload_n C 0 rfl dX0_squareRoot_178 rfl ?_
  replace h := bd_i h
  obtain ⟨w31, e32, h⟩ := h
  refine k_gJ C e32 rfl inX0_ (by decide) flX0_15 dX0_squareRoot_179 ?_
  refine r_lload C 1 rfl dX0_squareRoot_182 ?_
  refine r_lsub C dX0_squareRoot_184 ?_
  replace h := bd_i h
  obtain ⟨r34, q33, h⟩ := h
  refine q_callS C 0 0 (64 * 0) (k_J9_min_f86c9 q33) rfl okJ9_min_f86c9 inJ9_min_f86c9 lkX0_39 rfl (Nat.le_of_ble_eq_true rfl) ⟨by decide, by decide⟩ dX0_squareRoot_185 (by omega) (by omega) ?_
  cases h
  exact r_lreturn C (Eq.symm hO) dX0_squareRoot_188
set_option maxHeartbeats 4000000 in
set_option maxRecDepth 100000 in
theorem k_X0_squareRoot {G : gT} {hp : cH} {sz : Nat} {l0 : Nat} {l1 : Int64} {o0 : Int64} (h : f_X0_squareRoot hp l0 l1 = some o0) : aM G yX0_squareRoot cX0_squareRoot 15 (some .long) 2 37 0 (64 * 0) [.ref l0, .long l1] hp sz ((some (.long o0), hp, sz) : oT) := by
  refine aM.of RX0 (by decide) rfl (Nat.le_of_ble_eq_true rfl) (fun K C => ?_)
  have hO : ((some (.long o0), hp, sz) : oT) = ((some (.long o0), hp, sz) : oT) := rfl
  refine r_lve (lv' := [(0, .ref l0), (1, .long l1)]) rfl ?_
  unfold f_X0_squareRoot at h
  refine r_lload_n C 1 rfl dX0_squareRoot_0 rfl ?_
  refine r_lconst C (v := 0) dX0_squareRoot_1 (by decide) ?_
  refine r_lne C (tgt := 8) dX0_squareRoot_2 dX0_squareRoot_3 (by decide) (fun hc => ?_) (fun hc => ?_)
  · replace h := br_n hc h
    refine r_aload_n C 0 rfl dX0_squareRoot_8 rfl ?_
    refine r_lload_n C 1 rfl dX0_squareRoot_9 rfl ?_
    refine r_aload_n C 0 rfl dX0_squareRoot_10 rfl ?_
    replace h := bd_i h
    obtain ⟨w1, e2, h⟩ := h
    refine k_gJ C e2 rfl inX0_ (by decide) flX0_15 dX0_squareRoot_11 ?_
    refine r_lconst C (v := 1) dX0_squareRoot_14 (by decide) ?_
    refine r_lsub C dX0_squareRoot_15 ?_
    refine r_ldc2 C (v := 2) clX0_25 dX0_squareRoot_16 ?_
    refine r_ldiv C dX0_squareRoot_19 (by decide) ?_
    replace h := gd_t h
    obtain ⟨ho3, h⟩ := h
    obtain ⟨_, ho3⟩ := isO_s ho3
    replace h := bd_i h
    obtain ⟨r5, q4, h⟩ := h
    refine q_callV C 0 0 (64 * 0) (k_X0_power q4) rfl ho3 rfl okX0_power inX0_power lkX0_27 rfl (Nat.le_of_ble_eq_true rfl) ⟨by decide, by decide⟩ dX0_squareRoot_20 (by omega) (by omega) ?_
    refine r_lconst C (v := 1) dX0_squareRoot_23 (by decide) ?_
    refine r_leq C (tgt := 32) dX0_squareRoot_24 dX0_squareRoot_25 (by decide) (fun hc => ?_) (fun hc => ?_)
    · replace h := br_p hc h
      refine r_iconst C (v := 0) dX0_squareRoot_32 (by decide) ?_
      refine r_istore_n C (lv' := [(3, .int ((0 : Int32))), (0, .ref l0), (1, .long l1)]) dX0_squareRoot_33 rfl (by decide) rfl ?_
      refine r_aload_n C 1 rfl dX0_squareRoot_34 rfl ?_
      replace h := bd_i h
      obtain ⟨w6, e7, h⟩ := h
      refine k_gJ C e7 rfl inX0_ (by decide) flX0_15 dX0_squareRoot_35 ?_
      refine r_lconst C (v := 1) dX0_squareRoot_38 (by decide) ?_
      refine r_lsub C dX0_squareRoot_39 ?_
      refine r_lstore C (lv' := [(4, .long (w6 - ((1 : Int64)))), (3, .int ((0 : Int32))), (0, .ref l0), (1, .long l1)]) dX0_squareRoot_40 (by decide) rfl ?_
      refine r_lv (lv' := [(0, .ref l0), (1, .long l1), (3, .int ((0 : Int32))), (4, .long (w6 - ((1 : Int64))))]) [2, 3, 1, 0] rfl ?_
      replace h := bd_i h
      obtain ⟨⟨y8, y9⟩, q10, h⟩ := h
      refine w_X0_squareRoot_L42 C  q10 ?_
      refine r_lv (lv' := [(0, .ref l0), (1, .long l1), (3, .int y8), (4, .long y9)]) [0, 1, 2, 3] rfl ?_
      exact w_X0_squareRoot_J73 C  h hO
    · replace h := br_n hc h
      refine r_ldc2 C (v := -1) clX0_30 dX0_squareRoot_28 ?_
      cases h
      exact r_lreturn C (Eq.symm hO) dX0_squareRoot_31
  · replace h := br_p hc h
    refine r_lconst C (v := 0) dX0_squareRoot_6 (by decide) ?_
    cases h
    exact r_lreturn C (Eq.symm hO) dX0_squareRoot_7
noncomputable def f_J9_max_f86c9 (l0 : Int64) (l2 : Int64) : Option Int64 := if l0 < l2 then (some l2) else (some l0)
set_option maxHeartbeats 4000000 in
set_option maxRecDepth 100000 in
theorem k_J9_max_f86c9 {G : gT} {hp : cH} {sz : Nat} {l0 : Int64} {l2 : Int64} {o0 : Int64} (h : f_J9_max_f86c9 l0 l2 = some o0) : aM G yJ9_max_f86c9 cJ9_max_f86c9 4 (some .long) 0 0 0 (64 * 0) [.long l0, .long l2] hp sz ((some (.long o0), hp, sz) : oT) := by
  refine aM.ofF RJ9 (by decide +kernel) rfl (Nat.le_of_ble_eq_true rfl) (fun K C => ?_)
  have hO : ((some (.long o0), hp, sz) : oT) = ((some (.long o0), hp, sz) : oT) := rfl
  refine r_lve (lv' := [(0, .long l0), (2, .long l2)]) rfl ?_
  unfold f_J9_max_f86c9 at h
  refine r_lload_n C 0 rfl dJ9_max_f86c9_0 rfl ?_
  refine r_lload_n C 1 rfl dJ9_max_f86c9_1 rfl ?_
  refine r_llt C (tgt := 10) dJ9_max_f86c9_2 dJ9_max_f86c9_3 (by decide) (fun hc => ?_) (fun hc => ?_)
  · replace h := br_p hc h
    refine r_lload_n C 1 rfl dJ9_max_f86c9_10 rfl ?_
    cases h
    exact r_lreturn C (Eq.symm hO) dJ9_max_f86c9_11
  · replace h := br_n hc h
    refine r_lload_n C 0 rfl dJ9_max_f86c9_6 rfl ?_
    refine r_goto C (tgt := 11) dJ9_max_f86c9_7 (by decide) ?_
    cases h
    exact r_lreturn C (Eq.symm hO) dJ9_max_f86c9_11
noncomputable def f_X4_stepsOfSquare (hp : cH) (sz : Nat) (l0 : Nat) (l1 : Int64) (l3 : Int64) (l5 : Int64) : Option (Nat × cH × Nat) := (gR hp l0 4 1).bind fun w1 => (gR hp l0 4 1).bind fun w3 => (gR hp l0 4 1).bind fun w5 => if isO hp w5 0 = true then (f_X0_times hp w5 l3 l3).bind fun r9 => (gR hp l0 4 1).bind fun w10 => if isO hp w10 0 = true then (f_X0_times hp w10 l1 l5).bind fun r14 => if isO hp w3 0 = true then (f_X0_minus hp w3 r9 r14).bind fun r17 => if isO hp w1 0 = true then (f_X0_squareRoot hp w1 r17).bind fun r20 => if ((0 : Int64)) ≤ r20 then ((gR hp l0 4 1).bind fun w21 => if isO hp w21 0 = true then (f_X0_reciprocal hp w21 l1).bind fun r25 => (gR hp l0 4 1).bind fun w26 => (gR hp l0 4 1).bind fun w28 => (gR hp l0 4 1).bind fun w30 => if isO hp w30 0 = true then (f_X0_negative hp w30 r20).bind fun r34 => if isO hp w28 0 = true then (f_X0_minus hp w28 r34 l3).bind fun r37 => if isO hp w26 0 = true then (f_X0_times hp w26 r25 r37).bind fun r40 => (gR hp l0 4 1).bind fun w41 => (gR hp l0 4 1).bind fun w43 => if isO hp w43 0 = true then (f_X0_minus hp w43 r20 l3).bind fun r47 => if isO hp w41 0 = true then (f_X0_times hp w41 r25 r47).bind fun r50 => if r40 = r50 then ((nJ hp sz ((1 : Int32))).bind fun hp61 => (sJ hp61 sz ((0 : Int32)) r40).bind fun hp63 => some (sz, hp63, (sz + 1))) else ((nJ hp sz ((2 : Int32))).bind fun hp51 => (f_J9_min_f86c9 r40 r50).bind fun r54 => (sJ hp51 sz ((0 : Int32)) r54).bind fun hp55 => (f_J9_max_f86c9 r40 r50).bind fun r58 => (sJ hp55 sz ((1 : Int32)) r58).bind fun hp59 => some (sz, hp59, (sz + 1))) else none else none else none else none else none else none) else ((nJ hp sz ((0 : Int32))).bind fun hp65 => some (sz, hp65, (sz + 1))) else none else none else none else none
set_option maxHeartbeats 4000000 in
set_option maxRecDepth 100000 in
theorem k_X4_stepsOfSquare {G : gT} {hp : cH} {sz : Nat} {l0 : Nat} {l1 : Int64} {l3 : Int64} {l5 : Int64} {o0 : Nat} {oh : cH} {oz : Nat} (h : f_X4_stepsOfSquare hp sz l0 l1 l3 l5 = some (o0, oh, oz)) : aM G yX4_stepsOfSquare cX4_stepsOfSquare 15 (some (.array .long)) 3 63 3 (64 * 3) [.ref l0, .long l1, .long l3, .long l5] hp sz ((some (.ref o0), oh, oz) : oT) := by
  refine aM.of RX4 (by decide) rfl (Nat.le_of_ble_eq_true rfl) (fun K C => ?_)
  have hO : ((some (.ref o0), oh, oz) : oT) = ((some (.ref o0), oh, oz) : oT) := rfl
  refine r_lve (lv' := [(0, .ref l0), (1, .long l1), (3, .long l3), (5, .long l5)]) rfl ?_
  unfold f_X4_stepsOfSquare at h
  refine r_aload_n C 0 rfl dX4_stepsOfSquare_0 rfl ?_
  replace h := bd_i h
  obtain ⟨w1, e2, h⟩ := h
  refine k_gR C e2 rfl inX4_ (by decide) flX4_21 dX4_stepsOfSquare_1 ?_
  refine r_aload_n C 0 rfl dX4_stepsOfSquare_4 rfl ?_
  replace h := bd_i h
  obtain ⟨w3, e4, h⟩ := h
  refine k_gR C e4 rfl inX4_ (by decide) flX4_21 dX4_stepsOfSquare_5 ?_
  refine r_aload_n C 0 rfl dX4_stepsOfSquare_8 rfl ?_
  replace h := bd_i h
  obtain ⟨w5, e6, h⟩ := h
  refine k_gR C e6 rfl inX4_ (by decide) flX4_21 dX4_stepsOfSquare_9 ?_
  refine r_lload_n C 2 rfl dX4_stepsOfSquare_12 rfl ?_
  refine r_lload_n C 2 rfl dX4_stepsOfSquare_13 rfl ?_
  replace h := gd_t h
  obtain ⟨ho7, h⟩ := h
  obtain ⟨_, ho7⟩ := isO_s ho7
  replace h := bd_i h
  obtain ⟨r9, q8, h⟩ := h
  refine q_callV C 2 3 (64 * 3) (k_X0_times q8) rfl ho7 rfl okX0_times inX0_times lkX4_27 rfl (Nat.le_of_ble_eq_true rfl) ⟨by decide, by decide⟩ dX4_stepsOfSquare_14 (by omega) (by omega) ?_
  refine r_aload_n C 0 rfl dX4_stepsOfSquare_17 rfl ?_
  replace h := bd_i h
  obtain ⟨w10, e11, h⟩ := h
  refine k_gR C e11 rfl inX4_ (by decide) flX4_21 dX4_stepsOfSquare_18 ?_
  refine r_lload_n C 1 rfl dX4_stepsOfSquare_21 rfl ?_
  refine r_lload C 3 rfl dX4_stepsOfSquare_22 ?_
  replace h := gd_t h
  obtain ⟨ho12, h⟩ := h
  obtain ⟨_, ho12⟩ := isO_s ho12
  replace h := bd_i h
  obtain ⟨r14, q13, h⟩ := h
  refine q_callV C 4 3 (64 * 3) (k_X0_times q13) rfl ho12 rfl okX0_times inX0_times lkX4_27 rfl (Nat.le_of_ble_eq_true rfl) ⟨by decide, by decide⟩ dX4_stepsOfSquare_24 (by omega) (by omega) ?_
  replace h := gd_t h
  obtain ⟨ho15, h⟩ := h
  obtain ⟨_, ho15⟩ := isO_s ho15
  replace h := bd_i h
  obtain ⟨r17, q16, h⟩ := h
  refine q_callV C 1 3 (64 * 3) (k_X0_minus q16) rfl ho15 rfl okX0_minus inX0_minus lkX4_33 rfl (Nat.le_of_ble_eq_true rfl) ⟨by decide, by decide⟩ dX4_stepsOfSquare_27 (by omega) (by omega) ?_
  replace h := gd_t h
  obtain ⟨ho18, h⟩ := h
  obtain ⟨_, ho18⟩ := isO_s ho18
  replace h := bd_i h
  obtain ⟨r20, q19, h⟩ := h
  refine q_callV C 0 3 (64 * 3) (k_X0_squareRoot q19) rfl ho18 rfl okX0_squareRoot inX0_squareRoot lkX4_138 rfl (Nat.le_of_ble_eq_true rfl) ⟨by decide, by decide⟩ dX4_stepsOfSquare_30 (by omega) (by omega) ?_
  refine r_lstore C (lv' := [(7, .long r20), (0, .ref l0), (1, .long l1), (3, .long l3), (5, .long l5)]) dX4_stepsOfSquare_33 (by decide) rfl ?_
  refine r_lload C 0 rfl dX4_stepsOfSquare_35 ?_
  refine r_lconst C (v := 0) dX4_stepsOfSquare_37 (by decide) ?_
  refine r_lge C (tgt := 46) dX4_stepsOfSquare_38 dX4_stepsOfSquare_39 (by decide) (fun hc => ?_) (fun hc => ?_)
  · replace h := br_p hc h
    refine r_aload_n C 1 rfl dX4_stepsOfSquare_46 rfl ?_
    replace h := bd_i h
    obtain ⟨w21, e22, h⟩ := h
    refine k_gR C e22 rfl inX4_ (by decide) flX4_21 dX4_stepsOfSquare_47 ?_
    refine r_lload_n C 2 rfl dX4_stepsOfSquare_50 rfl ?_
    replace h := gd_t h
    obtain ⟨ho23, h⟩ := h
    obtain ⟨_, ho23⟩ := isO_s ho23
    replace h := bd_i h
    obtain ⟨r25, q24, h⟩ := h
    refine q_callV C 0 3 (64 * 3) (k_X0_reciprocal q24) rfl ho23 rfl okX0_reciprocal inX0_reciprocal lkX4_83 rfl (Nat.le_of_ble_eq_true rfl) ⟨by decide, by decide⟩ dX4_stepsOfSquare_51 (by omega) (by omega) ?_
    refine r_lstore C (lv' := [(9, .long r25), (7, .long r20), (0, .ref l0), (1, .long l1), (3, .long l3), (5, .long l5)]) dX4_stepsOfSquare_54 (by decide) rfl ?_
    refine r_aload_n C 2 rfl dX4_stepsOfSquare_56 rfl ?_
    replace h := bd_i h
    obtain ⟨w26, e27, h⟩ := h
    refine k_gR C e27 rfl inX4_ (by decide) flX4_21 dX4_stepsOfSquare_57 ?_
    refine r_lload C 0 rfl dX4_stepsOfSquare_60 ?_
    refine r_aload_n C 2 rfl dX4_stepsOfSquare_62 rfl ?_
    replace h := bd_i h
    obtain ⟨w28, e29, h⟩ := h
    refine k_gR C e29 rfl inX4_ (by decide) flX4_21 dX4_stepsOfSquare_63 ?_
    refine r_aload_n C 2 rfl dX4_stepsOfSquare_66 rfl ?_
    replace h := bd_i h
    obtain ⟨w30, e31, h⟩ := h
    refine k_gR C e31 rfl inX4_ (by decide) flX4_21 dX4_stepsOfSquare_67 ?_
    refine r_lload C 1 rfl dX4_stepsOfSquare_70 ?_
    replace h := gd_t h
    obtain ⟨ho32, h⟩ := h
    obtain ⟨_, ho32⟩ := isO_s ho32
    replace h := bd_i h
    obtain ⟨r34, q33, h⟩ := h
    refine q_callV C 4 3 (64 * 3) (k_X0_negative q33) rfl ho32 rfl okX0_negative inX0_negative lkX4_36 rfl (Nat.le_of_ble_eq_true rfl) ⟨by decide, by decide⟩ dX4_stepsOfSquare_72 (by omega) (by omega) ?_
    refine r_lload_n C 4 rfl dX4_stepsOfSquare_75 rfl ?_
    replace h := gd_t h
    obtain ⟨ho35, h⟩ := h
    obtain ⟨_, ho35⟩ := isO_s ho35
    replace h := bd_i h
    obtain ⟨r37, q36, h⟩ := h
    refine q_callV C 3 3 (64 * 3) (k_X0_minus q36) rfl ho35 rfl okX0_minus inX0_minus lkX4_33 rfl (Nat.le_of_ble_eq_true rfl) ⟨by decide, by decide⟩ dX4_stepsOfSquare_76 (by omega) (by omega) ?_
    replace h := gd_t h
    obtain ⟨ho38, h⟩ := h
    obtain ⟨_, ho38⟩ := isO_s ho38
    replace h := bd_i h
    obtain ⟨r40, q39, h⟩ := h
    refine q_callV C 0 3 (64 * 3) (k_X0_times q39) rfl ho38 rfl okX0_times inX0_times lkX4_27 rfl (Nat.le_of_ble_eq_true rfl) ⟨by decide, by decide⟩ dX4_stepsOfSquare_79 (by omega) (by omega) ?_
    refine r_lstore C (lv' := [(11, .long r40), (9, .long r25), (7, .long r20), (0, .ref l0), (1, .long l1), (3, .long l3), (5, .long l5)]) dX4_stepsOfSquare_82 (by decide) rfl ?_
    refine r_aload_n C 3 rfl dX4_stepsOfSquare_84 rfl ?_
    replace h := bd_i h
    obtain ⟨w41, e42, h⟩ := h
    refine k_gR C e42 rfl inX4_ (by decide) flX4_21 dX4_stepsOfSquare_85 ?_
    refine r_lload C 1 rfl dX4_stepsOfSquare_88 ?_
    refine r_aload_n C 3 rfl dX4_stepsOfSquare_90 rfl ?_
    replace h := bd_i h
    obtain ⟨w43, e44, h⟩ := h
    refine k_gR C e44 rfl inX4_ (by decide) flX4_21 dX4_stepsOfSquare_91 ?_
    refine r_lload C 2 rfl dX4_stepsOfSquare_94 ?_
    refine r_lload_n C 5 rfl dX4_stepsOfSquare_96 rfl ?_
    replace h := gd_t h
    obtain ⟨ho45, h⟩ := h
    obtain ⟨_, ho45⟩ := isO_s ho45
    replace h := bd_i h
    obtain ⟨r47, q46, h⟩ := h
    refine q_callV C 3 3 (64 * 3) (k_X0_minus q46) rfl ho45 rfl okX0_minus inX0_minus lkX4_33 rfl (Nat.le_of_ble_eq_true rfl) ⟨by decide, by decide⟩ dX4_stepsOfSquare_97 (by omega) (by omega) ?_
    replace h := gd_t h
    obtain ⟨ho48, h⟩ := h
    obtain ⟨_, ho48⟩ := isO_s ho48
    replace h := bd_i h
    obtain ⟨r50, q49, h⟩ := h
    refine q_callV C 0 3 (64 * 3) (k_X0_times q49) rfl ho48 rfl okX0_times inX0_times lkX4_27 rfl (Nat.le_of_ble_eq_true rfl) ⟨by decide, by decide⟩ dX4_stepsOfSquare_100 (by omega) (by omega) ?_
    refine r_lstore C (lv' := [(13, .long r50), (11, .long r40), (9, .long r25), (7, .long r20), (0, .ref l0), (1, .long l1), (3, .long l3), (5, .long l5)]) dX4_stepsOfSquare_103 (by decide) rfl ?_
    refine r_lload C 1 rfl dX4_stepsOfSquare_105 ?_
    refine r_lload C 0 rfl dX4_stepsOfSquare_107 ?_
    refine r_lne C (tgt := 122) dX4_stepsOfSquare_109 dX4_stepsOfSquare_110 (by decide) (fun hc => ?_) (fun hc => ?_)
    · replace h := br_n hc h
      refine r_iconst C (v := 2) dX4_stepsOfSquare_122 (by decide) ?_
      replace h := bd_i h
      obtain ⟨hp51, e52, h⟩ := h
      refine k_nJ C 2 e52 dX4_stepsOfSquare_123 (by omega) ?_
      refine r_dup C dX4_stepsOfSquare_125 rfl ?_
      refine r_iconst C (v := 0) dX4_stepsOfSquare_126 (by decide) ?_
      refine r_lload C 1 rfl dX4_stepsOfSquare_127 ?_
      refine r_lload C 0 rfl dX4_stepsOfSquare_129 ?_
      replace h := bd_i h
      obtain ⟨r54, q53, h⟩ := h
      refine q_callS C 3 2 (64 * 2) (k_J9_min_f86c9 q53) rfl okJ9_min_f86c9 inJ9_min_f86c9 lkX4_141 rfl (Nat.le_of_ble_eq_true rfl) ⟨by decide, by decide⟩ dX4_stepsOfSquare_131 (by omega) (by omega) ?_
      replace h := bd_i h
      obtain ⟨hp55, e56, h⟩ := h
      refine k_sJ C e56 dX4_stepsOfSquare_134 ?_
      refine r_dup C dX4_stepsOfSquare_135 rfl ?_
      refine r_iconst C (v := 1) dX4_stepsOfSquare_136 (by decide) ?_
      refine r_lload C 1 rfl dX4_stepsOfSquare_137 ?_
      refine r_lload C 0 rfl dX4_stepsOfSquare_139 ?_
      replace h := bd_i h
      obtain ⟨r58, q57, h⟩ := h
      refine q_callS C 3 2 (64 * 2) (k_J9_max_f86c9 q57) rfl okJ9_max_f86c9 inJ9_max_f86c9 lkX4_146 rfl (Nat.le_of_ble_eq_true rfl) ⟨by decide, by decide⟩ dX4_stepsOfSquare_141 (by omega) (by omega) ?_
      replace h := bd_i h
      obtain ⟨hp59, e60, h⟩ := h
      refine k_sJ C e60 dX4_stepsOfSquare_144 ?_
      cases h
      exact r_areturnA C (Or.inr ⟨_, rfl⟩) (Eq.symm hO) dX4_stepsOfSquare_145
    · replace h := br_p hc h
      refine r_iconst C (v := 1) dX4_stepsOfSquare_113 (by decide) ?_
      replace h := bd_i h
      obtain ⟨hp61, e62, h⟩ := h
      refine k_nJ C 2 e62 dX4_stepsOfSquare_114 (by omega) ?_
      refine r_dup C dX4_stepsOfSquare_116 rfl ?_
      refine r_iconst C (v := 0) dX4_stepsOfSquare_117 (by decide) ?_
      refine r_lload C 1 rfl dX4_stepsOfSquare_118 ?_
      replace h := bd_i h
      obtain ⟨hp63, e64, h⟩ := h
      refine k_sJ C e64 dX4_stepsOfSquare_120 ?_
      cases h
      exact r_areturnA C (Or.inr ⟨_, rfl⟩) (Eq.symm hO) dX4_stepsOfSquare_121
  · replace h := br_n hc h
    refine r_iconst C (v := 0) dX4_stepsOfSquare_42 (by decide) ?_
    replace h := bd_i h
    obtain ⟨hp65, e66, h⟩ := h
    refine k_nJ C 2 e66 dX4_stepsOfSquare_43 (by omega) ?_
    cases h
    exact r_areturnA C (Or.inr ⟨_, rfl⟩) (Eq.symm hO) dX4_stepsOfSquare_45
noncomputable def f_X4_stepsOnQuadric (hp : cH) (sz : Nat) (l0 : Nat) (l1 : Nat) (l2 : Nat) : Option ((Option Nat) × cH × Nat) := (gR hp l0 4 0).bind fun w1 => (lR 3 hp l2 ((0 : Int32))).bind fun u3 => (lR 3 hp l2 ((0 : Int32))).bind fun u5 => u3.bind fun a7 => u5.bind fun a9 => if isO hp w1 2 = true then (f_X2_form hp sz w1 l1 a7 a9).bind fun (r13, hp14, z15) => (gR hp14 l0 4 0).bind fun w16 => (lR 3 hp14 l2 ((0 : Int32))).bind fun u18 => (lR 3 hp14 l2 ((1 : Int32))).bind fun u20 => u18.bind fun a22 => u20.bind fun a24 => if isO hp14 w16 2 = true then (f_X2_form hp14 z15 w16 l1 a22 a24).bind fun (r28, hp29, z30) => (gR hp29 l0 4 0).bind fun w31 => (lR 3 hp29 l2 ((1 : Int32))).bind fun u33 => (lR 3 hp29 l2 ((1 : Int32))).bind fun u35 => u33.bind fun a37 => u35.bind fun a39 => if isO hp29 w31 2 = true then (f_X2_form hp29 z30 w31 l1 a37 a39).bind fun (r43, hp44, z45) => if r43 = ((0 : Int64)) then (if r28 = ((0 : Int64)) then (if r13 = ((0 : Int64)) then (some (none, hp44, z45)) else ((nJ hp44 z45 ((1 : Int32))).bind fun hp46 => (gR hp46 l0 4 1).bind fun w48 => (gJ hp46 w48 0 0).bind fun w50 => (sJ hp46 z45 ((0 : Int32)) w50).bind fun hp52 => some ((some z45), hp52, (z45 + 1)))) else ((gR hp44 l0 4 1).bind fun w54 => if isO hp44 w54 0 = true then (f_X0_plus hp44 w54 r28 r28).bind fun r58 => (gR hp44 l0 4 1).bind fun w59 => (gR hp44 l0 4 1).bind fun w61 => (gR hp44 l0 4 1).bind fun w63 => if isO hp44 w63 0 = true then (f_X0_reciprocal hp44 w63 r58).bind fun r67 => if isO hp44 w61 0 = true then (f_X0_times hp44 w61 r13 r67).bind fun r70 => if isO hp44 w59 0 = true then (f_X0_negative hp44 w59 r70).bind fun r73 => (nJ hp44 z45 ((2 : Int32))).bind fun hp74 => (sJ hp74 z45 ((0 : Int32)) r73).bind fun hp76 => (gR hp76 l0 4 1).bind fun w78 => (gJ hp76 w78 0 0).bind fun w80 => (sJ hp76 z45 ((1 : Int32)) w80).bind fun hp82 => some ((some z45), hp82, (z45 + 1)) else none else none else none else none)) else (if isO hp44 l0 4 = true then (f_X4_stepsOfSquare hp44 z45 l0 r43 r28 r13).bind fun (r86, hp87, z88) => some ((some r86), hp87, z88) else none) else none else none else none
set_option maxHeartbeats 4000000 in
set_option maxRecDepth 100000 in
theorem k_X4_stepsOnQuadric {G : gT} {hp : cH} {sz : Nat} {l0 : Nat} {l1 : Nat} {l2 : Nat} {o0 : Option Nat} {oh : cH} {oz : Nat} (h : f_X4_stepsOnQuadric hp sz l0 l1 l2 = some (o0, oh, oz)) : aM G yX4_stepsOnQuadric cX4_stepsOnQuadric 13 (some (.array .long)) 4 89 8 (64 * 8) [.ref l0, .ref l1, .ref l2] hp sz ((some (va_rf o0), oh, oz) : oT) := by
  refine aM.of RX4 (by decide) rfl (Nat.le_of_ble_eq_true rfl) (fun K C => ?_)
  have hO : ((some (va_rf o0), oh, oz) : oT) = ((some (va_rf o0), oh, oz) : oT) := rfl
  refine r_lve (lv' := [(0, .ref l0), (1, .ref l1), (2, .ref l2)]) rfl ?_
  unfold f_X4_stepsOnQuadric at h
  refine r_aload_n C 0 rfl dX4_stepsOnQuadric_0 rfl ?_
  replace h := bd_i h
  obtain ⟨w1, e2, h⟩ := h
  refine k_gR C e2 rfl inX4_ (by decide) flX4_9 dX4_stepsOnQuadric_1 ?_
  refine r_aload_n C 1 rfl dX4_stepsOnQuadric_4 rfl ?_
  refine r_aload_n C 2 rfl dX4_stepsOnQuadric_5 rfl ?_
  refine r_iconst C (v := 0) dX4_stepsOnQuadric_6 (by decide) ?_
  replace h := bd_i h
  obtain ⟨u3, e4, h⟩ := h
  refine k_lR C (by decide) e4 dX4_stepsOnQuadric_7 ?_
  refine r_aload_n C 2 rfl dX4_stepsOnQuadric_8 rfl ?_
  refine r_iconst C (v := 0) dX4_stepsOnQuadric_9 (by decide) ?_
  replace h := bd_i h
  obtain ⟨u5, e6, h⟩ := h
  refine k_lR C (by decide) e6 dX4_stepsOnQuadric_10 ?_
  replace h := bd_i h
  obtain ⟨a7, e8, h⟩ := h
  subst e8
  replace h := bd_i h
  obtain ⟨a9, e10, h⟩ := h
  subst e10
  replace h := gd_t h
  obtain ⟨ho11, h⟩ := h
  obtain ⟨_, ho11⟩ := isO_s ho11
  replace h := bd_i h
  obtain ⟨⟨r13, hp14, z15⟩, q12, h⟩ := h
  refine q_callV C 0 7 (64 * 7) (k_X2_form q12) rfl ho11 rfl okX2_form inX2_form lkX4_130 rfl (Nat.le_of_ble_eq_true rfl) ⟨by decide, by decide⟩ dX4_stepsOnQuadric_11 (by omega) (by omega) ?_
  refine r_lstore_n C (lv' := [(3, .long r13), (0, .ref l0), (1, .ref l1), (2, .ref l2)]) dX4_stepsOnQuadric_14 rfl (by decide) rfl ?_
  refine r_aload_n C 1 rfl dX4_stepsOnQuadric_15 rfl ?_
  replace h := bd_i h
  obtain ⟨w16, e17, h⟩ := h
  refine k_gR C e17 rfl inX4_ (by decide) flX4_9 dX4_stepsOnQuadric_16 ?_
  refine r_aload_n C 2 rfl dX4_stepsOnQuadric_19 rfl ?_
  refine r_aload_n C 3 rfl dX4_stepsOnQuadric_20 rfl ?_
  refine r_iconst C (v := 0) dX4_stepsOnQuadric_21 (by decide) ?_
  replace h := bd_i h
  obtain ⟨u18, e19, h⟩ := h
  refine k_lR C (by decide) e19 dX4_stepsOnQuadric_22 ?_
  refine r_aload_n C 3 rfl dX4_stepsOnQuadric_23 rfl ?_
  refine r_iconst C (v := 1) dX4_stepsOnQuadric_24 (by decide) ?_
  replace h := bd_i h
  obtain ⟨u20, e21, h⟩ := h
  refine k_lR C (by decide) e21 dX4_stepsOnQuadric_25 ?_
  replace h := bd_i h
  obtain ⟨a22, e23, h⟩ := h
  subst e23
  replace h := bd_i h
  obtain ⟨a24, e25, h⟩ := h
  subst e25
  replace h := gd_t h
  obtain ⟨ho26, h⟩ := h
  obtain ⟨_, ho26⟩ := isO_s ho26
  replace h := bd_i h
  obtain ⟨⟨r28, hp29, z30⟩, q27, h⟩ := h
  refine q_callV C 0 6 (64 * 6) (k_X2_form q27) rfl ho26 rfl okX2_form inX2_form lkX4_130 rfl (Nat.le_of_ble_eq_true rfl) ⟨by decide, by decide⟩ dX4_stepsOnQuadric_26 (by omega) (by omega) ?_
  refine r_lstore C (lv' := [(5, .long r28), (3, .long r13), (0, .ref l0), (1, .ref l1), (2, .ref l2)]) dX4_stepsOnQuadric_29 (by decide) rfl ?_
  refine r_aload_n C 2 rfl dX4_stepsOnQuadric_31 rfl ?_
  replace h := bd_i h
  obtain ⟨w31, e32, h⟩ := h
  refine k_gR C e32 rfl inX4_ (by decide) flX4_9 dX4_stepsOnQuadric_32 ?_
  refine r_aload_n C 3 rfl dX4_stepsOnQuadric_35 rfl ?_
  refine r_aload_n C 4 rfl dX4_stepsOnQuadric_36 rfl ?_
  refine r_iconst C (v := 1) dX4_stepsOnQuadric_37 (by decide) ?_
  replace h := bd_i h
  obtain ⟨u33, e34, h⟩ := h
  refine k_lR C (by decide) e34 dX4_stepsOnQuadric_38 ?_
  refine r_aload_n C 4 rfl dX4_stepsOnQuadric_39 rfl ?_
  refine r_iconst C (v := 1) dX4_stepsOnQuadric_40 (by decide) ?_
  replace h := bd_i h
  obtain ⟨u35, e36, h⟩ := h
  refine k_lR C (by decide) e36 dX4_stepsOnQuadric_41 ?_
  replace h := bd_i h
  obtain ⟨a37, e38, h⟩ := h
  subst e38
  replace h := bd_i h
  obtain ⟨a39, e40, h⟩ := h
  subst e40
  replace h := gd_t h
  obtain ⟨ho41, h⟩ := h
  obtain ⟨_, ho41⟩ := isO_s ho41
  replace h := bd_i h
  obtain ⟨⟨r43, hp44, z45⟩, q42, h⟩ := h
  refine q_callV C 0 5 (64 * 5) (k_X2_form q42) rfl ho41 rfl okX2_form inX2_form lkX4_130 rfl (Nat.le_of_ble_eq_true rfl) ⟨by decide, by decide⟩ dX4_stepsOnQuadric_42 (by omega) (by omega) ?_
  refine r_lstore C (lv' := [(7, .long r43), (5, .long r28), (3, .long r13), (0, .ref l0), (1, .ref l1), (2, .ref l2)]) dX4_stepsOnQuadric_45 (by decide) rfl ?_
  refine r_lload C 0 rfl dX4_stepsOnQuadric_47 ?_
  refine r_lconst C (v := 0) dX4_stepsOnQuadric_49 (by decide) ?_
  refine r_leq C (tgt := 64) dX4_stepsOnQuadric_50 dX4_stepsOnQuadric_51 (by decide) (fun hc => ?_) (fun hc => ?_)
  · replace h := br_p hc h
    refine r_lload C 1 rfl dX4_stepsOnQuadric_64 ?_
    refine r_lconst C (v := 0) dX4_stepsOnQuadric_66 (by decide) ?_
    refine r_leq C (tgt := 129) dX4_stepsOnQuadric_67 dX4_stepsOnQuadric_68 (by decide) (fun hc => ?_) (fun hc => ?_)
    · replace h := br_p hc h
      refine r_lload_n C 2 rfl dX4_stepsOnQuadric_129 rfl ?_
      refine r_lconst C (v := 0) dX4_stepsOnQuadric_130 (by decide) ?_
      refine r_lne C (tgt := 139) dX4_stepsOnQuadric_131 dX4_stepsOnQuadric_132 (by decide) (fun hc => ?_) (fun hc => ?_)
      · replace h := br_n hc h
        refine r_iconst C (v := 1) dX4_stepsOnQuadric_139 (by decide) ?_
        replace h := bd_i h
        obtain ⟨hp46, e47, h⟩ := h
        refine k_nJ C 4 e47 dX4_stepsOnQuadric_140 (by omega) ?_
        refine r_dup C dX4_stepsOnQuadric_142 rfl ?_
        refine r_iconst C (v := 0) dX4_stepsOnQuadric_143 (by decide) ?_
        refine r_aload_n C 3 rfl dX4_stepsOnQuadric_144 rfl ?_
        replace h := bd_i h
        obtain ⟨w48, e49, h⟩ := h
        refine k_gR C e49 rfl inX4_ (by decide) flX4_21 dX4_stepsOnQuadric_145 ?_
        replace h := bd_i h
        obtain ⟨w50, e51, h⟩ := h
        refine k_gJ C e51 rfl inX0_ (by decide) flX4_107 dX4_stepsOnQuadric_148 ?_
        replace h := bd_i h
        obtain ⟨hp52, e53, h⟩ := h
        refine k_sJ C e53 dX4_stepsOnQuadric_151 ?_
        cases h
        exact r_areturnA C (Or.inr ⟨_, rfl⟩) (Eq.symm hO) dX4_stepsOnQuadric_152
      · replace h := br_p hc h
        refine r_null C dX4_stepsOnQuadric_135 ?_
        refine r_goto C (tgt := 152) dX4_stepsOnQuadric_136 (by decide) ?_
        cases h
        exact r_areturn C (Or.inr ⟨_, rfl⟩) (Eq.symm hO) dX4_stepsOnQuadric_152
    · replace h := br_n hc h
      refine r_aload_n C 3 rfl dX4_stepsOnQuadric_71 rfl ?_
      replace h := bd_i h
      obtain ⟨w54, e55, h⟩ := h
      refine k_gR C e55 rfl inX4_ (by decide) flX4_21 dX4_stepsOnQuadric_72 ?_
      refine r_lload C 1 rfl dX4_stepsOnQuadric_75 ?_
      refine r_lload C 1 rfl dX4_stepsOnQuadric_77 ?_
      replace h := gd_t h
      obtain ⟨ho56, h⟩ := h
      obtain ⟨_, ho56⟩ := isO_s ho56
      replace h := bd_i h
      obtain ⟨r58, q57, h⟩ := h
      refine q_callV C 0 5 (64 * 5) (k_X0_plus q57) rfl ho56 rfl okX0_plus inX0_plus lkX4_119 rfl (Nat.le_of_ble_eq_true rfl) ⟨by decide, by decide⟩ dX4_stepsOnQuadric_79 (by omega) (by omega) ?_
      refine r_lstore C (lv' := [(9, .long r58), (7, .long r43), (5, .long r28), (3, .long r13), (0, .ref l0), (1, .ref l1), (2, .ref l2)]) dX4_stepsOnQuadric_82 (by decide) rfl ?_
      refine r_aload_n C 4 rfl dX4_stepsOnQuadric_84 rfl ?_
      replace h := bd_i h
      obtain ⟨w59, e60, h⟩ := h
      refine k_gR C e60 rfl inX4_ (by decide) flX4_21 dX4_stepsOnQuadric_85 ?_
      refine r_aload_n C 4 rfl dX4_stepsOnQuadric_88 rfl ?_
      replace h := bd_i h
      obtain ⟨w61, e62, h⟩ := h
      refine k_gR C e62 rfl inX4_ (by decide) flX4_21 dX4_stepsOnQuadric_89 ?_
      refine r_lload_n C 3 rfl dX4_stepsOnQuadric_92 rfl ?_
      refine r_aload_n C 4 rfl dX4_stepsOnQuadric_93 rfl ?_
      replace h := bd_i h
      obtain ⟨w63, e64, h⟩ := h
      refine k_gR C e64 rfl inX4_ (by decide) flX4_21 dX4_stepsOnQuadric_94 ?_
      refine r_lload C 0 rfl dX4_stepsOnQuadric_97 ?_
      replace h := gd_t h
      obtain ⟨ho65, h⟩ := h
      obtain ⟨_, ho65⟩ := isO_s ho65
      replace h := bd_i h
      obtain ⟨r67, q66, h⟩ := h
      refine q_callV C 4 5 (64 * 5) (k_X0_reciprocal q66) rfl ho65 rfl okX0_reciprocal inX0_reciprocal lkX4_83 rfl (Nat.le_of_ble_eq_true rfl) ⟨by decide, by decide⟩ dX4_stepsOnQuadric_99 (by omega) (by omega) ?_
      replace h := gd_t h
      obtain ⟨ho68, h⟩ := h
      obtain ⟨_, ho68⟩ := isO_s ho68
      replace h := bd_i h
      obtain ⟨r70, q69, h⟩ := h
      refine q_callV C 1 5 (64 * 5) (k_X0_times q69) rfl ho68 rfl okX0_times inX0_times lkX4_27 rfl (Nat.le_of_ble_eq_true rfl) ⟨by decide, by decide⟩ dX4_stepsOnQuadric_102 (by omega) (by omega) ?_
      replace h := gd_t h
      obtain ⟨ho71, h⟩ := h
      obtain ⟨_, ho71⟩ := isO_s ho71
      replace h := bd_i h
      obtain ⟨r73, q72, h⟩ := h
      refine q_callV C 0 5 (64 * 5) (k_X0_negative q72) rfl ho71 rfl okX0_negative inX0_negative lkX4_36 rfl (Nat.le_of_ble_eq_true rfl) ⟨by decide, by decide⟩ dX4_stepsOnQuadric_105 (by omega) (by omega) ?_
      refine r_lstore C (lv' := [(11, .long r73), (9, .long r58), (7, .long r43), (5, .long r28), (3, .long r13), (0, .ref l0), (1, .ref l1), (2, .ref l2)]) dX4_stepsOnQuadric_108 (by decide) rfl ?_
      refine r_iconst C (v := 2) dX4_stepsOnQuadric_110 (by decide) ?_
      replace h := bd_i h
      obtain ⟨hp74, e75, h⟩ := h
      refine k_nJ C 4 e75 dX4_stepsOnQuadric_111 (by omega) ?_
      refine r_dup C dX4_stepsOnQuadric_113 rfl ?_
      refine r_iconst C (v := 0) dX4_stepsOnQuadric_114 (by decide) ?_
      refine r_lload C 0 rfl dX4_stepsOnQuadric_115 ?_
      replace h := bd_i h
      obtain ⟨hp76, e77, h⟩ := h
      refine k_sJ C e77 dX4_stepsOnQuadric_117 ?_
      refine r_dup C dX4_stepsOnQuadric_118 rfl ?_
      refine r_iconst C (v := 1) dX4_stepsOnQuadric_119 (by decide) ?_
      refine r_aload_n C 5 rfl dX4_stepsOnQuadric_120 rfl ?_
      replace h := bd_i h
      obtain ⟨w78, e79, h⟩ := h
      refine k_gR C e79 rfl inX4_ (by decide) flX4_21 dX4_stepsOnQuadric_121 ?_
      replace h := bd_i h
      obtain ⟨w80, e81, h⟩ := h
      refine k_gJ C e81 rfl inX0_ (by decide) flX4_107 dX4_stepsOnQuadric_124 ?_
      replace h := bd_i h
      obtain ⟨hp82, e83, h⟩ := h
      refine k_sJ C e83 dX4_stepsOnQuadric_127 ?_
      cases h
      exact r_areturnA C (Or.inr ⟨_, rfl⟩) (Eq.symm hO) dX4_stepsOnQuadric_128
  · replace h := br_n hc h
    refine r_aload_n C 3 rfl dX4_stepsOnQuadric_54 rfl ?_
    refine r_lload C 0 rfl dX4_stepsOnQuadric_55 ?_
    refine r_lload C 1 rfl dX4_stepsOnQuadric_57 ?_
    refine r_lload_n C 2 rfl dX4_stepsOnQuadric_59 rfl ?_
    replace h := gd_t h
    obtain ⟨ho84, h⟩ := h
    obtain ⟨_, ho84⟩ := isO_s ho84
    replace h := bd_i h
    obtain ⟨⟨r86, hp87, z88⟩, q85, h⟩ := h
    refine q_callV C 0 2 (64 * 2) (k_X4_stepsOfSquare q85) rfl ho84 rfl okX4_stepsOfSquare inX4_stepsOfSquare lkX4_134 rfl (Nat.le_of_ble_eq_true rfl) ⟨by decide, by decide⟩ dX4_stepsOnQuadric_60 (by omega) (by omega) ?_
    cases h
    exact r_areturnA C (Or.inr ⟨_, rfl⟩) (Eq.symm hO) dX4_stepsOnQuadric_63
noncomputable def f_X5_touches (hp : cH) (sz : Nat) (l0 : Nat) (l1 : Int32) (l2 : Int32) : Option (Int64 × cH × Nat) := (gR hp l0 5 0).bind fun w1 => if isO hp w1 3 = true then (f_X3_row hp w1 l1 ((4 : Int32))).bind fun r5 => (gR hp l0 5 0).bind fun w6 => if isO hp w6 3 = true then (f_X3_row hp w6 l2 ((1 : Int32))).bind fun r10 => Option.elim r5 (some ((-2 : Int64), hp, sz)) (fun a11 => Option.elim r10 (some ((-2 : Int64), hp, sz)) (fun a12 => (gR hp l0 5 9).bind fun w13 => (gR hp l0 5 9).bind fun w15 => if isO hp w15 4 = true then (f_X4_baseOfLine hp sz w15 a12).bind fun (r19, hp20, z21) => if isO hp20 w13 4 = true then (f_X4_stepsOnQuadric hp20 z21 w13 a11 r19).bind fun (r24, hp25, z26) => Option.elim r24 ((gR hp25 l0 5 7).bind fun w28 => (gJ hp25 w28 0 0).bind fun w30 => some (w30 + ((1 : Int64)), hp25, z26)) (fun a27 => (aN hp25 a27).bind fun w32 => some (w32.toInt64, hp25, z26)) else none else none)) else none else none
set_option maxHeartbeats 4000000 in
set_option maxRecDepth 100000 in
theorem k_X5_touches {G : gT} {hp : cH} {sz : Nat} {l0 : Nat} {l1 : Int32} {l2 : Int32} {o0 : Int64} {oh : cH} {oz : Nat} (h : f_X5_touches hp sz l0 l1 l2 = some (o0, oh, oz)) : aM G yX5_touches cX5_touches 6 (some .long) 5 113 23 (64 * 23) [.ref l0, .int l1, .int l2] hp sz ((some (.long o0), oh, oz) : oT) := by
  refine aM.of RX5 (by decide) rfl (Nat.le_of_ble_eq_true rfl) (fun K C => ?_)
  have hO : ((some (.long o0), oh, oz) : oT) = ((some (.long o0), oh, oz) : oT) := rfl
  refine r_lve (lv' := [(0, .ref l0), (1, .int l1), (2, .int l2)]) rfl ?_
  unfold f_X5_touches at h
  refine r_aload_n C 0 rfl dX5_touches_0 rfl ?_
  replace h := bd_i h
  obtain ⟨w1, e2, h⟩ := h
  refine k_gR C e2 rfl inX5_ (by decide) flX5_10 dX5_touches_1 ?_
  refine r_iload_n C 1 rfl dX5_touches_4 rfl ?_
  refine r_iconst C (v := 4) dX5_touches_5 (by decide) ?_
  replace h := gd_t h
  obtain ⟨ho3, h⟩ := h
  obtain ⟨_, ho3⟩ := isO_s ho3
  replace h := bd_i h
  obtain ⟨r5, q4, h⟩ := h
  refine q_callV C 0 23 (64 * 23) (k_X3_row q4) rfl ho3 rfl okX3_row inX3_row lkX5_166 rfl (Nat.le_of_ble_eq_true rfl) ⟨by decide, by decide⟩ dX5_touches_6 (by omega) (by omega) ?_
  refine r_astore_nq C (lv' := [(3, va_rf r5), (0, .ref l0), (1, .int l1), (2, .int l2)]) dX5_touches_9 rfl (by decide) rfl ?_
  refine r_aload_n C 1 rfl dX5_touches_10 rfl ?_
  replace h := bd_i h
  obtain ⟨w6, e7, h⟩ := h
  refine k_gR C e7 rfl inX5_ (by decide) flX5_10 dX5_touches_11 ?_
  refine r_iload_n C 3 rfl dX5_touches_14 rfl ?_
  refine r_iconst C (v := 1) dX5_touches_15 (by decide) ?_
  replace h := gd_t h
  obtain ⟨ho8, h⟩ := h
  obtain ⟨_, ho8⟩ := isO_s ho8
  replace h := bd_i h
  obtain ⟨r10, q9, h⟩ := h
  refine q_callV C 0 23 (64 * 23) (k_X3_row q9) rfl ho8 rfl okX3_row inX3_row lkX5_166 rfl (Nat.le_of_ble_eq_true rfl) ⟨by decide, by decide⟩ dX5_touches_16 (by omega) (by omega) ?_
  refine r_astoreq C (lv' := [(4, va_rf r10), (3, va_rf r5), (0, .ref l0), (1, .int l1), (2, .int l2)]) dX5_touches_19 (by decide) (by simp [rf_cat]) ?_
  refine r_aload_nq C 1 rfl dX5_touches_21 rfl ?_
  refine k_ifnull C (tgt := 30) dX5_touches_22 (by decide) (fun hx => ?_) (fun a11 hx => ?_)
  · subst hx
    replace h := oe_n rfl h
    refine r_ldc2 C (v := -2) clX5_140 dX5_touches_30 ?_
    cases h
    exact r_lreturn C (Eq.symm hO) dX5_touches_33
  · subst hx
    replace h := oe_s rfl h
    refine r_aloadq C 0 rfl dX5_touches_25 ?_
    refine k_ifnonnull C (tgt := 34) dX5_touches_27 (by decide) (fun a12 hx => ?_) (fun hx => ?_)
    · subst hx
      replace h := oe_s rfl h
      refine r_aload_n C 2 rfl dX5_touches_34 rfl ?_
      replace h := bd_i h
      obtain ⟨w13, e14, h⟩ := h
      refine k_gR C e14 rfl inX5_ (by decide) flX5_86 dX5_touches_35 ?_
      refine r_aload_n C 1 rfl dX5_touches_38 rfl ?_
      refine r_aload_n C 2 rfl dX5_touches_39 rfl ?_
      replace h := bd_i h
      obtain ⟨w15, e16, h⟩ := h
      refine k_gR C e16 rfl inX5_ (by decide) flX5_86 dX5_touches_40 ?_
      refine r_aload C 0 rfl dX5_touches_43 ?_
      replace h := gd_t h
      obtain ⟨ho17, h⟩ := h
      obtain ⟨_, ho17⟩ := isO_s ho17
      replace h := bd_i h
      obtain ⟨⟨r19, hp20, z21⟩, q18, h⟩ := h
      refine q_callV C 2 8 (64 * 8) (k_X4_baseOfLine q18) rfl ho17 rfl okX4_baseOfLine inX4_baseOfLine lkX5_217 rfl (Nat.le_of_ble_eq_true rfl) ⟨by decide, by decide⟩ dX5_touches_45 (by omega) (by omega) ?_
      replace h := gd_t h
      obtain ⟨ho22, h⟩ := h
      obtain ⟨_, ho22⟩ := isO_s ho22
      replace h := bd_i h
      obtain ⟨⟨r24, hp25, z26⟩, q23, h⟩ := h
      refine q_callV C 0 0 (64 * 0) (k_X4_stepsOnQuadric q23) rfl ho22 rfl okX4_stepsOnQuadric inX4_stepsOnQuadric lkX5_221 rfl (Nat.le_of_ble_eq_true rfl) ⟨by decide, by decide⟩ dX5_touches_48 (by omega) (by omega) ?_
      refine r_astoreq C (lv' := [(5, va_rf r24), (4, .ref a12), (3, .ref a11), (0, .ref l0), (1, .int l1), (2, .int l2)]) dX5_touches_51 (by decide) rfl ?_
      refine r_aloadq C 0 rfl dX5_touches_53 ?_
      refine k_ifnonnull C (tgt := 70) dX5_touches_55 (by decide) (fun a27 hx => ?_) (fun hx => ?_)
      · subst hx
        replace h := oe_s rfl h
        refine r_aload C 0 rfl dX5_touches_70 ?_
        replace h := bd_i h
        obtain ⟨w32, e33, h⟩ := h
        refine k_alen C e33 dX5_touches_72 ?_
        refine r_i2l C dX5_touches_73 ?_
        cases h
        exact r_lreturn C (Eq.symm hO) dX5_touches_74
      · subst hx
        replace h := oe_n rfl h
        refine r_aload_n C 3 rfl dX5_touches_58 rfl ?_
        replace h := bd_i h
        obtain ⟨w28, e29, h⟩ := h
        refine k_gR C e29 rfl inX5_ (by decide) flX5_40 dX5_touches_59 ?_
        replace h := bd_i h
        obtain ⟨w30, e31, h⟩ := h
        refine k_gJ C e31 rfl inX0_ (by decide) flX5_158 dX5_touches_62 ?_
        refine r_lconst C (v := 1) dX5_touches_65 (by decide) ?_
        refine r_ladd C dX5_touches_66 ?_
        refine r_goto C (tgt := 74) dX5_touches_67 (by decide) ?_
        cases h
        exact r_lreturn C (Eq.symm hO) dX5_touches_74
    · subst hx
      replace h := oe_n rfl h
      refine r_ldc2 C (v := -2) clX5_140 dX5_touches_30 ?_
      cases h
      exact r_lreturn C (Eq.symm hO) dX5_touches_33
noncomputable def f_X4_pointAt (hp : cH) (sz : Nat) (l0 : Nat) (l1 : Nat) (l2 : Int64) : Option ((Option Nat) × cH × Nat) := (gR hp l0 4 1).bind fun w1 => (gJ hp w1 0 0).bind fun w3 => if l2 = w3 then ((lR 3 hp l1 ((1 : Int32))).bind fun u20 => some (u20, hp, sz)) else ((gR hp l0 4 0).bind fun w5 => (lR 3 hp l1 ((0 : Int32))).bind fun u7 => (lR 3 hp l1 ((1 : Int32))).bind fun u9 => u7.bind fun a11 => u9.bind fun a13 => if isO hp w5 2 = true then (f_X2_sum hp sz w5 ((1 : Int64)) a11 l2 a13).bind fun (r17, hp18, z19) => some ((some r17), hp18, z19) else none)
set_option maxHeartbeats 4000000 in
set_option maxRecDepth 100000 in
theorem k_X4_pointAt {G : gT} {hp : cH} {sz : Nat} {l0 : Nat} {l1 : Nat} {l2 : Int64} {o0 : Option Nat} {oh : cH} {oz : Nat} (h : f_X4_pointAt hp sz l0 l1 l2 = some (o0, oh, oz)) : aM G yX4_pointAt cX4_pointAt 4 (some (.array .long)) 2 41 1 (64 * 1) [.ref l0, .ref l1, .long l2] hp sz ((some (va_rf o0), oh, oz) : oT) := by
  refine aM.of RX4 (by decide) rfl (Nat.le_of_ble_eq_true rfl) (fun K C => ?_)
  have hO : ((some (va_rf o0), oh, oz) : oT) = ((some (va_rf o0), oh, oz) : oT) := rfl
  refine r_lve (lv' := [(0, .ref l0), (1, .ref l1), (2, .long l2)]) rfl ?_
  unfold f_X4_pointAt at h
  refine r_lload_n C 2 rfl dX4_pointAt_0 rfl ?_
  refine r_aload_n C 0 rfl dX4_pointAt_1 rfl ?_
  replace h := bd_i h
  obtain ⟨w1, e2, h⟩ := h
  refine k_gR C e2 rfl inX4_ (by decide) flX4_21 dX4_pointAt_2 ?_
  replace h := bd_i h
  obtain ⟨w3, e4, h⟩ := h
  refine k_gJ C e4 rfl inX0_ (by decide) flX4_107 dX4_pointAt_5 ?_
  refine r_lne C (tgt := 18) dX4_pointAt_8 dX4_pointAt_9 (by decide) (fun hc => ?_) (fun hc => ?_)
  · replace h := br_n hc h
    refine r_aload_n C 0 rfl dX4_pointAt_18 rfl ?_
    replace h := bd_i h
    obtain ⟨w5, e6, h⟩ := h
    refine k_gR C e6 rfl inX4_ (by decide) flX4_9 dX4_pointAt_19 ?_
    refine r_lconst C (v := 1) dX4_pointAt_22 (by decide) ?_
    refine r_aload_n C 1 rfl dX4_pointAt_23 rfl ?_
    refine r_iconst C (v := 0) dX4_pointAt_24 (by decide) ?_
    replace h := bd_i h
    obtain ⟨u7, e8, h⟩ := h
    refine k_lR C (by decide) e8 dX4_pointAt_25 ?_
    refine r_lload_n C 2 rfl dX4_pointAt_26 rfl ?_
    refine r_aload_n C 1 rfl dX4_pointAt_27 rfl ?_
    refine r_iconst C (v := 1) dX4_pointAt_28 (by decide) ?_
    replace h := bd_i h
    obtain ⟨u9, e10, h⟩ := h
    refine k_lR C (by decide) e10 dX4_pointAt_29 ?_
    replace h := bd_i h
    obtain ⟨a11, e12, h⟩ := h
    subst e12
    replace h := bd_i h
    obtain ⟨a13, e14, h⟩ := h
    subst e14
    replace h := gd_t h
    obtain ⟨ho15, h⟩ := h
    obtain ⟨_, ho15⟩ := isO_s ho15
    replace h := bd_i h
    obtain ⟨⟨r17, hp18, z19⟩, q16, h⟩ := h
    refine q_callV C 0 0 (64 * 0) (k_X2_sum q16) rfl ho15 rfl okX2_sum inX2_sum lkX4_111 rfl (Nat.le_of_ble_eq_true rfl) ⟨by decide, by decide⟩ dX4_pointAt_30 (by omega) (by omega) ?_
    cases h
    exact r_areturnA C (Or.inr ⟨_, rfl⟩) (Eq.symm hO) dX4_pointAt_33
  · replace h := br_p hc h
    refine r_aload_n C 1 rfl dX4_pointAt_12 rfl ?_
    refine r_iconst C (v := 1) dX4_pointAt_13 (by decide) ?_
    replace h := bd_i h
    obtain ⟨u20, e21, h⟩ := h
    refine k_lR C (by decide) e21 dX4_pointAt_14 ?_
    refine r_goto C (tgt := 33) dX4_pointAt_15 (by decide) ?_
    cases h
    exact r_areturn C (Or.inr ⟨_, rfl⟩) (Eq.symm hO) dX4_pointAt_33
noncomputable def f_X5_common (hp : cH) (sz : Nat) (l0 : Nat) (l1 : Int32) (l2 : Int32) (l3 : Int32) : Option (Int32 × cH × Nat) := (gR hp l0 5 0).bind fun w1 => if isO hp w1 3 = true then (f_X3_row hp w1 l1 ((4 : Int32))).bind fun r5 => (gR hp l0 5 0).bind fun w6 => if isO hp w6 3 = true then (f_X3_row hp w6 l2 ((1 : Int32))).bind fun r10 => Option.elim r5 (some ((-2 : Int32), hp, sz)) (fun a11 => Option.elim r10 (some ((-2 : Int32), hp, sz)) (fun a12 => if 0 ≤ l3 then ((gR hp l0 5 9).bind fun w13 => if isO hp w13 4 = true then (f_X4_baseOfLine hp sz w13 a12).bind fun (r17, hp18, z19) => (gR hp18 l0 5 9).bind fun w20 => if isO hp18 w20 4 = true then (f_X4_stepsOnQuadric hp18 z19 w20 a11 r17).bind fun (r24, hp25, z26) => Option.elim r24 ((gR hp25 l0 5 7).bind fun w28 => (gJ hp25 w28 0 0).bind fun w30 => if l3.toInt64 ≤ w30 then ((gR hp25 l0 5 9).bind fun w32 => if isO hp25 w32 4 = true then (f_X4_pointAt hp25 z26 w32 r17 l3.toInt64).bind fun (r36, hp37, z38) => if isO hp37 l0 5 = true then (f_X5_keep hp37 z38 l0 ((0 : Int32)) r36).bind fun (r41, hp42, z43) => some (r41, hp42, z43) else none else none) else (some ((-1 : Int32), hp25, z26))) (fun a27 => (aN hp25 a27).bind fun w44 => if l3 < w44 then ((gR hp25 l0 5 9).bind fun w46 => (lJ hp25 a27 l3).bind fun w48 => if isO hp25 w46 4 = true then (f_X4_pointAt hp25 z26 w46 r17 w48).bind fun (r52, hp53, z54) => if isO hp53 l0 5 = true then (f_X5_keep hp53 z54 l0 ((0 : Int32)) r52).bind fun (r57, hp58, z59) => some (r57, hp58, z59) else none else none) else (some ((-1 : Int32), hp25, z26))) else none else none) else (some ((-2 : Int32), hp, sz)))) else none else none
set_option maxHeartbeats 4000000 in
set_option maxRecDepth 100000 in
theorem k_X5_common {G : gT} {hp : cH} {sz : Nat} {l0 : Nat} {l1 : Int32} {l2 : Int32} {l3 : Int32} {o0 : Int32} {oh : cH} {oz : Nat} (h : f_X5_common hp sz l0 l1 l2 l3 = some (o0, oh, oz)) : aM G yX5_common cX5_common 8 (some .int) 5 113 29 (64 * 29) [.ref l0, .int l1, .int l2, .int l3] hp sz ((some (.int o0), oh, oz) : oT) := by
  refine aM.of RX5 (by decide) rfl (Nat.le_of_ble_eq_true rfl) (fun K C => ?_)
  have hO : ((some (.int o0), oh, oz) : oT) = ((some (.int o0), oh, oz) : oT) := rfl
  refine r_lve (lv' := [(0, .ref l0), (1, .int l1), (2, .int l2), (3, .int l3)]) rfl ?_
  unfold f_X5_common at h
  refine r_aload_n C 0 rfl dX5_common_0 rfl ?_
  replace h := bd_i h
  obtain ⟨w1, e2, h⟩ := h
  refine k_gR C e2 rfl inX5_ (by decide) flX5_10 dX5_common_1 ?_
  refine r_iload_n C 1 rfl dX5_common_4 rfl ?_
  refine r_iconst C (v := 4) dX5_common_5 (by decide) ?_
  replace h := gd_t h
  obtain ⟨ho3, h⟩ := h
  obtain ⟨_, ho3⟩ := isO_s ho3
  replace h := bd_i h
  obtain ⟨r5, q4, h⟩ := h
  refine q_callV C 0 29 (64 * 29) (k_X3_row q4) rfl ho3 rfl okX3_row inX3_row lkX5_166 rfl (Nat.le_of_ble_eq_true rfl) ⟨by decide, by decide⟩ dX5_common_6 (by omega) (by omega) ?_
  refine r_astoreq C (lv' := [(4, va_rf r5), (0, .ref l0), (1, .int l1), (2, .int l2), (3, .int l3)]) dX5_common_9 (by decide) rfl ?_
  refine r_aload_n C 1 rfl dX5_common_11 rfl ?_
  replace h := bd_i h
  obtain ⟨w6, e7, h⟩ := h
  refine k_gR C e7 rfl inX5_ (by decide) flX5_10 dX5_common_12 ?_
  refine r_iload_n C 3 rfl dX5_common_15 rfl ?_
  refine r_iconst C (v := 1) dX5_common_16 (by decide) ?_
  replace h := gd_t h
  obtain ⟨ho8, h⟩ := h
  obtain ⟨_, ho8⟩ := isO_s ho8
  replace h := bd_i h
  obtain ⟨r10, q9, h⟩ := h
  refine q_callV C 0 29 (64 * 29) (k_X3_row q9) rfl ho8 rfl okX3_row inX3_row lkX5_166 rfl (Nat.le_of_ble_eq_true rfl) ⟨by decide, by decide⟩ dX5_common_17 (by omega) (by omega) ?_
  refine r_astoreq C (lv' := [(5, va_rf r10), (4, va_rf r5), (0, .ref l0), (1, .int l1), (2, .int l2), (3, .int l3)]) dX5_common_20 (by decide) (by simp [rf_cat]) ?_
  refine r_aloadq C 1 rfl dX5_common_22 ?_
  refine k_ifnull C (tgt := 36) dX5_common_24 (by decide) (fun hx => ?_) (fun a11 hx => ?_)
  · subst hx
    replace h := oe_n rfl h
    refine r_bipush C (v := -2) dX5_common_36 (by decide) ?_
    cases h
    exact r_ireturn C (Eq.symm hO) dX5_common_38
  · subst hx
    replace h := oe_s rfl h
    refine r_aloadq C 0 rfl dX5_common_27 ?_
    refine k_ifnull C (tgt := 36) dX5_common_29 (by decide) (fun hx => ?_) (fun a12 hx => ?_)
    · subst hx
      replace h := oe_n rfl h
      refine r_bipush C (v := -2) dX5_common_36 (by decide) ?_
      cases h
      exact r_ireturn C (Eq.symm hO) dX5_common_38
    · subst hx
      replace h := oe_s rfl h
      refine r_iload_n C 5 rfl dX5_common_32 rfl ?_
      refine r_if_ge C (tgt := 39) dX5_common_33 (by decide) (fun hc => ?_) (fun hc => ?_)
      · replace h := br_p hc h
        refine r_aload_n C 2 rfl dX5_common_39 rfl ?_
        replace h := bd_i h
        obtain ⟨w13, e14, h⟩ := h
        refine k_gR C e14 rfl inX5_ (by decide) flX5_86 dX5_common_40 ?_
        refine r_aload C 0 rfl dX5_common_43 ?_
        replace h := gd_t h
        obtain ⟨ho15, h⟩ := h
        obtain ⟨_, ho15⟩ := isO_s ho15
        replace h := bd_i h
        obtain ⟨⟨r17, hp18, z19⟩, q16, h⟩ := h
        refine q_callV C 0 14 (64 * 14) (k_X4_baseOfLine q16) rfl ho15 rfl okX4_baseOfLine inX4_baseOfLine lkX5_217 rfl (Nat.le_of_ble_eq_true rfl) ⟨by decide, by decide⟩ dX5_common_45 (by omega) (by omega) ?_
        refine r_astore C (lv' := [(6, .ref r17), (5, .ref a12), (4, .ref a11), (0, .ref l0), (1, .int l1), (2, .int l2), (3, .int l3)]) dX5_common_48 (by decide) rfl ?_
        refine r_aload_n C 3 rfl dX5_common_50 rfl ?_
        replace h := bd_i h
        obtain ⟨w20, e21, h⟩ := h
        refine k_gR C e21 rfl inX5_ (by decide) flX5_86 dX5_common_51 ?_
        refine r_aload C 2 rfl dX5_common_54 ?_
        refine r_aload C 0 rfl dX5_common_56 ?_
        replace h := gd_t h
        obtain ⟨ho22, h⟩ := h
        obtain ⟨_, ho22⟩ := isO_s ho22
        replace h := bd_i h
        obtain ⟨⟨r24, hp25, z26⟩, q23, h⟩ := h
        refine q_callV C 0 6 (64 * 6) (k_X4_stepsOnQuadric q23) rfl ho22 rfl okX4_stepsOnQuadric inX4_stepsOnQuadric lkX5_221 rfl (Nat.le_of_ble_eq_true rfl) ⟨by decide, by decide⟩ dX5_common_58 (by omega) (by omega) ?_
        refine r_astoreq C (lv' := [(7, va_rf r24), (6, .ref r17), (5, .ref a12), (4, .ref a11), (0, .ref l0), (1, .int l1), (2, .int l2), (3, .int l3)]) dX5_common_61 (by decide) rfl ?_
        refine r_aloadq C 0 rfl dX5_common_63 ?_
        refine k_ifnonnull C (tgt := 102) dX5_common_65 (by decide) (fun a27 hx => ?_) (fun hx => ?_)
        · subst hx
          replace h := oe_s rfl h
          refine r_iload_n C 7 rfl dX5_common_102 rfl ?_
          refine r_aload C 0 rfl dX5_common_103 ?_
          replace h := bd_i h
          obtain ⟨w44, e45, h⟩ := h
          refine k_alen C e45 dX5_common_105 ?_
          refine r_icmp_lt C (tgt := 113) dX5_common_106 (by decide) (fun hc => ?_) (fun hc => ?_)
          · replace h := br_p hc h
            refine r_aload_n C 4 rfl dX5_common_113 rfl ?_
            refine r_iconst C (v := 0) dX5_common_114 (by decide) ?_
            refine r_aload_n C 4 rfl dX5_common_115 rfl ?_
            replace h := bd_i h
            obtain ⟨w46, e47, h⟩ := h
            refine k_gR C e47 rfl inX5_ (by decide) flX5_86 dX5_common_116 ?_
            refine r_aload C 1 rfl dX5_common_119 ?_
            refine r_aload C 0 rfl dX5_common_121 ?_
            refine r_iload_n C 7 rfl dX5_common_123 rfl ?_
            replace h := bd_i h
            obtain ⟨w48, e49, h⟩ := h
            refine k_lJ C e49 dX5_common_124 ?_
            replace h := gd_t h
            obtain ⟨ho50, h⟩ := h
            obtain ⟨_, ho50⟩ := isO_s ho50
            replace h := bd_i h
            obtain ⟨⟨r52, hp53, z54⟩, q51, h⟩ := h
            refine q_callV C 2 5 (64 * 5) (k_X4_pointAt q51) rfl ho50 rfl okX4_pointAt inX4_pointAt lkX5_225 rfl (Nat.le_of_ble_eq_true rfl) ⟨by decide, by decide⟩ dX5_common_125 (by omega) (by omega) ?_
            replace h := gd_t h
            obtain ⟨ho55, h⟩ := h
            obtain ⟨_, ho55⟩ := isO_s ho55
            replace h := bd_i h
            obtain ⟨⟨r57, hp58, z59⟩, q56, h⟩ := h
            refine q_callV C 0 3 (64 * 3) (k_X5_keep q56) rfl ho55 rfl okX5_keep inX5_keep lkX5_62 rfl (Nat.le_of_ble_eq_true rfl) ⟨by decide, by decide⟩ dX5_common_128 (by omega) (by omega) ?_
            cases h
            exact r_ireturn C (Eq.symm hO) dX5_common_131
          · replace h := br_n hc h
            refine r_iconst C (v := -1) dX5_common_109 (by decide) ?_
            refine r_goto C (tgt := 131) dX5_common_110 (by decide) ?_
            cases h
            exact r_ireturn C (Eq.symm hO) dX5_common_131
        · subst hx
          replace h := oe_n rfl h
          refine r_iload_n C 7 rfl dX5_common_68 rfl ?_
          refine r_i2l C dX5_common_69 ?_
          refine r_aload_n C 4 rfl dX5_common_70 rfl ?_
          replace h := bd_i h
          obtain ⟨w28, e29, h⟩ := h
          refine k_gR C e29 rfl inX5_ (by decide) flX5_40 dX5_common_71 ?_
          replace h := bd_i h
          obtain ⟨w30, e31, h⟩ := h
          refine k_gJ C e31 rfl inX0_ (by decide) flX5_158 dX5_common_74 ?_
          refine r_lle C (tgt := 85) dX5_common_77 dX5_common_78 (by decide) (fun hc => ?_) (fun hc => ?_)
          · replace h := br_p hc h
            refine r_aload_n C 4 rfl dX5_common_85 rfl ?_
            refine r_iconst C (v := 0) dX5_common_86 (by decide) ?_
            refine r_aload_n C 4 rfl dX5_common_87 rfl ?_
            replace h := bd_i h
            obtain ⟨w32, e33, h⟩ := h
            refine k_gR C e33 rfl inX5_ (by decide) flX5_86 dX5_common_88 ?_
            refine r_aload C 1 rfl dX5_common_91 ?_
            refine r_iload_n C 7 rfl dX5_common_93 rfl ?_
            refine r_i2l C dX5_common_94 ?_
            replace h := gd_t h
            obtain ⟨ho34, h⟩ := h
            obtain ⟨_, ho34⟩ := isO_s ho34
            replace h := bd_i h
            obtain ⟨⟨r36, hp37, z38⟩, q35, h⟩ := h
            refine q_callV C 2 5 (64 * 5) (k_X4_pointAt q35) rfl ho34 rfl okX4_pointAt inX4_pointAt lkX5_225 rfl (Nat.le_of_ble_eq_true rfl) ⟨by decide, by decide⟩ dX5_common_95 (by omega) (by omega) ?_
            replace h := gd_t h
            obtain ⟨ho39, h⟩ := h
            obtain ⟨_, ho39⟩ := isO_s ho39
            replace h := bd_i h
            obtain ⟨⟨r41, hp42, z43⟩, q40, h⟩ := h
            refine q_callV C 0 3 (64 * 3) (k_X5_keep q40) rfl ho39 rfl okX5_keep inX5_keep lkX5_62 rfl (Nat.le_of_ble_eq_true rfl) ⟨by decide, by decide⟩ dX5_common_98 (by omega) (by omega) ?_
            cases h
            exact r_ireturn C (Eq.symm hO) dX5_common_101
          · replace h := br_n hc h
            refine r_iconst C (v := -1) dX5_common_81 (by decide) ?_
            refine r_goto C (tgt := 101) dX5_common_82 (by decide) ?_
            cases h
            exact r_ireturn C (Eq.symm hO) dX5_common_101
      · replace h := br_n hc h
        refine r_bipush C (v := -2) dX5_common_36 (by decide) ?_
        cases h
        exact r_ireturn C (Eq.symm hO) dX5_common_38
noncomputable def f_X5_root (hp : cH) (l0 : Nat) (l1 : Int64) : Option Int32 := (gR hp l0 5 7).bind fun w1 => (gR hp l0 5 7).bind fun w3 => if isO hp w3 0 = true then (f_X0_reduced hp w3 l1).bind fun r7 => if isO hp w1 0 = true then (f_X0_squareRoot hp w1 r7).bind fun r10 => some r10.toInt32 else none else none
set_option maxHeartbeats 4000000 in
set_option maxRecDepth 100000 in
theorem k_X5_root {G : gT} {hp : cH} {sz : Nat} {l0 : Nat} {l1 : Int64} {o0 : Int32} (h : f_X5_root hp l0 l1 = some o0) : aM G yX5_root cX5_root 3 (some .int) 3 63 0 (64 * 0) [.ref l0, .long l1] hp sz ((some (.int o0), hp, sz) : oT) := by
  refine aM.of RX5 (by decide) rfl (Nat.le_of_ble_eq_true rfl) (fun K C => ?_)
  have hO : ((some (.int o0), hp, sz) : oT) = ((some (.int o0), hp, sz) : oT) := rfl
  refine r_lve (lv' := [(0, .ref l0), (1, .long l1)]) rfl ?_
  unfold f_X5_root at h
  refine r_aload_n C 0 rfl dX5_root_0 rfl ?_
  replace h := bd_i h
  obtain ⟨w1, e2, h⟩ := h
  refine k_gR C e2 rfl inX5_ (by decide) flX5_40 dX5_root_1 ?_
  refine r_aload_n C 0 rfl dX5_root_4 rfl ?_
  replace h := bd_i h
  obtain ⟨w3, e4, h⟩ := h
  refine k_gR C e4 rfl inX5_ (by decide) flX5_40 dX5_root_5 ?_
  refine r_lload_n C 1 rfl dX5_root_8 rfl ?_
  replace h := gd_t h
  obtain ⟨ho5, h⟩ := h
  obtain ⟨_, ho5⟩ := isO_s ho5
  replace h := bd_i h
  obtain ⟨r7, q6, h⟩ := h
  refine q_callV C 1 0 (64 * 0) (k_X0_reduced q6) rfl ho5 rfl okX0_reduced inX0_reduced lkX5_44 rfl (Nat.le_of_ble_eq_true rfl) ⟨by decide, by decide⟩ dX5_root_9 (by omega) (by omega) ?_
  replace h := gd_t h
  obtain ⟨ho8, h⟩ := h
  obtain ⟨_, ho8⟩ := isO_s ho8
  replace h := bd_i h
  obtain ⟨r10, q9, h⟩ := h
  refine q_callV C 0 0 (64 * 0) (k_X0_squareRoot q9) rfl ho8 rfl okX0_squareRoot inX0_squareRoot lkX5_228 rfl (Nat.le_of_ble_eq_true rfl) ⟨by decide, by decide⟩ dX5_root_12 (by omega) (by omega) ?_
  refine r_l2i C dX5_root_15 ?_
  cases h
  exact r_ireturn C (Eq.symm hO) dX5_root_16
noncomputable def f_X5_dual (hp : cH) (sz : Nat) (l0 : Nat) (l1 : Int32) : Option (Int32 × cH × Nat) := (gR hp l0 5 0).bind fun w1 => if isO hp w1 3 = true then (f_X3_item hp w1 l1).bind fun r5 => Option.elim r5 (some ((-2 : Int32), hp, sz)) (fun a6 => (gI hp a6 1 0).bind fun w7 => if w7 = 0 then ((gI hp l0 5 6).bind fun w67 => (gR hp a6 1 1).bind fun w69 => if isO hp l0 5 = true then (f_X5_keep hp sz l0 w67 ((some w69))).bind fun (r73, hp74, z75) => some (r73, hp74, z75) else none) else ((gI hp a6 1 0).bind fun w9 => (gI hp l0 5 6).bind fun w11 => if w9 = w11 then ((gR hp a6 1 1).bind fun w60 => if isO hp l0 5 = true then (f_X5_keep hp sz l0 ((0 : Int32)) ((some w60))).bind fun (r64, hp65, z66) => some (r64, hp65, z66) else none) else ((gI hp a6 1 0).bind fun w13 => if w13 = ((1 : Int32)) then ((gR hp l0 5 9).bind fun w46 => (gR hp a6 1 1).bind fun w48 => if isO hp w46 4 = true then (f_X4_flipped hp sz w46 w48).bind fun (r52, hp53, z54) => if isO hp53 l0 5 = true then (f_X5_keep hp53 z54 l0 ((1 : Int32)) ((some r52))).bind fun (r57, hp58, z59) => some (r57, hp58, z59) else none else none) else ((gR hp l0 5 8).bind fun w15 => (gR hp a6 1 1).bind fun w17 => if isO hp w15 2 = true then (f_X2_inverted hp sz w15 w17).bind fun (r21, hp22, z23) => Option.elim r21 (some ((-1 : Int32), hp22, z23)) (fun a24 => (gI hp22 a6 1 0).bind fun w25 => (gI hp22 a6 1 0).bind fun w27 => if w27 = ((3 : Int32)) then ((gR hp22 l0 5 8).bind fun w34 => if isO hp22 w34 2 = true then (f_X2_turned hp22 z23 w34 a24).bind fun (r38, hp39, z40) => if isO hp39 l0 5 = true then (f_X5_keep hp39 z40 l0 w25 ((some r38))).bind fun (r43, hp44, z45) => some (r43, hp44, z45) else none else none) else (if isO hp22 l0 5 = true then (f_X5_keep hp22 z23 l0 w25 ((some a24))).bind fun (r31, hp32, z33) => some (r31, hp32, z33) else none)) else none)))) else none
set_option maxHeartbeats 4000000 in
set_option maxRecDepth 100000 in
theorem k_X5_dual {G : gT} {hp : cH} {sz : Nat} {l0 : Nat} {l1 : Int32} {o0 : Int32} {oh : cH} {oz : Nat} (h : f_X5_dual hp sz l0 l1 = some (o0, oh, oz)) : aM G yX5_dual cX5_dual 4 (some .int) 4 73 21 (64 * 21) [.ref l0, .int l1] hp sz ((some (.int o0), oh, oz) : oT) := by
  refine aM.of RX5 (by decide) rfl (Nat.le_of_ble_eq_true rfl) (fun K C => ?_)
  have hO : ((some (.int o0), oh, oz) : oT) = ((some (.int o0), oh, oz) : oT) := rfl
  refine r_lve (lv' := [(0, .ref l0), (1, .int l1)]) rfl ?_
  unfold f_X5_dual at h
  refine r_aload_n C 0 rfl dX5_dual_0 rfl ?_
  replace h := bd_i h
  obtain ⟨w1, e2, h⟩ := h
  refine k_gR C e2 rfl inX5_ (by decide) flX5_10 dX5_dual_1 ?_
  refine r_iload_n C 1 rfl dX5_dual_4 rfl ?_
  replace h := gd_t h
  obtain ⟨ho3, h⟩ := h
  obtain ⟨_, ho3⟩ := isO_s ho3
  replace h := bd_i h
  obtain ⟨r5, q4, h⟩ := h
  refine q_callV C 0 21 (64 * 21) (k_X3_item q4) rfl ho3 rfl okX3_item inX3_item lkX5_66 rfl (Nat.le_of_ble_eq_true rfl) ⟨by decide, by decide⟩ dX5_dual_5 (by omega) (by omega) ?_
  refine r_astore_nq C (lv' := [(2, va_rf r5), (0, .ref l0), (1, .int l1)]) dX5_dual_8 rfl (by decide) rfl ?_
  refine r_aload_nq C 0 rfl dX5_dual_9 rfl ?_
  refine k_ifnonnull C (tgt := 16) dX5_dual_10 (by decide) (fun a6 hx => ?_) (fun hx => ?_)
  · subst hx
    replace h := oe_s rfl h
    refine r_aload_n C 0 rfl dX5_dual_16 rfl ?_
    replace h := bd_i h
    obtain ⟨w7, e8, h⟩ := h
    refine k_gI C e8 rfl inX1_ (by decide) flX5_75 dX5_dual_17 ?_
    refine r_if_ne C (tgt := 36) dX5_dual_20 (by decide) (fun hc => ?_) (fun hc => ?_)
    · replace h := br_n hc h
      refine r_aload_n C 0 rfl dX5_dual_36 rfl ?_
      replace h := bd_i h
      obtain ⟨w9, e10, h⟩ := h
      refine k_gI C e10 rfl inX1_ (by decide) flX5_75 dX5_dual_37 ?_
      refine r_aload_n C 1 rfl dX5_dual_40 rfl ?_
      replace h := bd_i h
      obtain ⟨w11, e12, h⟩ := h
      refine k_gI C e12 rfl inX5_ (by decide) flX5_109 dX5_dual_41 ?_
      refine r_icmp_ne C (tgt := 57) dX5_dual_44 (by decide) (fun hc => ?_) (fun hc => ?_)
      · replace h := br_n hc h
        refine r_aload_n C 0 rfl dX5_dual_57 rfl ?_
        replace h := bd_i h
        obtain ⟨w13, e14, h⟩ := h
        refine k_gI C e14 rfl inX1_ (by decide) flX5_75 dX5_dual_58 ?_
        refine r_iconst C (v := 1) dX5_dual_61 (by decide) ?_
        refine r_icmp_ne C (tgt := 82) dX5_dual_62 (by decide) (fun hc => ?_) (fun hc => ?_)
        · replace h := br_n hc h
          refine r_aload_n C 1 rfl dX5_dual_82 rfl ?_
          replace h := bd_i h
          obtain ⟨w15, e16, h⟩ := h
          refine k_gR C e16 rfl inX5_ (by decide) flX5_142 dX5_dual_83 ?_
          refine r_aload_n C 0 rfl dX5_dual_86 rfl ?_
          replace h := bd_i h
          obtain ⟨w17, e18, h⟩ := h
          refine k_gR C e18 rfl inX1_ (by decide) flX5_70 dX5_dual_87 ?_
          replace h := gd_t h
          obtain ⟨ho19, h⟩ := h
          obtain ⟨_, ho19⟩ := isO_s ho19
          replace h := bd_i h
          obtain ⟨⟨r21, hp22, z23⟩, q20, h⟩ := h
          refine q_callV C 0 10 (64 * 10) (k_X2_inverted q20) rfl ho19 rfl okX2_inverted inX2_inverted lkX5_180 rfl (Nat.le_of_ble_eq_true rfl) ⟨by decide, by decide⟩ dX5_dual_90 (by omega) (by omega) ?_
          refine r_astore_nq C (lv' := [(3, va_rf r21), (2, .ref a6), (0, .ref l0), (1, .int l1)]) dX5_dual_93 rfl (by decide) rfl ?_
          refine r_aload_nq C 0 rfl dX5_dual_94 rfl ?_
          refine k_ifnonnull C (tgt := 100) dX5_dual_95 (by decide) (fun a24 hx => ?_) (fun hx => ?_)
          · subst hx
            replace h := oe_s rfl h
            refine r_aload_n C 2 rfl dX5_dual_100 rfl ?_
            refine r_aload_n C 1 rfl dX5_dual_101 rfl ?_
            replace h := bd_i h
            obtain ⟨w25, e26, h⟩ := h
            refine k_gI C e26 rfl inX1_ (by decide) flX5_75 dX5_dual_102 ?_
            refine r_aload_n C 1 rfl dX5_dual_105 rfl ?_
            replace h := bd_i h
            obtain ⟨w27, e28, h⟩ := h
            refine k_gI C e28 rfl inX1_ (by decide) flX5_75 dX5_dual_106 ?_
            refine r_iconst C (v := 3) dX5_dual_109 (by decide) ?_
            refine r_icmp_ne C (tgt := 124) dX5_dual_110 (by decide) (fun hc => ?_) (fun hc => ?_)
            · replace h := br_n hc h
              refine r_aload_n C 0 rfl dX5_dual_124 rfl ?_
              replace h := gd_t h
              obtain ⟨ho29, h⟩ := h
              obtain ⟨_, ho29⟩ := isO_s ho29
              replace h := bd_i h
              obtain ⟨⟨r31, hp32, z33⟩, q30, h⟩ := h
              refine q_callV C 0 8 (64 * 8) (k_X5_keep q30) rfl ho29 rfl okX5_keep inX5_keep lkX5_62 rfl (Nat.le_of_ble_eq_true rfl) ⟨by decide, by decide⟩ dX5_dual_125 (by omega) (by omega) ?_
              cases h
              exact r_ireturn C (Eq.symm hO) dX5_dual_128
            · replace h := br_p hc h
              refine r_aload_n C 2 rfl dX5_dual_113 rfl ?_
              replace h := bd_i h
              obtain ⟨w34, e35, h⟩ := h
              refine k_gR C e35 rfl inX5_ (by decide) flX5_142 dX5_dual_114 ?_
              refine r_aload_n C 0 rfl dX5_dual_117 rfl ?_
              replace h := gd_t h
              obtain ⟨ho36, h⟩ := h
              obtain ⟨_, ho36⟩ := isO_s ho36
              replace h := bd_i h
              obtain ⟨⟨r38, hp39, z40⟩, q37, h⟩ := h
              refine q_callV C 2 9 (64 * 9) (k_X2_turned q37) rfl ho36 rfl okX2_turned inX2_turned lkX5_187 rfl (Nat.le_of_ble_eq_true rfl) ⟨by decide, by decide⟩ dX5_dual_118 (by omega) (by omega) ?_
              refine r_goto C (tgt := 125) dX5_dual_121 (by decide) ?_
              replace h := gd_t h
              obtain ⟨ho41, h⟩ := h
              obtain ⟨_, ho41⟩ := isO_s ho41
              replace h := bd_i h
              obtain ⟨⟨r43, hp44, z45⟩, q42, h⟩ := h
              refine q_callV C 0 7 (64 * 7) (k_X5_keep q42) rfl ho41 rfl okX5_keep inX5_keep lkX5_62 rfl (Nat.le_of_ble_eq_true rfl) ⟨by decide, by decide⟩ dX5_dual_125 (by omega) (by omega) ?_
              cases h
              exact r_ireturn C (Eq.symm hO) dX5_dual_128
          · subst hx
            replace h := oe_n rfl h
            refine r_iconst C (v := -1) dX5_dual_98 (by decide) ?_
            cases h
            exact r_ireturn C (Eq.symm hO) dX5_dual_99
        · replace h := br_p hc h
          refine r_aload_n C 1 rfl dX5_dual_65 rfl ?_
          refine r_iconst C (v := 1) dX5_dual_66 (by decide) ?_
          refine r_aload_n C 1 rfl dX5_dual_67 rfl ?_
          replace h := bd_i h
          obtain ⟨w46, e47, h⟩ := h
          refine k_gR C e47 rfl inX5_ (by decide) flX5_86 dX5_dual_68 ?_
          refine r_aload_n C 0 rfl dX5_dual_71 rfl ?_
          replace h := bd_i h
          obtain ⟨w48, e49, h⟩ := h
          refine k_gR C e49 rfl inX1_ (by decide) flX5_70 dX5_dual_72 ?_
          replace h := gd_t h
          obtain ⟨ho50, h⟩ := h
          obtain ⟨_, ho50⟩ := isO_s ho50
          replace h := bd_i h
          obtain ⟨⟨r52, hp53, z54⟩, q51, h⟩ := h
          refine q_callV C 2 20 (64 * 20) (k_X4_flipped q51) rfl ho50 rfl okX4_flipped inX4_flipped lkX5_231 rfl (Nat.le_of_ble_eq_true rfl) ⟨by decide, by decide⟩ dX5_dual_75 (by omega) (by omega) ?_
          replace h := gd_t h
          obtain ⟨ho55, h⟩ := h
          obtain ⟨_, ho55⟩ := isO_s ho55
          replace h := bd_i h
          obtain ⟨⟨r57, hp58, z59⟩, q56, h⟩ := h
          refine q_callV C 0 18 (64 * 18) (k_X5_keep q56) rfl ho55 rfl okX5_keep inX5_keep lkX5_62 rfl (Nat.le_of_ble_eq_true rfl) ⟨by decide, by decide⟩ dX5_dual_78 (by omega) (by omega) ?_
          cases h
          exact r_ireturn C (Eq.symm hO) dX5_dual_81
      · replace h := br_p hc h
        refine r_aload_n C 1 rfl dX5_dual_47 rfl ?_
        refine r_iconst C (v := 0) dX5_dual_48 (by decide) ?_
        refine r_aload_n C 0 rfl dX5_dual_49 rfl ?_
        replace h := bd_i h
        obtain ⟨w60, e61, h⟩ := h
        refine k_gR C e61 rfl inX1_ (by decide) flX5_70 dX5_dual_50 ?_
        replace h := gd_t h
        obtain ⟨ho62, h⟩ := h
        obtain ⟨_, ho62⟩ := isO_s ho62
        replace h := bd_i h
        obtain ⟨⟨r64, hp65, z66⟩, q63, h⟩ := h
        refine q_callV C 0 19 (64 * 19) (k_X5_keep q63) rfl ho62 rfl okX5_keep inX5_keep lkX5_62 rfl (Nat.le_of_ble_eq_true rfl) ⟨by decide, by decide⟩ dX5_dual_53 (by omega) (by omega) ?_
        cases h
        exact r_ireturn C (Eq.symm hO) dX5_dual_56
    · replace h := br_p hc h
      refine r_aload_n C 1 rfl dX5_dual_23 rfl ?_
      refine r_aload_n C 1 rfl dX5_dual_24 rfl ?_
      replace h := bd_i h
      obtain ⟨w67, e68, h⟩ := h
      refine k_gI C e68 rfl inX5_ (by decide) flX5_109 dX5_dual_25 ?_
      refine r_aload_n C 0 rfl dX5_dual_28 rfl ?_
      replace h := bd_i h
      obtain ⟨w69, e70, h⟩ := h
      refine k_gR C e70 rfl inX1_ (by decide) flX5_70 dX5_dual_29 ?_
      replace h := gd_t h
      obtain ⟨ho71, h⟩ := h
      obtain ⟨_, ho71⟩ := isO_s ho71
      replace h := bd_i h
      obtain ⟨⟨r73, hp74, z75⟩, q72, h⟩ := h
      refine q_callV C 0 19 (64 * 19) (k_X5_keep q72) rfl ho71 rfl okX5_keep inX5_keep lkX5_62 rfl (Nat.le_of_ble_eq_true rfl) ⟨by decide, by decide⟩ dX5_dual_32 (by omega) (by omega) ?_
      cases h
      exact r_ireturn C (Eq.symm hO) dX5_dual_35
  · subst hx
    replace h := oe_n rfl h
    refine r_bipush C (v := -2) dX5_dual_13 (by decide) ?_
    cases h
    exact r_ireturn C (Eq.symm hO) dX5_dual_15
noncomputable def f_X5_ideal (hp : cH) (l0 : Nat) (l1 : Int32) : Option (Int32 × cH) := (gR hp l0 5 0).bind fun w1 => (gI hp l0 5 6).bind fun w3 => if isO hp w1 3 = true then (f_X3_row hp w1 l1 w3).bind fun r7 => Option.elim r7 (some ((-2 : Int32), hp)) (fun a8 => (gI hp l0 5 12).bind fun w9 => (pV hp l0 5 12 (.int l1)).bind fun hp11 => some (w9, hp11)) else none
set_option maxHeartbeats 4000000 in
set_option maxRecDepth 100000 in
theorem k_X5_ideal {G : gT} {hp : cH} {sz : Nat} {l0 : Nat} {l1 : Int32} {o0 : Int32} {oh : cH} (h : f_X5_ideal hp l0 l1 = some (o0, oh)) : aM G yX5_ideal cX5_ideal 3 (some .int) 2 28 0 (64 * 0) [.ref l0, .int l1] hp sz ((some (.int o0), oh, sz) : oT) := by
  refine aM.of RX5 (by decide) rfl (Nat.le_of_ble_eq_true rfl) (fun K C => ?_)
  have hO : ((some (.int o0), oh, sz) : oT) = ((some (.int o0), oh, sz) : oT) := rfl
  refine r_lve (lv' := [(0, .ref l0), (1, .int l1)]) rfl ?_
  unfold f_X5_ideal at h
  refine r_aload_n C 0 rfl dX5_ideal_0 rfl ?_
  replace h := bd_i h
  obtain ⟨w1, e2, h⟩ := h
  refine k_gR C e2 rfl inX5_ (by decide) flX5_10 dX5_ideal_1 ?_
  refine r_iload_n C 1 rfl dX5_ideal_4 rfl ?_
  refine r_aload_n C 0 rfl dX5_ideal_5 rfl ?_
  replace h := bd_i h
  obtain ⟨w3, e4, h⟩ := h
  refine k_gI C e4 rfl inX5_ (by decide) flX5_109 dX5_ideal_6 ?_
  replace h := gd_t h
  obtain ⟨ho5, h⟩ := h
  obtain ⟨_, ho5⟩ := isO_s ho5
  replace h := bd_i h
  obtain ⟨r7, q6, h⟩ := h
  refine q_callV C 0 0 (64 * 0) (k_X3_row q6) rfl ho5 rfl okX3_row inX3_row lkX5_166 rfl (Nat.le_of_ble_eq_true rfl) ⟨by decide, by decide⟩ dX5_ideal_9 (by omega) (by omega) ?_
  refine k_ifnonnull C (tgt := 18) dX5_ideal_12 (by decide) (fun a8 hx => ?_) (fun hx => ?_)
  · subst hx
    replace h := oe_s rfl h
    refine r_aload_n C 0 rfl dX5_ideal_18 rfl ?_
    replace h := bd_i h
    obtain ⟨w9, e10, h⟩ := h
    refine k_gI C e10 rfl inX5_ (by decide) flX5_234 dX5_ideal_19 ?_
    refine r_istore_n C (lv' := [(2, .int w9), (0, .ref l0), (1, .int l1)]) dX5_ideal_22 rfl (by decide) rfl ?_
    refine r_aload_n C 1 rfl dX5_ideal_23 rfl ?_
    refine r_iload_n C 2 rfl dX5_ideal_24 rfl ?_
    replace h := bd_i h
    obtain ⟨hp11, e12, h⟩ := h
    refine k_pV C tyX5 tyX5_ok nmX5 e12 rfl inX5_ (by decide) flX5_234 rfl rfl rfl rfl dX5_ideal_25 ?_
    refine r_iload_n C 0 rfl dX5_ideal_28 rfl ?_
    cases h
    exact r_ireturn C (Eq.symm hO) dX5_ideal_29
  · subst hx
    replace h := oe_n rfl h
    refine r_bipush C (v := -2) dX5_ideal_15 (by decide) ?_
    cases h
    exact r_ireturn C (Eq.symm hO) dX5_ideal_17
noncomputable def f_X5_liesFar (hp : cH) (sz : Nat) (l0 : Nat) (l1 : Nat) (l2 : Nat) : Option (Int32 × cH × Nat) := (gI hp l1 1 0).bind fun w1 => (gI hp l0 5 6).bind fun w3 => if w1 = w3 then ((gR hp l1 1 1).bind fun w14 => (f_X2_isSame hp w14 l2).bind fun r17 => if r17 = 0 ∨ r17 = 1 then some (r17, hp, sz) else none) else ((gR hp l0 5 9).bind fun w5 => (gR hp l1 1 1).bind fun w7 => if isO hp w5 4 = true then (f_X4_lineIsOnPlane hp sz w5 w7 l2).bind fun (r11, hp12, z13) => if r11 = 0 ∨ r11 = 1 then some (r11, hp12, z13) else none else none)
set_option maxHeartbeats 4000000 in
set_option maxRecDepth 100000 in
theorem k_X5_liesFar {G : gT} {hp : cH} {sz : Nat} {l0 : Nat} {l1 : Nat} {l2 : Nat} {o0 : Int32} {oh : cH} {oz : Nat} (h : f_X5_liesFar hp sz l0 l1 l2 = some (o0, oh, oz)) : aM G yX5_liesFar cX5_liesFar 3 (some .boolean) 5 81 2 (64 * 2) [.ref l0, .ref l1, .ref l2] hp sz ((some (.int o0), oh, oz) : oT) := by
  refine aM.of RX5 (by decide) rfl (Nat.le_of_ble_eq_true rfl) (fun K C => ?_)
  have hO : ((some (.int o0), oh, oz) : oT) = ((some (.int o0), oh, oz) : oT) := rfl
  refine r_lve (lv' := [(0, .ref l0), (1, .ref l1), (2, .ref l2)]) rfl ?_
  unfold f_X5_liesFar at h
  refine r_aload_n C 1 rfl dX5_liesFar_0 rfl ?_
  replace h := bd_i h
  obtain ⟨w1, e2, h⟩ := h
  refine k_gI C e2 rfl inX1_ (by decide) flX5_75 dX5_liesFar_1 ?_
  refine r_aload_n C 0 rfl dX5_liesFar_4 rfl ?_
  replace h := bd_i h
  obtain ⟨w3, e4, h⟩ := h
  refine k_gI C e4 rfl inX5_ (by decide) flX5_109 dX5_liesFar_5 ?_
  refine r_icmp_ne C (tgt := 20) dX5_liesFar_8 (by decide) (fun hc => ?_) (fun hc => ?_)
  · replace h := br_n hc h
    refine r_aload_n C 0 rfl dX5_liesFar_20 rfl ?_
    replace h := bd_i h
    obtain ⟨w5, e6, h⟩ := h
    refine k_gR C e6 rfl inX5_ (by decide) flX5_86 dX5_liesFar_21 ?_
    refine r_aload_n C 1 rfl dX5_liesFar_24 rfl ?_
    replace h := bd_i h
    obtain ⟨w7, e8, h⟩ := h
    refine k_gR C e8 rfl inX1_ (by decide) flX5_70 dX5_liesFar_25 ?_
    refine r_aload_n C 2 rfl dX5_liesFar_28 rfl ?_
    replace h := gd_t h
    obtain ⟨ho9, h⟩ := h
    obtain ⟨_, ho9⟩ := isO_s ho9
    replace h := bd_i h
    obtain ⟨⟨r11, hp12, z13⟩, q10, h⟩ := h
    refine q_callV C 0 0 (64 * 0) (k_X4_lineIsOnPlane q10) rfl ho9 rfl okX4_lineIsOnPlane inX4_lineIsOnPlane lkX5_133 rfl (Nat.le_of_ble_eq_true rfl) ⟨by decide, by decide⟩ dX5_liesFar_29 (by omega) (by omega) ?_
    replace h := gd_t h
    obtain ⟨hz, h⟩ := h
    cases h
    exact r_zreturn C (nb01 hz) (Eq.symm hO) dX5_liesFar_32
  · replace h := br_p hc h
    refine r_aload_n C 1 rfl dX5_liesFar_11 rfl ?_
    replace h := bd_i h
    obtain ⟨w14, e15, h⟩ := h
    refine k_gR C e15 rfl inX1_ (by decide) flX5_70 dX5_liesFar_12 ?_
    refine r_aload_n C 2 rfl dX5_liesFar_15 rfl ?_
    replace h := bd_i h
    obtain ⟨r17, q16, h⟩ := h
    refine q_callS C 0 2 (64 * 2) (k_X2_isSame q16) rfl okX2_isSame inX2_isSame lkX5_287 rfl (Nat.le_of_ble_eq_true rfl) ⟨by decide, by decide⟩ dX5_liesFar_16 (by omega) (by omega) ?_
    replace h := gd_t h
    obtain ⟨hz, h⟩ := h
    cases h
    exact r_zreturn C (nb01 hz) (Eq.symm hO) dX5_liesFar_19
noncomputable def f_X5_meetFar (hp : cH) (sz : Nat) (l0 : Nat) (l1 : Nat) (l2 : Nat) (l3 : Nat) : Option (Int32 × cH × Nat) := (gI hp l1 1 0).bind fun w1 => (gI hp l0 5 6).bind fun w3 => if w1 = w3 then ((gR hp l0 5 9).bind fun w40 => (gR hp l1 1 1).bind fun w42 => (gR hp l2 1 1).bind fun w44 => if isO hp w40 4 = true then (f_X4_crossing hp sz w40 w42 w44).bind fun (r48, hp49, z50) => (gI hp49 l0 5 5).bind fun w51 => if w51 = ((2 : Int32)) then ((gR hp49 l0 5 8).bind fun w60 => if isO hp49 w60 2 = true then (f_X2_dot hp49 w60 r48 l3).bind fun r64 => if r64 = ((0 : Int64)) then (some ((1 : Int32), hp49, z50)) else (some ((0 : Int32), hp49, z50)) else none) else ((gR hp49 l0 5 9).bind fun w53 => if isO hp49 w53 4 = true then (f_X4_lineIsOnPlane hp49 z50 w53 r48 l3).bind fun (r57, hp58, z59) => if r57 = 0 ∨ r57 = 1 then some (r57, hp58, z59) else none else none) else none) else ((gI hp l2 1 0).bind fun w5 => if w5 = ((2 : Int32)) then ((gR hp l0 5 9).bind fun w24 => (gR hp l1 1 1).bind fun w26 => (gR hp l2 1 1).bind fun w28 => if isO hp w24 4 = true then (f_X4_pointOnPlane hp sz w24 w26 w28).bind fun (r32, hp33, z34) => (gR hp33 l0 5 8).bind fun w35 => if isO hp33 w35 2 = true then (f_X2_dot hp33 w35 r32 l3).bind fun r39 => if r39 = ((0 : Int64)) then (some ((1 : Int32), hp33, z34)) else (some ((0 : Int32), hp33, z34)) else none else none) else ((gR hp l0 5 9).bind fun w7 => (gR hp l1 1 1).bind fun w9 => (gR hp l2 1 1).bind fun w11 => if isO hp w7 4 = true then (f_X4_pointOfLines hp sz w7 w9 w11).bind fun (r15, hp16, z17) => Option.elim r15 (some ((0 : Int32), hp16, z17)) (fun a18 => (gR hp16 l0 5 8).bind fun w19 => if isO hp16 w19 2 = true then (f_X2_dot hp16 w19 a18 l3).bind fun r23 => if r23 = ((0 : Int64)) then (some ((1 : Int32), hp16, z17)) else (some ((0 : Int32), hp16, z17)) else none) else none))
set_option maxHeartbeats 4000000 in
set_option maxRecDepth 100000 in
theorem k_X5_meetFar {G : gT} {hp : cH} {sz : Nat} {l0 : Nat} {l1 : Nat} {l2 : Nat} {l3 : Nat} {o0 : Int32} {oh : cH} {oz : Nat} (h : f_X5_meetFar hp sz l0 l1 l2 l3 = some (o0, oh, oz)) : aM G yX5_meetFar cX5_meetFar 5 (some .boolean) 5 84 26 (64 * 26) [.ref l0, .ref l1, .ref l2, .ref l3] hp sz ((some (.int o0), oh, oz) : oT) := by
  refine aM.of RX5 (by decide) rfl (Nat.le_of_ble_eq_true rfl) (fun K C => ?_)
  have hO : ((some (.int o0), oh, oz) : oT) = ((some (.int o0), oh, oz) : oT) := rfl
  refine r_lve (lv' := [(0, .ref l0), (1, .ref l1), (2, .ref l2), (3, .ref l3)]) rfl ?_
  unfold f_X5_meetFar at h
  refine r_aload_n C 1 rfl dX5_meetFar_0 rfl ?_
  replace h := bd_i h
  obtain ⟨w1, e2, h⟩ := h
  refine k_gI C e2 rfl inX1_ (by decide) flX5_75 dX5_meetFar_1 ?_
  refine r_aload_n C 0 rfl dX5_meetFar_4 rfl ?_
  replace h := bd_i h
  obtain ⟨w3, e4, h⟩ := h
  refine k_gI C e4 rfl inX5_ (by decide) flX5_109 dX5_meetFar_5 ?_
  refine r_icmp_ne C (tgt := 70) dX5_meetFar_8 (by decide) (fun hc => ?_) (fun hc => ?_)
  · replace h := br_n hc h
    refine r_aload_n C 2 rfl dX5_meetFar_70 rfl ?_
    replace h := bd_i h
    obtain ⟨w5, e6, h⟩ := h
    refine k_gI C e6 rfl inX1_ (by decide) flX5_75 dX5_meetFar_71 ?_
    refine r_iconst C (v := 2) dX5_meetFar_74 (by decide) ?_
    refine r_icmp_ne C (tgt := 96) dX5_meetFar_75 (by decide) (fun hc => ?_) (fun hc => ?_)
    · replace h := br_n hc h
      refine r_aload_n C 0 rfl dX5_meetFar_96 rfl ?_
      replace h := bd_i h
      obtain ⟨w7, e8, h⟩ := h
      refine k_gR C e8 rfl inX5_ (by decide) flX5_86 dX5_meetFar_97 ?_
      refine r_aload_n C 1 rfl dX5_meetFar_100 rfl ?_
      replace h := bd_i h
      obtain ⟨w9, e10, h⟩ := h
      refine k_gR C e10 rfl inX1_ (by decide) flX5_70 dX5_meetFar_101 ?_
      refine r_aload_n C 2 rfl dX5_meetFar_104 rfl ?_
      replace h := bd_i h
      obtain ⟨w11, e12, h⟩ := h
      refine k_gR C e12 rfl inX1_ (by decide) flX5_70 dX5_meetFar_105 ?_
      replace h := gd_t h
      obtain ⟨ho13, h⟩ := h
      obtain ⟨_, ho13⟩ := isO_s ho13
      replace h := bd_i h
      obtain ⟨⟨r15, hp16, z17⟩, q14, h⟩ := h
      refine q_callV C 0 6 (64 * 6) (k_X4_pointOfLines q14) rfl ho13 rfl okX4_pointOfLines inX4_pointOfLines lkX5_118 rfl (Nat.le_of_ble_eq_true rfl) ⟨by decide, by decide⟩ dX5_meetFar_108 (by omega) (by omega) ?_
      refine r_astoreq C (lv' := [(4, va_rf r15), (0, .ref l0), (1, .ref l1), (2, .ref l2), (3, .ref l3)]) dX5_meetFar_111 (by decide) rfl ?_
      refine r_aloadq C 0 rfl dX5_meetFar_113 ?_
      refine k_ifnull C (tgt := 137) dX5_meetFar_115 (by decide) (fun hx => ?_) (fun a18 hx => ?_)
      · subst hx
        replace h := oe_n rfl h
        refine r_iconst C (v := 0) dX5_meetFar_137 (by decide) ?_
        cases h
        exact r_zreturn C rfl (Eq.symm hO) dX5_meetFar_138
      · subst hx
        replace h := oe_s rfl h
        refine r_aload_n C 1 rfl dX5_meetFar_118 rfl ?_
        replace h := bd_i h
        obtain ⟨w19, e20, h⟩ := h
        refine k_gR C e20 rfl inX5_ (by decide) flX5_142 dX5_meetFar_119 ?_
        refine r_aload C 0 rfl dX5_meetFar_122 ?_
        refine r_aload_n C 4 rfl dX5_meetFar_124 rfl ?_
        replace h := gd_t h
        obtain ⟨ho21, h⟩ := h
        obtain ⟨_, ho21⟩ := isO_s ho21
        replace h := bd_i h
        obtain ⟨r23, q22, h⟩ := h
        refine q_callV C 0 6 (64 * 6) (k_X2_dot q22) rfl ho21 rfl okX2_dot inX2_dot lkX5_245 rfl (Nat.le_of_ble_eq_true rfl) ⟨by decide, by decide⟩ dX5_meetFar_125 (by omega) (by omega) ?_
        refine r_lconst C (v := 0) dX5_meetFar_128 (by decide) ?_
        refine r_lne C (tgt := 137) dX5_meetFar_129 dX5_meetFar_130 (by decide) (fun hc => ?_) (fun hc => ?_)
        · replace h := br_n hc h
          refine r_iconst C (v := 0) dX5_meetFar_137 (by decide) ?_
          cases h
          exact r_zreturn C rfl (Eq.symm hO) dX5_meetFar_138
        · replace h := br_p hc h
          refine r_iconst C (v := 1) dX5_meetFar_133 (by decide) ?_
          refine r_goto C (tgt := 138) dX5_meetFar_134 (by decide) ?_
          cases h
          exact r_zreturn C rfl (Eq.symm hO) dX5_meetFar_138
    · replace h := br_p hc h
      refine r_aload_n C 0 rfl dX5_meetFar_78 rfl ?_
      replace h := bd_i h
      obtain ⟨w24, e25, h⟩ := h
      refine k_gR C e25 rfl inX5_ (by decide) flX5_86 dX5_meetFar_79 ?_
      refine r_aload_n C 1 rfl dX5_meetFar_82 rfl ?_
      replace h := bd_i h
      obtain ⟨w26, e27, h⟩ := h
      refine k_gR C e27 rfl inX1_ (by decide) flX5_70 dX5_meetFar_83 ?_
      refine r_aload_n C 2 rfl dX5_meetFar_86 rfl ?_
      replace h := bd_i h
      obtain ⟨w28, e29, h⟩ := h
      refine k_gR C e29 rfl inX1_ (by decide) flX5_70 dX5_meetFar_87 ?_
      replace h := gd_t h
      obtain ⟨ho30, h⟩ := h
      obtain ⟨_, ho30⟩ := isO_s ho30
      replace h := bd_i h
      obtain ⟨⟨r32, hp33, z34⟩, q31, h⟩ := h
      refine q_callV C 0 24 (64 * 24) (k_X4_pointOnPlane q31) rfl ho30 rfl okX4_pointOnPlane inX4_pointOnPlane lkX5_115 rfl (Nat.le_of_ble_eq_true rfl) ⟨by decide, by decide⟩ dX5_meetFar_90 (by omega) (by omega) ?_
      refine r_goto C (tgt := 111) dX5_meetFar_93 (by decide) ?_
      refine r_astore C (lv' := [(4, .ref r32), (0, .ref l0), (1, .ref l1), (2, .ref l2), (3, .ref l3)]) dX5_meetFar_111 (by decide) rfl ?_
      refine r_aload C 0 rfl dX5_meetFar_113 ?_
      refine k_ifnull C (x := some r32) (tgt := 137) dX5_meetFar_115 (by decide) (fun hx => by cases hx) (fun _ _ => ?_)
      refine r_aload_n C 1 rfl dX5_meetFar_118 rfl ?_
      replace h := bd_i h
      obtain ⟨w35, e36, h⟩ := h
      refine k_gR C e36 rfl inX5_ (by decide) flX5_142 dX5_meetFar_119 ?_
      refine r_aload C 0 rfl dX5_meetFar_122 ?_
      refine r_aload_n C 4 rfl dX5_meetFar_124 rfl ?_
      replace h := gd_t h
      obtain ⟨ho37, h⟩ := h
      obtain ⟨_, ho37⟩ := isO_s ho37
      replace h := bd_i h
      obtain ⟨r39, q38, h⟩ := h
      refine q_callV C 0 24 (64 * 24) (k_X2_dot q38) rfl ho37 rfl okX2_dot inX2_dot lkX5_245 rfl (Nat.le_of_ble_eq_true rfl) ⟨by decide, by decide⟩ dX5_meetFar_125 (by omega) (by omega) ?_
      refine r_lconst C (v := 0) dX5_meetFar_128 (by decide) ?_
      refine r_lne C (tgt := 137) dX5_meetFar_129 dX5_meetFar_130 (by decide) (fun hc => ?_) (fun hc => ?_)
      · replace h := br_n hc h
        refine r_iconst C (v := 0) dX5_meetFar_137 (by decide) ?_
        cases h
        exact r_zreturn C rfl (Eq.symm hO) dX5_meetFar_138
      · replace h := br_p hc h
        refine r_iconst C (v := 1) dX5_meetFar_133 (by decide) ?_
        refine r_goto C (tgt := 138) dX5_meetFar_134 (by decide) ?_
        cases h
        exact r_zreturn C rfl (Eq.symm hO) dX5_meetFar_138
  · replace h := br_p hc h
    refine r_aload_n C 0 rfl dX5_meetFar_11 rfl ?_
    replace h := bd_i h
    obtain ⟨w40, e41, h⟩ := h
    refine k_gR C e41 rfl inX5_ (by decide) flX5_86 dX5_meetFar_12 ?_
    refine r_aload_n C 1 rfl dX5_meetFar_15 rfl ?_
    replace h := bd_i h
    obtain ⟨w42, e43, h⟩ := h
    refine k_gR C e43 rfl inX1_ (by decide) flX5_70 dX5_meetFar_16 ?_
    refine r_aload_n C 2 rfl dX5_meetFar_19 rfl ?_
    replace h := bd_i h
    obtain ⟨w44, e45, h⟩ := h
    refine k_gR C e45 rfl inX1_ (by decide) flX5_70 dX5_meetFar_20 ?_
    replace h := gd_t h
    obtain ⟨ho46, h⟩ := h
    obtain ⟨_, ho46⟩ := isO_s ho46
    replace h := bd_i h
    obtain ⟨⟨r48, hp49, z50⟩, q47, h⟩ := h
    refine q_callV C 0 24 (64 * 24) (k_X4_crossing q47) rfl ho46 rfl okX4_crossing inX4_crossing lkX5_112 rfl (Nat.le_of_ble_eq_true rfl) ⟨by decide, by decide⟩ dX5_meetFar_23 (by omega) (by omega) ?_
    refine r_astore C (lv' := [(4, .ref r48), (0, .ref l0), (1, .ref l1), (2, .ref l2), (3, .ref l3)]) dX5_meetFar_26 (by decide) rfl ?_
    refine r_aload_n C 1 rfl dX5_meetFar_28 rfl ?_
    replace h := bd_i h
    obtain ⟨w51, e52, h⟩ := h
    refine k_gI C e52 rfl inX5_ (by decide) flX5_96 dX5_meetFar_29 ?_
    refine r_iconst C (v := 2) dX5_meetFar_32 (by decide) ?_
    refine r_icmp_ne C (tgt := 59) dX5_meetFar_33 (by decide) (fun hc => ?_) (fun hc => ?_)
    · replace h := br_n hc h
      refine r_aload_n C 1 rfl dX5_meetFar_59 rfl ?_
      replace h := bd_i h
      obtain ⟨w53, e54, h⟩ := h
      refine k_gR C e54 rfl inX5_ (by decide) flX5_86 dX5_meetFar_60 ?_
      refine r_aload C 0 rfl dX5_meetFar_63 ?_
      refine r_aload_n C 4 rfl dX5_meetFar_65 rfl ?_
      replace h := gd_t h
      obtain ⟨ho55, h⟩ := h
      obtain ⟨_, ho55⟩ := isO_s ho55
      replace h := bd_i h
      obtain ⟨⟨r57, hp58, z59⟩, q56, h⟩ := h
      refine q_callV C 0 22 (64 * 22) (k_X4_lineIsOnPlane q56) rfl ho55 rfl okX4_lineIsOnPlane inX4_lineIsOnPlane lkX5_133 rfl (Nat.le_of_ble_eq_true rfl) ⟨by decide, by decide⟩ dX5_meetFar_66 (by omega) (by omega) ?_
      replace h := gd_t h
      obtain ⟨hz, h⟩ := h
      cases h
      exact r_zreturn C (nb01 hz) (Eq.symm hO) dX5_meetFar_69
    · replace h := br_p hc h
      refine r_aload_n C 1 rfl dX5_meetFar_36 rfl ?_
      replace h := bd_i h
      obtain ⟨w60, e61, h⟩ := h
      refine k_gR C e61 rfl inX5_ (by decide) flX5_142 dX5_meetFar_37 ?_
      refine r_aload C 0 rfl dX5_meetFar_40 ?_
      refine r_aload_n C 4 rfl dX5_meetFar_42 rfl ?_
      replace h := gd_t h
      obtain ⟨ho62, h⟩ := h
      obtain ⟨_, ho62⟩ := isO_s ho62
      replace h := bd_i h
      obtain ⟨r64, q63, h⟩ := h
      refine q_callV C 0 24 (64 * 24) (k_X2_dot q63) rfl ho62 rfl okX2_dot inX2_dot lkX5_245 rfl (Nat.le_of_ble_eq_true rfl) ⟨by decide, by decide⟩ dX5_meetFar_43 (by omega) (by omega) ?_
      refine r_lconst C (v := 0) dX5_meetFar_46 (by decide) ?_
      refine r_lne C (tgt := 55) dX5_meetFar_47 dX5_meetFar_48 (by decide) (fun hc => ?_) (fun hc => ?_)
      · replace h := br_n hc h
        refine r_iconst C (v := 0) dX5_meetFar_55 (by decide) ?_
        refine r_goto C (tgt := 69) dX5_meetFar_56 (by decide) ?_
        cases h
        exact r_zreturn C rfl (Eq.symm hO) dX5_meetFar_69
      · replace h := br_p hc h
        refine r_iconst C (v := 1) dX5_meetFar_51 (by decide) ?_
        refine r_goto C (tgt := 69) dX5_meetFar_52 (by decide) ?_
        cases h
        exact r_zreturn C rfl (Eq.symm hO) dX5_meetFar_69
