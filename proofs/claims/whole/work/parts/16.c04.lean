noncomputable def f_X2_frameOf_L28 (l0 : Nat) (l1 : Nat) (l2 : Nat) (l3 : Int32) (l4 : Int32) (hp : cH) : Option ((Int32 × cH) ⊕ cH) := (gI hp l0 2 1).bind fun w10 => if w10 < l4 then (some (.inr hp)) else ((lR 3 hp l2 l3).bind fun u12 => (lR 3 hp l1 l4).bind fun u14 => u14.bind fun a16 => (lJ hp a16 l3).bind fun w18 => u12.bind fun a20 => (sJ hp a20 l4 w18).bind fun hp22 => some (.inl (l4 + 1, hp22)))
noncomputable def f_X2_frameOf_L17 (l0 : Nat) (l1 : Nat) (l2 : Nat) (l3 : Int32) (hp : cH) : Option ((Int32 × cH) ⊕ cH) := (gI hp l0 2 1).bind fun w8 => if w8 ≤ l3 then (some (.inr hp)) else ((itX (fun s => f_X2_frameOf_L28 l0 l1 l2 l3 s.1 s.2) ((0 : Int32), hp)).bind fun hp24 => some (.inl (l3 + 1, hp24)))
noncomputable def f_X2_frameOf_L126 (l0 : Nat) (l1 : Nat) (l3 : Nat) (l4 : Int32) (l5 : Int64) (l7 : Int32) (hp : cH) : Option ((Int32 × cH) ⊕ cH) := (gI hp l0 2 1).bind fun w52 => if w52 ≤ l7 then (some (.inr hp)) else ((gI hp l0 2 1).bind fun w54 => (gR hp l0 2 0).bind fun w56 => (lR 3 hp l1 l4).bind fun u58 => u58.bind fun a60 => (lJ hp a60 l7).bind fun w62 => if isO hp w56 0 = true then (f_X0_times hp w56 l5 w62).bind fun r66 => (sJ hp l3 ((l7 * w54) + l4) r66).bind fun hp67 => some (.inl (l7 + 1, hp67)) else none)
noncomputable def f_X2_frameOf_L94 (sz : Nat) (l0 : Nat) (l1 : Nat) (l2 : Nat) (l3 : Nat) (l4 : Int32) (hp : cH) : Option ((Int32 × cH) ⊕ (cH ⊕ ((Option Nat) × cH × Nat))) := (gI hp l0 2 1).bind fun w42 => if w42 ≤ l4 then (some (.inr (.inl hp))) else ((lR 3 hp l2 l4).bind fun u44 => (gI hp l0 2 1).bind fun w46 => u44.bind fun a48 => (lJ hp a48 w46).bind fun w50 => if w50 = ((0 : Int64)) then (some (.inr (.inr (none, hp, sz)))) else ((itX (fun s => f_X2_frameOf_L126 l0 l1 l3 l4 w50 s.1 s.2) ((0 : Int32), hp)).bind fun hp69 => some (.inl (l4 + 1, hp69))))
noncomputable def f_X2_frameOf (hp : cH) (sz : Nat) (l0 : Nat) (l1 : Nat) : Option ((Option Nat) × cH × Nat) := (gI hp l0 2 1).bind fun w1 => (gI hp l0 2 1).bind fun w3 => (nM hp sz w1 (w3 + ((1 : Int32)))).bind fun (hp5, z6) => (itX (fun s => f_X2_frameOf_L17 l0 l1 sz s.1 s.2) ((0 : Int32), hp5)).bind fun hp26 => (gI hp26 l0 2 1).bind fun w28 => if isO hp26 l0 2 = true then (f_X2_eliminate hp26 l0 sz w28).bind fun (r32, hp33) => (gI hp33 l0 2 1).bind fun w34 => if r32 = w34 then ((gI hp33 l0 2 1).bind fun w36 => (gI hp33 l0 2 1).bind fun w38 => (nJ hp33 z6 (w36 * w38)).bind fun hp40 => (itX (fun s => f_X2_frameOf_L94 ((z6 + 1)) l0 l1 sz z6 s.1 s.2) ((0 : Int32), hp40)).bind fun r73 => match r73 with | .inl hp71 => (some ((some z6), hp71, (z6 + 1))) | .inr o74 => some o74) else (some (none, hp33, z6)) else none
set_option maxHeartbeats 4000000 in
set_option maxRecDepth 100000 in
theorem w_X2_frameOf_L28 {K : kT} {O : oT} (C : aC K cX2_frameOf RX2 "frameOf" 3 57 11 (64 * 11) 8 (some (.array .long)) O) {hp : cH} {sz rc : Nat} {l0 : Nat} {l1 : Nat} {l2 : Nat} {l3 : Int32} {l4 : Int32} {eh : cH} (h : itX (fun s => f_X2_frameOf_L28 l0 l1 l2 l3 s.1 s.2) (l4, hp) = some eh) (hr : aW K eh sz rc (64 * rc) 55 [(0, .ref l0), (1, .ref l1), (2, .ref l2), (3, .int l3)] []) : aW K hp sz rc (64 * rc) 28 [(0, .ref l0), (1, .ref l1), (2, .ref l2), (3, .int l3), (4, .int l4)] [] := by
  refine it_walk (f := fun s => f_X2_frameOf_L28 l0 l1 l2 l3 s.1 s.2) (P := fun s => aW K s.2 sz rc (64 * rc) 28 [(0, .ref l0), (1, .ref l1), (2, .ref l2), (3, .int l3), (4, .int s.1)] []) (R := fun r => aW K r sz rc (64 * rc) 55 [(0, .ref l0), (1, .ref l1), (2, .ref l2), (3, .int l3)] []) ?_ h hr
  clear h hr
  rintro ⟨l4, hp⟩ x h kl kr
  show aW K hp sz rc (64 * rc) 28 [(0, .ref l0), (1, .ref l1), (2, .ref l2), (3, .int l3), (4, .int l4)] []
  replace h : f_X2_frameOf_L28 l0 l1 l2 l3 l4 hp = some x := h
  unfold f_X2_frameOf_L28 at h
  refine r_iload C 4 rfl dX2_frameOf_28 ?_
  refine r_aload_n C 0 rfl dX2_frameOf_30 rfl ?_
  replace h := bd_i h
  obtain ⟨w10, e11, h⟩ := h
  refine k_gI C e11 rfl inX2_ (by decide) flX2_13 dX2_frameOf_31 ?_
  refine r_icmp_gt C (tgt := 55) dX2_frameOf_34 (by decide) (fun hc => ?_) (fun hc => ?_)
  · replace h := br_p hc h
    refine r_lv (lv' := [(0, .ref l0), (1, .ref l1), (2, .ref l2), (3, .int l3)]) [0, 1, 2, 3] rfl ?_
    exact kr _ (sm_i h)
  · replace h := br_n hc h
    refine r_aload_n C 2 rfl dX2_frameOf_37 rfl ?_
    refine r_iload_n C 3 rfl dX2_frameOf_38 rfl ?_
    replace h := bd_i h
    obtain ⟨u12, e13, h⟩ := h
    refine k_lR C (by decide) e13 dX2_frameOf_39 ?_
    refine r_iload C 4 rfl dX2_frameOf_40 ?_
    refine r_aload_n C 1 rfl dX2_frameOf_42 rfl ?_
    refine r_iload C 4 rfl dX2_frameOf_43 ?_
    replace h := bd_i h
    obtain ⟨u14, e15, h⟩ := h
    refine k_lR C (by decide) e15 dX2_frameOf_45 ?_
    refine r_iload_n C 3 rfl dX2_frameOf_46 rfl ?_
    replace h := bd_i h
    obtain ⟨a16, e17, h⟩ := h
    subst e17
    replace h := bd_i h
    obtain ⟨w18, e19, h⟩ := h
    refine k_lJ C e19 dX2_frameOf_47 ?_
    replace h := bd_i h
    obtain ⟨a20, e21, h⟩ := h
    subst e21
    replace h := bd_i h
    obtain ⟨hp22, e23, h⟩ := h
    refine k_sJ C e23 dX2_frameOf_48 ?_
    refine r_iinc C (v := l4 + 1) (lv' := [(4, .int (l4 + 1)), (0, .ref l0), (1, .ref l1), (2, .ref l2), (3, .int l3)]) 4 rfl dX2_frameOf_49 rfl (by decide) rfl ?_
    refine r_goto C (tgt := 28) dX2_frameOf_52 (by decide) ?_
    refine r_lv (lv' := [(0, .ref l0), (1, .ref l1), (2, .ref l2), (3, .int l3), (4, .int (l4 + 1))]) [1, 2, 3, 4, 0] rfl ?_
    exact kl _ (sm_i h)
set_option maxHeartbeats 4000000 in
set_option maxRecDepth 100000 in
theorem w_X2_frameOf_L17 {K : kT} {O : oT} (C : aC K cX2_frameOf RX2 "frameOf" 3 57 11 (64 * 11) 8 (some (.array .long)) O) {hp : cH} {sz rc : Nat} {l0 : Nat} {l1 : Nat} {l2 : Nat} {l3 : Int32} {eh : cH} (h : itX (fun s => f_X2_frameOf_L17 l0 l1 l2 s.1 s.2) (l3, hp) = some eh) (hr : aW K eh sz rc (64 * rc) 61 [(0, .ref l0), (1, .ref l1), (2, .ref l2)] []) : aW K hp sz rc (64 * rc) 17 [(0, .ref l0), (1, .ref l1), (2, .ref l2), (3, .int l3)] [] := by
  refine it_walk (f := fun s => f_X2_frameOf_L17 l0 l1 l2 s.1 s.2) (P := fun s => aW K s.2 sz rc (64 * rc) 17 [(0, .ref l0), (1, .ref l1), (2, .ref l2), (3, .int s.1)] []) (R := fun r => aW K r sz rc (64 * rc) 61 [(0, .ref l0), (1, .ref l1), (2, .ref l2)] []) ?_ h hr
  clear h hr
  rintro ⟨l3, hp⟩ x h kl kr
  show aW K hp sz rc (64 * rc) 17 [(0, .ref l0), (1, .ref l1), (2, .ref l2), (3, .int l3)] []
  replace h : f_X2_frameOf_L17 l0 l1 l2 l3 hp = some x := h
  unfold f_X2_frameOf_L17 at h
  refine r_iload_n C 3 rfl dX2_frameOf_17 rfl ?_
  refine r_aload_n C 0 rfl dX2_frameOf_18 rfl ?_
  replace h := bd_i h
  obtain ⟨w8, e9, h⟩ := h
  refine k_gI C e9 rfl inX2_ (by decide) flX2_13 dX2_frameOf_19 ?_
  refine r_icmp_ge C (tgt := 61) dX2_frameOf_22 (by decide) (fun hc => ?_) (fun hc => ?_)
  · replace h := br_p hc h
    refine r_lv (lv' := [(0, .ref l0), (1, .ref l1), (2, .ref l2)]) [0, 1, 2] rfl ?_
    exact kr _ (sm_i h)
  · replace h := br_n hc h
    refine r_iconst C (v := 0) dX2_frameOf_25 (by decide) ?_
    refine r_istore C (lv' := [(4, .int ((0 : Int32))), (0, .ref l0), (1, .ref l1), (2, .ref l2), (3, .int l3)]) dX2_frameOf_26 (by decide) rfl ?_
    refine r_lv (lv' := [(0, .ref l0), (1, .ref l1), (2, .ref l2), (3, .int l3), (4, .int ((0 : Int32)))]) [1, 2, 3, 4, 0] rfl ?_
    replace h := bd_i h
    obtain ⟨hp24, q25, h⟩ := h
    refine w_X2_frameOf_L28 C  q25 ?_
    refine r_iinc C (v := l3 + 1) (lv' := [(3, .int (l3 + 1)), (0, .ref l0), (1, .ref l1), (2, .ref l2)]) 3 rfl dX2_frameOf_55 rfl (by decide) rfl ?_
    refine r_goto C (tgt := 17) dX2_frameOf_58 (by decide) ?_
    refine r_lv (lv' := [(0, .ref l0), (1, .ref l1), (2, .ref l2), (3, .int (l3 + 1))]) [1, 2, 3, 0] rfl ?_
    exact kl _ (sm_i h)
set_option maxHeartbeats 4000000 in
set_option maxRecDepth 100000 in
theorem w_X2_frameOf_L126 {K : kT} {O : oT} (C : aC K cX2_frameOf RX2 "frameOf" 3 57 11 (64 * 11) 8 (some (.array .long)) O) {hp : cH} {sz rc : Nat} {l0 : Nat} {l1 : Nat} {l2 : Nat} {l3 : Nat} {l4 : Int32} {l5 : Int64} {l7 : Int32} {eh : cH} (h : itX (fun s => f_X2_frameOf_L126 l0 l1 l3 l4 l5 s.1 s.2) (l7, hp) = some eh) (hr : aW K eh sz rc (64 * rc) 169 [(0, .ref l0), (1, .ref l1), (2, .ref l2), (3, .ref l3), (4, .int l4)] []) : aW K hp sz rc (64 * rc) 126 [(0, .ref l0), (1, .ref l1), (2, .ref l2), (3, .ref l3), (4, .int l4), (5, .long l5), (7, .int l7)] [] := by
  refine it_walk (f := fun s => f_X2_frameOf_L126 l0 l1 l3 l4 l5 s.1 s.2) (P := fun s => aW K s.2 sz rc (64 * rc) 126 [(0, .ref l0), (1, .ref l1), (2, .ref l2), (3, .ref l3), (4, .int l4), (5, .long l5), (7, .int s.1)] []) (R := fun r => aW K r sz rc (64 * rc) 169 [(0, .ref l0), (1, .ref l1), (2, .ref l2), (3, .ref l3), (4, .int l4)] []) ?_ h hr
  clear h hr
  rintro ⟨l7, hp⟩ x h kl kr
  show aW K hp sz rc (64 * rc) 126 [(0, .ref l0), (1, .ref l1), (2, .ref l2), (3, .ref l3), (4, .int l4), (5, .long l5), (7, .int l7)] []
  replace h : f_X2_frameOf_L126 l0 l1 l3 l4 l5 l7 hp = some x := h
  unfold f_X2_frameOf_L126 at h
  refine r_iload C 6 rfl dX2_frameOf_126 ?_
  refine r_aload_n C 0 rfl dX2_frameOf_128 rfl ?_
  replace h := bd_i h
  obtain ⟨w52, e53, h⟩ := h
  refine k_gI C e53 rfl inX2_ (by decide) flX2_13 dX2_frameOf_129 ?_
  refine r_icmp_ge C (tgt := 169) dX2_frameOf_132 (by decide) (fun hc => ?_) (fun hc => ?_)
  · replace h := br_p hc h
    refine r_lv (lv' := [(0, .ref l0), (1, .ref l1), (2, .ref l2), (3, .ref l3), (4, .int l4)]) [0, 1, 2, 3, 4] rfl ?_
    exact kr _ (sm_i h)
  · replace h := br_n hc h
    refine r_aload_n C 3 rfl dX2_frameOf_135 rfl ?_
    refine r_iload C 6 rfl dX2_frameOf_136 ?_
    refine r_aload_n C 0 rfl dX2_frameOf_138 rfl ?_
    replace h := bd_i h
    obtain ⟨w54, e55, h⟩ := h
    refine k_gI C e55 rfl inX2_ (by decide) flX2_13 dX2_frameOf_139 ?_
    refine r_imul C dX2_frameOf_142 ?_
    refine r_iload C 4 rfl dX2_frameOf_143 ?_
    refine r_iadd C dX2_frameOf_145 ?_
    refine r_aload_n C 0 rfl dX2_frameOf_146 rfl ?_
    replace h := bd_i h
    obtain ⟨w56, e57, h⟩ := h
    refine k_gR C e57 rfl inX2_ (by decide) flX2_7 dX2_frameOf_147 ?_
    refine r_lload C 5 rfl dX2_frameOf_150 ?_
    refine r_aload_n C 1 rfl dX2_frameOf_152 rfl ?_
    refine r_iload C 4 rfl dX2_frameOf_153 ?_
    replace h := bd_i h
    obtain ⟨u58, e59, h⟩ := h
    refine k_lR C (by decide) e59 dX2_frameOf_155 ?_
    refine r_iload C 6 rfl dX2_frameOf_156 ?_
    replace h := bd_i h
    obtain ⟨a60, e61, h⟩ := h
    subst e61
    replace h := bd_i h
    obtain ⟨w62, e63, h⟩ := h
    refine k_lJ C e63 dX2_frameOf_158 ?_
    replace h := gd_t h
    obtain ⟨ho64, h⟩ := h
    obtain ⟨_, ho64⟩ := isO_s ho64
    replace h := bd_i h
    obtain ⟨r66, q65, h⟩ := h
    refine q_callV C 2 rc (64 * rc) (k_X0_times q65) rfl ho64 rfl okX0_times inX0_times lkX2_37 rfl (Nat.le_of_ble_eq_true rfl) ⟨by decide, by decide⟩ dX2_frameOf_159 (by omega) (by omega) ?_
    replace h := bd_i h
    obtain ⟨hp67, e68, h⟩ := h
    refine k_sJ C e68 dX2_frameOf_162 ?_
    refine r_iinc C (v := l7 + 1) (lv' := [(7, .int (l7 + 1)), (0, .ref l0), (1, .ref l1), (2, .ref l2), (3, .ref l3), (4, .int l4), (5, .long l5)]) 6 rfl dX2_frameOf_163 rfl (by decide) rfl ?_
    refine r_goto C (tgt := 126) dX2_frameOf_166 (by decide) ?_
    refine r_lv (lv' := [(0, .ref l0), (1, .ref l1), (2, .ref l2), (3, .ref l3), (4, .int l4), (5, .long l5), (7, .int (l7 + 1))]) [1, 2, 3, 4, 5, 6, 0] rfl ?_
    exact kl _ (sm_i h)
set_option maxHeartbeats 4000000 in
set_option maxRecDepth 100000 in
theorem w_X2_frameOf_L94 {K : kT} {O : oT} (C : aC K cX2_frameOf RX2 "frameOf" 3 57 11 (64 * 11) 8 (some (.array .long)) O) {hp : cH} {sz rc : Nat} {l0 : Nat} {l1 : Nat} {l2 : Nat} {l3 : Nat} {l4 : Int32} {r : (cH ⊕ ((Option Nat) × cH × Nat))} (h : itX (fun s => f_X2_frameOf_L94 sz l0 l1 l2 l3 s.1 s.2) (l4, hp) = some r) (hr : Sum.elim (fun r => aW K r sz rc (64 * rc) 175 [(3, .ref l3)] []) (fun o => ((some (va_rf o.1), o.2.1, o.2.2) : oT) = O) r) : aW K hp sz rc (64 * rc) 94 [(0, .ref l0), (1, .ref l1), (2, .ref l2), (3, .ref l3), (4, .int l4)] [] := by
  refine it_walk (f := fun s => f_X2_frameOf_L94 sz l0 l1 l2 l3 s.1 s.2) (P := fun s => aW K s.2 sz rc (64 * rc) 94 [(0, .ref l0), (1, .ref l1), (2, .ref l2), (3, .ref l3), (4, .int s.1)] []) (R := fun r => Sum.elim (fun r => aW K r sz rc (64 * rc) 175 [(3, .ref l3)] []) (fun o => ((some (va_rf o.1), o.2.1, o.2.2) : oT) = O) r) ?_ h hr
  clear h hr
  rintro ⟨l4, hp⟩ x h kl kr
  show aW K hp sz rc (64 * rc) 94 [(0, .ref l0), (1, .ref l1), (2, .ref l2), (3, .ref l3), (4, .int l4)] []
  replace h : f_X2_frameOf_L94 sz l0 l1 l2 l3 l4 hp = some x := h
  unfold f_X2_frameOf_L94 at h
  refine r_iload C 4 rfl dX2_frameOf_94 ?_
  refine r_aload_n C 0 rfl dX2_frameOf_96 rfl ?_
  replace h := bd_i h
  obtain ⟨w42, e43, h⟩ := h
  refine k_gI C e43 rfl inX2_ (by decide) flX2_13 dX2_frameOf_97 ?_
  refine r_icmp_ge C (tgt := 175) dX2_frameOf_100 (by decide) (fun hc => ?_) (fun hc => ?_)
  · replace h := br_p hc h
    refine r_lv (lv' := [(3, .ref l3)]) [3] rfl ?_
    exact kr _ (sm_i h)
  · replace h := br_n hc h
    refine r_aload_n C 2 rfl dX2_frameOf_103 rfl ?_
    refine r_iload C 4 rfl dX2_frameOf_104 ?_
    replace h := bd_i h
    obtain ⟨u44, e45, h⟩ := h
    refine k_lR C (by decide) e45 dX2_frameOf_106 ?_
    refine r_aload_n C 0 rfl dX2_frameOf_107 rfl ?_
    replace h := bd_i h
    obtain ⟨w46, e47, h⟩ := h
    refine k_gI C e47 rfl inX2_ (by decide) flX2_13 dX2_frameOf_108 ?_
    replace h := bd_i h
    obtain ⟨a48, e49, h⟩ := h
    subst e49
    replace h := bd_i h
    obtain ⟨w50, e51, h⟩ := h
    refine k_lJ C e51 dX2_frameOf_111 ?_
    refine r_lstore C (lv' := [(5, .long w50), (0, .ref l0), (1, .ref l1), (2, .ref l2), (3, .ref l3), (4, .int l4)]) dX2_frameOf_112 (by decide) rfl ?_
    refine r_lload C 0 rfl dX2_frameOf_114 ?_
    refine r_lconst C (v := 0) dX2_frameOf_116 (by decide) ?_
    refine r_lne C (tgt := 123) dX2_frameOf_117 dX2_frameOf_118 (by decide) (fun hc => ?_) (fun hc => ?_)
    · replace h := br_n hc h
      refine r_iconst C (v := 0) dX2_frameOf_123 (by decide) ?_
      refine r_istore C (lv' := [(7, .int ((0 : Int32))), (5, .long w50), (0, .ref l0), (1, .ref l1), (2, .ref l2), (3, .ref l3), (4, .int l4)]) dX2_frameOf_124 (by decide) rfl ?_
      refine r_lv (lv' := [(0, .ref l0), (1, .ref l1), (2, .ref l2), (3, .ref l3), (4, .int l4), (5, .long w50), (7, .int ((0 : Int32)))]) [2, 3, 4, 5, 6, 1, 0] rfl ?_
      replace h := bd_i h
      obtain ⟨hp69, q70, h⟩ := h
      refine w_X2_frameOf_L126 C  q70 ?_
      refine r_iinc C (v := l4 + 1) (lv' := [(4, .int (l4 + 1)), (0, .ref l0), (1, .ref l1), (2, .ref l2), (3, .ref l3)]) 4 rfl dX2_frameOf_169 rfl (by decide) rfl ?_
      refine r_goto C (tgt := 94) dX2_frameOf_172 (by decide) ?_
      refine r_lv (lv' := [(0, .ref l0), (1, .ref l1), (2, .ref l2), (3, .ref l3), (4, .int (l4 + 1))]) [1, 2, 3, 4, 0] rfl ?_
      exact kl _ (sm_i h)
    · replace h := br_p hc h
      refine r_null C dX2_frameOf_121 ?_
      exact r_areturn C (Or.inr ⟨_, rfl⟩) (Eq.symm (kr _ (sm_i h))) dX2_frameOf_122
set_option maxHeartbeats 4000000 in
set_option maxRecDepth 100000 in
theorem k_X2_frameOf {G : gT} {hp : cH} {sz : Nat} {l0 : Nat} {l1 : Nat} {o0 : Option Nat} {oh : cH} {oz : Nat} (h : f_X2_frameOf hp sz l0 l1 = some (o0, oh, oz)) : aM G yX2_frameOf cX2_frameOf 8 (some (.array .long)) 3 57 11 (64 * 11) [.ref l0, .ref l1] hp sz ((some (va_rf o0), oh, oz) : oT) := by
  refine aM.of RX2 (by decide) rfl (Nat.le_of_ble_eq_true rfl) (fun K C => ?_)
  have hO : ((some (va_rf o0), oh, oz) : oT) = ((some (va_rf o0), oh, oz) : oT) := rfl
  refine r_lve (lv' := [(0, .ref l0), (1, .ref l1)]) rfl ?_
  unfold f_X2_frameOf at h
  refine r_aload_n C 0 rfl dX2_frameOf_0 rfl ?_
  replace h := bd_i h
  obtain ⟨w1, e2, h⟩ := h
  refine k_gI C e2 rfl inX2_ (by decide) flX2_13 dX2_frameOf_1 ?_
  refine r_aload_n C 0 rfl dX2_frameOf_4 rfl ?_
  replace h := bd_i h
  obtain ⟨w3, e4, h⟩ := h
  refine k_gI C e4 rfl inX2_ (by decide) flX2_13 dX2_frameOf_5 ?_
  refine r_iconst C (v := 1) dX2_frameOf_8 (by decide) ?_
  refine r_iadd C dX2_frameOf_9 ?_
  replace h := bd_i h
  obtain ⟨⟨hp5, z6⟩, e7, h⟩ := h
  refine k_nMM C 1 cnX2_73 e7 dX2_frameOf_10 (by omega) ?_
  refine r_astore_n C (lv' := [(2, .ref sz), (0, .ref l0), (1, .ref l1)]) dX2_frameOf_14 rfl (by decide) rfl ?_
  refine r_iconst C (v := 0) dX2_frameOf_15 (by decide) ?_
  refine r_istore_n C (lv' := [(3, .int ((0 : Int32))), (2, .ref sz), (0, .ref l0), (1, .ref l1)]) dX2_frameOf_16 rfl (by decide) rfl ?_
  refine r_lv (lv' := [(0, .ref l0), (1, .ref l1), (2, .ref sz), (3, .int ((0 : Int32)))]) [2, 3, 1, 0] rfl ?_
  replace h := bd_i h
  obtain ⟨hp26, q27, h⟩ := h
  refine w_X2_frameOf_L17 C  q27 ?_
  refine r_aload_n C 0 rfl dX2_frameOf_61 rfl ?_
  refine r_aload_n C 2 rfl dX2_frameOf_62 rfl ?_
  refine r_aload_n C 0 rfl dX2_frameOf_63 rfl ?_
  replace h := bd_i h
  obtain ⟨w28, e29, h⟩ := h
  refine k_gI C e29 rfl inX2_ (by decide) flX2_13 dX2_frameOf_64 ?_
  replace h := gd_t h
  obtain ⟨ho30, h⟩ := h
  obtain ⟨_, ho30⟩ := isO_s ho30
  replace h := bd_i h
  obtain ⟨⟨r32, hp33⟩, q31, h⟩ := h
  refine q_callV C 0 1 (64 * 1) (k_X2_eliminate q31) rfl ho30 rfl okX2_eliminate inX2_eliminate lkX2_63 rfl (Nat.le_of_ble_eq_true rfl) ⟨by decide, by decide⟩ dX2_frameOf_67 (by omega) (by omega) ?_
  refine r_aload_n C 0 rfl dX2_frameOf_70 rfl ?_
  replace h := bd_i h
  obtain ⟨w34, e35, h⟩ := h
  refine k_gI C e35 rfl inX2_ (by decide) flX2_13 dX2_frameOf_71 ?_
  refine r_icmp_eq C (tgt := 79) dX2_frameOf_74 (by decide) (fun hc => ?_) (fun hc => ?_)
  · replace h := br_p hc h
    refine r_aload_n C 0 rfl dX2_frameOf_79 rfl ?_
    replace h := bd_i h
    obtain ⟨w36, e37, h⟩ := h
    refine k_gI C e37 rfl inX2_ (by decide) flX2_13 dX2_frameOf_80 ?_
    refine r_aload_n C 0 rfl dX2_frameOf_83 rfl ?_
    replace h := bd_i h
    obtain ⟨w38, e39, h⟩ := h
    refine k_gI C e39 rfl inX2_ (by decide) flX2_13 dX2_frameOf_84 ?_
    refine r_imul C dX2_frameOf_87 ?_
    replace h := bd_i h
    obtain ⟨hp40, e41, h⟩ := h
    refine k_nJ C 0 e41 dX2_frameOf_88 (by omega) ?_
    refine r_astore_n C (lv' := [(3, .ref z6), (0, .ref l0), (1, .ref l1), (2, .ref sz)]) dX2_frameOf_90 rfl (by decide) rfl ?_
    refine r_iconst C (v := 0) dX2_frameOf_91 (by decide) ?_
    refine r_istore C (lv' := [(4, .int ((0 : Int32))), (3, .ref z6), (0, .ref l0), (1, .ref l1), (2, .ref sz)]) dX2_frameOf_92 (by decide) rfl ?_
    refine r_lv (lv' := [(0, .ref l0), (1, .ref l1), (2, .ref sz), (3, .ref z6), (4, .int ((0 : Int32)))]) [2, 3, 4, 1, 0] rfl ?_
    replace h := bd_i h
    obtain ⟨r73, q72, h⟩ := h
    rcases r73 with hp71 | o74
    · refine w_X2_frameOf_L94 C  q72 ?_
      show aW K hp71 ((z6 + 1)) 0 (64 * 0) 175 [(3, .ref z6)] []
      refine r_aload_n C 0 rfl dX2_frameOf_175 rfl ?_
      cases h
      exact r_areturnA C (Or.inr ⟨_, rfl⟩) (Eq.symm hO) dX2_frameOf_176
    · cases h
      exact w_X2_frameOf_L94 C  q72 hO
  · replace h := br_n hc h
    refine r_null C dX2_frameOf_77 ?_
    cases h
    exact r_areturn C (Or.inr ⟨_, rfl⟩) (Eq.symm hO) dX2_frameOf_78
noncomputable def f_X2_inverted_L14 (l0 : Nat) (l2 : Nat) (l3 : Int32) (hp : cH) : Option ((Int32 × cH) ⊕ cH) := (gI hp l0 2 1).bind fun w8 => if w8 ≤ l3 then (some (.inr hp)) else ((lR 3 hp l2 l3).bind fun u10 => (gI hp l0 2 1).bind fun w12 => u10.bind fun a14 => (sJ hp a14 (w12 + l3) ((1 : Int64))).bind fun hp16 => some (.inl (l3 + 1, hp16)))
noncomputable def f_X2_inverted_L72 (l0 : Nat) (l2 : Nat) (l3 : Nat) (l4 : Int32) (hp : cH) : Option ((Int32 × cH) ⊕ cH) := (gI hp l0 2 1).bind fun w34 => if w34 ≤ l4 then (some (.inr hp)) else ((lR 3 hp l2 l4).bind fun u36 => (gI hp l0 2 1).bind fun w38 => (gI hp l0 2 1).bind fun w40 => (gI hp l0 2 1).bind fun w42 => u36.bind fun a44 => (cpJ hp a44 w38 l3 (l4 * w40) w42).bind fun hp46 => some (.inl (l4 + 1, hp46)))
noncomputable def f_X2_inverted (hp : cH) (sz : Nat) (l0 : Nat) (l1 : Nat) : Option ((Option Nat) × cH × Nat) := (gI hp l0 2 1).bind fun w1 => if isO hp l0 2 = true then (f_X2_linesOf hp sz l0 l1 (((2 : Int32)) * w1)).bind fun (r5, hp6, z7) => (itX (fun s => f_X2_inverted_L14 l0 r5 s.1 s.2) ((0 : Int32), hp6)).bind fun hp18 => (gI hp18 l0 2 1).bind fun w20 => if isO hp18 l0 2 = true then (f_X2_eliminate hp18 l0 r5 w20).bind fun (r24, hp25) => (gI hp25 l0 2 1).bind fun w26 => if r24 = w26 then ((gI hp25 l0 2 1).bind fun w28 => (gI hp25 l0 2 1).bind fun w30 => (nJ hp25 z7 (w28 * w30)).bind fun hp32 => (itX (fun s => f_X2_inverted_L72 l0 r5 z7 s.1 s.2) ((0 : Int32), hp32)).bind fun hp48 => some ((some z7), hp48, (z7 + 1))) else (some (none, hp25, z7)) else none else none
set_option maxHeartbeats 4000000 in
set_option maxRecDepth 100000 in
theorem w_X2_inverted_L14 {K : kT} {O : oT} (C : aC K cX2_inverted RX2 "inverted" 3 57 11 (64 * 11) 5 (some (.array .long)) O) {hp : cH} {sz rc : Nat} {l0 : Nat} {l2 : Nat} {l3 : Int32} {eh : cH} (h : itX (fun s => f_X2_inverted_L14 l0 l2 s.1 s.2) (l3, hp) = some eh) (hr : aW K eh sz rc (64 * rc) 39 [(0, .ref l0), (2, .ref l2)] []) : aW K hp sz rc (64 * rc) 14 [(0, .ref l0), (2, .ref l2), (3, .int l3)] [] := by
  refine it_walk (f := fun s => f_X2_inverted_L14 l0 l2 s.1 s.2) (P := fun s => aW K s.2 sz rc (64 * rc) 14 [(0, .ref l0), (2, .ref l2), (3, .int s.1)] []) (R := fun r => aW K r sz rc (64 * rc) 39 [(0, .ref l0), (2, .ref l2)] []) ?_ h hr
  clear h hr
  rintro ⟨l3, hp⟩ x h kl kr
  show aW K hp sz rc (64 * rc) 14 [(0, .ref l0), (2, .ref l2), (3, .int l3)] []
  replace h : f_X2_inverted_L14 l0 l2 l3 hp = some x := h
  unfold f_X2_inverted_L14 at h
  refine r_iload_n C 2 rfl dX2_inverted_14 rfl ?_
  refine r_aload_n C 0 rfl dX2_inverted_15 rfl ?_
  replace h := bd_i h
  obtain ⟨w8, e9, h⟩ := h
  refine k_gI C e9 rfl inX2_ (by decide) flX2_13 dX2_inverted_16 ?_
  refine r_icmp_ge C (tgt := 39) dX2_inverted_19 (by decide) (fun hc => ?_) (fun hc => ?_)
  · replace h := br_p hc h
    refine r_lv (lv' := [(0, .ref l0), (2, .ref l2)]) [0, 1] rfl ?_
    exact kr _ (sm_i h)
  · replace h := br_n hc h
    refine r_aload_n C 1 rfl dX2_inverted_22 rfl ?_
    refine r_iload_n C 2 rfl dX2_inverted_23 rfl ?_
    replace h := bd_i h
    obtain ⟨u10, e11, h⟩ := h
    refine k_lR C (by decide) e11 dX2_inverted_24 ?_
    refine r_aload_n C 0 rfl dX2_inverted_25 rfl ?_
    replace h := bd_i h
    obtain ⟨w12, e13, h⟩ := h
    refine k_gI C e13 rfl inX2_ (by decide) flX2_13 dX2_inverted_26 ?_
    refine r_iload_n C 2 rfl dX2_inverted_29 rfl ?_
    refine r_iadd C dX2_inverted_30 ?_
    refine r_lconst C (v := 1) dX2_inverted_31 (by decide) ?_
    replace h := bd_i h
    obtain ⟨a14, e15, h⟩ := h
    subst e15
    replace h := bd_i h
    obtain ⟨hp16, e17, h⟩ := h
    refine k_sJ C e17 dX2_inverted_32 ?_
    refine r_iinc C (v := l3 + 1) (lv' := [(3, .int (l3 + 1)), (0, .ref l0), (2, .ref l2)]) 2 rfl dX2_inverted_33 rfl (by decide) rfl ?_
    refine r_goto C (tgt := 14) dX2_inverted_36 (by decide) ?_
    refine r_lv (lv' := [(0, .ref l0), (2, .ref l2), (3, .int (l3 + 1))]) [1, 2, 0] rfl ?_
    exact kl _ (sm_i h)
set_option maxHeartbeats 4000000 in
set_option maxRecDepth 100000 in
theorem w_X2_inverted_L72 {K : kT} {O : oT} (C : aC K cX2_inverted RX2 "inverted" 3 57 11 (64 * 11) 5 (some (.array .long)) O) {hp : cH} {sz rc : Nat} {l0 : Nat} {l2 : Nat} {l3 : Nat} {l4 : Int32} {eh : cH} (h : itX (fun s => f_X2_inverted_L72 l0 l2 l3 s.1 s.2) (l4, hp) = some eh) (hr : aW K eh sz rc (64 * rc) 110 [(3, .ref l3)] []) : aW K hp sz rc (64 * rc) 72 [(0, .ref l0), (2, .ref l2), (3, .ref l3), (4, .int l4)] [] := by
  refine it_walk (f := fun s => f_X2_inverted_L72 l0 l2 l3 s.1 s.2) (P := fun s => aW K s.2 sz rc (64 * rc) 72 [(0, .ref l0), (2, .ref l2), (3, .ref l3), (4, .int s.1)] []) (R := fun r => aW K r sz rc (64 * rc) 110 [(3, .ref l3)] []) ?_ h hr
  clear h hr
  rintro ⟨l4, hp⟩ x h kl kr
  show aW K hp sz rc (64 * rc) 72 [(0, .ref l0), (2, .ref l2), (3, .ref l3), (4, .int l4)] []
  replace h : f_X2_inverted_L72 l0 l2 l3 l4 hp = some x := h
  unfold f_X2_inverted_L72 at h
  refine r_iload C 3 rfl dX2_inverted_72 ?_
  refine r_aload_n C 0 rfl dX2_inverted_74 rfl ?_
  replace h := bd_i h
  obtain ⟨w34, e35, h⟩ := h
  refine k_gI C e35 rfl inX2_ (by decide) flX2_13 dX2_inverted_75 ?_
  refine r_icmp_ge C (tgt := 110) dX2_inverted_78 (by decide) (fun hc => ?_) (fun hc => ?_)
  · replace h := br_p hc h
    refine r_lv (lv' := [(3, .ref l3)]) [2] rfl ?_
    exact kr _ (sm_i h)
  · replace h := br_n hc h
    refine r_aload_n C 1 rfl dX2_inverted_81 rfl ?_
    refine r_iload C 3 rfl dX2_inverted_82 ?_
    replace h := bd_i h
    obtain ⟨u36, e37, h⟩ := h
    refine k_lR C (by decide) e37 dX2_inverted_84 ?_
    refine r_aload_n C 0 rfl dX2_inverted_85 rfl ?_
    replace h := bd_i h
    obtain ⟨w38, e39, h⟩ := h
    refine k_gI C e39 rfl inX2_ (by decide) flX2_13 dX2_inverted_86 ?_
    refine r_aload_n C 2 rfl dX2_inverted_89 rfl ?_
    refine r_iload C 3 rfl dX2_inverted_90 ?_
    refine r_aload_n C 0 rfl dX2_inverted_92 rfl ?_
    replace h := bd_i h
    obtain ⟨w40, e41, h⟩ := h
    refine k_gI C e41 rfl inX2_ (by decide) flX2_13 dX2_inverted_93 ?_
    refine r_imul C dX2_inverted_96 ?_
    refine r_aload_n C 0 rfl dX2_inverted_97 rfl ?_
    replace h := bd_i h
    obtain ⟨w42, e43, h⟩ := h
    refine k_gI C e43 rfl inX2_ (by decide) flX2_13 dX2_inverted_98 ?_
    replace h := bd_i h
    obtain ⟨a44, e45, h⟩ := h
    subst e45
    replace h := bd_i h
    obtain ⟨hp46, e47, h⟩ := h
    refine k_cp C lkX2_67 e47 ⟨by decide, (by decide)⟩ dX2_inverted_101 ?_
    refine r_iinc C (v := l4 + 1) (lv' := [(4, .int (l4 + 1)), (0, .ref l0), (2, .ref l2), (3, .ref l3)]) 3 rfl dX2_inverted_104 rfl (by decide) rfl ?_
    refine r_goto C (tgt := 72) dX2_inverted_107 (by decide) ?_
    refine r_lv (lv' := [(0, .ref l0), (2, .ref l2), (3, .ref l3), (4, .int (l4 + 1))]) [1, 2, 3, 0] rfl ?_
    exact kl _ (sm_i h)
set_option maxHeartbeats 4000000 in
set_option maxRecDepth 100000 in
theorem k_X2_inverted {G : gT} {hp : cH} {sz : Nat} {l0 : Nat} {l1 : Nat} {o0 : Option Nat} {oh : cH} {oz : Nat} (h : f_X2_inverted hp sz l0 l1 = some (o0, oh, oz)) : aM G yX2_inverted cX2_inverted 5 (some (.array .long)) 3 57 11 (64 * 11) [.ref l0, .ref l1] hp sz ((some (va_rf o0), oh, oz) : oT) := by
  refine aM.of RX2 (by decide) rfl (Nat.le_of_ble_eq_true rfl) (fun K C => ?_)
  have hO : ((some (va_rf o0), oh, oz) : oT) = ((some (va_rf o0), oh, oz) : oT) := rfl
  refine r_lve (lv' := [(0, .ref l0), (1, .ref l1)]) rfl ?_
  unfold f_X2_inverted at h
  refine r_aload_n C 0 rfl dX2_inverted_0 rfl ?_
  refine r_aload_n C 1 rfl dX2_inverted_1 rfl ?_
  refine r_iconst C (v := 2) dX2_inverted_2 (by decide) ?_
  refine r_aload_n C 0 rfl dX2_inverted_3 rfl ?_
  replace h := bd_i h
  obtain ⟨w1, e2, h⟩ := h
  refine k_gI C e2 rfl inX2_ (by decide) flX2_13 dX2_inverted_4 ?_
  refine r_imul C dX2_inverted_7 ?_
  replace h := gd_t h
  obtain ⟨ho3, h⟩ := h
  obtain ⟨_, ho3⟩ := isO_s ho3
  replace h := bd_i h
  obtain ⟨⟨r5, hp6, z7⟩, q4, h⟩ := h
  refine q_callV C 0 1 (64 * 1) (k_X2_linesOf q4) rfl ho3 rfl okX2_linesOf inX2_linesOf lkX2_59 rfl (Nat.le_of_ble_eq_true rfl) ⟨by decide, by decide⟩ dX2_inverted_8 (by omega) (by omega) ?_
  refine r_astore_n C (lv' := [(2, .ref r5), (0, .ref l0), (1, .ref l1)]) dX2_inverted_11 rfl (by decide) rfl ?_
  refine r_iconst C (v := 0) dX2_inverted_12 (by decide) ?_
  refine r_istore_n C (lv' := [(3, .int ((0 : Int32))), (2, .ref r5), (0, .ref l0), (1, .ref l1)]) dX2_inverted_13 rfl (by decide) rfl ?_
  refine r_lv (lv' := [(0, .ref l0), (2, .ref r5), (3, .int ((0 : Int32)))]) [2, 1, 0] rfl ?_
  replace h := bd_i h
  obtain ⟨hp18, q19, h⟩ := h
  refine w_X2_inverted_L14 C  q19 ?_
  refine r_aload_n C 0 rfl dX2_inverted_39 rfl ?_
  refine r_aload_n C 1 rfl dX2_inverted_40 rfl ?_
  refine r_aload_n C 0 rfl dX2_inverted_41 rfl ?_
  replace h := bd_i h
  obtain ⟨w20, e21, h⟩ := h
  refine k_gI C e21 rfl inX2_ (by decide) flX2_13 dX2_inverted_42 ?_
  replace h := gd_t h
  obtain ⟨ho22, h⟩ := h
  obtain ⟨_, ho22⟩ := isO_s ho22
  replace h := bd_i h
  obtain ⟨⟨r24, hp25⟩, q23, h⟩ := h
  refine q_callV C 0 1 (64 * 1) (k_X2_eliminate q23) rfl ho22 rfl okX2_eliminate inX2_eliminate lkX2_63 rfl (Nat.le_of_ble_eq_true rfl) ⟨by decide, by decide⟩ dX2_inverted_45 (by omega) (by omega) ?_
  refine r_aload_n C 0 rfl dX2_inverted_48 rfl ?_
  replace h := bd_i h
  obtain ⟨w26, e27, h⟩ := h
  refine k_gI C e27 rfl inX2_ (by decide) flX2_13 dX2_inverted_49 ?_
  refine r_icmp_eq C (tgt := 57) dX2_inverted_52 (by decide) (fun hc => ?_) (fun hc => ?_)
  · replace h := br_p hc h
    refine r_aload_n C 0 rfl dX2_inverted_57 rfl ?_
    replace h := bd_i h
    obtain ⟨w28, e29, h⟩ := h
    refine k_gI C e29 rfl inX2_ (by decide) flX2_13 dX2_inverted_58 ?_
    refine r_aload_n C 0 rfl dX2_inverted_61 rfl ?_
    replace h := bd_i h
    obtain ⟨w30, e31, h⟩ := h
    refine k_gI C e31 rfl inX2_ (by decide) flX2_13 dX2_inverted_62 ?_
    refine r_imul C dX2_inverted_65 ?_
    replace h := bd_i h
    obtain ⟨hp32, e33, h⟩ := h
    refine k_nJ C 0 e33 dX2_inverted_66 (by omega) ?_
    refine r_astore_n C (lv' := [(3, .ref z7), (0, .ref l0), (2, .ref r5)]) dX2_inverted_68 rfl (by decide) rfl ?_
    refine r_iconst C (v := 0) dX2_inverted_69 (by decide) ?_
    refine r_istore C (lv' := [(4, .int ((0 : Int32))), (3, .ref z7), (0, .ref l0), (2, .ref r5)]) dX2_inverted_70 (by decide) rfl ?_
    refine r_lv (lv' := [(0, .ref l0), (2, .ref r5), (3, .ref z7), (4, .int ((0 : Int32)))]) [2, 3, 1, 0] rfl ?_
    replace h := bd_i h
    obtain ⟨hp48, q49, h⟩ := h
    refine w_X2_inverted_L72 C  q49 ?_
    refine r_aload_n C 0 rfl dX2_inverted_110 rfl ?_
    cases h
    exact r_areturnA C (Or.inr ⟨_, rfl⟩) (Eq.symm hO) dX2_inverted_111
  · replace h := br_n hc h
    refine r_null C dX2_inverted_55 ?_
    cases h
    exact r_areturn C (Or.inr ⟨_, rfl⟩) (Eq.symm hO) dX2_inverted_56
noncomputable def f_X2_product_L42 (hp : cH) (l0 : Nat) (l1 : Nat) (l2 : Nat) (l4 : Int32) (l5 : Int32) (l6 : Int64) (l8 : Int32) : Option ((Int64 × Int32) ⊕ Int64) := (gI hp l0 2 1).bind fun w11 => if w11 ≤ l8 then (some (.inr l6)) else ((gR hp l0 2 0).bind fun w13 => (gR hp l0 2 0).bind fun w15 => (gI hp l0 2 1).bind fun w17 => (lJ hp l1 ((l4 * w17) + l8)).bind fun w19 => (gI hp l0 2 1).bind fun w21 => (lJ hp l2 ((l8 * w21) + l5)).bind fun w23 => if isO hp w15 0 = true then (f_X0_times hp w15 w19 w23).bind fun r27 => if isO hp w13 0 = true then (f_X0_plus hp w13 l6 r27).bind fun r30 => some (.inl (r30, l8 + 1)) else none else none)
noncomputable def f_X2_product_L27 (l0 : Nat) (l1 : Nat) (l2 : Nat) (l3 : Nat) (l4 : Int32) (l5 : Int32) (hp : cH) : Option ((Int32 × cH) ⊕ cH) := (gI hp l0 2 1).bind fun w9 => if w9 ≤ l5 then (some (.inr hp)) else ((itX (fun s => f_X2_product_L42 hp l0 l1 l2 l4 l5 s.1 s.2) ((0 : Int64), (0 : Int32))).bind fun y31 => (gI hp l0 2 1).bind fun w33 => (sJ hp l3 ((l4 * w33) + l5) y31).bind fun hp35 => some (.inl (l5 + 1, hp35)))
noncomputable def f_X2_product_L15 (l0 : Nat) (l1 : Nat) (l2 : Nat) (l3 : Nat) (l4 : Int32) (hp : cH) : Option ((Int32 × cH) ⊕ cH) := (gI hp l0 2 1).bind fun w7 => if w7 ≤ l4 then (some (.inr hp)) else ((itX (fun s => f_X2_product_L27 l0 l1 l2 l3 l4 s.1 s.2) ((0 : Int32), hp)).bind fun hp37 => some (.inl (l4 + 1, hp37)))
noncomputable def f_X2_product (hp : cH) (sz : Nat) (l0 : Nat) (l1 : Nat) (l2 : Nat) : Option (Nat × cH × Nat) := (gI hp l0 2 1).bind fun w1 => (gI hp l0 2 1).bind fun w3 => (nJ hp sz (w1 * w3)).bind fun hp5 => (itX (fun s => f_X2_product_L15 l0 l1 l2 sz s.1 s.2) ((0 : Int32), hp5)).bind fun hp39 => some (sz, hp39, (sz + 1))
set_option maxHeartbeats 4000000 in
set_option maxRecDepth 100000 in
theorem w_X2_product_L42 {K : kT} {O : oT} (C : aC K cX2_product RX2 "product" 1 19 1 (64 * 1) 9 (some (.array .long)) O) {hp : cH} {sz rc : Nat} {l0 : Nat} {l1 : Nat} {l2 : Nat} {l3 : Nat} {l4 : Int32} {l5 : Int32} {l6 : Int64} {l8 : Int32} {e6 : Int64} (h : itX (fun s => f_X2_product_L42 hp l0 l1 l2 l4 l5 s.1 s.2) (l6, l8) = some e6) (hr : aW K hp sz rc (64 * rc) 99 [(0, .ref l0), (1, .ref l1), (2, .ref l2), (3, .ref l3), (4, .int l4), (5, .int l5), (6, .long e6)] []) : aW K hp sz rc (64 * rc) 42 [(0, .ref l0), (1, .ref l1), (2, .ref l2), (3, .ref l3), (4, .int l4), (5, .int l5), (6, .long l6), (8, .int l8)] [] := by
  refine it_walk (f := fun s => f_X2_product_L42 hp l0 l1 l2 l4 l5 s.1 s.2) (P := fun s => aW K hp sz rc (64 * rc) 42 [(0, .ref l0), (1, .ref l1), (2, .ref l2), (3, .ref l3), (4, .int l4), (5, .int l5), (6, .long s.1), (8, .int s.2)] []) (R := fun r => aW K hp sz rc (64 * rc) 99 [(0, .ref l0), (1, .ref l1), (2, .ref l2), (3, .ref l3), (4, .int l4), (5, .int l5), (6, .long r)] []) ?_ h hr
  clear h hr
  rintro ⟨l6, l8⟩ x h kl kr
  show aW K hp sz rc (64 * rc) 42 [(0, .ref l0), (1, .ref l1), (2, .ref l2), (3, .ref l3), (4, .int l4), (5, .int l5), (6, .long l6), (8, .int l8)] []
  replace h : f_X2_product_L42 hp l0 l1 l2 l4 l5 l6 l8 = some x := h
  unfold f_X2_product_L42 at h
  refine r_iload C 7 rfl dX2_product_42 ?_
  refine r_aload_n C 0 rfl dX2_product_44 rfl ?_
  replace h := bd_i h
  obtain ⟨w11, e12, h⟩ := h
  refine k_gI C e12 rfl inX2_ (by decide) flX2_13 dX2_product_45 ?_
  refine r_icmp_ge C (tgt := 99) dX2_product_48 (by decide) (fun hc => ?_) (fun hc => ?_)
  · replace h := br_p hc h
    refine r_lv (lv' := [(0, .ref l0), (1, .ref l1), (2, .ref l2), (3, .ref l3), (4, .int l4), (5, .int l5), (6, .long l6)]) [0, 1, 2, 3, 4, 5, 6] rfl ?_
    exact kr _ (sm_i h)
  · replace h := br_n hc h
    refine r_aload_n C 0 rfl dX2_product_51 rfl ?_
    replace h := bd_i h
    obtain ⟨w13, e14, h⟩ := h
    refine k_gR C e14 rfl inX2_ (by decide) flX2_7 dX2_product_52 ?_
    refine r_lload C 6 rfl dX2_product_55 ?_
    refine r_aload_n C 0 rfl dX2_product_57 rfl ?_
    replace h := bd_i h
    obtain ⟨w15, e16, h⟩ := h
    refine k_gR C e16 rfl inX2_ (by decide) flX2_7 dX2_product_58 ?_
    refine r_aload_n C 1 rfl dX2_product_61 rfl ?_
    refine r_iload C 4 rfl dX2_product_62 ?_
    refine r_aload_n C 0 rfl dX2_product_64 rfl ?_
    replace h := bd_i h
    obtain ⟨w17, e18, h⟩ := h
    refine k_gI C e18 rfl inX2_ (by decide) flX2_13 dX2_product_65 ?_
    refine r_imul C dX2_product_68 ?_
    refine r_iload C 7 rfl dX2_product_69 ?_
    refine r_iadd C dX2_product_71 ?_
    replace h := bd_i h
    obtain ⟨w19, e20, h⟩ := h
    refine k_lJ C e20 dX2_product_72 ?_
    refine r_aload_n C 2 rfl dX2_product_73 rfl ?_
    refine r_iload C 7 rfl dX2_product_74 ?_
    refine r_aload_n C 0 rfl dX2_product_76 rfl ?_
    replace h := bd_i h
    obtain ⟨w21, e22, h⟩ := h
    refine k_gI C e22 rfl inX2_ (by decide) flX2_13 dX2_product_77 ?_
    refine r_imul C dX2_product_80 ?_
    refine r_iload C 5 rfl dX2_product_81 ?_
    refine r_iadd C dX2_product_83 ?_
    replace h := bd_i h
    obtain ⟨w23, e24, h⟩ := h
    refine k_lJ C e24 dX2_product_84 ?_
    replace h := gd_t h
    obtain ⟨ho25, h⟩ := h
    obtain ⟨_, ho25⟩ := isO_s ho25
    replace h := bd_i h
    obtain ⟨r27, q26, h⟩ := h
    refine q_callV C 3 rc (64 * rc) (k_X0_times q26) rfl ho25 rfl okX0_times inX0_times lkX2_37 rfl (Nat.le_of_ble_eq_true rfl) ⟨by decide, by decide⟩ dX2_product_85 (by omega) (by omega) ?_
    replace h := gd_t h
    obtain ⟨ho28, h⟩ := h
    obtain ⟨_, ho28⟩ := isO_s ho28
    replace h := bd_i h
    obtain ⟨r30, q29, h⟩ := h
    refine q_callV C 0 rc (64 * rc) (k_X0_plus q29) rfl ho28 rfl okX0_plus inX0_plus lkX2_41 rfl (Nat.le_of_ble_eq_true rfl) ⟨by decide, by decide⟩ dX2_product_88 (by omega) (by omega) ?_
    refine r_lstore C (lv' := [(6, .long r30), (0, .ref l0), (1, .ref l1), (2, .ref l2), (3, .ref l3), (4, .int l4), (5, .int l5), (8, .int l8)]) dX2_product_91 (by decide) rfl ?_
    refine r_iinc C (v := l8 + 1) (lv' := [(8, .int (l8 + 1)), (6, .long r30), (0, .ref l0), (1, .ref l1), (2, .ref l2), (3, .ref l3), (4, .int l4), (5, .int l5)]) 7 rfl dX2_product_93 rfl (by decide) rfl ?_
    refine r_goto C (tgt := 42) dX2_product_96 (by decide) ?_
    refine r_lv (lv' := [(0, .ref l0), (1, .ref l1), (2, .ref l2), (3, .ref l3), (4, .int l4), (5, .int l5), (6, .long r30), (8, .int (l8 + 1))]) [2, 3, 4, 5, 6, 7, 1, 0] rfl ?_
    exact kl _ (sm_i h)
set_option maxHeartbeats 4000000 in
set_option maxRecDepth 100000 in
theorem w_X2_product_L27 {K : kT} {O : oT} (C : aC K cX2_product RX2 "product" 1 19 1 (64 * 1) 9 (some (.array .long)) O) {hp : cH} {sz rc : Nat} {l0 : Nat} {l1 : Nat} {l2 : Nat} {l3 : Nat} {l4 : Int32} {l5 : Int32} {eh : cH} (h : itX (fun s => f_X2_product_L27 l0 l1 l2 l3 l4 s.1 s.2) (l5, hp) = some eh) (hr : aW K eh sz rc (64 * rc) 119 [(0, .ref l0), (1, .ref l1), (2, .ref l2), (3, .ref l3), (4, .int l4)] []) : aW K hp sz rc (64 * rc) 27 [(0, .ref l0), (1, .ref l1), (2, .ref l2), (3, .ref l3), (4, .int l4), (5, .int l5)] [] := by
  refine it_walk (f := fun s => f_X2_product_L27 l0 l1 l2 l3 l4 s.1 s.2) (P := fun s => aW K s.2 sz rc (64 * rc) 27 [(0, .ref l0), (1, .ref l1), (2, .ref l2), (3, .ref l3), (4, .int l4), (5, .int s.1)] []) (R := fun r => aW K r sz rc (64 * rc) 119 [(0, .ref l0), (1, .ref l1), (2, .ref l2), (3, .ref l3), (4, .int l4)] []) ?_ h hr
  clear h hr
  rintro ⟨l5, hp⟩ x h kl kr
  show aW K hp sz rc (64 * rc) 27 [(0, .ref l0), (1, .ref l1), (2, .ref l2), (3, .ref l3), (4, .int l4), (5, .int l5)] []
  replace h : f_X2_product_L27 l0 l1 l2 l3 l4 l5 hp = some x := h
  unfold f_X2_product_L27 at h
  refine r_iload C 5 rfl dX2_product_27 ?_
  refine r_aload_n C 0 rfl dX2_product_29 rfl ?_
  replace h := bd_i h
  obtain ⟨w9, e10, h⟩ := h
  refine k_gI C e10 rfl inX2_ (by decide) flX2_13 dX2_product_30 ?_
  refine r_icmp_ge C (tgt := 119) dX2_product_33 (by decide) (fun hc => ?_) (fun hc => ?_)
  · replace h := br_p hc h
    refine r_lv (lv' := [(0, .ref l0), (1, .ref l1), (2, .ref l2), (3, .ref l3), (4, .int l4)]) [0, 1, 2, 3, 4] rfl ?_
    exact kr _ (sm_i h)
  · replace h := br_n hc h
    refine r_lconst C (v := 0) dX2_product_36 (by decide) ?_
    refine r_lstore C (lv' := [(6, .long ((0 : Int64))), (0, .ref l0), (1, .ref l1), (2, .ref l2), (3, .ref l3), (4, .int l4), (5, .int l5)]) dX2_product_37 (by decide) rfl ?_
    refine r_iconst C (v := 0) dX2_product_39 (by decide) ?_
    refine r_istore C (lv' := [(8, .int ((0 : Int32))), (6, .long ((0 : Int64))), (0, .ref l0), (1, .ref l1), (2, .ref l2), (3, .ref l3), (4, .int l4), (5, .int l5)]) dX2_product_40 (by decide) rfl ?_
    refine r_lv (lv' := [(0, .ref l0), (1, .ref l1), (2, .ref l2), (3, .ref l3), (4, .int l4), (5, .int l5), (6, .long ((0 : Int64))), (8, .int ((0 : Int32)))]) [2, 3, 4, 5, 6, 7, 1, 0] rfl ?_
    replace h := bd_i h
    obtain ⟨y31, q32, h⟩ := h
    refine w_X2_product_L42 C  q32 ?_
    refine r_aload_n C 3 rfl dX2_product_99 rfl ?_
    refine r_iload C 4 rfl dX2_product_100 ?_
    refine r_aload_n C 0 rfl dX2_product_102 rfl ?_
    replace h := bd_i h
    obtain ⟨w33, e34, h⟩ := h
    refine k_gI C e34 rfl inX2_ (by decide) flX2_13 dX2_product_103 ?_
    refine r_imul C dX2_product_106 ?_
    refine r_iload C 5 rfl dX2_product_107 ?_
    refine r_iadd C dX2_product_109 ?_
    refine r_lload C 6 rfl dX2_product_110 ?_
    replace h := bd_i h
    obtain ⟨hp35, e36, h⟩ := h
    refine k_sJ C e36 dX2_product_112 ?_
    refine r_iinc C (v := l5 + 1) (lv' := [(5, .int (l5 + 1)), (0, .ref l0), (1, .ref l1), (2, .ref l2), (3, .ref l3), (4, .int l4), (6, .long y31)]) 5 rfl dX2_product_113 rfl (by decide) rfl ?_
    refine r_goto C (tgt := 27) dX2_product_116 (by decide) ?_
    refine r_lv (lv' := [(0, .ref l0), (1, .ref l1), (2, .ref l2), (3, .ref l3), (4, .int l4), (5, .int (l5 + 1))]) [1, 2, 3, 4, 5, 0] rfl ?_
    exact kl _ (sm_i h)
set_option maxHeartbeats 4000000 in
set_option maxRecDepth 100000 in
theorem w_X2_product_L15 {K : kT} {O : oT} (C : aC K cX2_product RX2 "product" 1 19 1 (64 * 1) 9 (some (.array .long)) O) {hp : cH} {sz rc : Nat} {l0 : Nat} {l1 : Nat} {l2 : Nat} {l3 : Nat} {l4 : Int32} {eh : cH} (h : itX (fun s => f_X2_product_L15 l0 l1 l2 l3 s.1 s.2) (l4, hp) = some eh) (hr : aW K eh sz rc (64 * rc) 125 [(3, .ref l3)] []) : aW K hp sz rc (64 * rc) 15 [(0, .ref l0), (1, .ref l1), (2, .ref l2), (3, .ref l3), (4, .int l4)] [] := by
  refine it_walk (f := fun s => f_X2_product_L15 l0 l1 l2 l3 s.1 s.2) (P := fun s => aW K s.2 sz rc (64 * rc) 15 [(0, .ref l0), (1, .ref l1), (2, .ref l2), (3, .ref l3), (4, .int s.1)] []) (R := fun r => aW K r sz rc (64 * rc) 125 [(3, .ref l3)] []) ?_ h hr
  clear h hr
  rintro ⟨l4, hp⟩ x h kl kr
  show aW K hp sz rc (64 * rc) 15 [(0, .ref l0), (1, .ref l1), (2, .ref l2), (3, .ref l3), (4, .int l4)] []
  replace h : f_X2_product_L15 l0 l1 l2 l3 l4 hp = some x := h
  unfold f_X2_product_L15 at h
  refine r_iload C 4 rfl dX2_product_15 ?_
  refine r_aload_n C 0 rfl dX2_product_17 rfl ?_
  replace h := bd_i h
  obtain ⟨w7, e8, h⟩ := h
  refine k_gI C e8 rfl inX2_ (by decide) flX2_13 dX2_product_18 ?_
  refine r_icmp_ge C (tgt := 125) dX2_product_21 (by decide) (fun hc => ?_) (fun hc => ?_)
  · replace h := br_p hc h
    refine r_lv (lv' := [(3, .ref l3)]) [3] rfl ?_
    exact kr _ (sm_i h)
  · replace h := br_n hc h
    refine r_iconst C (v := 0) dX2_product_24 (by decide) ?_
    refine r_istore C (lv' := [(5, .int ((0 : Int32))), (0, .ref l0), (1, .ref l1), (2, .ref l2), (3, .ref l3), (4, .int l4)]) dX2_product_25 (by decide) rfl ?_
    refine r_lv (lv' := [(0, .ref l0), (1, .ref l1), (2, .ref l2), (3, .ref l3), (4, .int l4), (5, .int ((0 : Int32)))]) [1, 2, 3, 4, 5, 0] rfl ?_
    replace h := bd_i h
    obtain ⟨hp37, q38, h⟩ := h
    refine w_X2_product_L27 C  q38 ?_
    refine r_iinc C (v := l4 + 1) (lv' := [(4, .int (l4 + 1)), (0, .ref l0), (1, .ref l1), (2, .ref l2), (3, .ref l3)]) 4 rfl dX2_product_119 rfl (by decide) rfl ?_
    refine r_goto C (tgt := 15) dX2_product_122 (by decide) ?_
    refine r_lv (lv' := [(0, .ref l0), (1, .ref l1), (2, .ref l2), (3, .ref l3), (4, .int (l4 + 1))]) [1, 2, 3, 4, 0] rfl ?_
    exact kl _ (sm_i h)
set_option maxHeartbeats 4000000 in
set_option maxRecDepth 100000 in
theorem k_X2_product {G : gT} {hp : cH} {sz : Nat} {l0 : Nat} {l1 : Nat} {l2 : Nat} {o0 : Nat} {oh : cH} {oz : Nat} (h : f_X2_product hp sz l0 l1 l2 = some (o0, oh, oz)) : aM G yX2_product cX2_product 9 (some (.array .long)) 1 19 1 (64 * 1) [.ref l0, .ref l1, .ref l2] hp sz ((some (.ref o0), oh, oz) : oT) := by
  refine aM.of RX2 (by decide) rfl (Nat.le_of_ble_eq_true rfl) (fun K C => ?_)
  have hO : ((some (.ref o0), oh, oz) : oT) = ((some (.ref o0), oh, oz) : oT) := rfl
  refine r_lve (lv' := [(0, .ref l0), (1, .ref l1), (2, .ref l2)]) rfl ?_
  unfold f_X2_product at h
  refine r_aload_n C 0 rfl dX2_product_0 rfl ?_
  replace h := bd_i h
  obtain ⟨w1, e2, h⟩ := h
  refine k_gI C e2 rfl inX2_ (by decide) flX2_13 dX2_product_1 ?_
  refine r_aload_n C 0 rfl dX2_product_4 rfl ?_
  replace h := bd_i h
  obtain ⟨w3, e4, h⟩ := h
  refine k_gI C e4 rfl inX2_ (by decide) flX2_13 dX2_product_5 ?_
  refine r_imul C dX2_product_8 ?_
  replace h := bd_i h
  obtain ⟨hp5, e6, h⟩ := h
  refine k_nJ C 0 e6 dX2_product_9 (by omega) ?_
  refine r_astore_n C (lv' := [(3, .ref sz), (0, .ref l0), (1, .ref l1), (2, .ref l2)]) dX2_product_11 rfl (by decide) rfl ?_
  refine r_iconst C (v := 0) dX2_product_12 (by decide) ?_
  refine r_istore C (lv' := [(4, .int ((0 : Int32))), (3, .ref sz), (0, .ref l0), (1, .ref l1), (2, .ref l2)]) dX2_product_13 (by decide) rfl ?_
  refine r_lv (lv' := [(0, .ref l0), (1, .ref l1), (2, .ref l2), (3, .ref sz), (4, .int ((0 : Int32)))]) [2, 3, 4, 1, 0] rfl ?_
  replace h := bd_i h
  obtain ⟨hp39, q40, h⟩ := h
  refine w_X2_product_L15 C  q40 ?_
  refine r_aload_n C 0 rfl dX2_product_125 rfl ?_
  cases h
  exact r_areturnA C (Or.inr ⟨_, rfl⟩) (Eq.symm hO) dX2_product_126
noncomputable def f_X5_map (hp : cH) (sz : Nat) (l0 : Nat) : Option (Int32 × cH × Nat) := (gI hp l0 5 11).bind fun w1 => (gI hp l0 5 5).bind fun w3 => if w1 = (w3 + ((2 : Int32))) then ((gR hp l0 5 8).bind fun w5 => (gR hp l0 5 3).bind fun w7 => (gI hp l0 5 11).bind fun w9 => if isO hp l0 5 = true then (f_X5_pointRows hp sz l0 w7 w9).bind fun (r13, hp14, z15) => if isO hp14 w5 2 = true then (f_X2_frameOf hp14 z15 w5 r13).bind fun (r18, hp19, z20) => (gR hp19 l0 5 8).bind fun w21 => (gR hp19 l0 5 4).bind fun w23 => (gI hp19 l0 5 11).bind fun w25 => if isO hp19 l0 5 = true then (f_X5_pointRows hp19 z20 l0 w23 w25).bind fun (r29, hp30, z31) => if isO hp30 w21 2 = true then (f_X2_frameOf hp30 z31 w21 r29).bind fun (r34, hp35, z36) => Option.elim r18 (some ((-1 : Int32), hp35, z36)) (fun a37 => Option.elim r34 (some ((-1 : Int32), hp35, z36)) (fun a38 => (gR hp35 l0 5 8).bind fun w39 => if isO hp35 w39 2 = true then (f_X2_inverted hp35 z36 w39 a37).bind fun (r43, hp44, z45) => Option.elim r43 (some ((-1 : Int32), hp44, z45)) (fun a46 => (gR hp44 l0 5 8).bind fun w47 => if isO hp44 w47 2 = true then (f_X2_product hp44 z45 w47 a38 a46).bind fun (r51, hp52, z53) => if isO hp52 l0 5 = true then (f_X5_keep hp52 z53 l0 ((3 : Int32)) ((some r51))).bind fun (r56, hp57, z58) => if r56 < 0 then (some (r56, hp57, z58)) else ((pV hp57 l0 5 11 (.int ((0 : Int32)))).bind fun hp59 => some (r56, hp59, z58)) else none else none) else none)) else none else none else none else none) else (some ((-1 : Int32), hp, sz))
set_option maxHeartbeats 4000000 in
set_option maxRecDepth 100000 in
theorem k_X5_map {G : gT} {hp : cH} {sz : Nat} {l0 : Nat} {o0 : Int32} {oh : cH} {oz : Nat} (h : f_X5_map hp sz l0 = some (o0, oh, oz)) : aM G yX5_map cX5_map 5 (some .int) 4 76 56 (64 * 56) [.ref l0] hp sz ((some (.int o0), oh, oz) : oT) := by
  refine aM.of RX5 (by decide) rfl (Nat.le_of_ble_eq_true rfl) (fun K C => ?_)
  have hO : ((some (.int o0), oh, oz) : oT) = ((some (.int o0), oh, oz) : oT) := rfl
  refine r_lve (lv' := [(0, .ref l0)]) rfl ?_
  unfold f_X5_map at h
  refine r_aload_n C 0 rfl dX5_map_0 rfl ?_
  replace h := bd_i h
  obtain ⟨w1, e2, h⟩ := h
  refine k_gI C e2 rfl inX5_ (by decide) flX5_169 dX5_map_1 ?_
  refine r_aload_n C 0 rfl dX5_map_4 rfl ?_
  replace h := bd_i h
  obtain ⟨w3, e4, h⟩ := h
  refine k_gI C e4 rfl inX5_ (by decide) flX5_96 dX5_map_5 ?_
  refine r_iconst C (v := 2) dX5_map_8 (by decide) ?_
  refine r_iadd C dX5_map_9 ?_
  refine r_icmp_eq C (tgt := 15) dX5_map_10 (by decide) (fun hc => ?_) (fun hc => ?_)
  · replace h := br_p hc h
    refine r_aload_n C 0 rfl dX5_map_15 rfl ?_
    replace h := bd_i h
    obtain ⟨w5, e6, h⟩ := h
    refine k_gR C e6 rfl inX5_ (by decide) flX5_142 dX5_map_16 ?_
    refine r_aload_n C 0 rfl dX5_map_19 rfl ?_
    refine r_aload_n C 0 rfl dX5_map_20 rfl ?_
    replace h := bd_i h
    obtain ⟨w7, e8, h⟩ := h
    refine k_gR C e8 rfl inX5_ (by decide) flX5_24 dX5_map_21 ?_
    refine r_aload_n C 0 rfl dX5_map_24 rfl ?_
    replace h := bd_i h
    obtain ⟨w9, e10, h⟩ := h
    refine k_gI C e10 rfl inX5_ (by decide) flX5_169 dX5_map_25 ?_
    replace h := gd_t h
    obtain ⟨ho11, h⟩ := h
    obtain ⟨_, ho11⟩ := isO_s ho11
    replace h := bd_i h
    obtain ⟨⟨r13, hp14, z15⟩, q12, h⟩ := h
    refine q_callV C 1 46 (64 * 46) (k_X5_pointRows q12) rfl ho11 rfl okX5_pointRows inX5_pointRows lkX5_172 rfl (Nat.le_of_ble_eq_true rfl) ⟨by decide, by decide⟩ dX5_map_28 (by omega) (by omega) ?_
    replace h := gd_t h
    obtain ⟨ho16, h⟩ := h
    obtain ⟨_, ho16⟩ := isO_s ho16
    replace h := bd_i h
    obtain ⟨⟨r18, hp19, z20⟩, q17, h⟩ := h
    refine q_callV C 0 35 (64 * 35) (k_X2_frameOf q17) rfl ho16 rfl okX2_frameOf inX2_frameOf lkX5_176 rfl (Nat.le_of_ble_eq_true rfl) ⟨by decide, by decide⟩ dX5_map_31 (by omega) (by omega) ?_
    refine r_astore_nq C (lv' := [(1, va_rf r18), (0, .ref l0)]) dX5_map_34 rfl (by decide) rfl ?_
    refine r_aload_n C 1 rfl dX5_map_35 rfl ?_
    replace h := bd_i h
    obtain ⟨w21, e22, h⟩ := h
    refine k_gR C e22 rfl inX5_ (by decide) flX5_142 dX5_map_36 ?_
    refine r_aload_n C 1 rfl dX5_map_39 rfl ?_
    refine r_aload_n C 1 rfl dX5_map_40 rfl ?_
    replace h := bd_i h
    obtain ⟨w23, e24, h⟩ := h
    refine k_gR C e24 rfl inX5_ (by decide) flX5_27 dX5_map_41 ?_
    refine r_aload_n C 1 rfl dX5_map_44 rfl ?_
    replace h := bd_i h
    obtain ⟨w25, e26, h⟩ := h
    refine k_gI C e26 rfl inX5_ (by decide) flX5_169 dX5_map_45 ?_
    replace h := gd_t h
    obtain ⟨ho27, h⟩ := h
    obtain ⟨_, ho27⟩ := isO_s ho27
    replace h := bd_i h
    obtain ⟨⟨r29, hp30, z31⟩, q28, h⟩ := h
    refine q_callV C 1 25 (64 * 25) (k_X5_pointRows q28) rfl ho27 rfl okX5_pointRows inX5_pointRows lkX5_172 rfl (Nat.le_of_ble_eq_true rfl) ⟨by decide, by decide⟩ dX5_map_48 (by omega) (by omega) ?_
    replace h := gd_t h
    obtain ⟨ho32, h⟩ := h
    obtain ⟨_, ho32⟩ := isO_s ho32
    replace h := bd_i h
    obtain ⟨⟨r34, hp35, z36⟩, q33, h⟩ := h
    refine q_callV C 0 14 (64 * 14) (k_X2_frameOf q33) rfl ho32 rfl okX2_frameOf inX2_frameOf lkX5_176 rfl (Nat.le_of_ble_eq_true rfl) ⟨by decide, by decide⟩ dX5_map_51 (by omega) (by omega) ?_
    refine r_astore_nq C (lv' := [(2, va_rf r34), (1, va_rf r18), (0, .ref l0)]) dX5_map_54 rfl (by decide) (by simp [rf_cat]) ?_
    refine r_aload_nq C 1 rfl dX5_map_55 rfl ?_
    refine k_ifnull C (tgt := 63) dX5_map_56 (by decide) (fun hx => ?_) (fun a37 hx => ?_)
    · subst hx
      replace h := oe_n rfl h
      refine r_iconst C (v := -1) dX5_map_63 (by decide) ?_
      cases h
      exact r_ireturn C (Eq.symm hO) dX5_map_64
    · subst hx
      replace h := oe_s rfl h
      refine r_aload_nq C 0 rfl dX5_map_59 rfl ?_
      refine k_ifnonnull C (tgt := 65) dX5_map_60 (by decide) (fun a38 hx => ?_) (fun hx => ?_)
      · subst hx
        replace h := oe_s rfl h
        refine r_aload_n C 2 rfl dX5_map_65 rfl ?_
        replace h := bd_i h
        obtain ⟨w39, e40, h⟩ := h
        refine k_gR C e40 rfl inX5_ (by decide) flX5_142 dX5_map_66 ?_
        refine r_aload_n C 1 rfl dX5_map_69 rfl ?_
        replace h := gd_t h
        obtain ⟨ho41, h⟩ := h
        obtain ⟨_, ho41⟩ := isO_s ho41
        replace h := bd_i h
        obtain ⟨⟨r43, hp44, z45⟩, q42, h⟩ := h
        refine q_callV C 0 3 (64 * 3) (k_X2_inverted q42) rfl ho41 rfl okX2_inverted inX2_inverted lkX5_180 rfl (Nat.le_of_ble_eq_true rfl) ⟨by decide, by decide⟩ dX5_map_70 (by omega) (by omega) ?_
        refine r_astore_nq C (lv' := [(3, va_rf r43), (2, .ref a38), (1, .ref a37), (0, .ref l0)]) dX5_map_73 rfl (by decide) rfl ?_
        refine r_aload_nq C 0 rfl dX5_map_74 rfl ?_
        refine k_ifnonnull C (tgt := 80) dX5_map_75 (by decide) (fun a46 hx => ?_) (fun hx => ?_)
        · subst hx
          replace h := oe_s rfl h
          refine r_aload_n C 3 rfl dX5_map_80 rfl ?_
          refine r_iconst C (v := 3) dX5_map_81 (by decide) ?_
          refine r_aload_n C 3 rfl dX5_map_82 rfl ?_
          replace h := bd_i h
          obtain ⟨w47, e48, h⟩ := h
          refine k_gR C e48 rfl inX5_ (by decide) flX5_142 dX5_map_83 ?_
          refine r_aload_n C 1 rfl dX5_map_86 rfl ?_
          refine r_aload_n C 0 rfl dX5_map_87 rfl ?_
          replace h := gd_t h
          obtain ⟨ho49, h⟩ := h
          obtain ⟨_, ho49⟩ := isO_s ho49
          replace h := bd_i h
          obtain ⟨⟨r51, hp52, z53⟩, q50, h⟩ := h
          refine q_callV C 2 2 (64 * 2) (k_X2_product q50) rfl ho49 rfl okX2_product inX2_product lkX5_184 rfl (Nat.le_of_ble_eq_true rfl) ⟨by decide, by decide⟩ dX5_map_88 (by omega) (by omega) ?_
          replace h := gd_t h
          obtain ⟨ho54, h⟩ := h
          obtain ⟨_, ho54⟩ := isO_s ho54
          replace h := bd_i h
          obtain ⟨⟨r56, hp57, z58⟩, q55, h⟩ := h
          refine q_callV C 0 0 (64 * 0) (k_X5_keep q55) rfl ho54 rfl okX5_keep inX5_keep lkX5_62 rfl (Nat.le_of_ble_eq_true rfl) ⟨by decide, by decide⟩ dX5_map_91 (by omega) (by omega) ?_
          refine r_istore C (lv' := [(4, .int r56), (3, .ref a46), (2, .ref a38), (1, .ref a37), (0, .ref l0)]) dX5_map_94 (by decide) rfl ?_
          refine r_iload C 0 rfl dX5_map_96 ?_
          refine r_if_lt C (tgt := 106) dX5_map_98 (by decide) (fun hc => ?_) (fun hc => ?_)
          · replace h := br_p hc h
            refine r_iload C 0 rfl dX5_map_106 ?_
            cases h
            exact r_ireturn C (Eq.symm hO) dX5_map_108
          · replace h := br_n hc h
            refine r_aload_n C 4 rfl dX5_map_101 rfl ?_
            refine r_iconst C (v := 0) dX5_map_102 (by decide) ?_
            replace h := bd_i h
            obtain ⟨hp59, e60, h⟩ := h
            refine k_pV C tyX5 tyX5_ok nmX5 e60 rfl inX5_ (by decide) flX5_169 rfl rfl rfl rfl dX5_map_103 ?_
            refine r_iload C 0 rfl dX5_map_106 ?_
            cases h
            exact r_ireturn C (Eq.symm hO) dX5_map_108
        · subst hx
          replace h := oe_n rfl h
          refine r_iconst C (v := -1) dX5_map_78 (by decide) ?_
          cases h
          exact r_ireturn C (Eq.symm hO) dX5_map_79
      · subst hx
        replace h := oe_n rfl h
        refine r_iconst C (v := -1) dX5_map_63 (by decide) ?_
        cases h
        exact r_ireturn C (Eq.symm hO) dX5_map_64
  · replace h := br_n hc h
    refine r_iconst C (v := -1) dX5_map_13 (by decide) ?_
    cases h
    exact r_ireturn C (Eq.symm hO) dX5_map_14
noncomputable def f_X4_baseOfLine (hp : cH) (sz : Nat) (l0 : Nat) (l1 : Nat) : Option (Nat × cH × Nat) := if isO hp l0 4 = true then (f_X4_isPlane hp l0).bind fun r3 => if r3 = 0 then ((f_X4_baseOfWedge hp sz l0 l1).bind fun (r5, hp6, z7) => some (r5, hp6, z7)) else ((f_X4_flipped hp sz l0 l1).bind fun (r9, hp10, z11) => if isO hp10 l0 4 = true then (f_X4_baseOfWedge hp10 z11 l0 r9).bind fun (r14, hp15, z16) => some (r14, hp15, z16) else none) else none
set_option maxHeartbeats 4000000 in
set_option maxRecDepth 100000 in
theorem k_X4_baseOfLine {G : gT} {hp : cH} {sz : Nat} {l0 : Nat} {l1 : Nat} {o0 : Nat} {oh : cH} {oz : Nat} (h : f_X4_baseOfLine hp sz l0 l1 = some (o0, oh, oz)) : aM G yX4_baseOfLine cX4_baseOfLine 2 (some (.array (.array .long))) 3 59 15 (64 * 15) [.ref l0, .ref l1] hp sz ((some (.ref o0), oh, oz) : oT) := by
  refine aM.of RX4 (by decide) rfl (Nat.le_of_ble_eq_true rfl) (fun K C => ?_)
  have hO : ((some (.ref o0), oh, oz) : oT) = ((some (.ref o0), oh, oz) : oT) := rfl
  refine r_lve (lv' := [(0, .ref l0), (1, .ref l1)]) rfl ?_
  unfold f_X4_baseOfLine at h
  refine r_aload_n C 0 rfl dX4_baseOfLine_0 rfl ?_
  refine r_aload_n C 0 rfl dX4_baseOfLine_1 rfl ?_
  replace h := gd_t h
  obtain ⟨ho1, h⟩ := h
  obtain ⟨_, ho1⟩ := isO_s ho1
  replace h := bd_i h
  obtain ⟨r3, q2, h⟩ := h
  refine q_callV C 1 15 (64 * 15) (k_X4_isPlane q2) rfl ho1 rfl okX4_isPlane inX4_isPlane lkX4_44 rfl (Nat.le_of_ble_eq_true rfl) ⟨by decide, by decide⟩ dX4_baseOfLine_2 (by omega) (by omega) ?_
  refine r_if_eq C (tgt := 16) dX4_baseOfLine_5 (by decide) (fun hc => ?_) (fun hc => ?_)
  · replace h := br_p hc h
    refine r_aload_n C 1 rfl dX4_baseOfLine_16 rfl ?_
    replace h := bd_i h
    obtain ⟨⟨r5, hp6, z7⟩, q4, h⟩ := h
    refine q_callV C 0 1 (64 * 1) (k_X4_baseOfWedge q4) rfl ho1 rfl okX4_baseOfWedge inX4_baseOfWedge lkX4_62 rfl (Nat.le_of_ble_eq_true rfl) ⟨by decide, by decide⟩ dX4_baseOfLine_17 (by omega) (by omega) ?_
    cases h
    exact r_areturnA C (Or.inr ⟨_, rfl⟩) (Eq.symm hO) dX4_baseOfLine_20
  · replace h := br_n hc h
    refine r_aload_n C 0 rfl dX4_baseOfLine_8 rfl ?_
    refine r_aload_n C 1 rfl dX4_baseOfLine_9 rfl ?_
    replace h := bd_i h
    obtain ⟨⟨r9, hp10, z11⟩, q8, h⟩ := h
    refine q_callV C 1 14 (64 * 14) (k_X4_flipped q8) rfl ho1 rfl okX4_flipped inX4_flipped lkX4_48 rfl (Nat.le_of_ble_eq_true rfl) ⟨by decide, by decide⟩ dX4_baseOfLine_10 (by omega) (by omega) ?_
    refine r_goto C (tgt := 17) dX4_baseOfLine_13 (by decide) ?_
    replace h := gd_t h
    obtain ⟨ho12, h⟩ := h
    obtain ⟨_, ho12⟩ := isO_s ho12
    replace h := bd_i h
    obtain ⟨⟨r14, hp15, z16⟩, q13, h⟩ := h
    refine q_callV C 0 0 (64 * 0) (k_X4_baseOfWedge q13) rfl ho12 rfl okX4_baseOfWedge inX4_baseOfWedge lkX4_62 rfl (Nat.le_of_ble_eq_true rfl) ⟨by decide, by decide⟩ dX4_baseOfLine_17 (by omega) (by omega) ?_
    cases h
    exact r_areturnA C (Or.inr ⟨_, rfl⟩) (Eq.symm hO) dX4_baseOfLine_20
noncomputable def f_X4_lineImage (hp : cH) (sz : Nat) (l0 : Nat) (l1 : Nat) (l2 : Nat) : Option (Nat × cH × Nat) := if isO hp l0 4 = true then (f_X4_baseOfLine hp sz l0 l2).bind fun (r3, hp4, z5) => (gR hp4 l0 4 0).bind fun w6 => (lR 3 hp4 r3 ((0 : Int32))).bind fun u8 => u8.bind fun a10 => if isO hp4 w6 2 = true then (f_X2_image hp4 z5 w6 l1 a10).bind fun (r14, hp15, z16) => (gR hp15 l0 4 0).bind fun w17 => (lR 3 hp15 r3 ((1 : Int32))).bind fun u19 => u19.bind fun a21 => if isO hp15 w17 2 = true then (f_X2_image hp15 z16 w17 l1 a21).bind fun (r25, hp26, z27) => if isO hp26 l0 4 = true then (f_X4_wedge hp26 z27 l0 r14 r25).bind fun (r30, hp31, z32) => some (r30, hp31, z32) else none else none else none else none
set_option maxHeartbeats 4000000 in
set_option maxRecDepth 100000 in
theorem k_X4_lineImage {G : gT} {hp : cH} {sz : Nat} {l0 : Nat} {l1 : Nat} {l2 : Nat} {o0 : Nat} {oh : cH} {oz : Nat} (h : f_X4_lineImage hp sz l0 l1 l2 = some (o0, oh, oz)) : aM G yX4_lineImage cX4_lineImage 4 (some (.array .long)) 4 72 18 (64 * 18) [.ref l0, .ref l1, .ref l2] hp sz ((some (.ref o0), oh, oz) : oT) := by
  refine aM.of RX4 (by decide) rfl (Nat.le_of_ble_eq_true rfl) (fun K C => ?_)
  have hO : ((some (.ref o0), oh, oz) : oT) = ((some (.ref o0), oh, oz) : oT) := rfl
  refine r_lve (lv' := [(0, .ref l0), (1, .ref l1), (2, .ref l2)]) rfl ?_
  unfold f_X4_lineImage at h
  refine r_aload_n C 0 rfl dX4_lineImage_0 rfl ?_
  refine r_aload_n C 2 rfl dX4_lineImage_1 rfl ?_
  replace h := gd_t h
  obtain ⟨ho1, h⟩ := h
  obtain ⟨_, ho1⟩ := isO_s ho1
  replace h := bd_i h
  obtain ⟨⟨r3, hp4, z5⟩, q2, h⟩ := h
  refine q_callV C 0 3 (64 * 3) (k_X4_baseOfLine q2) rfl ho1 rfl okX4_baseOfLine inX4_baseOfLine lkX4_94 rfl (Nat.le_of_ble_eq_true rfl) ⟨by decide, by decide⟩ dX4_lineImage_2 (by omega) (by omega) ?_
  refine r_astore_n C (lv' := [(3, .ref r3), (0, .ref l0), (1, .ref l1), (2, .ref l2)]) dX4_lineImage_5 rfl (by decide) rfl ?_
  refine r_aload_n C 1 rfl dX4_lineImage_6 rfl ?_
  refine r_aload_n C 1 rfl dX4_lineImage_7 rfl ?_
  replace h := bd_i h
  obtain ⟨w6, e7, h⟩ := h
  refine k_gR C e7 rfl inX4_ (by decide) flX4_9 dX4_lineImage_8 ?_
  refine r_aload_n C 2 rfl dX4_lineImage_11 rfl ?_
  refine r_aload_n C 0 rfl dX4_lineImage_12 rfl ?_
  refine r_iconst C (v := 0) dX4_lineImage_13 (by decide) ?_
  replace h := bd_i h
  obtain ⟨u8, e9, h⟩ := h
  refine k_lR C (by decide) e9 dX4_lineImage_14 ?_
  replace h := bd_i h
  obtain ⟨a10, e11, h⟩ := h
  subst e11
  replace h := gd_t h
  obtain ⟨ho12, h⟩ := h
  obtain ⟨_, ho12⟩ := isO_s ho12
  replace h := bd_i h
  obtain ⟨⟨r14, hp15, z16⟩, q13, h⟩ := h
  refine q_callV C 1 2 (64 * 2) (k_X2_image q13) rfl ho12 rfl okX2_image inX2_image lkX4_55 rfl (Nat.le_of_ble_eq_true rfl) ⟨by decide, by decide⟩ dX4_lineImage_15 (by omega) (by omega) ?_
  refine r_aload_n C 1 rfl dX4_lineImage_18 rfl ?_
  replace h := bd_i h
  obtain ⟨w17, e18, h⟩ := h
  refine k_gR C e18 rfl inX4_ (by decide) flX4_9 dX4_lineImage_19 ?_
  refine r_aload_n C 2 rfl dX4_lineImage_22 rfl ?_
  refine r_aload_n C 0 rfl dX4_lineImage_23 rfl ?_
  refine r_iconst C (v := 1) dX4_lineImage_24 (by decide) ?_
  replace h := bd_i h
  obtain ⟨u19, e20, h⟩ := h
  refine k_lR C (by decide) e20 dX4_lineImage_25 ?_
  replace h := bd_i h
  obtain ⟨a21, e22, h⟩ := h
  subst e22
  replace h := gd_t h
  obtain ⟨ho23, h⟩ := h
  obtain ⟨_, ho23⟩ := isO_s ho23
  replace h := bd_i h
  obtain ⟨⟨r25, hp26, z27⟩, q24, h⟩ := h
  refine q_callV C 2 1 (64 * 1) (k_X2_image q24) rfl ho23 rfl okX2_image inX2_image lkX4_55 rfl (Nat.le_of_ble_eq_true rfl) ⟨by decide, by decide⟩ dX4_lineImage_26 (by omega) (by omega) ?_
  replace h := gd_t h
  obtain ⟨ho28, h⟩ := h
  obtain ⟨_, ho28⟩ := isO_s ho28
  replace h := bd_i h
  obtain ⟨⟨r30, hp31, z32⟩, q29, h⟩ := h
  refine q_callV C 0 0 (64 * 0) (k_X4_wedge q29) rfl ho28 rfl okX4_wedge inX4_wedge lkX4_40 rfl (Nat.le_of_ble_eq_true rfl) ⟨by decide, by decide⟩ dX4_lineImage_29 (by omega) (by omega) ?_
  cases h
  exact r_areturnA C (Or.inr ⟨_, rfl⟩) (Eq.symm hO) dX4_lineImage_32
noncomputable def f_X5_apply (hp : cH) (sz : Nat) (l0 : Nat) (l1 : Int32) (l2 : Int32) : Option (Int32 × cH × Nat) := (gR hp l0 5 0).bind fun w1 => if isO hp w1 3 = true then (f_X3_row hp w1 l1 ((3 : Int32))).bind fun r5 => (gR hp l0 5 0).bind fun w6 => if isO hp w6 3 = true then (f_X3_item hp w6 l2).bind fun r10 => Option.elim r5 (some ((-2 : Int32), hp, sz)) (fun a11 => Option.elim r10 (some ((-2 : Int32), hp, sz)) (fun a12 => (gR hp l0 5 8).bind fun w13 => if isO hp w13 2 = true then (f_X2_inverted hp sz w13 a11).bind fun (r17, hp18, z19) => Option.elim r17 (some ((-1 : Int32), hp18, z19)) (fun a20 => (gI hp18 a12 1 0).bind fun w21 => (gI hp18 l0 5 6).bind fun w23 => if w21 = w23 then ((gI hp18 l0 5 6).bind fun w132 => (gR hp18 l0 5 8).bind fun w134 => (gR hp18 l0 5 8).bind fun w136 => if isO hp18 w136 2 = true then (f_X2_turned hp18 z19 w136 a20).bind fun (r140, hp141, z142) => (gR hp141 a12 1 1).bind fun w143 => if isO hp141 w134 2 = true then (f_X2_image hp141 z142 w134 r140 w143).bind fun (r147, hp148, z149) => if isO hp148 l0 5 = true then (f_X5_keep hp148 z149 l0 w132 ((some r147))).bind fun (r152, hp153, z154) => some (r152, hp153, z154) else none else none else none) else ((gI hp18 a12 1 0).bind fun w25 => if w25 = 0 then ((gR hp18 l0 5 8).bind fun w27 => (gR hp18 a12 1 1).bind fun w29 => if isO hp18 w27 2 = true then (f_X2_image hp18 z19 w27 a11 w29).bind fun (r33, hp34, z35) => if isO hp34 l0 5 = true then (f_X5_keep hp34 z35 l0 ((0 : Int32)) ((some r33))).bind fun (r38, hp39, z40) => some (r38, hp39, z40) else none else none) else (if w25 = 1 then ((gR hp18 l0 5 9).bind fun w41 => (gR hp18 a12 1 1).bind fun w43 => if isO hp18 w41 4 = true then (f_X4_lineImage hp18 z19 w41 a11 w43).bind fun (r47, hp48, z49) => if isO hp48 l0 5 = true then (f_X5_keep hp48 z49 l0 ((1 : Int32)) ((some r47))).bind fun (r52, hp53, z54) => some (r52, hp53, z54) else none else none) else (if w25 = 2 then ((gR hp18 l0 5 8).bind fun w55 => (gR hp18 l0 5 8).bind fun w57 => (gR hp18 l0 5 8).bind fun w59 => if isO hp18 w59 2 = true then (f_X2_turned hp18 z19 w59 a20).bind fun (r63, hp64, z65) => (gR hp64 a12 1 1).bind fun w66 => if isO hp64 w57 2 = true then (f_X2_product hp64 z65 w57 r63 w66).bind fun (r70, hp71, z72) => if isO hp71 w55 2 = true then (f_X2_product hp71 z72 w55 r70 a20).bind fun (r75, hp76, z77) => if isO hp76 l0 5 = true then (f_X5_keep hp76 z77 l0 ((4 : Int32)) ((some r75))).bind fun (r80, hp81, z82) => some (r80, hp81, z82) else none else none else none else none) else (if w25 = 3 then ((gR hp18 l0 5 8).bind fun w83 => (gR hp18 l0 5 8).bind fun w85 => (gR hp18 a12 1 1).bind fun w87 => if isO hp18 w85 2 = true then (f_X2_product hp18 z19 w85 a11 w87).bind fun (r91, hp92, z93) => if isO hp92 w83 2 = true then (f_X2_product hp92 z93 w83 r91 a20).bind fun (r96, hp97, z98) => if isO hp97 l0 5 = true then (f_X5_keep hp97 z98 l0 ((3 : Int32)) ((some r96))).bind fun (r101, hp102, z103) => some (r101, hp102, z103) else none else none else none) else ((gR hp18 l0 5 8).bind fun w104 => (gR hp18 l0 5 8).bind fun w106 => (gR hp18 l0 5 8).bind fun w108 => if isO hp18 w108 2 = true then (f_X2_turned hp18 z19 w108 a20).bind fun (r112, hp113, z114) => (gR hp113 a12 1 1).bind fun w115 => if isO hp113 w106 2 = true then (f_X2_product hp113 z114 w106 r112 w115).bind fun (r119, hp120, z121) => if isO hp120 w104 2 = true then (f_X2_product hp120 z121 w104 r119 a20).bind fun (r124, hp125, z126) => if isO hp125 l0 5 = true then (f_X5_keep hp125 z126 l0 ((4 : Int32)) ((some r124))).bind fun (r129, hp130, z131) => some (r129, hp130, z131) else none else none else none else none)))))) else none)) else none else none
set_option maxHeartbeats 4000000 in
set_option maxRecDepth 100000 in
theorem k_X5_apply {G : gT} {hp : cH} {sz : Nat} {l0 : Nat} {l1 : Int32} {l2 : Int32} {o0 : Int32} {oh : cH} {oz : Nat} (h : f_X5_apply hp sz l0 l1 l2 = some (o0, oh, oz)) : aM G yX5_apply cX5_apply 6 (some .int) 5 89 47 (64 * 47) [.ref l0, .int l1, .int l2] hp sz ((some (.int o0), oh, oz) : oT) := by
  refine aM.of RX5 (by decide) rfl (Nat.le_of_ble_eq_true rfl) (fun K C => ?_)
  have hO : ((some (.int o0), oh, oz) : oT) = ((some (.int o0), oh, oz) : oT) := rfl
  refine r_lve (lv' := [(0, .ref l0), (1, .int l1), (2, .int l2)]) rfl ?_
  unfold f_X5_apply at h
  refine r_aload_n C 0 rfl dX5_apply_0 rfl ?_
  replace h := bd_i h
  obtain ⟨w1, e2, h⟩ := h
  refine k_gR C e2 rfl inX5_ (by decide) flX5_10 dX5_apply_1 ?_
  refine r_iload_n C 1 rfl dX5_apply_4 rfl ?_
  refine r_iconst C (v := 3) dX5_apply_5 (by decide) ?_
  replace h := gd_t h
  obtain ⟨ho3, h⟩ := h
  obtain ⟨_, ho3⟩ := isO_s ho3
  replace h := bd_i h
  obtain ⟨r5, q4, h⟩ := h
  refine q_callV C 0 47 (64 * 47) (k_X3_row q4) rfl ho3 rfl okX3_row inX3_row lkX5_166 rfl (Nat.le_of_ble_eq_true rfl) ⟨by decide, by decide⟩ dX5_apply_6 (by omega) (by omega) ?_
  refine r_astore_nq C (lv' := [(3, va_rf r5), (0, .ref l0), (1, .int l1), (2, .int l2)]) dX5_apply_9 rfl (by decide) rfl ?_
  refine r_aload_n C 1 rfl dX5_apply_10 rfl ?_
  replace h := bd_i h
  obtain ⟨w6, e7, h⟩ := h
  refine k_gR C e7 rfl inX5_ (by decide) flX5_10 dX5_apply_11 ?_
  refine r_iload_n C 3 rfl dX5_apply_14 rfl ?_
  replace h := gd_t h
  obtain ⟨ho8, h⟩ := h
  obtain ⟨_, ho8⟩ := isO_s ho8
  replace h := bd_i h
  obtain ⟨r10, q9, h⟩ := h
  refine q_callV C 0 47 (64 * 47) (k_X3_item q9) rfl ho8 rfl okX3_item inX3_item lkX5_66 rfl (Nat.le_of_ble_eq_true rfl) ⟨by decide, by decide⟩ dX5_apply_15 (by omega) (by omega) ?_
  refine r_astoreq C (lv' := [(4, va_rf r10), (3, va_rf r5), (0, .ref l0), (1, .int l1), (2, .int l2)]) dX5_apply_18 (by decide) (by simp [rf_cat]) ?_
  refine r_aload_nq C 1 rfl dX5_apply_20 rfl ?_
  refine k_ifnull C (tgt := 29) dX5_apply_21 (by decide) (fun hx => ?_) (fun a11 hx => ?_)
  · subst hx
    replace h := oe_n rfl h
    refine r_bipush C (v := -2) dX5_apply_29 (by decide) ?_
    cases h
    exact r_ireturn C (Eq.symm hO) dX5_apply_31
  · subst hx
    replace h := oe_s rfl h
    refine r_aloadq C 0 rfl dX5_apply_24 ?_
    refine k_ifnonnull C (tgt := 32) dX5_apply_26 (by decide) (fun a12 hx => ?_) (fun hx => ?_)
    · subst hx
      replace h := oe_s rfl h
      refine r_aload_n C 2 rfl dX5_apply_32 rfl ?_
      replace h := bd_i h
      obtain ⟨w13, e14, h⟩ := h
      refine k_gR C e14 rfl inX5_ (by decide) flX5_142 dX5_apply_33 ?_
      refine r_aload_n C 1 rfl dX5_apply_36 rfl ?_
      replace h := gd_t h
      obtain ⟨ho15, h⟩ := h
      obtain ⟨_, ho15⟩ := isO_s ho15
      replace h := bd_i h
      obtain ⟨⟨r17, hp18, z19⟩, q16, h⟩ := h
      refine q_callV C 0 36 (64 * 36) (k_X2_inverted q16) rfl ho15 rfl okX2_inverted inX2_inverted lkX5_180 rfl (Nat.le_of_ble_eq_true rfl) ⟨by decide, by decide⟩ dX5_apply_37 (by omega) (by omega) ?_
      refine r_astoreq C (lv' := [(5, va_rf r17), (4, .ref a12), (3, .ref a11), (0, .ref l0), (1, .int l1), (2, .int l2)]) dX5_apply_40 (by decide) rfl ?_
      refine r_aloadq C 0 rfl dX5_apply_42 ?_
      refine k_ifnonnull C (tgt := 49) dX5_apply_44 (by decide) (fun a20 hx => ?_) (fun hx => ?_)
      · subst hx
        replace h := oe_s rfl h
        refine r_aload C 1 rfl dX5_apply_49 ?_
        replace h := bd_i h
        obtain ⟨w21, e22, h⟩ := h
        refine k_gI C e22 rfl inX1_ (by decide) flX5_75 dX5_apply_51 ?_
        refine r_aload_n C 3 rfl dX5_apply_54 rfl ?_
        replace h := bd_i h
        obtain ⟨w23, e24, h⟩ := h
        refine k_gI C e24 rfl inX5_ (by decide) flX5_109 dX5_apply_55 ?_
        refine r_icmp_ne C (tgt := 91) dX5_apply_58 (by decide) (fun hc => ?_) (fun hc => ?_)
        · replace h := br_n hc h
          refine r_aload C 1 rfl dX5_apply_91 ?_
          replace h := bd_i h
          obtain ⟨w25, e26, h⟩ := h
          refine k_gI C e26 rfl inX1_ (by decide) flX5_75 dX5_apply_93 ?_
          by_cases hk0 : w25 = 0
          · replace h := br_p hk0 h
            refine r_tabIn C (0) hk0 (tgt := 128) dX5_apply_96 (by decide) (by decide) rfl (by decide) ?_
            refine r_aload_n C 3 rfl dX5_apply_128 rfl ?_
            refine r_iconst C (v := 0) dX5_apply_129 (by decide) ?_
            refine r_aload_n C 3 rfl dX5_apply_130 rfl ?_
            replace h := bd_i h
            obtain ⟨w27, e28, h⟩ := h
            refine k_gR C e28 rfl inX5_ (by decide) flX5_142 dX5_apply_131 ?_
            refine r_aload_n C 2 rfl dX5_apply_134 rfl ?_
            refine r_aload C 1 rfl dX5_apply_135 ?_
            replace h := bd_i h
            obtain ⟨w29, e30, h⟩ := h
            refine k_gR C e30 rfl inX1_ (by decide) flX5_70 dX5_apply_137 ?_
            replace h := gd_t h
            obtain ⟨ho31, h⟩ := h
            obtain ⟨_, ho31⟩ := isO_s ho31
            replace h := bd_i h
            obtain ⟨⟨r33, hp34, z35⟩, q32, h⟩ := h
            refine q_callV C 2 35 (64 * 35) (k_X2_image q32) rfl ho31 rfl okX2_image inX2_image lkX5_190 rfl (Nat.le_of_ble_eq_true rfl) ⟨by decide, by decide⟩ dX5_apply_140 (by omega) (by omega) ?_
            replace h := gd_t h
            obtain ⟨ho36, h⟩ := h
            obtain ⟨_, ho36⟩ := isO_s ho36
            replace h := bd_i h
            obtain ⟨⟨r38, hp39, z40⟩, q37, h⟩ := h
            refine q_callV C 0 33 (64 * 33) (k_X5_keep q37) rfl ho36 rfl okX5_keep inX5_keep lkX5_62 rfl (Nat.le_of_ble_eq_true rfl) ⟨by decide, by decide⟩ dX5_apply_143 (by omega) (by omega) ?_
            cases h
            exact r_ireturn C (Eq.symm hO) dX5_apply_146
          · replace h := br_n hk0 h
            by_cases hk1 : w25 = 1
            · replace h := br_p hk1 h
              refine r_tabIn C (1) hk1 (tgt := 147) dX5_apply_96 (by decide) (by decide) rfl (by decide) ?_
              refine r_aload_n C 3 rfl dX5_apply_147 rfl ?_
              refine r_iconst C (v := 1) dX5_apply_148 (by decide) ?_
              refine r_aload_n C 3 rfl dX5_apply_149 rfl ?_
              replace h := bd_i h
              obtain ⟨w41, e42, h⟩ := h
              refine k_gR C e42 rfl inX5_ (by decide) flX5_86 dX5_apply_150 ?_
              refine r_aload_n C 2 rfl dX5_apply_153 rfl ?_
              refine r_aload C 1 rfl dX5_apply_154 ?_
              replace h := bd_i h
              obtain ⟨w43, e44, h⟩ := h
              refine k_gR C e44 rfl inX1_ (by decide) flX5_70 dX5_apply_156 ?_
              replace h := gd_t h
              obtain ⟨ho45, h⟩ := h
              obtain ⟨_, ho45⟩ := isO_s ho45
              replace h := bd_i h
              obtain ⟨⟨r47, hp48, z49⟩, q46, h⟩ := h
              refine q_callV C 2 18 (64 * 18) (k_X4_lineImage q46) rfl ho45 rfl okX4_lineImage inX4_lineImage lkX5_193 rfl (Nat.le_of_ble_eq_true rfl) ⟨by decide, by decide⟩ dX5_apply_159 (by omega) (by omega) ?_
              replace h := gd_t h
              obtain ⟨ho50, h⟩ := h
              obtain ⟨_, ho50⟩ := isO_s ho50
              replace h := bd_i h
              obtain ⟨⟨r52, hp53, z54⟩, q51, h⟩ := h
              refine q_callV C 0 16 (64 * 16) (k_X5_keep q51) rfl ho50 rfl okX5_keep inX5_keep lkX5_62 rfl (Nat.le_of_ble_eq_true rfl) ⟨by decide, by decide⟩ dX5_apply_162 (by omega) (by omega) ?_
              cases h
              exact r_ireturn C (Eq.symm hO) dX5_apply_165
            · replace h := br_n hk1 h
              by_cases hk2 : w25 = 2
              · replace h := br_p hk2 h
                refine r_tabIn C (2) hk2 (tgt := 194) dX5_apply_96 (by decide) (by decide) rfl (by decide) ?_
                refine r_aload_n C 3 rfl dX5_apply_194 rfl ?_
                refine r_iconst C (v := 4) dX5_apply_195 (by decide) ?_
                refine r_aload_n C 3 rfl dX5_apply_196 rfl ?_
                replace h := bd_i h
                obtain ⟨w55, e56, h⟩ := h
                refine k_gR C e56 rfl inX5_ (by decide) flX5_142 dX5_apply_197 ?_
                refine r_aload_n C 3 rfl dX5_apply_200 rfl ?_
                replace h := bd_i h
                obtain ⟨w57, e58, h⟩ := h
                refine k_gR C e58 rfl inX5_ (by decide) flX5_142 dX5_apply_201 ?_
                refine r_aload_n C 3 rfl dX5_apply_204 rfl ?_
                replace h := bd_i h
                obtain ⟨w59, e60, h⟩ := h
                refine k_gR C e60 rfl inX5_ (by decide) flX5_142 dX5_apply_205 ?_
                refine r_aload C 0 rfl dX5_apply_208 ?_
                replace h := gd_t h
                obtain ⟨ho61, h⟩ := h
                obtain ⟨_, ho61⟩ := isO_s ho61
                replace h := bd_i h
                obtain ⟨⟨r63, hp64, z65⟩, q62, h⟩ := h
                refine q_callV C 4 35 (64 * 35) (k_X2_turned q62) rfl ho61 rfl okX2_turned inX2_turned lkX5_187 rfl (Nat.le_of_ble_eq_true rfl) ⟨by decide, by decide⟩ dX5_apply_210 (by omega) (by omega) ?_
                refine r_aload C 1 rfl dX5_apply_213 ?_
                replace h := bd_i h
                obtain ⟨w66, e67, h⟩ := h
                refine k_gR C e67 rfl inX1_ (by decide) flX5_70 dX5_apply_215 ?_
                replace h := gd_t h
                obtain ⟨ho68, h⟩ := h
                obtain ⟨_, ho68⟩ := isO_s ho68
                replace h := bd_i h
                obtain ⟨⟨r70, hp71, z72⟩, q69, h⟩ := h
                refine q_callV C 3 34 (64 * 34) (k_X2_product q69) rfl ho68 rfl okX2_product inX2_product lkX5_184 rfl (Nat.le_of_ble_eq_true rfl) ⟨by decide, by decide⟩ dX5_apply_218 (by omega) (by omega) ?_
                refine r_aload C 0 rfl dX5_apply_221 ?_
                replace h := gd_t h
                obtain ⟨ho73, h⟩ := h
                obtain ⟨_, ho73⟩ := isO_s ho73
                replace h := bd_i h
                obtain ⟨⟨r75, hp76, z77⟩, q74, h⟩ := h
                refine q_callV C 2 33 (64 * 33) (k_X2_product q74) rfl ho73 rfl okX2_product inX2_product lkX5_184 rfl (Nat.le_of_ble_eq_true rfl) ⟨by decide, by decide⟩ dX5_apply_223 (by omega) (by omega) ?_
                replace h := gd_t h
                obtain ⟨ho78, h⟩ := h
                obtain ⟨_, ho78⟩ := isO_s ho78
                replace h := bd_i h
                obtain ⟨⟨r80, hp81, z82⟩, q79, h⟩ := h
                refine q_callV C 0 31 (64 * 31) (k_X5_keep q79) rfl ho78 rfl okX5_keep inX5_keep lkX5_62 rfl (Nat.le_of_ble_eq_true rfl) ⟨by decide, by decide⟩ dX5_apply_226 (by omega) (by omega) ?_
                cases h
                exact r_ireturn C (Eq.symm hO) dX5_apply_229
              · replace h := br_n hk2 h
                by_cases hk3 : w25 = 3
                · replace h := br_p hk3 h
                  refine r_tabIn C (3) hk3 (tgt := 166) dX5_apply_96 (by decide) (by decide) rfl (by decide) ?_
                  refine r_aload_n C 3 rfl dX5_apply_166 rfl ?_
                  refine r_iconst C (v := 3) dX5_apply_167 (by decide) ?_
                  refine r_aload_n C 3 rfl dX5_apply_168 rfl ?_
                  replace h := bd_i h
                  obtain ⟨w83, e84, h⟩ := h
                  refine k_gR C e84 rfl inX5_ (by decide) flX5_142 dX5_apply_169 ?_
                  refine r_aload_n C 3 rfl dX5_apply_172 rfl ?_
                  replace h := bd_i h
                  obtain ⟨w85, e86, h⟩ := h
                  refine k_gR C e86 rfl inX5_ (by decide) flX5_142 dX5_apply_173 ?_
                  refine r_aload_n C 2 rfl dX5_apply_176 rfl ?_
                  refine r_aload C 1 rfl dX5_apply_177 ?_
                  replace h := bd_i h
                  obtain ⟨w87, e88, h⟩ := h
                  refine k_gR C e88 rfl inX1_ (by decide) flX5_70 dX5_apply_179 ?_
                  replace h := gd_t h
                  obtain ⟨ho89, h⟩ := h
                  obtain ⟨_, ho89⟩ := isO_s ho89
                  replace h := bd_i h
                  obtain ⟨⟨r91, hp92, z93⟩, q90, h⟩ := h
                  refine q_callV C 3 35 (64 * 35) (k_X2_product q90) rfl ho89 rfl okX2_product inX2_product lkX5_184 rfl (Nat.le_of_ble_eq_true rfl) ⟨by decide, by decide⟩ dX5_apply_182 (by omega) (by omega) ?_
                  refine r_aload C 0 rfl dX5_apply_185 ?_
                  replace h := gd_t h
                  obtain ⟨ho94, h⟩ := h
                  obtain ⟨_, ho94⟩ := isO_s ho94
                  replace h := bd_i h
                  obtain ⟨⟨r96, hp97, z98⟩, q95, h⟩ := h
                  refine q_callV C 2 34 (64 * 34) (k_X2_product q95) rfl ho94 rfl okX2_product inX2_product lkX5_184 rfl (Nat.le_of_ble_eq_true rfl) ⟨by decide, by decide⟩ dX5_apply_187 (by omega) (by omega) ?_
                  replace h := gd_t h
                  obtain ⟨ho99, h⟩ := h
                  obtain ⟨_, ho99⟩ := isO_s ho99
                  replace h := bd_i h
                  obtain ⟨⟨r101, hp102, z103⟩, q100, h⟩ := h
                  refine q_callV C 0 32 (64 * 32) (k_X5_keep q100) rfl ho99 rfl okX5_keep inX5_keep lkX5_62 rfl (Nat.le_of_ble_eq_true rfl) ⟨by decide, by decide⟩ dX5_apply_190 (by omega) (by omega) ?_
                  cases h
                  exact r_ireturn C (Eq.symm hO) dX5_apply_193
                · replace h := br_n hk3 h
                  have hs0 := lv_neT hk0 (a := 0) (by decide)
                  have hs1 := lv_neT hk1 (a := 1) (by decide)
                  have hs2 := lv_neT hk2 (a := 2) (by decide)
                  have hs3 := lv_neT hk3 (a := 3) (by decide)
                  refine r_tabOut C (tgt := 194) dX5_apply_96 (by omega) (by decide) ?_
                  refine r_aload_n C 3 rfl dX5_apply_194 rfl ?_
                  refine r_iconst C (v := 4) dX5_apply_195 (by decide) ?_
                  refine r_aload_n C 3 rfl dX5_apply_196 rfl ?_
                  replace h := bd_i h
                  obtain ⟨w104, e105, h⟩ := h
                  refine k_gR C e105 rfl inX5_ (by decide) flX5_142 dX5_apply_197 ?_
                  refine r_aload_n C 3 rfl dX5_apply_200 rfl ?_
                  replace h := bd_i h
                  obtain ⟨w106, e107, h⟩ := h
                  refine k_gR C e107 rfl inX5_ (by decide) flX5_142 dX5_apply_201 ?_
                  refine r_aload_n C 3 rfl dX5_apply_204 rfl ?_
                  replace h := bd_i h
                  obtain ⟨w108, e109, h⟩ := h
                  refine k_gR C e109 rfl inX5_ (by decide) flX5_142 dX5_apply_205 ?_
                  refine r_aload C 0 rfl dX5_apply_208 ?_
                  replace h := gd_t h
                  obtain ⟨ho110, h⟩ := h
                  obtain ⟨_, ho110⟩ := isO_s ho110
                  replace h := bd_i h
                  obtain ⟨⟨r112, hp113, z114⟩, q111, h⟩ := h
                  refine q_callV C 4 35 (64 * 35) (k_X2_turned q111) rfl ho110 rfl okX2_turned inX2_turned lkX5_187 rfl (Nat.le_of_ble_eq_true rfl) ⟨by decide, by decide⟩ dX5_apply_210 (by omega) (by omega) ?_
                  refine r_aload C 1 rfl dX5_apply_213 ?_
                  replace h := bd_i h
                  obtain ⟨w115, e116, h⟩ := h
                  refine k_gR C e116 rfl inX1_ (by decide) flX5_70 dX5_apply_215 ?_
                  replace h := gd_t h
                  obtain ⟨ho117, h⟩ := h
                  obtain ⟨_, ho117⟩ := isO_s ho117
                  replace h := bd_i h
                  obtain ⟨⟨r119, hp120, z121⟩, q118, h⟩ := h
                  refine q_callV C 3 34 (64 * 34) (k_X2_product q118) rfl ho117 rfl okX2_product inX2_product lkX5_184 rfl (Nat.le_of_ble_eq_true rfl) ⟨by decide, by decide⟩ dX5_apply_218 (by omega) (by omega) ?_
                  refine r_aload C 0 rfl dX5_apply_221 ?_
                  replace h := gd_t h
                  obtain ⟨ho122, h⟩ := h
                  obtain ⟨_, ho122⟩ := isO_s ho122
                  replace h := bd_i h
                  obtain ⟨⟨r124, hp125, z126⟩, q123, h⟩ := h
                  refine q_callV C 2 33 (64 * 33) (k_X2_product q123) rfl ho122 rfl okX2_product inX2_product lkX5_184 rfl (Nat.le_of_ble_eq_true rfl) ⟨by decide, by decide⟩ dX5_apply_223 (by omega) (by omega) ?_
                  replace h := gd_t h
                  obtain ⟨ho127, h⟩ := h
                  obtain ⟨_, ho127⟩ := isO_s ho127
                  replace h := bd_i h
                  obtain ⟨⟨r129, hp130, z131⟩, q128, h⟩ := h
                  refine q_callV C 0 31 (64 * 31) (k_X5_keep q128) rfl ho127 rfl okX5_keep inX5_keep lkX5_62 rfl (Nat.le_of_ble_eq_true rfl) ⟨by decide, by decide⟩ dX5_apply_226 (by omega) (by omega) ?_
                  cases h
                  exact r_ireturn C (Eq.symm hO) dX5_apply_229
        · replace h := br_p hc h
          refine r_aload_n C 3 rfl dX5_apply_61 rfl ?_
          refine r_aload_n C 3 rfl dX5_apply_62 rfl ?_
          replace h := bd_i h
          obtain ⟨w132, e133, h⟩ := h
          refine k_gI C e133 rfl inX5_ (by decide) flX5_109 dX5_apply_63 ?_
          refine r_aload_n C 3 rfl dX5_apply_66 rfl ?_
          replace h := bd_i h
          obtain ⟨w134, e135, h⟩ := h
          refine k_gR C e135 rfl inX5_ (by decide) flX5_142 dX5_apply_67 ?_
          refine r_aload_n C 3 rfl dX5_apply_70 rfl ?_
          replace h := bd_i h
          obtain ⟨w136, e137, h⟩ := h
          refine k_gR C e137 rfl inX5_ (by decide) flX5_142 dX5_apply_71 ?_
          refine r_aload C 0 rfl dX5_apply_74 ?_
          replace h := gd_t h
          obtain ⟨ho138, h⟩ := h
          obtain ⟨_, ho138⟩ := isO_s ho138
          replace h := bd_i h
          obtain ⟨⟨r140, hp141, z142⟩, q139, h⟩ := h
          refine q_callV C 3 35 (64 * 35) (k_X2_turned q139) rfl ho138 rfl okX2_turned inX2_turned lkX5_187 rfl (Nat.le_of_ble_eq_true rfl) ⟨by decide, by decide⟩ dX5_apply_76 (by omega) (by omega) ?_
          refine r_aload C 1 rfl dX5_apply_79 ?_
          replace h := bd_i h
          obtain ⟨w143, e144, h⟩ := h
          refine k_gR C e144 rfl inX1_ (by decide) flX5_70 dX5_apply_81 ?_
          replace h := gd_t h
          obtain ⟨ho145, h⟩ := h
          obtain ⟨_, ho145⟩ := isO_s ho145
          replace h := bd_i h
          obtain ⟨⟨r147, hp148, z149⟩, q146, h⟩ := h
          refine q_callV C 2 34 (64 * 34) (k_X2_image q146) rfl ho145 rfl okX2_image inX2_image lkX5_190 rfl (Nat.le_of_ble_eq_true rfl) ⟨by decide, by decide⟩ dX5_apply_84 (by omega) (by omega) ?_
          replace h := gd_t h
          obtain ⟨ho150, h⟩ := h
          obtain ⟨_, ho150⟩ := isO_s ho150
          replace h := bd_i h
          obtain ⟨⟨r152, hp153, z154⟩, q151, h⟩ := h
          refine q_callV C 0 32 (64 * 32) (k_X5_keep q151) rfl ho150 rfl okX5_keep inX5_keep lkX5_62 rfl (Nat.le_of_ble_eq_true rfl) ⟨by decide, by decide⟩ dX5_apply_87 (by omega) (by omega) ?_
          cases h
          exact r_ireturn C (Eq.symm hO) dX5_apply_90
      · subst hx
        replace h := oe_n rfl h
        refine r_iconst C (v := -1) dX5_apply_47 (by decide) ?_
        cases h
        exact r_ireturn C (Eq.symm hO) dX5_apply_48
    · subst hx
      replace h := oe_n rfl h
      refine r_bipush C (v := -2) dX5_apply_29 (by decide) ?_
      cases h
      exact r_ireturn C (Eq.symm hO) dX5_apply_31
noncomputable def f_X5_compose (hp : cH) (sz : Nat) (l0 : Nat) (l1 : Int32) (l2 : Int32) : Option (Int32 × cH × Nat) := (gR hp l0 5 0).bind fun w1 => if isO hp w1 3 = true then (f_X3_row hp w1 l1 ((3 : Int32))).bind fun r5 => (gR hp l0 5 0).bind fun w6 => if isO hp w6 3 = true then (f_X3_row hp w6 l2 ((3 : Int32))).bind fun r10 => Option.elim r5 (some ((-2 : Int32), hp, sz)) (fun a11 => Option.elim r10 (some ((-2 : Int32), hp, sz)) (fun a12 => (gR hp l0 5 8).bind fun w13 => if isO hp w13 2 = true then (f_X2_product hp sz w13 a11 a12).bind fun (r17, hp18, z19) => if isO hp18 l0 5 = true then (f_X5_keep hp18 z19 l0 ((3 : Int32)) ((some r17))).bind fun (r22, hp23, z24) => some (r22, hp23, z24) else none else none)) else none else none
set_option maxHeartbeats 4000000 in
set_option maxRecDepth 100000 in
theorem k_X5_compose {G : gT} {hp : cH} {sz : Nat} {l0 : Nat} {l1 : Int32} {l2 : Int32} {o0 : Int32} {oh : cH} {oz : Nat} (h : f_X5_compose hp sz l0 l1 l2 = some (o0, oh, oz)) : aM G yX5_compose cX5_compose 5 (some .int) 4 69 3 (64 * 3) [.ref l0, .int l1, .int l2] hp sz ((some (.int o0), oh, oz) : oT) := by
  refine aM.of RX5 (by decide) rfl (Nat.le_of_ble_eq_true rfl) (fun K C => ?_)
  have hO : ((some (.int o0), oh, oz) : oT) = ((some (.int o0), oh, oz) : oT) := rfl
  refine r_lve (lv' := [(0, .ref l0), (1, .int l1), (2, .int l2)]) rfl ?_
  unfold f_X5_compose at h
  refine r_aload_n C 0 rfl dX5_compose_0 rfl ?_
  replace h := bd_i h
  obtain ⟨w1, e2, h⟩ := h
  refine k_gR C e2 rfl inX5_ (by decide) flX5_10 dX5_compose_1 ?_
  refine r_iload_n C 1 rfl dX5_compose_4 rfl ?_
  refine r_iconst C (v := 3) dX5_compose_5 (by decide) ?_
  replace h := gd_t h
  obtain ⟨ho3, h⟩ := h
  obtain ⟨_, ho3⟩ := isO_s ho3
  replace h := bd_i h
  obtain ⟨r5, q4, h⟩ := h
  refine q_callV C 0 3 (64 * 3) (k_X3_row q4) rfl ho3 rfl okX3_row inX3_row lkX5_166 rfl (Nat.le_of_ble_eq_true rfl) ⟨by decide, by decide⟩ dX5_compose_6 (by omega) (by omega) ?_
  refine r_astore_nq C (lv' := [(3, va_rf r5), (0, .ref l0), (1, .int l1), (2, .int l2)]) dX5_compose_9 rfl (by decide) rfl ?_
  refine r_aload_n C 1 rfl dX5_compose_10 rfl ?_
  replace h := bd_i h
  obtain ⟨w6, e7, h⟩ := h
  refine k_gR C e7 rfl inX5_ (by decide) flX5_10 dX5_compose_11 ?_
  refine r_iload_n C 3 rfl dX5_compose_14 rfl ?_
  refine r_iconst C (v := 3) dX5_compose_15 (by decide) ?_
  replace h := gd_t h
  obtain ⟨ho8, h⟩ := h
  obtain ⟨_, ho8⟩ := isO_s ho8
  replace h := bd_i h
  obtain ⟨r10, q9, h⟩ := h
  refine q_callV C 0 3 (64 * 3) (k_X3_row q9) rfl ho8 rfl okX3_row inX3_row lkX5_166 rfl (Nat.le_of_ble_eq_true rfl) ⟨by decide, by decide⟩ dX5_compose_16 (by omega) (by omega) ?_
  refine r_astoreq C (lv' := [(4, va_rf r10), (3, va_rf r5), (0, .ref l0), (1, .int l1), (2, .int l2)]) dX5_compose_19 (by decide) (by simp [rf_cat]) ?_
  refine r_aload_nq C 1 rfl dX5_compose_21 rfl ?_
  refine k_ifnull C (tgt := 30) dX5_compose_22 (by decide) (fun hx => ?_) (fun a11 hx => ?_)
  · subst hx
    replace h := oe_n rfl h
    refine r_bipush C (v := -2) dX5_compose_30 (by decide) ?_
    cases h
    exact r_ireturn C (Eq.symm hO) dX5_compose_32
  · subst hx
    replace h := oe_s rfl h
    refine r_aloadq C 0 rfl dX5_compose_25 ?_
    refine k_ifnonnull C (tgt := 33) dX5_compose_27 (by decide) (fun a12 hx => ?_) (fun hx => ?_)
    · subst hx
      replace h := oe_s rfl h
      refine r_aload_n C 2 rfl dX5_compose_33 rfl ?_
      refine r_iconst C (v := 3) dX5_compose_34 (by decide) ?_
      refine r_aload_n C 2 rfl dX5_compose_35 rfl ?_
      replace h := bd_i h
      obtain ⟨w13, e14, h⟩ := h
      refine k_gR C e14 rfl inX5_ (by decide) flX5_142 dX5_compose_36 ?_
      refine r_aload_n C 1 rfl dX5_compose_39 rfl ?_
      refine r_aload C 0 rfl dX5_compose_40 ?_
      replace h := gd_t h
      obtain ⟨ho15, h⟩ := h
      obtain ⟨_, ho15⟩ := isO_s ho15
      replace h := bd_i h
      obtain ⟨⟨r17, hp18, z19⟩, q16, h⟩ := h
      refine q_callV C 2 2 (64 * 2) (k_X2_product q16) rfl ho15 rfl okX2_product inX2_product lkX5_184 rfl (Nat.le_of_ble_eq_true rfl) ⟨by decide, by decide⟩ dX5_compose_42 (by omega) (by omega) ?_
      replace h := gd_t h
      obtain ⟨ho20, h⟩ := h
      obtain ⟨_, ho20⟩ := isO_s ho20
      replace h := bd_i h
      obtain ⟨⟨r22, hp23, z24⟩, q21, h⟩ := h
      refine q_callV C 0 0 (64 * 0) (k_X5_keep q21) rfl ho20 rfl okX5_keep inX5_keep lkX5_62 rfl (Nat.le_of_ble_eq_true rfl) ⟨by decide, by decide⟩ dX5_compose_45 (by omega) (by omega) ?_
      cases h
      exact r_ireturn C (Eq.symm hO) dX5_compose_48
    · subst hx
      replace h := oe_n rfl h
      refine r_bipush C (v := -2) dX5_compose_30 (by decide) ?_
      cases h
      exact r_ireturn C (Eq.symm hO) dX5_compose_32
noncomputable def f_X5_inverse (hp : cH) (sz : Nat) (l0 : Nat) (l1 : Int32) : Option (Int32 × cH × Nat) := (gR hp l0 5 0).bind fun w1 => if isO hp w1 3 = true then (f_X3_row hp w1 l1 ((3 : Int32))).bind fun r5 => Option.elim r5 (some ((-2 : Int32), hp, sz)) (fun a6 => (gR hp l0 5 8).bind fun w7 => if isO hp w7 2 = true then (f_X2_inverted hp sz w7 a6).bind fun (r11, hp12, z13) => if isO hp12 l0 5 = true then (f_X5_keep hp12 z13 l0 ((3 : Int32)) r11).bind fun (r16, hp17, z18) => some (r16, hp17, z18) else none else none) else none
set_option maxHeartbeats 4000000 in
set_option maxRecDepth 100000 in
theorem k_X5_inverse {G : gT} {hp : cH} {sz : Nat} {l0 : Nat} {l1 : Int32} {o0 : Int32} {oh : cH} {oz : Nat} (h : f_X5_inverse hp sz l0 l1 = some (o0, oh, oz)) : aM G yX5_inverse cX5_inverse 3 (some .int) 4 75 13 (64 * 13) [.ref l0, .int l1] hp sz ((some (.int o0), oh, oz) : oT) := by
  refine aM.of RX5 (by decide) rfl (Nat.le_of_ble_eq_true rfl) (fun K C => ?_)
  have hO : ((some (.int o0), oh, oz) : oT) = ((some (.int o0), oh, oz) : oT) := rfl
  refine r_lve (lv' := [(0, .ref l0), (1, .int l1)]) rfl ?_
  unfold f_X5_inverse at h
  refine r_aload_n C 0 rfl dX5_inverse_0 rfl ?_
  replace h := bd_i h
  obtain ⟨w1, e2, h⟩ := h
  refine k_gR C e2 rfl inX5_ (by decide) flX5_10 dX5_inverse_1 ?_
  refine r_iload_n C 1 rfl dX5_inverse_4 rfl ?_
  refine r_iconst C (v := 3) dX5_inverse_5 (by decide) ?_
  replace h := gd_t h
  obtain ⟨ho3, h⟩ := h
  obtain ⟨_, ho3⟩ := isO_s ho3
  replace h := bd_i h
  obtain ⟨r5, q4, h⟩ := h
  refine q_callV C 0 13 (64 * 13) (k_X3_row q4) rfl ho3 rfl okX3_row inX3_row lkX5_166 rfl (Nat.le_of_ble_eq_true rfl) ⟨by decide, by decide⟩ dX5_inverse_6 (by omega) (by omega) ?_
  refine r_astore_nq C (lv' := [(2, va_rf r5), (0, .ref l0), (1, .int l1)]) dX5_inverse_9 rfl (by decide) rfl ?_
  refine r_aload_nq C 0 rfl dX5_inverse_10 rfl ?_
  refine k_ifnonnull C (tgt := 19) dX5_inverse_11 (by decide) (fun a6 hx => ?_) (fun hx => ?_)
  · subst hx
    replace h := oe_s rfl h
    refine r_aload_n C 1 rfl dX5_inverse_19 rfl ?_
    refine r_iconst C (v := 3) dX5_inverse_20 (by decide) ?_
    refine r_aload_n C 1 rfl dX5_inverse_21 rfl ?_
    replace h := bd_i h
    obtain ⟨w7, e8, h⟩ := h
    refine k_gR C e8 rfl inX5_ (by decide) flX5_142 dX5_inverse_22 ?_
    refine r_aload_n C 0 rfl dX5_inverse_25 rfl ?_
    replace h := gd_t h
    obtain ⟨ho9, h⟩ := h
    obtain ⟨_, ho9⟩ := isO_s ho9
    replace h := bd_i h
    obtain ⟨⟨r11, hp12, z13⟩, q10, h⟩ := h
    refine q_callV C 2 2 (64 * 2) (k_X2_inverted q10) rfl ho9 rfl okX2_inverted inX2_inverted lkX5_180 rfl (Nat.le_of_ble_eq_true rfl) ⟨by decide, by decide⟩ dX5_inverse_26 (by omega) (by omega) ?_
    replace h := gd_t h
    obtain ⟨ho14, h⟩ := h
    obtain ⟨_, ho14⟩ := isO_s ho14
    replace h := bd_i h
    obtain ⟨⟨r16, hp17, z18⟩, q15, h⟩ := h
    refine q_callV C 0 0 (64 * 0) (k_X5_keep q15) rfl ho14 rfl okX5_keep inX5_keep lkX5_62 rfl (Nat.le_of_ble_eq_true rfl) ⟨by decide, by decide⟩ dX5_inverse_29 (by omega) (by omega) ?_
    cases h
    exact r_ireturn C (Eq.symm hO) dX5_inverse_32
  · subst hx
    replace h := oe_n rfl h
    refine r_bipush C (v := -2) dX5_inverse_14 (by decide) ?_
    refine r_goto C (tgt := 32) dX5_inverse_16 (by decide) ?_
    cases h
    exact r_ireturn C (Eq.symm hO) dX5_inverse_32
noncomputable def f_X2_framePoint (hp : cH) (sz : Nat) (l0 : Nat) (l1 : Int32) : Option (Nat × cH × Nat) := (gI hp l0 2 1).bind fun w1 => (nJ hp sz w1).bind fun hp3 => if l1 < 0 then ((f_J7_fill_d0a16 hp3 sz ((1 : Int64))).bind fun hp6 => some (sz, hp6, (sz + 1))) else ((gI hp3 l0 2 1).bind fun w7 => if w7 ≤ l1 then ((f_J7_fill_d0a16 hp3 sz ((1 : Int64))).bind fun hp10 => some (sz, hp10, (sz + 1))) else ((sJ hp3 sz l1 ((1 : Int64))).bind fun hp11 => some (sz, hp11, (sz + 1))))
set_option maxHeartbeats 4000000 in
set_option maxRecDepth 100000 in
theorem k_X2_framePoint {G : gT} {hp : cH} {sz : Nat} {l0 : Nat} {l1 : Int32} {o0 : Nat} {oh : cH} {oz : Nat} (h : f_X2_framePoint hp sz l0 l1 = some (o0, oh, oz)) : aM G yX2_framePoint cX2_framePoint 3 (some (.array .long)) 1 16 1 (64 * 1) [.ref l0, .int l1] hp sz ((some (.ref o0), oh, oz) : oT) := by
  refine aM.of RX2 (by decide) rfl (Nat.le_of_ble_eq_true rfl) (fun K C => ?_)
  have hO : ((some (.ref o0), oh, oz) : oT) = ((some (.ref o0), oh, oz) : oT) := rfl
  refine r_lve (lv' := [(0, .ref l0), (1, .int l1)]) rfl ?_
  unfold f_X2_framePoint at h
  refine r_aload_n C 0 rfl dX2_framePoint_0 rfl ?_
  replace h := bd_i h
  obtain ⟨w1, e2, h⟩ := h
  refine k_gI C e2 rfl inX2_ (by decide) flX2_13 dX2_framePoint_1 ?_
  replace h := bd_i h
  obtain ⟨hp3, e4, h⟩ := h
  refine k_nJ C 0 e4 dX2_framePoint_4 (by omega) ?_
  refine r_astore_n C (lv' := [(2, .ref sz), (0, .ref l0), (1, .int l1)]) dX2_framePoint_6 rfl (by decide) rfl ?_
  refine r_iload_n C 2 rfl dX2_framePoint_7 rfl ?_
  refine r_if_lt C (tgt := 26) dX2_framePoint_8 (by decide) (fun hc => ?_) (fun hc => ?_)
  · replace h := br_p hc h
    refine r_aload_n C 0 rfl dX2_framePoint_26 rfl ?_
    refine r_lconst C (v := 1) dX2_framePoint_27 (by decide) ?_
    replace h := bd_i h
    obtain ⟨hp6, q5, h⟩ := h
    refine q_callSv C 0 0 (64 * 0) (k_J7_fill_d0a16 q5) rfl okJ7_fill_d0a16 inJ7_fill_d0a16 lkX2_85 rfl (Nat.le_of_ble_eq_true rfl) ⟨by decide, by decide⟩ dX2_framePoint_28 (by omega) (by omega) ?_
    refine r_aload_n C 0 rfl dX2_framePoint_31 rfl ?_
    cases h
    exact r_areturnA C (Or.inr ⟨_, rfl⟩) (Eq.symm hO) dX2_framePoint_32
  · replace h := br_n hc h
    refine r_iload_n C 2 rfl dX2_framePoint_11 rfl ?_
    refine r_aload_n C 1 rfl dX2_framePoint_12 rfl ?_
    replace h := bd_i h
    obtain ⟨w7, e8, h⟩ := h
    refine k_gI C e8 rfl inX2_ (by decide) flX2_13 dX2_framePoint_13 ?_
    refine r_icmp_ge C (tgt := 26) dX2_framePoint_16 (by decide) (fun hc => ?_) (fun hc => ?_)
    · replace h := br_p hc h
      refine r_aload_n C 0 rfl dX2_framePoint_26 rfl ?_
      refine r_lconst C (v := 1) dX2_framePoint_27 (by decide) ?_
      replace h := bd_i h
      obtain ⟨hp10, q9, h⟩ := h
      refine q_callSv C 0 0 (64 * 0) (k_J7_fill_d0a16 q9) rfl okJ7_fill_d0a16 inJ7_fill_d0a16 lkX2_85 rfl (Nat.le_of_ble_eq_true rfl) ⟨by decide, by decide⟩ dX2_framePoint_28 (by omega) (by omega) ?_
      refine r_aload_n C 0 rfl dX2_framePoint_31 rfl ?_
      cases h
      exact r_areturnA C (Or.inr ⟨_, rfl⟩) (Eq.symm hO) dX2_framePoint_32
    · replace h := br_n hc h
      refine r_aload_n C 0 rfl dX2_framePoint_19 rfl ?_
      refine r_iload_n C 2 rfl dX2_framePoint_20 rfl ?_
      refine r_lconst C (v := 1) dX2_framePoint_21 (by decide) ?_
      replace h := bd_i h
      obtain ⟨hp11, e12, h⟩ := h
      refine k_sJ C e12 dX2_framePoint_22 ?_
      refine r_goto C (tgt := 31) dX2_framePoint_23 (by decide) ?_
      refine r_aload_n C 0 rfl dX2_framePoint_31 rfl ?_
      cases h
      exact r_areturnA C (Or.inr ⟨_, rfl⟩) (Eq.symm hO) dX2_framePoint_32
