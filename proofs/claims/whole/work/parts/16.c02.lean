noncomputable def f_X4_skew_L32 (l0 : Nat) (l1 : Nat) (l2 : Nat) (l4 : Int32) (l3 : Int32) (l5 : Int32) (hp : cH) : Option ((Int32 × Int32 × cH) ⊕ (Int32 × cH)) := (gI hp l0 4 2).bind fun w9 => if w9 ≤ l5 then (some (.inr (l3, hp))) else ((gI hp l0 4 2).bind fun w11 => (lJ hp l1 l3).bind fun w13 => (sJ hp l2 ((l4 * w11) + l5) w13).bind fun hp15 => (gI hp15 l0 4 2).bind fun w17 => (gR hp15 l0 4 1).bind fun w19 => (lJ hp15 l1 l3).bind fun w21 => if isO hp15 w19 0 = true then (f_X0_negative hp15 w19 w21).bind fun r25 => (sJ hp15 l2 ((l5 * w17) + l4) r25).bind fun hp26 => some (.inl (l3 + 1, l5 + 1, hp26)) else none)
noncomputable def f_X4_skew_L17 (l0 : Nat) (l1 : Nat) (l2 : Nat) (l3 : Int32) (l4 : Int32) (hp : cH) : Option ((Int32 × Int32 × cH) ⊕ cH) := (gI hp l0 4 2).bind fun w7 => if w7 ≤ l4 then (some (.inr hp)) else ((itX (fun s => f_X4_skew_L32 l0 l1 l2 l4 s.1 s.2.1 s.2.2) (l3, l4 + ((1 : Int32)), hp)).bind fun (y28, hp29) => some (.inl (y28, l4 + 1, hp29)))
noncomputable def f_X4_skew (hp : cH) (sz : Nat) (l0 : Nat) (l1 : Nat) : Option (Nat × cH × Nat) := (gI hp l0 4 2).bind fun w1 => (gI hp l0 4 2).bind fun w3 => (nJ hp sz (w1 * w3)).bind fun hp5 => (itX (fun s => f_X4_skew_L17 l0 l1 sz s.1 s.2.1 s.2.2) ((0 : Int32), (0 : Int32), hp5)).bind fun hp31 => some (sz, hp31, (sz + 1))
set_option maxHeartbeats 4000000 in
set_option maxRecDepth 100000 in
theorem w_X4_skew_L32 {K : kT} {O : oT} (C : aC K cX4_skew RX4 "skew" 1 16 1 (64 * 1) 6 (some (.array .long)) O) {hp : cH} {sz rc : Nat} {l0 : Nat} {l1 : Nat} {l2 : Nat} {l3 : Int32} {l4 : Int32} {l5 : Int32} {e3 : Int32} {eh : cH} (h : itX (fun s => f_X4_skew_L32 l0 l1 l2 l4 s.1 s.2.1 s.2.2) (l3, l5, hp) = some (e3, eh)) (hr : aW K eh sz rc (64 * rc) 87 [(0, .ref l0), (1, .ref l1), (2, .ref l2), (3, .int e3), (4, .int l4)] []) : aW K hp sz rc (64 * rc) 32 [(0, .ref l0), (1, .ref l1), (2, .ref l2), (3, .int l3), (4, .int l4), (5, .int l5)] [] := by
  refine it_walk (f := fun s => f_X4_skew_L32 l0 l1 l2 l4 s.1 s.2.1 s.2.2) (P := fun s => aW K s.2.2 sz rc (64 * rc) 32 [(0, .ref l0), (1, .ref l1), (2, .ref l2), (3, .int s.1), (4, .int l4), (5, .int s.2.1)] []) (R := fun r => aW K r.2 sz rc (64 * rc) 87 [(0, .ref l0), (1, .ref l1), (2, .ref l2), (3, .int r.1), (4, .int l4)] []) ?_ h hr
  clear h hr
  rintro ⟨l3, l5, hp⟩ x h kl kr
  show aW K hp sz rc (64 * rc) 32 [(0, .ref l0), (1, .ref l1), (2, .ref l2), (3, .int l3), (4, .int l4), (5, .int l5)] []
  replace h : f_X4_skew_L32 l0 l1 l2 l4 l3 l5 hp = some x := h
  unfold f_X4_skew_L32 at h
  refine r_iload C 5 rfl dX4_skew_32 ?_
  refine r_aload_n C 0 rfl dX4_skew_34 rfl ?_
  replace h := bd_i h
  obtain ⟨w9, e10, h⟩ := h
  refine k_gI C e10 rfl inX4_ (by decide) flX4_26 dX4_skew_35 ?_
  refine r_icmp_ge C (tgt := 87) dX4_skew_38 (by decide) (fun hc => ?_) (fun hc => ?_)
  · replace h := br_p hc h
    refine r_lv (lv' := [(0, .ref l0), (1, .ref l1), (2, .ref l2), (3, .int l3), (4, .int l4)]) [0, 1, 2, 3, 4] rfl ?_
    exact kr _ (sm_i h)
  · replace h := br_n hc h
    refine r_aload_n C 2 rfl dX4_skew_41 rfl ?_
    refine r_iload C 4 rfl dX4_skew_42 ?_
    refine r_aload_n C 0 rfl dX4_skew_44 rfl ?_
    replace h := bd_i h
    obtain ⟨w11, e12, h⟩ := h
    refine k_gI C e12 rfl inX4_ (by decide) flX4_26 dX4_skew_45 ?_
    refine r_imul C dX4_skew_48 ?_
    refine r_iload C 5 rfl dX4_skew_49 ?_
    refine r_iadd C dX4_skew_51 ?_
    refine r_aload_n C 1 rfl dX4_skew_52 rfl ?_
    refine r_iload_n C 3 rfl dX4_skew_53 rfl ?_
    replace h := bd_i h
    obtain ⟨w13, e14, h⟩ := h
    refine k_lJ C e14 dX4_skew_54 ?_
    replace h := bd_i h
    obtain ⟨hp15, e16, h⟩ := h
    refine k_sJ C e16 dX4_skew_55 ?_
    refine r_aload_n C 2 rfl dX4_skew_56 rfl ?_
    refine r_iload C 5 rfl dX4_skew_57 ?_
    refine r_aload_n C 0 rfl dX4_skew_59 rfl ?_
    replace h := bd_i h
    obtain ⟨w17, e18, h⟩ := h
    refine k_gI C e18 rfl inX4_ (by decide) flX4_26 dX4_skew_60 ?_
    refine r_imul C dX4_skew_63 ?_
    refine r_iload C 4 rfl dX4_skew_64 ?_
    refine r_iadd C dX4_skew_66 ?_
    refine r_aload_n C 0 rfl dX4_skew_67 rfl ?_
    replace h := bd_i h
    obtain ⟨w19, e20, h⟩ := h
    refine k_gR C e20 rfl inX4_ (by decide) flX4_21 dX4_skew_68 ?_
    refine r_aload_n C 1 rfl dX4_skew_71 rfl ?_
    refine r_iload_n C 3 rfl dX4_skew_72 rfl ?_
    replace h := bd_i h
    obtain ⟨w21, e22, h⟩ := h
    refine k_lJ C e22 dX4_skew_73 ?_
    replace h := gd_t h
    obtain ⟨ho23, h⟩ := h
    obtain ⟨_, ho23⟩ := isO_s ho23
    replace h := bd_i h
    obtain ⟨r25, q24, h⟩ := h
    refine q_callV C 2 rc (64 * rc) (k_X0_negative q24) rfl ho23 rfl okX0_negative inX0_negative lkX4_36 rfl (Nat.le_of_ble_eq_true rfl) ⟨by decide, by decide⟩ dX4_skew_74 (by omega) (by omega) ?_
    replace h := bd_i h
    obtain ⟨hp26, e27, h⟩ := h
    refine k_sJ C e27 dX4_skew_77 ?_
    refine r_iinc C (v := l3 + 1) (lv' := [(3, .int (l3 + 1)), (0, .ref l0), (1, .ref l1), (2, .ref l2), (4, .int l4), (5, .int l5)]) 3 rfl dX4_skew_78 rfl (by decide) rfl ?_
    refine r_iinc C (v := l5 + 1) (lv' := [(5, .int (l5 + 1)), (3, .int (l3 + 1)), (0, .ref l0), (1, .ref l1), (2, .ref l2), (4, .int l4)]) 5 rfl dX4_skew_81 rfl (by decide) rfl ?_
    refine r_goto C (tgt := 32) dX4_skew_84 (by decide) ?_
    refine r_lv (lv' := [(0, .ref l0), (1, .ref l1), (2, .ref l2), (3, .int (l3 + 1)), (4, .int l4), (5, .int (l5 + 1))]) [2, 3, 4, 1, 5, 0] rfl ?_
    exact kl _ (sm_i h)
set_option maxHeartbeats 4000000 in
set_option maxRecDepth 100000 in
theorem w_X4_skew_L17 {K : kT} {O : oT} (C : aC K cX4_skew RX4 "skew" 1 16 1 (64 * 1) 6 (some (.array .long)) O) {hp : cH} {sz rc : Nat} {l0 : Nat} {l1 : Nat} {l2 : Nat} {l3 : Int32} {l4 : Int32} {eh : cH} (h : itX (fun s => f_X4_skew_L17 l0 l1 l2 s.1 s.2.1 s.2.2) (l3, l4, hp) = some eh) (hr : aW K eh sz rc (64 * rc) 93 [(2, .ref l2)] []) : aW K hp sz rc (64 * rc) 17 [(0, .ref l0), (1, .ref l1), (2, .ref l2), (3, .int l3), (4, .int l4)] [] := by
  refine it_walk (f := fun s => f_X4_skew_L17 l0 l1 l2 s.1 s.2.1 s.2.2) (P := fun s => aW K s.2.2 sz rc (64 * rc) 17 [(0, .ref l0), (1, .ref l1), (2, .ref l2), (3, .int s.1), (4, .int s.2.1)] []) (R := fun r => aW K r sz rc (64 * rc) 93 [(2, .ref l2)] []) ?_ h hr
  clear h hr
  rintro ⟨l3, l4, hp⟩ x h kl kr
  show aW K hp sz rc (64 * rc) 17 [(0, .ref l0), (1, .ref l1), (2, .ref l2), (3, .int l3), (4, .int l4)] []
  replace h : f_X4_skew_L17 l0 l1 l2 l3 l4 hp = some x := h
  unfold f_X4_skew_L17 at h
  refine r_iload C 4 rfl dX4_skew_17 ?_
  refine r_aload_n C 0 rfl dX4_skew_19 rfl ?_
  replace h := bd_i h
  obtain ⟨w7, e8, h⟩ := h
  refine k_gI C e8 rfl inX4_ (by decide) flX4_26 dX4_skew_20 ?_
  refine r_icmp_ge C (tgt := 93) dX4_skew_23 (by decide) (fun hc => ?_) (fun hc => ?_)
  · replace h := br_p hc h
    refine r_lv (lv' := [(2, .ref l2)]) [2] rfl ?_
    exact kr _ (sm_i h)
  · replace h := br_n hc h
    refine r_iload C 4 rfl dX4_skew_26 ?_
    refine r_iconst C (v := 1) dX4_skew_28 (by decide) ?_
    refine r_iadd C dX4_skew_29 ?_
    refine r_istore C (lv' := [(5, .int (l4 + ((1 : Int32)))), (0, .ref l0), (1, .ref l1), (2, .ref l2), (3, .int l3), (4, .int l4)]) dX4_skew_30 (by decide) rfl ?_
    refine r_lv (lv' := [(0, .ref l0), (1, .ref l1), (2, .ref l2), (3, .int l3), (4, .int l4), (5, .int (l4 + ((1 : Int32))))]) [1, 2, 3, 4, 5, 0] rfl ?_
    replace h := bd_i h
    obtain ⟨⟨y28, hp29⟩, q30, h⟩ := h
    refine w_X4_skew_L32 C  q30 ?_
    refine r_iinc C (v := l4 + 1) (lv' := [(4, .int (l4 + 1)), (0, .ref l0), (1, .ref l1), (2, .ref l2), (3, .int y28)]) 4 rfl dX4_skew_87 rfl (by decide) rfl ?_
    refine r_goto C (tgt := 17) dX4_skew_90 (by decide) ?_
    refine r_lv (lv' := [(0, .ref l0), (1, .ref l1), (2, .ref l2), (3, .int y28), (4, .int (l4 + 1))]) [1, 2, 3, 4, 0] rfl ?_
    exact kl _ (sm_i h)
set_option maxHeartbeats 4000000 in
set_option maxRecDepth 100000 in
theorem k_X4_skew {G : gT} {hp : cH} {sz : Nat} {l0 : Nat} {l1 : Nat} {o0 : Nat} {oh : cH} {oz : Nat} (h : f_X4_skew hp sz l0 l1 = some (o0, oh, oz)) : aM G yX4_skew cX4_skew 6 (some (.array .long)) 1 16 1 (64 * 1) [.ref l0, .ref l1] hp sz ((some (.ref o0), oh, oz) : oT) := by
  refine aM.of RX4 (by decide) rfl (Nat.le_of_ble_eq_true rfl) (fun K C => ?_)
  have hO : ((some (.ref o0), oh, oz) : oT) = ((some (.ref o0), oh, oz) : oT) := rfl
  refine r_lve (lv' := [(0, .ref l0), (1, .ref l1)]) rfl ?_
  unfold f_X4_skew at h
  refine r_aload_n C 0 rfl dX4_skew_0 rfl ?_
  replace h := bd_i h
  obtain ⟨w1, e2, h⟩ := h
  refine k_gI C e2 rfl inX4_ (by decide) flX4_26 dX4_skew_1 ?_
  refine r_aload_n C 0 rfl dX4_skew_4 rfl ?_
  replace h := bd_i h
  obtain ⟨w3, e4, h⟩ := h
  refine k_gI C e4 rfl inX4_ (by decide) flX4_26 dX4_skew_5 ?_
  refine r_imul C dX4_skew_8 ?_
  replace h := bd_i h
  obtain ⟨hp5, e6, h⟩ := h
  refine k_nJ C 0 e6 dX4_skew_9 (by omega) ?_
  refine r_astore_n C (lv' := [(2, .ref sz), (0, .ref l0), (1, .ref l1)]) dX4_skew_11 rfl (by decide) rfl ?_
  refine r_iconst C (v := 0) dX4_skew_12 (by decide) ?_
  refine r_istore_n C (lv' := [(3, .int ((0 : Int32))), (2, .ref sz), (0, .ref l0), (1, .ref l1)]) dX4_skew_13 rfl (by decide) rfl ?_
  refine r_iconst C (v := 0) dX4_skew_14 (by decide) ?_
  refine r_istore C (lv' := [(4, .int ((0 : Int32))), (3, .int ((0 : Int32))), (2, .ref sz), (0, .ref l0), (1, .ref l1)]) dX4_skew_15 (by decide) rfl ?_
  refine r_lv (lv' := [(0, .ref l0), (1, .ref l1), (2, .ref sz), (3, .int ((0 : Int32))), (4, .int ((0 : Int32)))]) [3, 4, 2, 1, 0] rfl ?_
  replace h := bd_i h
  obtain ⟨hp31, q32, h⟩ := h
  refine w_X4_skew_L17 C  q32 ?_
  refine r_aload_n C 0 rfl dX4_skew_93 rfl ?_
  cases h
  exact r_areturnA C (Or.inr ⟨_, rfl⟩) (Eq.symm hO) dX4_skew_94
noncomputable def f_X2_imageInto_L18 (hp : cH) (l0 : Nat) (l2 : Nat) (l3 : Nat) (l4 : Int32) (l5 : Int64) (l7 : Int32) : Option ((Int64 × Int32) ⊕ Int64) := (gI hp l0 2 1).bind fun w3 => if w3 ≤ l7 then (some (.inr l5)) else ((gR hp l0 2 0).bind fun w5 => (gR hp l0 2 0).bind fun w7 => (gI hp l0 2 1).bind fun w9 => (lJ hp l2 ((l4 * w9) + l7)).bind fun w11 => (lJ hp l3 l7).bind fun w13 => if isO hp w7 0 = true then (f_X0_times hp w7 w11 w13).bind fun r17 => if isO hp w5 0 = true then (f_X0_plus hp w5 l5 r17).bind fun r20 => some (.inl (r20, l7 + 1)) else none else none)
noncomputable def f_X2_imageInto_L3 (l0 : Nat) (l1 : Nat) (l2 : Nat) (l3 : Nat) (l4 : Int32) (hp : cH) : Option ((Int32 × cH) ⊕ cH) := (gI hp l0 2 1).bind fun w1 => if w1 ≤ l4 then (some (.inr hp)) else ((itX (fun s => f_X2_imageInto_L18 hp l0 l2 l3 l4 s.1 s.2) ((0 : Int64), (0 : Int32))).bind fun y21 => (sJ hp l1 l4 y21).bind fun hp23 => some (.inl (l4 + 1, hp23)))
noncomputable def f_X2_imageInto (hp : cH) (l0 : Nat) (l1 : Nat) (l2 : Nat) (l3 : Nat) : Option cH := (itX (fun s => f_X2_imageInto_L3 l0 l1 l2 l3 s.1 s.2) ((0 : Int32), hp)).bind fun hp25 => some hp25
set_option maxHeartbeats 4000000 in
set_option maxRecDepth 100000 in
theorem w_X2_imageInto_L18 {K : kT} {O : oT} (C : aC K cX2_imageInto RX2 "imageInto" 1 19 0 (64 * 0) 8 none O) {hp : cH} {sz : Nat} {l0 : Nat} {l1 : Nat} {l2 : Nat} {l3 : Nat} {l4 : Int32} {l5 : Int64} {l7 : Int32} {e5 : Int64} (h : itX (fun s => f_X2_imageInto_L18 hp l0 l2 l3 l4 s.1 s.2) (l5, l7) = some e5) (hr : aW K hp sz 0 (64 * 0) 67 [(0, .ref l0), (1, .ref l1), (2, .ref l2), (3, .ref l3), (4, .int l4), (5, .long e5)] []) : aW K hp sz 0 (64 * 0) 18 [(0, .ref l0), (1, .ref l1), (2, .ref l2), (3, .ref l3), (4, .int l4), (5, .long l5), (7, .int l7)] [] := by
  refine it_walk (f := fun s => f_X2_imageInto_L18 hp l0 l2 l3 l4 s.1 s.2) (P := fun s => aW K hp sz 0 (64 * 0) 18 [(0, .ref l0), (1, .ref l1), (2, .ref l2), (3, .ref l3), (4, .int l4), (5, .long s.1), (7, .int s.2)] []) (R := fun r => aW K hp sz 0 (64 * 0) 67 [(0, .ref l0), (1, .ref l1), (2, .ref l2), (3, .ref l3), (4, .int l4), (5, .long r)] []) ?_ h hr
  clear h hr
  rintro ⟨l5, l7⟩ x h kl kr
  show aW K hp sz 0 (64 * 0) 18 [(0, .ref l0), (1, .ref l1), (2, .ref l2), (3, .ref l3), (4, .int l4), (5, .long l5), (7, .int l7)] []
  replace h : f_X2_imageInto_L18 hp l0 l2 l3 l4 l5 l7 = some x := h
  unfold f_X2_imageInto_L18 at h
  refine r_iload C 6 rfl dX2_imageInto_18 ?_
  refine r_aload_n C 0 rfl dX2_imageInto_20 rfl ?_
  replace h := bd_i h
  obtain ⟨w3, e4, h⟩ := h
  refine k_gI C e4 rfl inX2_ (by decide) flX2_13 dX2_imageInto_21 ?_
  refine r_icmp_ge C (tgt := 67) dX2_imageInto_24 (by decide) (fun hc => ?_) (fun hc => ?_)
  · replace h := br_p hc h
    refine r_lv (lv' := [(0, .ref l0), (1, .ref l1), (2, .ref l2), (3, .ref l3), (4, .int l4), (5, .long l5)]) [0, 1, 2, 3, 4, 5] rfl ?_
    exact kr _ (sm_i h)
  · replace h := br_n hc h
    refine r_aload_n C 0 rfl dX2_imageInto_27 rfl ?_
    replace h := bd_i h
    obtain ⟨w5, e6, h⟩ := h
    refine k_gR C e6 rfl inX2_ (by decide) flX2_7 dX2_imageInto_28 ?_
    refine r_lload C 5 rfl dX2_imageInto_31 ?_
    refine r_aload_n C 0 rfl dX2_imageInto_33 rfl ?_
    replace h := bd_i h
    obtain ⟨w7, e8, h⟩ := h
    refine k_gR C e8 rfl inX2_ (by decide) flX2_7 dX2_imageInto_34 ?_
    refine r_aload_n C 2 rfl dX2_imageInto_37 rfl ?_
    refine r_iload C 4 rfl dX2_imageInto_38 ?_
    refine r_aload_n C 0 rfl dX2_imageInto_40 rfl ?_
    replace h := bd_i h
    obtain ⟨w9, e10, h⟩ := h
    refine k_gI C e10 rfl inX2_ (by decide) flX2_13 dX2_imageInto_41 ?_
    refine r_imul C dX2_imageInto_44 ?_
    refine r_iload C 6 rfl dX2_imageInto_45 ?_
    refine r_iadd C dX2_imageInto_47 ?_
    replace h := bd_i h
    obtain ⟨w11, e12, h⟩ := h
    refine k_lJ C e12 dX2_imageInto_48 ?_
    refine r_aload_n C 3 rfl dX2_imageInto_49 rfl ?_
    refine r_iload C 6 rfl dX2_imageInto_50 ?_
    replace h := bd_i h
    obtain ⟨w13, e14, h⟩ := h
    refine k_lJ C e14 dX2_imageInto_52 ?_
    replace h := gd_t h
    obtain ⟨ho15, h⟩ := h
    obtain ⟨_, ho15⟩ := isO_s ho15
    replace h := bd_i h
    obtain ⟨r17, q16, h⟩ := h
    refine q_callV C 3 0 (64 * 0) (k_X0_times q16) rfl ho15 rfl okX0_times inX0_times lkX2_37 rfl (Nat.le_of_ble_eq_true rfl) ⟨by decide, by decide⟩ dX2_imageInto_53 (by omega) (by omega) ?_
    replace h := gd_t h
    obtain ⟨ho18, h⟩ := h
    obtain ⟨_, ho18⟩ := isO_s ho18
    replace h := bd_i h
    obtain ⟨r20, q19, h⟩ := h
    refine q_callV C 0 0 (64 * 0) (k_X0_plus q19) rfl ho18 rfl okX0_plus inX0_plus lkX2_41 rfl (Nat.le_of_ble_eq_true rfl) ⟨by decide, by decide⟩ dX2_imageInto_56 (by omega) (by omega) ?_
    refine r_lstore C (lv' := [(5, .long r20), (0, .ref l0), (1, .ref l1), (2, .ref l2), (3, .ref l3), (4, .int l4), (7, .int l7)]) dX2_imageInto_59 (by decide) rfl ?_
    refine r_iinc C (v := l7 + 1) (lv' := [(7, .int (l7 + 1)), (5, .long r20), (0, .ref l0), (1, .ref l1), (2, .ref l2), (3, .ref l3), (4, .int l4)]) 6 rfl dX2_imageInto_61 rfl (by decide) rfl ?_
    refine r_goto C (tgt := 18) dX2_imageInto_64 (by decide) ?_
    refine r_lv (lv' := [(0, .ref l0), (1, .ref l1), (2, .ref l2), (3, .ref l3), (4, .int l4), (5, .long r20), (7, .int (l7 + 1))]) [2, 3, 4, 5, 6, 1, 0] rfl ?_
    exact kl _ (sm_i h)
set_option maxHeartbeats 4000000 in
set_option maxRecDepth 100000 in
theorem w_X2_imageInto_L3 {K : kT} {O : oT} (C : aC K cX2_imageInto RX2 "imageInto" 1 19 0 (64 * 0) 8 none O) {hp : cH} {sz : Nat} {l0 : Nat} {l1 : Nat} {l2 : Nat} {l3 : Nat} {l4 : Int32} {eh : cH} (h : itX (fun s => f_X2_imageInto_L3 l0 l1 l2 l3 s.1 s.2) (l4, hp) = some eh) (hr : aW K eh sz 0 (64 * 0) 79 [] []) : aW K hp sz 0 (64 * 0) 3 [(0, .ref l0), (1, .ref l1), (2, .ref l2), (3, .ref l3), (4, .int l4)] [] := by
  refine it_walk (f := fun s => f_X2_imageInto_L3 l0 l1 l2 l3 s.1 s.2) (P := fun s => aW K s.2 sz 0 (64 * 0) 3 [(0, .ref l0), (1, .ref l1), (2, .ref l2), (3, .ref l3), (4, .int s.1)] []) (R := fun r => aW K r sz 0 (64 * 0) 79 [] []) ?_ h hr
  clear h hr
  rintro ⟨l4, hp⟩ x h kl kr
  show aW K hp sz 0 (64 * 0) 3 [(0, .ref l0), (1, .ref l1), (2, .ref l2), (3, .ref l3), (4, .int l4)] []
  replace h : f_X2_imageInto_L3 l0 l1 l2 l3 l4 hp = some x := h
  unfold f_X2_imageInto_L3 at h
  refine r_iload C 4 rfl dX2_imageInto_3 ?_
  refine r_aload_n C 0 rfl dX2_imageInto_5 rfl ?_
  replace h := bd_i h
  obtain ⟨w1, e2, h⟩ := h
  refine k_gI C e2 rfl inX2_ (by decide) flX2_13 dX2_imageInto_6 ?_
  refine r_icmp_ge C (tgt := 79) dX2_imageInto_9 (by decide) (fun hc => ?_) (fun hc => ?_)
  · replace h := br_p hc h
    refine r_lv (lv' := []) [] rfl ?_
    exact kr _ (sm_i h)
  · replace h := br_n hc h
    refine r_lconst C (v := 0) dX2_imageInto_12 (by decide) ?_
    refine r_lstore C (lv' := [(5, .long ((0 : Int64))), (0, .ref l0), (1, .ref l1), (2, .ref l2), (3, .ref l3), (4, .int l4)]) dX2_imageInto_13 (by decide) rfl ?_
    refine r_iconst C (v := 0) dX2_imageInto_15 (by decide) ?_
    refine r_istore C (lv' := [(7, .int ((0 : Int32))), (5, .long ((0 : Int64))), (0, .ref l0), (1, .ref l1), (2, .ref l2), (3, .ref l3), (4, .int l4)]) dX2_imageInto_16 (by decide) rfl ?_
    refine r_lv (lv' := [(0, .ref l0), (1, .ref l1), (2, .ref l2), (3, .ref l3), (4, .int l4), (5, .long ((0 : Int64))), (7, .int ((0 : Int32)))]) [2, 3, 4, 5, 6, 1, 0] rfl ?_
    replace h := bd_i h
    obtain ⟨y21, q22, h⟩ := h
    refine w_X2_imageInto_L18 C  q22 ?_
    refine r_aload_n C 1 rfl dX2_imageInto_67 rfl ?_
    refine r_iload C 4 rfl dX2_imageInto_68 ?_
    refine r_lload C 5 rfl dX2_imageInto_70 ?_
    replace h := bd_i h
    obtain ⟨hp23, e24, h⟩ := h
    refine k_sJ C e24 dX2_imageInto_72 ?_
    refine r_iinc C (v := l4 + 1) (lv' := [(4, .int (l4 + 1)), (0, .ref l0), (1, .ref l1), (2, .ref l2), (3, .ref l3), (5, .long y21)]) 4 rfl dX2_imageInto_73 rfl (by decide) rfl ?_
    refine r_goto C (tgt := 3) dX2_imageInto_76 (by decide) ?_
    refine r_lv (lv' := [(0, .ref l0), (1, .ref l1), (2, .ref l2), (3, .ref l3), (4, .int (l4 + 1))]) [1, 2, 3, 4, 0] rfl ?_
    exact kl _ (sm_i h)
set_option maxHeartbeats 4000000 in
set_option maxRecDepth 100000 in
theorem k_X2_imageInto {G : gT} {hp : cH} {sz : Nat} {l0 : Nat} {l1 : Nat} {l2 : Nat} {l3 : Nat} {oh : cH} (h : f_X2_imageInto hp l0 l1 l2 l3 = some oh) : aM G yX2_imageInto cX2_imageInto 8 none 1 19 0 (64 * 0) [.ref l0, .ref l1, .ref l2, .ref l3] hp sz ((none, oh, sz) : oT) := by
  refine aM.of RX2 (by decide) rfl (Nat.le_of_ble_eq_true rfl) (fun K C => ?_)
  have hO : ((none, oh, sz) : oT) = ((none, oh, sz) : oT) := rfl
  refine r_lve (lv' := [(0, .ref l0), (1, .ref l1), (2, .ref l2), (3, .ref l3)]) rfl ?_
  unfold f_X2_imageInto at h
  refine r_iconst C (v := 0) dX2_imageInto_0 (by decide) ?_
  refine r_istore C (lv' := [(4, .int ((0 : Int32))), (0, .ref l0), (1, .ref l1), (2, .ref l2), (3, .ref l3)]) dX2_imageInto_1 (by decide) rfl ?_
  refine r_lv (lv' := [(0, .ref l0), (1, .ref l1), (2, .ref l2), (3, .ref l3), (4, .int ((0 : Int32)))]) [1, 2, 3, 4, 0] rfl ?_
  replace h := bd_i h
  obtain ⟨hp25, q26, h⟩ := h
  refine w_X2_imageInto_L3 C  q26 ?_
  cases h
  exact r_return C (Eq.symm hO) dX2_imageInto_79
noncomputable def f_X2_image (hp : cH) (sz : Nat) (l0 : Nat) (l1 : Nat) (l2 : Nat) : Option (Nat × cH × Nat) := (gI hp l0 2 1).bind fun w1 => (nJ hp sz w1).bind fun hp3 => if isO hp3 l0 2 = true then (f_X2_imageInto hp3 l0 sz l1 l2).bind fun hp7 => some (sz, hp7, (sz + 1)) else none
set_option maxHeartbeats 4000000 in
set_option maxRecDepth 100000 in
theorem k_X2_image {G : gT} {hp : cH} {sz : Nat} {l0 : Nat} {l1 : Nat} {l2 : Nat} {o0 : Nat} {oh : cH} {oz : Nat} (h : f_X2_image hp sz l0 l1 l2 = some (o0, oh, oz)) : aM G yX2_image cX2_image 4 (some (.array .long)) 2 38 1 (64 * 1) [.ref l0, .ref l1, .ref l2] hp sz ((some (.ref o0), oh, oz) : oT) := by
  refine aM.of RX2 (by decide) rfl (Nat.le_of_ble_eq_true rfl) (fun K C => ?_)
  have hO : ((some (.ref o0), oh, oz) : oT) = ((some (.ref o0), oh, oz) : oT) := rfl
  refine r_lve (lv' := [(0, .ref l0), (1, .ref l1), (2, .ref l2)]) rfl ?_
  unfold f_X2_image at h
  refine r_aload_n C 0 rfl dX2_image_0 rfl ?_
  replace h := bd_i h
  obtain ⟨w1, e2, h⟩ := h
  refine k_gI C e2 rfl inX2_ (by decide) flX2_13 dX2_image_1 ?_
  replace h := bd_i h
  obtain ⟨hp3, e4, h⟩ := h
  refine k_nJ C 0 e4 dX2_image_4 (by omega) ?_
  refine r_astore_n C (lv' := [(3, .ref sz), (0, .ref l0), (1, .ref l1), (2, .ref l2)]) dX2_image_6 rfl (by decide) rfl ?_
  refine r_aload_n C 1 rfl dX2_image_7 rfl ?_
  refine r_aload_n C 0 rfl dX2_image_8 rfl ?_
  refine r_aload_n C 2 rfl dX2_image_9 rfl ?_
  refine r_aload_n C 3 rfl dX2_image_10 rfl ?_
  replace h := gd_t h
  obtain ⟨ho5, h⟩ := h
  obtain ⟨_, ho5⟩ := isO_s ho5
  replace h := bd_i h
  obtain ⟨hp7, q6, h⟩ := h
  refine q_callVv C 0 0 (64 * 0) (k_X2_imageInto q6) rfl ho5 rfl okX2_imageInto inX2_imageInto lkX2_44 rfl (Nat.le_of_ble_eq_true rfl) ⟨by decide, by decide⟩ dX2_image_11 (by omega) (by omega) ?_
  refine r_aload_n C 0 rfl dX2_image_14 rfl ?_
  cases h
  exact r_areturnA C (Or.inr ⟨_, rfl⟩) (Eq.symm hO) dX2_image_15
noncomputable def f_X4_planeThrough (hp : cH) (sz : Nat) (l0 : Nat) (l1 : Nat) (l2 : Nat) : Option (Nat × cH × Nat) := (gR hp l0 4 0).bind fun w1 => if isO hp l0 4 = true then (f_X4_flipped hp sz l0 l1).bind fun (r5, hp6, z7) => if isO hp6 l0 4 = true then (f_X4_skew hp6 z7 l0 r5).bind fun (r10, hp11, z12) => if isO hp11 w1 2 = true then (f_X2_image hp11 z12 w1 r10 l2).bind fun (r15, hp16, z17) => some (r15, hp16, z17) else none else none else none
set_option maxHeartbeats 4000000 in
set_option maxRecDepth 100000 in
theorem k_X4_planeThrough {G : gT} {hp : cH} {sz : Nat} {l0 : Nat} {l1 : Nat} {l2 : Nat} {o0 : Nat} {oh : cH} {oz : Nat} (h : f_X4_planeThrough hp sz l0 l1 l2 = some (o0, oh, oz)) : aM G yX4_planeThrough cX4_planeThrough 3 (some (.array .long)) 3 53 3 (64 * 3) [.ref l0, .ref l1, .ref l2] hp sz ((some (.ref o0), oh, oz) : oT) := by
  refine aM.of RX4 (by decide) rfl (Nat.le_of_ble_eq_true rfl) (fun K C => ?_)
  have hO : ((some (.ref o0), oh, oz) : oT) = ((some (.ref o0), oh, oz) : oT) := rfl
  refine r_lve (lv' := [(0, .ref l0), (1, .ref l1), (2, .ref l2)]) rfl ?_
  unfold f_X4_planeThrough at h
  refine r_aload_n C 0 rfl dX4_planeThrough_0 rfl ?_
  replace h := bd_i h
  obtain ⟨w1, e2, h⟩ := h
  refine k_gR C e2 rfl inX4_ (by decide) flX4_9 dX4_planeThrough_1 ?_
  refine r_aload_n C 0 rfl dX4_planeThrough_4 rfl ?_
  refine r_aload_n C 0 rfl dX4_planeThrough_5 rfl ?_
  refine r_aload_n C 1 rfl dX4_planeThrough_6 rfl ?_
  replace h := gd_t h
  obtain ⟨ho3, h⟩ := h
  obtain ⟨_, ho3⟩ := isO_s ho3
  replace h := bd_i h
  obtain ⟨⟨r5, hp6, z7⟩, q4, h⟩ := h
  refine q_callV C 2 2 (64 * 2) (k_X4_flipped q4) rfl ho3 rfl okX4_flipped inX4_flipped lkX4_48 rfl (Nat.le_of_ble_eq_true rfl) ⟨by decide, by decide⟩ dX4_planeThrough_7 (by omega) (by omega) ?_
  replace h := gd_t h
  obtain ⟨ho8, h⟩ := h
  obtain ⟨_, ho8⟩ := isO_s ho8
  replace h := bd_i h
  obtain ⟨⟨r10, hp11, z12⟩, q9, h⟩ := h
  refine q_callV C 1 1 (64 * 1) (k_X4_skew q9) rfl ho8 rfl okX4_skew inX4_skew lkX4_52 rfl (Nat.le_of_ble_eq_true rfl) ⟨by decide, by decide⟩ dX4_planeThrough_10 (by omega) (by omega) ?_
  refine r_aload_n C 2 rfl dX4_planeThrough_13 rfl ?_
  replace h := gd_t h
  obtain ⟨ho13, h⟩ := h
  obtain ⟨_, ho13⟩ := isO_s ho13
  replace h := bd_i h
  obtain ⟨⟨r15, hp16, z17⟩, q14, h⟩ := h
  refine q_callV C 0 0 (64 * 0) (k_X2_image q14) rfl ho13 rfl okX2_image inX2_image lkX4_55 rfl (Nat.le_of_ble_eq_true rfl) ⟨by decide, by decide⟩ dX4_planeThrough_14 (by omega) (by omega) ?_
  cases h
  exact r_areturnA C (Or.inr ⟨_, rfl⟩) (Eq.symm hO) dX4_planeThrough_17
noncomputable def f_X4_lineOf_L11 (l0 : Nat) (l1 : Nat) (l2 : Int32) (l3 : Int64) (l5 : Nat) (l6 : Int32) (hp : cH) : Option ((Int32 × cH) ⊕ cH) := (gI hp l0 4 2).bind fun w5 => if w5 ≤ l6 then (some (.inr hp)) else ((gR hp l0 4 1).bind fun w7 => (gI hp l0 4 2).bind fun w9 => (lJ hp l1 ((l2 * w9) + l6)).bind fun w11 => if isO hp w7 0 = true then (f_X0_times hp w7 l3 w11).bind fun r15 => (sJ hp l5 l6 r15).bind fun hp16 => some (.inl (l6 + 1, hp16)) else none)
noncomputable def f_X4_lineOf (hp : cH) (sz : Nat) (l0 : Nat) (l1 : Nat) (l2 : Int32) (l3 : Int64) : Option (Nat × cH × Nat) := (gI hp l0 4 2).bind fun w1 => (nJ hp sz w1).bind fun hp3 => (itX (fun s => f_X4_lineOf_L11 l0 l1 l2 l3 sz s.1 s.2) ((0 : Int32), hp3)).bind fun hp18 => some (sz, hp18, (sz + 1))
set_option maxHeartbeats 4000000 in
set_option maxRecDepth 100000 in
theorem w_X4_lineOf_L11 {K : kT} {O : oT} (C : aC K cX4_lineOf RX4 "lineOf" 1 18 1 (64 * 1) 7 (some (.array .long)) O) {hp : cH} {sz rc : Nat} {l0 : Nat} {l1 : Nat} {l2 : Int32} {l3 : Int64} {l5 : Nat} {l6 : Int32} {eh : cH} (h : itX (fun s => f_X4_lineOf_L11 l0 l1 l2 l3 l5 s.1 s.2) (l6, hp) = some eh) (hr : aW K eh sz rc (64 * rc) 50 [(5, .ref l5)] []) : aW K hp sz rc (64 * rc) 11 [(0, .ref l0), (1, .ref l1), (2, .int l2), (3, .long l3), (5, .ref l5), (6, .int l6)] [] := by
  refine it_walk (f := fun s => f_X4_lineOf_L11 l0 l1 l2 l3 l5 s.1 s.2) (P := fun s => aW K s.2 sz rc (64 * rc) 11 [(0, .ref l0), (1, .ref l1), (2, .int l2), (3, .long l3), (5, .ref l5), (6, .int s.1)] []) (R := fun r => aW K r sz rc (64 * rc) 50 [(5, .ref l5)] []) ?_ h hr
  clear h hr
  rintro ⟨l6, hp⟩ x h kl kr
  show aW K hp sz rc (64 * rc) 11 [(0, .ref l0), (1, .ref l1), (2, .int l2), (3, .long l3), (5, .ref l5), (6, .int l6)] []
  replace h : f_X4_lineOf_L11 l0 l1 l2 l3 l5 l6 hp = some x := h
  unfold f_X4_lineOf_L11 at h
  refine r_iload C 5 rfl dX4_lineOf_11 ?_
  refine r_aload_n C 0 rfl dX4_lineOf_13 rfl ?_
  replace h := bd_i h
  obtain ⟨w5, e6, h⟩ := h
  refine k_gI C e6 rfl inX4_ (by decide) flX4_26 dX4_lineOf_14 ?_
  refine r_icmp_ge C (tgt := 50) dX4_lineOf_17 (by decide) (fun hc => ?_) (fun hc => ?_)
  · replace h := br_p hc h
    refine r_lv (lv' := [(5, .ref l5)]) [4] rfl ?_
    exact kr _ (sm_i h)
  · replace h := br_n hc h
    refine r_aload C 4 rfl dX4_lineOf_20 ?_
    refine r_iload C 5 rfl dX4_lineOf_22 ?_
    refine r_aload_n C 0 rfl dX4_lineOf_24 rfl ?_
    replace h := bd_i h
    obtain ⟨w7, e8, h⟩ := h
    refine k_gR C e8 rfl inX4_ (by decide) flX4_21 dX4_lineOf_25 ?_
    refine r_lload_n C 3 rfl dX4_lineOf_28 rfl ?_
    refine r_aload_n C 1 rfl dX4_lineOf_29 rfl ?_
    refine r_iload_n C 2 rfl dX4_lineOf_30 rfl ?_
    refine r_aload_n C 0 rfl dX4_lineOf_31 rfl ?_
    replace h := bd_i h
    obtain ⟨w9, e10, h⟩ := h
    refine k_gI C e10 rfl inX4_ (by decide) flX4_26 dX4_lineOf_32 ?_
    refine r_imul C dX4_lineOf_35 ?_
    refine r_iload C 5 rfl dX4_lineOf_36 ?_
    refine r_iadd C dX4_lineOf_38 ?_
    replace h := bd_i h
    obtain ⟨w11, e12, h⟩ := h
    refine k_lJ C e12 dX4_lineOf_39 ?_
    replace h := gd_t h
    obtain ⟨ho13, h⟩ := h
    obtain ⟨_, ho13⟩ := isO_s ho13
    replace h := bd_i h
    obtain ⟨r15, q14, h⟩ := h
    refine q_callV C 2 rc (64 * rc) (k_X0_times q14) rfl ho13 rfl okX0_times inX0_times lkX4_27 rfl (Nat.le_of_ble_eq_true rfl) ⟨by decide, by decide⟩ dX4_lineOf_40 (by omega) (by omega) ?_
    replace h := bd_i h
    obtain ⟨hp16, e17, h⟩ := h
    refine k_sJ C e17 dX4_lineOf_43 ?_
    refine r_iinc C (v := l6 + 1) (lv' := [(6, .int (l6 + 1)), (0, .ref l0), (1, .ref l1), (2, .int l2), (3, .long l3), (5, .ref l5)]) 5 rfl dX4_lineOf_44 rfl (by decide) rfl ?_
    refine r_goto C (tgt := 11) dX4_lineOf_47 (by decide) ?_
    refine r_lv (lv' := [(0, .ref l0), (1, .ref l1), (2, .int l2), (3, .long l3), (5, .ref l5), (6, .int (l6 + 1))]) [1, 2, 3, 4, 5, 0] rfl ?_
    exact kl _ (sm_i h)
set_option maxHeartbeats 4000000 in
set_option maxRecDepth 100000 in
theorem k_X4_lineOf {G : gT} {hp : cH} {sz : Nat} {l0 : Nat} {l1 : Nat} {l2 : Int32} {l3 : Int64} {o0 : Nat} {oh : cH} {oz : Nat} (h : f_X4_lineOf hp sz l0 l1 l2 l3 = some (o0, oh, oz)) : aM G yX4_lineOf cX4_lineOf 7 (some (.array .long)) 1 18 1 (64 * 1) [.ref l0, .ref l1, .int l2, .long l3] hp sz ((some (.ref o0), oh, oz) : oT) := by
  refine aM.of RX4 (by decide) rfl (Nat.le_of_ble_eq_true rfl) (fun K C => ?_)
  have hO : ((some (.ref o0), oh, oz) : oT) = ((some (.ref o0), oh, oz) : oT) := rfl
  refine r_lve (lv' := [(0, .ref l0), (1, .ref l1), (2, .int l2), (3, .long l3)]) rfl ?_
  unfold f_X4_lineOf at h
  refine r_aload_n C 0 rfl dX4_lineOf_0 rfl ?_
  replace h := bd_i h
  obtain ⟨w1, e2, h⟩ := h
  refine k_gI C e2 rfl inX4_ (by decide) flX4_26 dX4_lineOf_1 ?_
  replace h := bd_i h
  obtain ⟨hp3, e4, h⟩ := h
  refine k_nJ C 0 e4 dX4_lineOf_4 (by omega) ?_
  refine r_astore C (lv' := [(5, .ref sz), (0, .ref l0), (1, .ref l1), (2, .int l2), (3, .long l3)]) dX4_lineOf_6 (by decide) rfl ?_
  refine r_iconst C (v := 0) dX4_lineOf_8 (by decide) ?_
  refine r_istore C (lv' := [(6, .int ((0 : Int32))), (5, .ref sz), (0, .ref l0), (1, .ref l1), (2, .int l2), (3, .long l3)]) dX4_lineOf_9 (by decide) rfl ?_
  refine r_lv (lv' := [(0, .ref l0), (1, .ref l1), (2, .int l2), (3, .long l3), (5, .ref sz), (6, .int ((0 : Int32)))]) [2, 3, 4, 5, 1, 0] rfl ?_
  replace h := bd_i h
  obtain ⟨hp18, q19, h⟩ := h
  refine w_X4_lineOf_L11 C  q19 ?_
  refine r_aload C 0 rfl dX4_lineOf_50 ?_
  cases h
  exact r_areturnA C (Or.inr ⟨_, rfl⟩) (Eq.symm hO) dX4_lineOf_52
noncomputable def f_X4_baseOfWedge_L21 (l0 : Nat) (l2 : Nat) (l3 : Int32) (l4 : Int32) (hp : cH) (sz : Nat) (rc : Nat) : Option ((Int32 × cH × Nat × Nat) ⊕ ((cH × Nat × Nat) ⊕ (Nat × cH × Nat))) := (gI hp l0 4 2).bind fun w8 => if w8 ≤ l4 then (some (.inr (.inl (hp, sz, rc)))) else ((gI hp l0 4 2).bind fun w10 => (lJ hp l2 ((l3 * w10) + l4)).bind fun w12 => if w12 = ((0 : Int64)) then (some (.inl (l4 + 1, hp, sz, rc))) else ((gR hp l0 4 1).bind fun w14 => if isO hp w14 0 = true then (f_X0_reciprocal hp w14 w12).bind fun r18 => if 1 ≤ rc then (nR 3 hp sz ((2 : Int32))).bind fun hp19 => (gR hp19 l0 4 1).bind fun w21 => if isO hp19 w21 0 = true then (f_X0_negative hp19 w21 r18).bind fun r25 => if isO hp19 l0 4 = true then if 1 ≤ (rc - 1) then (f_X4_lineOf hp19 ((sz + 1)) l0 l2 l4 r25).bind fun (r28, hp29, z30) => (sR 3 hp29 sz ((0 : Int32)) r28).bind fun hp31 => if isO hp31 l0 4 = true then if 1 ≤ ((rc - 1) - 1) then (f_X4_lineOf hp31 z30 l0 l2 l3 r18).bind fun (r35, hp36, z37) => (sR 3 hp36 sz ((1 : Int32)) r35).bind fun hp38 => some (.inr (.inr (sz, hp38, z37))) else none else none else none else none else none else none else none))
noncomputable def f_X4_baseOfWedge_L8 (l0 : Nat) (l2 : Nat) (l3 : Int32) (hp : cH) (sz : Nat) (rc : Nat) : Option ((Int32 × cH × Nat × Nat) ⊕ ((cH × Nat × Nat) ⊕ (Nat × cH × Nat))) := (gI hp l0 4 2).bind fun w6 => if w6 ≤ l3 then (some (.inr (.inl (hp, sz, rc)))) else ((itX (fun s => f_X4_baseOfWedge_L21 l0 l2 l3 s.1 s.2.1 s.2.2.1 s.2.2.2) (l3 + ((1 : Int32)), hp, sz, rc)).bind fun r44 => match r44 with | .inl (hp40, z41, rc42) => (some (.inl (l3 + 1, hp40, z41, rc42))) | .inr o45 => some (.inr (.inr o45)))
noncomputable def f_X4_baseOfWedge (hp : cH) (sz : Nat) (l0 : Nat) (l1 : Nat) : Option (Nat × cH × Nat) := if isO hp l0 4 = true then (f_X4_skew hp sz l0 l1).bind fun (r3, hp4, z5) => (itX (fun s => f_X4_baseOfWedge_L8 l0 r3 s.1 s.2.1 s.2.2.1 s.2.2.2) ((0 : Int32), hp4, z5, 13)).bind fun r50 => match r50 with | .inl (hp46, z47, rc48) => ((gI hp46 l0 4 2).bind fun w52 => if 10 ≤ rc48 then (nM hp46 z47 ((2 : Int32)) w52).bind fun (hp54, z55) => some (z47, hp54, z55) else none) | .inr o51 => some o51 else none
set_option maxHeartbeats 4000000 in
set_option maxRecDepth 100000 in
theorem w_X4_baseOfWedge_L21 {K : kT} {O : oT} (C : aC K cX4_baseOfWedge RX4 "baseOfWedge" 2 39 14 (64 * 14) 9 (some (.array (.array .long))) O) {hp : cH} {sz rc : Nat} {l0 : Nat} {l2 : Nat} {l3 : Int32} {l4 : Int32} {r : ((cH × Nat × Nat) ⊕ (Nat × cH × Nat))} (h : itX (fun s => f_X4_baseOfWedge_L21 l0 l2 l3 s.1 s.2.1 s.2.2.1 s.2.2.2) (l4, hp, sz, rc) = some r) (hr : Sum.elim (fun r => aW K r.1 r.2.1 r.2.2 (64 * r.2.2) 102 [(0, .ref l0), (2, .ref l2), (3, .int l3)] []) (fun o => ((some (.ref o.1), o.2.1, o.2.2) : oT) = O) r) : aW K hp sz rc (64 * rc) 21 [(0, .ref l0), (2, .ref l2), (3, .int l3), (4, .int l4)] [] := by
  refine it_walk (f := fun s => f_X4_baseOfWedge_L21 l0 l2 l3 s.1 s.2.1 s.2.2.1 s.2.2.2) (P := fun s => aW K s.2.1 s.2.2.1 s.2.2.2 (64 * s.2.2.2) 21 [(0, .ref l0), (2, .ref l2), (3, .int l3), (4, .int s.1)] []) (R := fun r => Sum.elim (fun r => aW K r.1 r.2.1 r.2.2 (64 * r.2.2) 102 [(0, .ref l0), (2, .ref l2), (3, .int l3)] []) (fun o => ((some (.ref o.1), o.2.1, o.2.2) : oT) = O) r) ?_ h hr
  clear h hr
  rintro ⟨l4, hp, sz, rc⟩ x h kl kr
  show aW K hp sz rc (64 * rc) 21 [(0, .ref l0), (2, .ref l2), (3, .int l3), (4, .int l4)] []
  replace h : f_X4_baseOfWedge_L21 l0 l2 l3 l4 hp sz rc = some x := h
  unfold f_X4_baseOfWedge_L21 at h
  refine r_iload C 3 rfl dX4_baseOfWedge_21 ?_
  refine r_aload_n C 0 rfl dX4_baseOfWedge_23 rfl ?_
  replace h := bd_i h
  obtain ⟨w8, e9, h⟩ := h
  refine k_gI C e9 rfl inX4_ (by decide) flX4_26 dX4_baseOfWedge_24 ?_
  refine r_icmp_ge C (tgt := 102) dX4_baseOfWedge_27 (by decide) (fun hc => ?_) (fun hc => ?_)
  · replace h := br_p hc h
    refine r_lv (lv' := [(0, .ref l0), (2, .ref l2), (3, .int l3)]) [0, 1, 2] rfl ?_
    exact kr _ (sm_i h)
  · replace h := br_n hc h
    refine r_aload_n C 1 rfl dX4_baseOfWedge_30 rfl ?_
    refine r_iload_n C 2 rfl dX4_baseOfWedge_31 rfl ?_
    refine r_aload_n C 0 rfl dX4_baseOfWedge_32 rfl ?_
    replace h := bd_i h
    obtain ⟨w10, e11, h⟩ := h
    refine k_gI C e11 rfl inX4_ (by decide) flX4_26 dX4_baseOfWedge_33 ?_
    refine r_imul C dX4_baseOfWedge_36 ?_
    refine r_iload C 3 rfl dX4_baseOfWedge_37 ?_
    refine r_iadd C dX4_baseOfWedge_39 ?_
    replace h := bd_i h
    obtain ⟨w12, e13, h⟩ := h
    refine k_lJ C e13 dX4_baseOfWedge_40 ?_
    refine r_lstore C (lv' := [(5, .long w12), (0, .ref l0), (2, .ref l2), (3, .int l3), (4, .int l4)]) dX4_baseOfWedge_41 (by decide) rfl ?_
    refine r_lload C 0 rfl dX4_baseOfWedge_43 ?_
    refine r_lconst C (v := 0) dX4_baseOfWedge_45 (by decide) ?_
    refine r_leq C (tgt := 96) dX4_baseOfWedge_46 dX4_baseOfWedge_47 (by decide) (fun hc => ?_) (fun hc => ?_)
    · replace h := br_p hc h
      refine r_iinc C (v := l4 + 1) (lv' := [(4, .int (l4 + 1)), (5, .long w12), (0, .ref l0), (2, .ref l2), (3, .int l3)]) 4 rfl dX4_baseOfWedge_96 rfl (by decide) rfl ?_
      refine r_goto C (tgt := 21) dX4_baseOfWedge_99 (by decide) ?_
      refine r_lv (lv' := [(0, .ref l0), (2, .ref l2), (3, .int l3), (4, .int (l4 + 1))]) [2, 3, 4, 0] rfl ?_
      exact kl _ (sm_i h)
    · replace h := br_n hc h
      refine r_aload_n C 1 rfl dX4_baseOfWedge_50 rfl ?_
      replace h := bd_i h
      obtain ⟨w14, e15, h⟩ := h
      refine k_gR C e15 rfl inX4_ (by decide) flX4_21 dX4_baseOfWedge_51 ?_
      refine r_lload C 0 rfl dX4_baseOfWedge_54 ?_
      replace h := gd_t h
      obtain ⟨ho16, h⟩ := h
      obtain ⟨_, ho16⟩ := isO_s ho16
      replace h := bd_i h
      obtain ⟨r18, q17, h⟩ := h
      refine q_callV C 0 rc (64 * rc) (k_X0_reciprocal q17) rfl ho16 rfl okX0_reciprocal inX0_reciprocal lkX4_83 rfl (Nat.le_of_ble_eq_true rfl) ⟨by decide, by decide⟩ dX4_baseOfWedge_56 (by omega) (by omega) ?_
      refine r_lstore C (lv' := [(7, .long r18), (5, .long w12), (0, .ref l0), (2, .ref l2), (3, .int l3), (4, .int l4)]) dX4_baseOfWedge_59 (by decide) rfl ?_
      refine r_iconst C (v := 2) dX4_baseOfWedge_61 (by decide) ?_
      replace h := gd_t h
      obtain ⟨hrc, h⟩ := h
      replace h := bd_i h
      obtain ⟨hp19, e20, h⟩ := h
      refine k_nR3 C (rc - 1) cnX4_86 e20 dX4_baseOfWedge_62 (by omega) ?_
      refine r_dup C dX4_baseOfWedge_65 rfl ?_
      refine r_iconst C (v := 0) dX4_baseOfWedge_66 (by decide) ?_
      refine r_aload_n C 2 rfl dX4_baseOfWedge_67 rfl ?_
      refine r_aload_n C 3 rfl dX4_baseOfWedge_68 rfl ?_
      refine r_iload C 5 rfl dX4_baseOfWedge_69 ?_
      refine r_aload_n C 2 rfl dX4_baseOfWedge_71 rfl ?_
      replace h := bd_i h
      obtain ⟨w21, e22, h⟩ := h
      refine k_gR C e22 rfl inX4_ (by decide) flX4_21 dX4_baseOfWedge_72 ?_
      refine r_lload C 0 rfl dX4_baseOfWedge_75 ?_
      replace h := gd_t h
      obtain ⟨ho23, h⟩ := h
      obtain ⟨_, ho23⟩ := isO_s ho23
      replace h := bd_i h
      obtain ⟨r25, q24, h⟩ := h
      refine q_callV C 6 (rc - 1) (64 * (rc - 1)) (k_X0_negative q24) rfl ho23 rfl okX0_negative inX0_negative lkX4_36 rfl (Nat.le_of_ble_eq_true rfl) ⟨by decide, by decide⟩ dX4_baseOfWedge_77 (by omega) (by omega) ?_
      replace h := gd_t h
      obtain ⟨ho26, h⟩ := h
      obtain ⟨_, ho26⟩ := isO_s ho26
      replace h := gd_t h
      obtain ⟨hrc, h⟩ := h
      replace h := bd_i h
      obtain ⟨⟨r28, hp29, z30⟩, q27, h⟩ := h
      refine q_callV C 3 ((rc - 1) - 1) (64 * ((rc - 1) - 1)) (k_X4_lineOf q27) rfl ho26 rfl okX4_lineOf inX4_lineOf lkX4_88 rfl (Nat.le_of_ble_eq_true rfl) ⟨by decide, by decide⟩ dX4_baseOfWedge_80 (by omega) (by omega) ?_
      replace h := bd_i h
      obtain ⟨hp31, e32, h⟩ := h
      refine k_sR C (by decide) e32 dX4_baseOfWedge_83 ?_
      refine r_dup C dX4_baseOfWedge_84 rfl ?_
      refine r_iconst C (v := 1) dX4_baseOfWedge_85 (by decide) ?_
      refine r_aload_n C 2 rfl dX4_baseOfWedge_86 rfl ?_
      refine r_aload_n C 3 rfl dX4_baseOfWedge_87 rfl ?_
      refine r_iload_n C 4 rfl dX4_baseOfWedge_88 rfl ?_
      refine r_lload C 0 rfl dX4_baseOfWedge_89 ?_
      replace h := gd_t h
      obtain ⟨ho33, h⟩ := h
      obtain ⟨_, ho33⟩ := isO_s ho33
      replace h := gd_t h
      obtain ⟨hrc, h⟩ := h
      replace h := bd_i h
      obtain ⟨⟨r35, hp36, z37⟩, q34, h⟩ := h
      refine q_callV C 3 (((rc - 1) - 1) - 1) (64 * (((rc - 1) - 1) - 1)) (k_X4_lineOf q34) rfl ho33 rfl okX4_lineOf inX4_lineOf lkX4_88 rfl (Nat.le_of_ble_eq_true rfl) ⟨by decide, by decide⟩ dX4_baseOfWedge_91 (by omega) (by omega) ?_
      replace h := bd_i h
      obtain ⟨hp38, e39, h⟩ := h
      refine k_sR C (by decide) e39 dX4_baseOfWedge_94 ?_
      exact r_areturnA C (Or.inr ⟨_, rfl⟩) (Eq.symm (kr _ (sm_i h))) dX4_baseOfWedge_95
set_option maxHeartbeats 4000000 in
set_option maxRecDepth 100000 in
theorem w_X4_baseOfWedge_L8 {K : kT} {O : oT} (C : aC K cX4_baseOfWedge RX4 "baseOfWedge" 2 39 14 (64 * 14) 9 (some (.array (.array .long))) O) {hp : cH} {sz rc : Nat} {l0 : Nat} {l2 : Nat} {l3 : Int32} {r : ((cH × Nat × Nat) ⊕ (Nat × cH × Nat))} (h : itX (fun s => f_X4_baseOfWedge_L8 l0 l2 s.1 s.2.1 s.2.2.1 s.2.2.2) (l3, hp, sz, rc) = some r) (hr : Sum.elim (fun r => aW K r.1 r.2.1 r.2.2 (64 * r.2.2) 108 [(0, .ref l0)] []) (fun o => ((some (.ref o.1), o.2.1, o.2.2) : oT) = O) r) : aW K hp sz rc (64 * rc) 8 [(0, .ref l0), (2, .ref l2), (3, .int l3)] [] := by
  refine it_walk (f := fun s => f_X4_baseOfWedge_L8 l0 l2 s.1 s.2.1 s.2.2.1 s.2.2.2) (P := fun s => aW K s.2.1 s.2.2.1 s.2.2.2 (64 * s.2.2.2) 8 [(0, .ref l0), (2, .ref l2), (3, .int s.1)] []) (R := fun r => Sum.elim (fun r => aW K r.1 r.2.1 r.2.2 (64 * r.2.2) 108 [(0, .ref l0)] []) (fun o => ((some (.ref o.1), o.2.1, o.2.2) : oT) = O) r) ?_ h hr
  clear h hr
  rintro ⟨l3, hp, sz, rc⟩ x h kl kr
  show aW K hp sz rc (64 * rc) 8 [(0, .ref l0), (2, .ref l2), (3, .int l3)] []
  replace h : f_X4_baseOfWedge_L8 l0 l2 l3 hp sz rc = some x := h
  unfold f_X4_baseOfWedge_L8 at h
  refine r_iload_n C 2 rfl dX4_baseOfWedge_8 rfl ?_
  refine r_aload_n C 0 rfl dX4_baseOfWedge_9 rfl ?_
  replace h := bd_i h
  obtain ⟨w6, e7, h⟩ := h
  refine k_gI C e7 rfl inX4_ (by decide) flX4_26 dX4_baseOfWedge_10 ?_
  refine r_icmp_ge C (tgt := 108) dX4_baseOfWedge_13 (by decide) (fun hc => ?_) (fun hc => ?_)
  · replace h := br_p hc h
    refine r_lv (lv' := [(0, .ref l0)]) [0] rfl ?_
    exact kr _ (sm_i h)
  · replace h := br_n hc h
    refine r_iload_n C 2 rfl dX4_baseOfWedge_16 rfl ?_
    refine r_iconst C (v := 1) dX4_baseOfWedge_17 (by decide) ?_
    refine r_iadd C dX4_baseOfWedge_18 ?_
    refine r_istore C (lv' := [(4, .int (l3 + ((1 : Int32)))), (0, .ref l0), (2, .ref l2), (3, .int l3)]) dX4_baseOfWedge_19 (by decide) rfl ?_
    refine r_lv (lv' := [(0, .ref l0), (2, .ref l2), (3, .int l3), (4, .int (l3 + ((1 : Int32))))]) [1, 2, 3, 0] rfl ?_
    replace h := bd_i h
    obtain ⟨r44, q43, h⟩ := h
    rcases r44 with ⟨hp40, z41, rc42⟩ | o45
    · refine w_X4_baseOfWedge_L21 C  q43 ?_
      show aW K hp40 z41 rc42 (64 * rc42) 102 [(0, .ref l0), (2, .ref l2), (3, .int l3)] []
      refine r_iinc C (v := l3 + 1) (lv' := [(3, .int (l3 + 1)), (0, .ref l0), (2, .ref l2)]) 2 rfl dX4_baseOfWedge_102 rfl (by decide) rfl ?_
      refine r_goto C (tgt := 8) dX4_baseOfWedge_105 (by decide) ?_
      refine r_lv (lv' := [(0, .ref l0), (2, .ref l2), (3, .int (l3 + 1))]) [1, 2, 0] rfl ?_
      exact kl _ (sm_i h)
    · exact w_X4_baseOfWedge_L21 C  q43 (kr _ (sm_i h))
set_option maxHeartbeats 4000000 in
set_option maxRecDepth 100000 in
theorem k_X4_baseOfWedge {G : gT} {hp : cH} {sz : Nat} {l0 : Nat} {l1 : Nat} {o0 : Nat} {oh : cH} {oz : Nat} (h : f_X4_baseOfWedge hp sz l0 l1 = some (o0, oh, oz)) : aM G yX4_baseOfWedge cX4_baseOfWedge 9 (some (.array (.array .long))) 2 39 14 (64 * 14) [.ref l0, .ref l1] hp sz ((some (.ref o0), oh, oz) : oT) := by
  refine aM.of RX4 (by decide) rfl (Nat.le_of_ble_eq_true rfl) (fun K C => ?_)
  have hO : ((some (.ref o0), oh, oz) : oT) = ((some (.ref o0), oh, oz) : oT) := rfl
  refine r_lve (lv' := [(0, .ref l0), (1, .ref l1)]) rfl ?_
  unfold f_X4_baseOfWedge at h
  refine r_aload_n C 0 rfl dX4_baseOfWedge_0 rfl ?_
  refine r_aload_n C 1 rfl dX4_baseOfWedge_1 rfl ?_
  replace h := gd_t h
  obtain ⟨ho1, h⟩ := h
  obtain ⟨_, ho1⟩ := isO_s ho1
  replace h := bd_i h
  obtain ⟨⟨r3, hp4, z5⟩, q2, h⟩ := h
  refine q_callV C 0 13 (64 * 13) (k_X4_skew q2) rfl ho1 rfl okX4_skew inX4_skew lkX4_52 rfl (Nat.le_of_ble_eq_true rfl) ⟨by decide, by decide⟩ dX4_baseOfWedge_2 (by omega) (by omega) ?_
  refine r_astore_n C (lv' := [(2, .ref r3), (0, .ref l0), (1, .ref l1)]) dX4_baseOfWedge_5 rfl (by decide) rfl ?_
  refine r_iconst C (v := 0) dX4_baseOfWedge_6 (by decide) ?_
  refine r_istore_n C (lv' := [(3, .int ((0 : Int32))), (2, .ref r3), (0, .ref l0), (1, .ref l1)]) dX4_baseOfWedge_7 rfl (by decide) rfl ?_
  refine r_lv (lv' := [(0, .ref l0), (2, .ref r3), (3, .int ((0 : Int32)))]) [2, 1, 0] rfl ?_
  replace h := bd_i h
  obtain ⟨r50, q49, h⟩ := h
  rcases r50 with ⟨hp46, z47, rc48⟩ | o51
  · refine w_X4_baseOfWedge_L8 C  q49 ?_
    show aW K hp46 z47 rc48 (64 * rc48) 108 [(0, .ref l0)] []
    refine r_iconst C (v := 2) dX4_baseOfWedge_108 (by decide) ?_
    refine r_aload_n C 0 rfl dX4_baseOfWedge_109 rfl ?_
    replace h := bd_i h
    obtain ⟨w52, e53, h⟩ := h
    refine k_gI C e53 rfl inX4_ (by decide) flX4_26 dX4_baseOfWedge_110 ?_
    replace h := gd_t h
    obtain ⟨hrc, h⟩ := h
    replace h := bd_i h
    obtain ⟨⟨hp54, z55⟩, e56, h⟩ := h
    refine k_nMM C (rc48 - 10) cnX4_92 e56 dX4_baseOfWedge_113 (by omega) ?_
    cases h
    exact r_areturnA C (Or.inr ⟨_, rfl⟩) (Eq.symm hO) dX4_baseOfWedge_117
  · cases h
    exact w_X4_baseOfWedge_L8 C  q49 hO
noncomputable def f_X4_pointOnPlane (hp : cH) (sz : Nat) (l0 : Nat) (l1 : Nat) (l2 : Nat) : Option (Nat × cH × Nat) := (gR hp l0 4 0).bind fun w1 => if isO hp l0 4 = true then (f_X4_skew hp sz l0 l1).bind fun (r5, hp6, z7) => if isO hp6 w1 2 = true then (f_X2_image hp6 z7 w1 r5 l2).bind fun (r10, hp11, z12) => some (r10, hp11, z12) else none else none
set_option maxHeartbeats 4000000 in
set_option maxRecDepth 100000 in
theorem k_X4_pointOnPlane {G : gT} {hp : cH} {sz : Nat} {l0 : Nat} {l1 : Nat} {l2 : Nat} {o0 : Nat} {oh : cH} {oz : Nat} (h : f_X4_pointOnPlane hp sz l0 l1 l2 = some (o0, oh, oz)) : aM G yX4_pointOnPlane cX4_pointOnPlane 3 (some (.array .long)) 3 53 2 (64 * 2) [.ref l0, .ref l1, .ref l2] hp sz ((some (.ref o0), oh, oz) : oT) := by
  refine aM.of RX4 (by decide) rfl (Nat.le_of_ble_eq_true rfl) (fun K C => ?_)
  have hO : ((some (.ref o0), oh, oz) : oT) = ((some (.ref o0), oh, oz) : oT) := rfl
  refine r_lve (lv' := [(0, .ref l0), (1, .ref l1), (2, .ref l2)]) rfl ?_
  unfold f_X4_pointOnPlane at h
  refine r_aload_n C 0 rfl dX4_pointOnPlane_0 rfl ?_
  replace h := bd_i h
  obtain ⟨w1, e2, h⟩ := h
  refine k_gR C e2 rfl inX4_ (by decide) flX4_9 dX4_pointOnPlane_1 ?_
  refine r_aload_n C 0 rfl dX4_pointOnPlane_4 rfl ?_
  refine r_aload_n C 1 rfl dX4_pointOnPlane_5 rfl ?_
  replace h := gd_t h
  obtain ⟨ho3, h⟩ := h
  obtain ⟨_, ho3⟩ := isO_s ho3
  replace h := bd_i h
  obtain ⟨⟨r5, hp6, z7⟩, q4, h⟩ := h
  refine q_callV C 1 1 (64 * 1) (k_X4_skew q4) rfl ho3 rfl okX4_skew inX4_skew lkX4_52 rfl (Nat.le_of_ble_eq_true rfl) ⟨by decide, by decide⟩ dX4_pointOnPlane_6 (by omega) (by omega) ?_
  refine r_aload_n C 2 rfl dX4_pointOnPlane_9 rfl ?_
  replace h := gd_t h
  obtain ⟨ho8, h⟩ := h
  obtain ⟨_, ho8⟩ := isO_s ho8
  replace h := bd_i h
  obtain ⟨⟨r10, hp11, z12⟩, q9, h⟩ := h
  refine q_callV C 0 0 (64 * 0) (k_X2_image q9) rfl ho8 rfl okX2_image inX2_image lkX4_55 rfl (Nat.le_of_ble_eq_true rfl) ⟨by decide, by decide⟩ dX4_pointOnPlane_10 (by omega) (by omega) ?_
  cases h
  exact r_areturnA C (Or.inr ⟨_, rfl⟩) (Eq.symm hO) dX4_pointOnPlane_13
noncomputable def f_X4_pointOfLines_L24 (l0 : Nat) (l1 : Nat) (l3 : Nat) (l4 : Int32) (hp : cH) (sz : Nat) (rc : Nat) : Option ((Int32 × cH × Nat × Nat) ⊕ ((cH × Nat × Nat) ⊕ ((Option Nat) × cH × Nat))) := (aN hp l3).bind fun w16 => if w16 ≤ l4 then (some (.inr (.inl (hp, sz, rc)))) else ((lR 3 hp l3 l4).bind fun u18 => u18.bind fun a20 => if isO hp l0 4 = true then if 2 ≤ rc then (f_X4_pointOnPlane hp sz l0 l1 a20).bind fun (r24, hp25, z26) => (f_X2_isZero hp25 r24).bind fun r28 => if r28 = 0 then (some (.inr (.inr ((some r24), hp25, z26)))) else (some (.inl (l4 + 1, hp25, z26, (rc - 2)))) else none else none)
noncomputable def f_X4_pointOfLines (hp : cH) (sz : Nat) (l0 : Nat) (l1 : Nat) (l2 : Nat) : Option ((Option Nat) × cH × Nat) := if isO hp l0 4 = true then (f_X4_linesMeet hp sz l0 l1 l2).bind fun (r3, hp4, z5) => if r3 = 0 then (some (none, hp4, z5)) else (if isO hp4 l0 4 = true then (f_X4_flipped hp4 z5 l0 l2).bind fun (r8, hp9, z10) => if isO hp9 l0 4 = true then (f_X4_baseOfWedge hp9 z10 l0 r8).bind fun (r13, hp14, z15) => (itX (fun s => f_X4_pointOfLines_L24 l0 l1 r13 s.1 s.2.1 s.2.2.1 s.2.2.2) ((0 : Int32), hp14, z15, 4)).bind fun r33 => match r33 with | .inl (hp29, z30, rc31) => (some (none, hp29, z30)) | .inr o34 => some o34 else none else none) else none
set_option maxHeartbeats 4000000 in
set_option maxRecDepth 100000 in
theorem w_X4_pointOfLines_L24 {K : kT} {O : oT} (C : aC K cX4_pointOfLines RX4 "pointOfLines" 4 67 20 (64 * 20) 6 (some (.array .long)) O) {hp : cH} {sz rc : Nat} {l0 : Nat} {l1 : Nat} {l3 : Nat} {l4 : Int32} {r : ((cH × Nat × Nat) ⊕ ((Option Nat) × cH × Nat))} (h : itX (fun s => f_X4_pointOfLines_L24 l0 l1 l3 s.1 s.2.1 s.2.2.1 s.2.2.2) (l4, hp, sz, rc) = some r) (hr : Sum.elim (fun r => aW K r.1 r.2.1 r.2.2 (64 * r.2.2) 59 [] []) (fun o => ((some (va_rf o.1), o.2.1, o.2.2) : oT) = O) r) : aW K hp sz rc (64 * rc) 24 [(0, .ref l0), (1, .ref l1), (3, .ref l3), (4, .int l4)] [] := by
  refine it_walk (f := fun s => f_X4_pointOfLines_L24 l0 l1 l3 s.1 s.2.1 s.2.2.1 s.2.2.2) (P := fun s => aW K s.2.1 s.2.2.1 s.2.2.2 (64 * s.2.2.2) 24 [(0, .ref l0), (1, .ref l1), (3, .ref l3), (4, .int s.1)] []) (R := fun r => Sum.elim (fun r => aW K r.1 r.2.1 r.2.2 (64 * r.2.2) 59 [] []) (fun o => ((some (va_rf o.1), o.2.1, o.2.2) : oT) = O) r) ?_ h hr
  clear h hr
  rintro ⟨l4, hp, sz, rc⟩ x h kl kr
  show aW K hp sz rc (64 * rc) 24 [(0, .ref l0), (1, .ref l1), (3, .ref l3), (4, .int l4)] []
  replace h : f_X4_pointOfLines_L24 l0 l1 l3 l4 hp sz rc = some x := h
  unfold f_X4_pointOfLines_L24 at h
  refine r_iload C 3 rfl dX4_pointOfLines_24 ?_
  refine r_aload_n C 2 rfl dX4_pointOfLines_26 rfl ?_
  replace h := bd_i h
  obtain ⟨w16, e17, h⟩ := h
  refine k_alen C e17 dX4_pointOfLines_27 ?_
  refine r_icmp_ge C (tgt := 59) dX4_pointOfLines_28 (by decide) (fun hc => ?_) (fun hc => ?_)
  · replace h := br_p hc h
    refine r_lv (lv' := []) [] rfl ?_
    exact kr _ (sm_i h)
  · replace h := br_n hc h
    refine r_aload_n C 0 rfl dX4_pointOfLines_31 rfl ?_
    refine r_aload_n C 1 rfl dX4_pointOfLines_32 rfl ?_
    refine r_aload_n C 2 rfl dX4_pointOfLines_33 rfl ?_
    refine r_iload C 3 rfl dX4_pointOfLines_34 ?_
    replace h := bd_i h
    obtain ⟨u18, e19, h⟩ := h
    refine k_lR C (by decide) e19 dX4_pointOfLines_36 ?_
    replace h := bd_i h
    obtain ⟨a20, e21, h⟩ := h
    subst e21
    replace h := gd_t h
    obtain ⟨ho22, h⟩ := h
    obtain ⟨_, ho22⟩ := isO_s ho22
    replace h := gd_t h
    obtain ⟨hrc, h⟩ := h
    replace h := bd_i h
    obtain ⟨⟨r24, hp25, z26⟩, q23, h⟩ := h
    refine q_callV C 0 (rc - 2) (64 * (rc - 2)) (k_X4_pointOnPlane q23) rfl ho22 rfl okX4_pointOnPlane inX4_pointOnPlane lkX4_66 rfl (Nat.le_of_ble_eq_true rfl) ⟨by decide, by decide⟩ dX4_pointOfLines_37 (by omega) (by omega) ?_
    refine r_astore C (lv' := [(5, .ref r24), (0, .ref l0), (1, .ref l1), (3, .ref l3), (4, .int l4)]) dX4_pointOfLines_40 (by decide) rfl ?_
    refine r_aload C 0 rfl dX4_pointOfLines_42 ?_
    replace h := bd_i h
    obtain ⟨r28, q27, h⟩ := h
    refine q_callS C 0 (rc - 2) (64 * (rc - 2)) (k_X2_isZero q27) rfl okX2_isZero inX2_isZero lkX4_69 rfl (Nat.le_of_ble_eq_true rfl) ⟨by decide, by decide⟩ dX4_pointOfLines_44 (by omega) (by omega) ?_
    refine r_if_ne C (tgt := 53) dX4_pointOfLines_47 (by decide) (fun hc => ?_) (fun hc => ?_)
    · replace h := br_n hc h
      refine r_iinc C (v := l4 + 1) (lv' := [(4, .int (l4 + 1)), (5, .ref r24), (0, .ref l0), (1, .ref l1), (3, .ref l3)]) 4 rfl dX4_pointOfLines_53 rfl (by decide) rfl ?_
      refine r_goto C (tgt := 24) dX4_pointOfLines_56 (by decide) ?_
      refine r_lv (lv' := [(0, .ref l0), (1, .ref l1), (3, .ref l3), (4, .int (l4 + 1))]) [2, 3, 4, 0] rfl ?_
      exact kl _ (sm_i h)
    · replace h := br_p hc h
      refine r_aload C 0 rfl dX4_pointOfLines_50 ?_
      exact r_areturnA C (Or.inr ⟨_, rfl⟩) (Eq.symm (kr _ (sm_i h))) dX4_pointOfLines_52
set_option maxHeartbeats 4000000 in
set_option maxRecDepth 100000 in
theorem k_X4_pointOfLines {G : gT} {hp : cH} {sz : Nat} {l0 : Nat} {l1 : Nat} {l2 : Nat} {o0 : Option Nat} {oh : cH} {oz : Nat} (h : f_X4_pointOfLines hp sz l0 l1 l2 = some (o0, oh, oz)) : aM G yX4_pointOfLines cX4_pointOfLines 6 (some (.array .long)) 4 67 20 (64 * 20) [.ref l0, .ref l1, .ref l2] hp sz ((some (va_rf o0), oh, oz) : oT) := by
  refine aM.of RX4 (by decide) rfl (Nat.le_of_ble_eq_true rfl) (fun K C => ?_)
  have hO : ((some (va_rf o0), oh, oz) : oT) = ((some (va_rf o0), oh, oz) : oT) := rfl
  refine r_lve (lv' := [(0, .ref l0), (1, .ref l1), (2, .ref l2)]) rfl ?_
  unfold f_X4_pointOfLines at h
  refine r_aload_n C 0 rfl dX4_pointOfLines_0 rfl ?_
  refine r_aload_n C 1 rfl dX4_pointOfLines_1 rfl ?_
  refine r_aload_n C 2 rfl dX4_pointOfLines_2 rfl ?_
  replace h := gd_t h
  obtain ⟨ho1, h⟩ := h
  obtain ⟨_, ho1⟩ := isO_s ho1
  replace h := bd_i h
  obtain ⟨⟨r3, hp4, z5⟩, q2, h⟩ := h
  refine q_callV C 0 19 (64 * 19) (k_X4_linesMeet q2) rfl ho1 rfl okX4_linesMeet inX4_linesMeet lkX4_58 rfl (Nat.le_of_ble_eq_true rfl) ⟨by decide, by decide⟩ dX4_pointOfLines_3 (by omega) (by omega) ?_
  refine r_if_ne C (tgt := 11) dX4_pointOfLines_6 (by decide) (fun hc => ?_) (fun hc => ?_)
  · replace h := br_n hc h
    refine r_aload_n C 0 rfl dX4_pointOfLines_11 rfl ?_
    refine r_aload_n C 0 rfl dX4_pointOfLines_12 rfl ?_
    refine r_aload_n C 2 rfl dX4_pointOfLines_13 rfl ?_
    replace h := gd_t h
    obtain ⟨ho6, h⟩ := h
    obtain ⟨_, ho6⟩ := isO_s ho6
    replace h := bd_i h
    obtain ⟨⟨r8, hp9, z10⟩, q7, h⟩ := h
    refine q_callV C 1 18 (64 * 18) (k_X4_flipped q7) rfl ho6 rfl okX4_flipped inX4_flipped lkX4_48 rfl (Nat.le_of_ble_eq_true rfl) ⟨by decide, by decide⟩ dX4_pointOfLines_14 (by omega) (by omega) ?_
    replace h := gd_t h
    obtain ⟨ho11, h⟩ := h
    obtain ⟨_, ho11⟩ := isO_s ho11
    replace h := bd_i h
    obtain ⟨⟨r13, hp14, z15⟩, q12, h⟩ := h
    refine q_callV C 0 4 (64 * 4) (k_X4_baseOfWedge q12) rfl ho11 rfl okX4_baseOfWedge inX4_baseOfWedge lkX4_62 rfl (Nat.le_of_ble_eq_true rfl) ⟨by decide, by decide⟩ dX4_pointOfLines_17 (by omega) (by omega) ?_
    refine r_astore_n C (lv' := [(3, .ref r13), (0, .ref l0), (1, .ref l1), (2, .ref l2)]) dX4_pointOfLines_20 rfl (by decide) rfl ?_
    refine r_iconst C (v := 0) dX4_pointOfLines_21 (by decide) ?_
    refine r_istore C (lv' := [(4, .int ((0 : Int32))), (3, .ref r13), (0, .ref l0), (1, .ref l1), (2, .ref l2)]) dX4_pointOfLines_22 (by decide) rfl ?_
    refine r_lv (lv' := [(0, .ref l0), (1, .ref l1), (3, .ref r13), (4, .int ((0 : Int32)))]) [2, 3, 1, 0] rfl ?_
    replace h := bd_i h
    obtain ⟨r33, q32, h⟩ := h
    rcases r33 with ⟨hp29, z30, rc31⟩ | o34
    · refine w_X4_pointOfLines_L24 C  q32 ?_
      show aW K hp29 z30 rc31 (64 * rc31) 59 [] []
      refine r_null C dX4_pointOfLines_59 ?_
      cases h
      exact r_areturn C (Or.inr ⟨_, rfl⟩) (Eq.symm hO) dX4_pointOfLines_60
    · cases h
      exact w_X4_pointOfLines_L24 C  q32 hO
  · replace h := br_p hc h
    refine r_null C dX4_pointOfLines_9 ?_
    cases h
    exact r_areturn C (Or.inr ⟨_, rfl⟩) (Eq.symm hO) dX4_pointOfLines_10
noncomputable def f_X4_planeOfLines (hp : cH) (sz : Nat) (l0 : Nat) (l1 : Nat) (l2 : Nat) : Option ((Option Nat) × cH × Nat) := if isO hp l0 4 = true then (f_X4_flipped hp sz l0 l1).bind fun (r3, hp4, z5) => if isO hp4 l0 4 = true then (f_X4_flipped hp4 z5 l0 l2).bind fun (r8, hp9, z10) => if isO hp9 l0 4 = true then (f_X4_pointOfLines hp9 z10 l0 r3 r8).bind fun (r13, hp14, z15) => some (r13, hp14, z15) else none else none else none
set_option maxHeartbeats 4000000 in
set_option maxRecDepth 100000 in
theorem k_X4_planeOfLines {G : gT} {hp : cH} {sz : Nat} {l0 : Nat} {l1 : Nat} {l2 : Nat} {o0 : Option Nat} {oh : cH} {oz : Nat} (h : f_X4_planeOfLines hp sz l0 l1 l2 = some (o0, oh, oz)) : aM G yX4_planeOfLines cX4_planeOfLines 3 (some (.array .long)) 5 84 22 (64 * 22) [.ref l0, .ref l1, .ref l2] hp sz ((some (va_rf o0), oh, oz) : oT) := by
  refine aM.of RX4 (by decide) rfl (Nat.le_of_ble_eq_true rfl) (fun K C => ?_)
  have hO : ((some (va_rf o0), oh, oz) : oT) = ((some (va_rf o0), oh, oz) : oT) := rfl
  refine r_lve (lv' := [(0, .ref l0), (1, .ref l1), (2, .ref l2)]) rfl ?_
  unfold f_X4_planeOfLines at h
  refine r_aload_n C 0 rfl dX4_planeOfLines_0 rfl ?_
  refine r_aload_n C 0 rfl dX4_planeOfLines_1 rfl ?_
  refine r_aload_n C 1 rfl dX4_planeOfLines_2 rfl ?_
  replace h := gd_t h
  obtain ⟨ho1, h⟩ := h
  obtain ⟨_, ho1⟩ := isO_s ho1
  replace h := bd_i h
  obtain ⟨⟨r3, hp4, z5⟩, q2, h⟩ := h
  refine q_callV C 1 21 (64 * 21) (k_X4_flipped q2) rfl ho1 rfl okX4_flipped inX4_flipped lkX4_48 rfl (Nat.le_of_ble_eq_true rfl) ⟨by decide, by decide⟩ dX4_planeOfLines_3 (by omega) (by omega) ?_
  refine r_aload_n C 0 rfl dX4_planeOfLines_6 rfl ?_
  refine r_aload_n C 2 rfl dX4_planeOfLines_7 rfl ?_
  replace h := gd_t h
  obtain ⟨ho6, h⟩ := h
  obtain ⟨_, ho6⟩ := isO_s ho6
  replace h := bd_i h
  obtain ⟨⟨r8, hp9, z10⟩, q7, h⟩ := h
  refine q_callV C 2 20 (64 * 20) (k_X4_flipped q7) rfl ho6 rfl okX4_flipped inX4_flipped lkX4_48 rfl (Nat.le_of_ble_eq_true rfl) ⟨by decide, by decide⟩ dX4_planeOfLines_8 (by omega) (by omega) ?_
  replace h := gd_t h
  obtain ⟨ho11, h⟩ := h
  obtain ⟨_, ho11⟩ := isO_s ho11
  replace h := bd_i h
  obtain ⟨⟨r13, hp14, z15⟩, q12, h⟩ := h
  refine q_callV C 0 0 (64 * 0) (k_X4_pointOfLines q12) rfl ho11 rfl okX4_pointOfLines inX4_pointOfLines lkX4_73 rfl (Nat.le_of_ble_eq_true rfl) ⟨by decide, by decide⟩ dX4_planeOfLines_11 (by omega) (by omega) ?_
  cases h
  exact r_areturn C (Or.inr ⟨_, rfl⟩) (Eq.symm hO) dX4_planeOfLines_14
noncomputable def f_X5_join_J70 (hp : cH) (sz : Nat) (rc : Nat) (l0 : Nat) (l3 : Nat) (l4 : Nat) : Option (Int32 × cH × Nat) := (gI hp l0 5 5).bind fun w15 => if w15 = ((2 : Int32)) then (some ((-2 : Int32), hp, sz)) else ((gI hp l4 1 0).bind fun w17 => if w17 = ((1 : Int32)) then ((gI hp l3 1 0).bind fun w19 => if w19 = 0 then ((gR hp l0 5 9).bind fun w37 => (gR hp l4 1 1).bind fun w39 => (gR hp l3 1 1).bind fun w41 => if isO hp w37 4 = true then if 3 ≤ rc then (f_X4_planeThrough hp sz w37 w39 w41).bind fun (r45, hp46, z47) => if isO hp46 l0 5 = true then if 2 ≤ (rc - 3) then (f_X5_keep hp46 z47 l0 ((2 : Int32)) ((some r45))).bind fun (r50, hp51, z52) => some (r50, hp51, z52) else none else none else none else none) else ((gR hp l0 5 9).bind fun w21 => (gR hp l3 1 1).bind fun w23 => (gR hp l4 1 1).bind fun w25 => if isO hp w21 4 = true then if 22 ≤ rc then (f_X4_planeOfLines hp sz w21 w23 w25).bind fun (r29, hp30, z31) => if isO hp30 l0 5 = true then if 2 ≤ (rc - 22) then (f_X5_keep hp30 z31 l0 ((2 : Int32)) r29).bind fun (r34, hp35, z36) => some (r34, hp35, z36) else none else none else none else none)) else (some ((-2 : Int32), hp, sz)))
noncomputable def f_X5_join (hp : cH) (sz : Nat) (l0 : Nat) (l1 : Int32) (l2 : Int32) : Option (Int32 × cH × Nat) := (gR hp l0 5 0).bind fun w1 => if isO hp w1 3 = true then (f_X3_lower hp w1 l1 l2).bind fun r5 => (gR hp l0 5 0).bind fun w6 => if isO hp w6 3 = true then (f_X3_higher hp w6 l1 l2).bind fun r10 => Option.elim r5 (some ((-2 : Int32), hp, sz)) (fun a11 => Option.elim r10 (some ((-2 : Int32), hp, sz)) (fun a12 => (gI hp a11 1 0).bind fun w13 => if w13 = 0 then ((gI hp a12 1 0).bind fun w53 => if w53 = 0 then ((gR hp l0 5 9).bind fun w55 => (gR hp a11 1 1).bind fun w57 => (gR hp a12 1 1).bind fun w59 => if isO hp w55 4 = true then (f_X4_lineThrough hp sz w55 w57 w59).bind fun (r63, hp64, z65) => if isO hp64 l0 5 = true then (f_X5_keep hp64 z65 l0 ((1 : Int32)) ((some r63))).bind fun (r68, hp69, z70) => some (r68, hp69, z70) else none else none) else (f_X5_join_J70 hp sz 31 l0 a11 a12)) else (f_X5_join_J70 hp sz 31 l0 a11 a12))) else none else none
set_option maxHeartbeats 4000000 in
set_option maxRecDepth 100000 in
theorem w_X5_join_J70 {K : kT} {O : oT} (C : aC K cX5_join RX5 "join" 6 100 31 (64 * 31) 5 (some .int) O) {hp : cH} {sz rc : Nat} {l0 : Nat} {l3 : Nat} {l4 : Nat} {o0 : Int32} {oh : cH} {oz : Nat} (h : f_X5_join_J70 hp sz rc l0 l3 l4 = some (o0, oh, oz)) (hO : ((some (.int o0), oh, oz) : oT) = O) : aW K hp sz rc (64 * rc) 70 [(0, .ref l0), (3, .ref l3), (4, .ref l4)] [] := by
  unfold f_X5_join_J70 at h
  refine r_aload_n C 0 rfl dX5_join_70 rfl ?_
  replace h := bd_i h
  obtain ⟨w15, e16, h⟩ := h
  refine k_gI C e16 rfl inX5_ (by decide) flX5_96 dX5_join_71 ?_
  refine r_iconst C (v := 2) dX5_join_74 (by decide) ?_
  refine r_icmp_eq C (tgt := 87) dX5_join_75 (by decide) (fun hc => ?_) (fun hc => ?_)
  · replace h := br_p hc h
    refine r_bipush C (v := -2) dX5_join_87 (by decide) ?_
    cases h
    exact r_ireturn C (Eq.symm hO) dX5_join_89
  · replace h := br_n hc h
    refine r_aload C 2 rfl dX5_join_78 ?_
    replace h := bd_i h
    obtain ⟨w17, e18, h⟩ := h
    refine k_gI C e18 rfl inX1_ (by decide) flX5_75 dX5_join_80 ?_
    refine r_iconst C (v := 1) dX5_join_83 (by decide) ?_
    refine r_icmp_eq C (tgt := 90) dX5_join_84 (by decide) (fun hc => ?_) (fun hc => ?_)
    · replace h := br_p hc h
      refine r_aload_n C 0 rfl dX5_join_90 rfl ?_
      refine r_iconst C (v := 2) dX5_join_91 (by decide) ?_
      refine r_aload_n C 1 rfl dX5_join_92 rfl ?_
      replace h := bd_i h
      obtain ⟨w19, e20, h⟩ := h
      refine k_gI C e20 rfl inX1_ (by decide) flX5_75 dX5_join_93 ?_
      refine r_if_ne C (tgt := 118) dX5_join_96 (by decide) (fun hc => ?_) (fun hc => ?_)
      · replace h := br_n hc h
        refine r_aload_n C 0 rfl dX5_join_118 rfl ?_
        replace h := bd_i h
        obtain ⟨w21, e22, h⟩ := h
        refine k_gR C e22 rfl inX5_ (by decide) flX5_86 dX5_join_119 ?_
        refine r_aload_n C 1 rfl dX5_join_122 rfl ?_
        replace h := bd_i h
        obtain ⟨w23, e24, h⟩ := h
        refine k_gR C e24 rfl inX1_ (by decide) flX5_70 dX5_join_123 ?_
        refine r_aload C 2 rfl dX5_join_126 ?_
        replace h := bd_i h
        obtain ⟨w25, e26, h⟩ := h
        refine k_gR C e26 rfl inX1_ (by decide) flX5_70 dX5_join_128 ?_
        replace h := gd_t h
        obtain ⟨ho27, h⟩ := h
        obtain ⟨_, ho27⟩ := isO_s ho27
        replace h := gd_t h
        obtain ⟨hrc, h⟩ := h
        replace h := bd_i h
        obtain ⟨⟨r29, hp30, z31⟩, q28, h⟩ := h
        refine q_callV C 2 (rc - 22) (64 * (rc - 22)) (k_X4_planeOfLines q28) rfl ho27 rfl okX4_planeOfLines inX4_planeOfLines lkX5_102 rfl (Nat.le_of_ble_eq_true rfl) ⟨by decide, by decide⟩ dX5_join_131 (by omega) (by omega) ?_
        replace h := gd_t h
        obtain ⟨ho32, h⟩ := h
        obtain ⟨_, ho32⟩ := isO_s ho32
        replace h := gd_t h
        obtain ⟨hrc, h⟩ := h
        replace h := bd_i h
        obtain ⟨⟨r34, hp35, z36⟩, q33, h⟩ := h
        refine q_callV C 0 ((rc - 22) - 2) (64 * ((rc - 22) - 2)) (k_X5_keep q33) rfl ho32 rfl okX5_keep inX5_keep lkX5_62 rfl (Nat.le_of_ble_eq_true rfl) ⟨by decide, by decide⟩ dX5_join_134 (by omega) (by omega) ?_
        cases h
        exact r_ireturn C (Eq.symm hO) dX5_join_137
      · replace h := br_p hc h
        refine r_aload_n C 0 rfl dX5_join_99 rfl ?_
        replace h := bd_i h
        obtain ⟨w37, e38, h⟩ := h
        refine k_gR C e38 rfl inX5_ (by decide) flX5_86 dX5_join_100 ?_
        refine r_aload C 2 rfl dX5_join_103 ?_
        replace h := bd_i h
        obtain ⟨w39, e40, h⟩ := h
        refine k_gR C e40 rfl inX1_ (by decide) flX5_70 dX5_join_105 ?_
        refine r_aload_n C 1 rfl dX5_join_108 rfl ?_
        replace h := bd_i h
        obtain ⟨w41, e42, h⟩ := h
        refine k_gR C e42 rfl inX1_ (by decide) flX5_70 dX5_join_109 ?_
        replace h := gd_t h
        obtain ⟨ho43, h⟩ := h
        obtain ⟨_, ho43⟩ := isO_s ho43
        replace h := gd_t h
        obtain ⟨hrc, h⟩ := h
        replace h := bd_i h
        obtain ⟨⟨r45, hp46, z47⟩, q44, h⟩ := h
        refine q_callV C 2 (rc - 3) (64 * (rc - 3)) (k_X4_planeThrough q44) rfl ho43 rfl okX4_planeThrough inX4_planeThrough lkX5_99 rfl (Nat.le_of_ble_eq_true rfl) ⟨by decide, by decide⟩ dX5_join_112 (by omega) (by omega) ?_
        refine r_goto C (tgt := 134) dX5_join_115 (by decide) ?_
        replace h := gd_t h
        obtain ⟨ho48, h⟩ := h
        obtain ⟨_, ho48⟩ := isO_s ho48
        replace h := gd_t h
        obtain ⟨hrc, h⟩ := h
        replace h := bd_i h
        obtain ⟨⟨r50, hp51, z52⟩, q49, h⟩ := h
        refine q_callV C 0 ((rc - 3) - 2) (64 * ((rc - 3) - 2)) (k_X5_keep q49) rfl ho48 rfl okX5_keep inX5_keep lkX5_62 rfl (Nat.le_of_ble_eq_true rfl) ⟨by decide, by decide⟩ dX5_join_134 (by omega) (by omega) ?_
        cases h
        exact r_ireturn C (Eq.symm hO) dX5_join_137
    · replace h := br_n hc h
      refine r_bipush C (v := -2) dX5_join_87 (by decide) ?_
      cases h
      exact r_ireturn C (Eq.symm hO) dX5_join_89
set_option maxHeartbeats 4000000 in
set_option maxRecDepth 100000 in
theorem k_X5_join {G : gT} {hp : cH} {sz : Nat} {l0 : Nat} {l1 : Int32} {l2 : Int32} {o0 : Int32} {oh : cH} {oz : Nat} (h : f_X5_join hp sz l0 l1 l2 = some (o0, oh, oz)) : aM G yX5_join cX5_join 5 (some .int) 6 100 31 (64 * 31) [.ref l0, .int l1, .int l2] hp sz ((some (.int o0), oh, oz) : oT) := by
  refine aM.of RX5 (by decide) rfl (Nat.le_of_ble_eq_true rfl) (fun K C => ?_)
  have hO : ((some (.int o0), oh, oz) : oT) = ((some (.int o0), oh, oz) : oT) := rfl
  refine r_lve (lv' := [(0, .ref l0), (1, .int l1), (2, .int l2)]) rfl ?_
  unfold f_X5_join at h
  refine r_aload_n C 0 rfl dX5_join_0 rfl ?_
  replace h := bd_i h
  obtain ⟨w1, e2, h⟩ := h
  refine k_gR C e2 rfl inX5_ (by decide) flX5_10 dX5_join_1 ?_
  refine r_iload_n C 1 rfl dX5_join_4 rfl ?_
  refine r_iload_n C 2 rfl dX5_join_5 rfl ?_
  replace h := gd_t h
  obtain ⟨ho3, h⟩ := h
  obtain ⟨_, ho3⟩ := isO_s ho3
  replace h := bd_i h
  obtain ⟨r5, q4, h⟩ := h
  refine q_callV C 0 31 (64 * 31) (k_X3_lower q4) rfl ho3 rfl okX3_lower inX3_lower lkX5_79 rfl (Nat.le_of_ble_eq_true rfl) ⟨by decide, by decide⟩ dX5_join_6 (by omega) (by omega) ?_
  refine r_astore_nq C (lv' := [(3, va_rf r5), (0, .ref l0), (1, .int l1), (2, .int l2)]) dX5_join_9 rfl (by decide) rfl ?_
  refine r_aload_n C 1 rfl dX5_join_10 rfl ?_
  replace h := bd_i h
  obtain ⟨w6, e7, h⟩ := h
  refine k_gR C e7 rfl inX5_ (by decide) flX5_10 dX5_join_11 ?_
  refine r_iload_n C 2 rfl dX5_join_14 rfl ?_
  refine r_iload_n C 3 rfl dX5_join_15 rfl ?_
  replace h := gd_t h
  obtain ⟨ho8, h⟩ := h
  obtain ⟨_, ho8⟩ := isO_s ho8
  replace h := bd_i h
  obtain ⟨r10, q9, h⟩ := h
  refine q_callV C 0 31 (64 * 31) (k_X3_higher q9) rfl ho8 rfl okX3_higher inX3_higher lkX5_83 rfl (Nat.le_of_ble_eq_true rfl) ⟨by decide, by decide⟩ dX5_join_16 (by omega) (by omega) ?_
  refine r_astoreq C (lv' := [(4, va_rf r10), (3, va_rf r5), (0, .ref l0), (1, .int l1), (2, .int l2)]) dX5_join_19 (by decide) (by simp [rf_cat]) ?_
  refine r_aload_nq C 1 rfl dX5_join_21 rfl ?_
  refine k_ifnull C (tgt := 30) dX5_join_22 (by decide) (fun hx => ?_) (fun a11 hx => ?_)
  · subst hx
    replace h := oe_n rfl h
    refine r_bipush C (v := -2) dX5_join_30 (by decide) ?_
    cases h
    exact r_ireturn C (Eq.symm hO) dX5_join_32
  · subst hx
    replace h := oe_s rfl h
    refine r_aloadq C 0 rfl dX5_join_25 ?_
    refine k_ifnonnull C (tgt := 33) dX5_join_27 (by decide) (fun a12 hx => ?_) (fun hx => ?_)
    · subst hx
      replace h := oe_s rfl h
      refine r_aload_n C 1 rfl dX5_join_33 rfl ?_
      replace h := bd_i h
      obtain ⟨w13, e14, h⟩ := h
      refine k_gI C e14 rfl inX1_ (by decide) flX5_75 dX5_join_34 ?_
      refine r_if_ne C (tgt := 70) dX5_join_37 (by decide) (fun hc => ?_) (fun hc => ?_)
      · replace h := br_n hc h
        refine r_lv (lv' := [(0, .ref l0), (3, .ref a11), (4, .ref a12)]) [2, 1, 0] rfl ?_
        exact w_X5_join_J70 C  h hO
      · replace h := br_p hc h
        refine r_aload C 0 rfl dX5_join_40 ?_
        replace h := bd_i h
        obtain ⟨w53, e54, h⟩ := h
        refine k_gI C e54 rfl inX1_ (by decide) flX5_75 dX5_join_42 ?_
        refine r_if_ne C (tgt := 70) dX5_join_45 (by decide) (fun hc => ?_) (fun hc => ?_)
        · replace h := br_n hc h
          refine r_lv (lv' := [(0, .ref l0), (3, .ref a11), (4, .ref a12)]) [2, 1, 0] rfl ?_
          exact w_X5_join_J70 C  h hO
        · replace h := br_p hc h
          refine r_aload_n C 2 rfl dX5_join_48 rfl ?_
          refine r_iconst C (v := 1) dX5_join_49 (by decide) ?_
          refine r_aload_n C 2 rfl dX5_join_50 rfl ?_
          replace h := bd_i h
          obtain ⟨w55, e56, h⟩ := h
          refine k_gR C e56 rfl inX5_ (by decide) flX5_86 dX5_join_51 ?_
          refine r_aload_n C 1 rfl dX5_join_54 rfl ?_
          replace h := bd_i h
          obtain ⟨w57, e58, h⟩ := h
          refine k_gR C e58 rfl inX1_ (by decide) flX5_70 dX5_join_55 ?_
          refine r_aload C 0 rfl dX5_join_58 ?_
          replace h := bd_i h
          obtain ⟨w59, e60, h⟩ := h
          refine k_gR C e60 rfl inX1_ (by decide) flX5_70 dX5_join_60 ?_
          replace h := gd_t h
          obtain ⟨ho61, h⟩ := h
          obtain ⟨_, ho61⟩ := isO_s ho61
          replace h := bd_i h
          obtain ⟨⟨r63, hp64, z65⟩, q62, h⟩ := h
          refine q_callV C 2 29 (64 * 29) (k_X4_lineThrough q62) rfl ho61 rfl okX4_lineThrough inX4_lineThrough lkX5_90 rfl (Nat.le_of_ble_eq_true rfl) ⟨by decide, by decide⟩ dX5_join_63 (by omega) (by omega) ?_
          replace h := gd_t h
          obtain ⟨ho66, h⟩ := h
          obtain ⟨_, ho66⟩ := isO_s ho66
          replace h := bd_i h
          obtain ⟨⟨r68, hp69, z70⟩, q67, h⟩ := h
          refine q_callV C 0 27 (64 * 27) (k_X5_keep q67) rfl ho66 rfl okX5_keep inX5_keep lkX5_62 rfl (Nat.le_of_ble_eq_true rfl) ⟨by decide, by decide⟩ dX5_join_66 (by omega) (by omega) ?_
          cases h
          exact r_ireturn C (Eq.symm hO) dX5_join_69
    · subst hx
      replace h := oe_n rfl h
      refine r_bipush C (v := -2) dX5_join_30 (by decide) ?_
      cases h
      exact r_ireturn C (Eq.symm hO) dX5_join_32
noncomputable def f_X5_isBetweenLineAndFlat (hp : cH) (l0 : Nat) (l1 : Nat) : Option Int32 := (gI hp l1 1 0).bind fun w1 => if w1 < ((1 : Int32)) then (some ((0 : Int32))) else ((gI hp l1 1 0).bind fun w3 => (gI hp l0 5 6).bind fun w5 => if w5 < w3 then (some ((0 : Int32))) else (some ((1 : Int32))))
set_option maxHeartbeats 4000000 in
set_option maxRecDepth 100000 in
theorem k_X5_isBetweenLineAndFlat {G : gT} {hp : cH} {sz : Nat} {l0 : Nat} {l1 : Nat} {o0 : Int32} (h : f_X5_isBetweenLineAndFlat hp l0 l1 = some o0) : aM G yX5_isBetweenLineAndFlat cX5_isBetweenLineAndFlat 2 (some .boolean) 0 0 0 (64 * 0) [.ref l0, .ref l1] hp sz ((some (.int o0), hp, sz) : oT) := by
  refine aM.of RX5 (by decide) rfl (Nat.le_of_ble_eq_true rfl) (fun K C => ?_)
  have hO : ((some (.int o0), hp, sz) : oT) = ((some (.int o0), hp, sz) : oT) := rfl
  refine r_lve (lv' := [(0, .ref l0), (1, .ref l1)]) rfl ?_
  unfold f_X5_isBetweenLineAndFlat at h
  refine r_aload_n C 1 rfl dX5_isBetweenLineAndFlat_0 rfl ?_
  replace h := bd_i h
  obtain ⟨w1, e2, h⟩ := h
  refine k_gI C e2 rfl inX1_ (by decide) flX5_75 dX5_isBetweenLineAndFlat_1 ?_
  refine r_iconst C (v := 1) dX5_isBetweenLineAndFlat_4 (by decide) ?_
  refine r_icmp_lt C (tgt := 23) dX5_isBetweenLineAndFlat_5 (by decide) (fun hc => ?_) (fun hc => ?_)
  · replace h := br_p hc h
    refine r_iconst C (v := 0) dX5_isBetweenLineAndFlat_23 (by decide) ?_
    cases h
    exact r_zreturn C rfl (Eq.symm hO) dX5_isBetweenLineAndFlat_24
  · replace h := br_n hc h
    refine r_aload_n C 1 rfl dX5_isBetweenLineAndFlat_8 rfl ?_
    replace h := bd_i h
    obtain ⟨w3, e4, h⟩ := h
    refine k_gI C e4 rfl inX1_ (by decide) flX5_75 dX5_isBetweenLineAndFlat_9 ?_
    refine r_aload_n C 0 rfl dX5_isBetweenLineAndFlat_12 rfl ?_
    replace h := bd_i h
    obtain ⟨w5, e6, h⟩ := h
    refine k_gI C e6 rfl inX5_ (by decide) flX5_109 dX5_isBetweenLineAndFlat_13 ?_
    refine r_icmp_gt C (tgt := 23) dX5_isBetweenLineAndFlat_16 (by decide) (fun hc => ?_) (fun hc => ?_)
    · replace h := br_p hc h
      refine r_iconst C (v := 0) dX5_isBetweenLineAndFlat_23 (by decide) ?_
      cases h
      exact r_zreturn C rfl (Eq.symm hO) dX5_isBetweenLineAndFlat_24
    · replace h := br_n hc h
      refine r_iconst C (v := 1) dX5_isBetweenLineAndFlat_19 (by decide) ?_
      refine r_goto C (tgt := 24) dX5_isBetweenLineAndFlat_20 (by decide) ?_
      cases h
      exact r_zreturn C rfl (Eq.symm hO) dX5_isBetweenLineAndFlat_24
noncomputable def f_X4_crossing (hp : cH) (sz : Nat) (l0 : Nat) (l1 : Nat) (l2 : Nat) : Option (Nat × cH × Nat) := if isO hp l0 4 = true then (f_X4_wedge hp sz l0 l1 l2).bind fun (r3, hp4, z5) => if isO hp4 l0 4 = true then (f_X4_flipped hp4 z5 l0 r3).bind fun (r8, hp9, z10) => some (r8, hp9, z10) else none else none
set_option maxHeartbeats 4000000 in
set_option maxRecDepth 100000 in
theorem k_X4_crossing {G : gT} {hp : cH} {sz : Nat} {l0 : Nat} {l1 : Nat} {l2 : Nat} {o0 : Nat} {oh : cH} {oz : Nat} (h : f_X4_crossing hp sz l0 l1 l2 = some (o0, oh, oz)) : aM G yX4_crossing cX4_crossing 3 (some (.array .long)) 2 40 2 (64 * 2) [.ref l0, .ref l1, .ref l2] hp sz ((some (.ref o0), oh, oz) : oT) := by
  refine aM.of RX4 (by decide) rfl (Nat.le_of_ble_eq_true rfl) (fun K C => ?_)
  have hO : ((some (.ref o0), oh, oz) : oT) = ((some (.ref o0), oh, oz) : oT) := rfl
  refine r_lve (lv' := [(0, .ref l0), (1, .ref l1), (2, .ref l2)]) rfl ?_
  unfold f_X4_crossing at h
  refine r_aload_n C 0 rfl dX4_crossing_0 rfl ?_
  refine r_aload_n C 0 rfl dX4_crossing_1 rfl ?_
  refine r_aload_n C 1 rfl dX4_crossing_2 rfl ?_
  refine r_aload_n C 2 rfl dX4_crossing_3 rfl ?_
  replace h := gd_t h
  obtain ⟨ho1, h⟩ := h
  obtain ⟨_, ho1⟩ := isO_s ho1
  replace h := bd_i h
  obtain ⟨⟨r3, hp4, z5⟩, q2, h⟩ := h
  refine q_callV C 1 1 (64 * 1) (k_X4_wedge q2) rfl ho1 rfl okX4_wedge inX4_wedge lkX4_40 rfl (Nat.le_of_ble_eq_true rfl) ⟨by decide, by decide⟩ dX4_crossing_4 (by omega) (by omega) ?_
  replace h := gd_t h
  obtain ⟨ho6, h⟩ := h
  obtain ⟨_, ho6⟩ := isO_s ho6
  replace h := bd_i h
  obtain ⟨⟨r8, hp9, z10⟩, q7, h⟩ := h
  refine q_callV C 0 0 (64 * 0) (k_X4_flipped q7) rfl ho6 rfl okX4_flipped inX4_flipped lkX4_48 rfl (Nat.le_of_ble_eq_true rfl) ⟨by decide, by decide⟩ dX4_crossing_7 (by omega) (by omega) ?_
  cases h
  exact r_areturnA C (Or.inr ⟨_, rfl⟩) (Eq.symm hO) dX4_crossing_10
noncomputable def f_X5_meet (hp : cH) (sz : Nat) (l0 : Nat) (l1 : Int32) (l2 : Int32) : Option (Int32 × cH × Nat) := (gR hp l0 5 0).bind fun w1 => if isO hp w1 3 = true then (f_X3_lower hp w1 l1 l2).bind fun r5 => (gR hp l0 5 0).bind fun w6 => if isO hp w6 3 = true then (f_X3_higher hp w6 l1 l2).bind fun r10 => Option.elim r5 (some ((-2 : Int32), hp, sz)) (fun a11 => Option.elim r10 (some ((-2 : Int32), hp, sz)) (fun a12 => if isO hp l0 5 = true then (f_X5_isBetweenLineAndFlat hp l0 a11).bind fun r15 => if r15 = 0 then (some ((-2 : Int32), hp, sz)) else ((f_X5_isBetweenLineAndFlat hp l0 a12).bind fun r17 => if r17 = 0 then (some ((-2 : Int32), hp, sz)) else ((gI hp a11 1 0).bind fun w18 => (gI hp l0 5 6).bind fun w20 => if w18 = w20 then ((gI hp l0 5 5).bind fun w56 => if w56 = ((2 : Int32)) then ((gR hp l0 5 9).bind fun w74 => (gR hp a11 1 1).bind fun w76 => (gR hp a12 1 1).bind fun w78 => if isO hp w74 4 = true then (f_X4_crossing hp sz w74 w76 w78).bind fun (r82, hp83, z84) => if isO hp83 l0 5 = true then (f_X5_keep hp83 z84 l0 ((0 : Int32)) ((some r82))).bind fun (r87, hp88, z89) => some (r87, hp88, z89) else none else none) else ((gR hp l0 5 9).bind fun w58 => (gR hp a11 1 1).bind fun w60 => (gR hp a12 1 1).bind fun w62 => if isO hp w58 4 = true then (f_X4_crossing hp sz w58 w60 w62).bind fun (r66, hp67, z68) => if isO hp67 l0 5 = true then (f_X5_keep hp67 z68 l0 ((1 : Int32)) ((some r66))).bind fun (r71, hp72, z73) => some (r71, hp72, z73) else none else none)) else ((gI hp a12 1 0).bind fun w22 => if w22 = ((2 : Int32)) then ((gR hp l0 5 9).bind fun w40 => (gR hp a11 1 1).bind fun w42 => (gR hp a12 1 1).bind fun w44 => if isO hp w40 4 = true then (f_X4_pointOnPlane hp sz w40 w42 w44).bind fun (r48, hp49, z50) => if isO hp49 l0 5 = true then (f_X5_keep hp49 z50 l0 ((0 : Int32)) ((some r48))).bind fun (r53, hp54, z55) => some (r53, hp54, z55) else none else none) else ((gR hp l0 5 9).bind fun w24 => (gR hp a11 1 1).bind fun w26 => (gR hp a12 1 1).bind fun w28 => if isO hp w24 4 = true then (f_X4_pointOfLines hp sz w24 w26 w28).bind fun (r32, hp33, z34) => if isO hp33 l0 5 = true then (f_X5_keep hp33 z34 l0 ((0 : Int32)) r32).bind fun (r37, hp38, z39) => some (r37, hp38, z39) else none else none)))) else none)) else none else none
set_option maxHeartbeats 4000000 in
set_option maxRecDepth 100000 in
theorem k_X5_meet {G : gT} {hp : cH} {sz : Nat} {l0 : Nat} {l1 : Int32} {l2 : Int32} {o0 : Int32} {oh : cH} {oz : Nat} (h : f_X5_meet hp sz l0 l1 l2 = some (o0, oh, oz)) : aM G yX5_meet cX5_meet 5 (some .int) 5 86 28 (64 * 28) [.ref l0, .int l1, .int l2] hp sz ((some (.int o0), oh, oz) : oT) := by
  refine aM.of RX5 (by decide) rfl (Nat.le_of_ble_eq_true rfl) (fun K C => ?_)
  have hO : ((some (.int o0), oh, oz) : oT) = ((some (.int o0), oh, oz) : oT) := rfl
  refine r_lve (lv' := [(0, .ref l0), (1, .int l1), (2, .int l2)]) rfl ?_
  unfold f_X5_meet at h
  refine r_aload_n C 0 rfl dX5_meet_0 rfl ?_
  replace h := bd_i h
  obtain ⟨w1, e2, h⟩ := h
  refine k_gR C e2 rfl inX5_ (by decide) flX5_10 dX5_meet_1 ?_
  refine r_iload_n C 1 rfl dX5_meet_4 rfl ?_
  refine r_iload_n C 2 rfl dX5_meet_5 rfl ?_
  replace h := gd_t h
  obtain ⟨ho3, h⟩ := h
  obtain ⟨_, ho3⟩ := isO_s ho3
  replace h := bd_i h
  obtain ⟨r5, q4, h⟩ := h
  refine q_callV C 0 28 (64 * 28) (k_X3_lower q4) rfl ho3 rfl okX3_lower inX3_lower lkX5_79 rfl (Nat.le_of_ble_eq_true rfl) ⟨by decide, by decide⟩ dX5_meet_6 (by omega) (by omega) ?_
  refine r_astore_nq C (lv' := [(3, va_rf r5), (0, .ref l0), (1, .int l1), (2, .int l2)]) dX5_meet_9 rfl (by decide) rfl ?_
  refine r_aload_n C 1 rfl dX5_meet_10 rfl ?_
  replace h := bd_i h
  obtain ⟨w6, e7, h⟩ := h
  refine k_gR C e7 rfl inX5_ (by decide) flX5_10 dX5_meet_11 ?_
  refine r_iload_n C 2 rfl dX5_meet_14 rfl ?_
  refine r_iload_n C 3 rfl dX5_meet_15 rfl ?_
  replace h := gd_t h
  obtain ⟨ho8, h⟩ := h
  obtain ⟨_, ho8⟩ := isO_s ho8
  replace h := bd_i h
  obtain ⟨r10, q9, h⟩ := h
  refine q_callV C 0 28 (64 * 28) (k_X3_higher q9) rfl ho8 rfl okX3_higher inX3_higher lkX5_83 rfl (Nat.le_of_ble_eq_true rfl) ⟨by decide, by decide⟩ dX5_meet_16 (by omega) (by omega) ?_
  refine r_astoreq C (lv' := [(4, va_rf r10), (3, va_rf r5), (0, .ref l0), (1, .int l1), (2, .int l2)]) dX5_meet_19 (by decide) (by simp [rf_cat]) ?_
  refine r_aload_nq C 1 rfl dX5_meet_21 rfl ?_
  refine k_ifnull C (tgt := 47) dX5_meet_22 (by decide) (fun hx => ?_) (fun a11 hx => ?_)
  · subst hx
    replace h := oe_n rfl h
    refine r_bipush C (v := -2) dX5_meet_47 (by decide) ?_
    cases h
    exact r_ireturn C (Eq.symm hO) dX5_meet_49
  · subst hx
    replace h := oe_s rfl h
    refine r_aloadq C 0 rfl dX5_meet_25 ?_
    refine k_ifnull C (tgt := 47) dX5_meet_27 (by decide) (fun hx => ?_) (fun a12 hx => ?_)
    · subst hx
      replace h := oe_n rfl h
      refine r_bipush C (v := -2) dX5_meet_47 (by decide) ?_
      cases h
      exact r_ireturn C (Eq.symm hO) dX5_meet_49
    · subst hx
      replace h := oe_s rfl h
      refine r_aload_n C 2 rfl dX5_meet_30 rfl ?_
      refine r_aload_n C 1 rfl dX5_meet_31 rfl ?_
      replace h := gd_t h
      obtain ⟨ho13, h⟩ := h
      obtain ⟨_, ho13⟩ := isO_s ho13
      replace h := bd_i h
      obtain ⟨r15, q14, h⟩ := h
      refine q_callV C 0 28 (64 * 28) (k_X5_isBetweenLineAndFlat q14) rfl ho13 rfl okX5_isBetweenLineAndFlat inX5_isBetweenLineAndFlat lkX5_105 rfl (Nat.le_of_ble_eq_true rfl) ⟨by decide, by decide⟩ dX5_meet_32 (by omega) (by omega) ?_
      refine r_if_eq C (tgt := 47) dX5_meet_35 (by decide) (fun hc => ?_) (fun hc => ?_)
      · replace h := br_p hc h
        refine r_bipush C (v := -2) dX5_meet_47 (by decide) ?_
        cases h
        exact r_ireturn C (Eq.symm hO) dX5_meet_49
      · replace h := br_n hc h
        refine r_aload_n C 2 rfl dX5_meet_38 rfl ?_
        refine r_aload C 0 rfl dX5_meet_39 ?_
        replace h := bd_i h
        obtain ⟨r17, q16, h⟩ := h
        refine q_callV C 0 28 (64 * 28) (k_X5_isBetweenLineAndFlat q16) rfl ho13 rfl okX5_isBetweenLineAndFlat inX5_isBetweenLineAndFlat lkX5_105 rfl (Nat.le_of_ble_eq_true rfl) ⟨by decide, by decide⟩ dX5_meet_41 (by omega) (by omega) ?_
        refine r_if_ne C (tgt := 50) dX5_meet_44 (by decide) (fun hc => ?_) (fun hc => ?_)
        · replace h := br_n hc h
          refine r_aload_n C 1 rfl dX5_meet_50 rfl ?_
          replace h := bd_i h
          obtain ⟨w18, e19, h⟩ := h
          refine k_gI C e19 rfl inX1_ (by decide) flX5_75 dX5_meet_51 ?_
          refine r_aload_n C 2 rfl dX5_meet_54 rfl ?_
          replace h := bd_i h
          obtain ⟨w20, e21, h⟩ := h
          refine k_gI C e21 rfl inX5_ (by decide) flX5_109 dX5_meet_55 ?_
          refine r_icmp_ne C (tgt := 95) dX5_meet_58 (by decide) (fun hc => ?_) (fun hc => ?_)
          · replace h := br_n hc h
            refine r_aload_n C 2 rfl dX5_meet_95 rfl ?_
            refine r_iconst C (v := 0) dX5_meet_96 (by decide) ?_
            refine r_aload C 0 rfl dX5_meet_97 ?_
            replace h := bd_i h
            obtain ⟨w22, e23, h⟩ := h
            refine k_gI C e23 rfl inX1_ (by decide) flX5_75 dX5_meet_99 ?_
            refine r_iconst C (v := 2) dX5_meet_102 (by decide) ?_
            refine r_icmp_ne C (tgt := 125) dX5_meet_103 (by decide) (fun hc => ?_) (fun hc => ?_)
            · replace h := br_n hc h
              refine r_aload_n C 2 rfl dX5_meet_125 rfl ?_
              replace h := bd_i h
              obtain ⟨w24, e25, h⟩ := h
              refine k_gR C e25 rfl inX5_ (by decide) flX5_86 dX5_meet_126 ?_
              refine r_aload_n C 1 rfl dX5_meet_129 rfl ?_
              replace h := bd_i h
              obtain ⟨w26, e27, h⟩ := h
              refine k_gR C e27 rfl inX1_ (by decide) flX5_70 dX5_meet_130 ?_
              refine r_aload C 0 rfl dX5_meet_133 ?_
              replace h := bd_i h
              obtain ⟨w28, e29, h⟩ := h
              refine k_gR C e29 rfl inX1_ (by decide) flX5_70 dX5_meet_135 ?_
              replace h := gd_t h
              obtain ⟨ho30, h⟩ := h
              obtain ⟨_, ho30⟩ := isO_s ho30
              replace h := bd_i h
              obtain ⟨⟨r32, hp33, z34⟩, q31, h⟩ := h
              refine q_callV C 2 8 (64 * 8) (k_X4_pointOfLines q31) rfl ho30 rfl okX4_pointOfLines inX4_pointOfLines lkX5_118 rfl (Nat.le_of_ble_eq_true rfl) ⟨by decide, by decide⟩ dX5_meet_138 (by omega) (by omega) ?_
              replace h := gd_t h
              obtain ⟨ho35, h⟩ := h
              obtain ⟨_, ho35⟩ := isO_s ho35
              replace h := bd_i h
              obtain ⟨⟨r37, hp38, z39⟩, q36, h⟩ := h
              refine q_callV C 0 6 (64 * 6) (k_X5_keep q36) rfl ho35 rfl okX5_keep inX5_keep lkX5_62 rfl (Nat.le_of_ble_eq_true rfl) ⟨by decide, by decide⟩ dX5_meet_141 (by omega) (by omega) ?_
              cases h
              exact r_ireturn C (Eq.symm hO) dX5_meet_144
            · replace h := br_p hc h
              refine r_aload_n C 2 rfl dX5_meet_106 rfl ?_
              replace h := bd_i h
              obtain ⟨w40, e41, h⟩ := h
              refine k_gR C e41 rfl inX5_ (by decide) flX5_86 dX5_meet_107 ?_
              refine r_aload_n C 1 rfl dX5_meet_110 rfl ?_
              replace h := bd_i h
              obtain ⟨w42, e43, h⟩ := h
              refine k_gR C e43 rfl inX1_ (by decide) flX5_70 dX5_meet_111 ?_
              refine r_aload C 0 rfl dX5_meet_114 ?_
              replace h := bd_i h
              obtain ⟨w44, e45, h⟩ := h
              refine k_gR C e45 rfl inX1_ (by decide) flX5_70 dX5_meet_116 ?_
              replace h := gd_t h
              obtain ⟨ho46, h⟩ := h
              obtain ⟨_, ho46⟩ := isO_s ho46
              replace h := bd_i h
              obtain ⟨⟨r48, hp49, z50⟩, q47, h⟩ := h
              refine q_callV C 2 26 (64 * 26) (k_X4_pointOnPlane q47) rfl ho46 rfl okX4_pointOnPlane inX4_pointOnPlane lkX5_115 rfl (Nat.le_of_ble_eq_true rfl) ⟨by decide, by decide⟩ dX5_meet_119 (by omega) (by omega) ?_
              refine r_goto C (tgt := 141) dX5_meet_122 (by decide) ?_
              replace h := gd_t h
              obtain ⟨ho51, h⟩ := h
              obtain ⟨_, ho51⟩ := isO_s ho51
              replace h := bd_i h
              obtain ⟨⟨r53, hp54, z55⟩, q52, h⟩ := h
              refine q_callV C 0 24 (64 * 24) (k_X5_keep q52) rfl ho51 rfl okX5_keep inX5_keep lkX5_62 rfl (Nat.le_of_ble_eq_true rfl) ⟨by decide, by decide⟩ dX5_meet_141 (by omega) (by omega) ?_
              cases h
              exact r_ireturn C (Eq.symm hO) dX5_meet_144
          · replace h := br_p hc h
            refine r_aload_n C 2 rfl dX5_meet_61 rfl ?_
            refine r_aload_n C 2 rfl dX5_meet_62 rfl ?_
            replace h := bd_i h
            obtain ⟨w56, e57, h⟩ := h
            refine k_gI C e57 rfl inX5_ (by decide) flX5_96 dX5_meet_63 ?_
            refine r_iconst C (v := 2) dX5_meet_66 (by decide) ?_
            refine r_icmp_ne C (tgt := 74) dX5_meet_67 (by decide) (fun hc => ?_) (fun hc => ?_)
            · replace h := br_n hc h
              refine r_iconst C (v := 1) dX5_meet_74 (by decide) ?_
              refine r_aload_n C 2 rfl dX5_meet_75 rfl ?_
              replace h := bd_i h
              obtain ⟨w58, e59, h⟩ := h
              refine k_gR C e59 rfl inX5_ (by decide) flX5_86 dX5_meet_76 ?_
              refine r_aload_n C 1 rfl dX5_meet_79 rfl ?_
              replace h := bd_i h
              obtain ⟨w60, e61, h⟩ := h
              refine k_gR C e61 rfl inX1_ (by decide) flX5_70 dX5_meet_80 ?_
              refine r_aload C 0 rfl dX5_meet_83 ?_
              replace h := bd_i h
              obtain ⟨w62, e63, h⟩ := h
              refine k_gR C e63 rfl inX1_ (by decide) flX5_70 dX5_meet_85 ?_
              replace h := gd_t h
              obtain ⟨ho64, h⟩ := h
              obtain ⟨_, ho64⟩ := isO_s ho64
              replace h := bd_i h
              obtain ⟨⟨r66, hp67, z68⟩, q65, h⟩ := h
              refine q_callV C 2 26 (64 * 26) (k_X4_crossing q65) rfl ho64 rfl okX4_crossing inX4_crossing lkX5_112 rfl (Nat.le_of_ble_eq_true rfl) ⟨by decide, by decide⟩ dX5_meet_88 (by omega) (by omega) ?_
              replace h := gd_t h
              obtain ⟨ho69, h⟩ := h
              obtain ⟨_, ho69⟩ := isO_s ho69
              replace h := bd_i h
              obtain ⟨⟨r71, hp72, z73⟩, q70, h⟩ := h
              refine q_callV C 0 24 (64 * 24) (k_X5_keep q70) rfl ho69 rfl okX5_keep inX5_keep lkX5_62 rfl (Nat.le_of_ble_eq_true rfl) ⟨by decide, by decide⟩ dX5_meet_91 (by omega) (by omega) ?_
              cases h
              exact r_ireturn C (Eq.symm hO) dX5_meet_94
            · replace h := br_p hc h
              refine r_iconst C (v := 0) dX5_meet_70 (by decide) ?_
              refine r_goto C (tgt := 75) dX5_meet_71 (by decide) ?_
              refine r_aload_n C 2 rfl dX5_meet_75 rfl ?_
              replace h := bd_i h
              obtain ⟨w74, e75, h⟩ := h
              refine k_gR C e75 rfl inX5_ (by decide) flX5_86 dX5_meet_76 ?_
              refine r_aload_n C 1 rfl dX5_meet_79 rfl ?_
              replace h := bd_i h
              obtain ⟨w76, e77, h⟩ := h
              refine k_gR C e77 rfl inX1_ (by decide) flX5_70 dX5_meet_80 ?_
              refine r_aload C 0 rfl dX5_meet_83 ?_
              replace h := bd_i h
              obtain ⟨w78, e79, h⟩ := h
              refine k_gR C e79 rfl inX1_ (by decide) flX5_70 dX5_meet_85 ?_
              replace h := gd_t h
              obtain ⟨ho80, h⟩ := h
              obtain ⟨_, ho80⟩ := isO_s ho80
              replace h := bd_i h
              obtain ⟨⟨r82, hp83, z84⟩, q81, h⟩ := h
              refine q_callV C 2 26 (64 * 26) (k_X4_crossing q81) rfl ho80 rfl okX4_crossing inX4_crossing lkX5_112 rfl (Nat.le_of_ble_eq_true rfl) ⟨by decide, by decide⟩ dX5_meet_88 (by omega) (by omega) ?_
              replace h := gd_t h
              obtain ⟨ho85, h⟩ := h
              obtain ⟨_, ho85⟩ := isO_s ho85
              replace h := bd_i h
              obtain ⟨⟨r87, hp88, z89⟩, q86, h⟩ := h
              refine q_callV C 0 24 (64 * 24) (k_X5_keep q86) rfl ho85 rfl okX5_keep inX5_keep lkX5_62 rfl (Nat.le_of_ble_eq_true rfl) ⟨by decide, by decide⟩ dX5_meet_91 (by omega) (by omega) ?_
              cases h
              exact r_ireturn C (Eq.symm hO) dX5_meet_94
        · replace h := br_p hc h
          refine r_bipush C (v := -2) dX5_meet_47 (by decide) ?_
          cases h
          exact r_ireturn C (Eq.symm hO) dX5_meet_49
noncomputable def f_X5_oneIf (l0 : Int32) : Option Int32 := if l0 = 0 then (some ((0 : Int32))) else (some ((1 : Int32)))
set_option maxHeartbeats 4000000 in
set_option maxRecDepth 100000 in
theorem k_X5_oneIf {G : gT} {hp : cH} {sz : Nat} {l0 : Int32} {o0 : Int32} (h : f_X5_oneIf l0 = some o0) : aM G yX5_oneIf cX5_oneIf 1 (some .int) 0 0 0 (64 * 0) [.int l0] hp sz ((some (.int o0), hp, sz) : oT) := by
  refine aM.of RX5 (by decide) rfl (Nat.le_of_ble_eq_true rfl) (fun K C => ?_)
  have hO : ((some (.int o0), hp, sz) : oT) = ((some (.int o0), hp, sz) : oT) := rfl
  refine r_lve (lv' := [(0, .int l0)]) rfl ?_
  unfold f_X5_oneIf at h
  refine r_iload_n C 0 rfl dX5_oneIf_0 rfl ?_
  refine r_if_eq C (tgt := 8) dX5_oneIf_1 (by decide) (fun hc => ?_) (fun hc => ?_)
  · replace h := br_p hc h
    refine r_iconst C (v := 0) dX5_oneIf_8 (by decide) ?_
    cases h
    exact r_ireturn C (Eq.symm hO) dX5_oneIf_9
  · replace h := br_n hc h
    refine r_iconst C (v := 1) dX5_oneIf_4 (by decide) ?_
    refine r_goto C (tgt := 9) dX5_oneIf_5 (by decide) ?_
    cases h
    exact r_ireturn C (Eq.symm hO) dX5_oneIf_9
noncomputable def f_X4_pointIsOnLine (hp : cH) (sz : Nat) (l0 : Nat) (l1 : Nat) (l2 : Nat) : Option (Int32 × cH × Nat) := if isO hp l0 4 = true then (f_X4_planeThrough hp sz l0 l2 l1).bind fun (r3, hp4, z5) => (f_X2_isZero hp4 r3).bind fun r7 => if r7 = 0 ∨ r7 = 1 then some (r7, hp4, z5) else none else none
set_option maxHeartbeats 4000000 in
set_option maxRecDepth 100000 in
theorem k_X4_pointIsOnLine {G : gT} {hp : cH} {sz : Nat} {l0 : Nat} {l1 : Nat} {l2 : Nat} {o0 : Int32} {oh : cH} {oz : Nat} (h : f_X4_pointIsOnLine hp sz l0 l1 l2 = some (o0, oh, oz)) : aM G yX4_pointIsOnLine cX4_pointIsOnLine 3 (some .boolean) 4 67 3 (64 * 3) [.ref l0, .ref l1, .ref l2] hp sz ((some (.int o0), oh, oz) : oT) := by
  refine aM.of RX4 (by decide) rfl (Nat.le_of_ble_eq_true rfl) (fun K C => ?_)
  have hO : ((some (.int o0), oh, oz) : oT) = ((some (.int o0), oh, oz) : oT) := rfl
  refine r_lve (lv' := [(0, .ref l0), (1, .ref l1), (2, .ref l2)]) rfl ?_
  unfold f_X4_pointIsOnLine at h
  refine r_aload_n C 0 rfl dX4_pointIsOnLine_0 rfl ?_
  refine r_aload_n C 2 rfl dX4_pointIsOnLine_1 rfl ?_
  refine r_aload_n C 1 rfl dX4_pointIsOnLine_2 rfl ?_
  replace h := gd_t h
  obtain ⟨ho1, h⟩ := h
  obtain ⟨_, ho1⟩ := isO_s ho1
  replace h := bd_i h
  obtain ⟨⟨r3, hp4, z5⟩, q2, h⟩ := h
  refine q_callV C 0 0 (64 * 0) (k_X4_planeThrough q2) rfl ho1 rfl okX4_planeThrough inX4_planeThrough lkX4_80 rfl (Nat.le_of_ble_eq_true rfl) ⟨by decide, by decide⟩ dX4_pointIsOnLine_3 (by omega) (by omega) ?_
  replace h := bd_i h
  obtain ⟨r7, q6, h⟩ := h
  refine q_callS C 0 0 (64 * 0) (k_X2_isZero q6) rfl okX2_isZero inX2_isZero lkX4_69 rfl (Nat.le_of_ble_eq_true rfl) ⟨by decide, by decide⟩ dX4_pointIsOnLine_6 (by omega) (by omega) ?_
  replace h := gd_t h
  obtain ⟨hz, h⟩ := h
  cases h
  exact r_zreturn C (nb01 hz) (Eq.symm hO) dX4_pointIsOnLine_9
noncomputable def f_X2_form (hp : cH) (sz : Nat) (l0 : Nat) (l1 : Nat) (l2 : Nat) (l3 : Nat) : Option (Int64 × cH × Nat) := if isO hp l0 2 = true then (f_X2_image hp sz l0 l1 l3).bind fun (r3, hp4, z5) => if isO hp4 l0 2 = true then (f_X2_dot hp4 l0 l2 r3).bind fun r8 => some (r8, hp4, z5) else none else none
set_option maxHeartbeats 4000000 in
set_option maxRecDepth 100000 in
theorem k_X2_form {G : gT} {hp : cH} {sz : Nat} {l0 : Nat} {l1 : Nat} {l2 : Nat} {l3 : Nat} {o0 : Int64} {oh : cH} {oz : Nat} (h : f_X2_form hp sz l0 l1 l2 l3 = some (o0, oh, oz)) : aM G yX2_form cX2_form 4 (some .long) 3 55 1 (64 * 1) [.ref l0, .ref l1, .ref l2, .ref l3] hp sz ((some (.long o0), oh, oz) : oT) := by
  refine aM.of RX2 (by decide) rfl (Nat.le_of_ble_eq_true rfl) (fun K C => ?_)
  have hO : ((some (.long o0), oh, oz) : oT) = ((some (.long o0), oh, oz) : oT) := rfl
  refine r_lve (lv' := [(0, .ref l0), (1, .ref l1), (2, .ref l2), (3, .ref l3)]) rfl ?_
  unfold f_X2_form at h
  refine r_aload_n C 0 rfl dX2_form_0 rfl ?_
  refine r_aload_n C 2 rfl dX2_form_1 rfl ?_
  refine r_aload_n C 0 rfl dX2_form_2 rfl ?_
  refine r_aload_n C 1 rfl dX2_form_3 rfl ?_
  refine r_aload_n C 3 rfl dX2_form_4 rfl ?_
  replace h := gd_t h
  obtain ⟨ho1, h⟩ := h
  obtain ⟨_, ho1⟩ := isO_s ho1
  replace h := bd_i h
  obtain ⟨⟨r3, hp4, z5⟩, q2, h⟩ := h
  refine q_callV C 2 0 (64 * 0) (k_X2_image q2) rfl ho1 rfl okX2_image inX2_image lkX2_48 rfl (Nat.le_of_ble_eq_true rfl) ⟨by decide, by decide⟩ dX2_form_5 (by omega) (by omega) ?_
  replace h := gd_t h
  obtain ⟨ho6, h⟩ := h
  obtain ⟨_, ho6⟩ := isO_s ho6
  replace h := bd_i h
  obtain ⟨r8, q7, h⟩ := h
  refine q_callV C 0 0 (64 * 0) (k_X2_dot q7) rfl ho6 rfl okX2_dot inX2_dot lkX2_52 rfl (Nat.le_of_ble_eq_true rfl) ⟨by decide, by decide⟩ dX2_form_8 (by omega) (by omega) ?_
  cases h
  exact r_lreturn C (Eq.symm hO) dX2_form_11
noncomputable def f_X5_pointIsOn (hp : cH) (sz : Nat) (l0 : Nat) (l1 : Nat) (l2 : Nat) : Option (Int32 × cH × Nat) := (gI hp l2 1 0).bind fun w1 => (gI hp l0 5 6).bind fun w3 => if w1 = w3 then ((gR hp l0 5 8).bind fun w33 => (gR hp l2 1 1).bind fun w35 => if isO hp w33 2 = true then (f_X2_dot hp w33 l1 w35).bind fun r39 => if r39 = ((0 : Int64)) then ((f_X5_oneIf ((1 : Int32))).bind fun r43 => some (r43, hp, sz)) else ((f_X5_oneIf ((0 : Int32))).bind fun r41 => some (r41, hp, sz)) else none) else ((gI hp l2 1 0).bind fun w5 => if w5 = ((1 : Int32)) then ((gR hp l0 5 9).bind fun w22 => (gR hp l2 1 1).bind fun w24 => if isO hp w22 4 = true then (f_X4_pointIsOnLine hp sz w22 l1 w24).bind fun (r28, hp29, z30) => (f_X5_oneIf r28).bind fun r32 => some (r32, hp29, z30) else none) else ((gI hp l2 1 0).bind fun w7 => if w7 = ((4 : Int32)) then ((gR hp l0 5 8).bind fun w9 => (gR hp l2 1 1).bind fun w11 => if isO hp w9 2 = true then (f_X2_form hp sz w9 w11 l1 l1).bind fun (r15, hp16, z17) => if r15 = ((0 : Int64)) then ((f_X5_oneIf ((1 : Int32))).bind fun r21 => some (r21, hp16, z17)) else ((f_X5_oneIf ((0 : Int32))).bind fun r19 => some (r19, hp16, z17)) else none) else (some ((-2 : Int32), hp, sz))))
set_option maxHeartbeats 4000000 in
set_option maxRecDepth 100000 in
theorem k_X5_pointIsOn {G : gT} {hp : cH} {sz : Nat} {l0 : Nat} {l1 : Nat} {l2 : Nat} {o0 : Int32} {oh : cH} {oz : Nat} (h : f_X5_pointIsOn hp sz l0 l1 l2 = some (o0, oh, oz)) : aM G yX5_pointIsOn cX5_pointIsOn 3 (some .int) 5 81 4 (64 * 4) [.ref l0, .ref l1, .ref l2] hp sz ((some (.int o0), oh, oz) : oT) := by
  refine aM.of RX5 (by decide) rfl (Nat.le_of_ble_eq_true rfl) (fun K C => ?_)
  have hO : ((some (.int o0), oh, oz) : oT) = ((some (.int o0), oh, oz) : oT) := rfl
  refine r_lve (lv' := [(0, .ref l0), (1, .ref l1), (2, .ref l2)]) rfl ?_
  unfold f_X5_pointIsOn at h
  refine r_aload_n C 2 rfl dX5_pointIsOn_0 rfl ?_
  replace h := bd_i h
  obtain ⟨w1, e2, h⟩ := h
  refine k_gI C e2 rfl inX1_ (by decide) flX5_75 dX5_pointIsOn_1 ?_
  refine r_aload_n C 0 rfl dX5_pointIsOn_4 rfl ?_
  replace h := bd_i h
  obtain ⟨w3, e4, h⟩ := h
  refine k_gI C e4 rfl inX5_ (by decide) flX5_109 dX5_pointIsOn_5 ?_
  refine r_icmp_ne C (tgt := 37) dX5_pointIsOn_8 (by decide) (fun hc => ?_) (fun hc => ?_)
  · replace h := br_n hc h
    refine r_aload_n C 2 rfl dX5_pointIsOn_37 rfl ?_
    replace h := bd_i h
    obtain ⟨w5, e6, h⟩ := h
    refine k_gI C e6 rfl inX1_ (by decide) flX5_75 dX5_pointIsOn_38 ?_
    refine r_iconst C (v := 1) dX5_pointIsOn_41 (by decide) ?_
    refine r_icmp_ne C (tgt := 61) dX5_pointIsOn_42 (by decide) (fun hc => ?_) (fun hc => ?_)
    · replace h := br_n hc h
      refine r_aload_n C 2 rfl dX5_pointIsOn_61 rfl ?_
      replace h := bd_i h
      obtain ⟨w7, e8, h⟩ := h
      refine k_gI C e8 rfl inX1_ (by decide) flX5_75 dX5_pointIsOn_62 ?_
      refine r_iconst C (v := 4) dX5_pointIsOn_65 (by decide) ?_
      refine r_icmp_ne C (tgt := 96) dX5_pointIsOn_66 (by decide) (fun hc => ?_) (fun hc => ?_)
      · replace h := br_n hc h
        refine r_bipush C (v := -2) dX5_pointIsOn_96 (by decide) ?_
        cases h
        exact r_ireturn C (Eq.symm hO) dX5_pointIsOn_98
      · replace h := br_p hc h
        refine r_aload_n C 0 rfl dX5_pointIsOn_69 rfl ?_
        replace h := bd_i h
        obtain ⟨w9, e10, h⟩ := h
        refine k_gR C e10 rfl inX5_ (by decide) flX5_142 dX5_pointIsOn_70 ?_
        refine r_aload_n C 2 rfl dX5_pointIsOn_73 rfl ?_
        replace h := bd_i h
        obtain ⟨w11, e12, h⟩ := h
        refine k_gR C e12 rfl inX1_ (by decide) flX5_70 dX5_pointIsOn_74 ?_
        refine r_aload_n C 1 rfl dX5_pointIsOn_77 rfl ?_
        refine r_aload_n C 1 rfl dX5_pointIsOn_78 rfl ?_
        replace h := gd_t h
        obtain ⟨ho13, h⟩ := h
        obtain ⟨_, ho13⟩ := isO_s ho13
        replace h := bd_i h
        obtain ⟨⟨r15, hp16, z17⟩, q14, h⟩ := h
        refine q_callV C 0 3 (64 * 3) (k_X2_form q14) rfl ho13 rfl okX2_form inX2_form lkX5_299 rfl (Nat.le_of_ble_eq_true rfl) ⟨by decide, by decide⟩ dX5_pointIsOn_79 (by omega) (by omega) ?_
        refine r_lconst C (v := 0) dX5_pointIsOn_82 (by decide) ?_
        refine r_lne C (tgt := 91) dX5_pointIsOn_83 dX5_pointIsOn_84 (by decide) (fun hc => ?_) (fun hc => ?_)
        · replace h := br_n hc h
          refine r_iconst C (v := 0) dX5_pointIsOn_91 (by decide) ?_
          replace h := bd_i h
          obtain ⟨r19, q18, h⟩ := h
          refine q_callS C 0 3 (64 * 3) (k_X5_oneIf q18) rfl okX5_oneIf inX5_oneIf lkX5_129 rfl (Nat.le_of_ble_eq_true rfl) ⟨by decide, by decide⟩ dX5_pointIsOn_92 (by omega) (by omega) ?_
          cases h
          exact r_ireturn C (Eq.symm hO) dX5_pointIsOn_95
        · replace h := br_p hc h
          refine r_iconst C (v := 1) dX5_pointIsOn_87 (by decide) ?_
          refine r_goto C (tgt := 92) dX5_pointIsOn_88 (by decide) ?_
          replace h := bd_i h
          obtain ⟨r21, q20, h⟩ := h
          refine q_callS C 0 3 (64 * 3) (k_X5_oneIf q20) rfl okX5_oneIf inX5_oneIf lkX5_129 rfl (Nat.le_of_ble_eq_true rfl) ⟨by decide, by decide⟩ dX5_pointIsOn_92 (by omega) (by omega) ?_
          cases h
          exact r_ireturn C (Eq.symm hO) dX5_pointIsOn_95
    · replace h := br_p hc h
      refine r_aload_n C 0 rfl dX5_pointIsOn_45 rfl ?_
      replace h := bd_i h
      obtain ⟨w22, e23, h⟩ := h
      refine k_gR C e23 rfl inX5_ (by decide) flX5_86 dX5_pointIsOn_46 ?_
      refine r_aload_n C 1 rfl dX5_pointIsOn_49 rfl ?_
      refine r_aload_n C 2 rfl dX5_pointIsOn_50 rfl ?_
      replace h := bd_i h
      obtain ⟨w24, e25, h⟩ := h
      refine k_gR C e25 rfl inX1_ (by decide) flX5_70 dX5_pointIsOn_51 ?_
      replace h := gd_t h
      obtain ⟨ho26, h⟩ := h
      obtain ⟨_, ho26⟩ := isO_s ho26
      replace h := bd_i h
      obtain ⟨⟨r28, hp29, z30⟩, q27, h⟩ := h
      refine q_callV C 0 1 (64 * 1) (k_X4_pointIsOnLine q27) rfl ho26 rfl okX4_pointIsOnLine inX4_pointIsOnLine lkX5_296 rfl (Nat.le_of_ble_eq_true rfl) ⟨by decide, by decide⟩ dX5_pointIsOn_54 (by omega) (by omega) ?_
      replace h := bd_i h
      obtain ⟨r32, q31, h⟩ := h
      refine q_callS C 0 1 (64 * 1) (k_X5_oneIf q31) rfl okX5_oneIf inX5_oneIf lkX5_129 rfl (Nat.le_of_ble_eq_true rfl) ⟨by decide, by decide⟩ dX5_pointIsOn_57 (by omega) (by omega) ?_
      cases h
      exact r_ireturn C (Eq.symm hO) dX5_pointIsOn_60
  · replace h := br_p hc h
    refine r_aload_n C 0 rfl dX5_pointIsOn_11 rfl ?_
    replace h := bd_i h
    obtain ⟨w33, e34, h⟩ := h
    refine k_gR C e34 rfl inX5_ (by decide) flX5_142 dX5_pointIsOn_12 ?_
    refine r_aload_n C 1 rfl dX5_pointIsOn_15 rfl ?_
    refine r_aload_n C 2 rfl dX5_pointIsOn_16 rfl ?_
    replace h := bd_i h
    obtain ⟨w35, e36, h⟩ := h
    refine k_gR C e36 rfl inX1_ (by decide) flX5_70 dX5_pointIsOn_17 ?_
    replace h := gd_t h
    obtain ⟨ho37, h⟩ := h
    obtain ⟨_, ho37⟩ := isO_s ho37
    replace h := bd_i h
    obtain ⟨r39, q38, h⟩ := h
    refine q_callV C 0 4 (64 * 4) (k_X2_dot q38) rfl ho37 rfl okX2_dot inX2_dot lkX5_245 rfl (Nat.le_of_ble_eq_true rfl) ⟨by decide, by decide⟩ dX5_pointIsOn_20 (by omega) (by omega) ?_
    refine r_lconst C (v := 0) dX5_pointIsOn_23 (by decide) ?_
    refine r_lne C (tgt := 32) dX5_pointIsOn_24 dX5_pointIsOn_25 (by decide) (fun hc => ?_) (fun hc => ?_)
    · replace h := br_n hc h
      refine r_iconst C (v := 0) dX5_pointIsOn_32 (by decide) ?_
      replace h := bd_i h
      obtain ⟨r41, q40, h⟩ := h
      refine q_callS C 0 4 (64 * 4) (k_X5_oneIf q40) rfl okX5_oneIf inX5_oneIf lkX5_129 rfl (Nat.le_of_ble_eq_true rfl) ⟨by decide, by decide⟩ dX5_pointIsOn_33 (by omega) (by omega) ?_
      cases h
      exact r_ireturn C (Eq.symm hO) dX5_pointIsOn_36
    · replace h := br_p hc h
      refine r_iconst C (v := 1) dX5_pointIsOn_28 (by decide) ?_
      refine r_goto C (tgt := 33) dX5_pointIsOn_29 (by decide) ?_
      replace h := bd_i h
      obtain ⟨r43, q42, h⟩ := h
      refine q_callS C 0 4 (64 * 4) (k_X5_oneIf q42) rfl okX5_oneIf inX5_oneIf lkX5_129 rfl (Nat.le_of_ble_eq_true rfl) ⟨by decide, by decide⟩ dX5_pointIsOn_33 (by omega) (by omega) ?_
      cases h
      exact r_ireturn C (Eq.symm hO) dX5_pointIsOn_36
