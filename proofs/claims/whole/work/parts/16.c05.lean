noncomputable def f_X2_isMultiple_L16 (hp : cH) (l0 : Nat) (l1 : Nat) (l2 : Nat) (l3 : Int32) (l4 : Int32) : Option (Int32 ⊕ (Unit ⊕ Int32)) := (aN hp l1).bind fun w5 => if w5 ≤ l4 then (some (.inr (.inl ()))) else ((lJ hp l1 l4).bind fun w7 => (gR hp l0 2 0).bind fun w9 => (lJ hp l1 l3).bind fun w11 => (lJ hp l2 l4).bind fun w13 => if isO hp w9 0 = true then (f_X0_times hp w9 w11 w13).bind fun r17 => if w7 = r17 then (some (.inl (l4 + 1))) else (some (.inr (.inr ((0 : Int32))))) else none)
noncomputable def f_X2_isMultiple (hp : cH) (l0 : Nat) (l1 : Nat) (l2 : Nat) : Option Int32 := (f_X2_lead hp l2).bind fun r2 => (aN hp l1).bind fun w3 => if r2 < w3 then ((itX (f_X2_isMultiple_L16 hp l0 l1 l2 r2) ((0 : Int32))).bind fun r19 => match r19 with | .inl _ => (some ((1 : Int32))) | .inr o20 => some o20) else (some ((0 : Int32)))
set_option maxHeartbeats 4000000 in
set_option maxRecDepth 100000 in
theorem w_X2_isMultiple_L16 {K : kT} {O : oT} (C : aC K cX2_isMultiple RX2 "isMultiple" 1 18 0 (64 * 0) 5 (some .boolean) O) {hp : cH} {sz : Nat} {l0 : Nat} {l1 : Nat} {l2 : Nat} {l3 : Int32} {l4 : Int32} {r : (Unit ⊕ Int32)} (h : itX (f_X2_isMultiple_L16 hp l0 l1 l2 l3) l4 = some r) (hr : Sum.elim (fun r => aW K hp sz 0 (64 * 0) 53 [] []) (fun o => ((some (.int o), hp, sz) : oT) = O) r) : aW K hp sz 0 (64 * 0) 16 [(0, .ref l0), (1, .ref l1), (2, .ref l2), (3, .int l3), (4, .int l4)] [] := by
  refine it_walk (f := f_X2_isMultiple_L16 hp l0 l1 l2 l3) (P := fun s => aW K hp sz 0 (64 * 0) 16 [(0, .ref l0), (1, .ref l1), (2, .ref l2), (3, .int l3), (4, .int s)] []) (R := fun r => Sum.elim (fun r => aW K hp sz 0 (64 * 0) 53 [] []) (fun o => ((some (.int o), hp, sz) : oT) = O) r) ?_ h hr
  clear h hr
  rintro l4 x h kl kr
  show aW K hp sz 0 (64 * 0) 16 [(0, .ref l0), (1, .ref l1), (2, .ref l2), (3, .int l3), (4, .int l4)] []
  replace h : f_X2_isMultiple_L16 hp l0 l1 l2 l3 l4 = some x := h
  unfold f_X2_isMultiple_L16 at h
  refine r_iload C 4 rfl dX2_isMultiple_16 ?_
  refine r_aload_n C 1 rfl dX2_isMultiple_18 rfl ?_
  replace h := bd_i h
  obtain ⟨w5, e6, h⟩ := h
  refine k_alen C e6 dX2_isMultiple_19 ?_
  refine r_icmp_ge C (tgt := 53) dX2_isMultiple_20 (by decide) (fun hc => ?_) (fun hc => ?_)
  · replace h := br_p hc h
    refine r_lv (lv' := []) [] rfl ?_
    exact kr _ (sm_i h)
  · replace h := br_n hc h
    refine r_aload_n C 1 rfl dX2_isMultiple_23 rfl ?_
    refine r_iload C 4 rfl dX2_isMultiple_24 ?_
    replace h := bd_i h
    obtain ⟨w7, e8, h⟩ := h
    refine k_lJ C e8 dX2_isMultiple_26 ?_
    refine r_aload_n C 0 rfl dX2_isMultiple_27 rfl ?_
    replace h := bd_i h
    obtain ⟨w9, e10, h⟩ := h
    refine k_gR C e10 rfl inX2_ (by decide) flX2_7 dX2_isMultiple_28 ?_
    refine r_aload_n C 1 rfl dX2_isMultiple_31 rfl ?_
    refine r_iload_n C 3 rfl dX2_isMultiple_32 rfl ?_
    replace h := bd_i h
    obtain ⟨w11, e12, h⟩ := h
    refine k_lJ C e12 dX2_isMultiple_33 ?_
    refine r_aload_n C 2 rfl dX2_isMultiple_34 rfl ?_
    refine r_iload C 4 rfl dX2_isMultiple_35 ?_
    replace h := bd_i h
    obtain ⟨w13, e14, h⟩ := h
    refine k_lJ C e14 dX2_isMultiple_37 ?_
    replace h := gd_t h
    obtain ⟨ho15, h⟩ := h
    obtain ⟨_, ho15⟩ := isO_s ho15
    replace h := bd_i h
    obtain ⟨r17, q16, h⟩ := h
    refine q_callV C 2 0 (64 * 0) (k_X0_times q16) rfl ho15 rfl okX0_times inX0_times lkX2_37 rfl (Nat.le_of_ble_eq_true rfl) ⟨by decide, by decide⟩ dX2_isMultiple_38 (by omega) (by omega) ?_
    refine r_leq C (tgt := 47) dX2_isMultiple_41 dX2_isMultiple_42 (by decide) (fun hc => ?_) (fun hc => ?_)
    · replace h := br_p hc h
      refine r_iinc C (v := l4 + 1) (lv' := [(4, .int (l4 + 1)), (0, .ref l0), (1, .ref l1), (2, .ref l2), (3, .int l3)]) 4 rfl dX2_isMultiple_47 rfl (by decide) rfl ?_
      refine r_goto C (tgt := 16) dX2_isMultiple_50 (by decide) ?_
      refine r_lv (lv' := [(0, .ref l0), (1, .ref l1), (2, .ref l2), (3, .int l3), (4, .int (l4 + 1))]) [1, 2, 3, 4, 0] rfl ?_
      exact kl _ (sm_i h)
    · replace h := br_n hc h
      refine r_iconst C (v := 0) dX2_isMultiple_45 (by decide) ?_
      exact r_zreturn C rfl (Eq.symm (kr _ (sm_i h))) dX2_isMultiple_46
set_option maxHeartbeats 4000000 in
set_option maxRecDepth 100000 in
theorem k_X2_isMultiple {G : gT} {hp : cH} {sz : Nat} {l0 : Nat} {l1 : Nat} {l2 : Nat} {o0 : Int32} (h : f_X2_isMultiple hp l0 l1 l2 = some o0) : aM G yX2_isMultiple cX2_isMultiple 5 (some .boolean) 1 18 0 (64 * 0) [.ref l0, .ref l1, .ref l2] hp sz ((some (.int o0), hp, sz) : oT) := by
  refine aM.of RX2 (by decide) rfl (Nat.le_of_ble_eq_true rfl) (fun K C => ?_)
  have hO : ((some (.int o0), hp, sz) : oT) = ((some (.int o0), hp, sz) : oT) := rfl
  refine r_lve (lv' := [(0, .ref l0), (1, .ref l1), (2, .ref l2)]) rfl ?_
  unfold f_X2_isMultiple at h
  refine r_aload_n C 2 rfl dX2_isMultiple_0 rfl ?_
  replace h := bd_i h
  obtain ⟨r2, q1, h⟩ := h
  refine q_callS C 0 0 (64 * 0) (k_X2_lead q1) rfl okX2_lead inX2_lead lkX2_17 rfl (Nat.le_of_ble_eq_true rfl) ⟨by decide, by decide⟩ dX2_isMultiple_1 (by omega) (by omega) ?_
  refine r_istore_n C (lv' := [(3, .int r2), (0, .ref l0), (1, .ref l1), (2, .ref l2)]) dX2_isMultiple_4 rfl (by decide) rfl ?_
  refine r_iload_n C 0 rfl dX2_isMultiple_5 rfl ?_
  refine r_aload_n C 2 rfl dX2_isMultiple_6 rfl ?_
  replace h := bd_i h
  obtain ⟨w3, e4, h⟩ := h
  refine k_alen C e4 dX2_isMultiple_7 ?_
  refine r_icmp_lt C (tgt := 13) dX2_isMultiple_8 (by decide) (fun hc => ?_) (fun hc => ?_)
  · replace h := br_p hc h
    refine r_iconst C (v := 0) dX2_isMultiple_13 (by decide) ?_
    refine r_istore C (lv' := [(4, .int ((0 : Int32))), (3, .int r2), (0, .ref l0), (1, .ref l1), (2, .ref l2)]) dX2_isMultiple_14 (by decide) rfl ?_
    refine r_lv (lv' := [(0, .ref l0), (1, .ref l1), (2, .ref l2), (3, .int r2), (4, .int ((0 : Int32)))]) [2, 3, 4, 1, 0] rfl ?_
    replace h := bd_i h
    obtain ⟨r19, q18, h⟩ := h
    rcases r19 with _ | o20
    · refine w_X2_isMultiple_L16 C  q18 ?_
      show aW K hp sz 0 (64 * 0) 53 [] []
      refine r_iconst C (v := 1) dX2_isMultiple_53 (by decide) ?_
      cases h
      exact r_zreturn C rfl (Eq.symm hO) dX2_isMultiple_54
    · cases h
      exact w_X2_isMultiple_L16 C  q18 hO
  · replace h := br_n hc h
    refine r_iconst C (v := 0) dX2_isMultiple_11 (by decide) ?_
    cases h
    exact r_zreturn C rfl (Eq.symm hO) dX2_isMultiple_12
noncomputable def f_X2_timesUntilBack_L20 (sz : Nat) (l0 : Nat) (l1 : Nat) (l2 : Nat) (l3 : Int32) (l4 : Nat) (l5 : Nat) (l6 : Int32) (hp : cH) : Option ((Nat × Nat × Int32 × cH) ⊕ (cH ⊕ (Int32 × cH × Nat))) := if l3 < l6 then (some (.inr (.inl hp))) else (if isO hp l0 2 = true then (f_X2_imageInto hp l0 l5 l1 l4).bind fun hp11 => if isO hp11 l0 2 = true then (f_X2_isMultiple hp11 l0 l5 l2).bind fun r14 => if r14 = 0 then (some (.inl (l5, l4, l6 + 1, hp11))) else (some (.inr (.inr (l6, hp11, sz)))) else none else none)
noncomputable def f_X2_timesUntilBack (hp : cH) (sz : Nat) (l0 : Nat) (l1 : Nat) (l2 : Nat) (l3 : Int32) : Option (Int32 × cH × Nat) := (nC hp sz l2).bind fun hp1 => (aJ hp1 sz).bind fun w3 => (gI hp1 l0 2 1).bind fun w5 => (nJ hp1 ((sz + 1)) w5).bind fun hp7 => (itX (fun s => f_X2_timesUntilBack_L20 (((sz + 1) + 1)) l0 l1 l2 l3 s.1 s.2.1 s.2.2.1 s.2.2.2) (sz, (sz + 1), (1 : Int32), hp7)).bind fun r17 => match r17 with | .inl hp15 => (some ((0 : Int32), hp15, ((sz + 1) + 1))) | .inr o18 => some o18
set_option maxHeartbeats 4000000 in
set_option maxRecDepth 100000 in
theorem w_X2_timesUntilBack_L20 {K : kT} {O : oT} (C : aC K cX2_timesUntilBack RX2 "timesUntilBack" 2 38 2 (64 * 2) 8 (some .int) O) {hp : cH} {sz rc : Nat} {l0 : Nat} {l1 : Nat} {l2 : Nat} {l3 : Int32} {l4 : Nat} {l5 : Nat} {l6 : Int32} {r : (cH ⊕ (Int32 × cH × Nat))} (h : itX (fun s => f_X2_timesUntilBack_L20 sz l0 l1 l2 l3 s.1 s.2.1 s.2.2.1 s.2.2.2) (l4, l5, l6, hp) = some r) (hr : Sum.elim (fun r => aW K r sz rc (64 * rc) 66 [] []) (fun o => ((some (.int o.1), o.2.1, o.2.2) : oT) = O) r) : aW K hp sz rc (64 * rc) 20 [(0, .ref l0), (1, .ref l1), (2, .ref l2), (3, .int l3), (4, .ref l4), (5, .ref l5), (6, .int l6)] [] := by
  refine it_walk (f := fun s => f_X2_timesUntilBack_L20 sz l0 l1 l2 l3 s.1 s.2.1 s.2.2.1 s.2.2.2) (P := fun s => aW K s.2.2.2 sz rc (64 * rc) 20 [(0, .ref l0), (1, .ref l1), (2, .ref l2), (3, .int l3), (4, .ref s.1), (5, .ref s.2.1), (6, .int s.2.2.1)] []) (R := fun r => Sum.elim (fun r => aW K r sz rc (64 * rc) 66 [] []) (fun o => ((some (.int o.1), o.2.1, o.2.2) : oT) = O) r) ?_ h hr
  clear h hr
  rintro ⟨l4, l5, l6, hp⟩ x h kl kr
  show aW K hp sz rc (64 * rc) 20 [(0, .ref l0), (1, .ref l1), (2, .ref l2), (3, .int l3), (4, .ref l4), (5, .ref l5), (6, .int l6)] []
  replace h : f_X2_timesUntilBack_L20 sz l0 l1 l2 l3 l4 l5 l6 hp = some x := h
  unfold f_X2_timesUntilBack_L20 at h
  refine r_iload C 6 rfl dX2_timesUntilBack_20 ?_
  refine r_iload_n C 3 rfl dX2_timesUntilBack_22 rfl ?_
  refine r_icmp_gt C (tgt := 66) dX2_timesUntilBack_23 (by decide) (fun hc => ?_) (fun hc => ?_)
  · replace h := br_p hc h
    refine r_lv (lv' := []) [] rfl ?_
    exact kr _ (sm_i h)
  · replace h := br_n hc h
    refine r_aload_n C 0 rfl dX2_timesUntilBack_26 rfl ?_
    refine r_aload C 5 rfl dX2_timesUntilBack_27 ?_
    refine r_aload_n C 1 rfl dX2_timesUntilBack_29 rfl ?_
    refine r_aload C 4 rfl dX2_timesUntilBack_30 ?_
    replace h := gd_t h
    obtain ⟨ho9, h⟩ := h
    obtain ⟨_, ho9⟩ := isO_s ho9
    replace h := bd_i h
    obtain ⟨hp11, q10, h⟩ := h
    refine q_callVv C 0 rc (64 * rc) (k_X2_imageInto q10) rfl ho9 rfl okX2_imageInto inX2_imageInto lkX2_44 rfl (Nat.le_of_ble_eq_true rfl) ⟨by decide, by decide⟩ dX2_timesUntilBack_32 (by omega) (by omega) ?_
    refine r_aload_n C 0 rfl dX2_timesUntilBack_35 rfl ?_
    refine r_aload C 5 rfl dX2_timesUntilBack_36 ?_
    refine r_aload_n C 2 rfl dX2_timesUntilBack_38 rfl ?_
    replace h := gd_t h
    obtain ⟨ho12, h⟩ := h
    obtain ⟨_, ho12⟩ := isO_s ho12
    replace h := bd_i h
    obtain ⟨r14, q13, h⟩ := h
    refine q_callV C 0 rc (64 * rc) (k_X2_isMultiple q13) rfl ho12 rfl okX2_isMultiple inX2_isMultiple lkX2_90 rfl (Nat.le_of_ble_eq_true rfl) ⟨by decide, by decide⟩ dX2_timesUntilBack_39 (by omega) (by omega) ?_
    refine r_if_eq C (tgt := 48) dX2_timesUntilBack_42 (by decide) (fun hc => ?_) (fun hc => ?_)
    · replace h := br_p hc h
      refine r_aload C 4 rfl dX2_timesUntilBack_48 ?_
      refine r_astore C (lv' := [(7, .ref l4), (0, .ref l0), (1, .ref l1), (2, .ref l2), (3, .int l3), (4, .ref l4), (5, .ref l5), (6, .int l6)]) dX2_timesUntilBack_50 (by decide) rfl ?_
      refine r_aload C 6 rfl dX2_timesUntilBack_52 ?_
      refine r_astore C (lv' := [(4, .ref l5), (7, .ref l4), (0, .ref l0), (1, .ref l1), (2, .ref l2), (3, .int l3), (5, .ref l5), (6, .int l6)]) dX2_timesUntilBack_54 (by decide) rfl ?_
      refine r_aload C 1 rfl dX2_timesUntilBack_56 ?_
      refine r_astore C (lv' := [(5, .ref l4), (4, .ref l5), (7, .ref l4), (0, .ref l0), (1, .ref l1), (2, .ref l2), (3, .int l3), (6, .int l6)]) dX2_timesUntilBack_58 (by decide) rfl ?_
      refine r_iinc C (v := l6 + 1) (lv' := [(6, .int (l6 + 1)), (5, .ref l4), (4, .ref l5), (7, .ref l4), (0, .ref l0), (1, .ref l1), (2, .ref l2), (3, .int l3)]) 7 rfl dX2_timesUntilBack_60 rfl (by decide) rfl ?_
      refine r_goto C (tgt := 20) dX2_timesUntilBack_63 (by decide) ?_
      refine r_lv (lv' := [(0, .ref l0), (1, .ref l1), (2, .ref l2), (3, .int l3), (4, .ref l5), (5, .ref l4), (6, .int (l6 + 1))]) [4, 5, 6, 7, 2, 1, 0] rfl ?_
      exact kl _ (sm_i h)
    · replace h := br_n hc h
      refine r_iload C 6 rfl dX2_timesUntilBack_45 ?_
      exact r_ireturn C (Eq.symm (kr _ (sm_i h))) dX2_timesUntilBack_47
set_option maxHeartbeats 4000000 in
set_option maxRecDepth 100000 in
theorem k_X2_timesUntilBack {G : gT} {hp : cH} {sz : Nat} {l0 : Nat} {l1 : Nat} {l2 : Nat} {l3 : Int32} {o0 : Int32} {oh : cH} {oz : Nat} (h : f_X2_timesUntilBack hp sz l0 l1 l2 l3 = some (o0, oh, oz)) : aM G yX2_timesUntilBack cX2_timesUntilBack 8 (some .int) 2 38 2 (64 * 2) [.ref l0, .ref l1, .ref l2, .int l3] hp sz ((some (.int o0), oh, oz) : oT) := by
  refine aM.of RX2 (by decide) rfl (Nat.le_of_ble_eq_true rfl) (fun K C => ?_)
  have hO : ((some (.int o0), oh, oz) : oT) = ((some (.int o0), oh, oz) : oT) := rfl
  refine r_lve (lv' := [(0, .ref l0), (1, .ref l1), (2, .ref l2), (3, .int l3)]) rfl ?_
  unfold f_X2_timesUntilBack at h
  refine r_aload_n C 2 rfl dX2_timesUntilBack_0 rfl ?_
  replace h := bd_i h
  obtain ⟨hp1, e2, h⟩ := h
  refine k_nC C 1 lkX2_21 e2 ⟨by decide, (Nat.le_of_ble_eq_true rfl)⟩ dX2_timesUntilBack_1 (by omega) ?_
  replace h := bd_i h
  obtain ⟨w3, e4, h⟩ := h
  refine k_cast C cnX2_22 e4 dX2_timesUntilBack_4 ?_
  refine r_astore C (lv' := [(4, .ref sz), (0, .ref l0), (1, .ref l1), (2, .ref l2), (3, .int l3)]) dX2_timesUntilBack_7 (by decide) rfl ?_
  refine r_aload_n C 1 rfl dX2_timesUntilBack_9 rfl ?_
  replace h := bd_i h
  obtain ⟨w5, e6, h⟩ := h
  refine k_gI C e6 rfl inX2_ (by decide) flX2_13 dX2_timesUntilBack_10 ?_
  replace h := bd_i h
  obtain ⟨hp7, e8, h⟩ := h
  refine k_nJ C 0 e8 dX2_timesUntilBack_13 (by omega) ?_
  refine r_astore C (lv' := [(5, .ref ((sz + 1))), (4, .ref sz), (0, .ref l0), (1, .ref l1), (2, .ref l2), (3, .int l3)]) dX2_timesUntilBack_15 (by decide) rfl ?_
  refine r_iconst C (v := 1) dX2_timesUntilBack_17 (by decide) ?_
  refine r_istore C (lv' := [(6, .int ((1 : Int32))), (5, .ref ((sz + 1))), (4, .ref sz), (0, .ref l0), (1, .ref l1), (2, .ref l2), (3, .int l3)]) dX2_timesUntilBack_18 (by decide) rfl ?_
  refine r_lv (lv' := [(0, .ref l0), (1, .ref l1), (2, .ref l2), (3, .int l3), (4, .ref sz), (5, .ref ((sz + 1))), (6, .int ((1 : Int32)))]) [3, 4, 5, 6, 2, 1, 0] rfl ?_
  replace h := bd_i h
  obtain ⟨r17, q16, h⟩ := h
  rcases r17 with hp15 | o18
  · refine w_X2_timesUntilBack_L20 C  q16 ?_
    show aW K hp15 (((sz + 1) + 1)) 0 (64 * 0) 66 [] []
    refine r_iconst C (v := 0) dX2_timesUntilBack_66 (by decide) ?_
    cases h
    exact r_ireturn C (Eq.symm hO) dX2_timesUntilBack_67
  · cases h
    exact w_X2_timesUntilBack_L20 C  q16 hO
noncomputable def f_X2_power_L10J31 (hp : cH) (sz : Nat) (rc : Nat) (l0 : Nat) (l3 : Nat) (l4 : Nat) (l5 : Int32) : Option ((Nat × Nat × Int32 × cH × Nat × Nat) ⊕ (Nat × cH × Nat × Nat)) := if isO hp l0 2 = true then if 1 ≤ rc then (f_X2_product hp sz l0 l4 l4).bind fun (r3, hp4, z5) => some (.inl (l3, r3, l5 >>> (((1 : Int32)) &&& 31), hp4, z5, (rc - 1))) else none else none
noncomputable def f_X2_power_L10 (l0 : Nat) (l3 : Nat) (l4 : Nat) (l5 : Int32) (hp : cH) (sz : Nat) (rc : Nat) : Option ((Nat × Nat × Int32 × cH × Nat × Nat) ⊕ (Nat × cH × Nat × Nat)) := if l5 ≤ 0 then (some (.inr (l3, hp, sz, rc))) else (if (l5 &&& ((1 : Int32))) = ((1 : Int32)) then (if isO hp l0 2 = true then if 1 ≤ rc then (f_X2_product hp sz l0 l3 l4).bind fun (r8, hp9, z10) => f_X2_power_L10J31 hp9 z10 (rc - 1) l0 r8 l4 l5 else none else none) else (f_X2_power_L10J31 hp sz rc l0 l3 l4 l5))
noncomputable def f_X2_power (hp : cH) (sz : Nat) (l0 : Nat) (l1 : Nat) (l2 : Int32) : Option (Nat × cH × Nat) := (itX (fun s => f_X2_power_L10 l0 s.1 s.2.1 s.2.2.1 s.2.2.2.1 s.2.2.2.2.1 s.2.2.2.2.2) (l1, l1, l2 - ((1 : Int32)), hp, sz, 20)).bind fun (y11, hp12, z13, rc14) => some (y11, hp12, z13)
set_option maxHeartbeats 4000000 in
set_option maxRecDepth 100000 in
theorem w_X2_power_L10J31 {K : kT} {O : oT} (C : aC K cX2_power RX2 "power" 2 39 20 (64 * 20) 6 (some (.array .long)) O) {hp : cH} {sz rc : Nat} {l0 : Nat} {l3 : Nat} {l4 : Nat} {l5 : Int32}  {x : (Nat × Nat × Int32 × cH × Nat × Nat) ⊕ (Nat × cH × Nat × Nat)} (h : f_X2_power_L10J31 hp sz rc l0 l3 l4 l5 = some x) (kl : ∀ s, x = .inl s → aW K s.2.2.2.1 s.2.2.2.2.1 s.2.2.2.2.2 (64 * s.2.2.2.2.2) 10 [(0, .ref l0), (3, .ref s.1), (4, .ref s.2.1), (5, .int s.2.2.1)] []) (kr : ∀ r, x = .inr r → aW K r.2.1 r.2.2.1 r.2.2.2 (64 * r.2.2.2) 50 [(3, .ref r.1)] []) : aW K hp sz rc (64 * rc) 31 [(0, .ref l0), (3, .ref l3), (4, .ref l4), (5, .int l5)] [] := by
  unfold f_X2_power_L10J31 at h
  refine r_aload_n C 0 rfl dX2_power_31 rfl ?_
  refine r_aload C 2 rfl dX2_power_32 ?_
  refine r_aload C 2 rfl dX2_power_34 ?_
  replace h := gd_t h
  obtain ⟨ho1, h⟩ := h
  obtain ⟨_, ho1⟩ := isO_s ho1
  replace h := gd_t h
  obtain ⟨hrc, h⟩ := h
  replace h := bd_i h
  obtain ⟨⟨r3, hp4, z5⟩, q2, h⟩ := h
  refine q_callV C 0 (rc - 1) (64 * (rc - 1)) (k_X2_product q2) rfl ho1 rfl okX2_product inX2_product lkX2_56 rfl (Nat.le_of_ble_eq_true rfl) ⟨by decide, by decide⟩ dX2_power_36 (by omega) (by omega) ?_
  refine r_astore C (lv' := [(4, .ref r3), (0, .ref l0), (3, .ref l3), (5, .int l5)]) dX2_power_39 (by decide) rfl ?_
  refine r_iload C 3 rfl dX2_power_41 ?_
  refine r_iconst C (v := 1) dX2_power_43 (by decide) ?_
  refine r_ishr C dX2_power_44 ?_
  refine r_istore C (lv' := [(5, .int (l5 >>> (((1 : Int32)) &&& 31))), (4, .ref r3), (0, .ref l0), (3, .ref l3)]) dX2_power_45 (by decide) rfl ?_
  refine r_goto C (tgt := 10) dX2_power_47 (by decide) ?_
  refine r_lv (lv' := [(0, .ref l0), (3, .ref l3), (4, .ref r3), (5, .int (l5 >>> (((1 : Int32)) &&& 31)))]) [2, 3, 1, 0] rfl ?_
  exact kl _ (sm_i h)
set_option maxHeartbeats 4000000 in
set_option maxRecDepth 100000 in
theorem w_X2_power_L10 {K : kT} {O : oT} (C : aC K cX2_power RX2 "power" 2 39 20 (64 * 20) 6 (some (.array .long)) O) {hp : cH} {sz rc : Nat} {l0 : Nat} {l3 : Nat} {l4 : Nat} {l5 : Int32} {e3 : Nat} {eh : cH} {ez : Nat} {ec : Nat} (h : itX (fun s => f_X2_power_L10 l0 s.1 s.2.1 s.2.2.1 s.2.2.2.1 s.2.2.2.2.1 s.2.2.2.2.2) (l3, l4, l5, hp, sz, rc) = some (e3, eh, ez, ec)) (hr : aW K eh ez ec (64 * ec) 50 [(3, .ref e3)] []) : aW K hp sz rc (64 * rc) 10 [(0, .ref l0), (3, .ref l3), (4, .ref l4), (5, .int l5)] [] := by
  refine it_walk (f := fun s => f_X2_power_L10 l0 s.1 s.2.1 s.2.2.1 s.2.2.2.1 s.2.2.2.2.1 s.2.2.2.2.2) (P := fun s => aW K s.2.2.2.1 s.2.2.2.2.1 s.2.2.2.2.2 (64 * s.2.2.2.2.2) 10 [(0, .ref l0), (3, .ref s.1), (4, .ref s.2.1), (5, .int s.2.2.1)] []) (R := fun r => aW K r.2.1 r.2.2.1 r.2.2.2 (64 * r.2.2.2) 50 [(3, .ref r.1)] []) ?_ h hr
  clear h hr
  rintro ⟨l3, l4, l5, hp, sz, rc⟩ x h kl kr
  show aW K hp sz rc (64 * rc) 10 [(0, .ref l0), (3, .ref l3), (4, .ref l4), (5, .int l5)] []
  replace h : f_X2_power_L10 l0 l3 l4 l5 hp sz rc = some x := h
  unfold f_X2_power_L10 at h
  refine r_iload C 3 rfl dX2_power_10 ?_
  refine r_if_le C (tgt := 50) dX2_power_12 (by decide) (fun hc => ?_) (fun hc => ?_)
  · replace h := br_p hc h
    refine r_lv (lv' := [(3, .ref l3)]) [1] rfl ?_
    exact kr _ (sm_i h)
  · replace h := br_n hc h
    refine r_iload C 3 rfl dX2_power_15 ?_
    refine r_iconst C (v := 1) dX2_power_17 (by decide) ?_
    refine r_iand C dX2_power_18 ?_
    refine r_iconst C (v := 1) dX2_power_19 (by decide) ?_
    refine r_icmp_ne C (tgt := 31) dX2_power_20 (by decide) (fun hc => ?_) (fun hc => ?_)
    · replace h := br_n hc h
      refine r_lv (lv' := [(0, .ref l0), (3, .ref l3), (4, .ref l4), (5, .int l5)]) [0, 1, 2, 3] rfl ?_
      exact w_X2_power_L10J31 C  h kl kr
    · replace h := br_p hc h
      refine r_aload_n C 0 rfl dX2_power_23 rfl ?_
      refine r_aload_n C 1 rfl dX2_power_24 rfl ?_
      refine r_aload C 2 rfl dX2_power_25 ?_
      replace h := gd_t h
      obtain ⟨ho6, h⟩ := h
      obtain ⟨_, ho6⟩ := isO_s ho6
      replace h := gd_t h
      obtain ⟨hrc, h⟩ := h
      replace h := bd_i h
      obtain ⟨⟨r8, hp9, z10⟩, q7, h⟩ := h
      refine q_callV C 0 (rc - 1) (64 * (rc - 1)) (k_X2_product q7) rfl ho6 rfl okX2_product inX2_product lkX2_56 rfl (Nat.le_of_ble_eq_true rfl) ⟨by decide, by decide⟩ dX2_power_27 (by omega) (by omega) ?_
      refine r_astore_n C (lv' := [(3, .ref r8), (0, .ref l0), (4, .ref l4), (5, .int l5)]) dX2_power_30 rfl (by decide) rfl ?_
      refine r_lv (lv' := [(0, .ref l0), (3, .ref r8), (4, .ref l4), (5, .int l5)]) [1, 0, 2, 3] rfl ?_
      exact w_X2_power_L10J31 C  h kl kr
set_option maxHeartbeats 4000000 in
set_option maxRecDepth 100000 in
theorem k_X2_power {G : gT} {hp : cH} {sz : Nat} {l0 : Nat} {l1 : Nat} {l2 : Int32} {o0 : Nat} {oh : cH} {oz : Nat} (h : f_X2_power hp sz l0 l1 l2 = some (o0, oh, oz)) : aM G yX2_power cX2_power 6 (some (.array .long)) 2 39 20 (64 * 20) [.ref l0, .ref l1, .int l2] hp sz ((some (.ref o0), oh, oz) : oT) := by
  refine aM.of RX2 (by decide) rfl (Nat.le_of_ble_eq_true rfl) (fun K C => ?_)
  have hO : ((some (.ref o0), oh, oz) : oT) = ((some (.ref o0), oh, oz) : oT) := rfl
  refine r_lve (lv' := [(0, .ref l0), (1, .ref l1), (2, .int l2)]) rfl ?_
  unfold f_X2_power at h
  refine r_aload_n C 1 rfl dX2_power_0 rfl ?_
  refine r_astore_n C (lv' := [(3, .ref l1), (0, .ref l0), (1, .ref l1), (2, .int l2)]) dX2_power_1 rfl (by decide) rfl ?_
  refine r_aload_n C 2 rfl dX2_power_2 rfl ?_
  refine r_astore C (lv' := [(4, .ref l1), (3, .ref l1), (0, .ref l0), (1, .ref l1), (2, .int l2)]) dX2_power_3 (by decide) rfl ?_
  refine r_iload_n C 4 rfl dX2_power_5 rfl ?_
  refine r_iconst C (v := 1) dX2_power_6 (by decide) ?_
  refine r_isub C dX2_power_7 ?_
  refine r_istore C (lv' := [(5, .int (l2 - ((1 : Int32)))), (4, .ref l1), (3, .ref l1), (0, .ref l0), (1, .ref l1), (2, .int l2)]) dX2_power_8 (by decide) rfl ?_
  refine r_lv (lv' := [(0, .ref l0), (3, .ref l1), (4, .ref l1), (5, .int (l2 - ((1 : Int32))))]) [3, 2, 1, 0] rfl ?_
  replace h := bd_i h
  obtain ⟨⟨y11, hp12, z13, rc14⟩, q15, h⟩ := h
  refine w_X2_power_L10 C  q15 ?_
  refine r_aload_n C 0 rfl dX2_power_50 rfl ?_
  cases h
  exact r_areturnA C (Or.inr ⟨_, rfl⟩) (Eq.symm hO) dX2_power_51
noncomputable def f_X5_order_L22 (l0 : Nat) (l2 : Nat) (l3 : Int32) (l4 : Int32) (hp : cH) (sz : Nat) (rc : Nat) : Option ((Nat × Int32 × Int32 × cH × Nat × Nat) ⊕ ((Int32 × cH × Nat × Nat) ⊕ (Int32 × cH × Nat))) := (gI hp l0 5 5).bind fun w7 => if (w7 + ((2 : Int32))) ≤ l4 then (some (.inr (.inl (l3, hp, sz, rc)))) else ((gR hp l0 5 8).bind fun w9 => (gR hp l0 5 8).bind fun w11 => if isO hp w11 2 = true then if 1 ≤ rc then (f_X2_framePoint hp sz w11 l4).bind fun (r15, hp16, z17) => if l3 = 0 then none else if isO hp16 w9 2 = true then if 2 ≤ (rc - 1) then (f_X2_timesUntilBack hp16 z17 w9 l2 r15 (((1000 : Int32)) / l3)).bind fun (r20, hp21, z22) => if r20 = 0 then (some (.inr (.inr ((-1 : Int32), hp21, z22)))) else ((gR hp21 l0 5 8).bind fun w23 => if isO hp21 w23 2 = true then if 20 ≤ ((rc - 1) - 2) then (f_X2_power hp21 z22 w23 l2 r20).bind fun (r27, hp28, z29) => some (.inl (r27, l3 * r20, l4 + 1, hp28, z29, (((rc - 1) - 2) - 20))) else none else none) else none else none else none else none)
noncomputable def f_X5_order (hp : cH) (sz : Nat) (l0 : Nat) (l1 : Int32) : Option (Int32 × cH × Nat) := (gR hp l0 5 0).bind fun w1 => if isO hp w1 3 = true then (f_X3_row hp w1 l1 ((3 : Int32))).bind fun r5 => Option.elim r5 (some ((-2 : Int32), hp, sz)) (fun a6 => (itX (fun s => f_X5_order_L22 l0 s.1 s.2.1 s.2.2.1 s.2.2.2.1 s.2.2.2.2.1 s.2.2.2.2.2) (a6, (1 : Int32), (0 : Int32), hp, sz, 115)).bind fun r35 => match r35 with | .inl (y30, hp31, z32, rc33) => (some (y30, hp31, z32)) | .inr o36 => some o36) else none
set_option maxHeartbeats 4000000 in
set_option maxRecDepth 100000 in
theorem w_X5_order_L22 {K : kT} {O : oT} (C : aC K cX5_order RX5 "order" 3 57 115 (64 * 115) 6 (some .int) O) {hp : cH} {sz rc : Nat} {l0 : Nat} {l2 : Nat} {l3 : Int32} {l4 : Int32} {r : ((Int32 × cH × Nat × Nat) ⊕ (Int32 × cH × Nat))} (h : itX (fun s => f_X5_order_L22 l0 s.1 s.2.1 s.2.2.1 s.2.2.2.1 s.2.2.2.2.1 s.2.2.2.2.2) (l2, l3, l4, hp, sz, rc) = some r) (hr : Sum.elim (fun r => aW K r.2.1 r.2.2.1 r.2.2.2 (64 * r.2.2.2) 86 [(3, .int r.1)] []) (fun o => ((some (.int o.1), o.2.1, o.2.2) : oT) = O) r) : aW K hp sz rc (64 * rc) 22 [(0, .ref l0), (2, .ref l2), (3, .int l3), (4, .int l4)] [] := by
  refine it_walk (f := fun s => f_X5_order_L22 l0 s.1 s.2.1 s.2.2.1 s.2.2.2.1 s.2.2.2.2.1 s.2.2.2.2.2) (P := fun s => aW K s.2.2.2.1 s.2.2.2.2.1 s.2.2.2.2.2 (64 * s.2.2.2.2.2) 22 [(0, .ref l0), (2, .ref s.1), (3, .int s.2.1), (4, .int s.2.2.1)] []) (R := fun r => Sum.elim (fun r => aW K r.2.1 r.2.2.1 r.2.2.2 (64 * r.2.2.2) 86 [(3, .int r.1)] []) (fun o => ((some (.int o.1), o.2.1, o.2.2) : oT) = O) r) ?_ h hr
  clear h hr
  rintro ⟨l2, l3, l4, hp, sz, rc⟩ x h kl kr
  show aW K hp sz rc (64 * rc) 22 [(0, .ref l0), (2, .ref l2), (3, .int l3), (4, .int l4)] []
  replace h : f_X5_order_L22 l0 l2 l3 l4 hp sz rc = some x := h
  unfold f_X5_order_L22 at h
  refine r_iload C 3 rfl dX5_order_22 ?_
  refine r_aload_n C 0 rfl dX5_order_24 rfl ?_
  replace h := bd_i h
  obtain ⟨w7, e8, h⟩ := h
  refine k_gI C e8 rfl inX5_ (by decide) flX5_96 dX5_order_25 ?_
  refine r_iconst C (v := 2) dX5_order_28 (by decide) ?_
  refine r_iadd C dX5_order_29 ?_
  refine r_icmp_ge C (tgt := 86) dX5_order_30 (by decide) (fun hc => ?_) (fun hc => ?_)
  · replace h := br_p hc h
    refine r_lv (lv' := [(3, .int l3)]) [2] rfl ?_
    exact kr _ (sm_i h)
  · replace h := br_n hc h
    refine r_aload_n C 0 rfl dX5_order_33 rfl ?_
    replace h := bd_i h
    obtain ⟨w9, e10, h⟩ := h
    refine k_gR C e10 rfl inX5_ (by decide) flX5_142 dX5_order_34 ?_
    refine r_aload_n C 1 rfl dX5_order_37 rfl ?_
    refine r_aload_n C 0 rfl dX5_order_38 rfl ?_
    replace h := bd_i h
    obtain ⟨w11, e12, h⟩ := h
    refine k_gR C e12 rfl inX5_ (by decide) flX5_142 dX5_order_39 ?_
    refine r_iload C 3 rfl dX5_order_42 ?_
    replace h := gd_t h
    obtain ⟨ho13, h⟩ := h
    obtain ⟨_, ho13⟩ := isO_s ho13
    replace h := gd_t h
    obtain ⟨hrc, h⟩ := h
    replace h := bd_i h
    obtain ⟨⟨r15, hp16, z17⟩, q14, h⟩ := h
    refine q_callV C 2 (rc - 1) (64 * (rc - 1)) (k_X2_framePoint q14) rfl ho13 rfl okX2_framePoint inX2_framePoint lkX5_196 rfl (Nat.le_of_ble_eq_true rfl) ⟨by decide, by decide⟩ dX5_order_44 (by omega) (by omega) ?_
    refine r_sipush C (v := 1000) dX5_order_47 (by decide) ?_
    refine r_iload_n C 2 rfl dX5_order_50 rfl ?_
    replace h := gd_n h
    obtain ⟨hne, h⟩ := h
    refine r_idiv C dX5_order_51 hne ?_
    replace h := gd_t h
    obtain ⟨ho18, h⟩ := h
    obtain ⟨_, ho18⟩ := isO_s ho18
    replace h := gd_t h
    obtain ⟨hrc, h⟩ := h
    replace h := bd_i h
    obtain ⟨⟨r20, hp21, z22⟩, q19, h⟩ := h
    refine q_callV C 0 ((rc - 1) - 2) (64 * ((rc - 1) - 2)) (k_X2_timesUntilBack q19) rfl ho18 rfl okX2_timesUntilBack inX2_timesUntilBack lkX5_200 rfl (Nat.le_of_ble_eq_true rfl) ⟨by decide, by decide⟩ dX5_order_52 (by omega) (by omega) ?_
    refine r_istore C (lv' := [(5, .int r20), (0, .ref l0), (2, .ref l2), (3, .int l3), (4, .int l4)]) dX5_order_55 (by decide) rfl ?_
    refine r_iload C 0 rfl dX5_order_57 ?_
    refine r_if_ne C (tgt := 64) dX5_order_59 (by decide) (fun hc => ?_) (fun hc => ?_)
    · replace h := br_n hc h
      refine r_iload_n C 3 rfl dX5_order_64 rfl ?_
      refine r_iload C 0 rfl dX5_order_65 ?_
      refine r_imul C dX5_order_67 ?_
      refine r_istore_n C (lv' := [(3, .int (l3 * r20)), (5, .int r20), (0, .ref l0), (2, .ref l2), (4, .int l4)]) dX5_order_68 rfl (by decide) rfl ?_
      refine r_aload_n C 2 rfl dX5_order_69 rfl ?_
      replace h := bd_i h
      obtain ⟨w23, e24, h⟩ := h
      refine k_gR C e24 rfl inX5_ (by decide) flX5_142 dX5_order_70 ?_
      refine r_aload_n C 3 rfl dX5_order_73 rfl ?_
      refine r_iload C 1 rfl dX5_order_74 ?_
      replace h := gd_t h
      obtain ⟨ho25, h⟩ := h
      obtain ⟨_, ho25⟩ := isO_s ho25
      replace h := gd_t h
      obtain ⟨hrc, h⟩ := h
      replace h := bd_i h
      obtain ⟨⟨r27, hp28, z29⟩, q26, h⟩ := h
      refine q_callV C 0 (((rc - 1) - 2) - 20) (64 * (((rc - 1) - 2) - 20)) (k_X2_power q26) rfl ho25 rfl okX2_power inX2_power lkX5_204 rfl (Nat.le_of_ble_eq_true rfl) ⟨by decide, by decide⟩ dX5_order_76 (by omega) (by omega) ?_
      refine r_astore_n C (lv' := [(2, .ref r27), (3, .int (l3 * r20)), (5, .int r20), (0, .ref l0), (4, .int l4)]) dX5_order_79 rfl (by decide) rfl ?_
      refine r_iinc C (v := l4 + 1) (lv' := [(4, .int (l4 + 1)), (2, .ref r27), (3, .int (l3 * r20)), (5, .int r20), (0, .ref l0)]) 4 rfl dX5_order_80 rfl (by decide) rfl ?_
      refine r_goto C (tgt := 22) dX5_order_83 (by decide) ?_
      refine r_lv (lv' := [(0, .ref l0), (2, .ref r27), (3, .int (l3 * r20)), (4, .int (l4 + 1))]) [4, 1, 2, 0] rfl ?_
      exact kl _ (sm_i h)
    · replace h := br_p hc h
      refine r_iconst C (v := -1) dX5_order_62 (by decide) ?_
      exact r_ireturn C (Eq.symm (kr _ (sm_i h))) dX5_order_63
set_option maxHeartbeats 4000000 in
set_option maxRecDepth 100000 in
theorem k_X5_order {G : gT} {hp : cH} {sz : Nat} {l0 : Nat} {l1 : Int32} {o0 : Int32} {oh : cH} {oz : Nat} (h : f_X5_order hp sz l0 l1 = some (o0, oh, oz)) : aM G yX5_order cX5_order 6 (some .int) 3 57 115 (64 * 115) [.ref l0, .int l1] hp sz ((some (.int o0), oh, oz) : oT) := by
  refine aM.of RX5 (by decide) rfl (Nat.le_of_ble_eq_true rfl) (fun K C => ?_)
  have hO : ((some (.int o0), oh, oz) : oT) = ((some (.int o0), oh, oz) : oT) := rfl
  refine r_lve (lv' := [(0, .ref l0), (1, .int l1)]) rfl ?_
  unfold f_X5_order at h
  refine r_aload_n C 0 rfl dX5_order_0 rfl ?_
  replace h := bd_i h
  obtain ⟨w1, e2, h⟩ := h
  refine k_gR C e2 rfl inX5_ (by decide) flX5_10 dX5_order_1 ?_
  refine r_iload_n C 1 rfl dX5_order_4 rfl ?_
  refine r_iconst C (v := 3) dX5_order_5 (by decide) ?_
  replace h := gd_t h
  obtain ⟨ho3, h⟩ := h
  obtain ⟨_, ho3⟩ := isO_s ho3
  replace h := bd_i h
  obtain ⟨r5, q4, h⟩ := h
  refine q_callV C 0 115 (64 * 115) (k_X3_row q4) rfl ho3 rfl okX3_row inX3_row lkX5_166 rfl (Nat.le_of_ble_eq_true rfl) ⟨by decide, by decide⟩ dX5_order_6 (by omega) (by omega) ?_
  refine r_astore_nq C (lv' := [(2, va_rf r5), (0, .ref l0), (1, .int l1)]) dX5_order_9 rfl (by decide) rfl ?_
  refine r_aload_nq C 0 rfl dX5_order_10 rfl ?_
  refine k_ifnonnull C (tgt := 17) dX5_order_11 (by decide) (fun a6 hx => ?_) (fun hx => ?_)
  · subst hx
    replace h := oe_s rfl h
    refine r_iconst C (v := 1) dX5_order_17 (by decide) ?_
    refine r_istore_n C (lv' := [(3, .int ((1 : Int32))), (2, .ref a6), (0, .ref l0), (1, .int l1)]) dX5_order_18 rfl (by decide) rfl ?_
    refine r_iconst C (v := 0) dX5_order_19 (by decide) ?_
    refine r_istore C (lv' := [(4, .int ((0 : Int32))), (3, .int ((1 : Int32))), (2, .ref a6), (0, .ref l0), (1, .int l1)]) dX5_order_20 (by decide) rfl ?_
    refine r_lv (lv' := [(0, .ref l0), (2, .ref a6), (3, .int ((1 : Int32))), (4, .int ((0 : Int32)))]) [3, 2, 1, 0] rfl ?_
    replace h := bd_i h
    obtain ⟨r35, q34, h⟩ := h
    rcases r35 with ⟨y30, hp31, z32, rc33⟩ | o36
    · refine w_X5_order_L22 C  q34 ?_
      show aW K hp31 z32 rc33 (64 * rc33) 86 [(3, .int y30)] []
      refine r_iload_n C 0 rfl dX5_order_86 rfl ?_
      cases h
      exact r_ireturn C (Eq.symm hO) dX5_order_87
    · cases h
      exact w_X5_order_L22 C  q34 hO
  · subst hx
    replace h := oe_n rfl h
    refine r_bipush C (v := -2) dX5_order_14 (by decide) ?_
    cases h
    exact r_ireturn C (Eq.symm hO) dX5_order_16
noncomputable def f_X5_gather (hp : cH) (l0 : Nat) (l1 : Int32) : Option (Int32 × cH) := (gR hp l0 5 0).bind fun w1 => if isO hp w1 3 = true then (f_X3_row hp w1 l1 ((0 : Int32))).bind fun r5 => Option.elim r5 (some ((-2 : Int32), hp)) (fun a6 => (gI hp l0 5 10).bind fun w7 => if w7 < ((9 : Int32)) then ((gR hp l0 5 2).bind fun w9 => (gI hp l0 5 10).bind fun w11 => (sI hp w9 w11 l1).bind fun hp13 => (gI hp13 l0 5 10).bind fun w15 => (pV hp13 l0 5 10 (.int (w15 + ((1 : Int32))))).bind fun hp17 => (gI hp17 l0 5 10).bind fun w19 => some (w19, hp17)) else (some ((-3 : Int32), hp))) else none
set_option maxHeartbeats 4000000 in
set_option maxRecDepth 100000 in
theorem k_X5_gather {G : gT} {hp : cH} {sz : Nat} {l0 : Nat} {l1 : Int32} {o0 : Int32} {oh : cH} (h : f_X5_gather hp l0 l1 = some (o0, oh)) : aM G yX5_gather cX5_gather 2 (some .int) 2 28 0 (64 * 0) [.ref l0, .int l1] hp sz ((some (.int o0), oh, sz) : oT) := by
  refine aM.of RX5 (by decide) rfl (Nat.le_of_ble_eq_true rfl) (fun K C => ?_)
  have hO : ((some (.int o0), oh, sz) : oT) = ((some (.int o0), oh, sz) : oT) := rfl
  refine r_lve (lv' := [(0, .ref l0), (1, .int l1)]) rfl ?_
  unfold f_X5_gather at h
  refine r_aload_n C 0 rfl dX5_gather_0 rfl ?_
  replace h := bd_i h
  obtain ⟨w1, e2, h⟩ := h
  refine k_gR C e2 rfl inX5_ (by decide) flX5_10 dX5_gather_1 ?_
  refine r_iload_n C 1 rfl dX5_gather_4 rfl ?_
  refine r_iconst C (v := 0) dX5_gather_5 (by decide) ?_
  replace h := gd_t h
  obtain ⟨ho3, h⟩ := h
  obtain ⟨_, ho3⟩ := isO_s ho3
  replace h := bd_i h
  obtain ⟨r5, q4, h⟩ := h
  refine q_callV C 0 0 (64 * 0) (k_X3_row q4) rfl ho3 rfl okX3_row inX3_row lkX5_166 rfl (Nat.le_of_ble_eq_true rfl) ⟨by decide, by decide⟩ dX5_gather_6 (by omega) (by omega) ?_
  refine k_ifnonnull C (tgt := 15) dX5_gather_9 (by decide) (fun a6 hx => ?_) (fun hx => ?_)
  · subst hx
    replace h := oe_s rfl h
    refine r_aload_n C 0 rfl dX5_gather_15 rfl ?_
    replace h := bd_i h
    obtain ⟨w7, e8, h⟩ := h
    refine k_gI C e8 rfl inX5_ (by decide) flX5_207 dX5_gather_16 ?_
    refine r_bipush C (v := 9) dX5_gather_19 (by decide) ?_
    refine r_icmp_lt C (tgt := 27) dX5_gather_21 (by decide) (fun hc => ?_) (fun hc => ?_)
    · replace h := br_p hc h
      refine r_aload_n C 0 rfl dX5_gather_27 rfl ?_
      replace h := bd_i h
      obtain ⟨w9, e10, h⟩ := h
      refine k_gR C e10 rfl inX5_ (by decide) flX5_20 dX5_gather_28 ?_
      refine r_aload_n C 0 rfl dX5_gather_31 rfl ?_
      replace h := bd_i h
      obtain ⟨w11, e12, h⟩ := h
      refine k_gI C e12 rfl inX5_ (by decide) flX5_207 dX5_gather_32 ?_
      refine r_iload_n C 1 rfl dX5_gather_35 rfl ?_
      replace h := bd_i h
      obtain ⟨hp13, e14, h⟩ := h
      refine k_sI C e14 dX5_gather_36 ?_
      refine r_aload_n C 0 rfl dX5_gather_37 rfl ?_
      refine r_dup C dX5_gather_38 rfl ?_
      replace h := bd_i h
      obtain ⟨w15, e16, h⟩ := h
      refine k_gI C e16 rfl inX5_ (by decide) flX5_207 dX5_gather_39 ?_
      refine r_iconst C (v := 1) dX5_gather_42 (by decide) ?_
      refine r_iadd C dX5_gather_43 ?_
      replace h := bd_i h
      obtain ⟨hp17, e18, h⟩ := h
      refine k_pV C tyX5 tyX5_ok nmX5 e18 rfl inX5_ (by decide) flX5_207 rfl rfl rfl rfl dX5_gather_44 ?_
      refine r_aload_n C 0 rfl dX5_gather_47 rfl ?_
      replace h := bd_i h
      obtain ⟨w19, e20, h⟩ := h
      refine k_gI C e20 rfl inX5_ (by decide) flX5_207 dX5_gather_48 ?_
      cases h
      exact r_ireturn C (Eq.symm hO) dX5_gather_51
    · replace h := br_n hc h
      refine r_bipush C (v := -3) dX5_gather_24 (by decide) ?_
      cases h
      exact r_ireturn C (Eq.symm hO) dX5_gather_26
  · subst hx
    replace h := oe_n rfl h
    refine r_bipush C (v := -2) dX5_gather_12 (by decide) ?_
    cases h
    exact r_ireturn C (Eq.symm hO) dX5_gather_14
noncomputable def f_X5_forget (hp : cH) (l0 : Nat) : Option (Int32 × cH) := (gI hp l0 5 10).bind fun w1 => (pV hp l0 5 10 (.int ((0 : Int32)))).bind fun hp3 => some (w1, hp3)
set_option maxHeartbeats 4000000 in
set_option maxRecDepth 100000 in
theorem k_X5_forget {G : gT} {hp : cH} {sz : Nat} {l0 : Nat} {o0 : Int32} {oh : cH} (h : f_X5_forget hp l0 = some (o0, oh)) : aM G yX5_forget cX5_forget 2 (some .int) 0 0 0 (64 * 0) [.ref l0] hp sz ((some (.int o0), oh, sz) : oT) := by
  refine aM.of RX5 (by decide) rfl (Nat.le_of_ble_eq_true rfl) (fun K C => ?_)
  have hO : ((some (.int o0), oh, sz) : oT) = ((some (.int o0), oh, sz) : oT) := rfl
  refine r_lve (lv' := [(0, .ref l0)]) rfl ?_
  unfold f_X5_forget at h
  refine r_aload_n C 0 rfl dX5_forget_0 rfl ?_
  replace h := bd_i h
  obtain ⟨w1, e2, h⟩ := h
  refine k_gI C e2 rfl inX5_ (by decide) flX5_207 dX5_forget_1 ?_
  refine r_istore_n C (lv' := [(1, .int w1), (0, .ref l0)]) dX5_forget_4 rfl (by decide) rfl ?_
  refine r_aload_n C 1 rfl dX5_forget_5 rfl ?_
  refine r_iconst C (v := 0) dX5_forget_6 (by decide) ?_
  replace h := bd_i h
  obtain ⟨hp3, e4, h⟩ := h
  refine k_pV C tyX5 tyX5_ok nmX5 e4 rfl inX5_ (by decide) flX5_207 rfl rfl rfl rfl dX5_forget_7 ?_
  refine r_iload_n C 0 rfl dX5_forget_10 rfl ?_
  cases h
  exact r_ireturn C (Eq.symm hO) dX5_forget_11
noncomputable def f_X4_quadricConditions_L47 (l0 : Nat) (l1 : Nat) (l2 : Nat) (l3 : Int32) (l5 : Int32) (l4 : Int32) (l6 : Int32) (hp : cH) : Option ((Int32 × Int32 × cH) ⊕ (Int32 × cH)) := (gI hp l0 4 2).bind fun w14 => if w14 ≤ l6 then (some (.inr (l4, hp))) else ((gR hp l0 4 1).bind fun w16 => (lR 3 hp l1 l3).bind fun u18 => u18.bind fun a20 => (lJ hp a20 l5).bind fun w22 => (lR 3 hp l1 l3).bind fun u24 => u24.bind fun a26 => (lJ hp a26 l6).bind fun w28 => if isO hp w16 0 = true then (f_X0_times hp w16 w22 w28).bind fun r32 => (lR 3 hp l2 l3).bind fun u33 => if l5 = l6 then (u33.bind fun a44 => (sJ hp a44 l4 r32).bind fun hp46 => some (.inl (l4 + 1, l6 + 1, hp46))) else ((gR hp l0 4 1).bind fun w35 => if isO hp w35 0 = true then (f_X0_plus hp w35 r32 r32).bind fun r39 => u33.bind fun a40 => (sJ hp a40 l4 r39).bind fun hp42 => some (.inl (l4 + 1, l6 + 1, hp42)) else none) else none)
noncomputable def f_X4_quadricConditions_L34 (l0 : Nat) (l1 : Nat) (l2 : Nat) (l3 : Int32) (l4 : Int32) (l5 : Int32) (hp : cH) : Option ((Int32 × Int32 × cH) ⊕ cH) := (gI hp l0 4 2).bind fun w12 => if w12 ≤ l5 then (some (.inr hp)) else ((itX (fun s => f_X4_quadricConditions_L47 l0 l1 l2 l3 l5 s.1 s.2.1 s.2.2) (l4, l5, hp)).bind fun (y48, hp49) => some (.inl (y48, l5 + 1, hp49)))
noncomputable def f_X4_quadricConditions_L22 (l0 : Nat) (l1 : Nat) (l2 : Nat) (l3 : Int32) (hp : cH) : Option ((Int32 × cH) ⊕ cH) := (aN hp l1).bind fun w10 => if w10 ≤ l3 then (some (.inr hp)) else ((itX (fun s => f_X4_quadricConditions_L34 l0 l1 l2 l3 s.1 s.2.1 s.2.2) ((0 : Int32), (0 : Int32), hp)).bind fun hp51 => some (.inl (l3 + 1, hp51)))
noncomputable def f_X4_quadricConditions (hp : cH) (sz : Nat) (l0 : Nat) (l1 : Nat) : Option (Nat × cH × Nat) := (aN hp l1).bind fun w1 => (gI hp l0 4 2).bind fun w3 => (gI hp l0 4 2).bind fun w5 => (nM hp sz w1 ((w3 * (w5 + ((1 : Int32)))) / ((2 : Int32)))).bind fun (hp7, z8) => (itX (fun s => f_X4_quadricConditions_L22 l0 l1 sz s.1 s.2) ((0 : Int32), hp7)).bind fun hp53 => some (sz, hp53, z8)
set_option maxHeartbeats 4000000 in
set_option maxRecDepth 100000 in
theorem w_X4_quadricConditions_L47 {K : kT} {O : oT} (C : aC K cX4_quadricConditions RX4 "quadricConditions" 1 18 10 (64 * 10) 9 (some (.array (.array .long))) O) {hp : cH} {sz rc : Nat} {l0 : Nat} {l1 : Nat} {l2 : Nat} {l3 : Int32} {l4 : Int32} {l5 : Int32} {l6 : Int32} {e4 : Int32} {eh : cH} (h : itX (fun s => f_X4_quadricConditions_L47 l0 l1 l2 l3 l5 s.1 s.2.1 s.2.2) (l4, l6, hp) = some (e4, eh)) (hr : aW K eh sz rc (64 * rc) 115 [(0, .ref l0), (1, .ref l1), (2, .ref l2), (3, .int l3), (4, .int e4), (5, .int l5)] []) : aW K hp sz rc (64 * rc) 47 [(0, .ref l0), (1, .ref l1), (2, .ref l2), (3, .int l3), (4, .int l4), (5, .int l5), (6, .int l6)] [] := by
  refine it_walk (f := fun s => f_X4_quadricConditions_L47 l0 l1 l2 l3 l5 s.1 s.2.1 s.2.2) (P := fun s => aW K s.2.2 sz rc (64 * rc) 47 [(0, .ref l0), (1, .ref l1), (2, .ref l2), (3, .int l3), (4, .int s.1), (5, .int l5), (6, .int s.2.1)] []) (R := fun r => aW K r.2 sz rc (64 * rc) 115 [(0, .ref l0), (1, .ref l1), (2, .ref l2), (3, .int l3), (4, .int r.1), (5, .int l5)] []) ?_ h hr
  clear h hr
  rintro ⟨l4, l6, hp⟩ x h kl kr
  show aW K hp sz rc (64 * rc) 47 [(0, .ref l0), (1, .ref l1), (2, .ref l2), (3, .int l3), (4, .int l4), (5, .int l5), (6, .int l6)] []
  replace h : f_X4_quadricConditions_L47 l0 l1 l2 l3 l5 l4 l6 hp = some x := h
  unfold f_X4_quadricConditions_L47 at h
  refine r_iload C 6 rfl dX4_quadricConditions_47 ?_
  refine r_aload_n C 0 rfl dX4_quadricConditions_49 rfl ?_
  replace h := bd_i h
  obtain ⟨w14, e15, h⟩ := h
  refine k_gI C e15 rfl inX4_ (by decide) flX4_26 dX4_quadricConditions_50 ?_
  refine r_icmp_ge C (tgt := 115) dX4_quadricConditions_53 (by decide) (fun hc => ?_) (fun hc => ?_)
  · replace h := br_p hc h
    refine r_lv (lv' := [(0, .ref l0), (1, .ref l1), (2, .ref l2), (3, .int l3), (4, .int l4), (5, .int l5)]) [0, 1, 2, 3, 4, 5] rfl ?_
    exact kr _ (sm_i h)
  · replace h := br_n hc h
    refine r_aload_n C 0 rfl dX4_quadricConditions_56 rfl ?_
    replace h := bd_i h
    obtain ⟨w16, e17, h⟩ := h
    refine k_gR C e17 rfl inX4_ (by decide) flX4_21 dX4_quadricConditions_57 ?_
    refine r_aload_n C 1 rfl dX4_quadricConditions_60 rfl ?_
    refine r_iload_n C 3 rfl dX4_quadricConditions_61 rfl ?_
    replace h := bd_i h
    obtain ⟨u18, e19, h⟩ := h
    refine k_lR C (by decide) e19 dX4_quadricConditions_62 ?_
    refine r_iload C 5 rfl dX4_quadricConditions_63 ?_
    replace h := bd_i h
    obtain ⟨a20, e21, h⟩ := h
    subst e21
    replace h := bd_i h
    obtain ⟨w22, e23, h⟩ := h
    refine k_lJ C e23 dX4_quadricConditions_65 ?_
    refine r_aload_n C 1 rfl dX4_quadricConditions_66 rfl ?_
    refine r_iload_n C 3 rfl dX4_quadricConditions_67 rfl ?_
    replace h := bd_i h
    obtain ⟨u24, e25, h⟩ := h
    refine k_lR C (by decide) e25 dX4_quadricConditions_68 ?_
    refine r_iload C 6 rfl dX4_quadricConditions_69 ?_
    replace h := bd_i h
    obtain ⟨a26, e27, h⟩ := h
    subst e27
    replace h := bd_i h
    obtain ⟨w28, e29, h⟩ := h
    refine k_lJ C e29 dX4_quadricConditions_71 ?_
    replace h := gd_t h
    obtain ⟨ho30, h⟩ := h
    obtain ⟨_, ho30⟩ := isO_s ho30
    replace h := bd_i h
    obtain ⟨r32, q31, h⟩ := h
    refine q_callV C 0 rc (64 * rc) (k_X0_times q31) rfl ho30 rfl okX0_times inX0_times lkX4_27 rfl (Nat.le_of_ble_eq_true rfl) ⟨by decide, by decide⟩ dX4_quadricConditions_72 (by omega) (by omega) ?_
    refine r_lstore C (lv' := [(7, .long r32), (0, .ref l0), (1, .ref l1), (2, .ref l2), (3, .int l3), (4, .int l4), (5, .int l5), (6, .int l6)]) dX4_quadricConditions_75 (by decide) rfl ?_
    refine r_aload_n C 3 rfl dX4_quadricConditions_77 rfl ?_
    refine r_iload_n C 4 rfl dX4_quadricConditions_78 rfl ?_
    replace h := bd_i h
    obtain ⟨u33, e34, h⟩ := h
    refine k_lR C (by decide) e34 dX4_quadricConditions_79 ?_
    refine r_iload C 5 rfl dX4_quadricConditions_80 ?_
    refine r_iload C 6 rfl dX4_quadricConditions_82 ?_
    refine r_iload C 7 rfl dX4_quadricConditions_84 ?_
    refine r_icmp_ne C (tgt := 94) dX4_quadricConditions_86 (by decide) (fun hc => ?_) (fun hc => ?_)
    · replace h := br_n hc h
      refine r_aload_n C 1 rfl dX4_quadricConditions_94 rfl ?_
      replace h := bd_i h
      obtain ⟨w35, e36, h⟩ := h
      refine k_gR C e36 rfl inX4_ (by decide) flX4_21 dX4_quadricConditions_95 ?_
      refine r_lload C 0 rfl dX4_quadricConditions_98 ?_
      refine r_lload C 0 rfl dX4_quadricConditions_100 ?_
      replace h := gd_t h
      obtain ⟨ho37, h⟩ := h
      obtain ⟨_, ho37⟩ := isO_s ho37
      replace h := bd_i h
      obtain ⟨r39, q38, h⟩ := h
      refine q_callV C 2 rc (64 * rc) (k_X0_plus q38) rfl ho37 rfl okX0_plus inX0_plus lkX4_119 rfl (by simp [rf_cat, ct_i, ct_l, ct_r]) ⟨by decide, by decide⟩ dX4_quadricConditions_102 (by omega) (by omega) ?_
      replace h := bd_i h
      obtain ⟨a40, e41, h⟩ := h
      subst e41
      replace h := bd_i h
      obtain ⟨hp42, e43, h⟩ := h
      refine k_sJ C e43 dX4_quadricConditions_105 ?_
      refine r_iinc C (v := l4 + 1) (lv' := [(4, .int (l4 + 1)), (7, .long r32), (0, .ref l0), (1, .ref l1), (2, .ref l2), (3, .int l3), (5, .int l5), (6, .int l6)]) 5 rfl dX4_quadricConditions_106 rfl (by decide) rfl ?_
      refine r_iinc C (v := l6 + 1) (lv' := [(6, .int (l6 + 1)), (4, .int (l4 + 1)), (7, .long r32), (0, .ref l0), (1, .ref l1), (2, .ref l2), (3, .int l3), (5, .int l5)]) 7 rfl dX4_quadricConditions_109 rfl (by decide) rfl ?_
      refine r_goto C (tgt := 47) dX4_quadricConditions_112 (by decide) ?_
      refine r_lv (lv' := [(0, .ref l0), (1, .ref l1), (2, .ref l2), (3, .int l3), (4, .int (l4 + 1)), (5, .int l5), (6, .int (l6 + 1))]) [3, 4, 5, 6, 1, 7, 0] rfl ?_
      exact kl _ (sm_i h)
    · replace h := br_p hc h
      refine r_lload C 0 rfl dX4_quadricConditions_89 ?_
      refine r_goto C (tgt := 105) dX4_quadricConditions_91 (by decide) ?_
      replace h := bd_i h
      obtain ⟨a44, e45, h⟩ := h
      subst e45
      replace h := bd_i h
      obtain ⟨hp46, e47, h⟩ := h
      refine k_sJ C e47 dX4_quadricConditions_105 ?_
      refine r_iinc C (v := l4 + 1) (lv' := [(4, .int (l4 + 1)), (7, .long r32), (0, .ref l0), (1, .ref l1), (2, .ref l2), (3, .int l3), (5, .int l5), (6, .int l6)]) 5 rfl dX4_quadricConditions_106 rfl (by decide) rfl ?_
      refine r_iinc C (v := l6 + 1) (lv' := [(6, .int (l6 + 1)), (4, .int (l4 + 1)), (7, .long r32), (0, .ref l0), (1, .ref l1), (2, .ref l2), (3, .int l3), (5, .int l5)]) 7 rfl dX4_quadricConditions_109 rfl (by decide) rfl ?_
      refine r_goto C (tgt := 47) dX4_quadricConditions_112 (by decide) ?_
      refine r_lv (lv' := [(0, .ref l0), (1, .ref l1), (2, .ref l2), (3, .int l3), (4, .int (l4 + 1)), (5, .int l5), (6, .int (l6 + 1))]) [3, 4, 5, 6, 1, 7, 0] rfl ?_
      exact kl _ (sm_i h)
set_option maxHeartbeats 4000000 in
set_option maxRecDepth 100000 in
theorem w_X4_quadricConditions_L34 {K : kT} {O : oT} (C : aC K cX4_quadricConditions RX4 "quadricConditions" 1 18 10 (64 * 10) 9 (some (.array (.array .long))) O) {hp : cH} {sz rc : Nat} {l0 : Nat} {l1 : Nat} {l2 : Nat} {l3 : Int32} {l4 : Int32} {l5 : Int32} {eh : cH} (h : itX (fun s => f_X4_quadricConditions_L34 l0 l1 l2 l3 s.1 s.2.1 s.2.2) (l4, l5, hp) = some eh) (hr : aW K eh sz rc (64 * rc) 121 [(0, .ref l0), (1, .ref l1), (2, .ref l2), (3, .int l3)] []) : aW K hp sz rc (64 * rc) 34 [(0, .ref l0), (1, .ref l1), (2, .ref l2), (3, .int l3), (4, .int l4), (5, .int l5)] [] := by
  refine it_walk (f := fun s => f_X4_quadricConditions_L34 l0 l1 l2 l3 s.1 s.2.1 s.2.2) (P := fun s => aW K s.2.2 sz rc (64 * rc) 34 [(0, .ref l0), (1, .ref l1), (2, .ref l2), (3, .int l3), (4, .int s.1), (5, .int s.2.1)] []) (R := fun r => aW K r sz rc (64 * rc) 121 [(0, .ref l0), (1, .ref l1), (2, .ref l2), (3, .int l3)] []) ?_ h hr
  clear h hr
  rintro ⟨l4, l5, hp⟩ x h kl kr
  show aW K hp sz rc (64 * rc) 34 [(0, .ref l0), (1, .ref l1), (2, .ref l2), (3, .int l3), (4, .int l4), (5, .int l5)] []
  replace h : f_X4_quadricConditions_L34 l0 l1 l2 l3 l4 l5 hp = some x := h
  unfold f_X4_quadricConditions_L34 at h
  refine r_iload C 5 rfl dX4_quadricConditions_34 ?_
  refine r_aload_n C 0 rfl dX4_quadricConditions_36 rfl ?_
  replace h := bd_i h
  obtain ⟨w12, e13, h⟩ := h
  refine k_gI C e13 rfl inX4_ (by decide) flX4_26 dX4_quadricConditions_37 ?_
  refine r_icmp_ge C (tgt := 121) dX4_quadricConditions_40 (by decide) (fun hc => ?_) (fun hc => ?_)
  · replace h := br_p hc h
    refine r_lv (lv' := [(0, .ref l0), (1, .ref l1), (2, .ref l2), (3, .int l3)]) [0, 1, 2, 3] rfl ?_
    exact kr _ (sm_i h)
  · replace h := br_n hc h
    refine r_iload C 5 rfl dX4_quadricConditions_43 ?_
    refine r_istore C (lv' := [(6, .int l5), (0, .ref l0), (1, .ref l1), (2, .ref l2), (3, .int l3), (4, .int l4), (5, .int l5)]) dX4_quadricConditions_45 (by decide) rfl ?_
    refine r_lv (lv' := [(0, .ref l0), (1, .ref l1), (2, .ref l2), (3, .int l3), (4, .int l4), (5, .int l5), (6, .int l5)]) [1, 2, 3, 4, 5, 6, 0] rfl ?_
    replace h := bd_i h
    obtain ⟨⟨y48, hp49⟩, q50, h⟩ := h
    refine w_X4_quadricConditions_L47 C  q50 ?_
    refine r_iinc C (v := l5 + 1) (lv' := [(5, .int (l5 + 1)), (0, .ref l0), (1, .ref l1), (2, .ref l2), (3, .int l3), (4, .int y48)]) 5 rfl dX4_quadricConditions_115 rfl (by decide) rfl ?_
    refine r_goto C (tgt := 34) dX4_quadricConditions_118 (by decide) ?_
    refine r_lv (lv' := [(0, .ref l0), (1, .ref l1), (2, .ref l2), (3, .int l3), (4, .int y48), (5, .int (l5 + 1))]) [1, 2, 3, 4, 5, 0] rfl ?_
    exact kl _ (sm_i h)
set_option maxHeartbeats 4000000 in
set_option maxRecDepth 100000 in
theorem w_X4_quadricConditions_L22 {K : kT} {O : oT} (C : aC K cX4_quadricConditions RX4 "quadricConditions" 1 18 10 (64 * 10) 9 (some (.array (.array .long))) O) {hp : cH} {sz rc : Nat} {l0 : Nat} {l1 : Nat} {l2 : Nat} {l3 : Int32} {eh : cH} (h : itX (fun s => f_X4_quadricConditions_L22 l0 l1 l2 s.1 s.2) (l3, hp) = some eh) (hr : aW K eh sz rc (64 * rc) 127 [(2, .ref l2)] []) : aW K hp sz rc (64 * rc) 22 [(0, .ref l0), (1, .ref l1), (2, .ref l2), (3, .int l3)] [] := by
  refine it_walk (f := fun s => f_X4_quadricConditions_L22 l0 l1 l2 s.1 s.2) (P := fun s => aW K s.2 sz rc (64 * rc) 22 [(0, .ref l0), (1, .ref l1), (2, .ref l2), (3, .int s.1)] []) (R := fun r => aW K r sz rc (64 * rc) 127 [(2, .ref l2)] []) ?_ h hr
  clear h hr
  rintro ⟨l3, hp⟩ x h kl kr
  show aW K hp sz rc (64 * rc) 22 [(0, .ref l0), (1, .ref l1), (2, .ref l2), (3, .int l3)] []
  replace h : f_X4_quadricConditions_L22 l0 l1 l2 l3 hp = some x := h
  unfold f_X4_quadricConditions_L22 at h
  refine r_iload_n C 3 rfl dX4_quadricConditions_22 rfl ?_
  refine r_aload_n C 1 rfl dX4_quadricConditions_23 rfl ?_
  replace h := bd_i h
  obtain ⟨w10, e11, h⟩ := h
  refine k_alen C e11 dX4_quadricConditions_24 ?_
  refine r_icmp_ge C (tgt := 127) dX4_quadricConditions_25 (by decide) (fun hc => ?_) (fun hc => ?_)
  · replace h := br_p hc h
    refine r_lv (lv' := [(2, .ref l2)]) [2] rfl ?_
    exact kr _ (sm_i h)
  · replace h := br_n hc h
    refine r_iconst C (v := 0) dX4_quadricConditions_28 (by decide) ?_
    refine r_istore C (lv' := [(4, .int ((0 : Int32))), (0, .ref l0), (1, .ref l1), (2, .ref l2), (3, .int l3)]) dX4_quadricConditions_29 (by decide) rfl ?_
    refine r_iconst C (v := 0) dX4_quadricConditions_31 (by decide) ?_
    refine r_istore C (lv' := [(5, .int ((0 : Int32))), (4, .int ((0 : Int32))), (0, .ref l0), (1, .ref l1), (2, .ref l2), (3, .int l3)]) dX4_quadricConditions_32 (by decide) rfl ?_
    refine r_lv (lv' := [(0, .ref l0), (1, .ref l1), (2, .ref l2), (3, .int l3), (4, .int ((0 : Int32))), (5, .int ((0 : Int32)))]) [2, 3, 4, 5, 1, 0] rfl ?_
    replace h := bd_i h
    obtain ⟨hp51, q52, h⟩ := h
    refine w_X4_quadricConditions_L34 C  q52 ?_
    refine r_iinc C (v := l3 + 1) (lv' := [(3, .int (l3 + 1)), (0, .ref l0), (1, .ref l1), (2, .ref l2)]) 3 rfl dX4_quadricConditions_121 rfl (by decide) rfl ?_
    refine r_goto C (tgt := 22) dX4_quadricConditions_124 (by decide) ?_
    refine r_lv (lv' := [(0, .ref l0), (1, .ref l1), (2, .ref l2), (3, .int (l3 + 1))]) [1, 2, 3, 0] rfl ?_
    exact kl _ (sm_i h)
set_option maxHeartbeats 4000000 in
set_option maxRecDepth 100000 in
theorem k_X4_quadricConditions {G : gT} {hp : cH} {sz : Nat} {l0 : Nat} {l1 : Nat} {o0 : Nat} {oh : cH} {oz : Nat} (h : f_X4_quadricConditions hp sz l0 l1 = some (o0, oh, oz)) : aM G yX4_quadricConditions cX4_quadricConditions 9 (some (.array (.array .long))) 1 18 10 (64 * 10) [.ref l0, .ref l1] hp sz ((some (.ref o0), oh, oz) : oT) := by
  refine aM.of RX4 (by decide) rfl (Nat.le_of_ble_eq_true rfl) (fun K C => ?_)
  have hO : ((some (.ref o0), oh, oz) : oT) = ((some (.ref o0), oh, oz) : oT) := rfl
  refine r_lve (lv' := [(0, .ref l0), (1, .ref l1)]) rfl ?_
  unfold f_X4_quadricConditions at h
  refine r_aload_n C 1 rfl dX4_quadricConditions_0 rfl ?_
  replace h := bd_i h
  obtain ⟨w1, e2, h⟩ := h
  refine k_alen C e2 dX4_quadricConditions_1 ?_
  refine r_aload_n C 0 rfl dX4_quadricConditions_2 rfl ?_
  replace h := bd_i h
  obtain ⟨w3, e4, h⟩ := h
  refine k_gI C e4 rfl inX4_ (by decide) flX4_26 dX4_quadricConditions_3 ?_
  refine r_aload_n C 0 rfl dX4_quadricConditions_6 rfl ?_
  replace h := bd_i h
  obtain ⟨w5, e6, h⟩ := h
  refine k_gI C e6 rfl inX4_ (by decide) flX4_26 dX4_quadricConditions_7 ?_
  refine r_iconst C (v := 1) dX4_quadricConditions_10 (by decide) ?_
  refine r_iadd C dX4_quadricConditions_11 ?_
  refine r_imul C dX4_quadricConditions_12 ?_
  refine r_iconst C (v := 2) dX4_quadricConditions_13 (by decide) ?_
  refine r_idiv C dX4_quadricConditions_14 (by decide) ?_
  replace h := bd_i h
  obtain ⟨⟨hp7, z8⟩, e9, h⟩ := h
  refine k_nMM C 0 cnX4_92 e9 dX4_quadricConditions_15 (by omega) ?_
  refine r_astore_n C (lv' := [(2, .ref sz), (0, .ref l0), (1, .ref l1)]) dX4_quadricConditions_19 rfl (by decide) rfl ?_
  refine r_iconst C (v := 0) dX4_quadricConditions_20 (by decide) ?_
  refine r_istore_n C (lv' := [(3, .int ((0 : Int32))), (2, .ref sz), (0, .ref l0), (1, .ref l1)]) dX4_quadricConditions_21 rfl (by decide) rfl ?_
  refine r_lv (lv' := [(0, .ref l0), (1, .ref l1), (2, .ref sz), (3, .int ((0 : Int32)))]) [2, 3, 1, 0] rfl ?_
  replace h := bd_i h
  obtain ⟨hp53, q54, h⟩ := h
  refine w_X4_quadricConditions_L22 C  q54 ?_
  refine r_aload_n C 0 rfl dX4_quadricConditions_127 rfl ?_
  cases h
  exact r_areturnA C (Or.inr ⟨_, rfl⟩) (Eq.symm hO) dX4_quadricConditions_128
noncomputable def f_X2_onlySolution_L16 (hp : cH) (l1 : Nat) (l2 : Int32) (l3 : Int32) : Option (Int32 ⊕ Int32) := if (l2 - ((1 : Int32))) ≤ l3 then (some (.inr l3)) else ((lR 3 hp l1 l3).bind fun u5 => u5.bind fun a7 => (f_X2_lead hp a7).bind fun r10 => if r10 = l3 then (some (.inl (l3 + 1))) else (some (.inr l3)))
noncomputable def f_X2_onlySolution_L52 (l0 : Nat) (l1 : Nat) (l2 : Int32) (l3 : Int32) (l4 : Nat) (l5 : Int32) (hp : cH) : Option ((Int32 × cH) ⊕ cH) := if (l2 - ((1 : Int32))) ≤ l5 then (some (.inr hp)) else (if l3 ≤ l5 then ((gR hp l0 2 0).bind fun w17 => (lR 3 hp l1 l5).bind fun u19 => u19.bind fun a21 => (lJ hp a21 l3).bind fun w23 => if isO hp w17 0 = true then (f_X0_negative hp w17 w23).bind fun r27 => (sJ hp l4 (l5 + ((1 : Int32))) r27).bind fun hp28 => some (.inl (l5 + 1, hp28)) else none) else ((gR hp l0 2 0).bind fun w30 => (lR 3 hp l1 l5).bind fun u32 => u32.bind fun a34 => (lJ hp a34 l3).bind fun w36 => if isO hp w30 0 = true then (f_X0_negative hp w30 w36).bind fun r40 => (sJ hp l4 l5 r40).bind fun hp41 => some (.inl (l5 + 1, hp41)) else none))
noncomputable def f_X2_onlySolution_J39 (hp : cH) (sz : Nat) (rc : Nat) (l0 : Nat) (l1 : Nat) (l2 : Int32) (l3 : Int32) : Option ((Option Nat) × cH × Nat) := if 1 ≤ rc then (nJ hp sz l2).bind fun hp13 => (sJ hp13 sz l3 ((1 : Int64))).bind fun hp15 => (itX (fun s => f_X2_onlySolution_L52 l0 l1 l2 l3 sz s.1 s.2) ((0 : Int32), hp15)).bind fun hp43 => some ((some sz), hp43, (sz + 1)) else none
noncomputable def f_X2_onlySolution (hp : cH) (sz : Nat) (l0 : Nat) (l1 : Nat) (l2 : Int32) : Option ((Option Nat) × cH × Nat) := if isO hp l0 2 = true then (f_X2_eliminate hp l0 l1 l2).bind fun (r3, hp4) => if r3 = (l2 - ((1 : Int32))) then ((itX (f_X2_onlySolution_L16 hp4 l1 l2) ((0 : Int32))).bind fun y11 => f_X2_onlySolution_J39 hp4 sz 1 l0 l1 l2 y11) else (some (none, hp4, sz)) else none
set_option maxHeartbeats 4000000 in
set_option maxRecDepth 100000 in
theorem w_X2_onlySolution_L16 {K : kT} {O : oT} (C : aC K cX2_onlySolution RX2 "onlySolution" 3 57 1 (64 * 1) 6 (some (.array .long)) O) {hp : cH} {sz rc : Nat} {l0 : Nat} {l1 : Nat} {l2 : Int32} {l3 : Int32} {e3 : Int32} (h : itX (f_X2_onlySolution_L16 hp l1 l2) l3 = some e3) (hr : aW K hp sz rc (64 * rc) 39 [(0, .ref l0), (1, .ref l1), (2, .int l2), (3, .int e3)] []) : aW K hp sz rc (64 * rc) 16 [(0, .ref l0), (1, .ref l1), (2, .int l2), (3, .int l3)] [] := by
  refine it_walk (f := f_X2_onlySolution_L16 hp l1 l2) (P := fun s => aW K hp sz rc (64 * rc) 16 [(0, .ref l0), (1, .ref l1), (2, .int l2), (3, .int s)] []) (R := fun r => aW K hp sz rc (64 * rc) 39 [(0, .ref l0), (1, .ref l1), (2, .int l2), (3, .int r)] []) ?_ h hr
  clear h hr
  rintro l3 x h kl kr
  show aW K hp sz rc (64 * rc) 16 [(0, .ref l0), (1, .ref l1), (2, .int l2), (3, .int l3)] []
  replace h : f_X2_onlySolution_L16 hp l1 l2 l3 = some x := h
  unfold f_X2_onlySolution_L16 at h
  refine r_iload_n C 3 rfl dX2_onlySolution_16 rfl ?_
  refine r_iload_n C 2 rfl dX2_onlySolution_17 rfl ?_
  refine r_iconst C (v := 1) dX2_onlySolution_18 (by decide) ?_
  refine r_isub C dX2_onlySolution_19 ?_
  refine r_icmp_ge C (tgt := 39) dX2_onlySolution_20 (by decide) (fun hc => ?_) (fun hc => ?_)
  · replace h := br_p hc h
    refine r_lv (lv' := [(0, .ref l0), (1, .ref l1), (2, .int l2), (3, .int l3)]) [0, 1, 2, 3] rfl ?_
    exact kr _ (sm_i h)
  · replace h := br_n hc h
    refine r_aload_n C 1 rfl dX2_onlySolution_23 rfl ?_
    refine r_iload_n C 3 rfl dX2_onlySolution_24 rfl ?_
    replace h := bd_i h
    obtain ⟨u5, e6, h⟩ := h
    refine k_lR C (by decide) e6 dX2_onlySolution_25 ?_
    replace h := bd_i h
    obtain ⟨a7, e8, h⟩ := h
    subst e8
    replace h := bd_i h
    obtain ⟨r10, q9, h⟩ := h
    refine q_callS C 0 rc (64 * rc) (k_X2_lead q9) rfl okX2_lead inX2_lead lkX2_17 rfl (Nat.le_of_ble_eq_true rfl) ⟨by decide, by decide⟩ dX2_onlySolution_26 (by omega) (by omega) ?_
    refine r_iload_n C 3 rfl dX2_onlySolution_29 rfl ?_
    refine r_icmp_ne C (tgt := 39) dX2_onlySolution_30 (by decide) (fun hc => ?_) (fun hc => ?_)
    · replace h := br_n hc h
      refine r_lv (lv' := [(0, .ref l0), (1, .ref l1), (2, .int l2), (3, .int l3)]) [0, 1, 2, 3] rfl ?_
      exact kr _ (sm_i h)
    · replace h := br_p hc h
      refine r_iinc C (v := l3 + 1) (lv' := [(3, .int (l3 + 1)), (0, .ref l0), (1, .ref l1), (2, .int l2)]) 3 rfl dX2_onlySolution_33 rfl (by decide) rfl ?_
      refine r_goto C (tgt := 16) dX2_onlySolution_36 (by decide) ?_
      refine r_lv (lv' := [(0, .ref l0), (1, .ref l1), (2, .int l2), (3, .int (l3 + 1))]) [1, 2, 3, 0] rfl ?_
      exact kl _ (sm_i h)
set_option maxHeartbeats 4000000 in
set_option maxRecDepth 100000 in
theorem w_X2_onlySolution_L52 {K : kT} {O : oT} (C : aC K cX2_onlySolution RX2 "onlySolution" 3 57 1 (64 * 1) 6 (some (.array .long)) O) {hp : cH} {sz rc : Nat} {l0 : Nat} {l1 : Nat} {l2 : Int32} {l3 : Int32} {l4 : Nat} {l5 : Int32} {eh : cH} (h : itX (fun s => f_X2_onlySolution_L52 l0 l1 l2 l3 l4 s.1 s.2) (l5, hp) = some eh) (hr : aW K eh sz rc (64 * rc) 97 [(4, .ref l4)] []) : aW K hp sz rc (64 * rc) 52 [(0, .ref l0), (1, .ref l1), (2, .int l2), (3, .int l3), (4, .ref l4), (5, .int l5)] [] := by
  refine it_walk (f := fun s => f_X2_onlySolution_L52 l0 l1 l2 l3 l4 s.1 s.2) (P := fun s => aW K s.2 sz rc (64 * rc) 52 [(0, .ref l0), (1, .ref l1), (2, .int l2), (3, .int l3), (4, .ref l4), (5, .int s.1)] []) (R := fun r => aW K r sz rc (64 * rc) 97 [(4, .ref l4)] []) ?_ h hr
  clear h hr
  rintro ⟨l5, hp⟩ x h kl kr
  show aW K hp sz rc (64 * rc) 52 [(0, .ref l0), (1, .ref l1), (2, .int l2), (3, .int l3), (4, .ref l4), (5, .int l5)] []
  replace h : f_X2_onlySolution_L52 l0 l1 l2 l3 l4 l5 hp = some x := h
  unfold f_X2_onlySolution_L52 at h
  refine r_iload C 5 rfl dX2_onlySolution_52 ?_
  refine r_iload_n C 2 rfl dX2_onlySolution_54 rfl ?_
  refine r_iconst C (v := 1) dX2_onlySolution_55 (by decide) ?_
  refine r_isub C dX2_onlySolution_56 ?_
  refine r_icmp_ge C (tgt := 97) dX2_onlySolution_57 (by decide) (fun hc => ?_) (fun hc => ?_)
  · replace h := br_p hc h
    refine r_lv (lv' := [(4, .ref l4)]) [4] rfl ?_
    exact kr _ (sm_i h)
  · replace h := br_n hc h
    refine r_aload C 4 rfl dX2_onlySolution_60 ?_
    refine r_iload C 5 rfl dX2_onlySolution_62 ?_
    refine r_iload_n C 3 rfl dX2_onlySolution_64 rfl ?_
    refine r_icmp_ge C (tgt := 73) dX2_onlySolution_65 (by decide) (fun hc => ?_) (fun hc => ?_)
    · replace h := br_p hc h
      refine r_iload C 5 rfl dX2_onlySolution_73 ?_
      refine r_iconst C (v := 1) dX2_onlySolution_75 (by decide) ?_
      refine r_iadd C dX2_onlySolution_76 ?_
      refine r_aload_n C 0 rfl dX2_onlySolution_77 rfl ?_
      replace h := bd_i h
      obtain ⟨w17, e18, h⟩ := h
      refine k_gR C e18 rfl inX2_ (by decide) flX2_7 dX2_onlySolution_78 ?_
      refine r_aload_n C 1 rfl dX2_onlySolution_81 rfl ?_
      refine r_iload C 5 rfl dX2_onlySolution_82 ?_
      replace h := bd_i h
      obtain ⟨u19, e20, h⟩ := h
      refine k_lR C (by decide) e20 dX2_onlySolution_84 ?_
      refine r_iload_n C 3 rfl dX2_onlySolution_85 rfl ?_
      replace h := bd_i h
      obtain ⟨a21, e22, h⟩ := h
      subst e22
      replace h := bd_i h
      obtain ⟨w23, e24, h⟩ := h
      refine k_lJ C e24 dX2_onlySolution_86 ?_
      replace h := gd_t h
      obtain ⟨ho25, h⟩ := h
      obtain ⟨_, ho25⟩ := isO_s ho25
      replace h := bd_i h
      obtain ⟨r27, q26, h⟩ := h
      refine q_callV C 2 rc (64 * rc) (k_X0_negative q26) rfl ho25 rfl okX0_negative inX0_negative lkX2_82 rfl (Nat.le_of_ble_eq_true rfl) ⟨by decide, by decide⟩ dX2_onlySolution_87 (by omega) (by omega) ?_
      replace h := bd_i h
      obtain ⟨hp28, e29, h⟩ := h
      refine k_sJ C e29 dX2_onlySolution_90 ?_
      refine r_iinc C (v := l5 + 1) (lv' := [(5, .int (l5 + 1)), (0, .ref l0), (1, .ref l1), (2, .int l2), (3, .int l3), (4, .ref l4)]) 5 rfl dX2_onlySolution_91 rfl (by decide) rfl ?_
      refine r_goto C (tgt := 52) dX2_onlySolution_94 (by decide) ?_
      refine r_lv (lv' := [(0, .ref l0), (1, .ref l1), (2, .int l2), (3, .int l3), (4, .ref l4), (5, .int (l5 + 1))]) [1, 2, 3, 4, 5, 0] rfl ?_
      exact kl _ (sm_i h)
    · replace h := br_n hc h
      refine r_iload C 5 rfl dX2_onlySolution_68 ?_
      refine r_goto C (tgt := 77) dX2_onlySolution_70 (by decide) ?_
      refine r_aload_n C 0 rfl dX2_onlySolution_77 rfl ?_
      replace h := bd_i h
      obtain ⟨w30, e31, h⟩ := h
      refine k_gR C e31 rfl inX2_ (by decide) flX2_7 dX2_onlySolution_78 ?_
      refine r_aload_n C 1 rfl dX2_onlySolution_81 rfl ?_
      refine r_iload C 5 rfl dX2_onlySolution_82 ?_
      replace h := bd_i h
      obtain ⟨u32, e33, h⟩ := h
      refine k_lR C (by decide) e33 dX2_onlySolution_84 ?_
      refine r_iload_n C 3 rfl dX2_onlySolution_85 rfl ?_
      replace h := bd_i h
      obtain ⟨a34, e35, h⟩ := h
      subst e35
      replace h := bd_i h
      obtain ⟨w36, e37, h⟩ := h
      refine k_lJ C e37 dX2_onlySolution_86 ?_
      replace h := gd_t h
      obtain ⟨ho38, h⟩ := h
      obtain ⟨_, ho38⟩ := isO_s ho38
      replace h := bd_i h
      obtain ⟨r40, q39, h⟩ := h
      refine q_callV C 2 rc (64 * rc) (k_X0_negative q39) rfl ho38 rfl okX0_negative inX0_negative lkX2_82 rfl (Nat.le_of_ble_eq_true rfl) ⟨by decide, by decide⟩ dX2_onlySolution_87 (by omega) (by omega) ?_
      replace h := bd_i h
      obtain ⟨hp41, e42, h⟩ := h
      refine k_sJ C e42 dX2_onlySolution_90 ?_
      refine r_iinc C (v := l5 + 1) (lv' := [(5, .int (l5 + 1)), (0, .ref l0), (1, .ref l1), (2, .int l2), (3, .int l3), (4, .ref l4)]) 5 rfl dX2_onlySolution_91 rfl (by decide) rfl ?_
      refine r_goto C (tgt := 52) dX2_onlySolution_94 (by decide) ?_
      refine r_lv (lv' := [(0, .ref l0), (1, .ref l1), (2, .int l2), (3, .int l3), (4, .ref l4), (5, .int (l5 + 1))]) [1, 2, 3, 4, 5, 0] rfl ?_
      exact kl _ (sm_i h)
set_option maxHeartbeats 4000000 in
set_option maxRecDepth 100000 in
theorem w_X2_onlySolution_J39 {K : kT} {O : oT} (C : aC K cX2_onlySolution RX2 "onlySolution" 3 57 1 (64 * 1) 6 (some (.array .long)) O) {hp : cH} {sz rc : Nat} {l0 : Nat} {l1 : Nat} {l2 : Int32} {l3 : Int32} {o0 : Option Nat} {oh : cH} {oz : Nat} (h : f_X2_onlySolution_J39 hp sz rc l0 l1 l2 l3 = some (o0, oh, oz)) (hO : ((some (va_rf o0), oh, oz) : oT) = O) : aW K hp sz rc (64 * rc) 39 [(0, .ref l0), (1, .ref l1), (2, .int l2), (3, .int l3)] [] := by
  unfold f_X2_onlySolution_J39 at h
  refine r_iload_n C 2 rfl dX2_onlySolution_39 rfl ?_
  replace h := gd_t h
  obtain ⟨hrc, h⟩ := h
  replace h := bd_i h
  obtain ⟨hp13, e14, h⟩ := h
  refine k_nJ C (rc - 1) e14 dX2_onlySolution_40 (by omega) ?_
  refine r_astore C (lv' := [(4, .ref sz), (0, .ref l0), (1, .ref l1), (2, .int l2), (3, .int l3)]) dX2_onlySolution_42 (by decide) rfl ?_
  refine r_aload C 0 rfl dX2_onlySolution_44 ?_
  refine r_iload_n C 4 rfl dX2_onlySolution_46 rfl ?_
  refine r_lconst C (v := 1) dX2_onlySolution_47 (by decide) ?_
  replace h := bd_i h
  obtain ⟨hp15, e16, h⟩ := h
  refine k_sJ C e16 dX2_onlySolution_48 ?_
  refine r_iconst C (v := 0) dX2_onlySolution_49 (by decide) ?_
  refine r_istore C (lv' := [(5, .int ((0 : Int32))), (4, .ref sz), (0, .ref l0), (1, .ref l1), (2, .int l2), (3, .int l3)]) dX2_onlySolution_50 (by decide) rfl ?_
  refine r_lv (lv' := [(0, .ref l0), (1, .ref l1), (2, .int l2), (3, .int l3), (4, .ref sz), (5, .int ((0 : Int32)))]) [2, 3, 4, 5, 1, 0] rfl ?_
  replace h := bd_i h
  obtain ⟨hp43, q44, h⟩ := h
  refine w_X2_onlySolution_L52 C  q44 ?_
  refine r_aload C 0 rfl dX2_onlySolution_97 ?_
  cases h
  exact r_areturnA C (Or.inr ⟨_, rfl⟩) (Eq.symm hO) dX2_onlySolution_99
set_option maxHeartbeats 4000000 in
set_option maxRecDepth 100000 in
theorem k_X2_onlySolution {G : gT} {hp : cH} {sz : Nat} {l0 : Nat} {l1 : Nat} {l2 : Int32} {o0 : Option Nat} {oh : cH} {oz : Nat} (h : f_X2_onlySolution hp sz l0 l1 l2 = some (o0, oh, oz)) : aM G yX2_onlySolution cX2_onlySolution 6 (some (.array .long)) 3 57 1 (64 * 1) [.ref l0, .ref l1, .int l2] hp sz ((some (va_rf o0), oh, oz) : oT) := by
  refine aM.of RX2 (by decide) rfl (Nat.le_of_ble_eq_true rfl) (fun K C => ?_)
  have hO : ((some (va_rf o0), oh, oz) : oT) = ((some (va_rf o0), oh, oz) : oT) := rfl
  refine r_lve (lv' := [(0, .ref l0), (1, .ref l1), (2, .int l2)]) rfl ?_
  unfold f_X2_onlySolution at h
  refine r_aload_n C 0 rfl dX2_onlySolution_0 rfl ?_
  refine r_aload_n C 1 rfl dX2_onlySolution_1 rfl ?_
  refine r_iload_n C 2 rfl dX2_onlySolution_2 rfl ?_
  replace h := gd_t h
  obtain ⟨ho1, h⟩ := h
  obtain ⟨_, ho1⟩ := isO_s ho1
  replace h := bd_i h
  obtain ⟨⟨r3, hp4⟩, q2, h⟩ := h
  refine q_callV C 0 1 (64 * 1) (k_X2_eliminate q2) rfl ho1 rfl okX2_eliminate inX2_eliminate lkX2_63 rfl (Nat.le_of_ble_eq_true rfl) ⟨by decide, by decide⟩ dX2_onlySolution_3 (by omega) (by omega) ?_
  refine r_iload_n C 2 rfl dX2_onlySolution_6 rfl ?_
  refine r_iconst C (v := 1) dX2_onlySolution_7 (by decide) ?_
  refine r_isub C dX2_onlySolution_8 ?_
  refine r_icmp_eq C (tgt := 14) dX2_onlySolution_9 (by decide) (fun hc => ?_) (fun hc => ?_)
  · replace h := br_p hc h
    refine r_iconst C (v := 0) dX2_onlySolution_14 (by decide) ?_
    refine r_istore_n C (lv' := [(3, .int ((0 : Int32))), (0, .ref l0), (1, .ref l1), (2, .int l2)]) dX2_onlySolution_15 rfl (by decide) rfl ?_
    refine r_lv (lv' := [(0, .ref l0), (1, .ref l1), (2, .int l2), (3, .int ((0 : Int32)))]) [1, 2, 3, 0] rfl ?_
    replace h := bd_i h
    obtain ⟨y11, q12, h⟩ := h
    refine w_X2_onlySolution_L16 C  q12 ?_
    refine r_lv (lv' := [(0, .ref l0), (1, .ref l1), (2, .int l2), (3, .int y11)]) [0, 1, 2, 3] rfl ?_
    exact w_X2_onlySolution_J39 C  h hO
  · replace h := br_n hc h
    refine r_null C dX2_onlySolution_12 ?_
    cases h
    exact r_areturn C (Or.inr ⟨_, rfl⟩) (Eq.symm hO) dX2_onlySolution_13
noncomputable def f_X4_quadricThrough_L66 (l0 : Nat) (l3 : Nat) (l4 : Nat) (l6 : Int32) (l5 : Int32) (l7 : Int32) (hp : cH) : Option ((Int32 × Int32 × cH) ⊕ (Int32 × cH)) := (gI hp l0 4 2).bind fun w26 => if w26 ≤ l7 then (some (.inr (l5, hp))) else ((gI hp l0 4 2).bind fun w28 => (lJ hp l3 l5).bind fun w30 => (sJ hp l4 ((l6 * w28) + l7) w30).bind fun hp32 => (gI hp32 l0 4 2).bind fun w34 => (lJ hp32 l3 l5).bind fun w36 => (sJ hp32 l4 ((l7 * w34) + l6) w36).bind fun hp38 => some (.inl (l5 + 1, l7 + 1, hp38)))
noncomputable def f_X4_quadricThrough_L53 (l0 : Nat) (l3 : Nat) (l4 : Nat) (l5 : Int32) (l6 : Int32) (hp : cH) : Option ((Int32 × Int32 × cH) ⊕ cH) := (gI hp l0 4 2).bind fun w24 => if w24 ≤ l6 then (some (.inr hp)) else ((itX (fun s => f_X4_quadricThrough_L66 l0 l3 l4 l6 s.1 s.2.1 s.2.2) (l5, l6, hp)).bind fun (y40, hp41) => some (.inl (y40, l6 + 1, hp41)))
noncomputable def f_X4_quadricThrough (hp : cH) (sz : Nat) (l0 : Nat) (l1 : Nat) : Option ((Option Nat) × cH × Nat) := (gI hp l0 4 2).bind fun w1 => (gI hp l0 4 2).bind fun w3 => (gR hp l0 4 0).bind fun w5 => if isO hp l0 4 = true then (f_X4_quadricConditions hp sz l0 l1).bind fun (r9, hp10, z11) => if isO hp10 w5 2 = true then (f_X2_onlySolution hp10 z11 w5 r9 ((w1 * (w3 + ((1 : Int32)))) / ((2 : Int32)))).bind fun (r14, hp15, z16) => Option.elim r14 (some (none, hp15, z16)) (fun a17 => (gI hp15 l0 4 2).bind fun w18 => (gI hp15 l0 4 2).bind fun w20 => (nJ hp15 z16 (w18 * w20)).bind fun hp22 => (itX (fun s => f_X4_quadricThrough_L53 l0 a17 z16 s.1 s.2.1 s.2.2) ((0 : Int32), (0 : Int32), hp22)).bind fun hp43 => some ((some z16), hp43, (z16 + 1))) else none else none
set_option maxHeartbeats 4000000 in
set_option maxRecDepth 100000 in
theorem w_X4_quadricThrough_L66 {K : kT} {O : oT} (C : aC K cX4_quadricThrough RX4 "quadricThrough" 4 74 12 (64 * 12) 8 (some (.array .long)) O) {hp : cH} {sz rc : Nat} {l0 : Nat} {l3 : Nat} {l4 : Nat} {l5 : Int32} {l6 : Int32} {l7 : Int32} {e5 : Int32} {eh : cH} (h : itX (fun s => f_X4_quadricThrough_L66 l0 l3 l4 l6 s.1 s.2.1 s.2.2) (l5, l7, hp) = some (e5, eh)) (hr : aW K eh sz rc (64 * rc) 118 [(0, .ref l0), (3, .ref l3), (4, .ref l4), (5, .int e5), (6, .int l6)] []) : aW K hp sz rc (64 * rc) 66 [(0, .ref l0), (3, .ref l3), (4, .ref l4), (5, .int l5), (6, .int l6), (7, .int l7)] [] := by
  refine it_walk (f := fun s => f_X4_quadricThrough_L66 l0 l3 l4 l6 s.1 s.2.1 s.2.2) (P := fun s => aW K s.2.2 sz rc (64 * rc) 66 [(0, .ref l0), (3, .ref l3), (4, .ref l4), (5, .int s.1), (6, .int l6), (7, .int s.2.1)] []) (R := fun r => aW K r.2 sz rc (64 * rc) 118 [(0, .ref l0), (3, .ref l3), (4, .ref l4), (5, .int r.1), (6, .int l6)] []) ?_ h hr
  clear h hr
  rintro ⟨l5, l7, hp⟩ x h kl kr
  show aW K hp sz rc (64 * rc) 66 [(0, .ref l0), (3, .ref l3), (4, .ref l4), (5, .int l5), (6, .int l6), (7, .int l7)] []
  replace h : f_X4_quadricThrough_L66 l0 l3 l4 l6 l5 l7 hp = some x := h
  unfold f_X4_quadricThrough_L66 at h
  refine r_iload C 5 rfl dX4_quadricThrough_66 ?_
  refine r_aload_n C 0 rfl dX4_quadricThrough_68 rfl ?_
  replace h := bd_i h
  obtain ⟨w26, e27, h⟩ := h
  refine k_gI C e27 rfl inX4_ (by decide) flX4_26 dX4_quadricThrough_69 ?_
  refine r_icmp_ge C (tgt := 118) dX4_quadricThrough_72 (by decide) (fun hc => ?_) (fun hc => ?_)
  · replace h := br_p hc h
    refine r_lv (lv' := [(0, .ref l0), (3, .ref l3), (4, .ref l4), (5, .int l5), (6, .int l6)]) [0, 1, 2, 3, 4] rfl ?_
    exact kr _ (sm_i h)
  · replace h := br_n hc h
    refine r_aload C 2 rfl dX4_quadricThrough_75 ?_
    refine r_iload C 4 rfl dX4_quadricThrough_77 ?_
    refine r_aload_n C 0 rfl dX4_quadricThrough_79 rfl ?_
    replace h := bd_i h
    obtain ⟨w28, e29, h⟩ := h
    refine k_gI C e29 rfl inX4_ (by decide) flX4_26 dX4_quadricThrough_80 ?_
    refine r_imul C dX4_quadricThrough_83 ?_
    refine r_iload C 5 rfl dX4_quadricThrough_84 ?_
    refine r_iadd C dX4_quadricThrough_86 ?_
    refine r_aload_n C 1 rfl dX4_quadricThrough_87 rfl ?_
    refine r_iload C 3 rfl dX4_quadricThrough_88 ?_
    replace h := bd_i h
    obtain ⟨w30, e31, h⟩ := h
    refine k_lJ C e31 dX4_quadricThrough_90 ?_
    replace h := bd_i h
    obtain ⟨hp32, e33, h⟩ := h
    refine k_sJ C e33 dX4_quadricThrough_91 ?_
    refine r_aload C 2 rfl dX4_quadricThrough_92 ?_
    refine r_iload C 5 rfl dX4_quadricThrough_94 ?_
    refine r_aload_n C 0 rfl dX4_quadricThrough_96 rfl ?_
    replace h := bd_i h
    obtain ⟨w34, e35, h⟩ := h
    refine k_gI C e35 rfl inX4_ (by decide) flX4_26 dX4_quadricThrough_97 ?_
    refine r_imul C dX4_quadricThrough_100 ?_
    refine r_iload C 4 rfl dX4_quadricThrough_101 ?_
    refine r_iadd C dX4_quadricThrough_103 ?_
    refine r_aload_n C 1 rfl dX4_quadricThrough_104 rfl ?_
    refine r_iload C 3 rfl dX4_quadricThrough_105 ?_
    replace h := bd_i h
    obtain ⟨w36, e37, h⟩ := h
    refine k_lJ C e37 dX4_quadricThrough_107 ?_
    replace h := bd_i h
    obtain ⟨hp38, e39, h⟩ := h
    refine k_sJ C e39 dX4_quadricThrough_108 ?_
    refine r_iinc C (v := l5 + 1) (lv' := [(5, .int (l5 + 1)), (0, .ref l0), (3, .ref l3), (4, .ref l4), (6, .int l6), (7, .int l7)]) 3 rfl dX4_quadricThrough_109 rfl (by decide) rfl ?_
    refine r_iinc C (v := l7 + 1) (lv' := [(7, .int (l7 + 1)), (5, .int (l5 + 1)), (0, .ref l0), (3, .ref l3), (4, .ref l4), (6, .int l6)]) 5 rfl dX4_quadricThrough_112 rfl (by decide) rfl ?_
    refine r_goto C (tgt := 66) dX4_quadricThrough_115 (by decide) ?_
    refine r_lv (lv' := [(0, .ref l0), (3, .ref l3), (4, .ref l4), (5, .int (l5 + 1)), (6, .int l6), (7, .int (l7 + 1))]) [2, 3, 4, 1, 5, 0] rfl ?_
    exact kl _ (sm_i h)
set_option maxHeartbeats 4000000 in
set_option maxRecDepth 100000 in
theorem w_X4_quadricThrough_L53 {K : kT} {O : oT} (C : aC K cX4_quadricThrough RX4 "quadricThrough" 4 74 12 (64 * 12) 8 (some (.array .long)) O) {hp : cH} {sz rc : Nat} {l0 : Nat} {l3 : Nat} {l4 : Nat} {l5 : Int32} {l6 : Int32} {eh : cH} (h : itX (fun s => f_X4_quadricThrough_L53 l0 l3 l4 s.1 s.2.1 s.2.2) (l5, l6, hp) = some eh) (hr : aW K eh sz rc (64 * rc) 124 [(4, .ref l4)] []) : aW K hp sz rc (64 * rc) 53 [(0, .ref l0), (3, .ref l3), (4, .ref l4), (5, .int l5), (6, .int l6)] [] := by
  refine it_walk (f := fun s => f_X4_quadricThrough_L53 l0 l3 l4 s.1 s.2.1 s.2.2) (P := fun s => aW K s.2.2 sz rc (64 * rc) 53 [(0, .ref l0), (3, .ref l3), (4, .ref l4), (5, .int s.1), (6, .int s.2.1)] []) (R := fun r => aW K r sz rc (64 * rc) 124 [(4, .ref l4)] []) ?_ h hr
  clear h hr
  rintro ⟨l5, l6, hp⟩ x h kl kr
  show aW K hp sz rc (64 * rc) 53 [(0, .ref l0), (3, .ref l3), (4, .ref l4), (5, .int l5), (6, .int l6)] []
  replace h : f_X4_quadricThrough_L53 l0 l3 l4 l5 l6 hp = some x := h
  unfold f_X4_quadricThrough_L53 at h
  refine r_iload C 4 rfl dX4_quadricThrough_53 ?_
  refine r_aload_n C 0 rfl dX4_quadricThrough_55 rfl ?_
  replace h := bd_i h
  obtain ⟨w24, e25, h⟩ := h
  refine k_gI C e25 rfl inX4_ (by decide) flX4_26 dX4_quadricThrough_56 ?_
  refine r_icmp_ge C (tgt := 124) dX4_quadricThrough_59 (by decide) (fun hc => ?_) (fun hc => ?_)
  · replace h := br_p hc h
    refine r_lv (lv' := [(4, .ref l4)]) [2] rfl ?_
    exact kr _ (sm_i h)
  · replace h := br_n hc h
    refine r_iload C 4 rfl dX4_quadricThrough_62 ?_
    refine r_istore C (lv' := [(7, .int l6), (0, .ref l0), (3, .ref l3), (4, .ref l4), (5, .int l5), (6, .int l6)]) dX4_quadricThrough_64 (by decide) rfl ?_
    refine r_lv (lv' := [(0, .ref l0), (3, .ref l3), (4, .ref l4), (5, .int l5), (6, .int l6), (7, .int l6)]) [1, 2, 3, 4, 5, 0] rfl ?_
    replace h := bd_i h
    obtain ⟨⟨y40, hp41⟩, q42, h⟩ := h
    refine w_X4_quadricThrough_L66 C  q42 ?_
    refine r_iinc C (v := l6 + 1) (lv' := [(6, .int (l6 + 1)), (0, .ref l0), (3, .ref l3), (4, .ref l4), (5, .int y40)]) 4 rfl dX4_quadricThrough_118 rfl (by decide) rfl ?_
    refine r_goto C (tgt := 53) dX4_quadricThrough_121 (by decide) ?_
    refine r_lv (lv' := [(0, .ref l0), (3, .ref l3), (4, .ref l4), (5, .int y40), (6, .int (l6 + 1))]) [1, 2, 3, 4, 0] rfl ?_
    exact kl _ (sm_i h)
set_option maxHeartbeats 4000000 in
set_option maxRecDepth 100000 in
theorem k_X4_quadricThrough {G : gT} {hp : cH} {sz : Nat} {l0 : Nat} {l1 : Nat} {o0 : Option Nat} {oh : cH} {oz : Nat} (h : f_X4_quadricThrough hp sz l0 l1 = some (o0, oh, oz)) : aM G yX4_quadricThrough cX4_quadricThrough 8 (some (.array .long)) 4 74 12 (64 * 12) [.ref l0, .ref l1] hp sz ((some (va_rf o0), oh, oz) : oT) := by
  refine aM.of RX4 (by decide) rfl (Nat.le_of_ble_eq_true rfl) (fun K C => ?_)
  have hO : ((some (va_rf o0), oh, oz) : oT) = ((some (va_rf o0), oh, oz) : oT) := rfl
  refine r_lve (lv' := [(0, .ref l0), (1, .ref l1)]) rfl ?_
  unfold f_X4_quadricThrough at h
  refine r_aload_n C 0 rfl dX4_quadricThrough_0 rfl ?_
  replace h := bd_i h
  obtain ⟨w1, e2, h⟩ := h
  refine k_gI C e2 rfl inX4_ (by decide) flX4_26 dX4_quadricThrough_1 ?_
  refine r_aload_n C 0 rfl dX4_quadricThrough_4 rfl ?_
  replace h := bd_i h
  obtain ⟨w3, e4, h⟩ := h
  refine k_gI C e4 rfl inX4_ (by decide) flX4_26 dX4_quadricThrough_5 ?_
  refine r_iconst C (v := 1) dX4_quadricThrough_8 (by decide) ?_
  refine r_iadd C dX4_quadricThrough_9 ?_
  refine r_imul C dX4_quadricThrough_10 ?_
  refine r_iconst C (v := 2) dX4_quadricThrough_11 (by decide) ?_
  refine r_idiv C dX4_quadricThrough_12 (by decide) ?_
  refine r_istore_n C (lv' := [(2, .int ((w1 * (w3 + ((1 : Int32)))) / ((2 : Int32)))), (0, .ref l0), (1, .ref l1)]) dX4_quadricThrough_13 rfl (by decide) rfl ?_
  refine r_aload_n C 1 rfl dX4_quadricThrough_14 rfl ?_
  replace h := bd_i h
  obtain ⟨w5, e6, h⟩ := h
  refine k_gR C e6 rfl inX4_ (by decide) flX4_9 dX4_quadricThrough_15 ?_
  refine r_aload_n C 1 rfl dX4_quadricThrough_18 rfl ?_
  refine r_aload_n C 2 rfl dX4_quadricThrough_19 rfl ?_
  replace h := gd_t h
  obtain ⟨ho7, h⟩ := h
  obtain ⟨_, ho7⟩ := isO_s ho7
  replace h := bd_i h
  obtain ⟨⟨r9, hp10, z11⟩, q8, h⟩ := h
  refine q_callV C 1 2 (64 * 2) (k_X4_quadricConditions q8) rfl ho7 rfl okX4_quadricConditions inX4_quadricConditions lkX4_122 rfl (Nat.le_of_ble_eq_true rfl) ⟨by decide, by decide⟩ dX4_quadricThrough_20 (by omega) (by omega) ?_
  refine r_iload_n C 0 rfl dX4_quadricThrough_23 rfl ?_
  replace h := gd_t h
  obtain ⟨ho12, h⟩ := h
  obtain ⟨_, ho12⟩ := isO_s ho12
  replace h := bd_i h
  obtain ⟨⟨r14, hp15, z16⟩, q13, h⟩ := h
  refine q_callV C 0 1 (64 * 1) (k_X2_onlySolution q13) rfl ho12 rfl okX2_onlySolution inX2_onlySolution lkX4_126 rfl (Nat.le_of_ble_eq_true rfl) ⟨by decide, by decide⟩ dX4_quadricThrough_24 (by omega) (by omega) ?_
  refine r_astore_nq C (lv' := [(3, va_rf r14), (2, .int ((w1 * (w3 + ((1 : Int32)))) / ((2 : Int32)))), (0, .ref l0), (1, .ref l1)]) dX4_quadricThrough_27 rfl (by decide) rfl ?_
  refine r_aload_nq C 0 rfl dX4_quadricThrough_28 rfl ?_
  refine k_ifnonnull C (tgt := 34) dX4_quadricThrough_29 (by decide) (fun a17 hx => ?_) (fun hx => ?_)
  · subst hx
    replace h := oe_s rfl h
    refine r_aload_n C 2 rfl dX4_quadricThrough_34 rfl ?_
    replace h := bd_i h
    obtain ⟨w18, e19, h⟩ := h
    refine k_gI C e19 rfl inX4_ (by decide) flX4_26 dX4_quadricThrough_35 ?_
    refine r_aload_n C 2 rfl dX4_quadricThrough_38 rfl ?_
    replace h := bd_i h
    obtain ⟨w20, e21, h⟩ := h
    refine k_gI C e21 rfl inX4_ (by decide) flX4_26 dX4_quadricThrough_39 ?_
    refine r_imul C dX4_quadricThrough_42 ?_
    replace h := bd_i h
    obtain ⟨hp22, e23, h⟩ := h
    refine k_nJ C 0 e23 dX4_quadricThrough_43 (by omega) ?_
    refine r_astore C (lv' := [(4, .ref z16), (3, .ref a17), (2, .int ((w1 * (w3 + ((1 : Int32)))) / ((2 : Int32)))), (0, .ref l0), (1, .ref l1)]) dX4_quadricThrough_45 (by decide) rfl ?_
    refine r_iconst C (v := 0) dX4_quadricThrough_47 (by decide) ?_
    refine r_istore C (lv' := [(5, .int ((0 : Int32))), (4, .ref z16), (3, .ref a17), (2, .int ((w1 * (w3 + ((1 : Int32)))) / ((2 : Int32)))), (0, .ref l0), (1, .ref l1)]) dX4_quadricThrough_48 (by decide) rfl ?_
    refine r_iconst C (v := 0) dX4_quadricThrough_50 (by decide) ?_
    refine r_istore C (lv' := [(6, .int ((0 : Int32))), (5, .int ((0 : Int32))), (4, .ref z16), (3, .ref a17), (2, .int ((w1 * (w3 + ((1 : Int32)))) / ((2 : Int32)))), (0, .ref l0), (1, .ref l1)]) dX4_quadricThrough_51 (by decide) rfl ?_
    refine r_lv (lv' := [(0, .ref l0), (3, .ref a17), (4, .ref z16), (5, .int ((0 : Int32))), (6, .int ((0 : Int32)))]) [5, 3, 2, 1, 0] rfl ?_
    replace h := bd_i h
    obtain ⟨hp43, q44, h⟩ := h
    refine w_X4_quadricThrough_L53 C  q44 ?_
    refine r_aload C 0 rfl dX4_quadricThrough_124 ?_
    cases h
    exact r_areturnA C (Or.inr ⟨_, rfl⟩) (Eq.symm hO) dX4_quadricThrough_126
  · subst hx
    replace h := oe_n rfl h
    refine r_null C dX4_quadricThrough_32 ?_
    cases h
    exact r_areturn C (Or.inr ⟨_, rfl⟩) (Eq.symm hO) dX4_quadricThrough_33
noncomputable def f_X5_quadric (hp : cH) (sz : Nat) (l0 : Nat) : Option (Int32 × cH × Nat) := (gR hp l0 5 2).bind fun w1 => (gI hp l0 5 10).bind fun w3 => if isO hp l0 5 = true then (f_X5_pointRows hp sz l0 w1 w3).bind fun (r7, hp8, z9) => (gR hp8 l0 5 9).bind fun w10 => if isO hp8 w10 4 = true then (f_X4_quadricThrough hp8 z9 w10 r7).bind fun (r14, hp15, z16) => if isO hp15 l0 5 = true then (f_X5_keep hp15 z16 l0 ((4 : Int32)) r14).bind fun (r19, hp20, z21) => some (r19, hp20, z21) else none else none else none
set_option maxHeartbeats 4000000 in
set_option maxRecDepth 100000 in
theorem k_X5_quadric {G : gT} {hp : cH} {sz : Nat} {l0 : Nat} {o0 : Int32} {oh : cH} {oz : Nat} (h : f_X5_quadric hp sz l0 = some (o0, oh, oz)) : aM G yX5_quadric cX5_quadric 2 (some .int) 5 95 24 (64 * 24) [.ref l0] hp sz ((some (.int o0), oh, oz) : oT) := by
  refine aM.of RX5 (by decide) rfl (Nat.le_of_ble_eq_true rfl) (fun K C => ?_)
  have hO : ((some (.int o0), oh, oz) : oT) = ((some (.int o0), oh, oz) : oT) := rfl
  refine r_lve (lv' := [(0, .ref l0)]) rfl ?_
  unfold f_X5_quadric at h
  refine r_aload_n C 0 rfl dX5_quadric_0 rfl ?_
  refine r_aload_n C 0 rfl dX5_quadric_1 rfl ?_
  replace h := bd_i h
  obtain ⟨w1, e2, h⟩ := h
  refine k_gR C e2 rfl inX5_ (by decide) flX5_20 dX5_quadric_2 ?_
  refine r_aload_n C 0 rfl dX5_quadric_5 rfl ?_
  replace h := bd_i h
  obtain ⟨w3, e4, h⟩ := h
  refine k_gI C e4 rfl inX5_ (by decide) flX5_207 dX5_quadric_6 ?_
  replace h := gd_t h
  obtain ⟨ho5, h⟩ := h
  obtain ⟨_, ho5⟩ := isO_s ho5
  replace h := bd_i h
  obtain ⟨⟨r7, hp8, z9⟩, q6, h⟩ := h
  refine q_callV C 0 14 (64 * 14) (k_X5_pointRows q6) rfl ho5 rfl okX5_pointRows inX5_pointRows lkX5_172 rfl (Nat.le_of_ble_eq_true rfl) ⟨by decide, by decide⟩ dX5_quadric_9 (by omega) (by omega) ?_
  refine r_astore_n C (lv' := [(1, .ref r7), (0, .ref l0)]) dX5_quadric_12 rfl (by decide) rfl ?_
  refine r_aload_n C 1 rfl dX5_quadric_13 rfl ?_
  refine r_iconst C (v := 4) dX5_quadric_14 (by decide) ?_
  refine r_aload_n C 1 rfl dX5_quadric_15 rfl ?_
  replace h := bd_i h
  obtain ⟨w10, e11, h⟩ := h
  refine k_gR C e11 rfl inX5_ (by decide) flX5_86 dX5_quadric_16 ?_
  refine r_aload_n C 0 rfl dX5_quadric_19 rfl ?_
  replace h := gd_t h
  obtain ⟨ho12, h⟩ := h
  obtain ⟨_, ho12⟩ := isO_s ho12
  replace h := bd_i h
  obtain ⟨⟨r14, hp15, z16⟩, q13, h⟩ := h
  refine q_callV C 2 2 (64 * 2) (k_X4_quadricThrough q13) rfl ho12 rfl okX4_quadricThrough inX4_quadricThrough lkX5_210 rfl (Nat.le_of_ble_eq_true rfl) ⟨by decide, by decide⟩ dX5_quadric_20 (by omega) (by omega) ?_
  replace h := gd_t h
  obtain ⟨ho17, h⟩ := h
  obtain ⟨_, ho17⟩ := isO_s ho17
  replace h := bd_i h
  obtain ⟨⟨r19, hp20, z21⟩, q18, h⟩ := h
  refine q_callV C 0 0 (64 * 0) (k_X5_keep q18) rfl ho17 rfl okX5_keep inX5_keep lkX5_62 rfl (Nat.le_of_ble_eq_true rfl) ⟨by decide, by decide⟩ dX5_quadric_23 (by omega) (by omega) ?_
  cases h
  exact r_ireturn C (Eq.symm hO) dX5_quadric_26
noncomputable def f_X5_rank (hp : cH) (sz : Nat) (l0 : Nat) (l1 : Int32) : Option (Int32 × cH × Nat) := (gR hp l0 5 0).bind fun w1 => if isO hp w1 3 = true then (f_X3_row hp w1 l1 ((4 : Int32))).bind fun r5 => Option.elim r5 (some ((-2 : Int32), hp, sz)) (fun a6 => (gR hp l0 5 8).bind fun w7 => if isO hp w7 2 = true then (f_X2_rankOfSquare hp sz w7 a6).bind fun (r11, hp12, z13) => some (r11, hp12, z13) else none) else none
set_option maxHeartbeats 4000000 in
set_option maxRecDepth 100000 in
theorem k_X5_rank {G : gT} {hp : cH} {sz : Nat} {l0 : Nat} {l1 : Int32} {o0 : Int32} {oh : cH} {oz : Nat} (h : f_X5_rank hp sz l0 l1 = some (o0, oh, oz)) : aM G yX5_rank cX5_rank 3 (some .int) 4 70 10 (64 * 10) [.ref l0, .int l1] hp sz ((some (.int o0), oh, oz) : oT) := by
  refine aM.of RX5 (by decide) rfl (Nat.le_of_ble_eq_true rfl) (fun K C => ?_)
  have hO : ((some (.int o0), oh, oz) : oT) = ((some (.int o0), oh, oz) : oT) := rfl
  refine r_lve (lv' := [(0, .ref l0), (1, .int l1)]) rfl ?_
  unfold f_X5_rank at h
  refine r_aload_n C 0 rfl dX5_rank_0 rfl ?_
  replace h := bd_i h
  obtain ⟨w1, e2, h⟩ := h
  refine k_gR C e2 rfl inX5_ (by decide) flX5_10 dX5_rank_1 ?_
  refine r_iload_n C 1 rfl dX5_rank_4 rfl ?_
  refine r_iconst C (v := 4) dX5_rank_5 (by decide) ?_
  replace h := gd_t h
  obtain ⟨ho3, h⟩ := h
  obtain ⟨_, ho3⟩ := isO_s ho3
  replace h := bd_i h
  obtain ⟨r5, q4, h⟩ := h
  refine q_callV C 0 10 (64 * 10) (k_X3_row q4) rfl ho3 rfl okX3_row inX3_row lkX5_166 rfl (Nat.le_of_ble_eq_true rfl) ⟨by decide, by decide⟩ dX5_rank_6 (by omega) (by omega) ?_
  refine r_astore_nq C (lv' := [(2, va_rf r5), (0, .ref l0), (1, .int l1)]) dX5_rank_9 rfl (by decide) rfl ?_
  refine r_aload_nq C 0 rfl dX5_rank_10 rfl ?_
  refine k_ifnonnull C (tgt := 19) dX5_rank_11 (by decide) (fun a6 hx => ?_) (fun hx => ?_)
  · subst hx
    replace h := oe_s rfl h
    refine r_aload_n C 1 rfl dX5_rank_19 rfl ?_
    replace h := bd_i h
    obtain ⟨w7, e8, h⟩ := h
    refine k_gR C e8 rfl inX5_ (by decide) flX5_142 dX5_rank_20 ?_
    refine r_aload_n C 0 rfl dX5_rank_23 rfl ?_
    replace h := gd_t h
    obtain ⟨ho9, h⟩ := h
    obtain ⟨_, ho9⟩ := isO_s ho9
    replace h := bd_i h
    obtain ⟨⟨r11, hp12, z13⟩, q10, h⟩ := h
    refine q_callV C 0 0 (64 * 0) (k_X2_rankOfSquare q10) rfl ho9 rfl okX2_rankOfSquare inX2_rankOfSquare lkX5_213 rfl (Nat.le_of_ble_eq_true rfl) ⟨by decide, by decide⟩ dX5_rank_24 (by omega) (by omega) ?_
    cases h
    exact r_ireturn C (Eq.symm hO) dX5_rank_27
  · subst hx
    replace h := oe_n rfl h
    refine r_bipush C (v := -2) dX5_rank_14 (by decide) ?_
    refine r_goto C (tgt := 27) dX5_rank_16 (by decide) ?_
    cases h
    exact r_ireturn C (Eq.symm hO) dX5_rank_27
noncomputable def f_X5_polar (hp : cH) (sz : Nat) (l0 : Nat) (l1 : Int32) (l2 : Int32) : Option (Int32 × cH × Nat) := (gR hp l0 5 0).bind fun w1 => if isO hp w1 3 = true then (f_X3_row hp w1 l1 ((4 : Int32))).bind fun r5 => (gR hp l0 5 0).bind fun w6 => if isO hp w6 3 = true then (f_X3_item hp w6 l2).bind fun r10 => Option.elim r5 (some ((-2 : Int32), hp, sz)) (fun a11 => Option.elim r10 (some ((-2 : Int32), hp, sz)) (fun a12 => (gI hp a12 1 0).bind fun w13 => if w13 = 0 then ((gI hp l0 5 6).bind fun w41 => (gR hp l0 5 8).bind fun w43 => (gR hp a12 1 1).bind fun w45 => if isO hp w43 2 = true then (f_X2_image hp sz w43 a11 w45).bind fun (r49, hp50, z51) => if isO hp50 l0 5 = true then (f_X5_keep hp50 z51 l0 w41 ((some r49))).bind fun (r54, hp55, z56) => some (r54, hp55, z56) else none else none) else ((gI hp a12 1 0).bind fun w15 => (gI hp l0 5 6).bind fun w17 => if w15 = w17 then ((gR hp l0 5 8).bind fun w19 => if isO hp w19 2 = true then (f_X2_inverted hp sz w19 a11).bind fun (r23, hp24, z25) => Option.elim r23 (some ((-1 : Int32), hp24, z25)) (fun a26 => (gR hp24 l0 5 8).bind fun w27 => (gR hp24 a12 1 1).bind fun w29 => if isO hp24 w27 2 = true then (f_X2_image hp24 z25 w27 a26 w29).bind fun (r33, hp34, z35) => if isO hp34 l0 5 = true then (f_X5_keep hp34 z35 l0 ((0 : Int32)) ((some r33))).bind fun (r38, hp39, z40) => some (r38, hp39, z40) else none else none) else none) else (some ((-2 : Int32), hp, sz))))) else none else none
set_option maxHeartbeats 4000000 in
set_option maxRecDepth 100000 in
theorem k_X5_polar {G : gT} {hp : cH} {sz : Nat} {l0 : Nat} {l1 : Int32} {l2 : Int32} {o0 : Int32} {oh : cH} {oz : Nat} (h : f_X5_polar hp sz l0 l1 l2 = some (o0, oh, oz)) : aM G yX5_polar cX5_polar 6 (some .int) 4 73 17 (64 * 17) [.ref l0, .int l1, .int l2] hp sz ((some (.int o0), oh, oz) : oT) := by
  refine aM.of RX5 (by decide) rfl (Nat.le_of_ble_eq_true rfl) (fun K C => ?_)
  have hO : ((some (.int o0), oh, oz) : oT) = ((some (.int o0), oh, oz) : oT) := rfl
  refine r_lve (lv' := [(0, .ref l0), (1, .int l1), (2, .int l2)]) rfl ?_
  unfold f_X5_polar at h
  refine r_aload_n C 0 rfl dX5_polar_0 rfl ?_
  replace h := bd_i h
  obtain ⟨w1, e2, h⟩ := h
  refine k_gR C e2 rfl inX5_ (by decide) flX5_10 dX5_polar_1 ?_
  refine r_iload_n C 1 rfl dX5_polar_4 rfl ?_
  refine r_iconst C (v := 4) dX5_polar_5 (by decide) ?_
  replace h := gd_t h
  obtain ⟨ho3, h⟩ := h
  obtain ⟨_, ho3⟩ := isO_s ho3
  replace h := bd_i h
  obtain ⟨r5, q4, h⟩ := h
  refine q_callV C 0 17 (64 * 17) (k_X3_row q4) rfl ho3 rfl okX3_row inX3_row lkX5_166 rfl (Nat.le_of_ble_eq_true rfl) ⟨by decide, by decide⟩ dX5_polar_6 (by omega) (by omega) ?_
  refine r_astore_nq C (lv' := [(3, va_rf r5), (0, .ref l0), (1, .int l1), (2, .int l2)]) dX5_polar_9 rfl (by decide) rfl ?_
  refine r_aload_n C 1 rfl dX5_polar_10 rfl ?_
  replace h := bd_i h
  obtain ⟨w6, e7, h⟩ := h
  refine k_gR C e7 rfl inX5_ (by decide) flX5_10 dX5_polar_11 ?_
  refine r_iload_n C 3 rfl dX5_polar_14 rfl ?_
  replace h := gd_t h
  obtain ⟨ho8, h⟩ := h
  obtain ⟨_, ho8⟩ := isO_s ho8
  replace h := bd_i h
  obtain ⟨r10, q9, h⟩ := h
  refine q_callV C 0 17 (64 * 17) (k_X3_item q9) rfl ho8 rfl okX3_item inX3_item lkX5_66 rfl (Nat.le_of_ble_eq_true rfl) ⟨by decide, by decide⟩ dX5_polar_15 (by omega) (by omega) ?_
  refine r_astoreq C (lv' := [(4, va_rf r10), (3, va_rf r5), (0, .ref l0), (1, .int l1), (2, .int l2)]) dX5_polar_18 (by decide) (by simp [rf_cat]) ?_
  refine r_aload_nq C 1 rfl dX5_polar_20 rfl ?_
  refine k_ifnull C (tgt := 29) dX5_polar_21 (by decide) (fun hx => ?_) (fun a11 hx => ?_)
  · subst hx
    replace h := oe_n rfl h
    refine r_bipush C (v := -2) dX5_polar_29 (by decide) ?_
    cases h
    exact r_ireturn C (Eq.symm hO) dX5_polar_31
  · subst hx
    replace h := oe_s rfl h
    refine r_aloadq C 0 rfl dX5_polar_24 ?_
    refine k_ifnonnull C (tgt := 32) dX5_polar_26 (by decide) (fun a12 hx => ?_) (fun hx => ?_)
    · subst hx
      replace h := oe_s rfl h
      refine r_aload C 0 rfl dX5_polar_32 ?_
      replace h := bd_i h
      obtain ⟨w13, e14, h⟩ := h
      refine k_gI C e14 rfl inX1_ (by decide) flX5_75 dX5_polar_34 ?_
      refine r_if_ne C (tgt := 62) dX5_polar_37 (by decide) (fun hc => ?_) (fun hc => ?_)
      · replace h := br_n hc h
        refine r_aload C 0 rfl dX5_polar_62 ?_
        replace h := bd_i h
        obtain ⟨w15, e16, h⟩ := h
        refine k_gI C e16 rfl inX1_ (by decide) flX5_75 dX5_polar_64 ?_
        refine r_aload_n C 2 rfl dX5_polar_67 rfl ?_
        replace h := bd_i h
        obtain ⟨w17, e18, h⟩ := h
        refine k_gI C e18 rfl inX5_ (by decide) flX5_109 dX5_polar_68 ?_
        refine r_icmp_eq C (tgt := 77) dX5_polar_71 (by decide) (fun hc => ?_) (fun hc => ?_)
        · replace h := br_p hc h
          refine r_aload_n C 2 rfl dX5_polar_77 rfl ?_
          replace h := bd_i h
          obtain ⟨w19, e20, h⟩ := h
          refine k_gR C e20 rfl inX5_ (by decide) flX5_142 dX5_polar_78 ?_
          refine r_aload_n C 1 rfl dX5_polar_81 rfl ?_
          replace h := gd_t h
          obtain ⟨ho21, h⟩ := h
          obtain ⟨_, ho21⟩ := isO_s ho21
          replace h := bd_i h
          obtain ⟨⟨r23, hp24, z25⟩, q22, h⟩ := h
          refine q_callV C 0 6 (64 * 6) (k_X2_inverted q22) rfl ho21 rfl okX2_inverted inX2_inverted lkX5_180 rfl (Nat.le_of_ble_eq_true rfl) ⟨by decide, by decide⟩ dX5_polar_82 (by omega) (by omega) ?_
          refine r_astoreq C (lv' := [(5, va_rf r23), (4, .ref a12), (3, .ref a11), (0, .ref l0), (1, .int l1), (2, .int l2)]) dX5_polar_85 (by decide) rfl ?_
          refine r_aloadq C 0 rfl dX5_polar_87 ?_
          refine k_ifnonnull C (tgt := 96) dX5_polar_89 (by decide) (fun a26 hx => ?_) (fun hx => ?_)
          · subst hx
            replace h := oe_s rfl h
            refine r_aload_n C 3 rfl dX5_polar_96 rfl ?_
            refine r_iconst C (v := 0) dX5_polar_97 (by decide) ?_
            refine r_aload_n C 3 rfl dX5_polar_98 rfl ?_
            replace h := bd_i h
            obtain ⟨w27, e28, h⟩ := h
            refine k_gR C e28 rfl inX5_ (by decide) flX5_142 dX5_polar_99 ?_
            refine r_aload C 0 rfl dX5_polar_102 ?_
            refine r_aload C 1 rfl dX5_polar_104 ?_
            replace h := bd_i h
            obtain ⟨w29, e30, h⟩ := h
            refine k_gR C e30 rfl inX1_ (by decide) flX5_70 dX5_polar_106 ?_
            replace h := gd_t h
            obtain ⟨ho31, h⟩ := h
            obtain ⟨_, ho31⟩ := isO_s ho31
            replace h := bd_i h
            obtain ⟨⟨r33, hp34, z35⟩, q32, h⟩ := h
            refine q_callV C 2 5 (64 * 5) (k_X2_image q32) rfl ho31 rfl okX2_image inX2_image lkX5_190 rfl (Nat.le_of_ble_eq_true rfl) ⟨by decide, by decide⟩ dX5_polar_109 (by omega) (by omega) ?_
            replace h := gd_t h
            obtain ⟨ho36, h⟩ := h
            obtain ⟨_, ho36⟩ := isO_s ho36
            replace h := bd_i h
            obtain ⟨⟨r38, hp39, z40⟩, q37, h⟩ := h
            refine q_callV C 0 3 (64 * 3) (k_X5_keep q37) rfl ho36 rfl okX5_keep inX5_keep lkX5_62 rfl (Nat.le_of_ble_eq_true rfl) ⟨by decide, by decide⟩ dX5_polar_112 (by omega) (by omega) ?_
            cases h
            exact r_ireturn C (Eq.symm hO) dX5_polar_115
          · subst hx
            replace h := oe_n rfl h
            refine r_iconst C (v := -1) dX5_polar_92 (by decide) ?_
            refine r_goto C (tgt := 115) dX5_polar_93 (by decide) ?_
            cases h
            exact r_ireturn C (Eq.symm hO) dX5_polar_115
        · replace h := br_n hc h
          refine r_bipush C (v := -2) dX5_polar_74 (by decide) ?_
          cases h
          exact r_ireturn C (Eq.symm hO) dX5_polar_76
      · replace h := br_p hc h
        refine r_aload_n C 2 rfl dX5_polar_40 rfl ?_
        refine r_aload_n C 2 rfl dX5_polar_41 rfl ?_
        replace h := bd_i h
        obtain ⟨w41, e42, h⟩ := h
        refine k_gI C e42 rfl inX5_ (by decide) flX5_109 dX5_polar_42 ?_
        refine r_aload_n C 2 rfl dX5_polar_45 rfl ?_
        replace h := bd_i h
        obtain ⟨w43, e44, h⟩ := h
        refine k_gR C e44 rfl inX5_ (by decide) flX5_142 dX5_polar_46 ?_
        refine r_aload_n C 1 rfl dX5_polar_49 rfl ?_
        refine r_aload C 0 rfl dX5_polar_50 ?_
        replace h := bd_i h
        obtain ⟨w45, e46, h⟩ := h
        refine k_gR C e46 rfl inX1_ (by decide) flX5_70 dX5_polar_52 ?_
        replace h := gd_t h
        obtain ⟨ho47, h⟩ := h
        obtain ⟨_, ho47⟩ := isO_s ho47
        replace h := bd_i h
        obtain ⟨⟨r49, hp50, z51⟩, q48, h⟩ := h
        refine q_callV C 2 16 (64 * 16) (k_X2_image q48) rfl ho47 rfl okX2_image inX2_image lkX5_190 rfl (Nat.le_of_ble_eq_true rfl) ⟨by decide, by decide⟩ dX5_polar_55 (by omega) (by omega) ?_
        replace h := gd_t h
        obtain ⟨ho52, h⟩ := h
        obtain ⟨_, ho52⟩ := isO_s ho52
        replace h := bd_i h
        obtain ⟨⟨r54, hp55, z56⟩, q53, h⟩ := h
        refine q_callV C 0 14 (64 * 14) (k_X5_keep q53) rfl ho52 rfl okX5_keep inX5_keep lkX5_62 rfl (Nat.le_of_ble_eq_true rfl) ⟨by decide, by decide⟩ dX5_polar_58 (by omega) (by omega) ?_
        cases h
        exact r_ireturn C (Eq.symm hO) dX5_polar_61
    · subst hx
      replace h := oe_n rfl h
      refine r_bipush C (v := -2) dX5_polar_29 (by decide) ?_
      cases h
      exact r_ireturn C (Eq.symm hO) dX5_polar_31
noncomputable def f_X0_leastNonSquare_L4 (hp : cH) (l0 : Nat) (l1 : Int64) : Option (Int64 ⊕ (Unit ⊕ Int64)) := (gJ hp l0 0 0).bind fun w1 => if w1 ≤ l1 then (some (.inr (.inl ()))) else ((gJ hp l0 0 0).bind fun w3 => if isO hp l0 0 = true then (f_X0_power hp l0 l1 ((w3 - ((1 : Int64))) / ((2 : Int64)))).bind fun r7 => if r7 = ((1 : Int64)) then (some (.inl (l1 + ((1 : Int64))))) else (some (.inr (.inr l1))) else none)
noncomputable def f_X0_leastNonSquare (hp : cH) (l0 : Nat) : Option Int64 := (itX (f_X0_leastNonSquare_L4 hp l0) ((2 : Int64))).bind fun r9 => match r9 with | .inl _ => (some ((1 : Int64))) | .inr o10 => some o10
set_option maxHeartbeats 4000000 in
set_option maxRecDepth 100000 in
theorem w_X0_leastNonSquare_L4 {K : kT} {O : oT} (C : aC K cX0_leastNonSquare RX0 "leastNonSquare" 1 22 0 (64 * 0) 3 (some .long) O) {hp : cH} {sz : Nat} {l0 : Nat} {l1 : Int64} {r : (Unit ⊕ Int64)} (h : itX (f_X0_leastNonSquare_L4 hp l0) l1 = some r) (hr : Sum.elim (fun r => aW K hp sz 0 (64 * 0) 42 [] []) (fun o => ((some (.long o), hp, sz) : oT) = O) r) : aW K hp sz 0 (64 * 0) 4 [(0, .ref l0), (1, .long l1)] [] := by
  refine it_walk (f := f_X0_leastNonSquare_L4 hp l0) (P := fun s => aW K hp sz 0 (64 * 0) 4 [(0, .ref l0), (1, .long s)] []) (R := fun r => Sum.elim (fun r => aW K hp sz 0 (64 * 0) 42 [] []) (fun o => ((some (.long o), hp, sz) : oT) = O) r) ?_ h hr
  clear h hr
  rintro l1 x h kl kr
  show aW K hp sz 0 (64 * 0) 4 [(0, .ref l0), (1, .long l1)] []
  replace h : f_X0_leastNonSquare_L4 hp l0 l1 = some x := h
  unfold f_X0_leastNonSquare_L4 at h
  refine r_lload_n C 1 rfl dX0_leastNonSquare_4 rfl ?_
  refine r_aload_n C 0 rfl dX0_leastNonSquare_5 rfl ?_
  replace h := bd_i h
  obtain ⟨w1, e2, h⟩ := h
  refine k_gJ C e2 rfl inX0_ (by decide) flX0_15 dX0_leastNonSquare_6 ?_
  refine r_lge C (tgt := 42) dX0_leastNonSquare_9 dX0_leastNonSquare_10 (by decide) (fun hc => ?_) (fun hc => ?_)
  · replace h := br_p hc h
    refine r_lv (lv' := []) [] rfl ?_
    exact kr _ (sm_i h)
  · replace h := br_n hc h
    refine r_aload_n C 0 rfl dX0_leastNonSquare_13 rfl ?_
    refine r_lload_n C 1 rfl dX0_leastNonSquare_14 rfl ?_
    refine r_aload_n C 0 rfl dX0_leastNonSquare_15 rfl ?_
    replace h := bd_i h
    obtain ⟨w3, e4, h⟩ := h
    refine k_gJ C e4 rfl inX0_ (by decide) flX0_15 dX0_leastNonSquare_16 ?_
    refine r_lconst C (v := 1) dX0_leastNonSquare_19 (by decide) ?_
    refine r_lsub C dX0_leastNonSquare_20 ?_
    refine r_ldc2 C (v := 2) clX0_25 dX0_leastNonSquare_21 ?_
    refine r_ldiv C dX0_leastNonSquare_24 (by decide) ?_
    replace h := gd_t h
    obtain ⟨ho5, h⟩ := h
    obtain ⟨_, ho5⟩ := isO_s ho5
    replace h := bd_i h
    obtain ⟨r7, q6, h⟩ := h
    refine q_callV C 0 0 (64 * 0) (k_X0_power q6) rfl ho5 rfl okX0_power inX0_power lkX0_27 rfl (Nat.le_of_ble_eq_true rfl) ⟨by decide, by decide⟩ dX0_leastNonSquare_25 (by omega) (by omega) ?_
    refine r_lconst C (v := 1) dX0_leastNonSquare_28 (by decide) ?_
    refine r_leq C (tgt := 35) dX0_leastNonSquare_29 dX0_leastNonSquare_30 (by decide) (fun hc => ?_) (fun hc => ?_)
    · replace h := br_p hc h
      refine r_lload_n C 1 rfl dX0_leastNonSquare_35 rfl ?_
      refine r_lconst C (v := 1) dX0_leastNonSquare_36 (by decide) ?_
      refine r_ladd C dX0_leastNonSquare_37 ?_
      refine r_lstore_n C (lv' := [(1, .long (l1 + ((1 : Int64)))), (0, .ref l0)]) dX0_leastNonSquare_38 rfl (by decide) rfl ?_
      refine r_goto C (tgt := 4) dX0_leastNonSquare_39 (by decide) ?_
      refine r_lv (lv' := [(0, .ref l0), (1, .long (l1 + ((1 : Int64))))]) [1, 0] rfl ?_
      exact kl _ (sm_i h)
    · replace h := br_n hc h
      refine r_lload_n C 1 rfl dX0_leastNonSquare_33 rfl ?_
      exact r_lreturn C (Eq.symm (kr _ (sm_i h))) dX0_leastNonSquare_34
set_option maxHeartbeats 4000000 in
set_option maxRecDepth 100000 in
theorem k_X0_leastNonSquare {G : gT} {hp : cH} {sz : Nat} {l0 : Nat} {o0 : Int64} (h : f_X0_leastNonSquare hp l0 = some o0) : aM G yX0_leastNonSquare cX0_leastNonSquare 3 (some .long) 1 22 0 (64 * 0) [.ref l0] hp sz ((some (.long o0), hp, sz) : oT) := by
  refine aM.of RX0 (by decide) rfl (Nat.le_of_ble_eq_true rfl) (fun K C => ?_)
  have hO : ((some (.long o0), hp, sz) : oT) = ((some (.long o0), hp, sz) : oT) := rfl
  refine r_lve (lv' := [(0, .ref l0)]) rfl ?_
  unfold f_X0_leastNonSquare at h
  refine r_ldc2 C (v := 2) clX0_25 dX0_leastNonSquare_0 ?_
  refine r_lstore_n C (lv' := [(1, .long ((2 : Int64))), (0, .ref l0)]) dX0_leastNonSquare_3 rfl (by decide) rfl ?_
  refine r_lv (lv' := [(0, .ref l0), (1, .long ((2 : Int64)))]) [1, 0] rfl ?_
  replace h := bd_i h
  obtain ⟨r9, q8, h⟩ := h
  rcases r9 with _ | o10
  · refine w_X0_leastNonSquare_L4 C  q8 ?_
    show aW K hp sz 0 (64 * 0) 42 [] []
    refine r_lconst C (v := 1) dX0_leastNonSquare_42 (by decide) ?_
    cases h
    exact r_lreturn C (Eq.symm hO) dX0_leastNonSquare_43
  · cases h
    exact w_X0_leastNonSquare_L4 C  q8 hO
