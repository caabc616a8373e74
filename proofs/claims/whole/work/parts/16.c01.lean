noncomputable def f_X2_eliminate_L20 (hp : cH) (l1 : Nat) (l4 : Int32) (l5 : Int32) : Option (Int32 ⊕ Int32) := (aN hp l1).bind fun w3 => if w3 ≤ l5 then (some (.inr l5)) else ((lR 3 hp l1 l5).bind fun u5 => u5.bind fun a7 => (lJ hp a7 l4).bind fun w9 => if w9 = ((0 : Int64)) then (some (.inl (l5 + 1))) else (some (.inr l5)))
noncomputable def f_X2_eliminate_L5J102 (hp : cH) (l3 : Int32) (l4 : Int32) : Option ((Int32 × Int32 × cH) ⊕ (Int32 × cH)) := some (.inl (l3, l4 + 1, hp))
noncomputable def f_X2_eliminate_L5J45 (hp : cH) (l0 : Nat) (l1 : Nat) (l3 : Int32) (l4 : Int32) (l5 : Int32) : Option ((Int32 × Int32 × cH) ⊕ (Int32 × cH)) := (aN hp l1).bind fun w13 => if l5 = w13 then (f_X2_eliminate_L5J102 hp l3 l4) else ((lR 3 hp l1 l5).bind fun u15 => (lR 3 hp l1 l3).bind fun u17 => u17.bind fun a19 => (sR 3 hp l1 l5 a19).bind fun hp21 => u15.bind fun a23 => (sR 3 hp21 l1 l3 a23).bind fun hp25 => (gR hp25 l0 2 0).bind fun w27 => (lJ hp25 a23 l4).bind fun w29 => if isO hp25 w27 0 = true then (f_X0_reciprocal hp25 w27 w29).bind fun r33 => if isO hp25 l0 2 = true then (f_X2_scale hp25 l0 a23 r33).bind fun hp36 => if isO hp36 l0 2 = true then (f_X2_clearColumn hp36 l0 l1 l3 l4).bind fun hp39 => f_X2_eliminate_L5J102 hp39 (l3 + 1) l4 else none else none else none)
noncomputable def f_X2_eliminate_L5 (l0 : Nat) (l1 : Nat) (l2 : Int32) (l3 : Int32) (l4 : Int32) (hp : cH) : Option ((Int32 × Int32 × cH) ⊕ (Int32 × cH)) := if l2 ≤ l4 then (some (.inr (l3, hp))) else ((aN hp l1).bind fun w1 => if w1 ≤ l3 then (some (.inr (l3, hp))) else ((itX (f_X2_eliminate_L20 hp l1 l4) l3).bind fun y11 => f_X2_eliminate_L5J45 hp l0 l1 l3 l4 y11))
noncomputable def f_X2_eliminate (hp : cH) (l0 : Nat) (l1 : Nat) (l2 : Int32) : Option (Int32 × cH) := (itX (fun s => f_X2_eliminate_L5 l0 l1 l2 s.1 s.2.1 s.2.2) ((0 : Int32), (0 : Int32), hp)).bind fun (y40, hp41) => some (y40, hp41)
set_option maxHeartbeats 4000000 in
set_option maxRecDepth 100000 in
theorem w_X2_eliminate_L20 {K : kT} {O : oT} (C : aC K cX2_eliminate RX2 "eliminate" 2 39 0 (64 * 0) 7 (some .int) O) {hp : cH} {sz : Nat} {l0 : Nat} {l1 : Nat} {l2 : Int32} {l3 : Int32} {l4 : Int32} {l5 : Int32} {e5 : Int32} (h : itX (f_X2_eliminate_L20 hp l1 l4) l5 = some e5) (hr : aW K hp sz 0 (64 * 0) 45 [(0, .ref l0), (1, .ref l1), (2, .int l2), (3, .int l3), (4, .int l4), (5, .int e5)] []) : aW K hp sz 0 (64 * 0) 20 [(0, .ref l0), (1, .ref l1), (2, .int l2), (3, .int l3), (4, .int l4), (5, .int l5)] [] := by
  refine it_walk (f := f_X2_eliminate_L20 hp l1 l4) (P := fun s => aW K hp sz 0 (64 * 0) 20 [(0, .ref l0), (1, .ref l1), (2, .int l2), (3, .int l3), (4, .int l4), (5, .int s)] []) (R := fun r => aW K hp sz 0 (64 * 0) 45 [(0, .ref l0), (1, .ref l1), (2, .int l2), (3, .int l3), (4, .int l4), (5, .int r)] []) ?_ h hr
  clear h hr
  rintro l5 x h kl kr
  show aW K hp sz 0 (64 * 0) 20 [(0, .ref l0), (1, .ref l1), (2, .int l2), (3, .int l3), (4, .int l4), (5, .int l5)] []
  replace h : f_X2_eliminate_L20 hp l1 l4 l5 = some x := h
  unfold f_X2_eliminate_L20 at h
  refine r_iload C 5 rfl dX2_eliminate_20 ?_
  refine r_aload_n C 1 rfl dX2_eliminate_22 rfl ?_
  replace h := bd_i h
  obtain ⟨w3, e4, h⟩ := h
  refine k_alen C e4 dX2_eliminate_23 ?_
  refine r_icmp_ge C (tgt := 45) dX2_eliminate_24 (by decide) (fun hc => ?_) (fun hc => ?_)
  · replace h := br_p hc h
    refine r_lv (lv' := [(0, .ref l0), (1, .ref l1), (2, .int l2), (3, .int l3), (4, .int l4), (5, .int l5)]) [0, 1, 2, 3, 4, 5] rfl ?_
    exact kr _ (sm_i h)
  · replace h := br_n hc h
    refine r_aload_n C 1 rfl dX2_eliminate_27 rfl ?_
    refine r_iload C 5 rfl dX2_eliminate_28 ?_
    replace h := bd_i h
    obtain ⟨u5, e6, h⟩ := h
    refine k_lR C (by decide) e6 dX2_eliminate_30 ?_
    refine r_iload C 4 rfl dX2_eliminate_31 ?_
    replace h := bd_i h
    obtain ⟨a7, e8, h⟩ := h
    subst e8
    replace h := bd_i h
    obtain ⟨w9, e10, h⟩ := h
    refine k_lJ C e10 dX2_eliminate_33 ?_
    refine r_lconst C (v := 0) dX2_eliminate_34 (by decide) ?_
    refine r_lne C (tgt := 45) dX2_eliminate_35 dX2_eliminate_36 (by decide) (fun hc => ?_) (fun hc => ?_)
    · replace h := br_n hc h
      refine r_lv (lv' := [(0, .ref l0), (1, .ref l1), (2, .int l2), (3, .int l3), (4, .int l4), (5, .int l5)]) [0, 1, 2, 3, 4, 5] rfl ?_
      exact kr _ (sm_i h)
    · replace h := br_p hc h
      refine r_iinc C (v := l5 + 1) (lv' := [(5, .int (l5 + 1)), (0, .ref l0), (1, .ref l1), (2, .int l2), (3, .int l3), (4, .int l4)]) 5 rfl dX2_eliminate_39 rfl (by decide) rfl ?_
      refine r_goto C (tgt := 20) dX2_eliminate_42 (by decide) ?_
      refine r_lv (lv' := [(0, .ref l0), (1, .ref l1), (2, .int l2), (3, .int l3), (4, .int l4), (5, .int (l5 + 1))]) [1, 2, 3, 4, 5, 0] rfl ?_
      exact kl _ (sm_i h)
set_option maxHeartbeats 4000000 in
set_option maxRecDepth 100000 in
theorem w_X2_eliminate_L5J102 {K : kT} {O : oT} (C : aC K cX2_eliminate RX2 "eliminate" 2 39 0 (64 * 0) 7 (some .int) O) {hp : cH} {sz : Nat} {l0 : Nat} {l1 : Nat} {l2 : Int32} {l3 : Int32} {l4 : Int32}  {x : (Int32 × Int32 × cH) ⊕ (Int32 × cH)} (h : f_X2_eliminate_L5J102 hp l3 l4 = some x) (kl : ∀ s, x = .inl s → aW K s.2.2 sz 0 (64 * 0) 5 [(0, .ref l0), (1, .ref l1), (2, .int l2), (3, .int s.1), (4, .int s.2.1)] []) (kr : ∀ r, x = .inr r → aW K r.2 sz 0 (64 * 0) 108 [(3, .int r.1)] []) : aW K hp sz 0 (64 * 0) 102 [(0, .ref l0), (1, .ref l1), (2, .int l2), (3, .int l3), (4, .int l4)] [] := by
  unfold f_X2_eliminate_L5J102 at h
  refine r_iinc C (v := l4 + 1) (lv' := [(4, .int (l4 + 1)), (0, .ref l0), (1, .ref l1), (2, .int l2), (3, .int l3)]) 4 rfl dX2_eliminate_102 rfl (by decide) rfl ?_
  refine r_goto C (tgt := 5) dX2_eliminate_105 (by decide) ?_
  refine r_lv (lv' := [(0, .ref l0), (1, .ref l1), (2, .int l2), (3, .int l3), (4, .int (l4 + 1))]) [1, 2, 3, 4, 0] rfl ?_
  exact kl _ (sm_i h)
set_option maxHeartbeats 4000000 in
set_option maxRecDepth 100000 in
theorem w_X2_eliminate_L5J45 {K : kT} {O : oT} (C : aC K cX2_eliminate RX2 "eliminate" 2 39 0 (64 * 0) 7 (some .int) O) {hp : cH} {sz : Nat} {l0 : Nat} {l1 : Nat} {l2 : Int32} {l3 : Int32} {l4 : Int32} {l5 : Int32}  {x : (Int32 × Int32 × cH) ⊕ (Int32 × cH)} (h : f_X2_eliminate_L5J45 hp l0 l1 l3 l4 l5 = some x) (kl : ∀ s, x = .inl s → aW K s.2.2 sz 0 (64 * 0) 5 [(0, .ref l0), (1, .ref l1), (2, .int l2), (3, .int s.1), (4, .int s.2.1)] []) (kr : ∀ r, x = .inr r → aW K r.2 sz 0 (64 * 0) 108 [(3, .int r.1)] []) : aW K hp sz 0 (64 * 0) 45 [(0, .ref l0), (1, .ref l1), (2, .int l2), (3, .int l3), (4, .int l4), (5, .int l5)] [] := by
  unfold f_X2_eliminate_L5J45 at h
  refine r_iload C 5 rfl dX2_eliminate_45 ?_
  refine r_aload_n C 1 rfl dX2_eliminate_47 rfl ?_
  replace h := bd_i h
  obtain ⟨w13, e14, h⟩ := h
  refine k_alen C e14 dX2_eliminate_48 ?_
  refine r_icmp_ne C (tgt := 55) dX2_eliminate_49 (by decide) (fun hc => ?_) (fun hc => ?_)
  · replace h := br_n hc h
    refine r_aload_n C 1 rfl dX2_eliminate_55 rfl ?_
    refine r_iload C 5 rfl dX2_eliminate_56 ?_
    replace h := bd_i h
    obtain ⟨u15, e16, h⟩ := h
    refine k_lR C (by decide) e16 dX2_eliminate_58 ?_
    refine r_astoreq C (lv' := [(6, va_rf u15), (0, .ref l0), (1, .ref l1), (2, .int l2), (3, .int l3), (4, .int l4), (5, .int l5)]) dX2_eliminate_59 (by decide) rfl ?_
    refine r_aload_n C 2 rfl dX2_eliminate_61 rfl ?_
    refine r_iload C 6 rfl dX2_eliminate_62 ?_
    refine r_aload_n C 2 rfl dX2_eliminate_64 rfl ?_
    refine r_iload_n C 4 rfl dX2_eliminate_65 rfl ?_
    replace h := bd_i h
    obtain ⟨u17, e18, h⟩ := h
    refine k_lR C (by decide) e18 dX2_eliminate_66 ?_
    replace h := bd_i h
    obtain ⟨a19, e20, h⟩ := h
    subst e20
    replace h := bd_i h
    obtain ⟨hp21, e22, h⟩ := h
    refine k_sR C (by decide) e22 dX2_eliminate_67 ?_
    refine r_aload_n C 2 rfl dX2_eliminate_68 rfl ?_
    refine r_iload_n C 4 rfl dX2_eliminate_69 rfl ?_
    refine r_aloadq C 0 rfl dX2_eliminate_70 ?_
    replace h := bd_i h
    obtain ⟨a23, e24, h⟩ := h
    subst e24
    replace h := bd_i h
    obtain ⟨hp25, e26, h⟩ := h
    refine k_sR C (by decide) e26 dX2_eliminate_72 ?_
    refine r_aload_n C 1 rfl dX2_eliminate_73 rfl ?_
    refine r_aload C 0 rfl dX2_eliminate_74 ?_
    refine r_aload_n C 1 rfl dX2_eliminate_76 rfl ?_
    replace h := bd_i h
    obtain ⟨w27, e28, h⟩ := h
    refine k_gR C e28 rfl inX2_ (by decide) flX2_7 dX2_eliminate_77 ?_
    refine r_aload C 0 rfl dX2_eliminate_80 ?_
    refine r_iload C 5 rfl dX2_eliminate_82 ?_
    replace h := bd_i h
    obtain ⟨w29, e30, h⟩ := h
    refine k_lJ C e30 dX2_eliminate_84 ?_
    replace h := gd_t h
    obtain ⟨ho31, h⟩ := h
    obtain ⟨_, ho31⟩ := isO_s ho31
    replace h := bd_i h
    obtain ⟨r33, q32, h⟩ := h
    refine q_callV C 2 0 (64 * 0) (k_X0_reciprocal q32) rfl ho31 rfl okX0_reciprocal inX0_reciprocal lkX2_27 rfl (Nat.le_of_ble_eq_true rfl) ⟨by decide, by decide⟩ dX2_eliminate_85 (by omega) (by omega) ?_
    replace h := gd_t h
    obtain ⟨ho34, h⟩ := h
    obtain ⟨_, ho34⟩ := isO_s ho34
    replace h := bd_i h
    obtain ⟨hp36, q35, h⟩ := h
    refine q_callVv C 0 0 (64 * 0) (k_X2_scale q35) rfl ho34 rfl okX2_scale inX2_scale lkX2_33 rfl (Nat.le_of_ble_eq_true rfl) ⟨by decide, by decide⟩ dX2_eliminate_88 (by omega) (by omega) ?_
    refine r_aload_n C 1 rfl dX2_eliminate_91 rfl ?_
    refine r_aload_n C 2 rfl dX2_eliminate_92 rfl ?_
    refine r_iload_n C 4 rfl dX2_eliminate_93 rfl ?_
    refine r_iload C 5 rfl dX2_eliminate_94 ?_
    replace h := gd_t h
    obtain ⟨ho37, h⟩ := h
    obtain ⟨_, ho37⟩ := isO_s ho37
    replace h := bd_i h
    obtain ⟨hp39, q38, h⟩ := h
    refine q_callVv C 0 0 (64 * 0) (k_X2_clearColumn q38) rfl ho37 rfl okX2_clearColumn inX2_clearColumn lkX2_75 rfl (Nat.le_of_ble_eq_true rfl) ⟨by decide, by decide⟩ dX2_eliminate_96 (by omega) (by omega) ?_
    refine r_iinc C (v := l3 + 1) (lv' := [(3, .int (l3 + 1)), (6, .ref a23), (0, .ref l0), (1, .ref l1), (2, .int l2), (4, .int l4), (5, .int l5)]) 4 rfl dX2_eliminate_99 rfl (by decide) rfl ?_
    refine r_lv (lv' := [(0, .ref l0), (1, .ref l1), (2, .int l2), (3, .int (l3 + 1)), (4, .int l4)]) [2, 3, 4, 0, 5] rfl ?_
    exact w_X2_eliminate_L5J102 C  h kl kr
  · replace h := br_p hc h
    refine r_goto C (tgt := 102) dX2_eliminate_52 (by decide) ?_
    refine r_lv (lv' := [(0, .ref l0), (1, .ref l1), (2, .int l2), (3, .int l3), (4, .int l4)]) [0, 1, 2, 3, 4] rfl ?_
    exact w_X2_eliminate_L5J102 C  h kl kr
set_option maxHeartbeats 4000000 in
set_option maxRecDepth 100000 in
theorem w_X2_eliminate_L5 {K : kT} {O : oT} (C : aC K cX2_eliminate RX2 "eliminate" 2 39 0 (64 * 0) 7 (some .int) O) {hp : cH} {sz : Nat} {l0 : Nat} {l1 : Nat} {l2 : Int32} {l3 : Int32} {l4 : Int32} {e3 : Int32} {eh : cH} (h : itX (fun s => f_X2_eliminate_L5 l0 l1 l2 s.1 s.2.1 s.2.2) (l3, l4, hp) = some (e3, eh)) (hr : aW K eh sz 0 (64 * 0) 108 [(3, .int e3)] []) : aW K hp sz 0 (64 * 0) 5 [(0, .ref l0), (1, .ref l1), (2, .int l2), (3, .int l3), (4, .int l4)] [] := by
  refine it_walk (f := fun s => f_X2_eliminate_L5 l0 l1 l2 s.1 s.2.1 s.2.2) (P := fun s => aW K s.2.2 sz 0 (64 * 0) 5 [(0, .ref l0), (1, .ref l1), (2, .int l2), (3, .int s.1), (4, .int s.2.1)] []) (R := fun r => aW K r.2 sz 0 (64 * 0) 108 [(3, .int r.1)] []) ?_ h hr
  clear h hr
  rintro ⟨l3, l4, hp⟩ x h kl kr
  show aW K hp sz 0 (64 * 0) 5 [(0, .ref l0), (1, .ref l1), (2, .int l2), (3, .int l3), (4, .int l4)] []
  replace h : f_X2_eliminate_L5 l0 l1 l2 l3 l4 hp = some x := h
  unfold f_X2_eliminate_L5 at h
  refine r_iload C 4 rfl dX2_eliminate_5 ?_
  refine r_iload_n C 2 rfl dX2_eliminate_7 rfl ?_
  refine r_icmp_ge C (tgt := 108) dX2_eliminate_8 (by decide) (fun hc => ?_) (fun hc => ?_)
  · replace h := br_p hc h
    refine r_lv (lv' := [(3, .int l3)]) [3] rfl ?_
    exact kr _ (sm_i h)
  · replace h := br_n hc h
    refine r_iload_n C 3 rfl dX2_eliminate_11 rfl ?_
    refine r_aload_n C 1 rfl dX2_eliminate_12 rfl ?_
    replace h := bd_i h
    obtain ⟨w1, e2, h⟩ := h
    refine k_alen C e2 dX2_eliminate_13 ?_
    refine r_icmp_ge C (tgt := 108) dX2_eliminate_14 (by decide) (fun hc => ?_) (fun hc => ?_)
    · replace h := br_p hc h
      refine r_lv (lv' := [(3, .int l3)]) [3] rfl ?_
      exact kr _ (sm_i h)
    · replace h := br_n hc h
      refine r_iload_n C 3 rfl dX2_eliminate_17 rfl ?_
      refine r_istore C (lv' := [(5, .int l3), (0, .ref l0), (1, .ref l1), (2, .int l2), (3, .int l3), (4, .int l4)]) dX2_eliminate_18 (by decide) rfl ?_
      refine r_lv (lv' := [(0, .ref l0), (1, .ref l1), (2, .int l2), (3, .int l3), (4, .int l4), (5, .int l3)]) [1, 2, 3, 4, 5, 0] rfl ?_
      replace h := bd_i h
      obtain ⟨y11, q12, h⟩ := h
      refine w_X2_eliminate_L20 C  q12 ?_
      refine r_lv (lv' := [(0, .ref l0), (1, .ref l1), (2, .int l2), (3, .int l3), (4, .int l4), (5, .int y11)]) [0, 1, 2, 3, 4, 5] rfl ?_
      exact w_X2_eliminate_L5J45 C  h kl kr
set_option maxHeartbeats 4000000 in
set_option maxRecDepth 100000 in
theorem k_X2_eliminate {G : gT} {hp : cH} {sz : Nat} {l0 : Nat} {l1 : Nat} {l2 : Int32} {o0 : Int32} {oh : cH} (h : f_X2_eliminate hp l0 l1 l2 = some (o0, oh)) : aM G yX2_eliminate cX2_eliminate 7 (some .int) 2 39 0 (64 * 0) [.ref l0, .ref l1, .int l2] hp sz ((some (.int o0), oh, sz) : oT) := by
  refine aM.of RX2 (by decide) rfl (Nat.le_of_ble_eq_true rfl) (fun K C => ?_)
  have hO : ((some (.int o0), oh, sz) : oT) = ((some (.int o0), oh, sz) : oT) := rfl
  refine r_lve (lv' := [(0, .ref l0), (1, .ref l1), (2, .int l2)]) rfl ?_
  unfold f_X2_eliminate at h
  refine r_iconst C (v := 0) dX2_eliminate_0 (by decide) ?_
  refine r_istore_n C (lv' := [(3, .int ((0 : Int32))), (0, .ref l0), (1, .ref l1), (2, .int l2)]) dX2_eliminate_1 rfl (by decide) rfl ?_
  refine r_iconst C (v := 0) dX2_eliminate_2 (by decide) ?_
  refine r_istore C (lv' := [(4, .int ((0 : Int32))), (3, .int ((0 : Int32))), (0, .ref l0), (1, .ref l1), (2, .int l2)]) dX2_eliminate_3 (by decide) rfl ?_
  refine r_lv (lv' := [(0, .ref l0), (1, .ref l1), (2, .int l2), (3, .int ((0 : Int32))), (4, .int ((0 : Int32)))]) [2, 3, 4, 1, 0] rfl ?_
  replace h := bd_i h
  obtain ⟨⟨y40, hp41⟩, q42, h⟩ := h
  refine w_X2_eliminate_L5 C  q42 ?_
  refine r_iload_n C 0 rfl dX2_eliminate_108 rfl ?_
  cases h
  exact r_ireturn C (Eq.symm hO) dX2_eliminate_109
noncomputable def f_X2_rankOfSquare (hp : cH) (sz : Nat) (l0 : Nat) (l1 : Nat) : Option (Int32 × cH × Nat) := (gI hp l0 2 1).bind fun w1 => if isO hp l0 2 = true then (f_X2_linesOf hp sz l0 l1 w1).bind fun (r5, hp6, z7) => (gI hp6 l0 2 1).bind fun w8 => if isO hp6 l0 2 = true then (f_X2_eliminate hp6 l0 r5 w8).bind fun (r12, hp13) => some (r12, hp13, z7) else none else none
set_option maxHeartbeats 4000000 in
set_option maxRecDepth 100000 in
theorem k_X2_rankOfSquare {G : gT} {hp : cH} {sz : Nat} {l0 : Nat} {l1 : Nat} {o0 : Int32} {oh : cH} {oz : Nat} (h : f_X2_rankOfSquare hp sz l0 l1 = some (o0, oh, oz)) : aM G yX2_rankOfSquare cX2_rankOfSquare 2 (some .int) 3 57 10 (64 * 10) [.ref l0, .ref l1] hp sz ((some (.int o0), oh, oz) : oT) := by
  refine aM.of RX2 (by decide) rfl (Nat.le_of_ble_eq_true rfl) (fun K C => ?_)
  have hO : ((some (.int o0), oh, oz) : oT) = ((some (.int o0), oh, oz) : oT) := rfl
  refine r_lve (lv' := [(0, .ref l0), (1, .ref l1)]) rfl ?_
  unfold f_X2_rankOfSquare at h
  refine r_aload_n C 0 rfl dX2_rankOfSquare_0 rfl ?_
  refine r_aload_n C 0 rfl dX2_rankOfSquare_1 rfl ?_
  refine r_aload_n C 1 rfl dX2_rankOfSquare_2 rfl ?_
  refine r_aload_n C 0 rfl dX2_rankOfSquare_3 rfl ?_
  replace h := bd_i h
  obtain ⟨w1, e2, h⟩ := h
  refine k_gI C e2 rfl inX2_ (by decide) flX2_13 dX2_rankOfSquare_4 ?_
  replace h := gd_t h
  obtain ⟨ho3, h⟩ := h
  obtain ⟨_, ho3⟩ := isO_s ho3
  replace h := bd_i h
  obtain ⟨⟨r5, hp6, z7⟩, q4, h⟩ := h
  refine q_callV C 1 0 (64 * 0) (k_X2_linesOf q4) rfl ho3 rfl okX2_linesOf inX2_linesOf lkX2_59 rfl (Nat.le_of_ble_eq_true rfl) ⟨by decide, by decide⟩ dX2_rankOfSquare_7 (by omega) (by omega) ?_
  refine r_aload_n C 0 rfl dX2_rankOfSquare_10 rfl ?_
  replace h := bd_i h
  obtain ⟨w8, e9, h⟩ := h
  refine k_gI C e9 rfl inX2_ (by decide) flX2_13 dX2_rankOfSquare_11 ?_
  replace h := gd_t h
  obtain ⟨ho10, h⟩ := h
  obtain ⟨_, ho10⟩ := isO_s ho10
  replace h := bd_i h
  obtain ⟨⟨r12, hp13⟩, q11, h⟩ := h
  refine q_callV C 0 0 (64 * 0) (k_X2_eliminate q11) rfl ho10 rfl okX2_eliminate inX2_eliminate lkX2_63 rfl (Nat.le_of_ble_eq_true rfl) ⟨by decide, by decide⟩ dX2_rankOfSquare_14 (by omega) (by omega) ?_
  cases h
  exact r_ireturn C (Eq.symm hO) dX2_rankOfSquare_17
noncomputable def f_X2_turned_L25 (l0 : Nat) (l1 : Nat) (l2 : Nat) (l3 : Int32) (l4 : Int32) (hp : cH) : Option ((Int32 × cH) ⊕ cH) := (gI hp l0 2 1).bind fun w9 => if w9 ≤ l4 then (some (.inr hp)) else ((gI hp l0 2 1).bind fun w11 => (gI hp l0 2 1).bind fun w13 => (lJ hp l1 ((l3 * w13) + l4)).bind fun w15 => (sJ hp l2 ((l4 * w11) + l3) w15).bind fun hp17 => some (.inl (l4 + 1, hp17)))
noncomputable def f_X2_turned_L14 (l0 : Nat) (l1 : Nat) (l2 : Nat) (l3 : Int32) (hp : cH) : Option ((Int32 × cH) ⊕ cH) := (gI hp l0 2 1).bind fun w7 => if w7 ≤ l3 then (some (.inr hp)) else ((itX (fun s => f_X2_turned_L25 l0 l1 l2 l3 s.1 s.2) ((0 : Int32), hp)).bind fun hp19 => some (.inl (l3 + 1, hp19)))
noncomputable def f_X2_turned (hp : cH) (sz : Nat) (l0 : Nat) (l1 : Nat) : Option (Nat × cH × Nat) := (gI hp l0 2 1).bind fun w1 => (gI hp l0 2 1).bind fun w3 => (nJ hp sz (w1 * w3)).bind fun hp5 => (itX (fun s => f_X2_turned_L14 l0 l1 sz s.1 s.2) ((0 : Int32), hp5)).bind fun hp21 => some (sz, hp21, (sz + 1))
set_option maxHeartbeats 4000000 in
set_option maxRecDepth 100000 in
theorem w_X2_turned_L25 {K : kT} {O : oT} (C : aC K cX2_turned RX2 "turned" 0 0 1 (64 * 1) 5 (some (.array .long)) O) {hp : cH} {sz rc : Nat} {l0 : Nat} {l1 : Nat} {l2 : Nat} {l3 : Int32} {l4 : Int32} {eh : cH} (h : itX (fun s => f_X2_turned_L25 l0 l1 l2 l3 s.1 s.2) (l4, hp) = some eh) (hr : aW K eh sz rc (64 * rc) 62 [(0, .ref l0), (1, .ref l1), (2, .ref l2), (3, .int l3)] []) : aW K hp sz rc (64 * rc) 25 [(0, .ref l0), (1, .ref l1), (2, .ref l2), (3, .int l3), (4, .int l4)] [] := by
  refine it_walk (f := fun s => f_X2_turned_L25 l0 l1 l2 l3 s.1 s.2) (P := fun s => aW K s.2 sz rc (64 * rc) 25 [(0, .ref l0), (1, .ref l1), (2, .ref l2), (3, .int l3), (4, .int s.1)] []) (R := fun r => aW K r sz rc (64 * rc) 62 [(0, .ref l0), (1, .ref l1), (2, .ref l2), (3, .int l3)] []) ?_ h hr
  clear h hr
  rintro ⟨l4, hp⟩ x h kl kr
  show aW K hp sz rc (64 * rc) 25 [(0, .ref l0), (1, .ref l1), (2, .ref l2), (3, .int l3), (4, .int l4)] []
  replace h : f_X2_turned_L25 l0 l1 l2 l3 l4 hp = some x := h
  unfold f_X2_turned_L25 at h
  refine r_iload C 4 rfl dX2_turned_25 ?_
  refine r_aload_n C 0 rfl dX2_turned_27 rfl ?_
  replace h := bd_i h
  obtain ⟨w9, e10, h⟩ := h
  refine k_gI C e10 rfl inX2_ (by decide) flX2_13 dX2_turned_28 ?_
  refine r_icmp_ge C (tgt := 62) dX2_turned_31 (by decide) (fun hc => ?_) (fun hc => ?_)
  · replace h := br_p hc h
    refine r_lv (lv' := [(0, .ref l0), (1, .ref l1), (2, .ref l2), (3, .int l3)]) [0, 1, 2, 3] rfl ?_
    exact kr _ (sm_i h)
  · replace h := br_n hc h
    refine r_aload_n C 2 rfl dX2_turned_34 rfl ?_
    refine r_iload C 4 rfl dX2_turned_35 ?_
    refine r_aload_n C 0 rfl dX2_turned_37 rfl ?_
    replace h := bd_i h
    obtain ⟨w11, e12, h⟩ := h
    refine k_gI C e12 rfl inX2_ (by decide) flX2_13 dX2_turned_38 ?_
    refine r_imul C dX2_turned_41 ?_
    refine r_iload_n C 3 rfl dX2_turned_42 rfl ?_
    refine r_iadd C dX2_turned_43 ?_
    refine r_aload_n C 1 rfl dX2_turned_44 rfl ?_
    refine r_iload_n C 3 rfl dX2_turned_45 rfl ?_
    refine r_aload_n C 0 rfl dX2_turned_46 rfl ?_
    replace h := bd_i h
    obtain ⟨w13, e14, h⟩ := h
    refine k_gI C e14 rfl inX2_ (by decide) flX2_13 dX2_turned_47 ?_
    refine r_imul C dX2_turned_50 ?_
    refine r_iload C 4 rfl dX2_turned_51 ?_
    refine r_iadd C dX2_turned_53 ?_
    replace h := bd_i h
    obtain ⟨w15, e16, h⟩ := h
    refine k_lJ C e16 dX2_turned_54 ?_
    replace h := bd_i h
    obtain ⟨hp17, e18, h⟩ := h
    refine k_sJ C e18 dX2_turned_55 ?_
    refine r_iinc C (v := l4 + 1) (lv' := [(4, .int (l4 + 1)), (0, .ref l0), (1, .ref l1), (2, .ref l2), (3, .int l3)]) 4 rfl dX2_turned_56 rfl (by decide) rfl ?_
    refine r_goto C (tgt := 25) dX2_turned_59 (by decide) ?_
    refine r_lv (lv' := [(0, .ref l0), (1, .ref l1), (2, .ref l2), (3, .int l3), (4, .int (l4 + 1))]) [1, 2, 3, 4, 0] rfl ?_
    exact kl _ (sm_i h)
set_option maxHeartbeats 4000000 in
set_option maxRecDepth 100000 in
theorem w_X2_turned_L14 {K : kT} {O : oT} (C : aC K cX2_turned RX2 "turned" 0 0 1 (64 * 1) 5 (some (.array .long)) O) {hp : cH} {sz rc : Nat} {l0 : Nat} {l1 : Nat} {l2 : Nat} {l3 : Int32} {eh : cH} (h : itX (fun s => f_X2_turned_L14 l0 l1 l2 s.1 s.2) (l3, hp) = some eh) (hr : aW K eh sz rc (64 * rc) 68 [(2, .ref l2)] []) : aW K hp sz rc (64 * rc) 14 [(0, .ref l0), (1, .ref l1), (2, .ref l2), (3, .int l3)] [] := by
  refine it_walk (f := fun s => f_X2_turned_L14 l0 l1 l2 s.1 s.2) (P := fun s => aW K s.2 sz rc (64 * rc) 14 [(0, .ref l0), (1, .ref l1), (2, .ref l2), (3, .int s.1)] []) (R := fun r => aW K r sz rc (64 * rc) 68 [(2, .ref l2)] []) ?_ h hr
  clear h hr
  rintro ⟨l3, hp⟩ x h kl kr
  show aW K hp sz rc (64 * rc) 14 [(0, .ref l0), (1, .ref l1), (2, .ref l2), (3, .int l3)] []
  replace h : f_X2_turned_L14 l0 l1 l2 l3 hp = some x := h
  unfold f_X2_turned_L14 at h
  refine r_iload_n C 3 rfl dX2_turned_14 rfl ?_
  refine r_aload_n C 0 rfl dX2_turned_15 rfl ?_
  replace h := bd_i h
  obtain ⟨w7, e8, h⟩ := h
  refine k_gI C e8 rfl inX2_ (by decide) flX2_13 dX2_turned_16 ?_
  refine r_icmp_ge C (tgt := 68) dX2_turned_19 (by decide) (fun hc => ?_) (fun hc => ?_)
  · replace h := br_p hc h
    refine r_lv (lv' := [(2, .ref l2)]) [2] rfl ?_
    exact kr _ (sm_i h)
  · replace h := br_n hc h
    refine r_iconst C (v := 0) dX2_turned_22 (by decide) ?_
    refine r_istore C (lv' := [(4, .int ((0 : Int32))), (0, .ref l0), (1, .ref l1), (2, .ref l2), (3, .int l3)]) dX2_turned_23 (by decide) rfl ?_
    refine r_lv (lv' := [(0, .ref l0), (1, .ref l1), (2, .ref l2), (3, .int l3), (4, .int ((0 : Int32)))]) [1, 2, 3, 4, 0] rfl ?_
    replace h := bd_i h
    obtain ⟨hp19, q20, h⟩ := h
    refine w_X2_turned_L25 C  q20 ?_
    refine r_iinc C (v := l3 + 1) (lv' := [(3, .int (l3 + 1)), (0, .ref l0), (1, .ref l1), (2, .ref l2)]) 3 rfl dX2_turned_62 rfl (by decide) rfl ?_
    refine r_goto C (tgt := 14) dX2_turned_65 (by decide) ?_
    refine r_lv (lv' := [(0, .ref l0), (1, .ref l1), (2, .ref l2), (3, .int (l3 + 1))]) [1, 2, 3, 0] rfl ?_
    exact kl _ (sm_i h)
set_option maxHeartbeats 4000000 in
set_option maxRecDepth 100000 in
theorem k_X2_turned {G : gT} {hp : cH} {sz : Nat} {l0 : Nat} {l1 : Nat} {o0 : Nat} {oh : cH} {oz : Nat} (h : f_X2_turned hp sz l0 l1 = some (o0, oh, oz)) : aM G yX2_turned cX2_turned 5 (some (.array .long)) 0 0 1 (64 * 1) [.ref l0, .ref l1] hp sz ((some (.ref o0), oh, oz) : oT) := by
  refine aM.of RX2 (by decide) rfl (Nat.le_of_ble_eq_true rfl) (fun K C => ?_)
  have hO : ((some (.ref o0), oh, oz) : oT) = ((some (.ref o0), oh, oz) : oT) := rfl
  refine r_lve (lv' := [(0, .ref l0), (1, .ref l1)]) rfl ?_
  unfold f_X2_turned at h
  refine r_aload_n C 0 rfl dX2_turned_0 rfl ?_
  replace h := bd_i h
  obtain ⟨w1, e2, h⟩ := h
  refine k_gI C e2 rfl inX2_ (by decide) flX2_13 dX2_turned_1 ?_
  refine r_aload_n C 0 rfl dX2_turned_4 rfl ?_
  replace h := bd_i h
  obtain ⟨w3, e4, h⟩ := h
  refine k_gI C e4 rfl inX2_ (by decide) flX2_13 dX2_turned_5 ?_
  refine r_imul C dX2_turned_8 ?_
  replace h := bd_i h
  obtain ⟨hp5, e6, h⟩ := h
  refine k_nJ C 0 e6 dX2_turned_9 (by omega) ?_
  refine r_astore_n C (lv' := [(2, .ref sz), (0, .ref l0), (1, .ref l1)]) dX2_turned_11 rfl (by decide) rfl ?_
  refine r_iconst C (v := 0) dX2_turned_12 (by decide) ?_
  refine r_istore_n C (lv' := [(3, .int ((0 : Int32))), (2, .ref sz), (0, .ref l0), (1, .ref l1)]) dX2_turned_13 rfl (by decide) rfl ?_
  refine r_lv (lv' := [(0, .ref l0), (1, .ref l1), (2, .ref sz), (3, .int ((0 : Int32)))]) [2, 3, 1, 0] rfl ?_
  replace h := bd_i h
  obtain ⟨hp21, q22, h⟩ := h
  refine w_X2_turned_L14 C  q22 ?_
  refine r_aload_n C 0 rfl dX2_turned_68 rfl ?_
  cases h
  exact r_areturnA C (Or.inr ⟨_, rfl⟩) (Eq.symm hO) dX2_turned_69
noncomputable def f_X2_isSame_L11 (hp : cH) (l0 : Nat) (l1 : Nat) (l2 : Int32) : Option (Int32 ⊕ (Unit ⊕ Int32)) := (aN hp l0).bind fun w5 => if w5 ≤ l2 then (some (.inr (.inl ()))) else ((lJ hp l0 l2).bind fun w7 => (lJ hp l1 l2).bind fun w9 => if w7 = w9 then (some (.inl (l2 + 1))) else (some (.inr (.inr ((0 : Int32))))))
noncomputable def f_X2_isSame (hp : cH) (l0 : Nat) (l1 : Nat) : Option Int32 := (aN hp l0).bind fun w1 => (aN hp l1).bind fun w3 => if w1 = w3 then ((itX (f_X2_isSame_L11 hp l0 l1) ((0 : Int32))).bind fun r12 => match r12 with | .inl _ => (some ((1 : Int32))) | .inr o13 => some o13) else (some ((0 : Int32)))
set_option maxHeartbeats 4000000 in
set_option maxRecDepth 100000 in
theorem w_X2_isSame_L11 {K : kT} {O : oT} (C : aC K cX2_isSame RX2 "isSame" 0 0 0 (64 * 0) 3 (some .boolean) O) {hp : cH} {sz : Nat} {l0 : Nat} {l1 : Nat} {l2 : Int32} {r : (Unit ⊕ Int32)} (h : itX (f_X2_isSame_L11 hp l0 l1) l2 = some r) (hr : Sum.elim (fun r => aW K hp sz 0 (64 * 0) 35 [] []) (fun o => ((some (.int o), hp, sz) : oT) = O) r) : aW K hp sz 0 (64 * 0) 11 [(0, .ref l0), (1, .ref l1), (2, .int l2)] [] := by
  refine it_walk (f := f_X2_isSame_L11 hp l0 l1) (P := fun s => aW K hp sz 0 (64 * 0) 11 [(0, .ref l0), (1, .ref l1), (2, .int s)] []) (R := fun r => Sum.elim (fun r => aW K hp sz 0 (64 * 0) 35 [] []) (fun o => ((some (.int o), hp, sz) : oT) = O) r) ?_ h hr
  clear h hr
  rintro l2 x h kl kr
  show aW K hp sz 0 (64 * 0) 11 [(0, .ref l0), (1, .ref l1), (2, .int l2)] []
  replace h : f_X2_isSame_L11 hp l0 l1 l2 = some x := h
  unfold f_X2_isSame_L11 at h
  refine r_iload_n C 2 rfl dX2_isSame_11 rfl ?_
  refine r_aload_n C 0 rfl dX2_isSame_12 rfl ?_
  replace h := bd_i h
  obtain ⟨w5, e6, h⟩ := h
  refine k_alen C e6 dX2_isSame_13 ?_
  refine r_icmp_ge C (tgt := 35) dX2_isSame_14 (by decide) (fun hc => ?_) (fun hc => ?_)
  · replace h := br_p hc h
    refine r_lv (lv' := []) [] rfl ?_
    exact kr _ (sm_i h)
  · replace h := br_n hc h
    refine r_aload_n C 0 rfl dX2_isSame_17 rfl ?_
    refine r_iload_n C 2 rfl dX2_isSame_18 rfl ?_
    replace h := bd_i h
    obtain ⟨w7, e8, h⟩ := h
    refine k_lJ C e8 dX2_isSame_19 ?_
    refine r_aload_n C 1 rfl dX2_isSame_20 rfl ?_
    refine r_iload_n C 2 rfl dX2_isSame_21 rfl ?_
    replace h := bd_i h
    obtain ⟨w9, e10, h⟩ := h
    refine k_lJ C e10 dX2_isSame_22 ?_
    refine r_leq C (tgt := 29) dX2_isSame_23 dX2_isSame_24 (by decide) (fun hc => ?_) (fun hc => ?_)
    · replace h := br_p hc h
      refine r_iinc C (v := l2 + 1) (lv' := [(2, .int (l2 + 1)), (0, .ref l0), (1, .ref l1)]) 2 rfl dX2_isSame_29 rfl (by decide) rfl ?_
      refine r_goto C (tgt := 11) dX2_isSame_32 (by decide) ?_
      refine r_lv (lv' := [(0, .ref l0), (1, .ref l1), (2, .int (l2 + 1))]) [1, 2, 0] rfl ?_
      exact kl _ (sm_i h)
    · replace h := br_n hc h
      refine r_iconst C (v := 0) dX2_isSame_27 (by decide) ?_
      exact r_zreturn C rfl (Eq.symm (kr _ (sm_i h))) dX2_isSame_28
set_option maxHeartbeats 4000000 in
set_option maxRecDepth 100000 in
theorem k_X2_isSame {G : gT} {hp : cH} {sz : Nat} {l0 : Nat} {l1 : Nat} {o0 : Int32} (h : f_X2_isSame hp l0 l1 = some o0) : aM G yX2_isSame cX2_isSame 3 (some .boolean) 0 0 0 (64 * 0) [.ref l0, .ref l1] hp sz ((some (.int o0), hp, sz) : oT) := by
  refine aM.of RX2 (by decide) rfl (Nat.le_of_ble_eq_true rfl) (fun K C => ?_)
  have hO : ((some (.int o0), hp, sz) : oT) = ((some (.int o0), hp, sz) : oT) := rfl
  refine r_lve (lv' := [(0, .ref l0), (1, .ref l1)]) rfl ?_
  unfold f_X2_isSame at h
  refine r_aload_n C 0 rfl dX2_isSame_0 rfl ?_
  replace h := bd_i h
  obtain ⟨w1, e2, h⟩ := h
  refine k_alen C e2 dX2_isSame_1 ?_
  refine r_aload_n C 1 rfl dX2_isSame_2 rfl ?_
  replace h := bd_i h
  obtain ⟨w3, e4, h⟩ := h
  refine k_alen C e4 dX2_isSame_3 ?_
  refine r_icmp_eq C (tgt := 9) dX2_isSame_4 (by decide) (fun hc => ?_) (fun hc => ?_)
  · replace h := br_p hc h
    refine r_iconst C (v := 0) dX2_isSame_9 (by decide) ?_
    refine r_istore_n C (lv' := [(2, .int ((0 : Int32))), (0, .ref l0), (1, .ref l1)]) dX2_isSame_10 rfl (by decide) rfl ?_
    refine r_lv (lv' := [(0, .ref l0), (1, .ref l1), (2, .int ((0 : Int32)))]) [1, 2, 0] rfl ?_
    replace h := bd_i h
    obtain ⟨r12, q11, h⟩ := h
    rcases r12 with _ | o13
    · refine w_X2_isSame_L11 C  q11 ?_
      show aW K hp sz 0 (64 * 0) 35 [] []
      refine r_iconst C (v := 1) dX2_isSame_35 (by decide) ?_
      cases h
      exact r_zreturn C rfl (Eq.symm hO) dX2_isSame_36
    · cases h
      exact w_X2_isSame_L11 C  q11 hO
  · replace h := br_n hc h
    refine r_iconst C (v := 0) dX2_isSame_7 (by decide) ?_
    cases h
    exact r_zreturn C rfl (Eq.symm hO) dX2_isSame_8
noncomputable def f_X5_isRowOf (hp : cH) (sz : Nat) (l0 : Nat) (l1 : Int32) (l2 : Nat) : Option (Int32 × cH × Nat) := if l1 = 1 then ((gI hp l0 5 5).bind fun w1 => if w1 = ((2 : Int32)) then (some ((1 : Int32), hp, sz)) else ((gR hp l0 5 9).bind fun w3 => if isO hp w3 4 = true then (f_X4_linesMeet hp sz w3 l2 l2).bind fun (r7, hp8, z9) => if r7 = 0 then (some ((0 : Int32), hp8, z9)) else (some ((1 : Int32), hp8, z9)) else none)) else (if l1 = 2 then (some ((1 : Int32), hp, sz)) else (if l1 = 3 then ((gR hp l0 5 8).bind fun w10 => if isO hp w10 2 = true then (f_X2_rankOfSquare hp sz w10 l2).bind fun (r14, hp15, z16) => (gI hp15 l0 5 5).bind fun w17 => if r14 = (w17 + ((1 : Int32))) then (some ((1 : Int32), hp15, z16)) else (some ((0 : Int32), hp15, z16)) else none) else (if l1 = 4 then ((gR hp l0 5 8).bind fun w19 => if isO hp w19 2 = true then (f_X2_turned hp sz w19 l2).bind fun (r23, hp24, z25) => (f_X2_isSame hp24 l2 r23).bind fun r27 => if r27 = 0 ∨ r27 = 1 then some (r27, hp24, z25) else none else none) else (some ((1 : Int32), hp, sz)))))
set_option maxHeartbeats 4000000 in
set_option maxRecDepth 100000 in
theorem k_X5_isRowOf {G : gT} {hp : cH} {sz : Nat} {l0 : Nat} {l1 : Int32} {l2 : Nat} {o0 : Int32} {oh : cH} {oz : Nat} (h : f_X5_isRowOf hp sz l0 l1 l2 = some (o0, oh, oz)) : aM G yX5_isRowOf cX5_isRowOf 3 (some .boolean) 4 70 12 (64 * 12) [.ref l0, .int l1, .ref l2] hp sz ((some (.int o0), oh, oz) : oT) := by
  refine aM.of RX5 (by decide) rfl (Nat.le_of_ble_eq_true rfl) (fun K C => ?_)
  have hO : ((some (.int o0), oh, oz) : oT) = ((some (.int o0), oh, oz) : oT) := rfl
  refine r_lve (lv' := [(0, .ref l0), (1, .int l1), (2, .ref l2)]) rfl ?_
  unfold f_X5_isRowOf at h
  refine r_iload_n C 1 rfl dX5_isRowOf_0 rfl ?_
  by_cases hk0 : l1 = 1
  · replace h := br_p hk0 h
    refine r_tabIn C (1) hk0 (tgt := 32) dX5_isRowOf_1 (by decide) (by decide) rfl (by decide) ?_
    refine r_aload_n C 0 rfl dX5_isRowOf_32 rfl ?_
    replace h := bd_i h
    obtain ⟨w1, e2, h⟩ := h
    refine k_gI C e2 rfl inX5_ (by decide) flX5_96 dX5_isRowOf_33 ?_
    refine r_iconst C (v := 2) dX5_isRowOf_36 (by decide) ?_
    refine r_icmp_eq C (tgt := 52) dX5_isRowOf_37 (by decide) (fun hc => ?_) (fun hc => ?_)
    · replace h := br_p hc h
      refine r_iconst C (v := 1) dX5_isRowOf_52 (by decide) ?_
      refine r_goto C (tgt := 57) dX5_isRowOf_53 (by decide) ?_
      cases h
      exact r_zreturn C rfl (Eq.symm hO) dX5_isRowOf_57
    · replace h := br_n hc h
      refine r_aload_n C 0 rfl dX5_isRowOf_40 rfl ?_
      replace h := bd_i h
      obtain ⟨w3, e4, h⟩ := h
      refine k_gR C e4 rfl inX5_ (by decide) flX5_86 dX5_isRowOf_41 ?_
      refine r_aload_n C 2 rfl dX5_isRowOf_44 rfl ?_
      refine r_aload_n C 2 rfl dX5_isRowOf_45 rfl ?_
      replace h := gd_t h
      obtain ⟨ho5, h⟩ := h
      obtain ⟨_, ho5⟩ := isO_s ho5
      replace h := bd_i h
      obtain ⟨⟨r7, hp8, z9⟩, q6, h⟩ := h
      refine q_callV C 0 11 (64 * 11) (k_X4_linesMeet q6) rfl ho5 rfl okX4_linesMeet inX4_linesMeet lkX5_125 rfl (Nat.le_of_ble_eq_true rfl) ⟨by decide, by decide⟩ dX5_isRowOf_46 (by omega) (by omega) ?_
      refine r_if_eq C (tgt := 56) dX5_isRowOf_49 (by decide) (fun hc => ?_) (fun hc => ?_)
      · replace h := br_p hc h
        refine r_iconst C (v := 0) dX5_isRowOf_56 (by decide) ?_
        cases h
        exact r_zreturn C rfl (Eq.symm hO) dX5_isRowOf_57
      · replace h := br_n hc h
        refine r_iconst C (v := 1) dX5_isRowOf_52 (by decide) ?_
        refine r_goto C (tgt := 57) dX5_isRowOf_53 (by decide) ?_
        cases h
        exact r_zreturn C rfl (Eq.symm hO) dX5_isRowOf_57
  · replace h := br_n hk0 h
    by_cases hk1 : l1 = 2
    · replace h := br_p hk1 h
      refine r_tabIn C (2) hk1 (tgt := 94) dX5_isRowOf_1 (by decide) (by decide) rfl (by decide) ?_
      refine r_iconst C (v := 1) dX5_isRowOf_94 (by decide) ?_
      cases h
      exact r_zreturn C rfl (Eq.symm hO) dX5_isRowOf_95
    · replace h := br_n hk1 h
      by_cases hk2 : l1 = 3
      · replace h := br_p hk2 h
        refine r_tabIn C (3) hk2 (tgt := 58) dX5_isRowOf_1 (by decide) (by decide) rfl (by decide) ?_
        refine r_aload_n C 0 rfl dX5_isRowOf_58 rfl ?_
        replace h := bd_i h
        obtain ⟨w10, e11, h⟩ := h
        refine k_gR C e11 rfl inX5_ (by decide) flX5_142 dX5_isRowOf_59 ?_
        refine r_aload_n C 2 rfl dX5_isRowOf_62 rfl ?_
        replace h := gd_t h
        obtain ⟨ho12, h⟩ := h
        obtain ⟨_, ho12⟩ := isO_s ho12
        replace h := bd_i h
        obtain ⟨⟨r14, hp15, z16⟩, q13, h⟩ := h
        refine q_callV C 0 2 (64 * 2) (k_X2_rankOfSquare q13) rfl ho12 rfl okX2_rankOfSquare inX2_rankOfSquare lkX5_213 rfl (Nat.le_of_ble_eq_true rfl) ⟨by decide, by decide⟩ dX5_isRowOf_63 (by omega) (by omega) ?_
        refine r_aload_n C 0 rfl dX5_isRowOf_66 rfl ?_
        replace h := bd_i h
        obtain ⟨w17, e18, h⟩ := h
        refine k_gI C e18 rfl inX5_ (by decide) flX5_96 dX5_isRowOf_67 ?_
        refine r_iconst C (v := 1) dX5_isRowOf_70 (by decide) ?_
        refine r_iadd C dX5_isRowOf_71 ?_
        refine r_icmp_ne C (tgt := 79) dX5_isRowOf_72 (by decide) (fun hc => ?_) (fun hc => ?_)
        · replace h := br_n hc h
          refine r_iconst C (v := 0) dX5_isRowOf_79 (by decide) ?_
          cases h
          exact r_zreturn C rfl (Eq.symm hO) dX5_isRowOf_80
        · replace h := br_p hc h
          refine r_iconst C (v := 1) dX5_isRowOf_75 (by decide) ?_
          refine r_goto C (tgt := 80) dX5_isRowOf_76 (by decide) ?_
          cases h
          exact r_zreturn C rfl (Eq.symm hO) dX5_isRowOf_80
      · replace h := br_n hk2 h
        by_cases hk3 : l1 = 4
        · replace h := br_p hk3 h
          refine r_tabIn C (4) hk3 (tgt := 81) dX5_isRowOf_1 (by decide) (by decide) rfl (by decide) ?_
          refine r_aload_n C 2 rfl dX5_isRowOf_81 rfl ?_
          refine r_aload_n C 0 rfl dX5_isRowOf_82 rfl ?_
          replace h := bd_i h
          obtain ⟨w19, e20, h⟩ := h
          refine k_gR C e20 rfl inX5_ (by decide) flX5_142 dX5_isRowOf_83 ?_
          refine r_aload_n C 2 rfl dX5_isRowOf_86 rfl ?_
          replace h := gd_t h
          obtain ⟨ho21, h⟩ := h
          obtain ⟨_, ho21⟩ := isO_s ho21
          replace h := bd_i h
          obtain ⟨⟨r23, hp24, z25⟩, q22, h⟩ := h
          refine q_callV C 1 11 (64 * 11) (k_X2_turned q22) rfl ho21 rfl okX2_turned inX2_turned lkX5_187 rfl (Nat.le_of_ble_eq_true rfl) ⟨by decide, by decide⟩ dX5_isRowOf_87 (by omega) (by omega) ?_
          replace h := bd_i h
          obtain ⟨r27, q26, h⟩ := h
          refine q_callS C 0 11 (64 * 11) (k_X2_isSame q26) rfl okX2_isSame inX2_isSame lkX5_287 rfl (Nat.le_of_ble_eq_true rfl) ⟨by decide, by decide⟩ dX5_isRowOf_90 (by omega) (by omega) ?_
          replace h := gd_t h
          obtain ⟨hz, h⟩ := h
          cases h
          exact r_zreturn C (nb01 hz) (Eq.symm hO) dX5_isRowOf_93
        · replace h := br_n hk3 h
          have hs0 := lv_neT hk0 (a := 1) (by decide)
          have hs1 := lv_neT hk1 (a := 2) (by decide)
          have hs2 := lv_neT hk2 (a := 3) (by decide)
          have hs3 := lv_neT hk3 (a := 4) (by decide)
          refine r_tabOut C (tgt := 94) dX5_isRowOf_1 (by omega) (by decide) ?_
          refine r_iconst C (v := 1) dX5_isRowOf_94 (by decide) ?_
          cases h
          exact r_zreturn C rfl (Eq.symm hO) dX5_isRowOf_95
noncomputable def f_X2_lead_L2 (hp : cH) (l0 : Nat) (l1 : Int32) : Option (Int32 ⊕ Int32) := (aN hp l0).bind fun w1 => if w1 ≤ l1 then (some (.inr l1)) else ((lJ hp l0 l1).bind fun w3 => if w3 = ((0 : Int64)) then (some (.inl (l1 + 1))) else (some (.inr l1)))
noncomputable def f_X2_lead (hp : cH) (l0 : Nat) : Option Int32 := (itX (f_X2_lead_L2 hp l0) ((0 : Int32))).bind fun y5 => some y5
set_option maxHeartbeats 4000000 in
set_option maxRecDepth 100000 in
theorem w_X2_lead_L2 {K : kT} {O : oT} (C : aC K cX2_lead RX2 "lead" 0 0 0 (64 * 0) 2 (some .int) O) {hp : cH} {sz : Nat} {l0 : Nat} {l1 : Int32} {e1 : Int32} (h : itX (f_X2_lead_L2 hp l0) l1 = some e1) (hr : aW K hp sz 0 (64 * 0) 22 [(1, .int e1)] []) : aW K hp sz 0 (64 * 0) 2 [(0, .ref l0), (1, .int l1)] [] := by
  refine it_walk (f := f_X2_lead_L2 hp l0) (P := fun s => aW K hp sz 0 (64 * 0) 2 [(0, .ref l0), (1, .int s)] []) (R := fun r => aW K hp sz 0 (64 * 0) 22 [(1, .int r)] []) ?_ h hr
  clear h hr
  rintro l1 x h kl kr
  show aW K hp sz 0 (64 * 0) 2 [(0, .ref l0), (1, .int l1)] []
  replace h : f_X2_lead_L2 hp l0 l1 = some x := h
  unfold f_X2_lead_L2 at h
  refine r_iload_n C 1 rfl dX2_lead_2 rfl ?_
  refine r_aload_n C 0 rfl dX2_lead_3 rfl ?_
  replace h := bd_i h
  obtain ⟨w1, e2, h⟩ := h
  refine k_alen C e2 dX2_lead_4 ?_
  refine r_icmp_ge C (tgt := 22) dX2_lead_5 (by decide) (fun hc => ?_) (fun hc => ?_)
  · replace h := br_p hc h
    refine r_lv (lv' := [(1, .int l1)]) [1] rfl ?_
    exact kr _ (sm_i h)
  · replace h := br_n hc h
    refine r_aload_n C 0 rfl dX2_lead_8 rfl ?_
    refine r_iload_n C 1 rfl dX2_lead_9 rfl ?_
    replace h := bd_i h
    obtain ⟨w3, e4, h⟩ := h
    refine k_lJ C e4 dX2_lead_10 ?_
    refine r_lconst C (v := 0) dX2_lead_11 (by decide) ?_
    refine r_lne C (tgt := 22) dX2_lead_12 dX2_lead_13 (by decide) (fun hc => ?_) (fun hc => ?_)
    · replace h := br_n hc h
      refine r_lv (lv' := [(1, .int l1)]) [1] rfl ?_
      exact kr _ (sm_i h)
    · replace h := br_p hc h
      refine r_iinc C (v := l1 + 1) (lv' := [(1, .int (l1 + 1)), (0, .ref l0)]) 1 rfl dX2_lead_16 rfl (by decide) rfl ?_
      refine r_goto C (tgt := 2) dX2_lead_19 (by decide) ?_
      refine r_lv (lv' := [(0, .ref l0), (1, .int (l1 + 1))]) [1, 0] rfl ?_
      exact kl _ (sm_i h)
set_option maxHeartbeats 4000000 in
set_option maxRecDepth 100000 in
theorem k_X2_lead {G : gT} {hp : cH} {sz : Nat} {l0 : Nat} {o0 : Int32} (h : f_X2_lead hp l0 = some o0) : aM G yX2_lead cX2_lead 2 (some .int) 0 0 0 (64 * 0) [.ref l0] hp sz ((some (.int o0), hp, sz) : oT) := by
  refine aM.of RX2 (by decide) rfl (Nat.le_of_ble_eq_true rfl) (fun K C => ?_)
  have hO : ((some (.int o0), hp, sz) : oT) = ((some (.int o0), hp, sz) : oT) := rfl
  refine r_lve (lv' := [(0, .ref l0)]) rfl ?_
  unfold f_X2_lead at h
  refine r_iconst C (v := 0) dX2_lead_0 (by decide) ?_
  refine r_istore_n C (lv' := [(1, .int ((0 : Int32))), (0, .ref l0)]) dX2_lead_1 rfl (by decide) rfl ?_
  refine r_lv (lv' := [(0, .ref l0), (1, .int ((0 : Int32)))]) [1, 0] rfl ?_
  replace h := bd_i h
  obtain ⟨y5, q6, h⟩ := h
  refine w_X2_lead_L2 C  q6 ?_
  refine r_iload_n C 0 rfl dX2_lead_22 rfl ?_
  cases h
  exact r_ireturn C (Eq.symm hO) dX2_lead_23
noncomputable def f_X2_isZero (hp : cH) (l0 : Nat) : Option Int32 := (f_X2_lead hp l0).bind fun r2 => (aN hp l0).bind fun w3 => if r2 = w3 then (some ((1 : Int32))) else (some ((0 : Int32)))
set_option maxHeartbeats 4000000 in
set_option maxRecDepth 100000 in
theorem k_X2_isZero {G : gT} {hp : cH} {sz : Nat} {l0 : Nat} {o0 : Int32} (h : f_X2_isZero hp l0 = some o0) : aM G yX2_isZero cX2_isZero 1 (some .boolean) 1 13 0 (64 * 0) [.ref l0] hp sz ((some (.int o0), hp, sz) : oT) := by
  refine aM.of RX2 (by decide) rfl (Nat.le_of_ble_eq_true rfl) (fun K C => ?_)
  have hO : ((some (.int o0), hp, sz) : oT) = ((some (.int o0), hp, sz) : oT) := rfl
  refine r_lve (lv' := [(0, .ref l0)]) rfl ?_
  unfold f_X2_isZero at h
  refine r_aload_n C 0 rfl dX2_isZero_0 rfl ?_
  replace h := bd_i h
  obtain ⟨r2, q1, h⟩ := h
  refine q_callS C 0 0 (64 * 0) (k_X2_lead q1) rfl okX2_lead inX2_lead lkX2_17 rfl (Nat.le_of_ble_eq_true rfl) ⟨by decide, by decide⟩ dX2_isZero_1 (by omega) (by omega) ?_
  refine r_aload_n C 0 rfl dX2_isZero_4 rfl ?_
  replace h := bd_i h
  obtain ⟨w3, e4, h⟩ := h
  refine k_alen C e4 dX2_isZero_5 ?_
  refine r_icmp_ne C (tgt := 13) dX2_isZero_6 (by decide) (fun hc => ?_) (fun hc => ?_)
  · replace h := br_n hc h
    refine r_iconst C (v := 0) dX2_isZero_13 (by decide) ?_
    cases h
    exact r_zreturn C rfl (Eq.symm hO) dX2_isZero_14
  · replace h := br_p hc h
    refine r_iconst C (v := 1) dX2_isZero_9 (by decide) ?_
    refine r_goto C (tgt := 14) dX2_isZero_10 (by decide) ?_
    cases h
    exact r_zreturn C rfl (Eq.symm hO) dX2_isZero_14
noncomputable def f_X2_normal (hp : cH) (sz : Nat) (l0 : Nat) (l1 : Nat) : Option (Nat × cH × Nat) := (f_X2_lead hp l1).bind fun r2 => (nC hp sz l1).bind fun hp3 => (aJ hp3 sz).bind fun w5 => (aN hp3 l1).bind fun w7 => if w7 ≤ r2 then (some (sz, hp3, (sz + 1))) else ((lJ hp3 l1 r2).bind fun w9 => if w9 = ((1 : Int64)) then (some (sz, hp3, (sz + 1))) else ((gR hp3 l0 2 0).bind fun w11 => (lJ hp3 l1 r2).bind fun w13 => if isO hp3 w11 0 = true then (f_X0_reciprocal hp3 w11 w13).bind fun r17 => if isO hp3 l0 2 = true then (f_X2_scale hp3 l0 sz r17).bind fun hp20 => some (sz, hp20, (sz + 1)) else none else none))
set_option maxHeartbeats 4000000 in
set_option maxRecDepth 100000 in
theorem k_X2_normal {G : gT} {hp : cH} {sz : Nat} {l0 : Nat} {l1 : Nat} {o0 : Nat} {oh : cH} {oz : Nat} (h : f_X2_normal hp sz l0 l1 = some (o0, oh, oz)) : aM G yX2_normal cX2_normal 4 (some (.array .long)) 2 38 1 (64 * 1) [.ref l0, .ref l1] hp sz ((some (.ref o0), oh, oz) : oT) := by
  refine aM.of RX2 (by decide) rfl (Nat.le_of_ble_eq_true rfl) (fun K C => ?_)
  have hO : ((some (.ref o0), oh, oz) : oT) = ((some (.ref o0), oh, oz) : oT) := rfl
  refine r_lve (lv' := [(0, .ref l0), (1, .ref l1)]) rfl ?_
  unfold f_X2_normal at h
  refine r_aload_n C 1 rfl dX2_normal_0 rfl ?_
  replace h := bd_i h
  obtain ⟨r2, q1, h⟩ := h
  refine q_callS C 0 1 (64 * 1) (k_X2_lead q1) rfl okX2_lead inX2_lead lkX2_17 rfl (Nat.le_of_ble_eq_true rfl) ⟨by decide, by decide⟩ dX2_normal_1 (by omega) (by omega) ?_
  refine r_istore_n C (lv' := [(2, .int r2), (0, .ref l0), (1, .ref l1)]) dX2_normal_4 rfl (by decide) rfl ?_
  refine r_aload_n C 2 rfl dX2_normal_5 rfl ?_
  replace h := bd_i h
  obtain ⟨hp3, e4, h⟩ := h
  refine k_nC C 0 lkX2_21 e4 ⟨by decide, (Nat.le_of_ble_eq_true rfl)⟩ dX2_normal_6 (by omega) ?_
  replace h := bd_i h
  obtain ⟨w5, e6, h⟩ := h
  refine k_cast C cnX2_22 e6 dX2_normal_9 ?_
  refine r_astore_n C (lv' := [(3, .ref sz), (2, .int r2), (0, .ref l0), (1, .ref l1)]) dX2_normal_12 rfl (by decide) rfl ?_
  refine r_iload_n C 1 rfl dX2_normal_13 rfl ?_
  refine r_aload_n C 3 rfl dX2_normal_14 rfl ?_
  replace h := bd_i h
  obtain ⟨w7, e8, h⟩ := h
  refine k_alen C e8 dX2_normal_15 ?_
  refine r_icmp_ge C (tgt := 42) dX2_normal_16 (by decide) (fun hc => ?_) (fun hc => ?_)
  · replace h := br_p hc h
    refine r_aload_n C 0 rfl dX2_normal_42 rfl ?_
    cases h
    exact r_areturnA C (Or.inr ⟨_, rfl⟩) (Eq.symm hO) dX2_normal_43
  · replace h := br_n hc h
    refine r_aload_n C 3 rfl dX2_normal_19 rfl ?_
    refine r_iload_n C 1 rfl dX2_normal_20 rfl ?_
    replace h := bd_i h
    obtain ⟨w9, e10, h⟩ := h
    refine k_lJ C e10 dX2_normal_21 ?_
    refine r_lconst C (v := 1) dX2_normal_22 (by decide) ?_
    refine r_leq C (tgt := 42) dX2_normal_23 dX2_normal_24 (by decide) (fun hc => ?_) (fun hc => ?_)
    · replace h := br_p hc h
      refine r_aload_n C 0 rfl dX2_normal_42 rfl ?_
      cases h
      exact r_areturnA C (Or.inr ⟨_, rfl⟩) (Eq.symm hO) dX2_normal_43
    · replace h := br_n hc h
      refine r_aload_n C 2 rfl dX2_normal_27 rfl ?_
      refine r_aload_n C 0 rfl dX2_normal_28 rfl ?_
      refine r_aload_n C 2 rfl dX2_normal_29 rfl ?_
      replace h := bd_i h
      obtain ⟨w11, e12, h⟩ := h
      refine k_gR C e12 rfl inX2_ (by decide) flX2_7 dX2_normal_30 ?_
      refine r_aload_n C 3 rfl dX2_normal_33 rfl ?_
      refine r_iload_n C 1 rfl dX2_normal_34 rfl ?_
      replace h := bd_i h
      obtain ⟨w13, e14, h⟩ := h
      refine k_lJ C e14 dX2_normal_35 ?_
      replace h := gd_t h
      obtain ⟨ho15, h⟩ := h
      obtain ⟨_, ho15⟩ := isO_s ho15
      replace h := bd_i h
      obtain ⟨r17, q16, h⟩ := h
      refine q_callV C 2 0 (64 * 0) (k_X0_reciprocal q16) rfl ho15 rfl okX0_reciprocal inX0_reciprocal lkX2_27 rfl (Nat.le_of_ble_eq_true rfl) ⟨by decide, by decide⟩ dX2_normal_36 (by omega) (by omega) ?_
      replace h := gd_t h
      obtain ⟨ho18, h⟩ := h
      obtain ⟨_, ho18⟩ := isO_s ho18
      replace h := bd_i h
      obtain ⟨hp20, q19, h⟩ := h
      refine q_callVv C 0 0 (64 * 0) (k_X2_scale q19) rfl ho18 rfl okX2_scale inX2_scale lkX2_33 rfl (Nat.le_of_ble_eq_true rfl) ⟨by decide, by decide⟩ dX2_normal_39 (by omega) (by omega) ?_
      refine r_aload_n C 0 rfl dX2_normal_42 rfl ?_
      cases h
      exact r_areturnA C (Or.inr ⟨_, rfl⟩) (Eq.symm hO) dX2_normal_43
noncomputable def f_X1_init (hp : cH) (l0 : Nat) (l1 : Int32) (l2 : Nat) : Option cH := (pV hp l0 1 0 (.int l1)).bind fun hp1 => (pV hp1 l0 1 1 (.ref l2)).bind fun hp3 => some hp3
set_option maxHeartbeats 4000000 in
set_option maxRecDepth 100000 in
theorem k_X1_init {G : gT} {hp : cH} {sz : Nat} {l0 : Nat} {l1 : Int32} {l2 : Nat} {oh : cH} (h : f_X1_init hp l0 l1 l2 = some oh) : aM G yX1_init cX1_init 3 none 1 12 0 (64 * 0) [.ref l0, .int l1, .ref l2] hp sz ((none, oh, sz) : oT) := by
  refine aM.of RX1 (by decide) rfl (Nat.le_of_ble_eq_true rfl) (fun K C => ?_)
  have hO : ((none, oh, sz) : oT) = ((none, oh, sz) : oT) := rfl
  refine r_lve (lv' := [(0, .ref l0), (1, .int l1), (2, .ref l2)]) rfl ?_
  unfold f_X1_init at h
  refine r_aload_n C 0 rfl dX1_init_0 rfl ?_
  refine r_objInit C lkX1_1 oi1 oi2 ⟨by decide, by decide⟩ dX1_init_1 ?_
  refine r_aload_n C 0 rfl dX1_init_4 rfl ?_
  refine r_iload_n C 1 rfl dX1_init_5 rfl ?_
  replace h := bd_i h
  obtain ⟨hp1, e2, h⟩ := h
  refine k_pF C tyX1 tyX1_ok nmX1 e2 rfl inX1_ (by decide) flX1_7 rfl rfl rfl rfl rfl dX1_init_6 ?_
  refine r_aload_n C 0 rfl dX1_init_9 rfl ?_
  refine r_aload_n C 2 rfl dX1_init_10 rfl ?_
  replace h := bd_i h
  obtain ⟨hp3, e4, h⟩ := h
  refine k_pF C tyX1 tyX1_ok nmX1 e4 rfl inX1_ (by decide) flX1_13 rfl rfl rfl rfl rfl dX1_init_11 ?_
  cases h
  exact r_return C (Eq.symm hO) dX1_init_14
noncomputable def f_X3_place_L2J41 (l3 : Int32) : Option (Int32 ⊕ (Unit ⊕ (Int32 × cH × Nat))) := some (.inl (l3 + 1))
noncomputable def f_X3_place_L2 (hp : cH) (sz : Nat) (l0 : Nat) (l1 : Int32) (l2 : Nat) (l3 : Int32) : Option (Int32 ⊕ (Unit ⊕ (Int32 × cH × Nat))) := (gI hp l0 3 1).bind fun w1 => if w1 ≤ l3 then (some (.inr (.inl ()))) else ((gR hp l0 3 0).bind fun w3 => (lR 2 hp w3 l3).bind fun u5 => u5.bind fun a7 => (gI hp a7 1 0).bind fun w9 => if w9 = l1 then ((gR hp l0 3 0).bind fun w11 => (lR 2 hp w11 l3).bind fun u13 => u13.bind fun a15 => (gR hp a15 1 1).bind fun w17 => (f_X2_isSame hp w17 l2).bind fun r20 => if r20 = 0 then (f_X3_place_L2J41 l3) else (some (.inr (.inr (l3, hp, sz))))) else (f_X3_place_L2J41 l3))
noncomputable def f_X3_place (hp : cH) (sz : Nat) (l0 : Nat) (l1 : Int32) (l2 : Nat) : Option (Int32 × cH × Nat) := (itX (f_X3_place_L2 hp sz l0 l1 l2) ((0 : Int32))).bind fun r22 => match r22 with | .inl _ => ((gI hp l0 3 1).bind fun w24 => (gR hp l0 3 0).bind fun w26 => (aN hp w26).bind fun w28 => if w24 < w28 then ((gR hp l0 3 0).bind fun w30 => (gI hp l0 3 1).bind fun w32 => (some (va_up hp sz (some (.inr (1, [.int 0, .null]))))).bind fun hp34 => (f_X1_init hp34 sz l1 l2).bind fun hp37 => (sR 2 hp37 w30 w32 sz).bind fun hp38 => (gI hp38 l0 3 1).bind fun w40 => (pV hp38 l0 3 1 (.int (w40 + ((1 : Int32))))).bind fun hp42 => (gI hp42 l0 3 1).bind fun w44 => some (w44 - ((1 : Int32)), hp42, (sz + 1))) else (some ((-3 : Int32), hp, sz))) | .inr o23 => some o23
set_option maxHeartbeats 4000000 in
set_option maxRecDepth 100000 in
theorem w_X3_place_L2J41 {K : kT} {O : oT} (C : aC K cX3_place RX3 "place" 2 29 1 (64 * 1) 4 (some .int) O) {hp : cH} {sz rc : Nat} {l0 : Nat} {l1 : Int32} {l2 : Nat} {l3 : Int32}  {x : Int32 ⊕ (Unit ⊕ (Int32 × cH × Nat))} (h : f_X3_place_L2J41 l3 = some x) (kl : ∀ s, x = .inl s → aW K hp sz rc (64 * rc) 2 [(0, .ref l0), (1, .int l1), (2, .ref l2), (3, .int s)] []) (kr : ∀ r, x = .inr r → Sum.elim (fun r => aW K hp sz rc (64 * rc) 47 [(0, .ref l0), (1, .int l1), (2, .ref l2)] []) (fun o => ((some (.int o.1), o.2.1, o.2.2) : oT) = O) r) : aW K hp sz rc (64 * rc) 41 [(0, .ref l0), (1, .int l1), (2, .ref l2), (3, .int l3)] [] := by
  unfold f_X3_place_L2J41 at h
  refine r_iinc C (v := l3 + 1) (lv' := [(3, .int (l3 + 1)), (0, .ref l0), (1, .int l1), (2, .ref l2)]) 3 rfl dX3_place_41 rfl (by decide) rfl ?_
  refine r_goto C (tgt := 2) dX3_place_44 (by decide) ?_
  refine r_lv (lv' := [(0, .ref l0), (1, .int l1), (2, .ref l2), (3, .int (l3 + 1))]) [1, 2, 3, 0] rfl ?_
  exact kl _ (sm_i h)
set_option maxHeartbeats 4000000 in
set_option maxRecDepth 100000 in
theorem w_X3_place_L2 {K : kT} {O : oT} (C : aC K cX3_place RX3 "place" 2 29 1 (64 * 1) 4 (some .int) O) {hp : cH} {sz rc : Nat} {l0 : Nat} {l1 : Int32} {l2 : Nat} {l3 : Int32} {r : (Unit ⊕ (Int32 × cH × Nat))} (h : itX (f_X3_place_L2 hp sz l0 l1 l2) l3 = some r) (hr : Sum.elim (fun r => aW K hp sz rc (64 * rc) 47 [(0, .ref l0), (1, .int l1), (2, .ref l2)] []) (fun o => ((some (.int o.1), o.2.1, o.2.2) : oT) = O) r) : aW K hp sz rc (64 * rc) 2 [(0, .ref l0), (1, .int l1), (2, .ref l2), (3, .int l3)] [] := by
  refine it_walk (f := f_X3_place_L2 hp sz l0 l1 l2) (P := fun s => aW K hp sz rc (64 * rc) 2 [(0, .ref l0), (1, .int l1), (2, .ref l2), (3, .int s)] []) (R := fun r => Sum.elim (fun r => aW K hp sz rc (64 * rc) 47 [(0, .ref l0), (1, .int l1), (2, .ref l2)] []) (fun o => ((some (.int o.1), o.2.1, o.2.2) : oT) = O) r) ?_ h hr
  clear h hr
  rintro l3 x h kl kr
  show aW K hp sz rc (64 * rc) 2 [(0, .ref l0), (1, .int l1), (2, .ref l2), (3, .int l3)] []
  replace h : f_X3_place_L2 hp sz l0 l1 l2 l3 = some x := h
  unfold f_X3_place_L2 at h
  refine r_iload_n C 3 rfl dX3_place_2 rfl ?_
  refine r_aload_n C 0 rfl dX3_place_3 rfl ?_
  replace h := bd_i h
  obtain ⟨w1, e2, h⟩ := h
  refine k_gI C e2 rfl inX3_ (by decide) flX3_17 dX3_place_4 ?_
  refine r_icmp_ge C (tgt := 47) dX3_place_7 (by decide) (fun hc => ?_) (fun hc => ?_)
  · replace h := br_p hc h
    refine r_lv (lv' := [(0, .ref l0), (1, .int l1), (2, .ref l2)]) [0, 1, 2] rfl ?_
    exact kr _ (sm_i h)
  · replace h := br_n hc h
    refine r_aload_n C 0 rfl dX3_place_10 rfl ?_
    replace h := bd_i h
    obtain ⟨w3, e4, h⟩ := h
    refine k_gR C e4 rfl inX3_ (by decide) flX3_11 dX3_place_11 ?_
    refine r_iload_n C 3 rfl dX3_place_14 rfl ?_
    replace h := bd_i h
    obtain ⟨u5, e6, h⟩ := h
    refine k_lR C (by decide) e6 dX3_place_15 ?_
    replace h := bd_i h
    obtain ⟨a7, e8, h⟩ := h
    subst e8
    replace h := bd_i h
    obtain ⟨w9, e10, h⟩ := h
    refine k_gI C e10 rfl inX1_ (by decide) flX3_25 dX3_place_16 ?_
    refine r_iload_n C 1 rfl dX3_place_19 rfl ?_
    refine r_icmp_ne C (tgt := 41) dX3_place_20 (by decide) (fun hc => ?_) (fun hc => ?_)
    · replace h := br_n hc h
      refine r_lv (lv' := [(0, .ref l0), (1, .int l1), (2, .ref l2), (3, .int l3)]) [0, 1, 2, 3] rfl ?_
      exact w_X3_place_L2J41 C  h kl kr
    · replace h := br_p hc h
      refine r_aload_n C 0 rfl dX3_place_23 rfl ?_
      replace h := bd_i h
      obtain ⟨w11, e12, h⟩ := h
      refine k_gR C e12 rfl inX3_ (by decide) flX3_11 dX3_place_24 ?_
      refine r_iload_n C 3 rfl dX3_place_27 rfl ?_
      replace h := bd_i h
      obtain ⟨u13, e14, h⟩ := h
      refine k_lR C (by decide) e14 dX3_place_28 ?_
      replace h := bd_i h
      obtain ⟨a15, e16, h⟩ := h
      subst e16
      replace h := bd_i h
      obtain ⟨w17, e18, h⟩ := h
      refine k_gR C e18 rfl inX1_ (by decide) flX3_28 dX3_place_29 ?_
      refine r_aload_n C 2 rfl dX3_place_32 rfl ?_
      replace h := bd_i h
      obtain ⟨r20, q19, h⟩ := h
      refine q_callS C 0 rc (64 * rc) (k_X2_isSame q19) rfl okX2_isSame inX2_isSame lkX3_32 rfl (Nat.le_of_ble_eq_true rfl) ⟨by decide, by decide⟩ dX3_place_33 (by omega) (by omega) ?_
      refine r_if_eq C (tgt := 41) dX3_place_36 (by decide) (fun hc => ?_) (fun hc => ?_)
      · replace h := br_p hc h
        refine r_lv (lv' := [(0, .ref l0), (1, .int l1), (2, .ref l2), (3, .int l3)]) [0, 1, 2, 3] rfl ?_
        exact w_X3_place_L2J41 C  h kl kr
      · replace h := br_n hc h
        refine r_iload_n C 3 rfl dX3_place_39 rfl ?_
        exact r_ireturn C (Eq.symm (kr _ (sm_i h))) dX3_place_40
set_option maxHeartbeats 4000000 in
set_option maxRecDepth 100000 in
theorem k_X3_place {G : gT} {hp : cH} {sz : Nat} {l0 : Nat} {l1 : Int32} {l2 : Nat} {o0 : Int32} {oh : cH} {oz : Nat} (h : f_X3_place hp sz l0 l1 l2 = some (o0, oh, oz)) : aM G yX3_place cX3_place 4 (some .int) 2 29 1 (64 * 1) [.ref l0, .int l1, .ref l2] hp sz ((some (.int o0), oh, oz) : oT) := by
  refine aM.of RX3 (by decide) rfl (Nat.le_of_ble_eq_true rfl) (fun K C => ?_)
  have hO : ((some (.int o0), oh, oz) : oT) = ((some (.int o0), oh, oz) : oT) := rfl
  refine r_lve (lv' := [(0, .ref l0), (1, .int l1), (2, .ref l2)]) rfl ?_
  unfold f_X3_place at h
  refine r_iconst C (v := 0) dX3_place_0 (by decide) ?_
  refine r_istore_n C (lv' := [(3, .int ((0 : Int32))), (0, .ref l0), (1, .int l1), (2, .ref l2)]) dX3_place_1 rfl (by decide) rfl ?_
  refine r_lv (lv' := [(0, .ref l0), (1, .int l1), (2, .ref l2), (3, .int ((0 : Int32)))]) [1, 2, 3, 0] rfl ?_
  replace h := bd_i h
  obtain ⟨r22, q21, h⟩ := h
  rcases r22 with _ | o23
  · refine w_X3_place_L2 C  q21 ?_
    show aW K hp sz 1 (64 * 1) 47 [(0, .ref l0), (1, .int l1), (2, .ref l2)] []
    refine r_aload_n C 0 rfl dX3_place_47 rfl ?_
    replace h := bd_i h
    obtain ⟨w24, e25, h⟩ := h
    refine k_gI C e25 rfl inX3_ (by decide) flX3_17 dX3_place_48 ?_
    refine r_aload_n C 0 rfl dX3_place_51 rfl ?_
    replace h := bd_i h
    obtain ⟨w26, e27, h⟩ := h
    refine k_gR C e27 rfl inX3_ (by decide) flX3_11 dX3_place_52 ?_
    replace h := bd_i h
    obtain ⟨w28, e29, h⟩ := h
    refine k_alen C e29 dX3_place_55 ?_
    refine r_icmp_lt C (tgt := 62) dX3_place_56 (by decide) (fun hc => ?_) (fun hc => ?_)
    · replace h := br_p hc h
      refine r_aload_n C 0 rfl dX3_place_62 rfl ?_
      replace h := bd_i h
      obtain ⟨w30, e31, h⟩ := h
      refine k_gR C e31 rfl inX3_ (by decide) flX3_11 dX3_place_63 ?_
      refine r_aload_n C 0 rfl dX3_place_66 rfl ?_
      replace h := bd_i h
      obtain ⟨w32, e33, h⟩ := h
      refine k_gI C e33 rfl inX3_ (by decide) flX3_17 dX3_place_67 ?_
      replace h := nm h
      obtain ⟨hp34, e35, h⟩ := h
      refine k_new C 0 tyX1 tyX1_ok rfl inX1_ cnX3_9 icX1 iiX1 dfX1 (by decide) e35 dX3_place_70 (by omega) ?_
      refine r_dup C dX3_place_73 rfl ?_
      refine r_iload_n C 1 rfl dX3_place_74 rfl ?_
      refine r_aload_n C 2 rfl dX3_place_75 rfl ?_
      replace h := bd_i h
      obtain ⟨hp37, q36, h⟩ := h
      refine q_callI C 3 0 (64 * 0) (k_X1_init q36) rfl okX1_init rfl inX1_init lkX3_38 rfl (Nat.le_of_ble_eq_true rfl) ⟨by decide, by decide⟩ dX3_place_76 (by omega) (by omega) ?_
      replace h := bd_i h
      obtain ⟨hp38, e39, h⟩ := h
      refine k_sR C (by decide) e39 dX3_place_79 ?_
      refine r_aload_n C 0 rfl dX3_place_80 rfl ?_
      refine r_dup C dX3_place_81 rfl ?_
      replace h := bd_i h
      obtain ⟨w40, e41, h⟩ := h
      refine k_gI C e41 rfl inX3_ (by decide) flX3_17 dX3_place_82 ?_
      refine r_iconst C (v := 1) dX3_place_85 (by decide) ?_
      refine r_iadd C dX3_place_86 ?_
      replace h := bd_i h
      obtain ⟨hp42, e43, h⟩ := h
      refine k_pV C tyX3 tyX3_ok nmX3 e43 rfl inX3_ (by decide) flX3_17 rfl rfl rfl rfl dX3_place_87 ?_
      refine r_aload_n C 0 rfl dX3_place_90 rfl ?_
      replace h := bd_i h
      obtain ⟨w44, e45, h⟩ := h
      refine k_gI C e45 rfl inX3_ (by decide) flX3_17 dX3_place_91 ?_
      refine r_iconst C (v := 1) dX3_place_94 (by decide) ?_
      refine r_isub C dX3_place_95 ?_
      cases h
      exact r_ireturn C (Eq.symm hO) dX3_place_96
    · replace h := br_n hc h
      refine r_bipush C (v := -3) dX3_place_59 (by decide) ?_
      cases h
      exact r_ireturn C (Eq.symm hO) dX3_place_61
  · cases h
    exact w_X3_place_L2 C  q21 hO
noncomputable def f_X5_keep (hp : cH) (sz : Nat) (l0 : Nat) (l1 : Int32) (l2 : Option Nat) : Option (Int32 × cH × Nat) := Option.elim l2 (some ((-1 : Int32), hp, sz)) (fun a1 => (f_X2_isZero hp a1).bind fun r3 => if r3 = 0 then ((gR hp l0 5 0).bind fun w4 => (gR hp l0 5 8).bind fun w6 => if isO hp w6 2 = true then (f_X2_normal hp sz w6 a1).bind fun (r10, hp11, z12) => if isO hp11 w4 3 = true then (f_X3_place hp11 z12 w4 l1 r10).bind fun (r15, hp16, z17) => some (r15, hp16, z17) else none else none) else (some ((-1 : Int32), hp, sz)))
set_option maxHeartbeats 4000000 in
set_option maxRecDepth 100000 in
theorem k_X5_keep {G : gT} {hp : cH} {sz : Nat} {l0 : Nat} {l1 : Int32} {l2 : Option Nat} {o0 : Int32} {oh : cH} {oz : Nat} (h : f_X5_keep hp sz l0 l1 l2 = some (o0, oh, oz)) : aM G yX5_keep cX5_keep 3 (some .int) 3 55 2 (64 * 2) [.ref l0, .int l1, va_rf l2] hp sz ((some (.int o0), oh, oz) : oT) := by
  refine aM.of RX5 (by decide) rfl (by cases l2 <;> exact Nat.le_of_ble_eq_true rfl) (fun K C => ?_)
  have hO : ((some (.int o0), oh, oz) : oT) = ((some (.int o0), oh, oz) : oT) := rfl
  refine r_lve (lv' := [(0, .ref l0), (1, .int l1), (2, va_rf l2)]) (by cases l2 <;> rfl) ?_
  unfold f_X5_keep at h
  refine r_aload_nq C 2 rfl dX5_keep_0 rfl ?_
  refine k_ifnull C (tgt := 11) dX5_keep_1 (by decide) (fun hx => ?_) (fun a1 hx => ?_)
  · subst hx
    replace h := oe_n rfl h
    refine r_iconst C (v := -1) dX5_keep_11 (by decide) ?_
    cases h
    exact r_ireturn C (Eq.symm hO) dX5_keep_12
  · subst hx
    replace h := oe_s rfl h
    refine r_aload_n C 2 rfl dX5_keep_4 rfl ?_
    replace h := bd_i h
    obtain ⟨r3, q2, h⟩ := h
    refine q_callS C 0 2 (64 * 2) (k_X2_isZero q2) rfl okX2_isZero inX2_isZero lkX5_264 rfl (Nat.le_of_ble_eq_true rfl) ⟨by decide, by decide⟩ dX5_keep_5 (by omega) (by omega) ?_
    refine r_if_eq C (tgt := 13) dX5_keep_8 (by decide) (fun hc => ?_) (fun hc => ?_)
    · replace h := br_p hc h
      refine r_aload_n C 0 rfl dX5_keep_13 rfl ?_
      replace h := bd_i h
      obtain ⟨w4, e5, h⟩ := h
      refine k_gR C e5 rfl inX5_ (by decide) flX5_10 dX5_keep_14 ?_
      refine r_iload_n C 1 rfl dX5_keep_17 rfl ?_
      refine r_aload_n C 0 rfl dX5_keep_18 rfl ?_
      replace h := bd_i h
      obtain ⟨w6, e7, h⟩ := h
      refine k_gR C e7 rfl inX5_ (by decide) flX5_142 dX5_keep_19 ?_
      refine r_aload_n C 2 rfl dX5_keep_22 rfl ?_
      replace h := gd_t h
      obtain ⟨ho8, h⟩ := h
      obtain ⟨_, ho8⟩ := isO_s ho8
      replace h := bd_i h
      obtain ⟨⟨r10, hp11, z12⟩, q9, h⟩ := h
      refine q_callV C 2 1 (64 * 1) (k_X2_normal q9) rfl ho8 rfl okX2_normal inX2_normal lkX5_290 rfl (Nat.le_of_ble_eq_true rfl) ⟨by decide, by decide⟩ dX5_keep_23 (by omega) (by omega) ?_
      replace h := gd_t h
      obtain ⟨ho13, h⟩ := h
      obtain ⟨_, ho13⟩ := isO_s ho13
      replace h := bd_i h
      obtain ⟨⟨r15, hp16, z17⟩, q14, h⟩ := h
      refine q_callV C 0 0 (64 * 0) (k_X3_place q14) rfl ho13 rfl okX3_place inX3_place lkX5_293 rfl (Nat.le_of_ble_eq_true rfl) ⟨by decide, by decide⟩ dX5_keep_26 (by omega) (by omega) ?_
      cases h
      exact r_ireturn C (Eq.symm hO) dX5_keep_29
    · replace h := br_n hc h
      refine r_iconst C (v := -1) dX5_keep_11 (by decide) ?_
      cases h
      exact r_ireturn C (Eq.symm hO) dX5_keep_12
noncomputable def f_X5_make (hp : cH) (sz : Nat) (l0 : Nat) (l1 : Int32) : Option (Int32 × cH × Nat) := if isO hp l0 5 = true then (f_X5_lengthOf hp l0 l1).bind fun r3 => if r3 = 0 then (some ((-2 : Int32), hp, sz)) else ((gR hp l0 5 1).bind fun w4 => (f_J7_copyOf_c38d5 hp sz w4 r3).bind fun (r7, hp8, z9) => if isO hp8 l0 5 = true then (f_X5_isRowOf hp8 z9 l0 l1 r7).bind fun (r12, hp13, z14) => if r12 = 0 then (some ((-1 : Int32), hp13, z14)) else (if isO hp13 l0 5 = true then (f_X5_keep hp13 z14 l0 l1 ((some r7))).bind fun (r17, hp18, z19) => some (r17, hp18, z19) else none) else none) else none
set_option maxHeartbeats 4000000 in
set_option maxRecDepth 100000 in
theorem k_X5_make {G : gT} {hp : cH} {sz : Nat} {l0 : Nat} {l1 : Int32} {o0 : Int32} {oh : cH} {oz : Nat} (h : f_X5_make hp sz l0 l1 = some (o0, oh, oz)) : aM G yX5_make cX5_make 4 (some .int) 5 84 16 (64 * 16) [.ref l0, .int l1] hp sz ((some (.int o0), oh, oz) : oT) := by
  refine aM.of RX5 (by decide) rfl (Nat.le_of_ble_eq_true rfl) (fun K C => ?_)
  have hO : ((some (.int o0), oh, oz) : oT) = ((some (.int o0), oh, oz) : oT) := rfl
  refine r_lve (lv' := [(0, .ref l0), (1, .int l1)]) rfl ?_
  unfold f_X5_make at h
  refine r_aload_n C 0 rfl dX5_make_0 rfl ?_
  refine r_iload_n C 1 rfl dX5_make_1 rfl ?_
  replace h := gd_t h
  obtain ⟨ho1, h⟩ := h
  obtain ⟨_, ho1⟩ := isO_s ho1
  replace h := bd_i h
  obtain ⟨r3, q2, h⟩ := h
  refine q_callV C 0 16 (64 * 16) (k_X5_lengthOf q2) rfl ho1 rfl okX5_lengthOf inX5_lengthOf lkX5_48 rfl (Nat.le_of_ble_eq_true rfl) ⟨by decide, by decide⟩ dX5_make_2 (by omega) (by omega) ?_
  refine r_istore_n C (lv' := [(2, .int r3), (0, .ref l0), (1, .int l1)]) dX5_make_5 rfl (by decide) rfl ?_
  refine r_iload_n C 0 rfl dX5_make_6 rfl ?_
  refine r_if_ne C (tgt := 13) dX5_make_7 (by decide) (fun hc => ?_) (fun hc => ?_)
  · replace h := br_n hc h
    refine r_aload_n C 1 rfl dX5_make_13 rfl ?_
    replace h := bd_i h
    obtain ⟨w4, e5, h⟩ := h
    refine k_gR C e5 rfl inX5_ (by decide) flX5_16 dX5_make_14 ?_
    refine r_iload_n C 0 rfl dX5_make_17 rfl ?_
    replace h := bd_i h
    obtain ⟨⟨r7, hp8, z9⟩, q6, h⟩ := h
    refine q_callS C 0 14 (64 * 14) (k_J7_copyOf_c38d5 q6) rfl okJ7_copyOf_c38d5 inJ7_copyOf_c38d5 lkX5_52 rfl (Nat.le_of_ble_eq_true rfl) ⟨by decide, by decide⟩ dX5_make_18 (by omega) (by omega) ?_
    refine r_astore_n C (lv' := [(3, .ref r7), (2, .int r3), (0, .ref l0), (1, .int l1)]) dX5_make_21 rfl (by decide) rfl ?_
    refine r_aload_n C 2 rfl dX5_make_22 rfl ?_
    refine r_iload_n C 3 rfl dX5_make_23 rfl ?_
    refine r_aload_n C 0 rfl dX5_make_24 rfl ?_
    replace h := gd_t h
    obtain ⟨ho10, h⟩ := h
    obtain ⟨_, ho10⟩ := isO_s ho10
    replace h := bd_i h
    obtain ⟨⟨r12, hp13, z14⟩, q11, h⟩ := h
    refine q_callV C 0 2 (64 * 2) (k_X5_isRowOf q11) rfl ho10 rfl okX5_isRowOf inX5_isRowOf lkX5_58 rfl (Nat.le_of_ble_eq_true rfl) ⟨by decide, by decide⟩ dX5_make_25 (by omega) (by omega) ?_
    refine r_if_eq C (tgt := 40) dX5_make_28 (by decide) (fun hc => ?_) (fun hc => ?_)
    · replace h := br_p hc h
      refine r_iconst C (v := -1) dX5_make_40 (by decide) ?_
      cases h
      exact r_ireturn C (Eq.symm hO) dX5_make_41
    · replace h := br_n hc h
      refine r_aload_n C 2 rfl dX5_make_31 rfl ?_
      refine r_iload_n C 3 rfl dX5_make_32 rfl ?_
      refine r_aload_n C 0 rfl dX5_make_33 rfl ?_
      replace h := gd_t h
      obtain ⟨ho15, h⟩ := h
      obtain ⟨_, ho15⟩ := isO_s ho15
      replace h := bd_i h
      obtain ⟨⟨r17, hp18, z19⟩, q16, h⟩ := h
      refine q_callV C 0 0 (64 * 0) (k_X5_keep q16) rfl ho15 rfl okX5_keep inX5_keep lkX5_62 rfl (Nat.le_of_ble_eq_true rfl) ⟨by decide, by decide⟩ dX5_make_34 (by omega) (by omega) ?_
      refine r_goto C (tgt := 41) dX5_make_37 (by decide) ?_
      cases h
      exact r_ireturn C (Eq.symm hO) dX5_make_41
  · replace h := br_p hc h
    refine r_bipush C (v := -2) dX5_make_10 (by decide) ?_
    cases h
    exact r_ireturn C (Eq.symm hO) dX5_make_12
noncomputable def f_X3_item (hp : cH) (l0 : Nat) (l1 : Int32) : Option (Option Nat) := if l1 < 0 then (some none) else ((gI hp l0 3 1).bind fun w1 => if w1 ≤ l1 then (some none) else ((gR hp l0 3 0).bind fun w3 => (aN hp w3).bind fun w5 => if l1 < w5 then ((gR hp l0 3 0).bind fun w7 => (lR 2 hp w7 l1).bind fun u9 => some u9) else (some none)))
set_option maxHeartbeats 4000000 in
set_option maxRecDepth 100000 in
theorem k_X3_item {G : gT} {hp : cH} {sz : Nat} {l0 : Nat} {l1 : Int32} {o0 : Option Nat} (h : f_X3_item hp l0 l1 = some o0) : aM G yX3_item cX3_item 2 (some (.object "ProjectiveRows$Item")) 0 0 0 (64 * 0) [.ref l0, .int l1] hp sz ((some (va_rf o0), hp, sz) : oT) := by
  refine aM.of RX3 (by decide) rfl (Nat.le_of_ble_eq_true rfl) (fun K C => ?_)
  have hO : ((some (va_rf o0), hp, sz) : oT) = ((some (va_rf o0), hp, sz) : oT) := rfl
  refine r_lve (lv' := [(0, .ref l0), (1, .int l1)]) rfl ?_
  unfold f_X3_item at h
  refine r_iload_n C 1 rfl dX3_item_0 rfl ?_
  refine r_if_lt C (tgt := 21) dX3_item_1 (by decide) (fun hc => ?_) (fun hc => ?_)
  · replace h := br_p hc h
    refine r_null C dX3_item_21 ?_
    refine r_goto C (tgt := 31) dX3_item_22 (by decide) ?_
    cases h
    exact r_areturn C (Or.inl ⟨_, rfl⟩) (Eq.symm hO) dX3_item_31
  · replace h := br_n hc h
    refine r_iload_n C 1 rfl dX3_item_4 rfl ?_
    refine r_aload_n C 0 rfl dX3_item_5 rfl ?_
    replace h := bd_i h
    obtain ⟨w1, e2, h⟩ := h
    refine k_gI C e2 rfl inX3_ (by decide) flX3_17 dX3_item_6 ?_
    refine r_icmp_ge C (tgt := 21) dX3_item_9 (by decide) (fun hc => ?_) (fun hc => ?_)
    · replace h := br_p hc h
      refine r_null C dX3_item_21 ?_
      refine r_goto C (tgt := 31) dX3_item_22 (by decide) ?_
      cases h
      exact r_areturn C (Or.inl ⟨_, rfl⟩) (Eq.symm hO) dX3_item_31
    · replace h := br_n hc h
      refine r_iload_n C 1 rfl dX3_item_12 rfl ?_
      refine r_aload_n C 0 rfl dX3_item_13 rfl ?_
      replace h := bd_i h
      obtain ⟨w3, e4, h⟩ := h
      refine k_gR C e4 rfl inX3_ (by decide) flX3_11 dX3_item_14 ?_
      replace h := bd_i h
      obtain ⟨w5, e6, h⟩ := h
      refine k_alen C e6 dX3_item_17 ?_
      refine r_icmp_lt C (tgt := 25) dX3_item_18 (by decide) (fun hc => ?_) (fun hc => ?_)
      · replace h := br_p hc h
        refine r_aload_n C 0 rfl dX3_item_25 rfl ?_
        replace h := bd_i h
        obtain ⟨w7, e8, h⟩ := h
        refine k_gR C e8 rfl inX3_ (by decide) flX3_11 dX3_item_26 ?_
        refine r_iload_n C 1 rfl dX3_item_29 rfl ?_
        replace h := bd_i h
        obtain ⟨u9, e10, h⟩ := h
        refine k_lR C (by decide) e10 dX3_item_30 ?_
        cases h
        exact r_areturn C (Or.inl ⟨_, rfl⟩) (Eq.symm hO) dX3_item_31
      · replace h := br_n hc h
        refine r_null C dX3_item_21 ?_
        refine r_goto C (tgt := 31) dX3_item_22 (by decide) ?_
        cases h
        exact r_areturn C (Or.inl ⟨_, rfl⟩) (Eq.symm hO) dX3_item_31
noncomputable def f_X5_number (hp : cH) (l0 : Nat) (l1 : Int32) (l2 : Int32) : Option Int32 := (gR hp l0 5 0).bind fun w1 => if isO hp w1 3 = true then (f_X3_item hp w1 l1).bind fun r5 => Option.elim r5 (some ((-2 : Int32))) (fun a6 => if l2 < 0 then (some ((-2 : Int32))) else ((gR hp a6 1 1).bind fun w7 => (aN hp w7).bind fun w9 => if l2 < w9 then ((gR hp a6 1 1).bind fun w11 => (lJ hp w11 l2).bind fun w13 => some w13.toInt32) else (some ((-2 : Int32))))) else none
set_option maxHeartbeats 4000000 in
set_option maxRecDepth 100000 in
theorem k_X5_number {G : gT} {hp : cH} {sz : Nat} {l0 : Nat} {l1 : Int32} {l2 : Int32} {o0 : Int32} (h : f_X5_number hp l0 l1 l2 = some o0) : aM G yX5_number cX5_number 4 (some .int) 1 13 0 (64 * 0) [.ref l0, .int l1, .int l2] hp sz ((some (.int o0), hp, sz) : oT) := by
  refine aM.of RX5 (by decide) rfl (Nat.le_of_ble_eq_true rfl) (fun K C => ?_)
  have hO : ((some (.int o0), hp, sz) : oT) = ((some (.int o0), hp, sz) : oT) := rfl
  refine r_lve (lv' := [(0, .ref l0), (1, .int l1), (2, .int l2)]) rfl ?_
  unfold f_X5_number at h
  refine r_aload_n C 0 rfl dX5_number_0 rfl ?_
  replace h := bd_i h
  obtain ⟨w1, e2, h⟩ := h
  refine k_gR C e2 rfl inX5_ (by decide) flX5_10 dX5_number_1 ?_
  refine r_iload_n C 1 rfl dX5_number_4 rfl ?_
  replace h := gd_t h
  obtain ⟨ho3, h⟩ := h
  obtain ⟨_, ho3⟩ := isO_s ho3
  replace h := bd_i h
  obtain ⟨r5, q4, h⟩ := h
  refine q_callV C 0 0 (64 * 0) (k_X3_item q4) rfl ho3 rfl okX3_item inX3_item lkX5_66 rfl (Nat.le_of_ble_eq_true rfl) ⟨by decide, by decide⟩ dX5_number_5 (by omega) (by omega) ?_
  refine r_astore_nq C (lv' := [(3, va_rf r5), (0, .ref l0), (1, .int l1), (2, .int l2)]) dX5_number_8 rfl (by decide) rfl ?_
  refine r_aload_nq C 0 rfl dX5_number_9 rfl ?_
  refine k_ifnull C (tgt := 26) dX5_number_10 (by decide) (fun hx => ?_) (fun a6 hx => ?_)
  · subst hx
    replace h := oe_n rfl h
    refine r_bipush C (v := -2) dX5_number_26 (by decide) ?_
    cases h
    exact r_ireturn C (Eq.symm hO) dX5_number_28
  · subst hx
    replace h := oe_s rfl h
    refine r_iload_n C 3 rfl dX5_number_13 rfl ?_
    refine r_if_lt C (tgt := 26) dX5_number_14 (by decide) (fun hc => ?_) (fun hc => ?_)
    · replace h := br_p hc h
      refine r_bipush C (v := -2) dX5_number_26 (by decide) ?_
      cases h
      exact r_ireturn C (Eq.symm hO) dX5_number_28
    · replace h := br_n hc h
      refine r_iload_n C 3 rfl dX5_number_17 rfl ?_
      refine r_aload_n C 0 rfl dX5_number_18 rfl ?_
      replace h := bd_i h
      obtain ⟨w7, e8, h⟩ := h
      refine k_gR C e8 rfl inX1_ (by decide) flX5_70 dX5_number_19 ?_
      replace h := bd_i h
      obtain ⟨w9, e10, h⟩ := h
      refine k_alen C e10 dX5_number_22 ?_
      refine r_icmp_lt C (tgt := 29) dX5_number_23 (by decide) (fun hc => ?_) (fun hc => ?_)
      · replace h := br_p hc h
        refine r_aload_n C 0 rfl dX5_number_29 rfl ?_
        replace h := bd_i h
        obtain ⟨w11, e12, h⟩ := h
        refine k_gR C e12 rfl inX1_ (by decide) flX5_70 dX5_number_30 ?_
        refine r_iload_n C 3 rfl dX5_number_33 rfl ?_
        replace h := bd_i h
        obtain ⟨w13, e14, h⟩ := h
        refine k_lJ C e14 dX5_number_34 ?_
        refine r_l2i C dX5_number_35 ?_
        cases h
        exact r_ireturn C (Eq.symm hO) dX5_number_36
      · replace h := br_n hc h
        refine r_bipush C (v := -2) dX5_number_26 (by decide) ?_
        cases h
        exact r_ireturn C (Eq.symm hO) dX5_number_28
noncomputable def f_X5_sort (hp : cH) (l0 : Nat) (l1 : Int32) : Option Int32 := (gR hp l0 5 0).bind fun w1 => if isO hp w1 3 = true then (f_X3_item hp w1 l1).bind fun r5 => Option.elim r5 (some ((-2 : Int32))) (fun a6 => (gI hp a6 1 0).bind fun w7 => some w7) else none
set_option maxHeartbeats 4000000 in
set_option maxRecDepth 100000 in
theorem k_X5_sort {G : gT} {hp : cH} {sz : Nat} {l0 : Nat} {l1 : Int32} {o0 : Int32} (h : f_X5_sort hp l0 l1 = some o0) : aM G yX5_sort cX5_sort 3 (some .int) 1 13 0 (64 * 0) [.ref l0, .int l1] hp sz ((some (.int o0), hp, sz) : oT) := by
  refine aM.of RX5 (by decide) rfl (Nat.le_of_ble_eq_true rfl) (fun K C => ?_)
  have hO : ((some (.int o0), hp, sz) : oT) = ((some (.int o0), hp, sz) : oT) := rfl
  refine r_lve (lv' := [(0, .ref l0), (1, .int l1)]) rfl ?_
  unfold f_X5_sort at h
  refine r_aload_n C 0 rfl dX5_sort_0 rfl ?_
  replace h := bd_i h
  obtain ⟨w1, e2, h⟩ := h
  refine k_gR C e2 rfl inX5_ (by decide) flX5_10 dX5_sort_1 ?_
  refine r_iload_n C 1 rfl dX5_sort_4 rfl ?_
  replace h := gd_t h
  obtain ⟨ho3, h⟩ := h
  obtain ⟨_, ho3⟩ := isO_s ho3
  replace h := bd_i h
  obtain ⟨r5, q4, h⟩ := h
  refine q_callV C 0 0 (64 * 0) (k_X3_item q4) rfl ho3 rfl okX3_item inX3_item lkX5_66 rfl (Nat.le_of_ble_eq_true rfl) ⟨by decide, by decide⟩ dX5_sort_5 (by omega) (by omega) ?_
  refine r_astore_nq C (lv' := [(2, va_rf r5), (0, .ref l0), (1, .int l1)]) dX5_sort_8 rfl (by decide) rfl ?_
  refine r_aload_nq C 0 rfl dX5_sort_9 rfl ?_
  refine k_ifnonnull C (tgt := 18) dX5_sort_10 (by decide) (fun a6 hx => ?_) (fun hx => ?_)
  · subst hx
    replace h := oe_s rfl h
    refine r_aload_n C 0 rfl dX5_sort_18 rfl ?_
    replace h := bd_i h
    obtain ⟨w7, e8, h⟩ := h
    refine k_gI C e8 rfl inX1_ (by decide) flX5_75 dX5_sort_19 ?_
    cases h
    exact r_ireturn C (Eq.symm hO) dX5_sort_22
  · subst hx
    replace h := oe_n rfl h
    refine r_bipush C (v := -2) dX5_sort_13 (by decide) ?_
    refine r_goto C (tgt := 22) dX5_sort_15 (by decide) ?_
    cases h
    exact r_ireturn C (Eq.symm hO) dX5_sort_22
noncomputable def f_X3_lower (hp : cH) (l0 : Nat) (l1 : Int32) (l2 : Int32) : Option (Option Nat) := if isO hp l0 3 = true then (f_X3_item hp l0 l1).bind fun r3 => (f_X3_item hp l0 l2).bind fun r5 => Option.elim r3 (some none) (fun a6 => Option.elim r5 (some ((some a6))) (fun a7 => (gI hp a6 1 0).bind fun w8 => (gI hp a7 1 0).bind fun w10 => if w10 < w8 then (some ((some a7))) else (some ((some a6))))) else none
set_option maxHeartbeats 4000000 in
set_option maxRecDepth 100000 in
theorem k_X3_lower {G : gT} {hp : cH} {sz : Nat} {l0 : Nat} {l1 : Int32} {l2 : Int32} {o0 : Option Nat} (h : f_X3_lower hp l0 l1 l2 = some o0) : aM G yX3_lower cX3_lower 5 (some (.object "ProjectiveRows$Item")) 1 13 0 (64 * 0) [.ref l0, .int l1, .int l2] hp sz ((some (va_rf o0), hp, sz) : oT) := by
  refine aM.of RX3 (by decide) rfl (Nat.le_of_ble_eq_true rfl) (fun K C => ?_)
  have hO : ((some (va_rf o0), hp, sz) : oT) = ((some (va_rf o0), hp, sz) : oT) := rfl
  refine r_lve (lv' := [(0, .ref l0), (1, .int l1), (2, .int l2)]) rfl ?_
  unfold f_X3_lower at h
  refine r_aload_n C 0 rfl dX3_lower_0 rfl ?_
  refine r_iload_n C 1 rfl dX3_lower_1 rfl ?_
  replace h := gd_t h
  obtain ⟨ho1, h⟩ := h
  obtain ⟨_, ho1⟩ := isO_s ho1
  replace h := bd_i h
  obtain ⟨r3, q2, h⟩ := h
  refine q_callV C 0 0 (64 * 0) (k_X3_item q2) rfl ho1 rfl okX3_item inX3_item lkX3_21 rfl (Nat.le_of_ble_eq_true rfl) ⟨by decide, by decide⟩ dX3_lower_2 (by omega) (by omega) ?_
  refine r_astore_nq C (lv' := [(3, va_rf r3), (0, .ref l0), (1, .int l1), (2, .int l2)]) dX3_lower_5 rfl (by decide) rfl ?_
  refine r_aload_n C 1 rfl dX3_lower_6 rfl ?_
  refine r_iload_n C 3 rfl dX3_lower_7 rfl ?_
  replace h := bd_i h
  obtain ⟨r5, q4, h⟩ := h
  refine q_callV C 0 0 (64 * 0) (k_X3_item q4) rfl ho1 rfl okX3_item inX3_item lkX3_21 rfl (Nat.le_of_ble_eq_true rfl) ⟨by decide, by decide⟩ dX3_lower_8 (by omega) (by omega) ?_
  refine r_astoreq C (lv' := [(4, va_rf r5), (3, va_rf r3), (0, .ref l0), (1, .int l1), (2, .int l2)]) dX3_lower_11 (by decide) (by simp [rf_cat]) ?_
  refine r_aload_nq C 1 rfl dX3_lower_13 rfl ?_
  refine k_ifnull C (tgt := 34) dX3_lower_14 (by decide) (fun hx => ?_) (fun a6 hx => ?_)
  · subst hx
    replace h := oe_n rfl h
    refine r_aload_nq C 1 rfl dX3_lower_34 rfl ?_
    refine r_goto C (tgt := 40) dX3_lower_35 (by decide) ?_
    cases h
    exact r_areturn C (Or.inl ⟨_, rfl⟩) (Eq.symm hO) dX3_lower_40
  · subst hx
    replace h := oe_s rfl h
    refine r_aloadq C 0 rfl dX3_lower_17 ?_
    refine k_ifnull C (tgt := 34) dX3_lower_19 (by decide) (fun hx => ?_) (fun a7 hx => ?_)
    · subst hx
      replace h := oe_n rfl h
      refine r_aload_n C 1 rfl dX3_lower_34 rfl ?_
      refine r_goto C (tgt := 40) dX3_lower_35 (by decide) ?_
      cases h
      exact r_areturnA C (Or.inl ⟨_, rfl⟩) (Eq.symm hO) dX3_lower_40
    · subst hx
      replace h := oe_s rfl h
      refine r_aload_n C 1 rfl dX3_lower_22 rfl ?_
      replace h := bd_i h
      obtain ⟨w8, e9, h⟩ := h
      refine k_gI C e9 rfl inX1_ (by decide) flX3_25 dX3_lower_23 ?_
      refine r_aload C 0 rfl dX3_lower_26 ?_
      replace h := bd_i h
      obtain ⟨w10, e11, h⟩ := h
      refine k_gI C e11 rfl inX1_ (by decide) flX3_25 dX3_lower_28 ?_
      refine r_icmp_gt C (tgt := 38) dX3_lower_31 (by decide) (fun hc => ?_) (fun hc => ?_)
      · replace h := br_p hc h
        refine r_aload C 0 rfl dX3_lower_38 ?_
        cases h
        exact r_areturnA C (Or.inl ⟨_, rfl⟩) (Eq.symm hO) dX3_lower_40
      · replace h := br_n hc h
        refine r_aload_n C 1 rfl dX3_lower_34 rfl ?_
        refine r_goto C (tgt := 40) dX3_lower_35 (by decide) ?_
        cases h
        exact r_areturnA C (Or.inl ⟨_, rfl⟩) (Eq.symm hO) dX3_lower_40
noncomputable def f_X3_higher (hp : cH) (l0 : Nat) (l1 : Int32) (l2 : Int32) : Option (Option Nat) := if isO hp l0 3 = true then (f_X3_item hp l0 l1).bind fun r3 => (f_X3_item hp l0 l2).bind fun r5 => Option.elim r3 (some r5) (fun a6 => Option.elim r5 (some none) (fun a7 => (gI hp a6 1 0).bind fun w8 => (gI hp a7 1 0).bind fun w10 => if w10 < w8 then (some ((some a6))) else (some ((some a7))))) else none
set_option maxHeartbeats 4000000 in
set_option maxRecDepth 100000 in
theorem k_X3_higher {G : gT} {hp : cH} {sz : Nat} {l0 : Nat} {l1 : Int32} {l2 : Int32} {o0 : Option Nat} (h : f_X3_higher hp l0 l1 l2 = some o0) : aM G yX3_higher cX3_higher 5 (some (.object "ProjectiveRows$Item")) 1 13 0 (64 * 0) [.ref l0, .int l1, .int l2] hp sz ((some (va_rf o0), hp, sz) : oT) := by
  refine aM.of RX3 (by decide) rfl (Nat.le_of_ble_eq_true rfl) (fun K C => ?_)
  have hO : ((some (va_rf o0), hp, sz) : oT) = ((some (va_rf o0), hp, sz) : oT) := rfl
  refine r_lve (lv' := [(0, .ref l0), (1, .int l1), (2, .int l2)]) rfl ?_
  unfold f_X3_higher at h
  refine r_aload_n C 0 rfl dX3_higher_0 rfl ?_
  refine r_iload_n C 1 rfl dX3_higher_1 rfl ?_
  replace h := gd_t h
  obtain ⟨ho1, h⟩ := h
  obtain ⟨_, ho1⟩ := isO_s ho1
  replace h := bd_i h
  obtain ⟨r3, q2, h⟩ := h
  refine q_callV C 0 0 (64 * 0) (k_X3_item q2) rfl ho1 rfl okX3_item inX3_item lkX3_21 rfl (Nat.le_of_ble_eq_true rfl) ⟨by decide, by decide⟩ dX3_higher_2 (by omega) (by omega) ?_
  refine r_astore_nq C (lv' := [(3, va_rf r3), (0, .ref l0), (1, .int l1), (2, .int l2)]) dX3_higher_5 rfl (by decide) rfl ?_
  refine r_aload_n C 1 rfl dX3_higher_6 rfl ?_
  refine r_iload_n C 3 rfl dX3_higher_7 rfl ?_
  replace h := bd_i h
  obtain ⟨r5, q4, h⟩ := h
  refine q_callV C 0 0 (64 * 0) (k_X3_item q4) rfl ho1 rfl okX3_item inX3_item lkX3_21 rfl (Nat.le_of_ble_eq_true rfl) ⟨by decide, by decide⟩ dX3_higher_8 (by omega) (by omega) ?_
  refine r_astoreq C (lv' := [(4, va_rf r5), (3, va_rf r3), (0, .ref l0), (1, .int l1), (2, .int l2)]) dX3_higher_11 (by decide) (by simp [rf_cat]) ?_
  refine r_aload_nq C 1 rfl dX3_higher_13 rfl ?_
  refine k_ifnull C (tgt := 34) dX3_higher_14 (by decide) (fun hx => ?_) (fun a6 hx => ?_)
  · subst hx
    replace h := oe_n rfl h
    refine r_aloadq C 0 rfl dX3_higher_34 ?_
    refine r_goto C (tgt := 40) dX3_higher_36 (by decide) ?_
    cases h
    exact r_areturn C (Or.inl ⟨_, rfl⟩) (Eq.symm hO) dX3_higher_40
  · subst hx
    replace h := oe_s rfl h
    refine r_aloadq C 0 rfl dX3_higher_17 ?_
    refine k_ifnull C (tgt := 34) dX3_higher_19 (by decide) (fun hx => ?_) (fun a7 hx => ?_)
    · subst hx
      replace h := oe_n rfl h
      refine r_aloadq C 0 rfl dX3_higher_34 ?_
      refine r_goto C (tgt := 40) dX3_higher_36 (by decide) ?_
      cases h
      exact r_areturn C (Or.inl ⟨_, rfl⟩) (Eq.symm hO) dX3_higher_40
    · subst hx
      replace h := oe_s rfl h
      refine r_aload_n C 1 rfl dX3_higher_22 rfl ?_
      replace h := bd_i h
      obtain ⟨w8, e9, h⟩ := h
      refine k_gI C e9 rfl inX1_ (by decide) flX3_25 dX3_higher_23 ?_
      refine r_aload C 0 rfl dX3_higher_26 ?_
      replace h := bd_i h
      obtain ⟨w10, e11, h⟩ := h
      refine k_gI C e11 rfl inX1_ (by decide) flX3_25 dX3_higher_28 ?_
      refine r_icmp_gt C (tgt := 39) dX3_higher_31 (by decide) (fun hc => ?_) (fun hc => ?_)
      · replace h := br_p hc h
        refine r_aload_n C 1 rfl dX3_higher_39 rfl ?_
        cases h
        exact r_areturnA C (Or.inl ⟨_, rfl⟩) (Eq.symm hO) dX3_higher_40
      · replace h := br_n hc h
        refine r_aload C 0 rfl dX3_higher_34 ?_
        refine r_goto C (tgt := 40) dX3_higher_36 (by decide) ?_
        cases h
        exact r_areturnA C (Or.inl ⟨_, rfl⟩) (Eq.symm hO) dX3_higher_40
noncomputable def f_X4_wedge_L37 (l0 : Nat) (l1 : Nat) (l2 : Nat) (l3 : Nat) (l5 : Int32) (l4 : Int32) (l6 : Int32) (hp : cH) : Option ((Int32 × Int32 × cH) ⊕ (Int32 × cH)) := (gI hp l0 4 2).bind fun w9 => if w9 ≤ l6 then (some (.inr (l4, hp))) else ((gR hp l0 4 1).bind fun w11 => (gR hp l0 4 1).bind fun w13 => (lJ hp l1 l5).bind fun w15 => (lJ hp l2 l6).bind fun w17 => if isO hp w13 0 = true then (f_X0_times hp w13 w15 w17).bind fun r21 => (gR hp l0 4 1).bind fun w22 => (lJ hp l1 l6).bind fun w24 => (lJ hp l2 l5).bind fun w26 => if isO hp w22 0 = true then (f_X0_times hp w22 w24 w26).bind fun r30 => if isO hp w11 0 = true then (f_X0_minus hp w11 r21 r30).bind fun r33 => (sJ hp l3 l4 r33).bind fun hp34 => some (.inl (l4 + 1, l6 + 1, hp34)) else none else none else none)
noncomputable def f_X4_wedge_L22 (l0 : Nat) (l1 : Nat) (l2 : Nat) (l3 : Nat) (l4 : Int32) (l5 : Int32) (hp : cH) : Option ((Int32 × Int32 × cH) ⊕ cH) := (gI hp l0 4 2).bind fun w7 => if w7 ≤ l5 then (some (.inr hp)) else ((itX (fun s => f_X4_wedge_L37 l0 l1 l2 l3 l5 s.1 s.2.1 s.2.2) (l4, l5 + ((1 : Int32)), hp)).bind fun (y36, hp37) => some (.inl (y36, l5 + 1, hp37)))
noncomputable def f_X4_wedge (hp : cH) (sz : Nat) (l0 : Nat) (l1 : Nat) (l2 : Nat) : Option (Nat × cH × Nat) := (gI hp l0 4 2).bind fun w1 => (gI hp l0 4 2).bind fun w3 => (nJ hp sz ((w1 * (w3 - ((1 : Int32)))) / ((2 : Int32)))).bind fun hp5 => (itX (fun s => f_X4_wedge_L22 l0 l1 l2 sz s.1 s.2.1 s.2.2) ((0 : Int32), (0 : Int32), hp5)).bind fun hp39 => some (sz, hp39, (sz + 1))
set_option maxHeartbeats 4000000 in
set_option maxRecDepth 100000 in
theorem w_X4_wedge_L37 {K : kT} {O : oT} (C : aC K cX4_wedge RX4 "wedge" 1 21 1 (64 * 1) 7 (some (.array .long)) O) {hp : cH} {sz rc : Nat} {l0 : Nat} {l1 : Nat} {l2 : Nat} {l3 : Nat} {l4 : Int32} {l5 : Int32} {l6 : Int32} {e4 : Int32} {eh : cH} (h : itX (fun s => f_X4_wedge_L37 l0 l1 l2 l3 l5 s.1 s.2.1 s.2.2) (l4, l6, hp) = some (e4, eh)) (hr : aW K eh sz rc (64 * rc) 96 [(0, .ref l0), (1, .ref l1), (2, .ref l2), (3, .ref l3), (4, .int e4), (5, .int l5)] []) : aW K hp sz rc (64 * rc) 37 [(0, .ref l0), (1, .ref l1), (2, .ref l2), (3, .ref l3), (4, .int l4), (5, .int l5), (6, .int l6)] [] := by
  refine it_walk (f := fun s => f_X4_wedge_L37 l0 l1 l2 l3 l5 s.1 s.2.1 s.2.2) (P := fun s => aW K s.2.2 sz rc (64 * rc) 37 [(0, .ref l0), (1, .ref l1), (2, .ref l2), (3, .ref l3), (4, .int s.1), (5, .int l5), (6, .int s.2.1)] []) (R := fun r => aW K r.2 sz rc (64 * rc) 96 [(0, .ref l0), (1, .ref l1), (2, .ref l2), (3, .ref l3), (4, .int r.1), (5, .int l5)] []) ?_ h hr
  clear h hr
  rintro ⟨l4, l6, hp⟩ x h kl kr
  show aW K hp sz rc (64 * rc) 37 [(0, .ref l0), (1, .ref l1), (2, .ref l2), (3, .ref l3), (4, .int l4), (5, .int l5), (6, .int l6)] []
  replace h : f_X4_wedge_L37 l0 l1 l2 l3 l5 l4 l6 hp = some x := h
  unfold f_X4_wedge_L37 at h
  refine r_iload C 6 rfl dX4_wedge_37 ?_
  refine r_aload_n C 0 rfl dX4_wedge_39 rfl ?_
  replace h := bd_i h
  obtain ⟨w9, e10, h⟩ := h
  refine k_gI C e10 rfl inX4_ (by decide) flX4_26 dX4_wedge_40 ?_
  refine r_icmp_ge C (tgt := 96) dX4_wedge_43 (by decide) (fun hc => ?_) (fun hc => ?_)
  · replace h := br_p hc h
    refine r_lv (lv' := [(0, .ref l0), (1, .ref l1), (2, .ref l2), (3, .ref l3), (4, .int l4), (5, .int l5)]) [0, 1, 2, 3, 4, 5] rfl ?_
    exact kr _ (sm_i h)
  · replace h := br_n hc h
    refine r_aload_n C 3 rfl dX4_wedge_46 rfl ?_
    refine r_iload C 4 rfl dX4_wedge_47 ?_
    refine r_aload_n C 0 rfl dX4_wedge_49 rfl ?_
    replace h := bd_i h
    obtain ⟨w11, e12, h⟩ := h
    refine k_gR C e12 rfl inX4_ (by decide) flX4_21 dX4_wedge_50 ?_
    refine r_aload_n C 0 rfl dX4_wedge_53 rfl ?_
    replace h := bd_i h
    obtain ⟨w13, e14, h⟩ := h
    refine k_gR C e14 rfl inX4_ (by decide) flX4_21 dX4_wedge_54 ?_
    refine r_aload_n C 1 rfl dX4_wedge_57 rfl ?_
    refine r_iload C 5 rfl dX4_wedge_58 ?_
    replace h := bd_i h
    obtain ⟨w15, e16, h⟩ := h
    refine k_lJ C e16 dX4_wedge_60 ?_
    refine r_aload_n C 2 rfl dX4_wedge_61 rfl ?_
    refine r_iload C 6 rfl dX4_wedge_62 ?_
    replace h := bd_i h
    obtain ⟨w17, e18, h⟩ := h
    refine k_lJ C e18 dX4_wedge_64 ?_
    replace h := gd_t h
    obtain ⟨ho19, h⟩ := h
    obtain ⟨_, ho19⟩ := isO_s ho19
    replace h := bd_i h
    obtain ⟨r21, q20, h⟩ := h
    refine q_callV C 3 rc (64 * rc) (k_X0_times q20) rfl ho19 rfl okX0_times inX0_times lkX4_27 rfl (Nat.le_of_ble_eq_true rfl) ⟨by decide, by decide⟩ dX4_wedge_65 (by omega) (by omega) ?_
    refine r_aload_n C 0 rfl dX4_wedge_68 rfl ?_
    replace h := bd_i h
    obtain ⟨w22, e23, h⟩ := h
    refine k_gR C e23 rfl inX4_ (by decide) flX4_21 dX4_wedge_69 ?_
    refine r_aload_n C 1 rfl dX4_wedge_72 rfl ?_
    refine r_iload C 6 rfl dX4_wedge_73 ?_
    replace h := bd_i h
    obtain ⟨w24, e25, h⟩ := h
    refine k_lJ C e25 dX4_wedge_75 ?_
    refine r_aload_n C 2 rfl dX4_wedge_76 rfl ?_
    refine r_iload C 5 rfl dX4_wedge_77 ?_
    replace h := bd_i h
    obtain ⟨w26, e27, h⟩ := h
    refine k_lJ C e27 dX4_wedge_79 ?_
    replace h := gd_t h
    obtain ⟨ho28, h⟩ := h
    obtain ⟨_, ho28⟩ := isO_s ho28
    replace h := bd_i h
    obtain ⟨r30, q29, h⟩ := h
    refine q_callV C 5 rc (64 * rc) (k_X0_times q29) rfl ho28 rfl okX0_times inX0_times lkX4_27 rfl (Nat.le_of_ble_eq_true rfl) ⟨by decide, by decide⟩ dX4_wedge_80 (by omega) (by omega) ?_
    replace h := gd_t h
    obtain ⟨ho31, h⟩ := h
    obtain ⟨_, ho31⟩ := isO_s ho31
    replace h := bd_i h
    obtain ⟨r33, q32, h⟩ := h
    refine q_callV C 2 rc (64 * rc) (k_X0_minus q32) rfl ho31 rfl okX0_minus inX0_minus lkX4_33 rfl (Nat.le_of_ble_eq_true rfl) ⟨by decide, by decide⟩ dX4_wedge_83 (by omega) (by omega) ?_
    replace h := bd_i h
    obtain ⟨hp34, e35, h⟩ := h
    refine k_sJ C e35 dX4_wedge_86 ?_
    refine r_iinc C (v := l4 + 1) (lv' := [(4, .int (l4 + 1)), (0, .ref l0), (1, .ref l1), (2, .ref l2), (3, .ref l3), (5, .int l5), (6, .int l6)]) 4 rfl dX4_wedge_87 rfl (by decide) rfl ?_
    refine r_iinc C (v := l6 + 1) (lv' := [(6, .int (l6 + 1)), (4, .int (l4 + 1)), (0, .ref l0), (1, .ref l1), (2, .ref l2), (3, .ref l3), (5, .int l5)]) 6 rfl dX4_wedge_90 rfl (by decide) rfl ?_
    refine r_goto C (tgt := 37) dX4_wedge_93 (by decide) ?_
    refine r_lv (lv' := [(0, .ref l0), (1, .ref l1), (2, .ref l2), (3, .ref l3), (4, .int (l4 + 1)), (5, .int l5), (6, .int (l6 + 1))]) [2, 3, 4, 5, 1, 6, 0] rfl ?_
    exact kl _ (sm_i h)
set_option maxHeartbeats 4000000 in
set_option maxRecDepth 100000 in
theorem w_X4_wedge_L22 {K : kT} {O : oT} (C : aC K cX4_wedge RX4 "wedge" 1 21 1 (64 * 1) 7 (some (.array .long)) O) {hp : cH} {sz rc : Nat} {l0 : Nat} {l1 : Nat} {l2 : Nat} {l3 : Nat} {l4 : Int32} {l5 : Int32} {eh : cH} (h : itX (fun s => f_X4_wedge_L22 l0 l1 l2 l3 s.1 s.2.1 s.2.2) (l4, l5, hp) = some eh) (hr : aW K eh sz rc (64 * rc) 102 [(3, .ref l3)] []) : aW K hp sz rc (64 * rc) 22 [(0, .ref l0), (1, .ref l1), (2, .ref l2), (3, .ref l3), (4, .int l4), (5, .int l5)] [] := by
  refine it_walk (f := fun s => f_X4_wedge_L22 l0 l1 l2 l3 s.1 s.2.1 s.2.2) (P := fun s => aW K s.2.2 sz rc (64 * rc) 22 [(0, .ref l0), (1, .ref l1), (2, .ref l2), (3, .ref l3), (4, .int s.1), (5, .int s.2.1)] []) (R := fun r => aW K r sz rc (64 * rc) 102 [(3, .ref l3)] []) ?_ h hr
  clear h hr
  rintro ⟨l4, l5, hp⟩ x h kl kr
  show aW K hp sz rc (64 * rc) 22 [(0, .ref l0), (1, .ref l1), (2, .ref l2), (3, .ref l3), (4, .int l4), (5, .int l5)] []
  replace h : f_X4_wedge_L22 l0 l1 l2 l3 l4 l5 hp = some x := h
  unfold f_X4_wedge_L22 at h
  refine r_iload C 5 rfl dX4_wedge_22 ?_
  refine r_aload_n C 0 rfl dX4_wedge_24 rfl ?_
  replace h := bd_i h
  obtain ⟨w7, e8, h⟩ := h
  refine k_gI C e8 rfl inX4_ (by decide) flX4_26 dX4_wedge_25 ?_
  refine r_icmp_ge C (tgt := 102) dX4_wedge_28 (by decide) (fun hc => ?_) (fun hc => ?_)
  · replace h := br_p hc h
    refine r_lv (lv' := [(3, .ref l3)]) [3] rfl ?_
    exact kr _ (sm_i h)
  · replace h := br_n hc h
    refine r_iload C 5 rfl dX4_wedge_31 ?_
    refine r_iconst C (v := 1) dX4_wedge_33 (by decide) ?_
    refine r_iadd C dX4_wedge_34 ?_
    refine r_istore C (lv' := [(6, .int (l5 + ((1 : Int32)))), (0, .ref l0), (1, .ref l1), (2, .ref l2), (3, .ref l3), (4, .int l4), (5, .int l5)]) dX4_wedge_35 (by decide) rfl ?_
    refine r_lv (lv' := [(0, .ref l0), (1, .ref l1), (2, .ref l2), (3, .ref l3), (4, .int l4), (5, .int l5), (6, .int (l5 + ((1 : Int32))))]) [1, 2, 3, 4, 5, 6, 0] rfl ?_
    replace h := bd_i h
    obtain ⟨⟨y36, hp37⟩, q38, h⟩ := h
    refine w_X4_wedge_L37 C  q38 ?_
    refine r_iinc C (v := l5 + 1) (lv' := [(5, .int (l5 + 1)), (0, .ref l0), (1, .ref l1), (2, .ref l2), (3, .ref l3), (4, .int y36)]) 5 rfl dX4_wedge_96 rfl (by decide) rfl ?_
    refine r_goto C (tgt := 22) dX4_wedge_99 (by decide) ?_
    refine r_lv (lv' := [(0, .ref l0), (1, .ref l1), (2, .ref l2), (3, .ref l3), (4, .int y36), (5, .int (l5 + 1))]) [1, 2, 3, 4, 5, 0] rfl ?_
    exact kl _ (sm_i h)
set_option maxHeartbeats 4000000 in
set_option maxRecDepth 100000 in
theorem k_X4_wedge {G : gT} {hp : cH} {sz : Nat} {l0 : Nat} {l1 : Nat} {l2 : Nat} {o0 : Nat} {oh : cH} {oz : Nat} (h : f_X4_wedge hp sz l0 l1 l2 = some (o0, oh, oz)) : aM G yX4_wedge cX4_wedge 7 (some (.array .long)) 1 21 1 (64 * 1) [.ref l0, .ref l1, .ref l2] hp sz ((some (.ref o0), oh, oz) : oT) := by
  refine aM.of RX4 (by decide) rfl (Nat.le_of_ble_eq_true rfl) (fun K C => ?_)
  have hO : ((some (.ref o0), oh, oz) : oT) = ((some (.ref o0), oh, oz) : oT) := rfl
  refine r_lve (lv' := [(0, .ref l0), (1, .ref l1), (2, .ref l2)]) rfl ?_
  unfold f_X4_wedge at h
  refine r_aload_n C 0 rfl dX4_wedge_0 rfl ?_
  replace h := bd_i h
  obtain ⟨w1, e2, h⟩ := h
  refine k_gI C e2 rfl inX4_ (by decide) flX4_26 dX4_wedge_1 ?_
  refine r_aload_n C 0 rfl dX4_wedge_4 rfl ?_
  replace h := bd_i h
  obtain ⟨w3, e4, h⟩ := h
  refine k_gI C e4 rfl inX4_ (by decide) flX4_26 dX4_wedge_5 ?_
  refine r_iconst C (v := 1) dX4_wedge_8 (by decide) ?_
  refine r_isub C dX4_wedge_9 ?_
  refine r_imul C dX4_wedge_10 ?_
  refine r_iconst C (v := 2) dX4_wedge_11 (by decide) ?_
  refine r_idiv C dX4_wedge_12 (by decide) ?_
  replace h := bd_i h
  obtain ⟨hp5, e6, h⟩ := h
  refine k_nJ C 0 e6 dX4_wedge_13 (by omega) ?_
  refine r_astore_n C (lv' := [(3, .ref sz), (0, .ref l0), (1, .ref l1), (2, .ref l2)]) dX4_wedge_15 rfl (by decide) rfl ?_
  refine r_iconst C (v := 0) dX4_wedge_16 (by decide) ?_
  refine r_istore C (lv' := [(4, .int ((0 : Int32))), (3, .ref sz), (0, .ref l0), (1, .ref l1), (2, .ref l2)]) dX4_wedge_17 (by decide) rfl ?_
  refine r_iconst C (v := 0) dX4_wedge_19 (by decide) ?_
  refine r_istore C (lv' := [(5, .int ((0 : Int32))), (4, .int ((0 : Int32))), (3, .ref sz), (0, .ref l0), (1, .ref l1), (2, .ref l2)]) dX4_wedge_20 (by decide) rfl ?_
  refine r_lv (lv' := [(0, .ref l0), (1, .ref l1), (2, .ref l2), (3, .ref sz), (4, .int ((0 : Int32))), (5, .int ((0 : Int32)))]) [3, 4, 5, 2, 1, 0] rfl ?_
  replace h := bd_i h
  obtain ⟨hp39, q40, h⟩ := h
  refine w_X4_wedge_L22 C  q40 ?_
  refine r_aload_n C 0 rfl dX4_wedge_102 rfl ?_
  cases h
  exact r_areturnA C (Or.inr ⟨_, rfl⟩) (Eq.symm hO) dX4_wedge_103
noncomputable def f_X4_isPlane (hp : cH) (l0 : Nat) : Option Int32 := (gI hp l0 4 2).bind fun w1 => if w1 = ((3 : Int32)) then (some ((1 : Int32))) else (some ((0 : Int32)))
set_option maxHeartbeats 4000000 in
set_option maxRecDepth 100000 in
theorem k_X4_isPlane {G : gT} {hp : cH} {sz : Nat} {l0 : Nat} {o0 : Int32} (h : f_X4_isPlane hp l0 = some o0) : aM G yX4_isPlane cX4_isPlane 1 (some .boolean) 0 0 0 (64 * 0) [.ref l0] hp sz ((some (.int o0), hp, sz) : oT) := by
  refine aM.of RX4 (by decide) rfl (Nat.le_of_ble_eq_true rfl) (fun K C => ?_)
  have hO : ((some (.int o0), hp, sz) : oT) = ((some (.int o0), hp, sz) : oT) := rfl
  refine r_lve (lv' := [(0, .ref l0)]) rfl ?_
  unfold f_X4_isPlane at h
  refine r_aload_n C 0 rfl dX4_isPlane_0 rfl ?_
  replace h := bd_i h
  obtain ⟨w1, e2, h⟩ := h
  refine k_gI C e2 rfl inX4_ (by decide) flX4_26 dX4_isPlane_1 ?_
  refine r_iconst C (v := 3) dX4_isPlane_4 (by decide) ?_
  refine r_icmp_ne C (tgt := 12) dX4_isPlane_5 (by decide) (fun hc => ?_) (fun hc => ?_)
  · replace h := br_n hc h
    refine r_iconst C (v := 0) dX4_isPlane_12 (by decide) ?_
    cases h
    exact r_zreturn C rfl (Eq.symm hO) dX4_isPlane_13
  · replace h := br_p hc h
    refine r_iconst C (v := 1) dX4_isPlane_8 (by decide) ?_
    refine r_goto C (tgt := 13) dX4_isPlane_9 (by decide) ?_
    cases h
    exact r_zreturn C rfl (Eq.symm hO) dX4_isPlane_13
noncomputable def f_X4_lineThrough (hp : cH) (sz : Nat) (l0 : Nat) (l1 : Nat) (l2 : Nat) : Option (Nat × cH × Nat) := if isO hp l0 4 = true then (f_X4_wedge hp sz l0 l1 l2).bind fun (r3, hp4, z5) => if isO hp4 l0 4 = true then (f_X4_isPlane hp4 l0).bind fun r8 => if r8 = 0 then (some (r3, hp4, z5)) else ((f_X4_flipped hp4 z5 l0 r3).bind fun (r10, hp11, z12) => some (r10, hp11, z12)) else none else none
set_option maxHeartbeats 4000000 in
set_option maxRecDepth 100000 in
theorem k_X4_lineThrough {G : gT} {hp : cH} {sz : Nat} {l0 : Nat} {l1 : Nat} {l2 : Nat} {o0 : Nat} {oh : cH} {oz : Nat} (h : f_X4_lineThrough hp sz l0 l1 l2 = some (o0, oh, oz)) : aM G yX4_lineThrough cX4_lineThrough 4 (some (.array .long)) 2 39 2 (64 * 2) [.ref l0, .ref l1, .ref l2] hp sz ((some (.ref o0), oh, oz) : oT) := by
  refine aM.of RX4 (by decide) rfl (Nat.le_of_ble_eq_true rfl) (fun K C => ?_)
  have hO : ((some (.ref o0), oh, oz) : oT) = ((some (.ref o0), oh, oz) : oT) := rfl
  refine r_lve (lv' := [(0, .ref l0), (1, .ref l1), (2, .ref l2)]) rfl ?_
  unfold f_X4_lineThrough at h
  refine r_aload_n C 0 rfl dX4_lineThrough_0 rfl ?_
  refine r_aload_n C 1 rfl dX4_lineThrough_1 rfl ?_
  refine r_aload_n C 2 rfl dX4_lineThrough_2 rfl ?_
  replace h := gd_t h
  obtain ⟨ho1, h⟩ := h
  obtain ⟨_, ho1⟩ := isO_s ho1
  replace h := bd_i h
  obtain ⟨⟨r3, hp4, z5⟩, q2, h⟩ := h
  refine q_callV C 0 1 (64 * 1) (k_X4_wedge q2) rfl ho1 rfl okX4_wedge inX4_wedge lkX4_40 rfl (Nat.le_of_ble_eq_true rfl) ⟨by decide, by decide⟩ dX4_lineThrough_3 (by omega) (by omega) ?_
  refine r_astore_n C (lv' := [(3, .ref r3), (0, .ref l0), (1, .ref l1), (2, .ref l2)]) dX4_lineThrough_6 rfl (by decide) rfl ?_
  refine r_aload_n C 1 rfl dX4_lineThrough_7 rfl ?_
  replace h := gd_t h
  obtain ⟨ho6, h⟩ := h
  obtain ⟨_, ho6⟩ := isO_s ho6
  replace h := bd_i h
  obtain ⟨r8, q7, h⟩ := h
  refine q_callV C 0 1 (64 * 1) (k_X4_isPlane q7) rfl ho6 rfl okX4_isPlane inX4_isPlane lkX4_44 rfl (Nat.le_of_ble_eq_true rfl) ⟨by decide, by decide⟩ dX4_lineThrough_8 (by omega) (by omega) ?_
  refine r_if_eq C (tgt := 22) dX4_lineThrough_11 (by decide) (fun hc => ?_) (fun hc => ?_)
  · replace h := br_p hc h
    refine r_aload_n C 0 rfl dX4_lineThrough_22 rfl ?_
    cases h
    exact r_areturnA C (Or.inr ⟨_, rfl⟩) (Eq.symm hO) dX4_lineThrough_23
  · replace h := br_n hc h
    refine r_aload_n C 1 rfl dX4_lineThrough_14 rfl ?_
    refine r_aload_n C 0 rfl dX4_lineThrough_15 rfl ?_
    replace h := bd_i h
    obtain ⟨⟨r10, hp11, z12⟩, q9, h⟩ := h
    refine q_callV C 0 0 (64 * 0) (k_X4_flipped q9) rfl ho6 rfl okX4_flipped inX4_flipped lkX4_48 rfl (Nat.le_of_ble_eq_true rfl) ⟨by decide, by decide⟩ dX4_lineThrough_16 (by omega) (by omega) ?_
    refine r_goto C (tgt := 23) dX4_lineThrough_19 (by decide) ?_
    cases h
    exact r_areturnA C (Or.inr ⟨_, rfl⟩) (Eq.symm hO) dX4_lineThrough_23
