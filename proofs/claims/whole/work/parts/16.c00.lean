noncomputable def f_X3_init (hp : cH) (sz : Nat) (l0 : Nat) : Option (cH × Nat) := (nR 2 hp sz ((60 : Int32))).bind fun hp1 => (pV hp1 l0 3 0 (.ref sz)).bind fun hp3 => some (hp3, (sz + 1))
set_option maxHeartbeats 4000000 in
set_option maxRecDepth 100000 in
theorem k_X3_init {G : gT} {hp : cH} {sz : Nat} {l0 : Nat} {oh : cH} {oz : Nat} (h : f_X3_init hp sz l0 = some (oh, oz)) : aM G yX3_init cX3_init 1 none 1 12 1 (64 * 1) [.ref l0] hp sz ((none, oh, oz) : oT) := by
  refine aM.of RX3 (by decide) rfl (Nat.le_of_ble_eq_true rfl) (fun K C => ?_)
  have hO : ((none, oh, oz) : oT) = ((none, oh, oz) : oT) := rfl
  refine r_lve (lv' := [(0, .ref l0)]) rfl ?_
  unfold f_X3_init at h
  refine r_aload_n C 0 rfl dX3_init_0 rfl ?_
  refine r_objInit C lkX3_3 oi1 oi2 ⟨by decide, by decide⟩ dX3_init_1 ?_
  refine r_aload_n C 0 rfl dX3_init_4 rfl ?_
  refine r_bipush C (v := 60) dX3_init_5 (by decide) ?_
  replace h := bd_i h
  obtain ⟨hp1, e2, h⟩ := h
  refine k_nR2 C 0 cnX3_9 e2 dX3_init_7 (by omega) ?_
  replace h := bd_i h
  obtain ⟨hp3, e4, h⟩ := h
  refine k_pF C tyX3 tyX3_ok nmX3 e4 rfl inX3_ (by decide) flX3_11 rfl rfl rfl rfl rfl dX3_init_10 ?_
  cases h
  exact r_return C (Eq.symm hO) dX3_init_13
noncomputable def f_J9_max_7cf53 (l0 : Int32) (l1 : Int32) : Option Int32 := if l0 < l1 then (some l1) else (some l0)
set_option maxHeartbeats 4000000 in
set_option maxRecDepth 100000 in
theorem k_J9_max_7cf53 {G : gT} {hp : cH} {sz : Nat} {l0 : Int32} {l1 : Int32} {o0 : Int32} (h : f_J9_max_7cf53 l0 l1 = some o0) : aM G yJ9_max_7cf53 cJ9_max_7cf53 2 (some .int) 0 0 0 (64 * 0) [.int l0, .int l1] hp sz ((some (.int o0), hp, sz) : oT) := by
  refine aM.ofF RJ9 (by decide +kernel) rfl (Nat.le_of_ble_eq_true rfl) (fun K C => ?_)
  have hO : ((some (.int o0), hp, sz) : oT) = ((some (.int o0), hp, sz) : oT) := rfl
  refine r_lve (lv' := [(0, .int l0), (1, .int l1)]) rfl ?_
  unfold f_J9_max_7cf53 at h
  refine r_iload_n C 0 rfl dJ9_max_7cf53_0 rfl ?_
  refine r_iload_n C 1 rfl dJ9_max_7cf53_1 rfl ?_
  refine r_icmp_lt C (tgt := 9) dJ9_max_7cf53_2 (by decide) (fun hc => ?_) (fun hc => ?_)
  · replace h := br_p hc h
    refine r_iload_n C 1 rfl dJ9_max_7cf53_9 rfl ?_
    cases h
    exact r_ireturn C (Eq.symm hO) dJ9_max_7cf53_10
  · replace h := br_n hc h
    refine r_iload_n C 0 rfl dJ9_max_7cf53_5 rfl ?_
    refine r_goto C (tgt := 10) dJ9_max_7cf53_6 (by decide) ?_
    cases h
    exact r_ireturn C (Eq.symm hO) dJ9_max_7cf53_10
noncomputable def f_X0_init (hp : cH) (l0 : Nat) (l1 : Int32) : Option cH := (f_J9_max_7cf53 ((3 : Int32)) l1).bind fun r2 => (pV hp l0 0 0 (.long r2.toInt64)).bind fun hp3 => some hp3
set_option maxHeartbeats 4000000 in
set_option maxRecDepth 100000 in
theorem k_X0_init {G : gT} {hp : cH} {sz : Nat} {l0 : Nat} {l1 : Int32} {oh : cH} (h : f_X0_init hp l0 l1 = some oh) : aM G yX0_init cX0_init 2 none 1 14 0 (64 * 0) [.ref l0, .int l1] hp sz ((none, oh, sz) : oT) := by
  refine aM.of RX0 (by decide) rfl (Nat.le_of_ble_eq_true rfl) (fun K C => ?_)
  have hO : ((none, oh, sz) : oT) = ((none, oh, sz) : oT) := rfl
  refine r_lve (lv' := [(0, .ref l0), (1, .int l1)]) rfl ?_
  unfold f_X0_init at h
  refine r_aload_n C 0 rfl dX0_init_0 rfl ?_
  refine r_objInit C lkX0_3 oi1 oi2 ⟨by decide, by decide⟩ dX0_init_1 ?_
  refine r_aload_n C 0 rfl dX0_init_4 rfl ?_
  refine r_iconst C (v := 3) dX0_init_5 (by decide) ?_
  refine r_iload_n C 1 rfl dX0_init_6 rfl ?_
  replace h := bd_i h
  obtain ⟨r2, q1, h⟩ := h
  refine q_callS C 1 0 (64 * 0) (k_J9_max_7cf53 q1) rfl okJ9_max_7cf53 inJ9_max_7cf53 lkX0_9 rfl (Nat.le_of_ble_eq_true rfl) ⟨by decide, by decide⟩ dX0_init_7 (by omega) (by omega) ?_
  refine r_i2l C dX0_init_10 ?_
  replace h := bd_i h
  obtain ⟨hp3, e4, h⟩ := h
  refine k_pF C tyX0 tyX0_ok nmX0 e4 rfl inX0_ (by decide) flX0_15 rfl rfl rfl rfl rfl dX0_init_11 ?_
  cases h
  exact r_return C (Eq.symm hO) dX0_init_14
noncomputable def f_X2_init (hp : cH) (l0 : Nat) (l1 : Nat) (l2 : Int32) : Option cH := (pV hp l0 2 0 (.ref l1)).bind fun hp1 => (pV hp1 l0 2 1 (.int l2)).bind fun hp3 => some hp3
set_option maxHeartbeats 4000000 in
set_option maxRecDepth 100000 in
theorem k_X2_init {G : gT} {hp : cH} {sz : Nat} {l0 : Nat} {l1 : Nat} {l2 : Int32} {oh : cH} (h : f_X2_init hp l0 l1 l2 = some oh) : aM G yX2_init cX2_init 3 none 1 12 0 (64 * 0) [.ref l0, .ref l1, .int l2] hp sz ((none, oh, sz) : oT) := by
  refine aM.of RX2 (by decide) rfl (Nat.le_of_ble_eq_true rfl) (fun K C => ?_)
  have hO : ((none, oh, sz) : oT) = ((none, oh, sz) : oT) := rfl
  refine r_lve (lv' := [(0, .ref l0), (1, .ref l1), (2, .int l2)]) rfl ?_
  unfold f_X2_init at h
  refine r_aload_n C 0 rfl dX2_init_0 rfl ?_
  refine r_objInit C lkX2_1 oi1 oi2 ⟨by decide, by decide⟩ dX2_init_1 ?_
  refine r_aload_n C 0 rfl dX2_init_4 rfl ?_
  refine r_aload_n C 1 rfl dX2_init_5 rfl ?_
  replace h := bd_i h
  obtain ⟨hp1, e2, h⟩ := h
  refine k_pF C tyX2 tyX2_ok nmX2 e2 rfl inX2_ (by decide) flX2_7 rfl rfl rfl rfl rfl dX2_init_6 ?_
  refine r_aload_n C 0 rfl dX2_init_9 rfl ?_
  refine r_iload_n C 2 rfl dX2_init_10 rfl ?_
  replace h := bd_i h
  obtain ⟨hp3, e4, h⟩ := h
  refine k_pF C tyX2 tyX2_ok nmX2 e4 rfl inX2_ (by decide) flX2_13 rfl rfl rfl rfl rfl dX2_init_11 ?_
  cases h
  exact r_return C (Eq.symm hO) dX2_init_14
noncomputable def f_X4_init (hp : cH) (l0 : Nat) (l1 : Nat) : Option cH := (pV hp l0 4 0 (.ref l1)).bind fun hp1 => (gR hp1 l1 2 0).bind fun w3 => (pV hp1 l0 4 1 (.ref w3)).bind fun hp5 => (gI hp5 l1 2 1).bind fun w7 => (pV hp5 l0 4 2 (.int w7)).bind fun hp9 => some hp9
set_option maxHeartbeats 4000000 in
set_option maxRecDepth 100000 in
theorem k_X4_init {G : gT} {hp : cH} {sz : Nat} {l0 : Nat} {l1 : Nat} {oh : cH} (h : f_X4_init hp l0 l1 = some oh) : aM G yX4_init cX4_init 2 none 1 12 0 (64 * 0) [.ref l0, .ref l1] hp sz ((none, oh, sz) : oT) := by
  refine aM.of RX4 (by decide) rfl (Nat.le_of_ble_eq_true rfl) (fun K C => ?_)
  have hO : ((none, oh, sz) : oT) = ((none, oh, sz) : oT) := rfl
  refine r_lve (lv' := [(0, .ref l0), (1, .ref l1)]) rfl ?_
  unfold f_X4_init at h
  refine r_aload_n C 0 rfl dX4_init_0 rfl ?_
  refine r_objInit C lkX4_3 oi1 oi2 ⟨by decide, by decide⟩ dX4_init_1 ?_
  refine r_aload_n C 0 rfl dX4_init_4 rfl ?_
  refine r_aload_n C 1 rfl dX4_init_5 rfl ?_
  replace h := bd_i h
  obtain ⟨hp1, e2, h⟩ := h
  refine k_pF C tyX4 tyX4_ok nmX4 e2 rfl inX4_ (by decide) flX4_9 rfl rfl rfl rfl rfl dX4_init_6 ?_
  refine r_aload_n C 0 rfl dX4_init_9 rfl ?_
  refine r_aload_n C 1 rfl dX4_init_10 rfl ?_
  replace h := bd_i h
  obtain ⟨w3, e4, h⟩ := h
  refine k_gR C e4 rfl inX2_ (by decide) flX4_15 dX4_init_11 ?_
  replace h := bd_i h
  obtain ⟨hp5, e6, h⟩ := h
  refine k_pF C tyX4 tyX4_ok nmX4 e6 rfl inX4_ (by decide) flX4_21 rfl rfl rfl rfl rfl dX4_init_14 ?_
  refine r_aload_n C 0 rfl dX4_init_17 rfl ?_
  refine r_aload_n C 1 rfl dX4_init_18 rfl ?_
  replace h := bd_i h
  obtain ⟨w7, e8, h⟩ := h
  refine k_gI C e8 rfl inX2_ (by decide) flX4_22 dX4_init_19 ?_
  replace h := bd_i h
  obtain ⟨hp9, e10, h⟩ := h
  refine k_pF C tyX4 tyX4_ok nmX4 e10 rfl inX4_ (by decide) flX4_26 rfl rfl rfl rfl rfl dX4_init_22 ?_
  cases h
  exact r_return C (Eq.symm hO) dX4_init_25
noncomputable def f_X3_empty (hp : cH) (l0 : Nat) : Option cH := (pV hp l0 3 1 (.int ((0 : Int32)))).bind fun hp1 => some hp1
set_option maxHeartbeats 4000000 in
set_option maxRecDepth 100000 in
theorem k_X3_empty {G : gT} {hp : cH} {sz : Nat} {l0 : Nat} {oh : cH} (h : f_X3_empty hp l0 = some oh) : aM G yX3_empty cX3_empty 1 none 0 0 0 (64 * 0) [.ref l0] hp sz ((none, oh, sz) : oT) := by
  refine aM.of RX3 (by decide) rfl (Nat.le_of_ble_eq_true rfl) (fun K C => ?_)
  have hO : ((none, oh, sz) : oT) = ((none, oh, sz) : oT) := rfl
  refine r_lve (lv' := [(0, .ref l0)]) rfl ?_
  unfold f_X3_empty at h
  refine r_aload_n C 0 rfl dX3_empty_0 rfl ?_
  refine r_iconst C (v := 0) dX3_empty_1 (by decide) ?_
  replace h := bd_i h
  obtain ⟨hp1, e2, h⟩ := h
  refine k_pV C tyX3 tyX3_ok nmX3 e2 rfl inX3_ (by decide) flX3_17 rfl rfl rfl rfl dX3_empty_2 ?_
  cases h
  exact r_return C (Eq.symm hO) dX3_empty_5
noncomputable def f_J7_fill_d0a16_L6 (l0 : Nat) (l1 : Int64) (l4 : Int32) (l3 : Int32) (hp : cH) : Option ((Int32 × cH) ⊕ cH) := if l4 ≤ l3 then (some (.inr hp)) else ((sJ hp l0 l3 l1).bind fun hp3 => some (.inl (l3 + 1, hp3)))
noncomputable def f_J7_fill_d0a16 (hp : cH) (l0 : Nat) (l1 : Int64) : Option cH := (aN hp l0).bind fun w1 => (itX (fun s => f_J7_fill_d0a16_L6 l0 l1 w1 s.1 s.2) ((0 : Int32), hp)).bind fun hp5 => some hp5
set_option maxHeartbeats 4000000 in
set_option maxRecDepth 100000 in
theorem w_J7_fill_d0a16_L6 {K : kT} {O : oT} (C : aC K cJ7_fill_d0a16 RJ7 "fill" 0 0 0 (64 * 0) 5 none O) {hp : cH} {sz : Nat} {l0 : Nat} {l1 : Int64} {l3 : Int32} {l4 : Int32} {eh : cH} (h : itX (fun s => f_J7_fill_d0a16_L6 l0 l1 l4 s.1 s.2) (l3, hp) = some eh) (hr : aW K eh sz 0 (64 * 0) 22 [] []) : aW K hp sz 0 (64 * 0) 6 [(0, .ref l0), (1, .long l1), (3, .int l3), (4, .int l4)] [] := by
  refine it_walk (f := fun s => f_J7_fill_d0a16_L6 l0 l1 l4 s.1 s.2) (P := fun s => aW K s.2 sz 0 (64 * 0) 6 [(0, .ref l0), (1, .long l1), (3, .int s.1), (4, .int l4)] []) (R := fun r => aW K r sz 0 (64 * 0) 22 [] []) ?_ h hr
  clear h hr
  rintro ⟨l3, hp⟩ x h kl kr
  show aW K hp sz 0 (64 * 0) 6 [(0, .ref l0), (1, .long l1), (3, .int l3), (4, .int l4)] []
  replace h : f_J7_fill_d0a16_L6 l0 l1 l4 l3 hp = some x := h
  unfold f_J7_fill_d0a16_L6 at h
  refine r_iload_n C 2 rfl dJ7_fill_d0a16_6 rfl ?_
  refine r_iload C 3 rfl dJ7_fill_d0a16_7 ?_
  refine r_icmp_ge C (tgt := 22) dJ7_fill_d0a16_9 (by decide) (fun hc => ?_) (fun hc => ?_)
  · replace h := br_p hc h
    refine r_lv (lv' := []) [] rfl ?_
    exact kr _ (sm_i h)
  · replace h := br_n hc h
    refine r_aload_n C 0 rfl dJ7_fill_d0a16_12 rfl ?_
    refine r_iload_n C 2 rfl dJ7_fill_d0a16_13 rfl ?_
    refine r_lload_n C 1 rfl dJ7_fill_d0a16_14 rfl ?_
    replace h := bd_i h
    obtain ⟨hp3, e4, h⟩ := h
    refine k_sJ C e4 dJ7_fill_d0a16_15 ?_
    refine r_iinc C (v := l3 + 1) (lv' := [(3, .int (l3 + 1)), (0, .ref l0), (1, .long l1), (4, .int l4)]) 2 rfl dJ7_fill_d0a16_16 rfl (by decide) rfl ?_
    refine r_goto C (tgt := 6) dJ7_fill_d0a16_19 (by decide) ?_
    refine r_lv (lv' := [(0, .ref l0), (1, .long l1), (3, .int (l3 + 1)), (4, .int l4)]) [1, 2, 0, 3] rfl ?_
    exact kl _ (sm_i h)
set_option maxHeartbeats 4000000 in
set_option maxRecDepth 100000 in
theorem k_J7_fill_d0a16 {G : gT} {hp : cH} {sz : Nat} {l0 : Nat} {l1 : Int64} {oh : cH} (h : f_J7_fill_d0a16 hp l0 l1 = some oh) : aM G yJ7_fill_d0a16 cJ7_fill_d0a16 5 none 0 0 0 (64 * 0) [.ref l0, .long l1] hp sz ((none, oh, sz) : oT) := by
  refine aM.of RJ7 (by decide) rfl (Nat.le_of_ble_eq_true rfl) (fun K C => ?_)
  have hO : ((none, oh, sz) : oT) = ((none, oh, sz) : oT) := rfl
  refine r_lve (lv' := [(0, .ref l0), (1, .long l1)]) rfl ?_
  unfold f_J7_fill_d0a16 at h
  refine r_iconst C (v := 0) dJ7_fill_d0a16_0 (by decide) ?_
  refine r_istore_n C (lv' := [(3, .int ((0 : Int32))), (0, .ref l0), (1, .long l1)]) dJ7_fill_d0a16_1 rfl (by decide) rfl ?_
  refine r_aload_n C 1 rfl dJ7_fill_d0a16_2 rfl ?_
  replace h := bd_i h
  obtain ⟨w1, e2, h⟩ := h
  refine k_alen C e2 dJ7_fill_d0a16_3 ?_
  refine r_istore C (lv' := [(4, .int w1), (3, .int ((0 : Int32))), (0, .ref l0), (1, .long l1)]) dJ7_fill_d0a16_4 (by decide) rfl ?_
  refine r_lv (lv' := [(0, .ref l0), (1, .long l1), (3, .int ((0 : Int32))), (4, .int w1)]) [2, 3, 1, 0] rfl ?_
  replace h := bd_i h
  obtain ⟨hp5, q6, h⟩ := h
  refine w_J7_fill_d0a16_L6 C  q6 ?_
  cases h
  exact r_return C (Eq.symm hO) dJ7_fill_d0a16_22
noncomputable def f_X5_startAnew (hp : cH) (sz : Nat) (l0 : Nat) (l1 : Int32) (l2 : Int32) : Option (cH × Nat) := (pV hp l0 5 5 (.int l1)).bind fun hp1 => (pV hp1 l0 5 6 (.int (l1 - ((1 : Int32))))).bind fun hp3 => (some (va_up hp3 sz (some (.inr (0, [.long 0]))))).bind fun hp5 => (f_X0_init hp5 sz l2).bind fun hp8 => (pV hp8 l0 5 7 (.ref sz)).bind fun hp9 => (some (va_up hp9 ((sz + 1)) (some (.inr (2, [.null, .int 0]))))).bind fun hp11 => (gR hp11 l0 5 7).bind fun w13 => (f_X2_init hp11 ((sz + 1)) w13 (l1 + ((1 : Int32)))).bind fun hp16 => (pV hp16 l0 5 8 (.ref ((sz + 1)))).bind fun hp17 => (some (va_up hp17 (((sz + 1) + 1)) (some (.inr (4, [.null, .null, .int 0]))))).bind fun hp19 => (gR hp19 l0 5 8).bind fun w21 => (f_X4_init hp19 (((sz + 1) + 1)) w21).bind fun hp24 => (pV hp24 l0 5 9 (.ref (((sz + 1) + 1)))).bind fun hp25 => (gR hp25 l0 5 0).bind fun w27 => if isO hp25 w27 3 = true then (f_X3_empty hp25 w27).bind fun hp31 => (gR hp31 l0 5 1).bind fun w32 => (f_J7_fill_d0a16 hp31 w32 ((0 : Int64))).bind fun hp35 => (pV hp35 l0 5 10 (.int ((0 : Int32)))).bind fun hp36 => (pV hp36 l0 5 11 (.int ((0 : Int32)))).bind fun hp38 => (pV hp38 l0 5 12 (.int ((-1 : Int32)))).bind fun hp40 => some (hp40, (((sz + 1) + 1) + 1)) else none
set_option maxHeartbeats 4000000 in
set_option maxRecDepth 100000 in
theorem k_X5_startAnew {G : gT} {hp : cH} {sz : Nat} {l0 : Nat} {l1 : Int32} {l2 : Int32} {oh : cH} {oz : Nat} (h : f_X5_startAnew hp sz l0 l1 l2 = some (oh, oz)) : aM G yX5_startAnew cX5_startAnew 3 none 2 29 3 (64 * 3) [.ref l0, .int l1, .int l2] hp sz ((none, oh, oz) : oT) := by
  refine aM.of RX5 (by decide) rfl (Nat.le_of_ble_eq_true rfl) (fun K C => ?_)
  have hO : ((none, oh, oz) : oT) = ((none, oh, oz) : oT) := rfl
  refine r_lve (lv' := [(0, .ref l0), (1, .int l1), (2, .int l2)]) rfl ?_
  unfold f_X5_startAnew at h
  refine r_aload_n C 0 rfl dX5_startAnew_0 rfl ?_
  refine r_iload_n C 1 rfl dX5_startAnew_1 rfl ?_
  replace h := bd_i h
  obtain ⟨hp1, e2, h⟩ := h
  refine k_pV C tyX5 tyX5_ok nmX5 e2 rfl inX5_ (by decide) flX5_96 rfl rfl rfl rfl dX5_startAnew_2 ?_
  refine r_aload_n C 0 rfl dX5_startAnew_5 rfl ?_
  refine r_iload_n C 1 rfl dX5_startAnew_6 rfl ?_
  refine r_iconst C (v := 1) dX5_startAnew_7 (by decide) ?_
  refine r_isub C dX5_startAnew_8 ?_
  replace h := bd_i h
  obtain ⟨hp3, e4, h⟩ := h
  refine k_pV C tyX5 tyX5_ok nmX5 e4 rfl inX5_ (by decide) flX5_109 rfl rfl rfl rfl dX5_startAnew_9 ?_
  refine r_aload_n C 0 rfl dX5_startAnew_12 rfl ?_
  replace h := nm h
  obtain ⟨hp5, e6, h⟩ := h
  refine k_new C 2 tyX0 tyX0_ok rfl inX0_ cnX5_35 icX0 iiX0 dfX0 (by decide) e6 dX5_startAnew_13 (by omega) ?_
  refine r_dup C dX5_startAnew_16 rfl ?_
  refine r_iload_n C 2 rfl dX5_startAnew_17 rfl ?_
  replace h := bd_i h
  obtain ⟨hp8, q7, h⟩ := h
  refine q_callI C 2 2 (64 * 2) (k_X0_init q7) rfl okX0_init rfl inX0_init lkX5_271 rfl (Nat.le_of_ble_eq_true rfl) ⟨by decide, by decide⟩ dX5_startAnew_18 (by omega) (by omega) ?_
  replace h := bd_i h
  obtain ⟨hp9, e10, h⟩ := h
  refine k_pV C tyX5 tyX5_ok nmX5 e10 rfl inX5_ (by decide) flX5_40 rfl rfl rfl rfl dX5_startAnew_21 ?_
  refine r_aload_n C 0 rfl dX5_startAnew_24 rfl ?_
  replace h := nm h
  obtain ⟨hp11, e12, h⟩ := h
  refine k_new C 1 tyX2 tyX2_ok rfl inX2_ cnX5_147 icX2 iiX2 dfX2 (by decide) e12 dX5_startAnew_25 (by omega) ?_
  refine r_dup C dX5_startAnew_28 rfl ?_
  refine r_aload_n C 0 rfl dX5_startAnew_29 rfl ?_
  replace h := bd_i h
  obtain ⟨w13, e14, h⟩ := h
  refine k_gR C e14 rfl inX5_ (by decide) flX5_40 dX5_startAnew_30 ?_
  refine r_iload_n C 1 rfl dX5_startAnew_33 rfl ?_
  refine r_iconst C (v := 1) dX5_startAnew_34 (by decide) ?_
  refine r_iadd C dX5_startAnew_35 ?_
  replace h := bd_i h
  obtain ⟨hp16, q15, h⟩ := h
  refine q_callI C 2 1 (64 * 1) (k_X2_init q15) rfl okX2_init rfl inX2_init lkX5_274 rfl (Nat.le_of_ble_eq_true rfl) ⟨by decide, by decide⟩ dX5_startAnew_36 (by omega) (by omega) ?_
  replace h := bd_i h
  obtain ⟨hp17, e18, h⟩ := h
  refine k_pV C tyX5 tyX5_ok nmX5 e18 rfl inX5_ (by decide) flX5_142 rfl rfl rfl rfl dX5_startAnew_39 ?_
  refine r_aload_n C 0 rfl dX5_startAnew_42 rfl ?_
  replace h := nm h
  obtain ⟨hp19, e20, h⟩ := h
  refine k_new C 0 tyX4 tyX4_ok rfl inX4_ cnX5_91 icX4 iiX4 dfX4 (by decide) e20 dX5_startAnew_43 (by omega) ?_
  refine r_dup C dX5_startAnew_46 rfl ?_
  refine r_aload_n C 0 rfl dX5_startAnew_47 rfl ?_
  replace h := bd_i h
  obtain ⟨w21, e22, h⟩ := h
  refine k_gR C e22 rfl inX5_ (by decide) flX5_142 dX5_startAnew_48 ?_
  replace h := bd_i h
  obtain ⟨hp24, q23, h⟩ := h
  refine q_callI C 2 0 (64 * 0) (k_X4_init q23) rfl okX4_init rfl inX4_init lkX5_277 rfl (Nat.le_of_ble_eq_true rfl) ⟨by decide, by decide⟩ dX5_startAnew_51 (by omega) (by omega) ?_
  replace h := bd_i h
  obtain ⟨hp25, e26, h⟩ := h
  refine k_pV C tyX5 tyX5_ok nmX5 e26 rfl inX5_ (by decide) flX5_86 rfl rfl rfl rfl dX5_startAnew_54 ?_
  refine r_aload_n C 0 rfl dX5_startAnew_57 rfl ?_
  replace h := bd_i h
  obtain ⟨w27, e28, h⟩ := h
  refine k_gR C e28 rfl inX5_ (by decide) flX5_10 dX5_startAnew_58 ?_
  replace h := gd_t h
  obtain ⟨ho29, h⟩ := h
  obtain ⟨_, ho29⟩ := isO_s ho29
  replace h := bd_i h
  obtain ⟨hp31, q30, h⟩ := h
  refine q_callVv C 0 0 (64 * 0) (k_X3_empty q30) rfl ho29 rfl okX3_empty inX3_empty lkX5_280 rfl (Nat.le_of_ble_eq_true rfl) ⟨by decide, by decide⟩ dX5_startAnew_61 (by omega) (by omega) ?_
  refine r_aload_n C 0 rfl dX5_startAnew_64 rfl ?_
  replace h := bd_i h
  obtain ⟨w32, e33, h⟩ := h
  refine k_gR C e33 rfl inX5_ (by decide) flX5_16 dX5_startAnew_65 ?_
  refine r_lconst C (v := 0) dX5_startAnew_68 (by decide) ?_
  replace h := bd_i h
  obtain ⟨hp35, q34, h⟩ := h
  refine q_callSv C 0 0 (64 * 0) (k_J7_fill_d0a16 q34) rfl okJ7_fill_d0a16 inJ7_fill_d0a16 lkX5_283 rfl (Nat.le_of_ble_eq_true rfl) ⟨by decide, by decide⟩ dX5_startAnew_69 (by omega) (by omega) ?_
  refine r_aload_n C 0 rfl dX5_startAnew_72 rfl ?_
  refine r_iconst C (v := 0) dX5_startAnew_73 (by decide) ?_
  replace h := bd_i h
  obtain ⟨hp36, e37, h⟩ := h
  refine k_pV C tyX5 tyX5_ok nmX5 e37 rfl inX5_ (by decide) flX5_207 rfl rfl rfl rfl dX5_startAnew_74 ?_
  refine r_aload_n C 0 rfl dX5_startAnew_77 rfl ?_
  refine r_iconst C (v := 0) dX5_startAnew_78 (by decide) ?_
  replace h := bd_i h
  obtain ⟨hp38, e39, h⟩ := h
  refine k_pV C tyX5 tyX5_ok nmX5 e39 rfl inX5_ (by decide) flX5_169 rfl rfl rfl rfl dX5_startAnew_79 ?_
  refine r_aload_n C 0 rfl dX5_startAnew_82 rfl ?_
  refine r_iconst C (v := -1) dX5_startAnew_83 (by decide) ?_
  replace h := bd_i h
  obtain ⟨hp40, e41, h⟩ := h
  refine k_pV C tyX5 tyX5_ok nmX5 e41 rfl inX5_ (by decide) flX5_234 rfl rfl rfl rfl dX5_startAnew_84 ?_
  cases h
  exact r_return C (Eq.symm hO) dX5_startAnew_87
noncomputable def f_X5_init (hp : cH) (sz : Nat) (l0 : Nat) : Option (cH × Nat) := (some (va_up hp sz (some (.inr (3, [.null, .int 0]))))).bind fun hp1 => (f_X3_init hp1 ((sz + 1)) sz).bind fun (hp4, z5) => (pV hp4 l0 5 0 (.ref sz)).bind fun hp6 => (nJ hp6 z5 ((16 : Int32))).bind fun hp8 => (pV hp8 l0 5 1 (.ref z5)).bind fun hp10 => (nI_ hp10 ((z5 + 1)) ((9 : Int32))).bind fun hp12 => (pV hp12 l0 5 2 (.ref ((z5 + 1)))).bind fun hp14 => (nI_ hp14 (((z5 + 1) + 1)) ((5 : Int32))).bind fun hp16 => (pV hp16 l0 5 3 (.ref (((z5 + 1) + 1)))).bind fun hp18 => (nI_ hp18 ((((z5 + 1) + 1) + 1)) ((5 : Int32))).bind fun hp20 => (pV hp20 l0 5 4 (.ref ((((z5 + 1) + 1) + 1)))).bind fun hp22 => if isO hp22 l0 5 = true then (f_X5_startAnew hp22 (((((z5 + 1) + 1) + 1) + 1)) l0 ((2 : Int32)) ((3 : Int32))).bind fun (hp26, z27) => some (hp26, z27) else none
set_option maxHeartbeats 4000000 in
set_option maxRecDepth 100000 in
theorem k_X5_init {G : gT} {hp : cH} {sz : Nat} {l0 : Nat} {oh : cH} {oz : Nat} (h : f_X5_init hp sz l0 = some (oh, oz)) : aM G yX5_init cX5_init 1 none 3 43 9 (64 * 9) [.ref l0] hp sz ((none, oh, oz) : oT) := by
  refine aM.of RX5 (by decide) rfl (Nat.le_of_ble_eq_true rfl) (fun K C => ?_)
  have hO : ((none, oh, oz) : oT) = ((none, oh, oz) : oT) := rfl
  refine r_lve (lv' := [(0, .ref l0)]) rfl ?_
  unfold f_X5_init at h
  refine r_aload_n C 0 rfl dX5_init_0 rfl ?_
  refine r_objInit C lkX5_1 oi1 oi2 ⟨by decide, by decide⟩ dX5_init_1 ?_
  refine r_aload_n C 0 rfl dX5_init_4 rfl ?_
  replace h := nm h
  obtain ⟨hp1, e2, h⟩ := h
  refine k_new C 8 tyX3 tyX3_ok rfl inX3_ cnX5_7 icX3 iiX3 dfX3 (by decide) e2 dX5_init_5 (by omega) ?_
  refine r_dup C dX5_init_8 rfl ?_
  replace h := bd_i h
  obtain ⟨⟨hp4, z5⟩, q3, h⟩ := h
  refine k_nest C 2 7 (64 * 7) (k_X3_init q3) rfl okX3_init inX3_init (Nat.le_of_ble_eq_true rfl) ⟨by decide, by decide⟩ dX5_init_9 (by omega) (by omega) ?_
  replace h := bd_i h
  obtain ⟨hp6, e7, h⟩ := h
  refine k_pF C tyX5 tyX5_ok nmX5 e7 rfl inX5_ (by decide) flX5_10 rfl rfl rfl rfl rfl dX5_init_12 ?_
  refine r_aload_n C 0 rfl dX5_init_15 rfl ?_
  refine r_bipush C (v := 16) dX5_init_16 (by decide) ?_
  replace h := bd_i h
  obtain ⟨hp8, e9, h⟩ := h
  refine k_nJ C 6 e9 dX5_init_18 (by omega) ?_
  replace h := bd_i h
  obtain ⟨hp10, e11, h⟩ := h
  refine k_pF C tyX5 tyX5_ok nmX5 e11 rfl inX5_ (by decide) flX5_16 rfl rfl rfl rfl rfl dX5_init_20 ?_
  refine r_aload_n C 0 rfl dX5_init_23 rfl ?_
  refine r_bipush C (v := 9) dX5_init_24 (by decide) ?_
  replace h := bd_i h
  obtain ⟨hp12, e13, h⟩ := h
  refine k_nI C 5 e13 dX5_init_26 (by omega) ?_
  replace h := bd_i h
  obtain ⟨hp14, e15, h⟩ := h
  refine k_pF C tyX5 tyX5_ok nmX5 e15 rfl inX5_ (by decide) flX5_20 rfl rfl rfl rfl rfl dX5_init_28 ?_
  refine r_aload_n C 0 rfl dX5_init_31 rfl ?_
  refine r_iconst C (v := 5) dX5_init_32 (by decide) ?_
  replace h := bd_i h
  obtain ⟨hp16, e17, h⟩ := h
  refine k_nI C 4 e17 dX5_init_33 (by omega) ?_
  replace h := bd_i h
  obtain ⟨hp18, e19, h⟩ := h
  refine k_pF C tyX5 tyX5_ok nmX5 e19 rfl inX5_ (by decide) flX5_24 rfl rfl rfl rfl rfl dX5_init_35 ?_
  refine r_aload_n C 0 rfl dX5_init_38 rfl ?_
  refine r_iconst C (v := 5) dX5_init_39 (by decide) ?_
  replace h := bd_i h
  obtain ⟨hp20, e21, h⟩ := h
  refine k_nI C 3 e21 dX5_init_40 (by omega) ?_
  replace h := bd_i h
  obtain ⟨hp22, e23, h⟩ := h
  refine k_pF C tyX5 tyX5_ok nmX5 e23 rfl inX5_ (by decide) flX5_27 rfl rfl rfl rfl rfl dX5_init_42 ?_
  refine r_aload_n C 0 rfl dX5_init_45 rfl ?_
  refine r_iconst C (v := 2) dX5_init_46 (by decide) ?_
  refine r_iconst C (v := 3) dX5_init_47 (by decide) ?_
  replace h := gd_t h
  obtain ⟨ho24, h⟩ := h
  obtain ⟨_, ho24⟩ := isO_s ho24
  replace h := bd_i h
  obtain ⟨⟨hp26, z27⟩, q25, h⟩ := h
  refine q_callVv C 0 0 (64 * 0) (k_X5_startAnew q25) rfl ho24 rfl okX5_startAnew inX5_startAnew lkX5_30 rfl (Nat.le_of_ble_eq_true rfl) ⟨by decide, by decide⟩ dX5_init_48 (by omega) (by omega) ?_
  cases h
  exact r_return C (Eq.symm hO) dX5_init_51
noncomputable def f_X0_isOddPrime_L15 (l0 : Int32) (l1 : Int32) : Option (Int32 ⊕ (Unit ⊕ Int32)) := if l1 = 0 then none else if (l0 / l1) < l1 then (some (.inr (.inl ()))) else (if l1 = 0 then none else if (l0 - l0 / l1 * l1) = 0 then (some (.inr (.inr ((0 : Int32))))) else (some (.inl (l1 + 2))))
noncomputable def f_X0_isOddPrime (l0 : Int32) : Option Int32 := if l0 < ((3 : Int32)) then (some ((0 : Int32))) else (if (l0 - l0 / ((2 : Int32)) * ((2 : Int32))) = 0 then (some ((0 : Int32))) else ((itX (f_X0_isOddPrime_L15 l0) ((3 : Int32))).bind fun r2 => match r2 with | .inl _ => (some ((1 : Int32))) | .inr o3 => some o3))
set_option maxHeartbeats 4000000 in
set_option maxRecDepth 100000 in
theorem w_X0_isOddPrime_L15 {K : kT} {O : oT} (C : aC K cX0_isOddPrime RX0 "isOddPrime" 0 0 0 (64 * 0) 2 (some .boolean) O) {hp : cH} {sz : Nat} {l0 : Int32} {l1 : Int32} {r : (Unit ⊕ Int32)} (h : itX (f_X0_isOddPrime_L15 l0) l1 = some r) (hr : Sum.elim (fun r => aW K hp sz 0 (64 * 0) 36 [] []) (fun o => ((some (.int o), hp, sz) : oT) = O) r) : aW K hp sz 0 (64 * 0) 15 [(0, .int l0), (1, .int l1)] [] := by
  refine it_walk (f := f_X0_isOddPrime_L15 l0) (P := fun s => aW K hp sz 0 (64 * 0) 15 [(0, .int l0), (1, .int s)] []) (R := fun r => Sum.elim (fun r => aW K hp sz 0 (64 * 0) 36 [] []) (fun o => ((some (.int o), hp, sz) : oT) = O) r) ?_ h hr
  clear h hr
  rintro l1 x h kl kr
  show aW K hp sz 0 (64 * 0) 15 [(0, .int l0), (1, .int l1)] []
  replace h : f_X0_isOddPrime_L15 l0 l1 = some x := h
  unfold f_X0_isOddPrime_L15 at h
  refine r_iload_n C 1 rfl dX0_isOddPrime_15 rfl ?_
  refine r_iload_n C 0 rfl dX0_isOddPrime_16 rfl ?_
  refine r_iload_n C 1 rfl dX0_isOddPrime_17 rfl ?_
  replace h := gd_n h
  obtain ⟨hne, h⟩ := h
  refine r_idiv C dX0_isOddPrime_18 hne ?_
  refine r_icmp_gt C (tgt := 36) dX0_isOddPrime_19 (by decide) (fun hc => ?_) (fun hc => ?_)
  · replace h := br_p hc h
    refine r_lv (lv' := []) [] rfl ?_
    exact kr _ (sm_i h)
  · replace h := br_n hc h
    refine r_iload_n C 0 rfl dX0_isOddPrime_22 rfl ?_
    refine r_iload_n C 1 rfl dX0_isOddPrime_23 rfl ?_
    replace h := gd_n h
    obtain ⟨hne, h⟩ := h
    refine r_irem C dX0_isOddPrime_24 hne ?_
    refine r_if_ne C (tgt := 30) dX0_isOddPrime_25 (by decide) (fun hc => ?_) (fun hc => ?_)
    · replace h := br_n hc h
      refine r_iinc C (v := l1 + 2) (lv' := [(1, .int (l1 + 2)), (0, .int l0)]) 1 rfl dX0_isOddPrime_30 rfl (by decide) rfl ?_
      refine r_goto C (tgt := 15) dX0_isOddPrime_33 (by decide) ?_
      refine r_lv (lv' := [(0, .int l0), (1, .int (l1 + 2))]) [1, 0] rfl ?_
      exact kl _ (sm_i h)
    · replace h := br_p hc h
      refine r_iconst C (v := 0) dX0_isOddPrime_28 (by decide) ?_
      exact r_zreturn C rfl (Eq.symm (kr _ (sm_i h))) dX0_isOddPrime_29
set_option maxHeartbeats 4000000 in
set_option maxRecDepth 100000 in
theorem k_X0_isOddPrime {G : gT} {hp : cH} {sz : Nat} {l0 : Int32} {o0 : Int32} (h : f_X0_isOddPrime l0 = some o0) : aM G yX0_isOddPrime cX0_isOddPrime 2 (some .boolean) 0 0 0 (64 * 0) [.int l0] hp sz ((some (.int o0), hp, sz) : oT) := by
  refine aM.of RX0 (by decide) rfl (Nat.le_of_ble_eq_true rfl) (fun K C => ?_)
  have hO : ((some (.int o0), hp, sz) : oT) = ((some (.int o0), hp, sz) : oT) := rfl
  refine r_lve (lv' := [(0, .int l0)]) rfl ?_
  unfold f_X0_isOddPrime at h
  refine r_iload_n C 0 rfl dX0_isOddPrime_0 rfl ?_
  refine r_iconst C (v := 3) dX0_isOddPrime_1 (by decide) ?_
  refine r_icmp_lt C (tgt := 11) dX0_isOddPrime_2 (by decide) (fun hc => ?_) (fun hc => ?_)
  · replace h := br_p hc h
    refine r_iconst C (v := 0) dX0_isOddPrime_11 (by decide) ?_
    cases h
    exact r_zreturn C rfl (Eq.symm hO) dX0_isOddPrime_12
  · replace h := br_n hc h
    refine r_iload_n C 0 rfl dX0_isOddPrime_5 rfl ?_
    refine r_iconst C (v := 2) dX0_isOddPrime_6 (by decide) ?_
    refine r_irem C dX0_isOddPrime_7 (by decide) ?_
    refine r_if_ne C (tgt := 13) dX0_isOddPrime_8 (by decide) (fun hc => ?_) (fun hc => ?_)
    · replace h := br_n hc h
      refine r_iconst C (v := 3) dX0_isOddPrime_13 (by decide) ?_
      refine r_istore_n C (lv' := [(1, .int ((3 : Int32))), (0, .int l0)]) dX0_isOddPrime_14 rfl (by decide) rfl ?_
      refine r_lv (lv' := [(0, .int l0), (1, .int ((3 : Int32)))]) [1, 0] rfl ?_
      replace h := bd_i h
      obtain ⟨r2, q1, h⟩ := h
      rcases r2 with _ | o3
      · refine w_X0_isOddPrime_L15 C  q1 ?_
        show aW K hp sz 0 (64 * 0) 36 [] []
        refine r_iconst C (v := 1) dX0_isOddPrime_36 (by decide) ?_
        cases h
        exact r_zreturn C rfl (Eq.symm hO) dX0_isOddPrime_37
      · cases h
        exact w_X0_isOddPrime_L15 C  q1 hO
    · replace h := br_p hc h
      refine r_iconst C (v := 0) dX0_isOddPrime_11 (by decide) ?_
      cases h
      exact r_zreturn C rfl (Eq.symm hO) dX0_isOddPrime_12
noncomputable def f_X5_begin (hp : cH) (sz : Nat) (l0 : Nat) (l1 : Int32) (l2 : Int32) : Option (Int32 × cH × Nat) := if l1 < ((2 : Int32)) then (some ((-2 : Int32), hp, sz)) else (if ((3 : Int32)) < l1 then (some ((-2 : Int32), hp, sz)) else ((f_X0_isOddPrime l2).bind fun r2 => if r2 = 0 then (some ((-2 : Int32), hp, sz)) else (if isO hp l0 5 = true then (f_X5_startAnew hp sz l0 l1 l2).bind fun (hp5, z6) => some ((1 : Int32), hp5, z6) else none)))
set_option maxHeartbeats 4000000 in
set_option maxRecDepth 100000 in
theorem k_X5_begin {G : gT} {hp : cH} {sz : Nat} {l0 : Nat} {l1 : Int32} {l2 : Int32} {o0 : Int32} {oh : cH} {oz : Nat} (h : f_X5_begin hp sz l0 l1 l2 = some (o0, oh, oz)) : aM G yX5_begin cX5_begin 3 (some .int) 3 43 3 (64 * 3) [.ref l0, .int l1, .int l2] hp sz ((some (.int o0), oh, oz) : oT) := by
  refine aM.of RX5 (by decide) rfl (Nat.le_of_ble_eq_true rfl) (fun K C => ?_)
  have hO : ((some (.int o0), oh, oz) : oT) = ((some (.int o0), oh, oz) : oT) := rfl
  refine r_lve (lv' := [(0, .ref l0), (1, .int l1), (2, .int l2)]) rfl ?_
  unfold f_X5_begin at h
  refine r_iload_n C 1 rfl dX5_begin_0 rfl ?_
  refine r_iconst C (v := 2) dX5_begin_1 (by decide) ?_
  refine r_icmp_lt C (tgt := 17) dX5_begin_2 (by decide) (fun hc => ?_) (fun hc => ?_)
  · replace h := br_p hc h
    refine r_bipush C (v := -2) dX5_begin_17 (by decide) ?_
    cases h
    exact r_ireturn C (Eq.symm hO) dX5_begin_19
  · replace h := br_n hc h
    refine r_iload_n C 1 rfl dX5_begin_5 rfl ?_
    refine r_iconst C (v := 3) dX5_begin_6 (by decide) ?_
    refine r_icmp_gt C (tgt := 17) dX5_begin_7 (by decide) (fun hc => ?_) (fun hc => ?_)
    · replace h := br_p hc h
      refine r_bipush C (v := -2) dX5_begin_17 (by decide) ?_
      cases h
      exact r_ireturn C (Eq.symm hO) dX5_begin_19
    · replace h := br_n hc h
      refine r_iload_n C 2 rfl dX5_begin_10 rfl ?_
      replace h := bd_i h
      obtain ⟨r2, q1, h⟩ := h
      refine q_callS C 0 3 (64 * 3) (k_X0_isOddPrime q1) rfl okX0_isOddPrime inX0_isOddPrime lkX5_34 rfl (Nat.le_of_ble_eq_true rfl) ⟨by decide, by decide⟩ dX5_begin_11 (by omega) (by omega) ?_
      refine r_if_ne C (tgt := 20) dX5_begin_14 (by decide) (fun hc => ?_) (fun hc => ?_)
      · replace h := br_n hc h
        refine r_aload_n C 0 rfl dX5_begin_20 rfl ?_
        refine r_iload_n C 1 rfl dX5_begin_21 rfl ?_
        refine r_iload_n C 2 rfl dX5_begin_22 rfl ?_
        replace h := gd_t h
        obtain ⟨ho3, h⟩ := h
        obtain ⟨_, ho3⟩ := isO_s ho3
        replace h := bd_i h
        obtain ⟨⟨hp5, z6⟩, q4, h⟩ := h
        refine q_callVv C 0 0 (64 * 0) (k_X5_startAnew q4) rfl ho3 rfl okX5_startAnew inX5_startAnew lkX5_30 rfl (Nat.le_of_ble_eq_true rfl) ⟨by decide, by decide⟩ dX5_begin_23 (by omega) (by omega) ?_
        refine r_iconst C (v := 1) dX5_begin_26 (by decide) ?_
        cases h
        exact r_ireturn C (Eq.symm hO) dX5_begin_27
      · replace h := br_p hc h
        refine r_bipush C (v := -2) dX5_begin_17 (by decide) ?_
        cases h
        exact r_ireturn C (Eq.symm hO) dX5_begin_19
noncomputable def f_J9_floorMod_f86c9 (l0 : Int64) (l2 : Int64) : Option Int64 := if l2 = 0 then none else if ((0 : Int64)) ≤ (l0 ^^^ l2) then (some (l0 - l0 / l2 * l2)) else (if (l0 - l0 / l2 * l2) = ((0 : Int64)) then (some (l0 - l0 / l2 * l2)) else (some ((l0 - l0 / l2 * l2) + l2)))
set_option maxHeartbeats 4000000 in
set_option maxRecDepth 100000 in
theorem k_J9_floorMod_f86c9 {G : gT} {hp : cH} {sz : Nat} {l0 : Int64} {l2 : Int64} {o0 : Int64} (h : f_J9_floorMod_f86c9 l0 l2 = some o0) : aM G yJ9_floorMod_f86c9 cJ9_floorMod_f86c9 6 (some .long) 0 0 0 (64 * 0) [.long l0, .long l2] hp sz ((some (.long o0), hp, sz) : oT) := by
  refine aM.ofF RJ9 (by decide +kernel) rfl (Nat.le_of_ble_eq_true rfl) (fun K C => ?_)
  have hO : ((some (.long o0), hp, sz) : oT) = ((some (.long o0), hp, sz) : oT) := rfl
  refine r_lve (lv' := [(0, .long l0), (2, .long l2)]) rfl ?_
  unfold f_J9_floorMod_f86c9 at h
  refine r_lload_n C 0 rfl dJ9_floorMod_f86c9_0 rfl ?_
  refine r_lload_n C 1 rfl dJ9_floorMod_f86c9_1 rfl ?_
  replace h := gd_n h
  obtain ⟨hne, h⟩ := h
  refine r_lrem C dJ9_floorMod_f86c9_2 hne ?_
  refine r_lstore C (lv' := [(4, .long (l0 - l0 / l2 * l2)), (0, .long l0), (2, .long l2)]) dJ9_floorMod_f86c9_3 (by decide) rfl ?_
  refine r_lload_n C 1 rfl dJ9_floorMod_f86c9_5 rfl ?_
  refine r_lload_n C 2 rfl dJ9_floorMod_f86c9_6 rfl ?_
  refine r_lxor C dJ9_floorMod_f86c9_7 ?_
  refine r_lconst C (v := 0) dJ9_floorMod_f86c9_8 (by decide) ?_
  refine r_lge C (tgt := 25) dJ9_floorMod_f86c9_9 dJ9_floorMod_f86c9_10 (by decide) (fun hc => ?_) (fun hc => ?_)
  · replace h := br_p hc h
    refine r_lload C 0 rfl dJ9_floorMod_f86c9_25 ?_
    cases h
    exact r_lreturn C (Eq.symm hO) dJ9_floorMod_f86c9_27
  · replace h := br_n hc h
    refine r_lload C 0 rfl dJ9_floorMod_f86c9_13 ?_
    refine r_lconst C (v := 0) dJ9_floorMod_f86c9_15 (by decide) ?_
    refine r_leq C (tgt := 25) dJ9_floorMod_f86c9_16 dJ9_floorMod_f86c9_17 (by decide) (fun hc => ?_) (fun hc => ?_)
    · replace h := br_p hc h
      refine r_lload C 0 rfl dJ9_floorMod_f86c9_25 ?_
      cases h
      exact r_lreturn C (Eq.symm hO) dJ9_floorMod_f86c9_27
    · replace h := br_n hc h
      refine r_lload C 0 rfl dJ9_floorMod_f86c9_20 ?_
      refine r_lload_n C 2 rfl dJ9_floorMod_f86c9_22 rfl ?_
      refine r_ladd C dJ9_floorMod_f86c9_23 ?_
      cases h
      exact r_lreturn C (Eq.symm hO) dJ9_floorMod_f86c9_24
noncomputable def f_X0_reduced (hp : cH) (l0 : Nat) (l1 : Int64) : Option Int64 := (gJ hp l0 0 0).bind fun w1 => (f_J9_floorMod_f86c9 l1 w1).bind fun r4 => some r4
set_option maxHeartbeats 4000000 in
set_option maxRecDepth 100000 in
theorem k_X0_reduced {G : gT} {hp : cH} {sz : Nat} {l0 : Nat} {l1 : Int64} {o0 : Int64} (h : f_X0_reduced hp l0 l1 = some o0) : aM G yX0_reduced cX0_reduced 3 (some .long) 1 17 0 (64 * 0) [.ref l0, .long l1] hp sz ((some (.long o0), hp, sz) : oT) := by
  refine aM.of RX0 (by decide) rfl (Nat.le_of_ble_eq_true rfl) (fun K C => ?_)
  have hO : ((some (.long o0), hp, sz) : oT) = ((some (.long o0), hp, sz) : oT) := rfl
  refine r_lve (lv' := [(0, .ref l0), (1, .long l1)]) rfl ?_
  unfold f_X0_reduced at h
  refine r_lload_n C 1 rfl dX0_reduced_0 rfl ?_
  refine r_aload_n C 0 rfl dX0_reduced_1 rfl ?_
  replace h := bd_i h
  obtain ⟨w1, e2, h⟩ := h
  refine k_gJ C e2 rfl inX0_ (by decide) flX0_15 dX0_reduced_2 ?_
  replace h := bd_i h
  obtain ⟨r4, q3, h⟩ := h
  refine q_callS C 0 0 (64 * 0) (k_J9_floorMod_f86c9 q3) rfl okJ9_floorMod_f86c9 inJ9_floorMod_f86c9 lkX0_21 rfl (Nat.le_of_ble_eq_true rfl) ⟨by decide, by decide⟩ dX0_reduced_5 (by omega) (by omega) ?_
  cases h
  exact r_lreturn C (Eq.symm hO) dX0_reduced_8
noncomputable def f_X5_put (hp : cH) (l0 : Nat) (l1 : Int32) (l2 : Int64) : Option (Int32 × cH) := if l1 < 0 then (some ((-2 : Int32), hp)) else (if l1 < ((16 : Int32)) then ((gR hp l0 5 1).bind fun w1 => (gR hp l0 5 7).bind fun w3 => if isO hp w3 0 = true then (f_X0_reduced hp w3 l2).bind fun r7 => (sJ hp w1 l1 r7).bind fun hp8 => (gR hp8 l0 5 1).bind fun w10 => (lJ hp8 w10 l1).bind fun w12 => some (w12.toInt32, hp8) else none) else (some ((-2 : Int32), hp)))
set_option maxHeartbeats 4000000 in
set_option maxRecDepth 100000 in
theorem k_X5_put {G : gT} {hp : cH} {sz : Nat} {l0 : Nat} {l1 : Int32} {l2 : Int64} {o0 : Int32} {oh : cH} (h : f_X5_put hp l0 l1 l2 = some (o0, oh)) : aM G yX5_put cX5_put 4 (some .int) 2 33 0 (64 * 0) [.ref l0, .int l1, .long l2] hp sz ((some (.int o0), oh, sz) : oT) := by
  refine aM.of RX5 (by decide) rfl (Nat.le_of_ble_eq_true rfl) (fun K C => ?_)
  have hO : ((some (.int o0), oh, sz) : oT) = ((some (.int o0), oh, sz) : oT) := rfl
  refine r_lve (lv' := [(0, .ref l0), (1, .int l1), (2, .long l2)]) rfl ?_
  unfold f_X5_put at h
  refine r_iload_n C 1 rfl dX5_put_0 rfl ?_
  refine r_if_lt C (tgt := 10) dX5_put_1 (by decide) (fun hc => ?_) (fun hc => ?_)
  · replace h := br_p hc h
    refine r_bipush C (v := -2) dX5_put_10 (by decide) ?_
    cases h
    exact r_ireturn C (Eq.symm hO) dX5_put_12
  · replace h := br_n hc h
    refine r_iload_n C 1 rfl dX5_put_4 rfl ?_
    refine r_bipush C (v := 16) dX5_put_5 (by decide) ?_
    refine r_icmp_lt C (tgt := 13) dX5_put_7 (by decide) (fun hc => ?_) (fun hc => ?_)
    · replace h := br_p hc h
      refine r_aload_n C 0 rfl dX5_put_13 rfl ?_
      replace h := bd_i h
      obtain ⟨w1, e2, h⟩ := h
      refine k_gR C e2 rfl inX5_ (by decide) flX5_16 dX5_put_14 ?_
      refine r_iload_n C 1 rfl dX5_put_17 rfl ?_
      refine r_aload_n C 0 rfl dX5_put_18 rfl ?_
      replace h := bd_i h
      obtain ⟨w3, e4, h⟩ := h
      refine k_gR C e4 rfl inX5_ (by decide) flX5_40 dX5_put_19 ?_
      refine r_lload_n C 2 rfl dX5_put_22 rfl ?_
      replace h := gd_t h
      obtain ⟨ho5, h⟩ := h
      obtain ⟨_, ho5⟩ := isO_s ho5
      replace h := bd_i h
      obtain ⟨r7, q6, h⟩ := h
      refine q_callV C 2 0 (64 * 0) (k_X0_reduced q6) rfl ho5 rfl okX0_reduced inX0_reduced lkX5_44 rfl (Nat.le_of_ble_eq_true rfl) ⟨by decide, by decide⟩ dX5_put_23 (by omega) (by omega) ?_
      replace h := bd_i h
      obtain ⟨hp8, e9, h⟩ := h
      refine k_sJ C e9 dX5_put_26 ?_
      refine r_aload_n C 0 rfl dX5_put_27 rfl ?_
      replace h := bd_i h
      obtain ⟨w10, e11, h⟩ := h
      refine k_gR C e11 rfl inX5_ (by decide) flX5_16 dX5_put_28 ?_
      refine r_iload_n C 1 rfl dX5_put_31 rfl ?_
      replace h := bd_i h
      obtain ⟨w12, e13, h⟩ := h
      refine k_lJ C e13 dX5_put_32 ?_
      refine r_l2i C dX5_put_33 ?_
      cases h
      exact r_ireturn C (Eq.symm hO) dX5_put_34
    · replace h := br_n hc h
      refine r_bipush C (v := -2) dX5_put_10 (by decide) ?_
      cases h
      exact r_ireturn C (Eq.symm hO) dX5_put_12
noncomputable def f_X5_lengthOf (hp : cH) (l0 : Nat) (l1 : Int32) : Option Int32 := (gI hp l0 5 5).bind fun w1 => if l1 = 0 then (some (w1 + ((1 : Int32)))) else (if l1 = 1 then ((gI hp l0 5 5).bind fun w3 => if w3 = ((2 : Int32)) then (some ((3 : Int32))) else (some ((6 : Int32)))) else (if l1 = 2 then ((gI hp l0 5 5).bind fun w5 => if w5 = ((2 : Int32)) then (some ((0 : Int32))) else (some (w1 + ((1 : Int32))))) else (if l1 = 3 then (some ((w1 + ((1 : Int32))) * (w1 + ((1 : Int32))))) else (if l1 = 4 then (some ((w1 + ((1 : Int32))) * (w1 + ((1 : Int32))))) else (some ((0 : Int32)))))))
set_option maxHeartbeats 4000000 in
set_option maxRecDepth 100000 in
theorem k_X5_lengthOf {G : gT} {hp : cH} {sz : Nat} {l0 : Nat} {l1 : Int32} {o0 : Int32} (h : f_X5_lengthOf hp l0 l1 = some o0) : aM G yX5_lengthOf cX5_lengthOf 3 (some .int) 0 0 0 (64 * 0) [.ref l0, .int l1] hp sz ((some (.int o0), hp, sz) : oT) := by
  refine aM.of RX5 (by decide) rfl (Nat.le_of_ble_eq_true rfl) (fun K C => ?_)
  have hO : ((some (.int o0), hp, sz) : oT) = ((some (.int o0), hp, sz) : oT) := rfl
  refine r_lve (lv' := [(0, .ref l0), (1, .int l1)]) rfl ?_
  unfold f_X5_lengthOf at h
  refine r_aload_n C 0 rfl dX5_lengthOf_0 rfl ?_
  replace h := bd_i h
  obtain ⟨w1, e2, h⟩ := h
  refine k_gI C e2 rfl inX5_ (by decide) flX5_96 dX5_lengthOf_1 ?_
  refine r_iconst C (v := 1) dX5_lengthOf_4 (by decide) ?_
  refine r_iadd C dX5_lengthOf_5 ?_
  refine r_istore_n C (lv' := [(2, .int (w1 + ((1 : Int32)))), (0, .ref l0), (1, .int l1)]) dX5_lengthOf_6 rfl (by decide) rfl ?_
  refine r_iload_n C 2 rfl dX5_lengthOf_7 rfl ?_
  by_cases hk0 : l1 = 0
  · replace h := br_p hk0 h
    refine r_tabIn C (0) hk0 (tgt := 44) dX5_lengthOf_8 (by decide) (by decide) rfl (by decide) ?_
    refine r_iload_n C 0 rfl dX5_lengthOf_44 rfl ?_
    cases h
    exact r_ireturn C (Eq.symm hO) dX5_lengthOf_45
  · replace h := br_n hk0 h
    by_cases hk1 : l1 = 1
    · replace h := br_p hk1 h
      refine r_tabIn C (1) hk1 (tgt := 46) dX5_lengthOf_8 (by decide) (by decide) rfl (by decide) ?_
      refine r_aload_n C 1 rfl dX5_lengthOf_46 rfl ?_
      replace h := bd_i h
      obtain ⟨w3, e4, h⟩ := h
      refine k_gI C e4 rfl inX5_ (by decide) flX5_96 dX5_lengthOf_47 ?_
      refine r_iconst C (v := 2) dX5_lengthOf_50 (by decide) ?_
      refine r_icmp_ne C (tgt := 58) dX5_lengthOf_51 (by decide) (fun hc => ?_) (fun hc => ?_)
      · replace h := br_n hc h
        refine r_bipush C (v := 6) dX5_lengthOf_58 (by decide) ?_
        cases h
        exact r_ireturn C (Eq.symm hO) dX5_lengthOf_60
      · replace h := br_p hc h
        refine r_iconst C (v := 3) dX5_lengthOf_54 (by decide) ?_
        refine r_goto C (tgt := 60) dX5_lengthOf_55 (by decide) ?_
        cases h
        exact r_ireturn C (Eq.symm hO) dX5_lengthOf_60
    · replace h := br_n hk1 h
      by_cases hk2 : l1 = 2
      · replace h := br_p hk2 h
        refine r_tabIn C (2) hk2 (tgt := 61) dX5_lengthOf_8 (by decide) (by decide) rfl (by decide) ?_
        refine r_aload_n C 1 rfl dX5_lengthOf_61 rfl ?_
        replace h := bd_i h
        obtain ⟨w5, e6, h⟩ := h
        refine k_gI C e6 rfl inX5_ (by decide) flX5_96 dX5_lengthOf_62 ?_
        refine r_iconst C (v := 2) dX5_lengthOf_65 (by decide) ?_
        refine r_icmp_ne C (tgt := 73) dX5_lengthOf_66 (by decide) (fun hc => ?_) (fun hc => ?_)
        · replace h := br_n hc h
          refine r_iload_n C 0 rfl dX5_lengthOf_73 rfl ?_
          cases h
          exact r_ireturn C (Eq.symm hO) dX5_lengthOf_74
        · replace h := br_p hc h
          refine r_iconst C (v := 0) dX5_lengthOf_69 (by decide) ?_
          refine r_goto C (tgt := 74) dX5_lengthOf_70 (by decide) ?_
          cases h
          exact r_ireturn C (Eq.symm hO) dX5_lengthOf_74
      · replace h := br_n hk2 h
        by_cases hk3 : l1 = 3
        · replace h := br_p hk3 h
          refine r_tabIn C (3) hk3 (tgt := 75) dX5_lengthOf_8 (by decide) (by decide) rfl (by decide) ?_
          refine r_iload_n C 0 rfl dX5_lengthOf_75 rfl ?_
          refine r_iload_n C 0 rfl dX5_lengthOf_76 rfl ?_
          refine r_imul C dX5_lengthOf_77 ?_
          cases h
          exact r_ireturn C (Eq.symm hO) dX5_lengthOf_78
        · replace h := br_n hk3 h
          by_cases hk4 : l1 = 4
          · replace h := br_p hk4 h
            refine r_tabIn C (4) hk4 (tgt := 75) dX5_lengthOf_8 (by decide) (by decide) rfl (by decide) ?_
            refine r_iload_n C 0 rfl dX5_lengthOf_75 rfl ?_
            refine r_iload_n C 0 rfl dX5_lengthOf_76 rfl ?_
            refine r_imul C dX5_lengthOf_77 ?_
            cases h
            exact r_ireturn C (Eq.symm hO) dX5_lengthOf_78
          · replace h := br_n hk4 h
            have hs0 := lv_neT hk0 (a := 0) (by decide)
            have hs1 := lv_neT hk1 (a := 1) (by decide)
            have hs2 := lv_neT hk2 (a := 2) (by decide)
            have hs3 := lv_neT hk3 (a := 3) (by decide)
            have hs4 := lv_neT hk4 (a := 4) (by decide)
            refine r_tabOut C (tgt := 79) dX5_lengthOf_8 (by omega) (by decide) ?_
            refine r_iconst C (v := 0) dX5_lengthOf_79 (by decide) ?_
            cases h
            exact r_ireturn C (Eq.symm hO) dX5_lengthOf_80
noncomputable def f_J9_min_7cf53 (l0 : Int32) (l1 : Int32) : Option Int32 := if l1 < l0 then (some l1) else (some l0)
set_option maxHeartbeats 4000000 in
set_option maxRecDepth 100000 in
theorem k_J9_min_7cf53 {G : gT} {hp : cH} {sz : Nat} {l0 : Int32} {l1 : Int32} {o0 : Int32} (h : f_J9_min_7cf53 l0 l1 = some o0) : aM G yJ9_min_7cf53 cJ9_min_7cf53 2 (some .int) 0 0 0 (64 * 0) [.int l0, .int l1] hp sz ((some (.int o0), hp, sz) : oT) := by
  refine aM.ofF RJ9 (by decide +kernel) rfl (Nat.le_of_ble_eq_true rfl) (fun K C => ?_)
  have hO : ((some (.int o0), hp, sz) : oT) = ((some (.int o0), hp, sz) : oT) := rfl
  refine r_lve (lv' := [(0, .int l0), (1, .int l1)]) rfl ?_
  unfold f_J9_min_7cf53 at h
  refine r_iload_n C 0 rfl dJ9_min_7cf53_0 rfl ?_
  refine r_iload_n C 1 rfl dJ9_min_7cf53_1 rfl ?_
  refine r_icmp_gt C (tgt := 9) dJ9_min_7cf53_2 (by decide) (fun hc => ?_) (fun hc => ?_)
  · replace h := br_p hc h
    refine r_iload_n C 1 rfl dJ9_min_7cf53_9 rfl ?_
    cases h
    exact r_ireturn C (Eq.symm hO) dJ9_min_7cf53_10
  · replace h := br_n hc h
    refine r_iload_n C 0 rfl dJ9_min_7cf53_5 rfl ?_
    refine r_goto C (tgt := 10) dJ9_min_7cf53_6 (by decide) ?_
    cases h
    exact r_ireturn C (Eq.symm hO) dJ9_min_7cf53_10
noncomputable def f_J7_copyOf_c38d5 (hp : cH) (sz : Nat) (l0 : Nat) (l1 : Int32) : Option (Nat × cH × Nat) := (aN hp l0).bind fun w1 => if l1 = w1 then ((nC hp sz l0).bind fun hp11 => (aJ hp11 sz).bind fun w13 => some (sz, hp11, (sz + 1))) else ((nJ hp sz l1).bind fun hp3 => (aN hp3 l0).bind fun w5 => (f_J9_min_7cf53 w5 l1).bind fun r8 => (cpJ hp3 l0 ((0 : Int32)) sz ((0 : Int32)) r8).bind fun hp9 => some (sz, hp9, (sz + 1)))
set_option maxHeartbeats 4000000 in
set_option maxRecDepth 100000 in
theorem k_J7_copyOf_c38d5 {G : gT} {hp : cH} {sz : Nat} {l0 : Nat} {l1 : Int32} {o0 : Nat} {oh : cH} {oz : Nat} (h : f_J7_copyOf_c38d5 hp sz l0 l1 = some (o0, oh, oz)) : aM G yJ7_copyOf_c38d5 cJ7_copyOf_c38d5 3 (some (.array .long)) 1 30 2 (64 * 2) [.ref l0, .int l1] hp sz ((some (.ref o0), oh, oz) : oT) := by
  refine aM.of RJ7 (by decide) rfl (Nat.le_of_ble_eq_true rfl) (fun K C => ?_)
  have hO : ((some (.ref o0), oh, oz) : oT) = ((some (.ref o0), oh, oz) : oT) := rfl
  refine r_lve (lv' := [(0, .ref l0), (1, .int l1)]) rfl ?_
  unfold f_J7_copyOf_c38d5 at h
  refine r_iload_n C 1 rfl dJ7_copyOf_c38d5_0 rfl ?_
  refine r_aload_n C 0 rfl dJ7_copyOf_c38d5_1 rfl ?_
  replace h := bd_i h
  obtain ⟨w1, e2, h⟩ := h
  refine k_alen C e2 dJ7_copyOf_c38d5_2 ?_
  refine r_icmp_ne C (tgt := 14) dJ7_copyOf_c38d5_3 (by decide) (fun hc => ?_) (fun hc => ?_)
  · replace h := br_n hc h
    refine r_iload_n C 1 rfl dJ7_copyOf_c38d5_14 rfl ?_
    replace h := bd_i h
    obtain ⟨hp3, e4, h⟩ := h
    refine k_nJ C 1 e4 dJ7_copyOf_c38d5_15 (by omega) ?_
    refine r_astore_n C (lv' := [(2, .ref sz), (0, .ref l0), (1, .int l1)]) dJ7_copyOf_c38d5_17 rfl (by decide) rfl ?_
    refine r_aload_n C 1 rfl dJ7_copyOf_c38d5_18 rfl ?_
    refine r_iconst C (v := 0) dJ7_copyOf_c38d5_19 (by decide) ?_
    refine r_aload_n C 0 rfl dJ7_copyOf_c38d5_20 rfl ?_
    refine r_iconst C (v := 0) dJ7_copyOf_c38d5_21 (by decide) ?_
    refine r_aload_n C 1 rfl dJ7_copyOf_c38d5_22 rfl ?_
    replace h := bd_i h
    obtain ⟨w5, e6, h⟩ := h
    refine k_alen C e6 dJ7_copyOf_c38d5_23 ?_
    refine r_iload_n C 2 rfl dJ7_copyOf_c38d5_24 rfl ?_
    replace h := bd_i h
    obtain ⟨r8, q7, h⟩ := h
    refine q_callS C 4 1 (64 * 1) (k_J9_min_7cf53 q7) rfl okJ9_min_7cf53 inJ9_min_7cf53 lkJ7_304 rfl (Nat.le_of_ble_eq_true rfl) ⟨by decide, by decide⟩ dJ7_copyOf_c38d5_25 (by omega) (by omega) ?_
    replace h := bd_i h
    obtain ⟨hp9, e10, h⟩ := h
    refine k_cp C lkJ7_150 e10 ⟨by decide, (by decide)⟩ dJ7_copyOf_c38d5_28 ?_
    refine r_aload_n C 0 rfl dJ7_copyOf_c38d5_31 rfl ?_
    cases h
    exact r_areturnA C (Or.inr ⟨_, rfl⟩) (Eq.symm hO) dJ7_copyOf_c38d5_32
  · replace h := br_p hc h
    refine r_aload_n C 0 rfl dJ7_copyOf_c38d5_6 rfl ?_
    replace h := bd_i h
    obtain ⟨hp11, e12, h⟩ := h
    refine k_nC C 1 lkJ7_319 e12 ⟨by decide, (Nat.le_of_ble_eq_true rfl)⟩ dJ7_copyOf_c38d5_7 (by omega) ?_
    replace h := bd_i h
    obtain ⟨w13, e14, h⟩ := h
    refine k_cast C cnJ7_320 e14 dJ7_copyOf_c38d5_10 ?_
    cases h
    exact r_areturnA C (Or.inr ⟨_, rfl⟩) (Eq.symm hO) dJ7_copyOf_c38d5_13
noncomputable def f_X0_negative (hp : cH) (l0 : Nat) (l1 : Int64) : Option Int64 := if l1 = ((0 : Int64)) then (some ((0 : Int64))) else ((gJ hp l0 0 0).bind fun w1 => some (w1 - l1))
set_option maxHeartbeats 4000000 in
set_option maxRecDepth 100000 in
theorem k_X0_negative {G : gT} {hp : cH} {sz : Nat} {l0 : Nat} {l1 : Int64} {o0 : Int64} (h : f_X0_negative hp l0 l1 = some o0) : aM G yX0_negative cX0_negative 3 (some .long) 0 0 0 (64 * 0) [.ref l0, .long l1] hp sz ((some (.long o0), hp, sz) : oT) := by
  refine aM.of RX0 (by decide) rfl (Nat.le_of_ble_eq_true rfl) (fun K C => ?_)
  have hO : ((some (.long o0), hp, sz) : oT) = ((some (.long o0), hp, sz) : oT) := rfl
  refine r_lve (lv' := [(0, .ref l0), (1, .long l1)]) rfl ?_
  unfold f_X0_negative at h
  refine r_lload_n C 1 rfl dX0_negative_0 rfl ?_
  refine r_lconst C (v := 0) dX0_negative_1 (by decide) ?_
  refine r_lne C (tgt := 10) dX0_negative_2 dX0_negative_3 (by decide) (fun hc => ?_) (fun hc => ?_)
  · replace h := br_n hc h
    refine r_aload_n C 0 rfl dX0_negative_10 rfl ?_
    replace h := bd_i h
    obtain ⟨w1, e2, h⟩ := h
    refine k_gJ C e2 rfl inX0_ (by decide) flX0_15 dX0_negative_11 ?_
    refine r_lload_n C 1 rfl dX0_negative_14 rfl ?_
    refine r_lsub C dX0_negative_15 ?_
    cases h
    exact r_lreturn C (Eq.symm hO) dX0_negative_16
  · replace h := br_p hc h
    refine r_lconst C (v := 0) dX0_negative_6 (by decide) ?_
    refine r_goto C (tgt := 16) dX0_negative_7 (by decide) ?_
    cases h
    exact r_lreturn C (Eq.symm hO) dX0_negative_16
noncomputable def f_X4_flipped_L7 (l0 : Nat) (l1 : Nat) (l2 : Nat) (l3 : Int32) (hp : cH) : Option ((Int32 × cH) ⊕ cH) := (aN hp l1).bind fun w5 => if w5 ≤ l3 then (some (.inr hp)) else ((aN hp l1).bind fun w7 => (lJ hp l1 ((w7 - ((1 : Int32))) - l3)).bind fun w9 => if (l3 - l3 / ((3 : Int32)) * ((3 : Int32))) = ((1 : Int32)) then ((gR hp l0 4 1).bind fun w13 => if isO hp w13 0 = true then (f_X0_negative hp w13 w9).bind fun r17 => (sJ hp l2 l3 r17).bind fun hp18 => some (.inl (l3 + 1, hp18)) else none) else ((sJ hp l2 l3 w9).bind fun hp11 => some (.inl (l3 + 1, hp11))))
noncomputable def f_X4_flipped (hp : cH) (sz : Nat) (l0 : Nat) (l1 : Nat) : Option (Nat × cH × Nat) := (aN hp l1).bind fun w1 => (nJ hp sz w1).bind fun hp3 => (itX (fun s => f_X4_flipped_L7 l0 l1 sz s.1 s.2) ((0 : Int32), hp3)).bind fun hp20 => some (sz, hp20, (sz + 1))
set_option maxHeartbeats 4000000 in
set_option maxRecDepth 100000 in
theorem w_X4_flipped_L7 {K : kT} {O : oT} (C : aC K cX4_flipped RX4 "flipped" 1 16 1 (64 * 1) 6 (some (.array .long)) O) {hp : cH} {sz rc : Nat} {l0 : Nat} {l1 : Nat} {l2 : Nat} {l3 : Int32} {eh : cH} (h : itX (fun s => f_X4_flipped_L7 l0 l1 l2 s.1 s.2) (l3, hp) = some eh) (hr : aW K eh sz rc (64 * rc) 53 [(2, .ref l2)] []) : aW K hp sz rc (64 * rc) 7 [(0, .ref l0), (1, .ref l1), (2, .ref l2), (3, .int l3)] [] := by
  refine it_walk (f := fun s => f_X4_flipped_L7 l0 l1 l2 s.1 s.2) (P := fun s => aW K s.2 sz rc (64 * rc) 7 [(0, .ref l0), (1, .ref l1), (2, .ref l2), (3, .int s.1)] []) (R := fun r => aW K r sz rc (64 * rc) 53 [(2, .ref l2)] []) ?_ h hr
  clear h hr
  rintro ⟨l3, hp⟩ x h kl kr
  show aW K hp sz rc (64 * rc) 7 [(0, .ref l0), (1, .ref l1), (2, .ref l2), (3, .int l3)] []
  replace h : f_X4_flipped_L7 l0 l1 l2 l3 hp = some x := h
  unfold f_X4_flipped_L7 at h
  refine r_iload_n C 3 rfl dX4_flipped_7 rfl ?_
  refine r_aload_n C 1 rfl dX4_flipped_8 rfl ?_
  replace h := bd_i h
  obtain ⟨w5, e6, h⟩ := h
  refine k_alen C e6 dX4_flipped_9 ?_
  refine r_icmp_ge C (tgt := 53) dX4_flipped_10 (by decide) (fun hc => ?_) (fun hc => ?_)
  · replace h := br_p hc h
    refine r_lv (lv' := [(2, .ref l2)]) [2] rfl ?_
    exact kr _ (sm_i h)
  · replace h := br_n hc h
    refine r_aload_n C 1 rfl dX4_flipped_13 rfl ?_
    refine r_aload_n C 1 rfl dX4_flipped_14 rfl ?_
    replace h := bd_i h
    obtain ⟨w7, e8, h⟩ := h
    refine k_alen C e8 dX4_flipped_15 ?_
    refine r_iconst C (v := 1) dX4_flipped_16 (by decide) ?_
    refine r_isub C dX4_flipped_17 ?_
    refine r_iload_n C 3 rfl dX4_flipped_18 rfl ?_
    refine r_isub C dX4_flipped_19 ?_
    replace h := bd_i h
    obtain ⟨w9, e10, h⟩ := h
    refine k_lJ C e10 dX4_flipped_20 ?_
    refine r_lstore C (lv' := [(4, .long w9), (0, .ref l0), (1, .ref l1), (2, .ref l2), (3, .int l3)]) dX4_flipped_21 (by decide) rfl ?_
    refine r_aload_n C 3 rfl dX4_flipped_23 rfl ?_
    refine r_iload_n C 4 rfl dX4_flipped_24 rfl ?_
    refine r_iload_n C 4 rfl dX4_flipped_25 rfl ?_
    refine r_iconst C (v := 3) dX4_flipped_26 (by decide) ?_
    refine r_irem C dX4_flipped_27 (by decide) ?_
    refine r_iconst C (v := 1) dX4_flipped_28 (by decide) ?_
    refine r_icmp_ne C (tgt := 44) dX4_flipped_29 (by decide) (fun hc => ?_) (fun hc => ?_)
    · replace h := br_n hc h
      refine r_lload C 0 rfl dX4_flipped_44 ?_
      replace h := bd_i h
      obtain ⟨hp11, e12, h⟩ := h
      refine k_sJ C e12 dX4_flipped_46 ?_
      refine r_iinc C (v := l3 + 1) (lv' := [(3, .int (l3 + 1)), (4, .long w9), (0, .ref l0), (1, .ref l1), (2, .ref l2)]) 4 rfl dX4_flipped_47 rfl (by decide) rfl ?_
      refine r_goto C (tgt := 7) dX4_flipped_50 (by decide) ?_
      refine r_lv (lv' := [(0, .ref l0), (1, .ref l1), (2, .ref l2), (3, .int (l3 + 1))]) [2, 3, 4, 0] rfl ?_
      exact kl _ (sm_i h)
    · replace h := br_p hc h
      refine r_aload_n C 1 rfl dX4_flipped_32 rfl ?_
      replace h := bd_i h
      obtain ⟨w13, e14, h⟩ := h
      refine k_gR C e14 rfl inX4_ (by decide) flX4_21 dX4_flipped_33 ?_
      refine r_lload C 0 rfl dX4_flipped_36 ?_
      replace h := gd_t h
      obtain ⟨ho15, h⟩ := h
      obtain ⟨_, ho15⟩ := isO_s ho15
      replace h := bd_i h
      obtain ⟨r17, q16, h⟩ := h
      refine q_callV C 2 rc (64 * rc) (k_X0_negative q16) rfl ho15 rfl okX0_negative inX0_negative lkX4_36 rfl (Nat.le_of_ble_eq_true rfl) ⟨by decide, by decide⟩ dX4_flipped_38 (by omega) (by omega) ?_
      refine r_goto C (tgt := 46) dX4_flipped_41 (by decide) ?_
      replace h := bd_i h
      obtain ⟨hp18, e19, h⟩ := h
      refine k_sJ C e19 dX4_flipped_46 ?_
      refine r_iinc C (v := l3 + 1) (lv' := [(3, .int (l3 + 1)), (4, .long w9), (0, .ref l0), (1, .ref l1), (2, .ref l2)]) 4 rfl dX4_flipped_47 rfl (by decide) rfl ?_
      refine r_goto C (tgt := 7) dX4_flipped_50 (by decide) ?_
      refine r_lv (lv' := [(0, .ref l0), (1, .ref l1), (2, .ref l2), (3, .int (l3 + 1))]) [2, 3, 4, 0] rfl ?_
      exact kl _ (sm_i h)
set_option maxHeartbeats 4000000 in
set_option maxRecDepth 100000 in
theorem k_X4_flipped {G : gT} {hp : cH} {sz : Nat} {l0 : Nat} {l1 : Nat} {o0 : Nat} {oh : cH} {oz : Nat} (h : f_X4_flipped hp sz l0 l1 = some (o0, oh, oz)) : aM G yX4_flipped cX4_flipped 6 (some (.array .long)) 1 16 1 (64 * 1) [.ref l0, .ref l1] hp sz ((some (.ref o0), oh, oz) : oT) := by
  refine aM.of RX4 (by decide) rfl (Nat.le_of_ble_eq_true rfl) (fun K C => ?_)
  have hO : ((some (.ref o0), oh, oz) : oT) = ((some (.ref o0), oh, oz) : oT) := rfl
  refine r_lve (lv' := [(0, .ref l0), (1, .ref l1)]) rfl ?_
  unfold f_X4_flipped at h
  refine r_aload_n C 1 rfl dX4_flipped_0 rfl ?_
  replace h := bd_i h
  obtain ⟨w1, e2, h⟩ := h
  refine k_alen C e2 dX4_flipped_1 ?_
  replace h := bd_i h
  obtain ⟨hp3, e4, h⟩ := h
  refine k_nJ C 0 e4 dX4_flipped_2 (by omega) ?_
  refine r_astore_n C (lv' := [(2, .ref sz), (0, .ref l0), (1, .ref l1)]) dX4_flipped_4 rfl (by decide) rfl ?_
  refine r_iconst C (v := 0) dX4_flipped_5 (by decide) ?_
  refine r_istore_n C (lv' := [(3, .int ((0 : Int32))), (2, .ref sz), (0, .ref l0), (1, .ref l1)]) dX4_flipped_6 rfl (by decide) rfl ?_
  refine r_lv (lv' := [(0, .ref l0), (1, .ref l1), (2, .ref sz), (3, .int ((0 : Int32)))]) [2, 3, 1, 0] rfl ?_
  replace h := bd_i h
  obtain ⟨hp20, q21, h⟩ := h
  refine w_X4_flipped_L7 C  q21 ?_
  refine r_aload_n C 0 rfl dX4_flipped_53 rfl ?_
  cases h
  exact r_areturnA C (Or.inr ⟨_, rfl⟩) (Eq.symm hO) dX4_flipped_54
noncomputable def f_X0_times (hp : cH) (l0 : Nat) (l1 : Int64) (l3 : Int64) : Option Int64 := (gJ hp l0 0 0).bind fun w1 => if w1 = 0 then none else some ((l1 * l3) - (l1 * l3) / w1 * w1)
set_option maxHeartbeats 4000000 in
set_option maxRecDepth 100000 in
theorem k_X0_times {G : gT} {hp : cH} {sz : Nat} {l0 : Nat} {l1 : Int64} {l3 : Int64} {o0 : Int64} (h : f_X0_times hp l0 l1 l3 = some o0) : aM G yX0_times cX0_times 5 (some .long) 0 0 0 (64 * 0) [.ref l0, .long l1, .long l3] hp sz ((some (.long o0), hp, sz) : oT) := by
  refine aM.of RX0 (by decide) rfl (Nat.le_of_ble_eq_true rfl) (fun K C => ?_)
  have hO : ((some (.long o0), hp, sz) : oT) = ((some (.long o0), hp, sz) : oT) := rfl
  refine r_lve (lv' := [(0, .ref l0), (1, .long l1), (3, .long l3)]) rfl ?_
  unfold f_X0_times at h
  refine r_lload_n C 1 rfl dX0_times_0 rfl ?_
  refine r_lload_n C 2 rfl dX0_times_1 rfl ?_
  refine r_lmul C dX0_times_2 ?_
  refine r_aload_n C 0 rfl dX0_times_3 rfl ?_
  replace h := bd_i h
  obtain ⟨w1, e2, h⟩ := h
  refine k_gJ C e2 rfl inX0_ (by decide) flX0_15 dX0_times_4 ?_
  replace h := gd_n h
  obtain ⟨hne, h⟩ := h
  refine r_lrem C dX0_times_7 hne ?_
  cases h
  exact r_lreturn C (Eq.symm hO) dX0_times_8
noncomputable def f_X0_plus (hp : cH) (l0 : Nat) (l1 : Int64) (l3 : Int64) : Option Int64 := (gJ hp l0 0 0).bind fun w1 => if w1 = 0 then none else some ((l1 + l3) - (l1 + l3) / w1 * w1)
set_option maxHeartbeats 4000000 in
set_option maxRecDepth 100000 in
theorem k_X0_plus {G : gT} {hp : cH} {sz : Nat} {l0 : Nat} {l1 : Int64} {l3 : Int64} {o0 : Int64} (h : f_X0_plus hp l0 l1 l3 = some o0) : aM G yX0_plus cX0_plus 5 (some .long) 0 0 0 (64 * 0) [.ref l0, .long l1, .long l3] hp sz ((some (.long o0), hp, sz) : oT) := by
  refine aM.of RX0 (by decide) rfl (Nat.le_of_ble_eq_true rfl) (fun K C => ?_)
  have hO : ((some (.long o0), hp, sz) : oT) = ((some (.long o0), hp, sz) : oT) := rfl
  refine r_lve (lv' := [(0, .ref l0), (1, .long l1), (3, .long l3)]) rfl ?_
  unfold f_X0_plus at h
  refine r_lload_n C 1 rfl dX0_plus_0 rfl ?_
  refine r_lload_n C 2 rfl dX0_plus_1 rfl ?_
  refine r_ladd C dX0_plus_2 ?_
  refine r_aload_n C 0 rfl dX0_plus_3 rfl ?_
  replace h := bd_i h
  obtain ⟨w1, e2, h⟩ := h
  refine k_gJ C e2 rfl inX0_ (by decide) flX0_15 dX0_plus_4 ?_
  replace h := gd_n h
  obtain ⟨hne, h⟩ := h
  refine r_lrem C dX0_plus_7 hne ?_
  cases h
  exact r_lreturn C (Eq.symm hO) dX0_plus_8
noncomputable def f_X2_dot_L5 (hp : cH) (l0 : Nat) (l1 : Nat) (l2 : Nat) (l3 : Int64) (l5 : Int32) : Option ((Int64 × Int32) ⊕ Int64) := (aN hp l1).bind fun w1 => if w1 ≤ l5 then (some (.inr l3)) else ((aN hp l2).bind fun w3 => if w3 ≤ l5 then (some (.inr l3)) else ((gR hp l0 2 0).bind fun w5 => (gR hp l0 2 0).bind fun w7 => (lJ hp l1 l5).bind fun w9 => (lJ hp l2 l5).bind fun w11 => if isO hp w7 0 = true then (f_X0_times hp w7 w9 w11).bind fun r15 => if isO hp w5 0 = true then (f_X0_plus hp w5 l3 r15).bind fun r18 => some (.inl (r18, l5 + 1)) else none else none))
noncomputable def f_X2_dot (hp : cH) (l0 : Nat) (l1 : Nat) (l2 : Nat) : Option Int64 := (itX (fun s => f_X2_dot_L5 hp l0 l1 l2 s.1 s.2) ((0 : Int64), (0 : Int32))).bind fun y19 => some y19
set_option maxHeartbeats 4000000 in
set_option maxRecDepth 100000 in
theorem w_X2_dot_L5 {K : kT} {O : oT} (C : aC K cX2_dot RX2 "dot" 1 19 0 (64 * 0) 6 (some .long) O) {hp : cH} {sz : Nat} {l0 : Nat} {l1 : Nat} {l2 : Nat} {l3 : Int64} {l5 : Int32} {e3 : Int64} (h : itX (fun s => f_X2_dot_L5 hp l0 l1 l2 s.1 s.2) (l3, l5) = some e3) (hr : aW K hp sz 0 (64 * 0) 49 [(3, .long e3)] []) : aW K hp sz 0 (64 * 0) 5 [(0, .ref l0), (1, .ref l1), (2, .ref l2), (3, .long l3), (5, .int l5)] [] := by
  refine it_walk (f := fun s => f_X2_dot_L5 hp l0 l1 l2 s.1 s.2) (P := fun s => aW K hp sz 0 (64 * 0) 5 [(0, .ref l0), (1, .ref l1), (2, .ref l2), (3, .long s.1), (5, .int s.2)] []) (R := fun r => aW K hp sz 0 (64 * 0) 49 [(3, .long r)] []) ?_ h hr
  clear h hr
  rintro ⟨l3, l5⟩ x h kl kr
  show aW K hp sz 0 (64 * 0) 5 [(0, .ref l0), (1, .ref l1), (2, .ref l2), (3, .long l3), (5, .int l5)] []
  replace h : f_X2_dot_L5 hp l0 l1 l2 l3 l5 = some x := h
  unfold f_X2_dot_L5 at h
  refine r_iload C 4 rfl dX2_dot_5 ?_
  refine r_aload_n C 1 rfl dX2_dot_7 rfl ?_
  replace h := bd_i h
  obtain ⟨w1, e2, h⟩ := h
  refine k_alen C e2 dX2_dot_8 ?_
  refine r_icmp_ge C (tgt := 49) dX2_dot_9 (by decide) (fun hc => ?_) (fun hc => ?_)
  · replace h := br_p hc h
    refine r_lv (lv' := [(3, .long l3)]) [3] rfl ?_
    exact kr _ (sm_i h)
  · replace h := br_n hc h
    refine r_iload C 4 rfl dX2_dot_12 ?_
    refine r_aload_n C 2 rfl dX2_dot_14 rfl ?_
    replace h := bd_i h
    obtain ⟨w3, e4, h⟩ := h
    refine k_alen C e4 dX2_dot_15 ?_
    refine r_icmp_ge C (tgt := 49) dX2_dot_16 (by decide) (fun hc => ?_) (fun hc => ?_)
    · replace h := br_p hc h
      refine r_lv (lv' := [(3, .long l3)]) [3] rfl ?_
      exact kr _ (sm_i h)
    · replace h := br_n hc h
      refine r_aload_n C 0 rfl dX2_dot_19 rfl ?_
      replace h := bd_i h
      obtain ⟨w5, e6, h⟩ := h
      refine k_gR C e6 rfl inX2_ (by decide) flX2_7 dX2_dot_20 ?_
      refine r_lload_n C 3 rfl dX2_dot_23 rfl ?_
      refine r_aload_n C 0 rfl dX2_dot_24 rfl ?_
      replace h := bd_i h
      obtain ⟨w7, e8, h⟩ := h
      refine k_gR C e8 rfl inX2_ (by decide) flX2_7 dX2_dot_25 ?_
      refine r_aload_n C 1 rfl dX2_dot_28 rfl ?_
      refine r_iload C 4 rfl dX2_dot_29 ?_
      replace h := bd_i h
      obtain ⟨w9, e10, h⟩ := h
      refine k_lJ C e10 dX2_dot_31 ?_
      refine r_aload_n C 2 rfl dX2_dot_32 rfl ?_
      refine r_iload C 4 rfl dX2_dot_33 ?_
      replace h := bd_i h
      obtain ⟨w11, e12, h⟩ := h
      refine k_lJ C e12 dX2_dot_35 ?_
      replace h := gd_t h
      obtain ⟨ho13, h⟩ := h
      obtain ⟨_, ho13⟩ := isO_s ho13
      replace h := bd_i h
      obtain ⟨r15, q14, h⟩ := h
      refine q_callV C 3 0 (64 * 0) (k_X0_times q14) rfl ho13 rfl okX0_times inX0_times lkX2_37 rfl (Nat.le_of_ble_eq_true rfl) ⟨by decide, by decide⟩ dX2_dot_36 (by omega) (by omega) ?_
      replace h := gd_t h
      obtain ⟨ho16, h⟩ := h
      obtain ⟨_, ho16⟩ := isO_s ho16
      replace h := bd_i h
      obtain ⟨r18, q17, h⟩ := h
      refine q_callV C 0 0 (64 * 0) (k_X0_plus q17) rfl ho16 rfl okX0_plus inX0_plus lkX2_41 rfl (Nat.le_of_ble_eq_true rfl) ⟨by decide, by decide⟩ dX2_dot_39 (by omega) (by omega) ?_
      refine r_lstore_n C (lv' := [(3, .long r18), (0, .ref l0), (1, .ref l1), (2, .ref l2), (5, .int l5)]) dX2_dot_42 rfl (by decide) rfl ?_
      refine r_iinc C (v := l5 + 1) (lv' := [(5, .int (l5 + 1)), (3, .long r18), (0, .ref l0), (1, .ref l1), (2, .ref l2)]) 4 rfl dX2_dot_43 rfl (by decide) rfl ?_
      refine r_goto C (tgt := 5) dX2_dot_46 (by decide) ?_
      refine r_lv (lv' := [(0, .ref l0), (1, .ref l1), (2, .ref l2), (3, .long r18), (5, .int (l5 + 1))]) [2, 3, 4, 1, 0] rfl ?_
      exact kl _ (sm_i h)
set_option maxHeartbeats 4000000 in
set_option maxRecDepth 100000 in
theorem k_X2_dot {G : gT} {hp : cH} {sz : Nat} {l0 : Nat} {l1 : Nat} {l2 : Nat} {o0 : Int64} (h : f_X2_dot hp l0 l1 l2 = some o0) : aM G yX2_dot cX2_dot 6 (some .long) 1 19 0 (64 * 0) [.ref l0, .ref l1, .ref l2] hp sz ((some (.long o0), hp, sz) : oT) := by
  refine aM.of RX2 (by decide) rfl (Nat.le_of_ble_eq_true rfl) (fun K C => ?_)
  have hO : ((some (.long o0), hp, sz) : oT) = ((some (.long o0), hp, sz) : oT) := rfl
  refine r_lve (lv' := [(0, .ref l0), (1, .ref l1), (2, .ref l2)]) rfl ?_
  unfold f_X2_dot at h
  refine r_lconst C (v := 0) dX2_dot_0 (by decide) ?_
  refine r_lstore_n C (lv' := [(3, .long ((0 : Int64))), (0, .ref l0), (1, .ref l1), (2, .ref l2)]) dX2_dot_1 rfl (by decide) rfl ?_
  refine r_iconst C (v := 0) dX2_dot_2 (by decide) ?_
  refine r_istore C (lv' := [(5, .int ((0 : Int32))), (3, .long ((0 : Int64))), (0, .ref l0), (1, .ref l1), (2, .ref l2)]) dX2_dot_3 (by decide) rfl ?_
  refine r_lv (lv' := [(0, .ref l0), (1, .ref l1), (2, .ref l2), (3, .long ((0 : Int64))), (5, .int ((0 : Int32)))]) [2, 3, 4, 1, 0] rfl ?_
  replace h := bd_i h
  obtain ⟨y19, q20, h⟩ := h
  refine w_X2_dot_L5 C  q20 ?_
  refine r_lload_n C 0 rfl dX2_dot_49 rfl ?_
  cases h
  exact r_lreturn C (Eq.symm hO) dX2_dot_50
noncomputable def f_X4_linesMeet (hp : cH) (sz : Nat) (l0 : Nat) (l1 : Nat) (l2 : Nat) : Option (Int32 × cH × Nat) := (gR hp l0 4 0).bind fun w1 => if isO hp l0 4 = true then (f_X4_flipped hp sz l0 l2).bind fun (r5, hp6, z7) => if isO hp6 w1 2 = true then (f_X2_dot hp6 w1 l1 r5).bind fun r10 => if r10 = ((0 : Int64)) then (some ((1 : Int32), hp6, z7)) else (some ((0 : Int32), hp6, z7)) else none else none
set_option maxHeartbeats 4000000 in
set_option maxRecDepth 100000 in
theorem k_X4_linesMeet {G : gT} {hp : cH} {sz : Nat} {l0 : Nat} {l1 : Nat} {l2 : Nat} {o0 : Int32} {oh : cH} {oz : Nat} (h : f_X4_linesMeet hp sz l0 l1 l2 = some (o0, oh, oz)) : aM G yX4_linesMeet cX4_linesMeet 3 (some .boolean) 2 36 1 (64 * 1) [.ref l0, .ref l1, .ref l2] hp sz ((some (.int o0), oh, oz) : oT) := by
  refine aM.of RX4 (by decide) rfl (Nat.le_of_ble_eq_true rfl) (fun K C => ?_)
  have hO : ((some (.int o0), oh, oz) : oT) = ((some (.int o0), oh, oz) : oT) := rfl
  refine r_lve (lv' := [(0, .ref l0), (1, .ref l1), (2, .ref l2)]) rfl ?_
  unfold f_X4_linesMeet at h
  refine r_aload_n C 0 rfl dX4_linesMeet_0 rfl ?_
  replace h := bd_i h
  obtain ⟨w1, e2, h⟩ := h
  refine k_gR C e2 rfl inX4_ (by decide) flX4_9 dX4_linesMeet_1 ?_
  refine r_aload_n C 1 rfl dX4_linesMeet_4 rfl ?_
  refine r_aload_n C 0 rfl dX4_linesMeet_5 rfl ?_
  refine r_aload_n C 2 rfl dX4_linesMeet_6 rfl ?_
  replace h := gd_t h
  obtain ⟨ho3, h⟩ := h
  obtain ⟨_, ho3⟩ := isO_s ho3
  replace h := bd_i h
  obtain ⟨⟨r5, hp6, z7⟩, q4, h⟩ := h
  refine q_callV C 2 0 (64 * 0) (k_X4_flipped q4) rfl ho3 rfl okX4_flipped inX4_flipped lkX4_48 rfl (Nat.le_of_ble_eq_true rfl) ⟨by decide, by decide⟩ dX4_linesMeet_7 (by omega) (by omega) ?_
  replace h := gd_t h
  obtain ⟨ho8, h⟩ := h
  obtain ⟨_, ho8⟩ := isO_s ho8
  replace h := bd_i h
  obtain ⟨r10, q9, h⟩ := h
  refine q_callV C 0 0 (64 * 0) (k_X2_dot q9) rfl ho8 rfl okX2_dot inX2_dot lkX4_76 rfl (Nat.le_of_ble_eq_true rfl) ⟨by decide, by decide⟩ dX4_linesMeet_10 (by omega) (by omega) ?_
  refine r_lconst C (v := 0) dX4_linesMeet_13 (by decide) ?_
  refine r_lne C (tgt := 22) dX4_linesMeet_14 dX4_linesMeet_15 (by decide) (fun hc => ?_) (fun hc => ?_)
  · replace h := br_n hc h
    refine r_iconst C (v := 0) dX4_linesMeet_22 (by decide) ?_
    cases h
    exact r_zreturn C rfl (Eq.symm hO) dX4_linesMeet_23
  · replace h := br_p hc h
    refine r_iconst C (v := 1) dX4_linesMeet_18 (by decide) ?_
    refine r_goto C (tgt := 23) dX4_linesMeet_19 (by decide) ?_
    cases h
    exact r_zreturn C rfl (Eq.symm hO) dX4_linesMeet_23
noncomputable def f_X2_linesOf_L13 (l0 : Nat) (l1 : Nat) (l3 : Nat) (l4 : Int32) (hp : cH) : Option ((Int32 × cH) ⊕ cH) := (gI hp l0 2 1).bind fun w6 => if w6 ≤ l4 then (some (.inr hp)) else ((gI hp l0 2 1).bind fun w8 => (lR 3 hp l3 l4).bind fun u10 => (gI hp l0 2 1).bind fun w12 => u10.bind fun a14 => (cpJ hp l1 (l4 * w8) a14 ((0 : Int32)) w12).bind fun hp16 => some (.inl (l4 + 1, hp16)))
noncomputable def f_X2_linesOf (hp : cH) (sz : Nat) (l0 : Nat) (l1 : Nat) (l2 : Int32) : Option (Nat × cH × Nat) := (gI hp l0 2 1).bind fun w1 => (nM hp sz w1 l2).bind fun (hp3, z4) => (itX (fun s => f_X2_linesOf_L13 l0 l1 sz s.1 s.2) ((0 : Int32), hp3)).bind fun hp18 => some (sz, hp18, z4)
set_option maxHeartbeats 4000000 in
set_option maxRecDepth 100000 in
theorem w_X2_linesOf_L13 {K : kT} {O : oT} (C : aC K cX2_linesOf RX2 "linesOf" 1 30 10 (64 * 10) 5 (some (.array (.array .long))) O) {hp : cH} {sz rc : Nat} {l0 : Nat} {l1 : Nat} {l3 : Nat} {l4 : Int32} {eh : cH} (h : itX (fun s => f_X2_linesOf_L13 l0 l1 l3 s.1 s.2) (l4, hp) = some eh) (hr : aW K eh sz rc (64 * rc) 48 [(3, .ref l3)] []) : aW K hp sz rc (64 * rc) 13 [(0, .ref l0), (1, .ref l1), (3, .ref l3), (4, .int l4)] [] := by
  refine it_walk (f := fun s => f_X2_linesOf_L13 l0 l1 l3 s.1 s.2) (P := fun s => aW K s.2 sz rc (64 * rc) 13 [(0, .ref l0), (1, .ref l1), (3, .ref l3), (4, .int s.1)] []) (R := fun r => aW K r sz rc (64 * rc) 48 [(3, .ref l3)] []) ?_ h hr
  clear h hr
  rintro ⟨l4, hp⟩ x h kl kr
  show aW K hp sz rc (64 * rc) 13 [(0, .ref l0), (1, .ref l1), (3, .ref l3), (4, .int l4)] []
  replace h : f_X2_linesOf_L13 l0 l1 l3 l4 hp = some x := h
  unfold f_X2_linesOf_L13 at h
  refine r_iload C 3 rfl dX2_linesOf_13 ?_
  refine r_aload_n C 0 rfl dX2_linesOf_15 rfl ?_
  replace h := bd_i h
  obtain ⟨w6, e7, h⟩ := h
  refine k_gI C e7 rfl inX2_ (by decide) flX2_13 dX2_linesOf_16 ?_
  refine r_icmp_ge C (tgt := 48) dX2_linesOf_19 (by decide) (fun hc => ?_) (fun hc => ?_)
  · replace h := br_p hc h
    refine r_lv (lv' := [(3, .ref l3)]) [2] rfl ?_
    exact kr _ (sm_i h)
  · replace h := br_n hc h
    refine r_aload_n C 1 rfl dX2_linesOf_22 rfl ?_
    refine r_iload C 3 rfl dX2_linesOf_23 ?_
    refine r_aload_n C 0 rfl dX2_linesOf_25 rfl ?_
    replace h := bd_i h
    obtain ⟨w8, e9, h⟩ := h
    refine k_gI C e9 rfl inX2_ (by decide) flX2_13 dX2_linesOf_26 ?_
    refine r_imul C dX2_linesOf_29 ?_
    refine r_aload_n C 2 rfl dX2_linesOf_30 rfl ?_
    refine r_iload C 3 rfl dX2_linesOf_31 ?_
    replace h := bd_i h
    obtain ⟨u10, e11, h⟩ := h
    refine k_lR C (by decide) e11 dX2_linesOf_33 ?_
    refine r_iconst C (v := 0) dX2_linesOf_34 (by decide) ?_
    refine r_aload_n C 0 rfl dX2_linesOf_35 rfl ?_
    replace h := bd_i h
    obtain ⟨w12, e13, h⟩ := h
    refine k_gI C e13 rfl inX2_ (by decide) flX2_13 dX2_linesOf_36 ?_
    replace h := bd_i h
    obtain ⟨a14, e15, h⟩ := h
    subst e15
    replace h := bd_i h
    obtain ⟨hp16, e17, h⟩ := h
    refine k_cp C lkX2_67 e17 ⟨by decide, (by decide)⟩ dX2_linesOf_39 ?_
    refine r_iinc C (v := l4 + 1) (lv' := [(4, .int (l4 + 1)), (0, .ref l0), (1, .ref l1), (3, .ref l3)]) 3 rfl dX2_linesOf_42 rfl (by decide) rfl ?_
    refine r_goto C (tgt := 13) dX2_linesOf_45 (by decide) ?_
    refine r_lv (lv' := [(0, .ref l0), (1, .ref l1), (3, .ref l3), (4, .int (l4 + 1))]) [1, 2, 3, 0] rfl ?_
    exact kl _ (sm_i h)
set_option maxHeartbeats 4000000 in
set_option maxRecDepth 100000 in
theorem k_X2_linesOf {G : gT} {hp : cH} {sz : Nat} {l0 : Nat} {l1 : Nat} {l2 : Int32} {o0 : Nat} {oh : cH} {oz : Nat} (h : f_X2_linesOf hp sz l0 l1 l2 = some (o0, oh, oz)) : aM G yX2_linesOf cX2_linesOf 5 (some (.array (.array .long))) 1 30 10 (64 * 10) [.ref l0, .ref l1, .int l2] hp sz ((some (.ref o0), oh, oz) : oT) := by
  refine aM.of RX2 (by decide) rfl (Nat.le_of_ble_eq_true rfl) (fun K C => ?_)
  have hO : ((some (.ref o0), oh, oz) : oT) = ((some (.ref o0), oh, oz) : oT) := rfl
  refine r_lve (lv' := [(0, .ref l0), (1, .ref l1), (2, .int l2)]) rfl ?_
  unfold f_X2_linesOf at h
  refine r_aload_n C 0 rfl dX2_linesOf_0 rfl ?_
  replace h := bd_i h
  obtain ⟨w1, e2, h⟩ := h
  refine k_gI C e2 rfl inX2_ (by decide) flX2_13 dX2_linesOf_1 ?_
  refine r_iload_n C 2 rfl dX2_linesOf_4 rfl ?_
  replace h := bd_i h
  obtain ⟨⟨hp3, z4⟩, e5, h⟩ := h
  refine k_nMM C 0 cnX2_73 e5 dX2_linesOf_5 (by omega) ?_
  refine r_astore_n C (lv' := [(3, .ref sz), (0, .ref l0), (1, .ref l1), (2, .int l2)]) dX2_linesOf_9 rfl (by decide) rfl ?_
  refine r_iconst C (v := 0) dX2_linesOf_10 (by decide) ?_
  refine r_istore C (lv' := [(4, .int ((0 : Int32))), (3, .ref sz), (0, .ref l0), (1, .ref l1), (2, .int l2)]) dX2_linesOf_11 (by decide) rfl ?_
  refine r_lv (lv' := [(0, .ref l0), (1, .ref l1), (3, .ref sz), (4, .int ((0 : Int32)))]) [2, 3, 1, 0] rfl ?_
  replace h := bd_i h
  obtain ⟨hp18, q19, h⟩ := h
  refine w_X2_linesOf_L13 C  q19 ?_
  refine r_aload_n C 0 rfl dX2_linesOf_48 rfl ?_
  cases h
  exact r_areturnA C (Or.inr ⟨_, rfl⟩) (Eq.symm hO) dX2_linesOf_49
noncomputable def f_X0_power_L9J37 (hp : cH) (l0 : Nat) (l5 : Int64) (l7 : Int64) (l9 : Int64) : Option ((Int64 × Int64 × Int64) ⊕ Int64) := (gJ hp l0 0 0).bind fun w1 => if w1 = 0 then none else some (.inl (l5, (l7 * l7) - (l7 * l7) / w1 * w1, l9 >>> (((1 : Int32)).toInt64 &&& 63)))
noncomputable def f_X0_power_L9 (hp : cH) (l0 : Nat) (l5 : Int64) (l7 : Int64) (l9 : Int64) : Option ((Int64 × Int64 × Int64) ⊕ Int64) := if l9 ≤ ((0 : Int64)) then (some (.inr l5)) else (if (l9 &&& ((1 : Int64))) = ((1 : Int64)) then ((gJ hp l0 0 0).bind fun w3 => if w3 = 0 then none else f_X0_power_L9J37 hp l0 ((l5 * l7) - (l5 * l7) / w3 * w3) l7 l9) else (f_X0_power_L9J37 hp l0 l5 l7 l9))
noncomputable def f_X0_power (hp : cH) (l0 : Nat) (l1 : Int64) (l3 : Int64) : Option Int64 := (itX (fun s => f_X0_power_L9 hp l0 s.1 s.2.1 s.2.2) ((1 : Int64), l1, l3)).bind fun y5 => some y5
set_option maxHeartbeats 4000000 in
set_option maxRecDepth 100000 in
theorem w_X0_power_L9J37 {K : kT} {O : oT} (C : aC K cX0_power RX0 "power" 0 0 0 (64 * 0) 11 (some .long) O) {hp : cH} {sz : Nat} {l0 : Nat} {l5 : Int64} {l7 : Int64} {l9 : Int64}  {x : (Int64 × Int64 × Int64) ⊕ Int64} (h : f_X0_power_L9J37 hp l0 l5 l7 l9 = some x) (kl : ∀ s, x = .inl s → aW K hp sz 0 (64 * 0) 9 [(0, .ref l0), (5, .long s.1), (7, .long s.2.1), (9, .long s.2.2)] []) (kr : ∀ r, x = .inr r → aW K hp sz 0 (64 * 0) 58 [(5, .long r)] []) : aW K hp sz 0 (64 * 0) 37 [(0, .ref l0), (5, .long l5), (7, .long l7), (9, .long l9)] [] := by
  unfold f_X0_power_L9J37 at h
  refine r_lload C 2 rfl dX0_power_37 ?_
  refine r_lload C 2 rfl dX0_power_39 ?_
  refine r_lmul C dX0_power_41 ?_
  refine r_aload_n C 0 rfl dX0_power_42 rfl ?_
  replace h := bd_i h
  obtain ⟨w1, e2, h⟩ := h
  refine k_gJ C e2 rfl inX0_ (by decide) flX0_15 dX0_power_43 ?_
  replace h := gd_n h
  obtain ⟨hne, h⟩ := h
  refine r_lrem C dX0_power_46 hne ?_
  refine r_lstore C (lv' := [(7, .long ((l7 * l7) - (l7 * l7) / w1 * w1)), (0, .ref l0), (5, .long l5), (9, .long l9)]) dX0_power_47 (by decide) rfl ?_
  refine r_lload C 3 rfl dX0_power_49 ?_
  refine r_iconst C (v := 1) dX0_power_51 (by decide) ?_
  refine r_lshr C dX0_power_52 ?_
  refine r_lstore C (lv' := [(9, .long (l9 >>> (((1 : Int32)).toInt64 &&& 63))), (7, .long ((l7 * l7) - (l7 * l7) / w1 * w1)), (0, .ref l0), (5, .long l5)]) dX0_power_53 (by decide) rfl ?_
  refine r_goto C (tgt := 9) dX0_power_55 (by decide) ?_
  refine r_lv (lv' := [(0, .ref l0), (5, .long l5), (7, .long ((l7 * l7) - (l7 * l7) / w1 * w1)), (9, .long (l9 >>> (((1 : Int32)).toInt64 &&& 63)))]) [2, 3, 1, 0] rfl ?_
  exact kl _ (sm_i h)
set_option maxHeartbeats 4000000 in
set_option maxRecDepth 100000 in
theorem w_X0_power_L9 {K : kT} {O : oT} (C : aC K cX0_power RX0 "power" 0 0 0 (64 * 0) 11 (some .long) O) {hp : cH} {sz : Nat} {l0 : Nat} {l5 : Int64} {l7 : Int64} {l9 : Int64} {e5 : Int64} (h : itX (fun s => f_X0_power_L9 hp l0 s.1 s.2.1 s.2.2) (l5, l7, l9) = some e5) (hr : aW K hp sz 0 (64 * 0) 58 [(5, .long e5)] []) : aW K hp sz 0 (64 * 0) 9 [(0, .ref l0), (5, .long l5), (7, .long l7), (9, .long l9)] [] := by
  refine it_walk (f := fun s => f_X0_power_L9 hp l0 s.1 s.2.1 s.2.2) (P := fun s => aW K hp sz 0 (64 * 0) 9 [(0, .ref l0), (5, .long s.1), (7, .long s.2.1), (9, .long s.2.2)] []) (R := fun r => aW K hp sz 0 (64 * 0) 58 [(5, .long r)] []) ?_ h hr
  clear h hr
  rintro ⟨l5, l7, l9⟩ x h kl kr
  show aW K hp sz 0 (64 * 0) 9 [(0, .ref l0), (5, .long l5), (7, .long l7), (9, .long l9)] []
  replace h : f_X0_power_L9 hp l0 l5 l7 l9 = some x := h
  unfold f_X0_power_L9 at h
  refine r_lload C 3 rfl dX0_power_9 ?_
  refine r_lconst C (v := 0) dX0_power_11 (by decide) ?_
  refine r_lle C (tgt := 58) dX0_power_12 dX0_power_13 (by decide) (fun hc => ?_) (fun hc => ?_)
  · replace h := br_p hc h
    refine r_lv (lv' := [(5, .long l5)]) [1] rfl ?_
    exact kr _ (sm_i h)
  · replace h := br_n hc h
    refine r_lload C 3 rfl dX0_power_16 ?_
    refine r_lconst C (v := 1) dX0_power_18 (by decide) ?_
    refine r_land C dX0_power_19 ?_
    refine r_lconst C (v := 1) dX0_power_20 (by decide) ?_
    refine r_lne C (tgt := 37) dX0_power_21 dX0_power_22 (by decide) (fun hc => ?_) (fun hc => ?_)
    · replace h := br_n hc h
      refine r_lv (lv' := [(0, .ref l0), (5, .long l5), (7, .long l7), (9, .long l9)]) [0, 1, 2, 3] rfl ?_
      exact w_X0_power_L9J37 C  h kl kr
    · replace h := br_p hc h
      refine r_lload C 1 rfl dX0_power_25 ?_
      refine r_lload C 2 rfl dX0_power_27 ?_
      refine r_lmul C dX0_power_29 ?_
      refine r_aload_n C 0 rfl dX0_power_30 rfl ?_
      replace h := bd_i h
      obtain ⟨w3, e4, h⟩ := h
      refine k_gJ C e4 rfl inX0_ (by decide) flX0_15 dX0_power_31 ?_
      replace h := gd_n h
      obtain ⟨hne, h⟩ := h
      refine r_lrem C dX0_power_34 hne ?_
      refine r_lstore C (lv' := [(5, .long ((l5 * l7) - (l5 * l7) / w3 * w3)), (0, .ref l0), (7, .long l7), (9, .long l9)]) dX0_power_35 (by decide) rfl ?_
      refine r_lv (lv' := [(0, .ref l0), (5, .long ((l5 * l7) - (l5 * l7) / w3 * w3)), (7, .long l7), (9, .long l9)]) [1, 0, 2, 3] rfl ?_
      exact w_X0_power_L9J37 C  h kl kr
set_option maxHeartbeats 4000000 in
set_option maxRecDepth 100000 in
theorem k_X0_power {G : gT} {hp : cH} {sz : Nat} {l0 : Nat} {l1 : Int64} {l3 : Int64} {o0 : Int64} (h : f_X0_power hp l0 l1 l3 = some o0) : aM G yX0_power cX0_power 11 (some .long) 0 0 0 (64 * 0) [.ref l0, .long l1, .long l3] hp sz ((some (.long o0), hp, sz) : oT) := by
  refine aM.of RX0 (by decide) rfl (Nat.le_of_ble_eq_true rfl) (fun K C => ?_)
  have hO : ((some (.long o0), hp, sz) : oT) = ((some (.long o0), hp, sz) : oT) := rfl
  refine r_lve (lv' := [(0, .ref l0), (1, .long l1), (3, .long l3)]) rfl ?_
  unfold f_X0_power at h
  refine r_lconst C (v := 1) dX0_power_0 (by decide) ?_
  refine r_lstore C (lv' := [(5, .long ((1 : Int64))), (0, .ref l0), (1, .long l1), (3, .long l3)]) dX0_power_1 (by decide) rfl ?_
  refine r_lload_n C 2 rfl dX0_power_3 rfl ?_
  refine r_lstore C (lv' := [(7, .long l1), (5, .long ((1 : Int64))), (0, .ref l0), (1, .long l1), (3, .long l3)]) dX0_power_4 (by decide) rfl ?_
  refine r_lload_n C 4 rfl dX0_power_6 rfl ?_
  refine r_lstore C (lv' := [(9, .long l3), (7, .long l1), (5, .long ((1 : Int64))), (0, .ref l0), (1, .long l1), (3, .long l3)]) dX0_power_7 (by decide) rfl ?_
  refine r_lv (lv' := [(0, .ref l0), (5, .long ((1 : Int64))), (7, .long l1), (9, .long l3)]) [3, 2, 1, 0] rfl ?_
  replace h := bd_i h
  obtain ⟨y5, q6, h⟩ := h
  refine w_X0_power_L9 C  q6 ?_
  refine r_lload C 0 rfl dX0_power_58 ?_
  cases h
  exact r_lreturn C (Eq.symm hO) dX0_power_60
noncomputable def f_X0_reciprocal (hp : cH) (l0 : Nat) (l1 : Int64) : Option Int64 := (gJ hp l0 0 0).bind fun w1 => if isO hp l0 0 = true then (f_X0_power hp l0 l1 (w1 - ((2 : Int64)))).bind fun r5 => some r5 else none
set_option maxHeartbeats 4000000 in
set_option maxRecDepth 100000 in
theorem k_X0_reciprocal {G : gT} {hp : cH} {sz : Nat} {l0 : Nat} {l1 : Int64} {o0 : Int64} (h : f_X0_reciprocal hp l0 l1 = some o0) : aM G yX0_reciprocal cX0_reciprocal 3 (some .long) 1 22 0 (64 * 0) [.ref l0, .long l1] hp sz ((some (.long o0), hp, sz) : oT) := by
  refine aM.of RX0 (by decide) rfl (Nat.le_of_ble_eq_true rfl) (fun K C => ?_)
  have hO : ((some (.long o0), hp, sz) : oT) = ((some (.long o0), hp, sz) : oT) := rfl
  refine r_lve (lv' := [(0, .ref l0), (1, .long l1)]) rfl ?_
  unfold f_X0_reciprocal at h
  refine r_aload_n C 0 rfl dX0_reciprocal_0 rfl ?_
  refine r_lload_n C 1 rfl dX0_reciprocal_1 rfl ?_
  refine r_aload_n C 0 rfl dX0_reciprocal_2 rfl ?_
  replace h := bd_i h
  obtain ⟨w1, e2, h⟩ := h
  refine k_gJ C e2 rfl inX0_ (by decide) flX0_15 dX0_reciprocal_3 ?_
  refine r_ldc2 C (v := 2) clX0_25 dX0_reciprocal_6 ?_
  refine r_lsub C dX0_reciprocal_9 ?_
  replace h := gd_t h
  obtain ⟨ho3, h⟩ := h
  obtain ⟨_, ho3⟩ := isO_s ho3
  replace h := bd_i h
  obtain ⟨r5, q4, h⟩ := h
  refine q_callV C 0 0 (64 * 0) (k_X0_power q4) rfl ho3 rfl okX0_power inX0_power lkX0_27 rfl (Nat.le_of_ble_eq_true rfl) ⟨by decide, by decide⟩ dX0_reciprocal_10 (by omega) (by omega) ?_
  cases h
  exact r_lreturn C (Eq.symm hO) dX0_reciprocal_13
noncomputable def f_X2_scale_L3 (l0 : Nat) (l1 : Nat) (l2 : Int64) (l4 : Int32) (hp : cH) : Option ((Int32 × cH) ⊕ cH) := (aN hp l1).bind fun w1 => if w1 ≤ l4 then (some (.inr hp)) else ((gR hp l0 2 0).bind fun w3 => (lJ hp l1 l4).bind fun w5 => if isO hp w3 0 = true then (f_X0_times hp w3 w5 l2).bind fun r9 => (sJ hp l1 l4 r9).bind fun hp10 => some (.inl (l4 + 1, hp10)) else none)
noncomputable def f_X2_scale (hp : cH) (l0 : Nat) (l1 : Nat) (l2 : Int64) : Option cH := (itX (fun s => f_X2_scale_L3 l0 l1 l2 s.1 s.2) ((0 : Int32), hp)).bind fun hp12 => some hp12
set_option maxHeartbeats 4000000 in
set_option maxRecDepth 100000 in
theorem w_X2_scale_L3 {K : kT} {O : oT} (C : aC K cX2_scale RX2 "scale" 1 18 0 (64 * 0) 5 none O) {hp : cH} {sz : Nat} {l0 : Nat} {l1 : Nat} {l2 : Int64} {l4 : Int32} {eh : cH} (h : itX (fun s => f_X2_scale_L3 l0 l1 l2 s.1 s.2) (l4, hp) = some eh) (hr : aW K eh sz 0 (64 * 0) 32 [] []) : aW K hp sz 0 (64 * 0) 3 [(0, .ref l0), (1, .ref l1), (2, .long l2), (4, .int l4)] [] := by
  refine it_walk (f := fun s => f_X2_scale_L3 l0 l1 l2 s.1 s.2) (P := fun s => aW K s.2 sz 0 (64 * 0) 3 [(0, .ref l0), (1, .ref l1), (2, .long l2), (4, .int s.1)] []) (R := fun r => aW K r sz 0 (64 * 0) 32 [] []) ?_ h hr
  clear h hr
  rintro ⟨l4, hp⟩ x h kl kr
  show aW K hp sz 0 (64 * 0) 3 [(0, .ref l0), (1, .ref l1), (2, .long l2), (4, .int l4)] []
  replace h : f_X2_scale_L3 l0 l1 l2 l4 hp = some x := h
  unfold f_X2_scale_L3 at h
  refine r_iload C 3 rfl dX2_scale_3 ?_
  refine r_aload_n C 1 rfl dX2_scale_5 rfl ?_
  replace h := bd_i h
  obtain ⟨w1, e2, h⟩ := h
  refine k_alen C e2 dX2_scale_6 ?_
  refine r_icmp_ge C (tgt := 32) dX2_scale_7 (by decide) (fun hc => ?_) (fun hc => ?_)
  · replace h := br_p hc h
    refine r_lv (lv' := []) [] rfl ?_
    exact kr _ (sm_i h)
  · replace h := br_n hc h
    refine r_aload_n C 1 rfl dX2_scale_10 rfl ?_
    refine r_iload C 3 rfl dX2_scale_11 ?_
    refine r_aload_n C 0 rfl dX2_scale_13 rfl ?_
    replace h := bd_i h
    obtain ⟨w3, e4, h⟩ := h
    refine k_gR C e4 rfl inX2_ (by decide) flX2_7 dX2_scale_14 ?_
    refine r_aload_n C 1 rfl dX2_scale_17 rfl ?_
    refine r_iload C 3 rfl dX2_scale_18 ?_
    replace h := bd_i h
    obtain ⟨w5, e6, h⟩ := h
    refine k_lJ C e6 dX2_scale_20 ?_
    refine r_lload_n C 2 rfl dX2_scale_21 rfl ?_
    replace h := gd_t h
    obtain ⟨ho7, h⟩ := h
    obtain ⟨_, ho7⟩ := isO_s ho7
    replace h := bd_i h
    obtain ⟨r9, q8, h⟩ := h
    refine q_callV C 2 0 (64 * 0) (k_X0_times q8) rfl ho7 rfl okX0_times inX0_times lkX2_37 rfl (Nat.le_of_ble_eq_true rfl) ⟨by decide, by decide⟩ dX2_scale_22 (by omega) (by omega) ?_
    replace h := bd_i h
    obtain ⟨hp10, e11, h⟩ := h
    refine k_sJ C e11 dX2_scale_25 ?_
    refine r_iinc C (v := l4 + 1) (lv' := [(4, .int (l4 + 1)), (0, .ref l0), (1, .ref l1), (2, .long l2)]) 3 rfl dX2_scale_26 rfl (by decide) rfl ?_
    refine r_goto C (tgt := 3) dX2_scale_29 (by decide) ?_
    refine r_lv (lv' := [(0, .ref l0), (1, .ref l1), (2, .long l2), (4, .int (l4 + 1))]) [1, 2, 3, 0] rfl ?_
    exact kl _ (sm_i h)
set_option maxHeartbeats 4000000 in
set_option maxRecDepth 100000 in
theorem k_X2_scale {G : gT} {hp : cH} {sz : Nat} {l0 : Nat} {l1 : Nat} {l2 : Int64} {oh : cH} (h : f_X2_scale hp l0 l1 l2 = some oh) : aM G yX2_scale cX2_scale 5 none 1 18 0 (64 * 0) [.ref l0, .ref l1, .long l2] hp sz ((none, oh, sz) : oT) := by
  refine aM.of RX2 (by decide) rfl (Nat.le_of_ble_eq_true rfl) (fun K C => ?_)
  have hO : ((none, oh, sz) : oT) = ((none, oh, sz) : oT) := rfl
  refine r_lve (lv' := [(0, .ref l0), (1, .ref l1), (2, .long l2)]) rfl ?_
  unfold f_X2_scale at h
  refine r_iconst C (v := 0) dX2_scale_0 (by decide) ?_
  refine r_istore C (lv' := [(4, .int ((0 : Int32))), (0, .ref l0), (1, .ref l1), (2, .long l2)]) dX2_scale_1 (by decide) rfl ?_
  refine r_lv (lv' := [(0, .ref l0), (1, .ref l1), (2, .long l2), (4, .int ((0 : Int32)))]) [1, 2, 3, 0] rfl ?_
  replace h := bd_i h
  obtain ⟨hp12, q13, h⟩ := h
  refine w_X2_scale_L3 C  q13 ?_
  cases h
  exact r_return C (Eq.symm hO) dX2_scale_32
noncomputable def f_X0_minus (hp : cH) (l0 : Nat) (l1 : Int64) (l3 : Int64) : Option Int64 := (gJ hp l0 0 0).bind fun w1 => (gJ hp l0 0 0).bind fun w3 => if w3 = 0 then none else some (((l1 + w1) - l3) - ((l1 + w1) - l3) / w3 * w3)
set_option maxHeartbeats 4000000 in
set_option maxRecDepth 100000 in
theorem k_X0_minus {G : gT} {hp : cH} {sz : Nat} {l0 : Nat} {l1 : Int64} {l3 : Int64} {o0 : Int64} (h : f_X0_minus hp l0 l1 l3 = some o0) : aM G yX0_minus cX0_minus 5 (some .long) 0 0 0 (64 * 0) [.ref l0, .long l1, .long l3] hp sz ((some (.long o0), hp, sz) : oT) := by
  refine aM.of RX0 (by decide) rfl (Nat.le_of_ble_eq_true rfl) (fun K C => ?_)
  have hO : ((some (.long o0), hp, sz) : oT) = ((some (.long o0), hp, sz) : oT) := rfl
  refine r_lve (lv' := [(0, .ref l0), (1, .long l1), (3, .long l3)]) rfl ?_
  unfold f_X0_minus at h
  refine r_lload_n C 1 rfl dX0_minus_0 rfl ?_
  refine r_aload_n C 0 rfl dX0_minus_1 rfl ?_
  replace h := bd_i h
  obtain ⟨w1, e2, h⟩ := h
  refine k_gJ C e2 rfl inX0_ (by decide) flX0_15 dX0_minus_2 ?_
  refine r_ladd C dX0_minus_5 ?_
  refine r_lload_n C 2 rfl dX0_minus_6 rfl ?_
  refine r_lsub C dX0_minus_7 ?_
  refine r_aload_n C 0 rfl dX0_minus_8 rfl ?_
  replace h := bd_i h
  obtain ⟨w3, e4, h⟩ := h
  refine k_gJ C e4 rfl inX0_ (by decide) flX0_15 dX0_minus_9 ?_
  replace h := gd_n h
  obtain ⟨hne, h⟩ := h
  refine r_lrem C dX0_minus_12 hne ?_
  cases h
  exact r_lreturn C (Eq.symm hO) dX0_minus_13
noncomputable def f_X2_clearColumn_L3J93 (hp : cH) (l4 : Int32) : Option ((Int32 × cH) ⊕ cH) := some (.inl (l4 + 1, hp))
noncomputable def f_X2_clearColumn_L37 (l0 : Nat) (l1 : Nat) (l2 : Int32) (l4 : Int32) (l5 : Int64) (l7 : Int32) (hp : cH) : Option ((Int32 × cH) ⊕ cH) := (lR 3 hp l1 l4).bind fun u9 => u9.bind fun a11 => (aN hp a11).bind fun w13 => if w13 ≤ l7 then (some (.inr hp)) else ((gR hp l0 2 0).bind fun w15 => (lR 3 hp l1 l2).bind fun u17 => u17.bind fun a19 => (lJ hp a19 l7).bind fun w21 => if isO hp w15 0 = true then (f_X0_times hp w15 l5 w21).bind fun r25 => (lR 3 hp l1 l4).bind fun u26 => (gR hp l0 2 0).bind fun w28 => (lR 3 hp l1 l4).bind fun u30 => u30.bind fun a32 => (lJ hp a32 l7).bind fun w34 => if isO hp w28 0 = true then (f_X0_minus hp w28 w34 r25).bind fun r38 => u26.bind fun a39 => (sJ hp a39 l7 r38).bind fun hp41 => some (.inl (l7 + 1, hp41)) else none else none)
noncomputable def f_X2_clearColumn_L3 (l0 : Nat) (l1 : Nat) (l2 : Int32) (l3 : Int32) (l4 : Int32) (hp : cH) : Option ((Int32 × cH) ⊕ cH) := (aN hp l1).bind fun w1 => if w1 ≤ l4 then (some (.inr hp)) else ((lR 3 hp l1 l4).bind fun u3 => u3.bind fun a5 => (lJ hp a5 l3).bind fun w7 => if l4 = l2 then (f_X2_clearColumn_L3J93 hp l4) else (if w7 = ((0 : Int64)) then (f_X2_clearColumn_L3J93 hp l4) else ((itX (fun s => f_X2_clearColumn_L37 l0 l1 l2 l4 w7 s.1 s.2) ((0 : Int32), hp)).bind fun hp43 => f_X2_clearColumn_L3J93 hp43 l4)))
noncomputable def f_X2_clearColumn (hp : cH) (l0 : Nat) (l1 : Nat) (l2 : Int32) (l3 : Int32) : Option cH := (itX (fun s => f_X2_clearColumn_L3 l0 l1 l2 l3 s.1 s.2) ((0 : Int32), hp)).bind fun hp45 => some hp45
set_option maxHeartbeats 4000000 in
set_option maxRecDepth 100000 in
theorem w_X2_clearColumn_L3J93 {K : kT} {O : oT} (C : aC K cX2_clearColumn RX2 "clearColumn" 1 18 0 (64 * 0) 10 none O) {hp : cH} {sz : Nat} {l0 : Nat} {l1 : Nat} {l2 : Int32} {l3 : Int32} {l4 : Int32}  {x : (Int32 × cH) ⊕ cH} (h : f_X2_clearColumn_L3J93 hp l4 = some x) (kl : ∀ s, x = .inl s → aW K s.2 sz 0 (64 * 0) 3 [(0, .ref l0), (1, .ref l1), (2, .int l2), (3, .int l3), (4, .int s.1)] []) (kr : ∀ r, x = .inr r → aW K r sz 0 (64 * 0) 99 [] []) : aW K hp sz 0 (64 * 0) 93 [(0, .ref l0), (1, .ref l1), (2, .int l2), (3, .int l3), (4, .int l4)] [] := by
  unfold f_X2_clearColumn_L3J93 at h
  refine r_iinc C (v := l4 + 1) (lv' := [(4, .int (l4 + 1)), (0, .ref l0), (1, .ref l1), (2, .int l2), (3, .int l3)]) 4 rfl dX2_clearColumn_93 rfl (by decide) rfl ?_
  refine r_goto C (tgt := 3) dX2_clearColumn_96 (by decide) ?_
  refine r_lv (lv' := [(0, .ref l0), (1, .ref l1), (2, .int l2), (3, .int l3), (4, .int (l4 + 1))]) [1, 2, 3, 4, 0] rfl ?_
  exact kl _ (sm_i h)
set_option maxHeartbeats 4000000 in
set_option maxRecDepth 100000 in
theorem w_X2_clearColumn_L37 {K : kT} {O : oT} (C : aC K cX2_clearColumn RX2 "clearColumn" 1 18 0 (64 * 0) 10 none O) {hp : cH} {sz : Nat} {l0 : Nat} {l1 : Nat} {l2 : Int32} {l3 : Int32} {l4 : Int32} {l5 : Int64} {l7 : Int32} {eh : cH} (h : itX (fun s => f_X2_clearColumn_L37 l0 l1 l2 l4 l5 s.1 s.2) (l7, hp) = some eh) (hr : aW K eh sz 0 (64 * 0) 93 [(0, .ref l0), (1, .ref l1), (2, .int l2), (3, .int l3), (4, .int l4)] []) : aW K hp sz 0 (64 * 0) 37 [(0, .ref l0), (1, .ref l1), (2, .int l2), (3, .int l3), (4, .int l4), (5, .long l5), (7, .int l7)] [] := by
  refine it_walk (f := fun s => f_X2_clearColumn_L37 l0 l1 l2 l4 l5 s.1 s.2) (P := fun s => aW K s.2 sz 0 (64 * 0) 37 [(0, .ref l0), (1, .ref l1), (2, .int l2), (3, .int l3), (4, .int l4), (5, .long l5), (7, .int s.1)] []) (R := fun r => aW K r sz 0 (64 * 0) 93 [(0, .ref l0), (1, .ref l1), (2, .int l2), (3, .int l3), (4, .int l4)] []) ?_ h hr
  clear h hr
  rintro ⟨l7, hp⟩ x h kl kr
  show aW K hp sz 0 (64 * 0) 37 [(0, .ref l0), (1, .ref l1), (2, .int l2), (3, .int l3), (4, .int l4), (5, .long l5), (7, .int l7)] []
  replace h : f_X2_clearColumn_L37 l0 l1 l2 l4 l5 l7 hp = some x := h
  unfold f_X2_clearColumn_L37 at h
  refine r_iload C 6 rfl dX2_clearColumn_37 ?_
  refine r_aload_n C 1 rfl dX2_clearColumn_39 rfl ?_
  refine r_iload C 4 rfl dX2_clearColumn_40 ?_
  replace h := bd_i h
  obtain ⟨u9, e10, h⟩ := h
  refine k_lR C (by decide) e10 dX2_clearColumn_42 ?_
  replace h := bd_i h
  obtain ⟨a11, e12, h⟩ := h
  subst e12
  replace h := bd_i h
  obtain ⟨w13, e14, h⟩ := h
  refine k_alen C e14 dX2_clearColumn_43 ?_
  refine r_icmp_ge C (tgt := 93) dX2_clearColumn_44 (by decide) (fun hc => ?_) (fun hc => ?_)
  · replace h := br_p hc h
    refine r_lv (lv' := [(0, .ref l0), (1, .ref l1), (2, .int l2), (3, .int l3), (4, .int l4)]) [0, 1, 2, 3, 4] rfl ?_
    exact kr _ (sm_i h)
  · replace h := br_n hc h
    refine r_aload_n C 0 rfl dX2_clearColumn_47 rfl ?_
    replace h := bd_i h
    obtain ⟨w15, e16, h⟩ := h
    refine k_gR C e16 rfl inX2_ (by decide) flX2_7 dX2_clearColumn_48 ?_
    refine r_lload C 5 rfl dX2_clearColumn_51 ?_
    refine r_aload_n C 1 rfl dX2_clearColumn_53 rfl ?_
    refine r_iload_n C 2 rfl dX2_clearColumn_54 rfl ?_
    replace h := bd_i h
    obtain ⟨u17, e18, h⟩ := h
    refine k_lR C (by decide) e18 dX2_clearColumn_55 ?_
    refine r_iload C 6 rfl dX2_clearColumn_56 ?_
    replace h := bd_i h
    obtain ⟨a19, e20, h⟩ := h
    subst e20
    replace h := bd_i h
    obtain ⟨w21, e22, h⟩ := h
    refine k_lJ C e22 dX2_clearColumn_58 ?_
    replace h := gd_t h
    obtain ⟨ho23, h⟩ := h
    obtain ⟨_, ho23⟩ := isO_s ho23
    replace h := bd_i h
    obtain ⟨r25, q24, h⟩ := h
    refine q_callV C 0 0 (64 * 0) (k_X0_times q24) rfl ho23 rfl okX0_times inX0_times lkX2_37 rfl (Nat.le_of_ble_eq_true rfl) ⟨by decide, by decide⟩ dX2_clearColumn_59 (by omega) (by omega) ?_
    refine r_lstore C (lv' := [(8, .long r25), (0, .ref l0), (1, .ref l1), (2, .int l2), (3, .int l3), (4, .int l4), (5, .long l5), (7, .int l7)]) dX2_clearColumn_62 (by decide) rfl ?_
    refine r_aload_n C 2 rfl dX2_clearColumn_64 rfl ?_
    refine r_iload C 5 rfl dX2_clearColumn_65 ?_
    replace h := bd_i h
    obtain ⟨u26, e27, h⟩ := h
    refine k_lR C (by decide) e27 dX2_clearColumn_67 ?_
    refine r_iload C 7 rfl dX2_clearColumn_68 ?_
    refine r_aload_n C 1 rfl dX2_clearColumn_70 rfl ?_
    replace h := bd_i h
    obtain ⟨w28, e29, h⟩ := h
    refine k_gR C e29 rfl inX2_ (by decide) flX2_7 dX2_clearColumn_71 ?_
    refine r_aload_n C 2 rfl dX2_clearColumn_74 rfl ?_
    refine r_iload C 5 rfl dX2_clearColumn_75 ?_
    replace h := bd_i h
    obtain ⟨u30, e31, h⟩ := h
    refine k_lR C (by decide) e31 dX2_clearColumn_77 ?_
    refine r_iload C 7 rfl dX2_clearColumn_78 ?_
    replace h := bd_i h
    obtain ⟨a32, e33, h⟩ := h
    subst e33
    replace h := bd_i h
    obtain ⟨w34, e35, h⟩ := h
    refine k_lJ C e35 dX2_clearColumn_80 ?_
    refine r_lload C 0 rfl dX2_clearColumn_81 ?_
    replace h := gd_t h
    obtain ⟨ho36, h⟩ := h
    obtain ⟨_, ho36⟩ := isO_s ho36
    replace h := bd_i h
    obtain ⟨r38, q37, h⟩ := h
    refine q_callV C 2 0 (64 * 0) (k_X0_minus q37) rfl ho36 rfl okX0_minus inX0_minus lkX2_79 rfl (by simp [rf_cat, ct_i, ct_l, ct_r]) ⟨by decide, by decide⟩ dX2_clearColumn_83 (by omega) (by omega) ?_
    replace h := bd_i h
    obtain ⟨a39, e40, h⟩ := h
    subst e40
    replace h := bd_i h
    obtain ⟨hp41, e42, h⟩ := h
    refine k_sJ C e42 dX2_clearColumn_86 ?_
    refine r_iinc C (v := l7 + 1) (lv' := [(7, .int (l7 + 1)), (8, .long r25), (0, .ref l0), (1, .ref l1), (2, .int l2), (3, .int l3), (4, .int l4), (5, .long l5)]) 7 rfl dX2_clearColumn_87 rfl (by decide) rfl ?_
    refine r_goto C (tgt := 37) dX2_clearColumn_90 (by decide) ?_
    refine r_lv (lv' := [(0, .ref l0), (1, .ref l1), (2, .int l2), (3, .int l3), (4, .int l4), (5, .long l5), (7, .int (l7 + 1))]) [2, 3, 4, 5, 6, 7, 0] rfl ?_
    exact kl _ (sm_i h)
set_option maxHeartbeats 4000000 in
set_option maxRecDepth 100000 in
theorem w_X2_clearColumn_L3 {K : kT} {O : oT} (C : aC K cX2_clearColumn RX2 "clearColumn" 1 18 0 (64 * 0) 10 none O) {hp : cH} {sz : Nat} {l0 : Nat} {l1 : Nat} {l2 : Int32} {l3 : Int32} {l4 : Int32} {eh : cH} (h : itX (fun s => f_X2_clearColumn_L3 l0 l1 l2 l3 s.1 s.2) (l4, hp) = some eh) (hr : aW K eh sz 0 (64 * 0) 99 [] []) : aW K hp sz 0 (64 * 0) 3 [(0, .ref l0), (1, .ref l1), (2, .int l2), (3, .int l3), (4, .int l4)] [] := by
  refine it_walk (f := fun s => f_X2_clearColumn_L3 l0 l1 l2 l3 s.1 s.2) (P := fun s => aW K s.2 sz 0 (64 * 0) 3 [(0, .ref l0), (1, .ref l1), (2, .int l2), (3, .int l3), (4, .int s.1)] []) (R := fun r => aW K r sz 0 (64 * 0) 99 [] []) ?_ h hr
  clear h hr
  rintro ⟨l4, hp⟩ x h kl kr
  show aW K hp sz 0 (64 * 0) 3 [(0, .ref l0), (1, .ref l1), (2, .int l2), (3, .int l3), (4, .int l4)] []
  replace h : f_X2_clearColumn_L3 l0 l1 l2 l3 l4 hp = some x := h
  unfold f_X2_clearColumn_L3 at h
  refine r_iload C 4 rfl dX2_clearColumn_3 ?_
  refine r_aload_n C 1 rfl dX2_clearColumn_5 rfl ?_
  replace h := bd_i h
  obtain ⟨w1, e2, h⟩ := h
  refine k_alen C e2 dX2_clearColumn_6 ?_
  refine r_icmp_ge C (tgt := 99) dX2_clearColumn_7 (by decide) (fun hc => ?_) (fun hc => ?_)
  · replace h := br_p hc h
    refine r_lv (lv' := []) [] rfl ?_
    exact kr _ (sm_i h)
  · replace h := br_n hc h
    refine r_aload_n C 1 rfl dX2_clearColumn_10 rfl ?_
    refine r_iload C 4 rfl dX2_clearColumn_11 ?_
    replace h := bd_i h
    obtain ⟨u3, e4, h⟩ := h
    refine k_lR C (by decide) e4 dX2_clearColumn_13 ?_
    refine r_iload_n C 3 rfl dX2_clearColumn_14 rfl ?_
    replace h := bd_i h
    obtain ⟨a5, e6, h⟩ := h
    subst e6
    replace h := bd_i h
    obtain ⟨w7, e8, h⟩ := h
    refine k_lJ C e8 dX2_clearColumn_15 ?_
    refine r_lstore C (lv' := [(5, .long w7), (0, .ref l0), (1, .ref l1), (2, .int l2), (3, .int l3), (4, .int l4)]) dX2_clearColumn_16 (by decide) rfl ?_
    refine r_iload C 5 rfl dX2_clearColumn_18 ?_
    refine r_iload_n C 3 rfl dX2_clearColumn_20 rfl ?_
    refine r_icmp_eq C (tgt := 93) dX2_clearColumn_21 (by decide) (fun hc => ?_) (fun hc => ?_)
    · replace h := br_p hc h
      refine r_lv (lv' := [(0, .ref l0), (1, .ref l1), (2, .int l2), (3, .int l3), (4, .int l4)]) [1, 2, 3, 4, 5] rfl ?_
      exact w_X2_clearColumn_L3J93 C  h kl kr
    · replace h := br_n hc h
      refine r_lload C 0 rfl dX2_clearColumn_24 ?_
      refine r_lconst C (v := 0) dX2_clearColumn_26 (by decide) ?_
      refine r_lne C (tgt := 34) dX2_clearColumn_27 dX2_clearColumn_28 (by decide) (fun hc => ?_) (fun hc => ?_)
      · replace h := br_n hc h
        refine r_iconst C (v := 0) dX2_clearColumn_34 (by decide) ?_
        refine r_istore C (lv' := [(7, .int ((0 : Int32))), (5, .long w7), (0, .ref l0), (1, .ref l1), (2, .int l2), (3, .int l3), (4, .int l4)]) dX2_clearColumn_35 (by decide) rfl ?_
        refine r_lv (lv' := [(0, .ref l0), (1, .ref l1), (2, .int l2), (3, .int l3), (4, .int l4), (5, .long w7), (7, .int ((0 : Int32)))]) [2, 3, 4, 5, 6, 1, 0] rfl ?_
        replace h := bd_i h
        obtain ⟨hp43, q44, h⟩ := h
        refine w_X2_clearColumn_L37 C  q44 ?_
        refine r_lv (lv' := [(0, .ref l0), (1, .ref l1), (2, .int l2), (3, .int l3), (4, .int l4)]) [0, 1, 2, 3, 4] rfl ?_
        exact w_X2_clearColumn_L3J93 C  h kl kr
      · replace h := br_p hc h
        refine r_goto C (tgt := 93) dX2_clearColumn_31 (by decide) ?_
        refine r_lv (lv' := [(0, .ref l0), (1, .ref l1), (2, .int l2), (3, .int l3), (4, .int l4)]) [1, 2, 3, 4, 5] rfl ?_
        exact w_X2_clearColumn_L3J93 C  h kl kr
set_option maxHeartbeats 4000000 in
set_option maxRecDepth 100000 in
theorem k_X2_clearColumn {G : gT} {hp : cH} {sz : Nat} {l0 : Nat} {l1 : Nat} {l2 : Int32} {l3 : Int32} {oh : cH} (h : f_X2_clearColumn hp l0 l1 l2 l3 = some oh) : aM G yX2_clearColumn cX2_clearColumn 10 none 1 18 0 (64 * 0) [.ref l0, .ref l1, .int l2, .int l3] hp sz ((none, oh, sz) : oT) := by
  refine aM.of RX2 (by decide) rfl (Nat.le_of_ble_eq_true rfl) (fun K C => ?_)
  have hO : ((none, oh, sz) : oT) = ((none, oh, sz) : oT) := rfl
  refine r_lve (lv' := [(0, .ref l0), (1, .ref l1), (2, .int l2), (3, .int l3)]) rfl ?_
  unfold f_X2_clearColumn at h
  refine r_iconst C (v := 0) dX2_clearColumn_0 (by decide) ?_
  refine r_istore C (lv' := [(4, .int ((0 : Int32))), (0, .ref l0), (1, .ref l1), (2, .int l2), (3, .int l3)]) dX2_clearColumn_1 (by decide) rfl ?_
  refine r_lv (lv' := [(0, .ref l0), (1, .ref l1), (2, .int l2), (3, .int l3), (4, .int ((0 : Int32)))]) [1, 2, 3, 4, 0] rfl ?_
  replace h := bd_i h
  obtain ⟨hp45, q46, h⟩ := h
  refine w_X2_clearColumn_L3 C  q46 ?_
  cases h
  exact r_return C (Eq.symm hO) dX2_clearColumn_99
