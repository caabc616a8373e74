noncomputable def m_isPrime_L21 (l0 : Int32) (s : (Int32 × Int64)) : Option ((Int32 × Int64) ⊕ Int32) := if s.1 = 0 then (some (.inr s.1)) else (if l0.toInt64 < (s.2 * s.2) then (some (.inr s.1)) else (if s.2 = 0 then none else if (l0.toInt64 - l0.toInt64 / s.2 * s.2) = ((0 : Int64)) then (some (.inl ((0 : Int32), s.2 + ((2 : Int64))))) else (some (.inl ((1 : Int32), s.2 + ((2 : Int64)))))))
noncomputable def m_isPrime_J15 (l0 : Int32) : Option Int32 := (itX (m_isPrime_L21 l0) ((0 : Int32), (3 : Int64))).bind fun r1 => if r1 = 0 ∨ r1 = 1 then some r1 else none
noncomputable def m_isPrime  (x0 : Int32) : Option Int32 := if x0 ≤ ((2 : Int32)) then (m_isPrime_J15 x0) else (if (x0 - x0 / ((2 : Int32)) * ((2 : Int32))) = 0 then (m_isPrime_J15 x0) else ((itX (m_isPrime_L21 x0) ((1 : Int32), (3 : Int64))).bind fun r2 => if r2 = 0 ∨ r2 = 1 then some r2 else none))
set_option maxHeartbeats 4000000 in
set_option maxRecDepth 100000 in
theorem w_isPrime_L21 {K : kT} {O : oT} (C : aC K cX6_isPrime RX6 "isPrime" 0 0 0 0 4 (some .boolean) O) {h0 : Nat} {hp : cH} {sz : Nat} {n : Int32} {p : Int64} {count : Int32} {sorts : Nat → Int32} {rows : Nat → Int64} {hand : Nat → Int64} {gathered : Int32} {gather : Nat → Int32} {paired : Int32} {pairA : Nat → Int32} {pairB : Nat → Int32} {ideal : Int32} {draft : Nat → Int64} {frame : Nat → Int64} {one : Nat → Int64} {two : Nat → Int64} {turned : Nat → Int64} {placeI : Int32} {placeJ : Int32} {formA : Int64} {formB : Int64} {formC : Int64} {l0 : Int32} {v0 : Int32} {v1 : Int64} {r : Int32} (h : itX (m_isPrime_L21 l0) (v0, v1) = some r) (hr : aW K (mw h0 hp n p count sorts rows hand gathered gather paired pairA pairB ideal draft frame one two turned placeI placeJ formA formB formC) sz 0 0 58 [(1, .int r)] []) : aW K (mw h0 hp n p count sorts rows hand gathered gather paired pairA pairB ideal draft frame one two turned placeI placeJ formA formB formC) sz 0 0 21 [(0, .int l0), (1, .int v0), (2, .long v1)] [] := by
  refine it_walk (f := m_isPrime_L21 l0) (P := fun s => aW K (mw h0 hp n p count sorts rows hand gathered gather paired pairA pairB ideal draft frame one two turned placeI placeJ formA formB formC) sz 0 0 21 [(0, .int l0), (1, .int s.1), (2, .long s.2)] []) (R := fun r => aW K (mw h0 hp n p count sorts rows hand gathered gather paired pairA pairB ideal draft frame one two turned placeI placeJ formA formB formC) sz 0 0 58 [(1, .int r)] []) ?_ h hr
  clear h hr
  intro s x h kl kr
  unfold m_isPrime_L21 at h
  refine r_iload_n C 1 rfl dX6_isPrime_21 rfl ?_
  refine r_if_eq C (tgt := 58) dX6_isPrime_22 (by decide) (fun hc => ?_) (fun hc => ?_)
  · replace h := br_p hc h
    refine r_lv [1] rfl ?_
    exact kr _ (sm_i h)
  · replace h := br_n hc h
    refine r_lload_n C 2 rfl dX6_isPrime_25 rfl ?_
    refine r_lload_n C 2 rfl dX6_isPrime_26 rfl ?_
    refine r_lmul C dX6_isPrime_27 ?_
    refine r_iload_n C 0 rfl dX6_isPrime_28 rfl ?_
    refine r_i2l C dX6_isPrime_29 ?_
    refine r_lgt C (tgt := 58) dX6_isPrime_30 dX6_isPrime_31 (by decide) (fun hc => ?_) (fun hc => ?_)
    · replace h := br_p hc h
      refine r_lv [1] rfl ?_
      exact kr _ (sm_i h)
    · replace h := br_n hc h
      refine r_iload_n C 0 rfl dX6_isPrime_34 rfl ?_
      refine r_i2l C dX6_isPrime_35 ?_
      refine r_lload_n C 2 rfl dX6_isPrime_36 rfl ?_
      obtain ⟨hne, h⟩ := gd_n h
      refine r_lrem C dX6_isPrime_37 hne ?_
      refine r_lconst C (v := 0) dX6_isPrime_38 (by decide) ?_
      refine r_leq C (tgt := 47) dX6_isPrime_39 dX6_isPrime_40 (by decide) (fun hc => ?_) (fun hc => ?_)
      · replace h := br_p hc h
        refine r_iconst C (v := 0) dX6_isPrime_47 (by decide) ?_
        refine r_istore_n C (lv' := [(1, .int ((0 : Int32))), (0, .int l0), (2, .long s.2)]) dX6_isPrime_48 rfl (by decide) rfl ?_
        refine r_lload_n C 2 rfl dX6_isPrime_49 rfl ?_
        refine r_ldc2 C (v := 2) cl6_50 dX6_isPrime_50 ?_
        refine r_ladd C dX6_isPrime_53 ?_
        refine r_lstore_n C (lv' := [(2, .long (s.2 + ((2 : Int64)))), (1, .int ((0 : Int32))), (0, .int l0)]) dX6_isPrime_54 rfl (by decide) rfl ?_
        refine r_goto C (tgt := 21) dX6_isPrime_55 (by decide) ?_
        refine r_lv [2, 1, 0] rfl ?_
        exact kl _ (sm_i h)
      · replace h := br_n hc h
        refine r_iconst C (v := 1) dX6_isPrime_43 (by decide) ?_
        refine r_goto C (tgt := 48) dX6_isPrime_44 (by decide) ?_
        refine r_istore_n C (lv' := [(1, .int ((1 : Int32))), (0, .int l0), (2, .long s.2)]) dX6_isPrime_48 rfl (by decide) rfl ?_
        refine r_lload_n C 2 rfl dX6_isPrime_49 rfl ?_
        refine r_ldc2 C (v := 2) cl6_50 dX6_isPrime_50 ?_
        refine r_ladd C dX6_isPrime_53 ?_
        refine r_lstore_n C (lv' := [(2, .long (s.2 + ((2 : Int64)))), (1, .int ((1 : Int32))), (0, .int l0)]) dX6_isPrime_54 rfl (by decide) rfl ?_
        refine r_goto C (tgt := 21) dX6_isPrime_55 (by decide) ?_
        refine r_lv [2, 1, 0] rfl ?_
        exact kl _ (sm_i h)
set_option maxHeartbeats 4000000 in
set_option maxRecDepth 100000 in
theorem w_isPrime_J15 {K : kT} {O : oT} (C : aC K cX6_isPrime RX6 "isPrime" 0 0 0 0 4 (some .boolean) O) {h0 : Nat} {hp : cH} {sz : Nat} {n : Int32} {p : Int64} {count : Int32} {sorts : Nat → Int32} {rows : Nat → Int64} {hand : Nat → Int64} {gathered : Int32} {gather : Nat → Int32} {paired : Int32} {pairA : Nat → Int32} {pairB : Nat → Int32} {ideal : Int32} {draft : Nat → Int64} {frame : Nat → Int64} {one : Nat → Int64} {two : Nat → Int64} {turned : Nat → Int64} {placeI : Int32} {placeJ : Int32} {formA : Int64} {formB : Int64} {formC : Int64} {l0 : Int32} {out : Int32} (h : m_isPrime_J15 l0 = some out) (hO : ((some (.int out), mw h0 hp n p count sorts rows hand gathered gather paired pairA pairB ideal draft frame one two turned placeI placeJ formA formB formC, sz) : oT) = O) : aW K (mw h0 hp n p count sorts rows hand gathered gather paired pairA pairB ideal draft frame one two turned placeI placeJ formA formB formC) sz 0 0 15 [(0, .int l0)] [] := by
  unfold m_isPrime_J15 at h
  refine r_iconst C (v := 0) dX6_isPrime_15 (by decide) ?_
  refine r_istore_n C (lv' := [(1, .int ((0 : Int32))), (0, .int l0)]) dX6_isPrime_16 rfl (by decide) rfl ?_
  refine r_ldc2 C (v := 3) cl6_48 dX6_isPrime_17 ?_
  refine r_lstore_n C (lv' := [(2, .long ((3 : Int64))), (1, .int ((0 : Int32))), (0, .int l0)]) dX6_isPrime_20 rfl (by decide) rfl ?_
  refine r_lv [2, 1, 0] rfl ?_
  obtain ⟨r1, qr1, h⟩ := bd_i h
  refine w_isPrime_L21 C qr1 ?_
  refine r_iload_n C 0 rfl dX6_isPrime_58 rfl ?_
  obtain ⟨hz, h⟩ := gd_t h
  obtain rfl := sm_i h
  exact r_zreturn C (nb01 hz) (Eq.symm hO) dX6_isPrime_59
set_option maxHeartbeats 4000000 in
set_option maxRecDepth 100000 in
theorem c_isPrime {G : gT} {h0 : Nat} {hp : cH} {sz : Nat} {n : Int32} {p : Int64} {count : Int32} {sorts : Nat → Int32} {rows : Nat → Int64} {hand : Nat → Int64} {gathered : Int32} {gather : Nat → Int32} {paired : Int32} {pairA : Nat → Int32} {pairB : Nat → Int32} {ideal : Int32} {draft : Nat → Int64} {frame : Nat → Int64} {one : Nat → Int64} {two : Nat → Int64} {turned : Nat → Int64} {placeI : Int32} {placeJ : Int32} {formA : Int64} {formB : Int64} {formC : Int64} {x0 : Int32} {out : Int32} (h : m_isPrime  x0 = some out) : aM G yX6_isPrime cX6_isPrime 4 (some .boolean) 0 0 0 0 [.int x0] (mw h0 hp n p count sorts rows hand gathered gather paired pairA pairB ideal draft frame one two turned placeI placeJ formA formB formC) sz ((some (.int out), mw h0 hp n p count sorts rows hand gathered gather paired pairA pairB ideal draft frame one two turned placeI placeJ formA formB formC, sz) : oT) := by
  refine aM.of RX6 (by decide) rfl (Nat.le_of_ble_eq_true rfl) (fun K C => ?_)
  have hO : ((some (.int out), mw h0 hp n p count sorts rows hand gathered gather paired pairA pairB ideal draft frame one two turned placeI placeJ formA formB formC, sz) : oT) = ((some (.int out), mw h0 hp n p count sorts rows hand gathered gather paired pairA pairB ideal draft frame one two turned placeI placeJ formA formB formC, sz) : oT) := rfl
  refine r_lve (lv' := [(0, .int x0)]) rfl ?_
  unfold m_isPrime at h
  refine r_iload_n C 0 rfl dX6_isPrime_0 rfl ?_
  refine r_iconst C (v := 2) dX6_isPrime_1 (by decide) ?_
  refine r_icmp_le C (tgt := 15) dX6_isPrime_2 (by decide) (fun hc => ?_) (fun hc => ?_)
  · replace h := br_p hc h
    refine r_lv [0] rfl ?_
    exact w_isPrime_J15 C h hO
  · replace h := br_n hc h
    refine r_iload_n C 0 rfl dX6_isPrime_5 rfl ?_
    refine r_iconst C (v := 2) dX6_isPrime_6 (by decide) ?_
    refine r_irem C dX6_isPrime_7 (by decide) ?_
    refine r_if_eq C (tgt := 15) dX6_isPrime_8 (by decide) (fun hc => ?_) (fun hc => ?_)
    · replace h := br_p hc h
      refine r_lv [0] rfl ?_
      exact w_isPrime_J15 C h hO
    · replace h := br_n hc h
      refine r_iconst C (v := 1) dX6_isPrime_11 (by decide) ?_
      refine r_goto C (tgt := 16) dX6_isPrime_12 (by decide) ?_
      refine r_istore_n C (lv' := [(1, .int ((1 : Int32))), (0, .int x0)]) dX6_isPrime_16 rfl (by decide) rfl ?_
      refine r_ldc2 C (v := 3) cl6_48 dX6_isPrime_17 ?_
      refine r_lstore_n C (lv' := [(2, .long ((3 : Int64))), (1, .int ((1 : Int32))), (0, .int x0)]) dX6_isPrime_20 rfl (by decide) rfl ?_
      refine r_lv [2, 1, 0] rfl ?_
      obtain ⟨r2, qr2, h⟩ := bd_i h
      refine w_isPrime_L21 C qr2 ?_
      refine r_iload_n C 0 rfl dX6_isPrime_58 rfl ?_
      obtain ⟨hz, h⟩ := gd_t h
      obtain rfl := sm_i h
      exact r_zreturn C (nb01 hz) (Eq.symm hO) dX6_isPrime_59
noncomputable def m_begin_L53  (s : (Int32 × (Nat → Int64))) : Option ((Int32 × (Nat → Int64)) ⊕ (Nat → Int64)) := if ((16 : Int32)) ≤ s.1 then (some (.inr s.2)) else (if gi s.1 16 then some (.inl (s.1 + 1, vp_updL s.2 s.1.toNatClampNeg ((0 : Int64)))) else none)
noncomputable def m_begin (n : Int32) (p : Int64) (count : Int32) (hand : Nat → Int64) (gathered : Int32) (paired : Int32) (ideal : Int32) (x1 : Int32) (x2 : Int32) : Option (Int32 × Int32 × Int64 × Int32 × (Nat → Int64) × Int32 × Int32 × Int32) := if x1 < ((2 : Int32)) then (some ((-2 : Int32), n, p, count, hand, gathered, paired, ideal)) else (if ((3 : Int32)) < x1 then (some ((-2 : Int32), n, p, count, hand, gathered, paired, ideal)) else ((m_isPrime x2).bind fun r1 => if r1 = 0 then (some ((-2 : Int32), n, p, count, hand, gathered, paired, ideal)) else ((itX m_begin_L53 ((0 : Int32), hand)).bind fun r2 => some ((1 : Int32), x1, x2.toInt64, (0 : Int32), r2, (0 : Int32), (0 : Int32), (-1 : Int32)))))
set_option maxHeartbeats 4000000 in
set_option maxRecDepth 100000 in
theorem w_begin_L53 {K : kT} {O : oT} (C : aC K cX6_begin RX6 "begin" 1 15 0 0 4 (some .int) O) {h0 : Nat} {hp : cH} {sz : Nat} {n : Int32} {p : Int64} {count : Int32} {sorts : Nat → Int32} {rows : Nat → Int64} {gathered : Int32} {gather : Nat → Int32} {paired : Int32} {pairA : Nat → Int32} {pairB : Nat → Int32} {ideal : Int32} {draft : Nat → Int64} {frame : Nat → Int64} {one : Nat → Int64} {two : Nat → Int64} {turned : Nat → Int64} {placeI : Int32} {placeJ : Int32} {formA : Int64} {formB : Int64} {formC : Int64}  {v0 : Int32} {v1 : Nat → Int64} {r : (Nat → Int64)} (h : itX (m_begin_L53 ) (v0, v1) = some r) (hr : aW K (mw h0 hp n p count sorts rows r gathered gather paired pairA pairB ideal draft frame one two turned placeI placeJ formA formB formC) sz 0 0 72 [] []) : aW K (mw h0 hp n p count sorts rows v1 gathered gather paired pairA pairB ideal draft frame one two turned placeI placeJ formA formB formC) sz 0 0 53 [(0, .ref h0), (3, .int v0)] [] := by
  refine it_walk (f := m_begin_L53 ) (P := fun s => aW K (mw h0 hp n p count sorts rows s.2 gathered gather paired pairA pairB ideal draft frame one two turned placeI placeJ formA formB formC) sz 0 0 53 [(0, .ref h0), (3, .int s.1)] []) (R := fun r => aW K (mw h0 hp n p count sorts rows r gathered gather paired pairA pairB ideal draft frame one two turned placeI placeJ formA formB formC) sz 0 0 72 [] []) ?_ h hr
  clear h hr
  intro s x h kl kr
  unfold m_begin_L53 at h
  refine r_iload_n C 1 rfl dX6_begin_53 rfl ?_
  refine r_bipush C (v := 16) dX6_begin_54 (by decide) ?_
  refine r_icmp_ge C (tgt := 72) dX6_begin_56 (by decide) (fun hc => ?_) (fun hc => ?_)
  · replace h := br_p hc h
    refine r_lv [] rfl ?_
    exact kr _ (sm_i h)
  · replace h := br_n hc h
    refine r_aload_n C 0 rfl dX6_begin_59 rfl ?_
    refine m_g_hand C dX6_begin_60 ?_
    refine r_iload_n C 1 rfl dX6_begin_63 rfl ?_
    refine r_lconst C (v := 0) dX6_begin_64 (by decide) ?_
    obtain ⟨hi, h⟩ := gd_t h
    refine m_s_hand C hi dX6_begin_65 ?_
    refine r_iinc C (v := s.1 + 1) (lv' := [(3, .int (s.1 + 1)), (0, .ref h0)]) 1 rfl dX6_begin_66 rfl (by decide) rfl ?_
    refine r_goto C (tgt := 53) dX6_begin_69 (by decide) ?_
    refine r_lv [1, 0] rfl ?_
    exact kl _ (sm_i h)
set_option maxHeartbeats 4000000 in
set_option maxRecDepth 100000 in
theorem c_begin {G : gT} {h0 : Nat} {hp : cH} {sz : Nat} {n : Int32} {p : Int64} {count : Int32} {sorts : Nat → Int32} {rows : Nat → Int64} {hand : Nat → Int64} {gathered : Int32} {gather : Nat → Int32} {paired : Int32} {pairA : Nat → Int32} {pairB : Nat → Int32} {ideal : Int32} {draft : Nat → Int64} {frame : Nat → Int64} {one : Nat → Int64} {two : Nat → Int64} {turned : Nat → Int64} {placeI : Int32} {placeJ : Int32} {formA : Int64} {formB : Int64} {formC : Int64} {x1 : Int32} {x2 : Int32} {out : (Int32 × Int32 × Int64 × Int32 × (Nat → Int64) × Int32 × Int32 × Int32)} (h : m_begin n p count hand gathered paired ideal x1 x2 = some out) : aM G yX6_begin cX6_begin 4 (some .int) 1 15 0 0 [.ref h0, .int x1, .int x2] (mw h0 hp n p count sorts rows hand gathered gather paired pairA pairB ideal draft frame one two turned placeI placeJ formA formB formC) sz ((some (.int out.1), mw h0 hp out.2.1 out.2.2.1 out.2.2.2.1 sorts rows out.2.2.2.2.1 out.2.2.2.2.2.1 gather out.2.2.2.2.2.2.1 pairA pairB out.2.2.2.2.2.2.2 draft frame one two turned placeI placeJ formA formB formC, sz) : oT) := by
  refine aM.of RX6 (by decide) rfl (Nat.le_of_ble_eq_true rfl) (fun K C => ?_)
  have hO : ((some (.int out.1), mw h0 hp out.2.1 out.2.2.1 out.2.2.2.1 sorts rows out.2.2.2.2.1 out.2.2.2.2.2.1 gather out.2.2.2.2.2.2.1 pairA pairB out.2.2.2.2.2.2.2 draft frame one two turned placeI placeJ formA formB formC, sz) : oT) = ((some (.int out.1), mw h0 hp out.2.1 out.2.2.1 out.2.2.2.1 sorts rows out.2.2.2.2.1 out.2.2.2.2.2.1 gather out.2.2.2.2.2.2.1 pairA pairB out.2.2.2.2.2.2.2 draft frame one two turned placeI placeJ formA formB formC, sz) : oT) := rfl
  refine r_lve (lv' := [(0, .ref h0), (1, .int x1), (2, .int x2)]) rfl ?_
  unfold m_begin at h
  refine r_iload_n C 1 rfl dX6_begin_0 rfl ?_
  refine r_iconst C (v := 2) dX6_begin_1 (by decide) ?_
  refine r_icmp_lt C (tgt := 17) dX6_begin_2 (by decide) (fun hc => ?_) (fun hc => ?_)
  · replace h := br_p hc h
    refine r_bipush C (v := -2) dX6_begin_17 (by decide) ?_
    obtain rfl := sm_i h
    exact r_ireturn C (Eq.symm hO) dX6_begin_19
  · replace h := br_n hc h
    refine r_iload_n C 1 rfl dX6_begin_5 rfl ?_
    refine r_iconst C (v := 3) dX6_begin_6 (by decide) ?_
    refine r_icmp_gt C (tgt := 17) dX6_begin_7 (by decide) (fun hc => ?_) (fun hc => ?_)
    · replace h := br_p hc h
      refine r_bipush C (v := -2) dX6_begin_17 (by decide) ?_
      obtain rfl := sm_i h
      exact r_ireturn C (Eq.symm hO) dX6_begin_19
    · replace h := br_n hc h
      refine r_iload_n C 2 rfl dX6_begin_10 rfl ?_
      obtain ⟨r1, qr1, h⟩ := bd_i h
      refine q_callS C 0 0 0 (c_isPrime qr1) rfl ok_isPrime in_isPrime lk6_52 rfl (Nat.le_of_ble_eq_true rfl) ⟨Nat.le_of_ble_eq_true rfl, Nat.le_of_ble_eq_true rfl⟩ dX6_begin_11 rfl rfl ?_
      refine r_if_ne C (tgt := 20) dX6_begin_14 (by decide) (fun hc => ?_) (fun hc => ?_)
      · replace h := br_n hc h
        refine r_aload_n C 0 rfl dX6_begin_20 rfl ?_
        refine r_iload_n C 1 rfl dX6_begin_21 rfl ?_
        refine m_p_n C dX6_begin_22 ?_
        refine r_aload_n C 0 rfl dX6_begin_25 rfl ?_
        refine r_iload_n C 2 rfl dX6_begin_26 rfl ?_
        refine r_i2l C dX6_begin_27 ?_
        refine m_p_p C dX6_begin_28 ?_
        refine r_aload_n C 0 rfl dX6_begin_31 rfl ?_
        refine r_iconst C (v := 0) dX6_begin_32 (by decide) ?_
        refine m_p_count C dX6_begin_33 ?_
        refine r_aload_n C 0 rfl dX6_begin_36 rfl ?_
        refine r_iconst C (v := 0) dX6_begin_37 (by decide) ?_
        refine m_p_gathered C dX6_begin_38 ?_
        refine r_aload_n C 0 rfl dX6_begin_41 rfl ?_
        refine r_iconst C (v := 0) dX6_begin_42 (by decide) ?_
        refine m_p_paired C dX6_begin_43 ?_
        refine r_aload_n C 0 rfl dX6_begin_46 rfl ?_
        refine r_iconst C (v := -1) dX6_begin_47 (by decide) ?_
        refine m_p_ideal C dX6_begin_48 ?_
        refine r_iconst C (v := 0) dX6_begin_51 (by decide) ?_
        refine r_istore_n C (lv' := [(3, .int ((0 : Int32))), (0, .ref h0), (1, .int x1), (2, .int x2)]) dX6_begin_52 rfl (by decide) rfl ?_
        refine r_lv [1, 0] rfl ?_
        obtain ⟨r2, qr2, h⟩ := bd_i h
        refine w_begin_L53 C qr2 ?_
        refine r_iconst C (v := 1) dX6_begin_72 (by decide) ?_
        obtain rfl := sm_i h
        exact r_ireturn C (Eq.symm hO) dX6_begin_73
      · replace h := br_p hc h
        refine r_bipush C (v := -2) dX6_begin_17 (by decide) ?_
        obtain rfl := sm_i h
        exact r_ireturn C (Eq.symm hO) dX6_begin_19
noncomputable def m_mod (p : Int64) (x1 : Int64) : Option Int64 := if p = 0 then none else if ((0 : Int64)) ≤ (x1 - x1 / p * p) then (some (x1 - x1 / p * p)) else (some ((x1 - x1 / p * p) + p))
set_option maxHeartbeats 4000000 in
set_option maxRecDepth 100000 in
theorem c_mod {G : gT} {h0 : Nat} {hp : cH} {sz : Nat} {n : Int32} {p : Int64} {count : Int32} {sorts : Nat → Int32} {rows : Nat → Int64} {hand : Nat → Int64} {gathered : Int32} {gather : Nat → Int32} {paired : Int32} {pairA : Nat → Int32} {pairB : Nat → Int32} {ideal : Int32} {draft : Nat → Int64} {frame : Nat → Int64} {one : Nat → Int64} {two : Nat → Int64} {turned : Nat → Int64} {placeI : Int32} {placeJ : Int32} {formA : Int64} {formB : Int64} {formC : Int64} {x1 : Int64} {out : Int64} (h : m_mod p x1 = some out) : aM G yX6_mod cX6_mod 5 (some .long) 0 0 0 0 [.ref h0, .long x1] (mw h0 hp n p count sorts rows hand gathered gather paired pairA pairB ideal draft frame one two turned placeI placeJ formA formB formC) sz ((some (.long out), mw h0 hp n p count sorts rows hand gathered gather paired pairA pairB ideal draft frame one two turned placeI placeJ formA formB formC, sz) : oT) := by
  refine aM.of RX6 (by decide) rfl (Nat.le_of_ble_eq_true rfl) (fun K C => ?_)
  have hO : ((some (.long out), mw h0 hp n p count sorts rows hand gathered gather paired pairA pairB ideal draft frame one two turned placeI placeJ formA formB formC, sz) : oT) = ((some (.long out), mw h0 hp n p count sorts rows hand gathered gather paired pairA pairB ideal draft frame one two turned placeI placeJ formA formB formC, sz) : oT) := rfl
  refine r_lve (lv' := [(0, .ref h0), (1, .long x1)]) rfl ?_
  unfold m_mod at h
  refine r_lload_n C 1 rfl dX6_mod_0 rfl ?_
  refine r_aload_n C 0 rfl dX6_mod_1 rfl ?_
  refine m_g_p C dX6_mod_2 ?_
  obtain ⟨hne, h⟩ := gd_n h
  refine r_lrem C dX6_mod_5 hne ?_
  refine r_lstore_n C (lv' := [(3, .long (x1 - x1 / p * p)), (0, .ref h0), (1, .long x1)]) dX6_mod_6 rfl (by decide) rfl ?_
  refine r_lload_n C 0 rfl dX6_mod_7 rfl ?_
  refine r_lconst C (v := 0) dX6_mod_8 (by decide) ?_
  refine r_lge C (tgt := 22) dX6_mod_9 dX6_mod_10 (by decide) (fun hc => ?_) (fun hc => ?_)
  · replace h := br_p hc h
    refine r_lload_n C 0 rfl dX6_mod_22 rfl ?_
    obtain rfl := sm_i h
    exact r_lreturn C (Eq.symm hO) dX6_mod_23
  · replace h := br_n hc h
    refine r_lload_n C 0 rfl dX6_mod_13 rfl ?_
    refine r_aload_n C 1 rfl dX6_mod_14 rfl ?_
    refine m_g_p C dX6_mod_15 ?_
    refine r_ladd C dX6_mod_18 ?_
    refine r_goto C (tgt := 23) dX6_mod_19 (by decide) ?_
    obtain rfl := sm_i h
    exact r_lreturn C (Eq.symm hO) dX6_mod_23
noncomputable def m_times (p : Int64) (x1 : Int64) (x3 : Int64) : Option Int64 := if p = 0 then none else some ((x1 * x3) - (x1 * x3) / p * p)
set_option maxHeartbeats 4000000 in
set_option maxRecDepth 100000 in
theorem c_times {G : gT} {h0 : Nat} {hp : cH} {sz : Nat} {n : Int32} {p : Int64} {count : Int32} {sorts : Nat → Int32} {rows : Nat → Int64} {hand : Nat → Int64} {gathered : Int32} {gather : Nat → Int32} {paired : Int32} {pairA : Nat → Int32} {pairB : Nat → Int32} {ideal : Int32} {draft : Nat → Int64} {frame : Nat → Int64} {one : Nat → Int64} {two : Nat → Int64} {turned : Nat → Int64} {placeI : Int32} {placeJ : Int32} {formA : Int64} {formB : Int64} {formC : Int64} {x1 : Int64} {x3 : Int64} {out : Int64} (h : m_times p x1 x3 = some out) : aM G yX6_times cX6_times 5 (some .long) 0 0 0 0 [.ref h0, .long x1, .long x3] (mw h0 hp n p count sorts rows hand gathered gather paired pairA pairB ideal draft frame one two turned placeI placeJ formA formB formC) sz ((some (.long out), mw h0 hp n p count sorts rows hand gathered gather paired pairA pairB ideal draft frame one two turned placeI placeJ formA formB formC, sz) : oT) := by
  refine aM.of RX6 (by decide) rfl (Nat.le_of_ble_eq_true rfl) (fun K C => ?_)
  have hO : ((some (.long out), mw h0 hp n p count sorts rows hand gathered gather paired pairA pairB ideal draft frame one two turned placeI placeJ formA formB formC, sz) : oT) = ((some (.long out), mw h0 hp n p count sorts rows hand gathered gather paired pairA pairB ideal draft frame one two turned placeI placeJ formA formB formC, sz) : oT) := rfl
  refine r_lve (lv' := [(0, .ref h0), (1, .long x1), (3, .long x3)]) rfl ?_
  unfold m_times at h
  refine r_lload_n C 1 rfl dX6_times_0 rfl ?_
  refine r_lload_n C 2 rfl dX6_times_1 rfl ?_
  refine r_lmul C dX6_times_2 ?_
  refine r_aload_n C 0 rfl dX6_times_3 rfl ?_
  refine m_g_p C dX6_times_4 ?_
  obtain ⟨hne, h⟩ := gd_n h
  refine r_lrem C dX6_times_7 hne ?_
  obtain rfl := sm_i h
  exact r_lreturn C (Eq.symm hO) dX6_times_8
noncomputable def m_power_L9 (p : Int64) (s : (Int64 × Int64 × Int64)) : Option ((Int64 × Int64 × Int64) ⊕ Int64) := if s.2.2 ≤ ((0 : Int64)) then (some (.inr s.2.1)) else (if (s.2.2 &&& ((1 : Int64))) = ((1 : Int64)) then ((m_times p s.2.1 s.1).bind fun r2 => (m_times p s.1 s.1).bind fun r3 => some (.inl (r3, r2, s.2.2 >>> (((1 : Int32)).toInt64 &&& 63)))) else ((m_times p s.1 s.1).bind fun r1 => some (.inl (r1, s.2.1, s.2.2 >>> (((1 : Int32)).toInt64 &&& 63)))))
noncomputable def m_power (p : Int64) (x1 : Int64) (x3 : Int64) : Option Int64 := (itX (m_power_L9 p) (x1, (1 : Int64), x3)).bind fun r4 => some r4
set_option maxHeartbeats 4000000 in
set_option maxRecDepth 100000 in
theorem w_power_L9 {K : kT} {O : oT} (C : aC K cX6_power RX6 "power" 1 16 0 0 11 (some .long) O) {h0 : Nat} {hp : cH} {sz : Nat} {n : Int32} {p : Int64} {count : Int32} {sorts : Nat → Int32} {rows : Nat → Int64} {hand : Nat → Int64} {gathered : Int32} {gather : Nat → Int32} {paired : Int32} {pairA : Nat → Int32} {pairB : Nat → Int32} {ideal : Int32} {draft : Nat → Int64} {frame : Nat → Int64} {one : Nat → Int64} {two : Nat → Int64} {turned : Nat → Int64} {placeI : Int32} {placeJ : Int32} {formA : Int64} {formB : Int64} {formC : Int64}  {v0 : Int64} {v1 : Int64} {v2 : Int64} {r : Int64} (h : itX (m_power_L9 p) (v0, v1, v2) = some r) (hr : aW K (mw h0 hp n p count sorts rows hand gathered gather paired pairA pairB ideal draft frame one two turned placeI placeJ formA formB formC) sz 0 0 59 [(7, .long r)] []) : aW K (mw h0 hp n p count sorts rows hand gathered gather paired pairA pairB ideal draft frame one two turned placeI placeJ formA formB formC) sz 0 0 9 [(0, .ref h0), (5, .long v0), (7, .long v1), (9, .long v2)] [] := by
  refine it_walk (f := m_power_L9 p) (P := fun s => aW K (mw h0 hp n p count sorts rows hand gathered gather paired pairA pairB ideal draft frame one two turned placeI placeJ formA formB formC) sz 0 0 9 [(0, .ref h0), (5, .long s.1), (7, .long s.2.1), (9, .long s.2.2)] []) (R := fun r => aW K (mw h0 hp n p count sorts rows hand gathered gather paired pairA pairB ideal draft frame one two turned placeI placeJ formA formB formC) sz 0 0 59 [(7, .long r)] []) ?_ h hr
  clear h hr
  intro s x h kl kr
  unfold m_power_L9 at h
  refine r_lload C 3 rfl dX6_power_9 ?_
  refine r_lconst C (v := 0) dX6_power_11 (by decide) ?_
  refine r_lle C (tgt := 59) dX6_power_12 dX6_power_13 (by decide) (fun hc => ?_) (fun hc => ?_)
  · replace h := br_p hc h
    refine r_lv [2] rfl ?_
    exact kr _ (sm_i h)
  · replace h := br_n hc h
    refine r_lload C 3 rfl dX6_power_16 ?_
    refine r_lconst C (v := 1) dX6_power_18 (by decide) ?_
    refine r_land C dX6_power_19 ?_
    refine r_lconst C (v := 1) dX6_power_20 (by decide) ?_
    refine r_lne C (tgt := 36) dX6_power_21 dX6_power_22 (by decide) (fun hc => ?_) (fun hc => ?_)
    · replace h := br_n hc h
      refine r_lload C 2 rfl dX6_power_36 ?_
      refine r_lstore C (lv' := [(7, .long s.2.1), (0, .ref h0), (5, .long s.1), (9, .long s.2.2)]) dX6_power_38 (by decide) rfl ?_
      refine r_aload_n C 1 rfl dX6_power_40 rfl ?_
      refine r_lload C 2 rfl dX6_power_41 ?_
      refine r_lload C 2 rfl dX6_power_43 ?_
      obtain ⟨r1, qr1, h⟩ := bd_i h
      refine q_callV C 0 0 0 (c_times qr1) rfl mw_self rfl ok_times in_times lk6_76 rfl (Nat.le_of_ble_eq_true rfl) ⟨Nat.le_of_ble_eq_true rfl, Nat.le_of_ble_eq_true rfl⟩ dX6_power_45 rfl rfl ?_
      refine r_lstore C (lv' := [(5, .long r1), (7, .long s.2.1), (0, .ref h0), (9, .long s.2.2)]) dX6_power_48 (by decide) rfl ?_
      refine r_lload C 3 rfl dX6_power_50 ?_
      refine r_iconst C (v := 1) dX6_power_52 (by decide) ?_
      refine r_lshr C dX6_power_53 ?_
      refine r_lstore C (lv' := [(9, .long (s.2.2 >>> (((1 : Int32)).toInt64 &&& 63))), (5, .long r1), (7, .long s.2.1), (0, .ref h0)]) dX6_power_54 (by decide) rfl ?_
      refine r_goto C (tgt := 9) dX6_power_56 (by decide) ?_
      refine r_lv [3, 1, 2, 0] rfl ?_
      exact kl _ (sm_i h)
    · replace h := br_p hc h
      refine r_aload_n C 0 rfl dX6_power_25 rfl ?_
      refine r_lload C 2 rfl dX6_power_26 ?_
      refine r_lload C 1 rfl dX6_power_28 ?_
      obtain ⟨r2, qr2, h⟩ := bd_i h
      refine q_callV C 0 0 0 (c_times qr2) rfl mw_self rfl ok_times in_times lk6_76 rfl (Nat.le_of_ble_eq_true rfl) ⟨Nat.le_of_ble_eq_true rfl, Nat.le_of_ble_eq_true rfl⟩ dX6_power_30 rfl rfl ?_
      refine r_goto C (tgt := 38) dX6_power_33 (by decide) ?_
      refine r_lstore C (lv' := [(7, .long r2), (0, .ref h0), (5, .long s.1), (9, .long s.2.2)]) dX6_power_38 (by decide) rfl ?_
      refine r_aload_n C 1 rfl dX6_power_40 rfl ?_
      refine r_lload C 2 rfl dX6_power_41 ?_
      refine r_lload C 2 rfl dX6_power_43 ?_
      obtain ⟨r3, qr3, h⟩ := bd_i h
      refine q_callV C 0 0 0 (c_times qr3) rfl mw_self rfl ok_times in_times lk6_76 rfl (Nat.le_of_ble_eq_true rfl) ⟨Nat.le_of_ble_eq_true rfl, Nat.le_of_ble_eq_true rfl⟩ dX6_power_45 rfl rfl ?_
      refine r_lstore C (lv' := [(5, .long r3), (7, .long r2), (0, .ref h0), (9, .long s.2.2)]) dX6_power_48 (by decide) rfl ?_
      refine r_lload C 3 rfl dX6_power_50 ?_
      refine r_iconst C (v := 1) dX6_power_52 (by decide) ?_
      refine r_lshr C dX6_power_53 ?_
      refine r_lstore C (lv' := [(9, .long (s.2.2 >>> (((1 : Int32)).toInt64 &&& 63))), (5, .long r3), (7, .long r2), (0, .ref h0)]) dX6_power_54 (by decide) rfl ?_
      refine r_goto C (tgt := 9) dX6_power_56 (by decide) ?_
      refine r_lv [3, 1, 2, 0] rfl ?_
      exact kl _ (sm_i h)
set_option maxHeartbeats 4000000 in
set_option maxRecDepth 100000 in
theorem c_power {G : gT} {h0 : Nat} {hp : cH} {sz : Nat} {n : Int32} {p : Int64} {count : Int32} {sorts : Nat → Int32} {rows : Nat → Int64} {hand : Nat → Int64} {gathered : Int32} {gather : Nat → Int32} {paired : Int32} {pairA : Nat → Int32} {pairB : Nat → Int32} {ideal : Int32} {draft : Nat → Int64} {frame : Nat → Int64} {one : Nat → Int64} {two : Nat → Int64} {turned : Nat → Int64} {placeI : Int32} {placeJ : Int32} {formA : Int64} {formB : Int64} {formC : Int64} {x1 : Int64} {x3 : Int64} {out : Int64} (h : m_power p x1 x3 = some out) : aM G yX6_power cX6_power 11 (some .long) 1 16 0 0 [.ref h0, .long x1, .long x3] (mw h0 hp n p count sorts rows hand gathered gather paired pairA pairB ideal draft frame one two turned placeI placeJ formA formB formC) sz ((some (.long out), mw h0 hp n p count sorts rows hand gathered gather paired pairA pairB ideal draft frame one two turned placeI placeJ formA formB formC, sz) : oT) := by
  refine aM.of RX6 (by decide) rfl (Nat.le_of_ble_eq_true rfl) (fun K C => ?_)
  have hO : ((some (.long out), mw h0 hp n p count sorts rows hand gathered gather paired pairA pairB ideal draft frame one two turned placeI placeJ formA formB formC, sz) : oT) = ((some (.long out), mw h0 hp n p count sorts rows hand gathered gather paired pairA pairB ideal draft frame one two turned placeI placeJ formA formB formC, sz) : oT) := rfl
  refine r_lve (lv' := [(0, .ref h0), (1, .long x1), (3, .long x3)]) rfl ?_
  unfold m_power at h
  refine r_lload_n C 1 rfl dX6_power_0 rfl ?_
  refine r_lstore C (lv' := [(5, .long x1), (0, .ref h0), (1, .long x1), (3, .long x3)]) dX6_power_1 (by decide) rfl ?_
  refine r_lconst C (v := 1) dX6_power_3 (by decide) ?_
  refine r_lstore C (lv' := [(7, .long ((1 : Int64))), (5, .long x1), (0, .ref h0), (1, .long x1), (3, .long x3)]) dX6_power_4 (by decide) rfl ?_
  refine r_lload_n C 4 rfl dX6_power_6 rfl ?_
  refine r_lstore C (lv' := [(9, .long x3), (7, .long ((1 : Int64))), (5, .long x1), (0, .ref h0), (1, .long x1), (3, .long x3)]) dX6_power_7 (by decide) rfl ?_
  refine r_lv [3, 2, 1, 0] rfl ?_
  obtain ⟨r4, qr4, h⟩ := bd_i h
  refine w_power_L9 C qr4 ?_
  refine r_lload C 0 rfl dX6_power_59 ?_
  obtain rfl := sm_i h
  exact r_lreturn C (Eq.symm hO) dX6_power_61
noncomputable def m_isSquare (p : Int64) (x1 : Int64) : Option Int32 := if x1 = ((0 : Int64)) then (some ((1 : Int32))) else ((m_power p x1 ((p - ((1 : Int64))) / ((2 : Int64)))).bind fun r1 => if r1 = ((1 : Int64)) then (some ((1 : Int32))) else (some ((0 : Int32))))
set_option maxHeartbeats 4000000 in
set_option maxRecDepth 100000 in
theorem c_isSquare {G : gT} {h0 : Nat} {hp : cH} {sz : Nat} {n : Int32} {p : Int64} {count : Int32} {sorts : Nat → Int32} {rows : Nat → Int64} {hand : Nat → Int64} {gathered : Int32} {gather : Nat → Int32} {paired : Int32} {pairA : Nat → Int32} {pairB : Nat → Int32} {ideal : Int32} {draft : Nat → Int64} {frame : Nat → Int64} {one : Nat → Int64} {two : Nat → Int64} {turned : Nat → Int64} {placeI : Int32} {placeJ : Int32} {formA : Int64} {formB : Int64} {formC : Int64} {x1 : Int64} {out : Int32} (h : m_isSquare p x1 = some out) : aM G yX6_isSquare cX6_isSquare 3 (some .boolean) 2 38 0 0 [.ref h0, .long x1] (mw h0 hp n p count sorts rows hand gathered gather paired pairA pairB ideal draft frame one two turned placeI placeJ formA formB formC) sz ((some (.int out), mw h0 hp n p count sorts rows hand gathered gather paired pairA pairB ideal draft frame one two turned placeI placeJ formA formB formC, sz) : oT) := by
  refine aM.of RX6 (by decide) rfl (Nat.le_of_ble_eq_true rfl) (fun K C => ?_)
  have hO : ((some (.int out), mw h0 hp n p count sorts rows hand gathered gather paired pairA pairB ideal draft frame one two turned placeI placeJ formA formB formC, sz) : oT) = ((some (.int out), mw h0 hp n p count sorts rows hand gathered gather paired pairA pairB ideal draft frame one two turned placeI placeJ formA formB formC, sz) : oT) := rfl
  refine r_lve (lv' := [(0, .ref h0), (1, .long x1)]) rfl ?_
  unfold m_isSquare at h
  refine r_lload_n C 1 rfl dX6_isSquare_0 rfl ?_
  refine r_lconst C (v := 0) dX6_isSquare_1 (by decide) ?_
  refine r_leq C (tgt := 26) dX6_isSquare_2 dX6_isSquare_3 (by decide) (fun hc => ?_) (fun hc => ?_)
  · replace h := br_p hc h
    refine r_iconst C (v := 1) dX6_isSquare_26 (by decide) ?_
    refine r_goto C (tgt := 31) dX6_isSquare_27 (by decide) ?_
    obtain rfl := sm_i h
    exact r_zreturn C rfl (Eq.symm hO) dX6_isSquare_31
  · replace h := br_n hc h
    refine r_aload_n C 0 rfl dX6_isSquare_6 rfl ?_
    refine r_lload_n C 1 rfl dX6_isSquare_7 rfl ?_
    refine r_aload_n C 0 rfl dX6_isSquare_8 rfl ?_
    refine m_g_p C dX6_isSquare_9 ?_
    refine r_lconst C (v := 1) dX6_isSquare_12 (by decide) ?_
    refine r_lsub C dX6_isSquare_13 ?_
    refine r_ldc2 C (v := 2) cl6_50 dX6_isSquare_14 ?_
    refine r_ldiv C dX6_isSquare_17 (by decide) ?_
    obtain ⟨r1, qr1, h⟩ := bd_i h
    refine q_callV C 0 0 0 (c_power qr1) rfl mw_self rfl ok_power in_power lk6_80 rfl (Nat.le_of_ble_eq_true rfl) ⟨Nat.le_of_ble_eq_true rfl, Nat.le_of_ble_eq_true rfl⟩ dX6_isSquare_18 rfl rfl ?_
    refine r_lconst C (v := 1) dX6_isSquare_21 (by decide) ?_
    refine r_lne C (tgt := 30) dX6_isSquare_22 dX6_isSquare_23 (by decide) (fun hc => ?_) (fun hc => ?_)
    · replace h := br_n hc h
      refine r_iconst C (v := 0) dX6_isSquare_30 (by decide) ?_
      obtain rfl := sm_i h
      exact r_zreturn C rfl (Eq.symm hO) dX6_isSquare_31
    · replace h := br_p hc h
      refine r_iconst C (v := 1) dX6_isSquare_26 (by decide) ?_
      refine r_goto C (tgt := 31) dX6_isSquare_27 (by decide) ?_
      obtain rfl := sm_i h
      exact r_zreturn C rfl (Eq.symm hO) dX6_isSquare_31
noncomputable def m_rootOf_L18  (s : (Int64 × Int32)) : Option ((Int64 × Int32) ⊕ (Int64 × Int32)) := if (s.1 - s.1 / ((2 : Int64)) * ((2 : Int64))) = ((0 : Int64)) then (some (.inl (s.1 / ((2 : Int64)), s.2 + 1))) else (some (.inr (s.1, s.2)))
noncomputable def m_rootOf_L45 (p : Int64) (s : Int64) : Option (Int64 ⊕ Int64) := (m_isSquare p s).bind fun r2 => if r2 = 0 then (some (.inr s)) else (some (.inl (s + ((1 : Int64)))))
noncomputable def m_rootOf_L112 (p : Int64) (s : (Int32 × Int64)) : Option ((Int32 × Int64) ⊕ Int32) := if s.2 = ((1 : Int64)) then (some (.inr s.1)) else ((m_times p s.2 s.2).bind fun r7 => some (.inl (s.1 + 1, r7)))
noncomputable def m_rootOf_L142 (p : Int64) (l14 : Int32) (l15 : Int32) (s : (Int64 × Int32)) : Option ((Int64 × Int32) ⊕ Int64) := if ((l14 - l15) - ((1 : Int32))) ≤ s.2 then (some (.inr s.1)) else ((m_times p s.1 s.1).bind fun r9 => some (.inl (r9, s.2 + 1)))
noncomputable def m_rootOf_L98 (p : Int64) (s : (Int64 × Int64 × Int64 × Int32)) : Option ((Int64 × Int64 × Int64 × Int32) ⊕ Int64) := if s.2.2.1 = ((1 : Int64)) then (some (.inr s.2.1)) else ((itX (m_rootOf_L112 p) ((0 : Int32), s.2.2.1)).bind fun r8 => (itX (m_rootOf_L142 p s.2.2.2 r8) (s.1, (0 : Int32))).bind fun r10 => (m_times p s.2.1 r10).bind fun r11 => (m_times p r10 r10).bind fun r12 => (m_times p s.2.2.1 r12).bind fun r13 => some (.inl (r12, r11, r13, r8)))
noncomputable def m_rootOf (p : Int64) (x1 : Int64) : Option Int64 := if x1 = ((0 : Int64)) then (some ((0 : Int64))) else ((itX m_rootOf_L18 (p - ((1 : Int64)), (0 : Int32))).bind fun r1 => (itX (m_rootOf_L45 p) ((2 : Int64))).bind fun r3 => (m_power p r3 r1.1).bind fun r4 => (m_power p x1 ((r1.1 + ((1 : Int64))) / ((2 : Int64)))).bind fun r5 => (m_power p x1 r1.1).bind fun r6 => (itX (m_rootOf_L98 p) (r4, r5, r6, r1.2)).bind fun r14 => if (p - r14) < r14 then (some (p - r14)) else (some r14))
set_option maxHeartbeats 4000000 in
set_option maxRecDepth 100000 in
theorem w_rootOf_L18 {K : kT} {O : oT} (C : aC K cX6_rootOf RX6 "rootOf" 3 52 0 0 19 (some .long) O) {h0 : Nat} {hp : cH} {sz : Nat} {n : Int32} {p : Int64} {count : Int32} {sorts : Nat → Int32} {rows : Nat → Int64} {hand : Nat → Int64} {gathered : Int32} {gather : Nat → Int32} {paired : Int32} {pairA : Nat → Int32} {pairB : Nat → Int32} {ideal : Int32} {draft : Nat → Int64} {frame : Nat → Int64} {one : Nat → Int64} {two : Nat → Int64} {turned : Nat → Int64} {placeI : Int32} {placeJ : Int32} {formA : Int64} {formB : Int64} {formC : Int64} {l1 : Int64} {v0 : Int64} {v1 : Int32} {r : (Int64 × Int32)} (h : itX (m_rootOf_L18 ) (v0, v1) = some r) (hr : aW K (mw h0 hp n p count sorts rows hand gathered gather paired pairA pairB ideal draft frame one two turned placeI placeJ formA formB formC) sz 0 0 40 [(0, .ref h0), (1, .long l1), (3, .long r.1), (5, .int r.2)] []) : aW K (mw h0 hp n p count sorts rows hand gathered gather paired pairA pairB ideal draft frame one two turned placeI placeJ formA formB formC) sz 0 0 18 [(0, .ref h0), (1, .long l1), (3, .long v0), (5, .int v1)] [] := by
  refine it_walk (f := m_rootOf_L18 ) (P := fun s => aW K (mw h0 hp n p count sorts rows hand gathered gather paired pairA pairB ideal draft frame one two turned placeI placeJ formA formB formC) sz 0 0 18 [(0, .ref h0), (1, .long l1), (3, .long s.1), (5, .int s.2)] []) (R := fun r => aW K (mw h0 hp n p count sorts rows hand gathered gather paired pairA pairB ideal draft frame one two turned placeI placeJ formA formB formC) sz 0 0 40 [(0, .ref h0), (1, .long l1), (3, .long r.1), (5, .int r.2)] []) ?_ h hr
  clear h hr
  intro s x h kl kr
  unfold m_rootOf_L18 at h
  refine r_lload_n C 2 rfl dX6_rootOf_18 rfl ?_
  refine r_ldc2 C (v := 2) cl6_50 dX6_rootOf_19 ?_
  refine r_lrem C dX6_rootOf_22 (by decide) ?_
  refine r_lconst C (v := 0) dX6_rootOf_23 (by decide) ?_
  refine r_lne C (tgt := 40) dX6_rootOf_24 dX6_rootOf_25 (by decide) (fun hc => ?_) (fun hc => ?_)
  · replace h := br_n hc h
    refine r_lv [0, 1, 2, 3] rfl ?_
    exact kr _ (sm_i h)
  · replace h := br_p hc h
    refine r_lload_n C 2 rfl dX6_rootOf_28 rfl ?_
    refine r_ldc2 C (v := 2) cl6_50 dX6_rootOf_29 ?_
    refine r_ldiv C dX6_rootOf_32 (by decide) ?_
    refine r_lstore_n C (lv' := [(3, .long (s.1 / ((2 : Int64)))), (0, .ref h0), (1, .long l1), (5, .int s.2)]) dX6_rootOf_33 rfl (by decide) rfl ?_
    refine r_iinc C (v := s.2 + 1) (lv' := [(5, .int (s.2 + 1)), (3, .long (s.1 / ((2 : Int64)))), (0, .ref h0), (1, .long l1)]) 3 rfl dX6_rootOf_34 rfl (by decide) rfl ?_
    refine r_goto C (tgt := 18) dX6_rootOf_37 (by decide) ?_
    refine r_lv [2, 3, 1, 0] rfl ?_
    exact kl _ (sm_i h)
set_option maxHeartbeats 4000000 in
set_option maxRecDepth 100000 in
theorem w_rootOf_L45 {K : kT} {O : oT} (C : aC K cX6_rootOf RX6 "rootOf" 3 52 0 0 19 (some .long) O) {h0 : Nat} {hp : cH} {sz : Nat} {n : Int32} {p : Int64} {count : Int32} {sorts : Nat → Int32} {rows : Nat → Int64} {hand : Nat → Int64} {gathered : Int32} {gather : Nat → Int32} {paired : Int32} {pairA : Nat → Int32} {pairB : Nat → Int32} {ideal : Int32} {draft : Nat → Int64} {frame : Nat → Int64} {one : Nat → Int64} {two : Nat → Int64} {turned : Nat → Int64} {placeI : Int32} {placeJ : Int32} {formA : Int64} {formB : Int64} {formC : Int64} {l1 : Int64} {l3 : Int64} {l5 : Int32} {v0 : Int64} {r : Int64} (h : itX (m_rootOf_L45 p) v0 = some r) (hr : aW K (mw h0 hp n p count sorts rows hand gathered gather paired pairA pairB ideal draft frame one two turned placeI placeJ formA formB formC) sz 0 0 63 [(0, .ref h0), (1, .long l1), (3, .long l3), (5, .int l5), (6, .long r)] []) : aW K (mw h0 hp n p count sorts rows hand gathered gather paired pairA pairB ideal draft frame one two turned placeI placeJ formA formB formC) sz 0 0 45 [(0, .ref h0), (1, .long l1), (3, .long l3), (5, .int l5), (6, .long v0)] [] := by
  refine it_walk (f := m_rootOf_L45 p) (P := fun s => aW K (mw h0 hp n p count sorts rows hand gathered gather paired pairA pairB ideal draft frame one two turned placeI placeJ formA formB formC) sz 0 0 45 [(0, .ref h0), (1, .long l1), (3, .long l3), (5, .int l5), (6, .long s)] []) (R := fun r => aW K (mw h0 hp n p count sorts rows hand gathered gather paired pairA pairB ideal draft frame one two turned placeI placeJ formA formB formC) sz 0 0 63 [(0, .ref h0), (1, .long l1), (3, .long l3), (5, .int l5), (6, .long r)] []) ?_ h hr
  clear h hr
  intro s x h kl kr
  unfold m_rootOf_L45 at h
  refine r_aload_n C 0 rfl dX6_rootOf_45 rfl ?_
  refine r_lload C 4 rfl dX6_rootOf_46 ?_
  obtain ⟨r2, qr2, h⟩ := bd_i h
  refine q_callV C 0 0 0 (c_isSquare qr2) rfl mw_self rfl ok_isSquare in_isSquare lk6_83 rfl (Nat.le_of_ble_eq_true rfl) ⟨Nat.le_of_ble_eq_true rfl, Nat.le_of_ble_eq_true rfl⟩ dX6_rootOf_48 rfl rfl ?_
  refine r_if_eq C (tgt := 63) dX6_rootOf_51 (by decide) (fun hc => ?_) (fun hc => ?_)
  · replace h := br_p hc h
    refine r_lv [0, 1, 2, 3, 4] rfl ?_
    exact kr _ (sm_i h)
  · replace h := br_n hc h
    refine r_lload C 4 rfl dX6_rootOf_54 ?_
    refine r_lconst C (v := 1) dX6_rootOf_56 (by decide) ?_
    refine r_ladd C dX6_rootOf_57 ?_
    refine r_lstore C (lv' := [(6, .long (s + ((1 : Int64)))), (0, .ref h0), (1, .long l1), (3, .long l3), (5, .int l5)]) dX6_rootOf_58 (by decide) rfl ?_
    refine r_goto C (tgt := 45) dX6_rootOf_60 (by decide) ?_
    refine r_lv [1, 2, 3, 4, 0] rfl ?_
    exact kl _ (sm_i h)
set_option maxHeartbeats 4000000 in
set_option maxRecDepth 100000 in
theorem w_rootOf_L112 {K : kT} {O : oT} (C : aC K cX6_rootOf RX6 "rootOf" 3 52 0 0 19 (some .long) O) {h0 : Nat} {hp : cH} {sz : Nat} {n : Int32} {p : Int64} {count : Int32} {sorts : Nat → Int32} {rows : Nat → Int64} {hand : Nat → Int64} {gathered : Int32} {gather : Nat → Int32} {paired : Int32} {pairA : Nat → Int32} {pairB : Nat → Int32} {ideal : Int32} {draft : Nat → Int64} {frame : Nat → Int64} {one : Nat → Int64} {two : Nat → Int64} {turned : Nat → Int64} {placeI : Int32} {placeJ : Int32} {formA : Int64} {formB : Int64} {formC : Int64} {l8 : Int64} {l10 : Int64} {l12 : Int64} {l14 : Int32} {v0 : Int32} {v1 : Int64} {r : Int32} (h : itX (m_rootOf_L112 p) (v0, v1) = some r) (hr : aW K (mw h0 hp n p count sorts rows hand gathered gather paired pairA pairB ideal draft frame one two turned placeI placeJ formA formB formC) sz 0 0 135 [(0, .ref h0), (8, .long l8), (10, .long l10), (12, .long l12), (14, .int l14), (15, .int r)] []) : aW K (mw h0 hp n p count sorts rows hand gathered gather paired pairA pairB ideal draft frame one two turned placeI placeJ formA formB formC) sz 0 0 112 [(0, .ref h0), (8, .long l8), (10, .long l10), (12, .long l12), (14, .int l14), (15, .int v0), (16, .long v1)] [] := by
  refine it_walk (f := m_rootOf_L112 p) (P := fun s => aW K (mw h0 hp n p count sorts rows hand gathered gather paired pairA pairB ideal draft frame one two turned placeI placeJ formA formB formC) sz 0 0 112 [(0, .ref h0), (8, .long l8), (10, .long l10), (12, .long l12), (14, .int l14), (15, .int s.1), (16, .long s.2)] []) (R := fun r => aW K (mw h0 hp n p count sorts rows hand gathered gather paired pairA pairB ideal draft frame one two turned placeI placeJ formA formB formC) sz 0 0 135 [(0, .ref h0), (8, .long l8), (10, .long l10), (12, .long l12), (14, .int l14), (15, .int r)] []) ?_ h hr
  clear h hr
  intro s x h kl kr
  unfold m_rootOf_L112 at h
  refine r_lload C 6 rfl dX6_rootOf_112 ?_
  refine r_lconst C (v := 1) dX6_rootOf_114 (by decide) ?_
  refine r_leq C (tgt := 135) dX6_rootOf_115 dX6_rootOf_116 (by decide) (fun hc => ?_) (fun hc => ?_)
  · replace h := br_p hc h
    refine r_lv [0, 1, 2, 3, 4, 5] rfl ?_
    exact kr _ (sm_i h)
  · replace h := br_n hc h
    refine r_iinc C (v := s.1 + 1) (lv' := [(15, .int (s.1 + 1)), (0, .ref h0), (8, .long l8), (10, .long l10), (12, .long l12), (14, .int l14), (16, .long s.2)]) 5 rfl dX6_rootOf_119 rfl (by decide) rfl ?_
    refine r_aload_n C 1 rfl dX6_rootOf_122 rfl ?_
    refine r_lload C 6 rfl dX6_rootOf_123 ?_
    refine r_lload C 6 rfl dX6_rootOf_125 ?_
    obtain ⟨r7, qr7, h⟩ := bd_i h
    refine q_callV C 0 0 0 (c_times qr7) rfl mw_self rfl ok_times in_times lk6_76 rfl (Nat.le_of_ble_eq_true rfl) ⟨Nat.le_of_ble_eq_true rfl, Nat.le_of_ble_eq_true rfl⟩ dX6_rootOf_127 rfl rfl ?_
    refine r_lstore C (lv' := [(16, .long r7), (15, .int (s.1 + 1)), (0, .ref h0), (8, .long l8), (10, .long l10), (12, .long l12), (14, .int l14)]) dX6_rootOf_130 (by decide) rfl ?_
    refine r_goto C (tgt := 112) dX6_rootOf_132 (by decide) ?_
    refine r_lv [2, 3, 4, 5, 6, 1, 0] rfl ?_
    exact kl _ (sm_i h)
set_option maxHeartbeats 4000000 in
set_option maxRecDepth 100000 in
theorem w_rootOf_L142 {K : kT} {O : oT} (C : aC K cX6_rootOf RX6 "rootOf" 3 52 0 0 19 (some .long) O) {h0 : Nat} {hp : cH} {sz : Nat} {n : Int32} {p : Int64} {count : Int32} {sorts : Nat → Int32} {rows : Nat → Int64} {hand : Nat → Int64} {gathered : Int32} {gather : Nat → Int32} {paired : Int32} {pairA : Nat → Int32} {pairB : Nat → Int32} {ideal : Int32} {draft : Nat → Int64} {frame : Nat → Int64} {one : Nat → Int64} {two : Nat → Int64} {turned : Nat → Int64} {placeI : Int32} {placeJ : Int32} {formA : Int64} {formB : Int64} {formC : Int64} {l10 : Int64} {l12 : Int64} {l14 : Int32} {l15 : Int32} {v0 : Int64} {v1 : Int32} {r : Int64} (h : itX (m_rootOf_L142 p l14 l15) (v0, v1) = some r) (hr : aW K (mw h0 hp n p count sorts rows hand gathered gather paired pairA pairB ideal draft frame one two turned placeI placeJ formA formB formC) sz 0 0 170 [(0, .ref h0), (10, .long l10), (12, .long l12), (15, .int l15), (16, .long r)] []) : aW K (mw h0 hp n p count sorts rows hand gathered gather paired pairA pairB ideal draft frame one two turned placeI placeJ formA formB formC) sz 0 0 142 [(0, .ref h0), (10, .long l10), (12, .long l12), (14, .int l14), (15, .int l15), (16, .long v0), (18, .int v1)] [] := by
  refine it_walk (f := m_rootOf_L142 p l14 l15) (P := fun s => aW K (mw h0 hp n p count sorts rows hand gathered gather paired pairA pairB ideal draft frame one two turned placeI placeJ formA formB formC) sz 0 0 142 [(0, .ref h0), (10, .long l10), (12, .long l12), (14, .int l14), (15, .int l15), (16, .long s.1), (18, .int s.2)] []) (R := fun r => aW K (mw h0 hp n p count sorts rows hand gathered gather paired pairA pairB ideal draft frame one two turned placeI placeJ formA formB formC) sz 0 0 170 [(0, .ref h0), (10, .long l10), (12, .long l12), (15, .int l15), (16, .long r)] []) ?_ h hr
  clear h hr
  intro s x h kl kr
  unfold m_rootOf_L142 at h
  refine r_iload C 6 rfl dX6_rootOf_142 ?_
  refine r_iload C 3 rfl dX6_rootOf_144 ?_
  refine r_iload C 4 rfl dX6_rootOf_146 ?_
  refine r_isub C dX6_rootOf_148 ?_
  refine r_iconst C (v := 1) dX6_rootOf_149 (by decide) ?_
  refine r_isub C dX6_rootOf_150 ?_
  refine r_icmp_ge C (tgt := 170) dX6_rootOf_151 (by decide) (fun hc => ?_) (fun hc => ?_)
  · replace h := br_p hc h
    refine r_lv [0, 1, 2, 4, 5] rfl ?_
    exact kr _ (sm_i h)
  · replace h := br_n hc h
    refine r_aload_n C 0 rfl dX6_rootOf_154 rfl ?_
    refine r_lload C 5 rfl dX6_rootOf_155 ?_
    refine r_lload C 5 rfl dX6_rootOf_157 ?_
    obtain ⟨r9, qr9, h⟩ := bd_i h
    refine q_callV C 0 0 0 (c_times qr9) rfl mw_self rfl ok_times in_times lk6_76 rfl (Nat.le_of_ble_eq_true rfl) ⟨Nat.le_of_ble_eq_true rfl, Nat.le_of_ble_eq_true rfl⟩ dX6_rootOf_159 rfl rfl ?_
    refine r_lstore C (lv' := [(16, .long r9), (0, .ref h0), (10, .long l10), (12, .long l12), (14, .int l14), (15, .int l15), (18, .int s.2)]) dX6_rootOf_162 (by decide) rfl ?_
    refine r_iinc C (v := s.2 + 1) (lv' := [(18, .int (s.2 + 1)), (16, .long r9), (0, .ref h0), (10, .long l10), (12, .long l12), (14, .int l14), (15, .int l15)]) 6 rfl dX6_rootOf_164 rfl (by decide) rfl ?_
    refine r_goto C (tgt := 142) dX6_rootOf_167 (by decide) ?_
    refine r_lv [2, 3, 4, 5, 6, 1, 0] rfl ?_
    exact kl _ (sm_i h)
set_option maxHeartbeats 4000000 in
set_option maxRecDepth 100000 in
theorem w_rootOf_L98 {K : kT} {O : oT} (C : aC K cX6_rootOf RX6 "rootOf" 3 52 0 0 19 (some .long) O) {h0 : Nat} {hp : cH} {sz : Nat} {n : Int32} {p : Int64} {count : Int32} {sorts : Nat → Int32} {rows : Nat → Int64} {hand : Nat → Int64} {gathered : Int32} {gather : Nat → Int32} {paired : Int32} {pairA : Nat → Int32} {pairB : Nat → Int32} {ideal : Int32} {draft : Nat → Int64} {frame : Nat → Int64} {one : Nat → Int64} {two : Nat → Int64} {turned : Nat → Int64} {placeI : Int32} {placeJ : Int32} {formA : Int64} {formB : Int64} {formC : Int64}  {v0 : Int64} {v1 : Int64} {v2 : Int64} {v3 : Int32} {r : Int64} (h : itX (m_rootOf_L98 p) (v0, v1, v2, v3) = some r) (hr : aW K (mw h0 hp n p count sorts rows hand gathered gather paired pairA pairB ideal draft frame one two turned placeI placeJ formA formB formC) sz 0 0 207 [(0, .ref h0), (10, .long r)] []) : aW K (mw h0 hp n p count sorts rows hand gathered gather paired pairA pairB ideal draft frame one two turned placeI placeJ formA formB formC) sz 0 0 98 [(0, .ref h0), (8, .long v0), (10, .long v1), (12, .long v2), (14, .int v3)] [] := by
  refine it_walk (f := m_rootOf_L98 p) (P := fun s => aW K (mw h0 hp n p count sorts rows hand gathered gather paired pairA pairB ideal draft frame one two turned placeI placeJ formA formB formC) sz 0 0 98 [(0, .ref h0), (8, .long s.1), (10, .long s.2.1), (12, .long s.2.2.1), (14, .int s.2.2.2)] []) (R := fun r => aW K (mw h0 hp n p count sorts rows hand gathered gather paired pairA pairB ideal draft frame one two turned placeI placeJ formA formB formC) sz 0 0 207 [(0, .ref h0), (10, .long r)] []) ?_ h hr
  clear h hr
  intro s x h kl kr
  unfold m_rootOf_L98 at h
  refine r_lload C 3 rfl dX6_rootOf_98 ?_
  refine r_lconst C (v := 1) dX6_rootOf_100 (by decide) ?_
  refine r_leq C (tgt := 207) dX6_rootOf_101 dX6_rootOf_102 (by decide) (fun hc => ?_) (fun hc => ?_)
  · replace h := br_p hc h
    refine r_lv [0, 2] rfl ?_
    exact kr _ (sm_i h)
  · replace h := br_n hc h
    refine r_iconst C (v := 0) dX6_rootOf_105 (by decide) ?_
    refine r_istore C (lv' := [(15, .int ((0 : Int32))), (0, .ref h0), (8, .long s.1), (10, .long s.2.1), (12, .long s.2.2.1), (14, .int s.2.2.2)]) dX6_rootOf_106 (by decide) rfl ?_
    refine r_lload C 4 rfl dX6_rootOf_108 ?_
    refine r_lstore C (lv' := [(16, .long s.2.2.1), (15, .int ((0 : Int32))), (0, .ref h0), (8, .long s.1), (10, .long s.2.1), (12, .long s.2.2.1), (14, .int s.2.2.2)]) dX6_rootOf_110 (by decide) rfl ?_
    refine r_lv [2, 3, 4, 5, 6, 1, 0] rfl ?_
    obtain ⟨r8, qr8, h⟩ := bd_i h
    refine w_rootOf_L112 C qr8 ?_
    refine r_lload C 1 rfl dX6_rootOf_135 ?_
    refine r_lstore C (lv' := [(16, .long s.1), (0, .ref h0), (8, .long s.1), (10, .long s.2.1), (12, .long s.2.2.1), (14, .int s.2.2.2), (15, .int r8)]) dX6_rootOf_137 (by decide) rfl ?_
    refine r_iconst C (v := 0) dX6_rootOf_139 (by decide) ?_
    refine r_istore C (lv' := [(18, .int ((0 : Int32))), (16, .long s.1), (0, .ref h0), (8, .long s.1), (10, .long s.2.1), (12, .long s.2.2.1), (14, .int s.2.2.2), (15, .int r8)]) dX6_rootOf_140 (by decide) rfl ?_
    refine r_lv [2, 4, 5, 6, 7, 1, 0] rfl ?_
    obtain ⟨r10, qr10, h⟩ := bd_i h
    refine w_rootOf_L142 C qr10 ?_
    refine r_aload_n C 0 rfl dX6_rootOf_170 rfl ?_
    refine r_lload C 1 rfl dX6_rootOf_171 ?_
    refine r_lload C 4 rfl dX6_rootOf_173 ?_
    obtain ⟨r11, qr11, h⟩ := bd_i h
    refine q_callV C 0 0 0 (c_times qr11) rfl mw_self rfl ok_times in_times lk6_76 rfl (Nat.le_of_ble_eq_true rfl) ⟨Nat.le_of_ble_eq_true rfl, Nat.le_of_ble_eq_true rfl⟩ dX6_rootOf_175 rfl rfl ?_
    refine r_lstore C (lv' := [(10, .long r11), (0, .ref h0), (12, .long s.2.2.1), (15, .int r8), (16, .long r10)]) dX6_rootOf_178 (by decide) rfl ?_
    refine r_aload_n C 1 rfl dX6_rootOf_180 rfl ?_
    refine r_lload C 4 rfl dX6_rootOf_181 ?_
    refine r_lload C 4 rfl dX6_rootOf_183 ?_
    obtain ⟨r12, qr12, h⟩ := bd_i h
    refine q_callV C 0 0 0 (c_times qr12) rfl mw_self rfl ok_times in_times lk6_76 rfl (Nat.le_of_ble_eq_true rfl) ⟨Nat.le_of_ble_eq_true rfl, Nat.le_of_ble_eq_true rfl⟩ dX6_rootOf_185 rfl rfl ?_
    refine r_lstore C (lv' := [(8, .long r12), (10, .long r11), (0, .ref h0), (12, .long s.2.2.1), (15, .int r8), (16, .long r10)]) dX6_rootOf_188 (by decide) rfl ?_
    refine r_aload_n C 2 rfl dX6_rootOf_190 rfl ?_
    refine r_lload C 3 rfl dX6_rootOf_191 ?_
    refine r_lload C 0 rfl dX6_rootOf_193 ?_
    obtain ⟨r13, qr13, h⟩ := bd_i h
    refine q_callV C 0 0 0 (c_times qr13) rfl mw_self rfl ok_times in_times lk6_76 rfl (Nat.le_of_ble_eq_true rfl) ⟨Nat.le_of_ble_eq_true rfl, Nat.le_of_ble_eq_true rfl⟩ dX6_rootOf_195 rfl rfl ?_
    refine r_lstore C (lv' := [(12, .long r13), (8, .long r12), (10, .long r11), (0, .ref h0), (15, .int r8), (16, .long r10)]) dX6_rootOf_198 (by decide) rfl ?_
    refine r_iload C 4 rfl dX6_rootOf_200 ?_
    refine r_istore C (lv' := [(14, .int r8), (12, .long r13), (8, .long r12), (10, .long r11), (0, .ref h0), (15, .int r8), (16, .long r10)]) dX6_rootOf_202 (by decide) rfl ?_
    refine r_goto C (tgt := 98) dX6_rootOf_204 (by decide) ?_
    refine r_lv [4, 2, 3, 1, 0] rfl ?_
    exact kl _ (sm_i h)
set_option maxHeartbeats 4000000 in
set_option maxRecDepth 100000 in
theorem c_rootOf {G : gT} {h0 : Nat} {hp : cH} {sz : Nat} {n : Int32} {p : Int64} {count : Int32} {sorts : Nat → Int32} {rows : Nat → Int64} {hand : Nat → Int64} {gathered : Int32} {gather : Nat → Int32} {paired : Int32} {pairA : Nat → Int32} {pairB : Nat → Int32} {ideal : Int32} {draft : Nat → Int64} {frame : Nat → Int64} {one : Nat → Int64} {two : Nat → Int64} {turned : Nat → Int64} {placeI : Int32} {placeJ : Int32} {formA : Int64} {formB : Int64} {formC : Int64} {x1 : Int64} {out : Int64} (h : m_rootOf p x1 = some out) : aM G yX6_rootOf cX6_rootOf 19 (some .long) 3 52 0 0 [.ref h0, .long x1] (mw h0 hp n p count sorts rows hand gathered gather paired pairA pairB ideal draft frame one two turned placeI placeJ formA formB formC) sz ((some (.long out), mw h0 hp n p count sorts rows hand gathered gather paired pairA pairB ideal draft frame one two turned placeI placeJ formA formB formC, sz) : oT) := by
  refine aM.of RX6 (by decide) rfl (Nat.le_of_ble_eq_true rfl) (fun K C => ?_)
  have hO : ((some (.long out), mw h0 hp n p count sorts rows hand gathered gather paired pairA pairB ideal draft frame one two turned placeI placeJ formA formB formC, sz) : oT) = ((some (.long out), mw h0 hp n p count sorts rows hand gathered gather paired pairA pairB ideal draft frame one two turned placeI placeJ formA formB formC, sz) : oT) := rfl
  refine r_lve (lv' := [(0, .ref h0), (1, .long x1)]) rfl ?_
  unfold m_rootOf at h
  refine r_lload_n C 1 rfl dX6_rootOf_0 rfl ?_
  refine r_lconst C (v := 0) dX6_rootOf_1 (by decide) ?_
  refine r_lne C (tgt := 8) dX6_rootOf_2 dX6_rootOf_3 (by decide) (fun hc => ?_) (fun hc => ?_)
  · replace h := br_n hc h
    refine r_aload_n C 0 rfl dX6_rootOf_8 rfl ?_
    refine m_g_p C dX6_rootOf_9 ?_
    refine r_lconst C (v := 1) dX6_rootOf_12 (by decide) ?_
    refine r_lsub C dX6_rootOf_13 ?_
    refine r_lstore_n C (lv' := [(3, .long (p - ((1 : Int64)))), (0, .ref h0), (1, .long x1)]) dX6_rootOf_14 rfl (by decide) rfl ?_
    refine r_iconst C (v := 0) dX6_rootOf_15 (by decide) ?_
    refine r_istore C (lv' := [(5, .int ((0 : Int32))), (3, .long (p - ((1 : Int64)))), (0, .ref h0), (1, .long x1)]) dX6_rootOf_16 (by decide) rfl ?_
    refine r_lv [2, 3, 1, 0] rfl ?_
    obtain ⟨r1, qr1, h⟩ := bd_i h
    refine w_rootOf_L18 C qr1 ?_
    refine r_ldc2 C (v := 2) cl6_50 dX6_rootOf_40 ?_
    refine r_lstore C (lv' := [(6, .long ((2 : Int64))), (0, .ref h0), (1, .long x1), (3, .long r1.1), (5, .int r1.2)]) dX6_rootOf_43 (by decide) rfl ?_
    refine r_lv [1, 2, 3, 4, 0] rfl ?_
    obtain ⟨r3, qr3, h⟩ := bd_i h
    refine w_rootOf_L45 C qr3 ?_
    refine r_aload_n C 0 rfl dX6_rootOf_63 rfl ?_
    refine r_lload C 4 rfl dX6_rootOf_64 ?_
    refine r_lload_n C 2 rfl dX6_rootOf_66 rfl ?_
    obtain ⟨r4, qr4, h⟩ := bd_i h
    refine q_callV C 0 0 0 (c_power qr4) rfl mw_self rfl ok_power in_power lk6_80 rfl (Nat.le_of_ble_eq_true rfl) ⟨Nat.le_of_ble_eq_true rfl, Nat.le_of_ble_eq_true rfl⟩ dX6_rootOf_67 rfl rfl ?_
    refine r_lstore C (lv' := [(8, .long r4), (0, .ref h0), (1, .long x1), (3, .long r1.1), (5, .int r1.2), (6, .long r3)]) dX6_rootOf_70 (by decide) rfl ?_
    refine r_aload_n C 1 rfl dX6_rootOf_72 rfl ?_
    refine r_lload_n C 2 rfl dX6_rootOf_73 rfl ?_
    refine r_lload_n C 3 rfl dX6_rootOf_74 rfl ?_
    refine r_lconst C (v := 1) dX6_rootOf_75 (by decide) ?_
    refine r_ladd C dX6_rootOf_76 ?_
    refine r_ldc2 C (v := 2) cl6_50 dX6_rootOf_77 ?_
    refine r_ldiv C dX6_rootOf_80 (by decide) ?_
    obtain ⟨r5, qr5, h⟩ := bd_i h
    refine q_callV C 0 0 0 (c_power qr5) rfl mw_self rfl ok_power in_power lk6_80 rfl (Nat.le_of_ble_eq_true rfl) ⟨Nat.le_of_ble_eq_true rfl, Nat.le_of_ble_eq_true rfl⟩ dX6_rootOf_81 rfl rfl ?_
    refine r_lstore C (lv' := [(10, .long r5), (8, .long r4), (0, .ref h0), (1, .long x1), (3, .long r1.1), (5, .int r1.2), (6, .long r3)]) dX6_rootOf_84 (by decide) rfl ?_
    refine r_aload_n C 2 rfl dX6_rootOf_86 rfl ?_
    refine r_lload_n C 3 rfl dX6_rootOf_87 rfl ?_
    refine r_lload_n C 4 rfl dX6_rootOf_88 rfl ?_
    obtain ⟨r6, qr6, h⟩ := bd_i h
    refine q_callV C 0 0 0 (c_power qr6) rfl mw_self rfl ok_power in_power lk6_80 rfl (Nat.le_of_ble_eq_true rfl) ⟨Nat.le_of_ble_eq_true rfl, Nat.le_of_ble_eq_true rfl⟩ dX6_rootOf_89 rfl rfl ?_
    refine r_lstore C (lv' := [(12, .long r6), (10, .long r5), (8, .long r4), (0, .ref h0), (1, .long x1), (3, .long r1.1), (5, .int r1.2), (6, .long r3)]) dX6_rootOf_92 (by decide) rfl ?_
    refine r_iload C 6 rfl dX6_rootOf_94 ?_
    refine r_istore C (lv' := [(14, .int r1.2), (12, .long r6), (10, .long r5), (8, .long r4), (0, .ref h0), (1, .long x1), (3, .long r1.1), (5, .int r1.2), (6, .long r3)]) dX6_rootOf_96 (by decide) rfl ?_
    refine r_lv [4, 3, 2, 1, 0] rfl ?_
    obtain ⟨r14, qr14, h⟩ := bd_i h
    refine w_rootOf_L98 C qr14 ?_
    refine r_lload C 1 rfl dX6_rootOf_207 ?_
    refine r_aload_n C 0 rfl dX6_rootOf_209 rfl ?_
    refine m_g_p C dX6_rootOf_210 ?_
    refine r_lload C 1 rfl dX6_rootOf_213 ?_
    refine r_lsub C dX6_rootOf_215 ?_
    refine r_lgt C (tgt := 225) dX6_rootOf_216 dX6_rootOf_217 (by decide) (fun hc => ?_) (fun hc => ?_)
    · replace h := br_p hc h
      refine r_aload_n C 0 rfl dX6_rootOf_225 rfl ?_
      refine m_g_p C dX6_rootOf_226 ?_
      refine r_lload C 1 rfl dX6_rootOf_229 ?_
      refine r_lsub C dX6_rootOf_231 ?_
      obtain rfl := sm_i h
      exact r_lreturn C (Eq.symm hO) dX6_rootOf_232
    · replace h := br_n hc h
      refine r_lload C 1 rfl dX6_rootOf_220 ?_
      refine r_goto C (tgt := 232) dX6_rootOf_222 (by decide) ?_
      obtain rfl := sm_i h
      exact r_lreturn C (Eq.symm hO) dX6_rootOf_232
  · replace h := br_p hc h
    refine r_lconst C (v := 0) dX6_rootOf_6 (by decide) ?_
    obtain rfl := sm_i h
    exact r_lreturn C (Eq.symm hO) dX6_rootOf_7
noncomputable def m_root (p : Int64) (x1 : Int64) : Option Int32 := (m_mod p x1).bind fun r1 => (m_isSquare p r1).bind fun r2 => if r2 = 0 then (some ((-1 : Int32))) else ((m_rootOf p r1).bind fun r3 => some r3.toInt32)
set_option maxHeartbeats 4000000 in
set_option maxRecDepth 100000 in
theorem c_root {G : gT} {h0 : Nat} {hp : cH} {sz : Nat} {n : Int32} {p : Int64} {count : Int32} {sorts : Nat → Int32} {rows : Nat → Int64} {hand : Nat → Int64} {gathered : Int32} {gather : Nat → Int32} {paired : Int32} {pairA : Nat → Int32} {pairB : Nat → Int32} {ideal : Int32} {draft : Nat → Int64} {frame : Nat → Int64} {one : Nat → Int64} {two : Nat → Int64} {turned : Nat → Int64} {placeI : Int32} {placeJ : Int32} {formA : Int64} {formB : Int64} {formC : Int64} {x1 : Int64} {out : Int32} (h : m_root p x1 = some out) : aM G yX6_root cX6_root 5 (some .int) 4 82 0 0 [.ref h0, .long x1] (mw h0 hp n p count sorts rows hand gathered gather paired pairA pairB ideal draft frame one two turned placeI placeJ formA formB formC) sz ((some (.int out), mw h0 hp n p count sorts rows hand gathered gather paired pairA pairB ideal draft frame one two turned placeI placeJ formA formB formC, sz) : oT) := by
  refine aM.of RX6 (by decide) rfl (Nat.le_of_ble_eq_true rfl) (fun K C => ?_)
  have hO : ((some (.int out), mw h0 hp n p count sorts rows hand gathered gather paired pairA pairB ideal draft frame one two turned placeI placeJ formA formB formC, sz) : oT) = ((some (.int out), mw h0 hp n p count sorts rows hand gathered gather paired pairA pairB ideal draft frame one two turned placeI placeJ formA formB formC, sz) : oT) := rfl
  refine r_lve (lv' := [(0, .ref h0), (1, .long x1)]) rfl ?_
  unfold m_root at h
  refine r_aload_n C 0 rfl dX6_root_0 rfl ?_
  refine r_lload_n C 1 rfl dX6_root_1 rfl ?_
  obtain ⟨r1, qr1, h⟩ := bd_i h
  refine q_callV C 0 0 0 (c_mod qr1) rfl mw_self rfl ok_mod in_mod lk6_87 rfl (Nat.le_of_ble_eq_true rfl) ⟨Nat.le_of_ble_eq_true rfl, Nat.le_of_ble_eq_true rfl⟩ dX6_root_2 rfl rfl ?_
  refine r_lstore_n C (lv' := [(3, .long r1), (0, .ref h0), (1, .long x1)]) dX6_root_5 rfl (by decide) rfl ?_
  refine r_aload_n C 1 rfl dX6_root_6 rfl ?_
  refine r_lload_n C 0 rfl dX6_root_7 rfl ?_
  obtain ⟨r2, qr2, h⟩ := bd_i h
  refine q_callV C 0 0 0 (c_isSquare qr2) rfl mw_self rfl ok_isSquare in_isSquare lk6_83 rfl (Nat.le_of_ble_eq_true rfl) ⟨Nat.le_of_ble_eq_true rfl, Nat.le_of_ble_eq_true rfl⟩ dX6_root_8 rfl rfl ?_
  refine r_if_eq C (tgt := 23) dX6_root_11 (by decide) (fun hc => ?_) (fun hc => ?_)
  · replace h := br_p hc h
    refine r_iconst C (v := -1) dX6_root_23 (by decide) ?_
    obtain rfl := sm_i h
    exact r_ireturn C (Eq.symm hO) dX6_root_24
  · replace h := br_n hc h
    refine r_aload_n C 1 rfl dX6_root_14 rfl ?_
    refine r_lload_n C 0 rfl dX6_root_15 rfl ?_
    obtain ⟨r3, qr3, h⟩ := bd_i h
    refine q_callV C 0 0 0 (c_rootOf qr3) rfl mw_self rfl ok_rootOf in_rootOf lk6_91 rfl (Nat.le_of_ble_eq_true rfl) ⟨Nat.le_of_ble_eq_true rfl, Nat.le_of_ble_eq_true rfl⟩ dX6_root_16 rfl rfl ?_
    refine r_l2i C dX6_root_19 ?_
    refine r_goto C (tgt := 24) dX6_root_20 (by decide) ?_
    obtain rfl := sm_i h
    exact r_ireturn C (Eq.symm hO) dX6_root_24
noncomputable def m_put (p : Int64) (hand : Nat → Int64) (x1 : Int32) (x2 : Int64) : Option (Int32 × (Nat → Int64)) := if x1 < 0 then (some ((-2 : Int32), hand)) else (if x1 < ((16 : Int32)) then ((m_mod p x2).bind fun r1 => if gi x1 16 then if gi x1 16 then some (((vp_updL hand x1.toNatClampNeg r1) x1.toNatClampNeg).toInt32, vp_updL hand x1.toNatClampNeg r1) else none else none) else (some ((-2 : Int32), hand)))
set_option maxHeartbeats 4000000 in
set_option maxRecDepth 100000 in
theorem c_put {G : gT} {h0 : Nat} {hp : cH} {sz : Nat} {n : Int32} {p : Int64} {count : Int32} {sorts : Nat → Int32} {rows : Nat → Int64} {hand : Nat → Int64} {gathered : Int32} {gather : Nat → Int32} {paired : Int32} {pairA : Nat → Int32} {pairB : Nat → Int32} {ideal : Int32} {draft : Nat → Int64} {frame : Nat → Int64} {one : Nat → Int64} {two : Nat → Int64} {turned : Nat → Int64} {placeI : Int32} {placeJ : Int32} {formA : Int64} {formB : Int64} {formC : Int64} {x1 : Int32} {x2 : Int64} {out : (Int32 × (Nat → Int64))} (h : m_put p hand x1 x2 = some out) : aM G yX6_put cX6_put 4 (some .int) 1 18 0 0 [.ref h0, .int x1, .long x2] (mw h0 hp n p count sorts rows hand gathered gather paired pairA pairB ideal draft frame one two turned placeI placeJ formA formB formC) sz ((some (.int out.1), mw h0 hp n p count sorts rows out.2 gathered gather paired pairA pairB ideal draft frame one two turned placeI placeJ formA formB formC, sz) : oT) := by
  refine aM.of RX6 (by decide) rfl (Nat.le_of_ble_eq_true rfl) (fun K C => ?_)
  have hO : ((some (.int out.1), mw h0 hp n p count sorts rows out.2 gathered gather paired pairA pairB ideal draft frame one two turned placeI placeJ formA formB formC, sz) : oT) = ((some (.int out.1), mw h0 hp n p count sorts rows out.2 gathered gather paired pairA pairB ideal draft frame one two turned placeI placeJ formA formB formC, sz) : oT) := rfl
  refine r_lve (lv' := [(0, .ref h0), (1, .int x1), (2, .long x2)]) rfl ?_
  unfold m_put at h
  refine r_iload_n C 1 rfl dX6_put_0 rfl ?_
  refine r_if_lt C (tgt := 10) dX6_put_1 (by decide) (fun hc => ?_) (fun hc => ?_)
  · replace h := br_p hc h
    refine r_bipush C (v := -2) dX6_put_10 (by decide) ?_
    obtain rfl := sm_i h
    exact r_ireturn C (Eq.symm hO) dX6_put_12
  · replace h := br_n hc h
    refine r_iload_n C 1 rfl dX6_put_4 rfl ?_
    refine r_bipush C (v := 16) dX6_put_5 (by decide) ?_
    refine r_icmp_lt C (tgt := 13) dX6_put_7 (by decide) (fun hc => ?_) (fun hc => ?_)
    · replace h := br_p hc h
      refine r_aload_n C 0 rfl dX6_put_13 rfl ?_
      refine m_g_hand C dX6_put_14 ?_
      refine r_iload_n C 1 rfl dX6_put_17 rfl ?_
      refine r_aload_n C 0 rfl dX6_put_18 rfl ?_
      refine r_lload_n C 2 rfl dX6_put_19 rfl ?_
      obtain ⟨r1, qr1, h⟩ := bd_i h
      refine q_callV C 2 0 0 (c_mod qr1) rfl mw_self rfl ok_mod in_mod lk6_87 rfl (Nat.le_of_ble_eq_true rfl) ⟨Nat.le_of_ble_eq_true rfl, Nat.le_of_ble_eq_true rfl⟩ dX6_put_20 rfl rfl ?_
      obtain ⟨hi, h⟩ := gd_t h
      refine m_s_hand C hi dX6_put_23 ?_
      refine r_aload_n C 0 rfl dX6_put_24 rfl ?_
      refine m_g_hand C dX6_put_25 ?_
      refine r_iload_n C 1 rfl dX6_put_28 rfl ?_
      obtain ⟨hi, h⟩ := gd_t h
      refine m_l_hand C hi dX6_put_29 ?_
      refine r_l2i C dX6_put_30 ?_
      obtain rfl := sm_i h
      exact r_ireturn C (Eq.symm hO) dX6_put_31
    · replace h := br_n hc h
      refine r_bipush C (v := -2) dX6_put_10 (by decide) ?_
      obtain rfl := sm_i h
      exact r_ireturn C (Eq.symm hO) dX6_put_12
noncomputable def m_clear_L2  (s : (Int32 × (Nat → Int64))) : Option ((Int32 × (Nat → Int64)) ⊕ (Nat → Int64)) := if ((16 : Int32)) ≤ s.1 then (some (.inr s.2)) else (if gi s.1 16 then some (.inl (s.1 + 1, vp_updL s.2 s.1.toNatClampNeg ((0 : Int64)))) else none)
noncomputable def m_clear (draft : Nat → Int64)  : Option (Nat → Int64) := (itX m_clear_L2 ((0 : Int32), draft)).bind fun r1 => some r1
set_option maxHeartbeats 4000000 in
set_option maxRecDepth 100000 in
theorem w_clear_L2 {K : kT} {O : oT} (C : aC K cX6_clear RX6 "clear" 0 0 0 0 2 none O) {h0 : Nat} {hp : cH} {sz : Nat} {n : Int32} {p : Int64} {count : Int32} {sorts : Nat → Int32} {rows : Nat → Int64} {hand : Nat → Int64} {gathered : Int32} {gather : Nat → Int32} {paired : Int32} {pairA : Nat → Int32} {pairB : Nat → Int32} {ideal : Int32} {frame : Nat → Int64} {one : Nat → Int64} {two : Nat → Int64} {turned : Nat → Int64} {placeI : Int32} {placeJ : Int32} {formA : Int64} {formB : Int64} {formC : Int64}  {v0 : Int32} {v1 : Nat → Int64} {r : (Nat → Int64)} (h : itX (m_clear_L2 ) (v0, v1) = some r) (hr : aW K (mw h0 hp n p count sorts rows hand gathered gather paired pairA pairB ideal r frame one two turned placeI placeJ formA formB formC) sz 0 0 21 [] []) : aW K (mw h0 hp n p count sorts rows hand gathered gather paired pairA pairB ideal v1 frame one two turned placeI placeJ formA formB formC) sz 0 0 2 [(0, .ref h0), (1, .int v0)] [] := by
  refine it_walk (f := m_clear_L2 ) (P := fun s => aW K (mw h0 hp n p count sorts rows hand gathered gather paired pairA pairB ideal s.2 frame one two turned placeI placeJ formA formB formC) sz 0 0 2 [(0, .ref h0), (1, .int s.1)] []) (R := fun r => aW K (mw h0 hp n p count sorts rows hand gathered gather paired pairA pairB ideal r frame one two turned placeI placeJ formA formB formC) sz 0 0 21 [] []) ?_ h hr
  clear h hr
  intro s x h kl kr
  unfold m_clear_L2 at h
  refine r_iload_n C 1 rfl dX6_clear_2 rfl ?_
  refine r_bipush C (v := 16) dX6_clear_3 (by decide) ?_
  refine r_icmp_ge C (tgt := 21) dX6_clear_5 (by decide) (fun hc => ?_) (fun hc => ?_)
  · replace h := br_p hc h
    refine r_lv [] rfl ?_
    exact kr _ (sm_i h)
  · replace h := br_n hc h
    refine r_aload_n C 0 rfl dX6_clear_8 rfl ?_
    refine m_g_draft C dX6_clear_9 ?_
    refine r_iload_n C 1 rfl dX6_clear_12 rfl ?_
    refine r_lconst C (v := 0) dX6_clear_13 (by decide) ?_
    obtain ⟨hi, h⟩ := gd_t h
    refine m_s_draft C hi dX6_clear_14 ?_
    refine r_iinc C (v := s.1 + 1) (lv' := [(1, .int (s.1 + 1)), (0, .ref h0)]) 1 rfl dX6_clear_15 rfl (by decide) rfl ?_
    refine r_goto C (tgt := 2) dX6_clear_18 (by decide) ?_
    refine r_lv [1, 0] rfl ?_
    exact kl _ (sm_i h)
set_option maxHeartbeats 4000000 in
set_option maxRecDepth 100000 in
theorem c_clear {G : gT} {h0 : Nat} {hp : cH} {sz : Nat} {n : Int32} {p : Int64} {count : Int32} {sorts : Nat → Int32} {rows : Nat → Int64} {hand : Nat → Int64} {gathered : Int32} {gather : Nat → Int32} {paired : Int32} {pairA : Nat → Int32} {pairB : Nat → Int32} {ideal : Int32} {draft : Nat → Int64} {frame : Nat → Int64} {one : Nat → Int64} {two : Nat → Int64} {turned : Nat → Int64} {placeI : Int32} {placeJ : Int32} {formA : Int64} {formB : Int64} {formC : Int64}  {out : (Nat → Int64)} (h : m_clear draft  = some out) : aM G yX6_clear cX6_clear 2 none 0 0 0 0 [.ref h0] (mw h0 hp n p count sorts rows hand gathered gather paired pairA pairB ideal draft frame one two turned placeI placeJ formA formB formC) sz ((none, mw h0 hp n p count sorts rows hand gathered gather paired pairA pairB ideal out frame one two turned placeI placeJ formA formB formC, sz) : oT) := by
  refine aM.of RX6 (by decide) rfl (Nat.le_of_ble_eq_true rfl) (fun K C => ?_)
  have hO : ((none, mw h0 hp n p count sorts rows hand gathered gather paired pairA pairB ideal out frame one two turned placeI placeJ formA formB formC, sz) : oT) = ((none, mw h0 hp n p count sorts rows hand gathered gather paired pairA pairB ideal out frame one two turned placeI placeJ formA formB formC, sz) : oT) := rfl
  refine r_lve (lv' := [(0, .ref h0)]) rfl ?_
  unfold m_clear at h
  refine r_iconst C (v := 0) dX6_clear_0 (by decide) ?_
  refine r_istore_n C (lv' := [(1, .int ((0 : Int32))), (0, .ref h0)]) dX6_clear_1 rfl (by decide) rfl ?_
  refine r_lv [1, 0] rfl ?_
  obtain ⟨r1, qr1, h⟩ := bd_i h
  refine w_clear_L2 C qr1 ?_
  obtain rfl := sm_i h
  exact r_return C (Eq.symm hO) dX6_clear_21
noncomputable def m_side (n : Int32)  : Option Int32 := some (n + ((1 : Int32)))
set_option maxHeartbeats 4000000 in
set_option maxRecDepth 100000 in
theorem c_side {G : gT} {h0 : Nat} {hp : cH} {sz : Nat} {n : Int32} {p : Int64} {count : Int32} {sorts : Nat → Int32} {rows : Nat → Int64} {hand : Nat → Int64} {gathered : Int32} {gather : Nat → Int32} {paired : Int32} {pairA : Nat → Int32} {pairB : Nat → Int32} {ideal : Int32} {draft : Nat → Int64} {frame : Nat → Int64} {one : Nat → Int64} {two : Nat → Int64} {turned : Nat → Int64} {placeI : Int32} {placeJ : Int32} {formA : Int64} {formB : Int64} {formC : Int64}  {out : Int32} (h : m_side n  = some out) : aM G yX6_side cX6_side 1 (some .int) 0 0 0 0 [.ref h0] (mw h0 hp n p count sorts rows hand gathered gather paired pairA pairB ideal draft frame one two turned placeI placeJ formA formB formC) sz ((some (.int out), mw h0 hp n p count sorts rows hand gathered gather paired pairA pairB ideal draft frame one two turned placeI placeJ formA formB formC, sz) : oT) := by
  refine aM.of RX6 (by decide) rfl (Nat.le_of_ble_eq_true rfl) (fun K C => ?_)
  have hO : ((some (.int out), mw h0 hp n p count sorts rows hand gathered gather paired pairA pairB ideal draft frame one two turned placeI placeJ formA formB formC, sz) : oT) = ((some (.int out), mw h0 hp n p count sorts rows hand gathered gather paired pairA pairB ideal draft frame one two turned placeI placeJ formA formB formC, sz) : oT) := rfl
  refine r_lve (lv' := [(0, .ref h0)]) rfl ?_
  unfold m_side at h
  refine r_aload_n C 0 rfl dX6_side_0 rfl ?_
  refine m_g_n C dX6_side_1 ?_
  refine r_iconst C (v := 1) dX6_side_4 (by decide) ?_
  refine r_iadd C dX6_side_5 ?_
  obtain rfl := sm_i h
  exact r_ireturn C (Eq.symm hO) dX6_side_6
noncomputable def m_width (n : Int32) (x1 : Int32) : Option Int32 := if x1 = ((3 : Int32)) then ((m_side n).bind fun r1 => (m_side n).bind fun r2 => some (r1 * r2)) else (if x1 = ((4 : Int32)) then ((m_side n).bind fun r5 => (m_side n).bind fun r6 => some (r5 * r6)) else (if x1 = ((1 : Int32)) then (if n = ((3 : Int32)) then (some ((6 : Int32))) else ((m_side n).bind fun r4 => some r4)) else ((m_side n).bind fun r3 => some r3)))
set_option maxHeartbeats 4000000 in
set_option maxRecDepth 100000 in
theorem c_width {G : gT} {h0 : Nat} {hp : cH} {sz : Nat} {n : Int32} {p : Int64} {count : Int32} {sorts : Nat → Int32} {rows : Nat → Int64} {hand : Nat → Int64} {gathered : Int32} {gather : Nat → Int32} {paired : Int32} {pairA : Nat → Int32} {pairB : Nat → Int32} {ideal : Int32} {draft : Nat → Int64} {frame : Nat → Int64} {one : Nat → Int64} {two : Nat → Int64} {turned : Nat → Int64} {placeI : Int32} {placeJ : Int32} {formA : Int64} {formB : Int64} {formC : Int64} {x1 : Int32} {out : Int32} (h : m_width n x1 = some out) : aM G yX6_width cX6_width 2 (some .int) 1 13 0 0 [.ref h0, .int x1] (mw h0 hp n p count sorts rows hand gathered gather paired pairA pairB ideal draft frame one two turned placeI placeJ formA formB formC) sz ((some (.int out), mw h0 hp n p count sorts rows hand gathered gather paired pairA pairB ideal draft frame one two turned placeI placeJ formA formB formC, sz) : oT) := by
  refine aM.of RX6 (by decide) rfl (Nat.le_of_ble_eq_true rfl) (fun K C => ?_)
  have hO : ((some (.int out), mw h0 hp n p count sorts rows hand gathered gather paired pairA pairB ideal draft frame one two turned placeI placeJ formA formB formC, sz) : oT) = ((some (.int out), mw h0 hp n p count sorts rows hand gathered gather paired pairA pairB ideal draft frame one two turned placeI placeJ formA formB formC, sz) : oT) := rfl
  refine r_lve (lv' := [(0, .ref h0), (1, .int x1)]) rfl ?_
  unfold m_width at h
  refine r_iload_n C 1 rfl dX6_width_0 rfl ?_
  refine r_iconst C (v := 3) dX6_width_1 (by decide) ?_
  refine r_icmp_eq C (tgt := 10) dX6_width_2 (by decide) (fun hc => ?_) (fun hc => ?_)
  · replace h := br_p hc h
    refine r_aload_n C 0 rfl dX6_width_10 rfl ?_
    obtain ⟨r1, qr1, h⟩ := bd_i h
    refine q_callV C 0 0 0 (c_side qr1) rfl mw_self rfl ok_side in_side lk6_111 rfl (Nat.le_of_ble_eq_true rfl) ⟨Nat.le_of_ble_eq_true rfl, Nat.le_of_ble_eq_true rfl⟩ dX6_width_11 rfl rfl ?_
    refine r_aload_n C 0 rfl dX6_width_14 rfl ?_
    obtain ⟨r2, qr2, h⟩ := bd_i h
    refine q_callV C 1 0 0 (c_side qr2) rfl mw_self rfl ok_side in_side lk6_111 rfl (Nat.le_of_ble_eq_true rfl) ⟨Nat.le_of_ble_eq_true rfl, Nat.le_of_ble_eq_true rfl⟩ dX6_width_15 rfl rfl ?_
    refine r_imul C dX6_width_18 ?_
    refine r_goto C (tgt := 44) dX6_width_19 (by decide) ?_
    obtain rfl := sm_i h
    exact r_ireturn C (Eq.symm hO) dX6_width_44
  · replace h := br_n hc h
    refine r_iload_n C 1 rfl dX6_width_5 rfl ?_
    refine r_iconst C (v := 4) dX6_width_6 (by decide) ?_
    refine r_icmp_ne C (tgt := 22) dX6_width_7 (by decide) (fun hc => ?_) (fun hc => ?_)
    · replace h := br_n hc h
      refine r_iload_n C 1 rfl dX6_width_22 rfl ?_
      refine r_iconst C (v := 1) dX6_width_23 (by decide) ?_
      refine r_icmp_ne C (tgt := 40) dX6_width_24 (by decide) (fun hc => ?_) (fun hc => ?_)
      · replace h := br_n hc h
        refine r_aload_n C 0 rfl dX6_width_40 rfl ?_
        obtain ⟨r3, qr3, h⟩ := bd_i h
        refine q_callV C 0 0 0 (c_side qr3) rfl mw_self rfl ok_side in_side lk6_111 rfl (Nat.le_of_ble_eq_true rfl) ⟨Nat.le_of_ble_eq_true rfl, Nat.le_of_ble_eq_true rfl⟩ dX6_width_41 rfl rfl ?_
        obtain rfl := sm_i h
        exact r_ireturn C (Eq.symm hO) dX6_width_44
      · replace h := br_p hc h
        refine r_aload_n C 0 rfl dX6_width_27 rfl ?_
        refine m_g_n C dX6_width_28 ?_
        refine r_iconst C (v := 3) dX6_width_31 (by decide) ?_
        refine r_icmp_ne C (tgt := 40) dX6_width_32 (by decide) (fun hc => ?_) (fun hc => ?_)
        · replace h := br_n hc h
          refine r_aload_n C 0 rfl dX6_width_40 rfl ?_
          obtain ⟨r4, qr4, h⟩ := bd_i h
          refine q_callV C 0 0 0 (c_side qr4) rfl mw_self rfl ok_side in_side lk6_111 rfl (Nat.le_of_ble_eq_true rfl) ⟨Nat.le_of_ble_eq_true rfl, Nat.le_of_ble_eq_true rfl⟩ dX6_width_41 rfl rfl ?_
          obtain rfl := sm_i h
          exact r_ireturn C (Eq.symm hO) dX6_width_44
        · replace h := br_p hc h
          refine r_bipush C (v := 6) dX6_width_35 (by decide) ?_
          refine r_goto C (tgt := 44) dX6_width_37 (by decide) ?_
          obtain rfl := sm_i h
          exact r_ireturn C (Eq.symm hO) dX6_width_44
    · replace h := br_p hc h
      refine r_aload_n C 0 rfl dX6_width_10 rfl ?_
      obtain ⟨r5, qr5, h⟩ := bd_i h
      refine q_callV C 0 0 0 (c_side qr5) rfl mw_self rfl ok_side in_side lk6_111 rfl (Nat.le_of_ble_eq_true rfl) ⟨Nat.le_of_ble_eq_true rfl, Nat.le_of_ble_eq_true rfl⟩ dX6_width_11 rfl rfl ?_
      refine r_aload_n C 0 rfl dX6_width_14 rfl ?_
      obtain ⟨r6, qr6, h⟩ := bd_i h
      refine q_callV C 1 0 0 (c_side qr6) rfl mw_self rfl ok_side in_side lk6_111 rfl (Nat.le_of_ble_eq_true rfl) ⟨Nat.le_of_ble_eq_true rfl, Nat.le_of_ble_eq_true rfl⟩ dX6_width_15 rfl rfl ?_
      refine r_imul C dX6_width_18 ?_
      refine r_goto C (tgt := 44) dX6_width_19 (by decide) ?_
      obtain rfl := sm_i h
      exact r_ireturn C (Eq.symm hO) dX6_width_44
noncomputable def m_isNothing_L4J32 (l3 : Int32) : Option ((Int32 × Int32) ⊕ Int32) := some (.inl ((0 : Int32), l3 + 1))
noncomputable def m_isNothing_L4 (n : Int32) (draft : Nat → Int64) (l1 : Int32) (s : (Int32 × Int32)) : Option ((Int32 × Int32) ⊕ Int32) := (m_width n l1).bind fun r1 => if r1 ≤ s.2 then (some (.inr s.1)) else (if s.1 = 0 then (m_isNothing_L4J32 s.2) else (if gi s.2 16 then if (draft s.2.toNatClampNeg) = ((0 : Int64)) then (some (.inl ((1 : Int32), s.2 + 1))) else (m_isNothing_L4J32 s.2) else none))
noncomputable def m_isNothing (n : Int32) (draft : Nat → Int64) (x1 : Int32) : Option Int32 := (itX (m_isNothing_L4 n draft x1) ((1 : Int32), (0 : Int32))).bind fun r2 => if r2 = 0 ∨ r2 = 1 then some r2 else none
set_option maxHeartbeats 4000000 in
set_option maxRecDepth 100000 in
theorem w_isNothing_L4J32 {K : kT} {O : oT} (C : aC K cX6_isNothing RX6 "isNothing" 2 27 0 0 4 (some .boolean) O) {h0 : Nat} {hp : cH} {sz : Nat} {n : Int32} {p : Int64} {count : Int32} {sorts : Nat → Int32} {rows : Nat → Int64} {hand : Nat → Int64} {gathered : Int32} {gather : Nat → Int32} {paired : Int32} {pairA : Nat → Int32} {pairB : Nat → Int32} {ideal : Int32} {draft : Nat → Int64} {frame : Nat → Int64} {one : Nat → Int64} {two : Nat → Int64} {turned : Nat → Int64} {placeI : Int32} {placeJ : Int32} {formA : Int64} {formB : Int64} {formC : Int64} {l1 : Int32} {l3 : Int32}  {x : (Int32 × Int32) ⊕ Int32} (h : m_isNothing_L4J32 l3 = some x) (kl : ∀ s, x = .inl s → aW K (mw h0 hp n p count sorts rows hand gathered gather paired pairA pairB ideal draft frame one two turned placeI placeJ formA formB formC) sz 0 0 4 [(0, .ref h0), (1, .int l1), (2, .int s.1), (3, .int s.2)] []) (kr : ∀ r, x = .inr r → aW K (mw h0 hp n p count sorts rows hand gathered gather paired pairA pairB ideal draft frame one two turned placeI placeJ formA formB formC) sz 0 0 40 [(2, .int r)] []) : aW K (mw h0 hp n p count sorts rows hand gathered gather paired pairA pairB ideal draft frame one two turned placeI placeJ formA formB formC) sz 0 0 32 [(0, .ref h0), (1, .int l1), (3, .int l3)] [] := by
  unfold m_isNothing_L4J32 at h
  refine r_iconst C (v := 0) dX6_isNothing_32 (by decide) ?_
  refine r_istore_n C (lv' := [(2, .int ((0 : Int32))), (0, .ref h0), (1, .int l1), (3, .int l3)]) dX6_isNothing_33 rfl (by decide) rfl ?_
  refine r_iinc C (v := l3 + 1) (lv' := [(3, .int (l3 + 1)), (2, .int ((0 : Int32))), (0, .ref h0), (1, .int l1)]) 3 rfl dX6_isNothing_34 rfl (by decide) rfl ?_
  refine r_goto C (tgt := 4) dX6_isNothing_37 (by decide) ?_
  refine r_lv [2, 3, 1, 0] rfl ?_
  exact kl _ (sm_i h)
set_option maxHeartbeats 4000000 in
set_option maxRecDepth 100000 in
theorem w_isNothing_L4 {K : kT} {O : oT} (C : aC K cX6_isNothing RX6 "isNothing" 2 27 0 0 4 (some .boolean) O) {h0 : Nat} {hp : cH} {sz : Nat} {n : Int32} {p : Int64} {count : Int32} {sorts : Nat → Int32} {rows : Nat → Int64} {hand : Nat → Int64} {gathered : Int32} {gather : Nat → Int32} {paired : Int32} {pairA : Nat → Int32} {pairB : Nat → Int32} {ideal : Int32} {draft : Nat → Int64} {frame : Nat → Int64} {one : Nat → Int64} {two : Nat → Int64} {turned : Nat → Int64} {placeI : Int32} {placeJ : Int32} {formA : Int64} {formB : Int64} {formC : Int64} {l1 : Int32} {v0 : Int32} {v1 : Int32} {r : Int32} (h : itX (m_isNothing_L4 n draft l1) (v0, v1) = some r) (hr : aW K (mw h0 hp n p count sorts rows hand gathered gather paired pairA pairB ideal draft frame one two turned placeI placeJ formA formB formC) sz 0 0 40 [(2, .int r)] []) : aW K (mw h0 hp n p count sorts rows hand gathered gather paired pairA pairB ideal draft frame one two turned placeI placeJ formA formB formC) sz 0 0 4 [(0, .ref h0), (1, .int l1), (2, .int v0), (3, .int v1)] [] := by
  refine it_walk (f := m_isNothing_L4 n draft l1) (P := fun s => aW K (mw h0 hp n p count sorts rows hand gathered gather paired pairA pairB ideal draft frame one two turned placeI placeJ formA formB formC) sz 0 0 4 [(0, .ref h0), (1, .int l1), (2, .int s.1), (3, .int s.2)] []) (R := fun r => aW K (mw h0 hp n p count sorts rows hand gathered gather paired pairA pairB ideal draft frame one two turned placeI placeJ formA formB formC) sz 0 0 40 [(2, .int r)] []) ?_ h hr
  clear h hr
  intro s x h kl kr
  unfold m_isNothing_L4 at h
  refine r_iload_n C 3 rfl dX6_isNothing_4 rfl ?_
  refine r_aload_n C 0 rfl dX6_isNothing_5 rfl ?_
  refine r_iload_n C 1 rfl dX6_isNothing_6 rfl ?_
  obtain ⟨r1, qr1, h⟩ := bd_i h
  refine q_callV C 1 0 0 (c_width qr1) rfl mw_self rfl ok_width in_width lk6_122 rfl (Nat.le_of_ble_eq_true rfl) ⟨Nat.le_of_ble_eq_true rfl, Nat.le_of_ble_eq_true rfl⟩ dX6_isNothing_7 rfl rfl ?_
  refine r_icmp_ge C (tgt := 40) dX6_isNothing_10 (by decide) (fun hc => ?_) (fun hc => ?_)
  · replace h := br_p hc h
    refine r_lv [2] rfl ?_
    exact kr _ (sm_i h)
  · replace h := br_n hc h
    refine r_iload_n C 2 rfl dX6_isNothing_13 rfl ?_
    refine r_if_eq C (tgt := 32) dX6_isNothing_14 (by decide) (fun hc => ?_) (fun hc => ?_)
    · replace h := br_p hc h
      refine r_lv [0, 1, 3] rfl ?_
      exact w_isNothing_L4J32 C h kl kr
    · replace h := br_n hc h
      refine r_aload_n C 0 rfl dX6_isNothing_17 rfl ?_
      refine m_g_draft C dX6_isNothing_18 ?_
      refine r_iload_n C 3 rfl dX6_isNothing_21 rfl ?_
      obtain ⟨hi, h⟩ := gd_t h
      refine m_l_draft C hi dX6_isNothing_22 ?_
      refine r_lconst C (v := 0) dX6_isNothing_23 (by decide) ?_
      refine r_lne C (tgt := 32) dX6_isNothing_24 dX6_isNothing_25 (by decide) (fun hc => ?_) (fun hc => ?_)
      · replace h := br_n hc h
        refine r_lv [0, 1, 3] rfl ?_
        exact w_isNothing_L4J32 C h kl kr
      · replace h := br_p hc h
        refine r_iconst C (v := 1) dX6_isNothing_28 (by decide) ?_
        refine r_goto C (tgt := 33) dX6_isNothing_29 (by decide) ?_
        refine r_istore_n C (lv' := [(2, .int ((1 : Int32))), (0, .ref h0), (1, .int l1), (3, .int s.2)]) dX6_isNothing_33 rfl (by decide) rfl ?_
        refine r_iinc C (v := s.2 + 1) (lv' := [(3, .int (s.2 + 1)), (2, .int ((1 : Int32))), (0, .ref h0), (1, .int l1)]) 3 rfl dX6_isNothing_34 rfl (by decide) rfl ?_
        refine r_goto C (tgt := 4) dX6_isNothing_37 (by decide) ?_
        refine r_lv [2, 3, 1, 0] rfl ?_
        exact kl _ (sm_i h)
set_option maxHeartbeats 4000000 in
set_option maxRecDepth 100000 in
theorem c_isNothing {G : gT} {h0 : Nat} {hp : cH} {sz : Nat} {n : Int32} {p : Int64} {count : Int32} {sorts : Nat → Int32} {rows : Nat → Int64} {hand : Nat → Int64} {gathered : Int32} {gather : Nat → Int32} {paired : Int32} {pairA : Nat → Int32} {pairB : Nat → Int32} {ideal : Int32} {draft : Nat → Int64} {frame : Nat → Int64} {one : Nat → Int64} {two : Nat → Int64} {turned : Nat → Int64} {placeI : Int32} {placeJ : Int32} {formA : Int64} {formB : Int64} {formC : Int64} {x1 : Int32} {out : Int32} (h : m_isNothing n draft x1 = some out) : aM G yX6_isNothing cX6_isNothing 4 (some .boolean) 2 27 0 0 [.ref h0, .int x1] (mw h0 hp n p count sorts rows hand gathered gather paired pairA pairB ideal draft frame one two turned placeI placeJ formA formB formC) sz ((some (.int out), mw h0 hp n p count sorts rows hand gathered gather paired pairA pairB ideal draft frame one two turned placeI placeJ formA formB formC, sz) : oT) := by
  refine aM.of RX6 (by decide) rfl (Nat.le_of_ble_eq_true rfl) (fun K C => ?_)
  have hO : ((some (.int out), mw h0 hp n p count sorts rows hand gathered gather paired pairA pairB ideal draft frame one two turned placeI placeJ formA formB formC, sz) : oT) = ((some (.int out), mw h0 hp n p count sorts rows hand gathered gather paired pairA pairB ideal draft frame one two turned placeI placeJ formA formB formC, sz) : oT) := rfl
  refine r_lve (lv' := [(0, .ref h0), (1, .int x1)]) rfl ?_
  unfold m_isNothing at h
  refine r_iconst C (v := 1) dX6_isNothing_0 (by decide) ?_
  refine r_istore_n C (lv' := [(2, .int ((1 : Int32))), (0, .ref h0), (1, .int x1)]) dX6_isNothing_1 rfl (by decide) rfl ?_
  refine r_iconst C (v := 0) dX6_isNothing_2 (by decide) ?_
  refine r_istore_n C (lv' := [(3, .int ((0 : Int32))), (2, .int ((1 : Int32))), (0, .ref h0), (1, .int x1)]) dX6_isNothing_3 rfl (by decide) rfl ?_
  refine r_lv [2, 3, 1, 0] rfl ?_
  obtain ⟨r2, qr2, h⟩ := bd_i h
  refine w_isNothing_L4 C qr2 ?_
  refine r_iload_n C 0 rfl dX6_isNothing_40 rfl ?_
  obtain ⟨hz, h⟩ := gd_t h
  obtain rfl := sm_i h
  exact r_zreturn C (nb01 hz) (Eq.symm hO) dX6_isNothing_41
noncomputable def m_over (p : Int64) (x1 : Int64) : Option Int64 := (m_power p x1 (p - ((2 : Int64)))).bind fun r1 => some r1
set_option maxHeartbeats 4000000 in
set_option maxRecDepth 100000 in
theorem c_over {G : gT} {h0 : Nat} {hp : cH} {sz : Nat} {n : Int32} {p : Int64} {count : Int32} {sorts : Nat → Int32} {rows : Nat → Int64} {hand : Nat → Int64} {gathered : Int32} {gather : Nat → Int32} {paired : Int32} {pairA : Nat → Int32} {pairB : Nat → Int32} {ideal : Int32} {draft : Nat → Int64} {frame : Nat → Int64} {one : Nat → Int64} {two : Nat → Int64} {turned : Nat → Int64} {placeI : Int32} {placeJ : Int32} {formA : Int64} {formB : Int64} {formC : Int64} {x1 : Int64} {out : Int64} (h : m_over p x1 = some out) : aM G yX6_over cX6_over 3 (some .long) 2 38 0 0 [.ref h0, .long x1] (mw h0 hp n p count sorts rows hand gathered gather paired pairA pairB ideal draft frame one two turned placeI placeJ formA formB formC) sz ((some (.long out), mw h0 hp n p count sorts rows hand gathered gather paired pairA pairB ideal draft frame one two turned placeI placeJ formA formB formC, sz) : oT) := by
  refine aM.of RX6 (by decide) rfl (Nat.le_of_ble_eq_true rfl) (fun K C => ?_)
  have hO : ((some (.long out), mw h0 hp n p count sorts rows hand gathered gather paired pairA pairB ideal draft frame one two turned placeI placeJ formA formB formC, sz) : oT) = ((some (.long out), mw h0 hp n p count sorts rows hand gathered gather paired pairA pairB ideal draft frame one two turned placeI placeJ formA formB formC, sz) : oT) := rfl
  refine r_lve (lv' := [(0, .ref h0), (1, .long x1)]) rfl ?_
  unfold m_over at h
  refine r_aload_n C 0 rfl dX6_over_0 rfl ?_
  refine r_lload_n C 1 rfl dX6_over_1 rfl ?_
  refine r_aload_n C 0 rfl dX6_over_2 rfl ?_
  refine m_g_p C dX6_over_3 ?_
  refine r_ldc2 C (v := 2) cl6_50 dX6_over_6 ?_
  refine r_lsub C dX6_over_9 ?_
  obtain ⟨r1, qr1, h⟩ := bd_i h
  refine q_callV C 0 0 0 (c_power qr1) rfl mw_self rfl ok_power in_power lk6_80 rfl (Nat.le_of_ble_eq_true rfl) ⟨Nat.le_of_ble_eq_true rfl, Nat.le_of_ble_eq_true rfl⟩ dX6_over_10 rfl rfl ?_
  obtain rfl := sm_i h
  exact r_lreturn C (Eq.symm hO) dX6_over_13
noncomputable def m_scale_L2 (draft : Nat → Int64) (s : Int32) : Option (Int32 ⊕ Int32) := if gi s 16 then if (draft s.toNatClampNeg) = ((0 : Int64)) then (some (.inl (s + 1))) else (some (.inr s)) else none
noncomputable def m_scale_L33 (n : Int32) (p : Int64) (l1 : Int32) (l3 : Int64) (s : (Int32 × (Nat → Int64))) : Option ((Int32 × (Nat → Int64)) ⊕ (Nat → Int64)) := (m_width n l1).bind fun r3 => if r3 ≤ s.1 then (some (.inr s.2)) else (if gi s.1 16 then (m_times p (s.2 s.1.toNatClampNeg) l3).bind fun r4 => if gi s.1 16 then some (.inl (s.1 + 1, vp_updL s.2 s.1.toNatClampNeg r4)) else none else none)
noncomputable def m_scale (n : Int32) (p : Int64) (draft : Nat → Int64) (x1 : Int32) : Option (Nat → Int64) := (itX (m_scale_L2 draft) ((0 : Int32))).bind fun r1 => if gi r1 16 then (m_over p (draft r1.toNatClampNeg)).bind fun r2 => (itX (m_scale_L33 n p x1 r2) ((0 : Int32), draft)).bind fun r5 => some r5 else none
set_option maxHeartbeats 4000000 in
set_option maxRecDepth 100000 in
theorem w_scale_L2 {K : kT} {O : oT} (C : aC K cX6_scale RX6 "scale" 3 52 0 0 6 none O) {h0 : Nat} {hp : cH} {sz : Nat} {n : Int32} {p : Int64} {count : Int32} {sorts : Nat → Int32} {rows : Nat → Int64} {hand : Nat → Int64} {gathered : Int32} {gather : Nat → Int32} {paired : Int32} {pairA : Nat → Int32} {pairB : Nat → Int32} {ideal : Int32} {draft : Nat → Int64} {frame : Nat → Int64} {one : Nat → Int64} {two : Nat → Int64} {turned : Nat → Int64} {placeI : Int32} {placeJ : Int32} {formA : Int64} {formB : Int64} {formC : Int64} {l1 : Int32} {v0 : Int32} {r : Int32} (h : itX (m_scale_L2 draft) v0 = some r) (hr : aW K (mw h0 hp n p count sorts rows hand gathered gather paired pairA pairB ideal draft frame one two turned placeI placeJ formA formB formC) sz 0 0 19 [(0, .ref h0), (1, .int l1), (2, .int r)] []) : aW K (mw h0 hp n p count sorts rows hand gathered gather paired pairA pairB ideal draft frame one two turned placeI placeJ formA formB formC) sz 0 0 2 [(0, .ref h0), (1, .int l1), (2, .int v0)] [] := by
  refine it_walk (f := m_scale_L2 draft) (P := fun s => aW K (mw h0 hp n p count sorts rows hand gathered gather paired pairA pairB ideal draft frame one two turned placeI placeJ formA formB formC) sz 0 0 2 [(0, .ref h0), (1, .int l1), (2, .int s)] []) (R := fun r => aW K (mw h0 hp n p count sorts rows hand gathered gather paired pairA pairB ideal draft frame one two turned placeI placeJ formA formB formC) sz 0 0 19 [(0, .ref h0), (1, .int l1), (2, .int r)] []) ?_ h hr
  clear h hr
  intro s x h kl kr
  unfold m_scale_L2 at h
  refine r_aload_n C 0 rfl dX6_scale_2 rfl ?_
  refine m_g_draft C dX6_scale_3 ?_
  refine r_iload_n C 2 rfl dX6_scale_6 rfl ?_
  obtain ⟨hi, h⟩ := gd_t h
  refine m_l_draft C hi dX6_scale_7 ?_
  refine r_lconst C (v := 0) dX6_scale_8 (by decide) ?_
  refine r_lne C (tgt := 19) dX6_scale_9 dX6_scale_10 (by decide) (fun hc => ?_) (fun hc => ?_)
  · replace h := br_n hc h
    refine r_lv [0, 1, 2] rfl ?_
    exact kr _ (sm_i h)
  · replace h := br_p hc h
    refine r_iinc C (v := s + 1) (lv' := [(2, .int (s + 1)), (0, .ref h0), (1, .int l1)]) 2 rfl dX6_scale_13 rfl (by decide) rfl ?_
    refine r_goto C (tgt := 2) dX6_scale_16 (by decide) ?_
    refine r_lv [1, 2, 0] rfl ?_
    exact kl _ (sm_i h)
set_option maxHeartbeats 4000000 in
set_option maxRecDepth 100000 in
theorem w_scale_L33 {K : kT} {O : oT} (C : aC K cX6_scale RX6 "scale" 3 52 0 0 6 none O) {h0 : Nat} {hp : cH} {sz : Nat} {n : Int32} {p : Int64} {count : Int32} {sorts : Nat → Int32} {rows : Nat → Int64} {hand : Nat → Int64} {gathered : Int32} {gather : Nat → Int32} {paired : Int32} {pairA : Nat → Int32} {pairB : Nat → Int32} {ideal : Int32} {frame : Nat → Int64} {one : Nat → Int64} {two : Nat → Int64} {turned : Nat → Int64} {placeI : Int32} {placeJ : Int32} {formA : Int64} {formB : Int64} {formC : Int64} {l1 : Int32} {l3 : Int64} {v0 : Int32} {v1 : Nat → Int64} {r : (Nat → Int64)} (h : itX (m_scale_L33 n p l1 l3) (v0, v1) = some r) (hr : aW K (mw h0 hp n p count sorts rows hand gathered gather paired pairA pairB ideal r frame one two turned placeI placeJ formA formB formC) sz 0 0 68 [] []) : aW K (mw h0 hp n p count sorts rows hand gathered gather paired pairA pairB ideal v1 frame one two turned placeI placeJ formA formB formC) sz 0 0 33 [(0, .ref h0), (1, .int l1), (3, .long l3), (5, .int v0)] [] := by
  refine it_walk (f := m_scale_L33 n p l1 l3) (P := fun s => aW K (mw h0 hp n p count sorts rows hand gathered gather paired pairA pairB ideal s.2 frame one two turned placeI placeJ formA formB formC) sz 0 0 33 [(0, .ref h0), (1, .int l1), (3, .long l3), (5, .int s.1)] []) (R := fun r => aW K (mw h0 hp n p count sorts rows hand gathered gather paired pairA pairB ideal r frame one two turned placeI placeJ formA formB formC) sz 0 0 68 [] []) ?_ h hr
  clear h hr
  intro s x h kl kr
  unfold m_scale_L33 at h
  refine r_iload C 3 rfl dX6_scale_33 ?_
  refine r_aload_n C 0 rfl dX6_scale_35 rfl ?_
  refine r_iload_n C 1 rfl dX6_scale_36 rfl ?_
  obtain ⟨r3, qr3, h⟩ := bd_i h
  refine q_callV C 1 0 0 (c_width qr3) rfl mw_self rfl ok_width in_width lk6_122 rfl (Nat.le_of_ble_eq_true rfl) ⟨Nat.le_of_ble_eq_true rfl, Nat.le_of_ble_eq_true rfl⟩ dX6_scale_37 rfl rfl ?_
  refine r_icmp_ge C (tgt := 68) dX6_scale_40 (by decide) (fun hc => ?_) (fun hc => ?_)
  · replace h := br_p hc h
    refine r_lv [] rfl ?_
    exact kr _ (sm_i h)
  · replace h := br_n hc h
    refine r_aload_n C 0 rfl dX6_scale_43 rfl ?_
    refine m_g_draft C dX6_scale_44 ?_
    refine r_iload C 3 rfl dX6_scale_47 ?_
    refine r_aload_n C 0 rfl dX6_scale_49 rfl ?_
    refine r_aload_n C 0 rfl dX6_scale_50 rfl ?_
    refine m_g_draft C dX6_scale_51 ?_
    refine r_iload C 3 rfl dX6_scale_54 ?_
    obtain ⟨hi, h⟩ := gd_t h
    refine m_l_draft C hi dX6_scale_56 ?_
    refine r_lload_n C 2 rfl dX6_scale_57 rfl ?_
    obtain ⟨r4, qr4, h⟩ := bd_i h
    refine q_callV C 2 0 0 (c_times qr4) rfl mw_self rfl ok_times in_times lk6_76 rfl (Nat.le_of_ble_eq_true rfl) ⟨Nat.le_of_ble_eq_true rfl, Nat.le_of_ble_eq_true rfl⟩ dX6_scale_58 rfl rfl ?_
    obtain ⟨hi, h⟩ := gd_t h
    refine m_s_draft C hi dX6_scale_61 ?_
    refine r_iinc C (v := s.1 + 1) (lv' := [(5, .int (s.1 + 1)), (0, .ref h0), (1, .int l1), (3, .long l3)]) 3 rfl dX6_scale_62 rfl (by decide) rfl ?_
    refine r_goto C (tgt := 33) dX6_scale_65 (by decide) ?_
    refine r_lv [1, 2, 3, 0] rfl ?_
    exact kl _ (sm_i h)
set_option maxHeartbeats 4000000 in
set_option maxRecDepth 100000 in
theorem c_scale {G : gT} {h0 : Nat} {hp : cH} {sz : Nat} {n : Int32} {p : Int64} {count : Int32} {sorts : Nat → Int32} {rows : Nat → Int64} {hand : Nat → Int64} {gathered : Int32} {gather : Nat → Int32} {paired : Int32} {pairA : Nat → Int32} {pairB : Nat → Int32} {ideal : Int32} {draft : Nat → Int64} {frame : Nat → Int64} {one : Nat → Int64} {two : Nat → Int64} {turned : Nat → Int64} {placeI : Int32} {placeJ : Int32} {formA : Int64} {formB : Int64} {formC : Int64} {x1 : Int32} {out : (Nat → Int64)} (h : m_scale n p draft x1 = some out) : aM G yX6_scale cX6_scale 6 none 3 52 0 0 [.ref h0, .int x1] (mw h0 hp n p count sorts rows hand gathered gather paired pairA pairB ideal draft frame one two turned placeI placeJ formA formB formC) sz ((none, mw h0 hp n p count sorts rows hand gathered gather paired pairA pairB ideal out frame one two turned placeI placeJ formA formB formC, sz) : oT) := by
  refine aM.of RX6 (by decide) rfl (Nat.le_of_ble_eq_true rfl) (fun K C => ?_)
  have hO : ((none, mw h0 hp n p count sorts rows hand gathered gather paired pairA pairB ideal out frame one two turned placeI placeJ formA formB formC, sz) : oT) = ((none, mw h0 hp n p count sorts rows hand gathered gather paired pairA pairB ideal out frame one two turned placeI placeJ formA formB formC, sz) : oT) := rfl
  refine r_lve (lv' := [(0, .ref h0), (1, .int x1)]) rfl ?_
  unfold m_scale at h
  refine r_iconst C (v := 0) dX6_scale_0 (by decide) ?_
  refine r_istore_n C (lv' := [(2, .int ((0 : Int32))), (0, .ref h0), (1, .int x1)]) dX6_scale_1 rfl (by decide) rfl ?_
  refine r_lv [1, 2, 0] rfl ?_
  obtain ⟨r1, qr1, h⟩ := bd_i h
  refine w_scale_L2 C qr1 ?_
  refine r_aload_n C 0 rfl dX6_scale_19 rfl ?_
  refine r_aload_n C 0 rfl dX6_scale_20 rfl ?_
  refine m_g_draft C dX6_scale_21 ?_
  refine r_iload_n C 2 rfl dX6_scale_24 rfl ?_
  obtain ⟨hi, h⟩ := gd_t h
  refine m_l_draft C hi dX6_scale_25 ?_
  obtain ⟨r2, qr2, h⟩ := bd_i h
  refine q_callV C 0 0 0 (c_over qr2) rfl mw_self rfl ok_over in_over lk6_98 rfl (Nat.le_of_ble_eq_true rfl) ⟨Nat.le_of_ble_eq_true rfl, Nat.le_of_ble_eq_true rfl⟩ dX6_scale_26 rfl rfl ?_
  refine r_lstore_n C (lv' := [(3, .long r2), (0, .ref h0), (1, .int x1), (2, .int r1)]) dX6_scale_29 rfl (by decide) rfl ?_
  refine r_iconst C (v := 0) dX6_scale_30 (by decide) ?_
  refine r_istore C (lv' := [(5, .int ((0 : Int32))), (3, .long r2), (0, .ref h0), (1, .int x1), (2, .int r1)]) dX6_scale_31 (by decide) rfl ?_
  refine r_lv [2, 3, 1, 0] rfl ?_
  obtain ⟨r5, qr5, h⟩ := bd_i h
  refine w_scale_L33 C qr5 ?_
  obtain rfl := sm_i h
  exact r_return C (Eq.symm hO) dX6_scale_68
noncomputable def m_of (rows : Nat → Int64) (x1 : Int32) (x2 : Int32) : Option Int64 := if gi ((((16 : Int32)) * x1) + x2) 960 then some (rows ((((16 : Int32)) * x1) + x2).toNatClampNeg) else none
set_option maxHeartbeats 4000000 in
set_option maxRecDepth 100000 in
theorem c_of {G : gT} {h0 : Nat} {hp : cH} {sz : Nat} {n : Int32} {p : Int64} {count : Int32} {sorts : Nat → Int32} {rows : Nat → Int64} {hand : Nat → Int64} {gathered : Int32} {gather : Nat → Int32} {paired : Int32} {pairA : Nat → Int32} {pairB : Nat → Int32} {ideal : Int32} {draft : Nat → Int64} {frame : Nat → Int64} {one : Nat → Int64} {two : Nat → Int64} {turned : Nat → Int64} {placeI : Int32} {placeJ : Int32} {formA : Int64} {formB : Int64} {formC : Int64} {x1 : Int32} {x2 : Int32} {out : Int64} (h : m_of rows x1 x2 = some out) : aM G yX6_of cX6_of 3 (some .long) 0 0 0 0 [.ref h0, .int x1, .int x2] (mw h0 hp n p count sorts rows hand gathered gather paired pairA pairB ideal draft frame one two turned placeI placeJ formA formB formC) sz ((some (.long out), mw h0 hp n p count sorts rows hand gathered gather paired pairA pairB ideal draft frame one two turned placeI placeJ formA formB formC, sz) : oT) := by
  refine aM.of RX6 (by decide) rfl (Nat.le_of_ble_eq_true rfl) (fun K C => ?_)
  have hO : ((some (.long out), mw h0 hp n p count sorts rows hand gathered gather paired pairA pairB ideal draft frame one two turned placeI placeJ formA formB formC, sz) : oT) = ((some (.long out), mw h0 hp n p count sorts rows hand gathered gather paired pairA pairB ideal draft frame one two turned placeI placeJ formA formB formC, sz) : oT) := rfl
  refine r_lve (lv' := [(0, .ref h0), (1, .int x1), (2, .int x2)]) rfl ?_
  unfold m_of at h
  refine r_aload_n C 0 rfl dX6_of_0 rfl ?_
  refine m_g_rows C dX6_of_1 ?_
  refine r_bipush C (v := 16) dX6_of_4 (by decide) ?_
  refine r_iload_n C 1 rfl dX6_of_6 rfl ?_
  refine r_imul C dX6_of_7 ?_
  refine r_iload_n C 2 rfl dX6_of_8 rfl ?_
  refine r_iadd C dX6_of_9 ?_
  obtain ⟨hi, h⟩ := gd_t h
  refine m_l_rows C hi dX6_of_10 ?_
  obtain rfl := sm_i h
  exact r_lreturn C (Eq.symm hO) dX6_of_11
noncomputable def m_made_L34 (n : Int32) (rows : Nat → Int64) (draft : Nat → Int64) (l1 : Int32) (l2 : Int32) (s : (Int32 × Int32)) : Option ((Int32 × Int32) ⊕ Int32) := if s.1 = 0 then (some (.inr s.1)) else ((m_width n l1).bind fun r2 => if r2 ≤ s.2 then (some (.inr s.1)) else ((m_of rows l2 s.2).bind fun r3 => if gi s.2 16 then if r3 = (draft s.2.toNatClampNeg) then (some (.inl ((1 : Int32), s.2 + 1))) else (some (.inl ((0 : Int32), s.2 + 1))) else none))
noncomputable def m_made_L7J78 (count : Int32) (sorts : Nat → Int32) (rows : Nat → Int64) (draft : Nat → Int64) (l2 : Int32) (l3 : Int32) : Option (Int32 ⊕ (Unit ⊕ (Int32 × Int32 × (Nat → Int32) × (Nat → Int64) × (Nat → Int64)))) := if l3 = 0 then (some (.inl (l2 + 1))) else (some (.inr (.inr (l2, count, sorts, rows, draft))))
noncomputable def m_made_L7 (n : Int32) (count : Int32) (sorts : Nat → Int32) (rows : Nat → Int64) (draft : Nat → Int64) (l1 : Int32) (s : Int32) : Option (Int32 ⊕ (Unit ⊕ (Int32 × Int32 × (Nat → Int32) × (Nat → Int64) × (Nat → Int64)))) := if count ≤ s then (some (.inr (.inl ()))) else (if gi s 60 then if (sorts s.toNatClampNeg) = l1 then ((itX (m_made_L34 n rows draft l1 s) ((1 : Int32), (0 : Int32))).bind fun r5 => m_made_L7J78 count sorts rows draft s r5) else ((itX (m_made_L34 n rows draft l1 s) ((0 : Int32), (0 : Int32))).bind fun r4 => m_made_L7J78 count sorts rows draft s r4) else none)
noncomputable def m_made_L114 (n : Int32) (count : Int32) (draft : Nat → Int64) (l1 : Int32) (s : (Int32 × (Nat → Int64))) : Option ((Int32 × (Nat → Int64)) ⊕ (Nat → Int64)) := if ((16 : Int32)) ≤ s.1 then (some (.inr s.2)) else ((m_width n l1).bind fun r7 => if r7 ≤ s.1 then (if gi ((((16 : Int32)) * count) + s.1) 960 then some (.inl (s.1 + 1, vp_updL s.2 ((((16 : Int32)) * count) + s.1).toNatClampNeg ((0 : Int64)))) else none) else (if gi s.1 16 then if gi ((((16 : Int32)) * count) + s.1) 960 then some (.inl (s.1 + 1, vp_updL s.2 ((((16 : Int32)) * count) + s.1).toNatClampNeg (draft s.1.toNatClampNeg))) else none else none))
noncomputable def m_made (n : Int32) (p : Int64) (count : Int32) (sorts : Nat → Int32) (rows : Nat → Int64) (draft : Nat → Int64) (x1 : Int32) : Option (Int32 × Int32 × (Nat → Int32) × (Nat → Int64) × (Nat → Int64)) := (m_scale n p draft x1).bind fun r1 => (itX (m_made_L7 n count sorts rows r1 x1) ((0 : Int32))).bind fun r6 => match r6 with | .inl r6 => (if count = ((60 : Int32)) then (some ((-3 : Int32), count, sorts, rows, r1)) else (if gi count 60 then (itX (m_made_L114 n count r1 x1) ((0 : Int32), rows)).bind fun r8 => some ((count + ((1 : Int32))) - ((1 : Int32)), count + ((1 : Int32)), upd sorts count.toNatClampNeg x1, r8, r1) else none)) | .inr o9 => some o9
set_option maxHeartbeats 4000000 in
set_option maxRecDepth 100000 in
theorem w_made_L34 {K : kT} {O : oT} (C : aC K cX6_made RX6 "made" 4 69 0 0 5 (some .int) O) {h0 : Nat} {hp : cH} {sz : Nat} {n : Int32} {p : Int64} {count : Int32} {sorts : Nat → Int32} {rows : Nat → Int64} {hand : Nat → Int64} {gathered : Int32} {gather : Nat → Int32} {paired : Int32} {pairA : Nat → Int32} {pairB : Nat → Int32} {ideal : Int32} {draft : Nat → Int64} {frame : Nat → Int64} {one : Nat → Int64} {two : Nat → Int64} {turned : Nat → Int64} {placeI : Int32} {placeJ : Int32} {formA : Int64} {formB : Int64} {formC : Int64} {l1 : Int32} {l2 : Int32} {v0 : Int32} {v1 : Int32} {r : Int32} (h : itX (m_made_L34 n rows draft l1 l2) (v0, v1) = some r) (hr : aW K (mw h0 hp n p count sorts rows hand gathered gather paired pairA pairB ideal draft frame one two turned placeI placeJ formA formB formC) sz 0 0 78 [(0, .ref h0), (1, .int l1), (2, .int l2), (3, .int r)] []) : aW K (mw h0 hp n p count sorts rows hand gathered gather paired pairA pairB ideal draft frame one two turned placeI placeJ formA formB formC) sz 0 0 34 [(0, .ref h0), (1, .int l1), (2, .int l2), (3, .int v0), (4, .int v1)] [] := by
  refine it_walk (f := m_made_L34 n rows draft l1 l2) (P := fun s => aW K (mw h0 hp n p count sorts rows hand gathered gather paired pairA pairB ideal draft frame one two turned placeI placeJ formA formB formC) sz 0 0 34 [(0, .ref h0), (1, .int l1), (2, .int l2), (3, .int s.1), (4, .int s.2)] []) (R := fun r => aW K (mw h0 hp n p count sorts rows hand gathered gather paired pairA pairB ideal draft frame one two turned placeI placeJ formA formB formC) sz 0 0 78 [(0, .ref h0), (1, .int l1), (2, .int l2), (3, .int r)] []) ?_ h hr
  clear h hr
  intro s x h kl kr
  unfold m_made_L34 at h
  refine r_iload_n C 3 rfl dX6_made_34 rfl ?_
  refine r_if_eq C (tgt := 78) dX6_made_35 (by decide) (fun hc => ?_) (fun hc => ?_)
  · replace h := br_p hc h
    refine r_lv [0, 1, 2, 3] rfl ?_
    exact kr _ (sm_i h)
  · replace h := br_n hc h
    refine r_iload C 4 rfl dX6_made_38 ?_
    refine r_aload_n C 0 rfl dX6_made_40 rfl ?_
    refine r_iload_n C 1 rfl dX6_made_41 rfl ?_
    obtain ⟨r2, qr2, h⟩ := bd_i h
    refine q_callV C 1 0 0 (c_width qr2) rfl mw_self rfl ok_width in_width lk6_122 rfl (Nat.le_of_ble_eq_true rfl) ⟨Nat.le_of_ble_eq_true rfl, Nat.le_of_ble_eq_true rfl⟩ dX6_made_42 rfl rfl ?_
    refine r_icmp_ge C (tgt := 78) dX6_made_45 (by decide) (fun hc => ?_) (fun hc => ?_)
    · replace h := br_p hc h
      refine r_lv [0, 1, 2, 3] rfl ?_
      exact kr _ (sm_i h)
    · replace h := br_n hc h
      refine r_aload_n C 0 rfl dX6_made_48 rfl ?_
      refine r_iload_n C 2 rfl dX6_made_49 rfl ?_
      refine r_iload C 4 rfl dX6_made_50 ?_
      obtain ⟨r3, qr3, h⟩ := bd_i h
      refine q_callV C 0 0 0 (c_of qr3) rfl mw_self rfl ok_of in_of lk6_108 rfl (Nat.le_of_ble_eq_true rfl) ⟨Nat.le_of_ble_eq_true rfl, Nat.le_of_ble_eq_true rfl⟩ dX6_made_52 rfl rfl ?_
      refine r_aload_n C 0 rfl dX6_made_55 rfl ?_
      refine m_g_draft C dX6_made_56 ?_
      refine r_iload C 4 rfl dX6_made_59 ?_
      obtain ⟨hi, h⟩ := gd_t h
      refine m_l_draft C hi dX6_made_61 ?_
      refine r_lne C (tgt := 70) dX6_made_62 dX6_made_63 (by decide) (fun hc => ?_) (fun hc => ?_)
      · replace h := br_n hc h
        refine r_iconst C (v := 0) dX6_made_70 (by decide) ?_
        refine r_istore_n C (lv' := [(3, .int ((0 : Int32))), (0, .ref h0), (1, .int l1), (2, .int l2), (4, .int s.2)]) dX6_made_71 rfl (by decide) rfl ?_
        refine r_iinc C (v := s.2 + 1) (lv' := [(4, .int (s.2 + 1)), (3, .int ((0 : Int32))), (0, .ref h0), (1, .int l1), (2, .int l2)]) 4 rfl dX6_made_72 rfl (by decide) rfl ?_
        refine r_goto C (tgt := 34) dX6_made_75 (by decide) ?_
        refine r_lv [2, 3, 4, 1, 0] rfl ?_
        exact kl _ (sm_i h)
      · replace h := br_p hc h
        refine r_iconst C (v := 1) dX6_made_66 (by decide) ?_
        refine r_goto C (tgt := 71) dX6_made_67 (by decide) ?_
        refine r_istore_n C (lv' := [(3, .int ((1 : Int32))), (0, .ref h0), (1, .int l1), (2, .int l2), (4, .int s.2)]) dX6_made_71 rfl (by decide) rfl ?_
        refine r_iinc C (v := s.2 + 1) (lv' := [(4, .int (s.2 + 1)), (3, .int ((1 : Int32))), (0, .ref h0), (1, .int l1), (2, .int l2)]) 4 rfl dX6_made_72 rfl (by decide) rfl ?_
        refine r_goto C (tgt := 34) dX6_made_75 (by decide) ?_
        refine r_lv [2, 3, 4, 1, 0] rfl ?_
        exact kl _ (sm_i h)
set_option maxHeartbeats 4000000 in
set_option maxRecDepth 100000 in
theorem w_made_L7J78 {K : kT} {O : oT} (C : aC K cX6_made RX6 "made" 4 69 0 0 5 (some .int) O) {h0 : Nat} {hp : cH} {sz : Nat} {n : Int32} {p : Int64} {count : Int32} {sorts : Nat → Int32} {rows : Nat → Int64} {hand : Nat → Int64} {gathered : Int32} {gather : Nat → Int32} {paired : Int32} {pairA : Nat → Int32} {pairB : Nat → Int32} {ideal : Int32} {draft : Nat → Int64} {frame : Nat → Int64} {one : Nat → Int64} {two : Nat → Int64} {turned : Nat → Int64} {placeI : Int32} {placeJ : Int32} {formA : Int64} {formB : Int64} {formC : Int64} {l1 : Int32} {l2 : Int32} {l3 : Int32}  {x : Int32 ⊕ (Unit ⊕ (Int32 × Int32 × (Nat → Int32) × (Nat → Int64) × (Nat → Int64)))} (h : m_made_L7J78 count sorts rows draft l2 l3 = some x) (kl : ∀ s, x = .inl s → aW K (mw h0 hp n p count sorts rows hand gathered gather paired pairA pairB ideal draft frame one two turned placeI placeJ formA formB formC) sz 0 0 7 [(0, .ref h0), (1, .int l1), (2, .int s)] []) (kr : ∀ r, x = .inr r → Sum.elim (fun r => aW K (mw h0 hp n p count sorts rows hand gathered gather paired pairA pairB ideal draft frame one two turned placeI placeJ formA formB formC) sz 0 0 90 [(0, .ref h0), (1, .int l1)] []) (fun o => ((some (.int o.1), mw h0 hp n p o.2.1 o.2.2.1 o.2.2.2.1 hand gathered gather paired pairA pairB ideal o.2.2.2.2 frame one two turned placeI placeJ formA formB formC, sz) : oT) = O) r) : aW K (mw h0 hp n p count sorts rows hand gathered gather paired pairA pairB ideal draft frame one two turned placeI placeJ formA formB formC) sz 0 0 78 [(0, .ref h0), (1, .int l1), (2, .int l2), (3, .int l3)] [] := by
  unfold m_made_L7J78 at h
  refine r_iload_n C 3 rfl dX6_made_78 rfl ?_
  refine r_if_eq C (tgt := 84) dX6_made_79 (by decide) (fun hc => ?_) (fun hc => ?_)
  · replace h := br_p hc h
    refine r_iinc C (v := l2 + 1) (lv' := [(2, .int (l2 + 1)), (0, .ref h0), (1, .int l1), (3, .int l3)]) 2 rfl dX6_made_84 rfl (by decide) rfl ?_
    refine r_goto C (tgt := 7) dX6_made_87 (by decide) ?_
    refine r_lv [1, 2, 0] rfl ?_
    exact kl _ (sm_i h)
  · replace h := br_n hc h
    refine r_iload_n C 2 rfl dX6_made_82 rfl ?_
    exact r_ireturn C (Eq.symm (kr _ (sm_i h))) dX6_made_83
set_option maxHeartbeats 4000000 in
set_option maxRecDepth 100000 in
theorem w_made_L7 {K : kT} {O : oT} (C : aC K cX6_made RX6 "made" 4 69 0 0 5 (some .int) O) {h0 : Nat} {hp : cH} {sz : Nat} {n : Int32} {p : Int64} {count : Int32} {sorts : Nat → Int32} {rows : Nat → Int64} {hand : Nat → Int64} {gathered : Int32} {gather : Nat → Int32} {paired : Int32} {pairA : Nat → Int32} {pairB : Nat → Int32} {ideal : Int32} {draft : Nat → Int64} {frame : Nat → Int64} {one : Nat → Int64} {two : Nat → Int64} {turned : Nat → Int64} {placeI : Int32} {placeJ : Int32} {formA : Int64} {formB : Int64} {formC : Int64} {l1 : Int32} {v0 : Int32} {r : (Unit ⊕ (Int32 × Int32 × (Nat → Int32) × (Nat → Int64) × (Nat → Int64)))} (h : itX (m_made_L7 n count sorts rows draft l1) v0 = some r) (hr : Sum.elim (fun r => aW K (mw h0 hp n p count sorts rows hand gathered gather paired pairA pairB ideal draft frame one two turned placeI placeJ formA formB formC) sz 0 0 90 [(0, .ref h0), (1, .int l1)] []) (fun o => ((some (.int o.1), mw h0 hp n p o.2.1 o.2.2.1 o.2.2.2.1 hand gathered gather paired pairA pairB ideal o.2.2.2.2 frame one two turned placeI placeJ formA formB formC, sz) : oT) = O) r) : aW K (mw h0 hp n p count sorts rows hand gathered gather paired pairA pairB ideal draft frame one two turned placeI placeJ formA formB formC) sz 0 0 7 [(0, .ref h0), (1, .int l1), (2, .int v0)] [] := by
  refine it_walk (f := m_made_L7 n count sorts rows draft l1) (P := fun s => aW K (mw h0 hp n p count sorts rows hand gathered gather paired pairA pairB ideal draft frame one two turned placeI placeJ formA formB formC) sz 0 0 7 [(0, .ref h0), (1, .int l1), (2, .int s)] []) (R := fun r => Sum.elim (fun r => aW K (mw h0 hp n p count sorts rows hand gathered gather paired pairA pairB ideal draft frame one two turned placeI placeJ formA formB formC) sz 0 0 90 [(0, .ref h0), (1, .int l1)] []) (fun o => ((some (.int o.1), mw h0 hp n p o.2.1 o.2.2.1 o.2.2.2.1 hand gathered gather paired pairA pairB ideal o.2.2.2.2 frame one two turned placeI placeJ formA formB formC, sz) : oT) = O) r) ?_ h hr
  clear h hr
  intro s x h kl kr
  unfold m_made_L7 at h
  refine r_iload_n C 2 rfl dX6_made_7 rfl ?_
  refine r_aload_n C 0 rfl dX6_made_8 rfl ?_
  refine m_g_count C dX6_made_9 ?_
  refine r_icmp_ge C (tgt := 90) dX6_made_12 (by decide) (fun hc => ?_) (fun hc => ?_)
  · replace h := br_p hc h
    refine r_lv [0, 1] rfl ?_
    exact kr _ (sm_i h)
  · replace h := br_n hc h
    refine r_aload_n C 0 rfl dX6_made_15 rfl ?_
    refine m_g_sorts C dX6_made_16 ?_
    refine r_iload_n C 2 rfl dX6_made_19 rfl ?_
    obtain ⟨hi, h⟩ := gd_t h
    refine m_l_sorts C hi dX6_made_20 ?_
    refine r_iload_n C 1 rfl dX6_made_21 rfl ?_
    refine r_icmp_ne C (tgt := 29) dX6_made_22 (by decide) (fun hc => ?_) (fun hc => ?_)
    · replace h := br_n hc h
      refine r_iconst C (v := 0) dX6_made_29 (by decide) ?_
      refine r_istore_n C (lv' := [(3, .int ((0 : Int32))), (0, .ref h0), (1, .int l1), (2, .int s)]) dX6_made_30 rfl (by decide) rfl ?_
      refine r_iconst C (v := 0) dX6_made_31 (by decide) ?_
      refine r_istore C (lv' := [(4, .int ((0 : Int32))), (3, .int ((0 : Int32))), (0, .ref h0), (1, .int l1), (2, .int s)]) dX6_made_32 (by decide) rfl ?_
      refine r_lv [2, 3, 4, 1, 0] rfl ?_
      obtain ⟨r4, qr4, h⟩ := bd_i h
      refine w_made_L34 C qr4 ?_
      refine r_lv [0, 1, 2, 3] rfl ?_
      exact w_made_L7J78 C h kl kr
    · replace h := br_p hc h
      refine r_iconst C (v := 1) dX6_made_25 (by decide) ?_
      refine r_goto C (tgt := 30) dX6_made_26 (by decide) ?_
      refine r_istore_n C (lv' := [(3, .int ((1 : Int32))), (0, .ref h0), (1, .int l1), (2, .int s)]) dX6_made_30 rfl (by decide) rfl ?_
      refine r_iconst C (v := 0) dX6_made_31 (by decide) ?_
      refine r_istore C (lv' := [(4, .int ((0 : Int32))), (3, .int ((1 : Int32))), (0, .ref h0), (1, .int l1), (2, .int s)]) dX6_made_32 (by decide) rfl ?_
      refine r_lv [2, 3, 4, 1, 0] rfl ?_
      obtain ⟨r5, qr5, h⟩ := bd_i h
      refine w_made_L34 C qr5 ?_
      refine r_lv [0, 1, 2, 3] rfl ?_
      exact w_made_L7J78 C h kl kr
set_option maxHeartbeats 4000000 in
set_option maxRecDepth 100000 in
theorem w_made_L114 {K : kT} {O : oT} (C : aC K cX6_made RX6 "made" 4 69 0 0 5 (some .int) O) {h0 : Nat} {hp : cH} {sz : Nat} {n : Int32} {p : Int64} {count : Int32} {sorts : Nat → Int32} {hand : Nat → Int64} {gathered : Int32} {gather : Nat → Int32} {paired : Int32} {pairA : Nat → Int32} {pairB : Nat → Int32} {ideal : Int32} {draft : Nat → Int64} {frame : Nat → Int64} {one : Nat → Int64} {two : Nat → Int64} {turned : Nat → Int64} {placeI : Int32} {placeJ : Int32} {formA : Int64} {formB : Int64} {formC : Int64} {l1 : Int32} {v0 : Int32} {v1 : Nat → Int64} {r : (Nat → Int64)} (h : itX (m_made_L114 n count draft l1) (v0, v1) = some r) (hr : aW K (mw h0 hp n p count sorts r hand gathered gather paired pairA pairB ideal draft frame one two turned placeI placeJ formA formB formC) sz 0 0 159 [(0, .ref h0)] []) : aW K (mw h0 hp n p count sorts v1 hand gathered gather paired pairA pairB ideal draft frame one two turned placeI placeJ formA formB formC) sz 0 0 114 [(0, .ref h0), (1, .int l1), (2, .int v0)] [] := by
  refine it_walk (f := m_made_L114 n count draft l1) (P := fun s => aW K (mw h0 hp n p count sorts s.2 hand gathered gather paired pairA pairB ideal draft frame one two turned placeI placeJ formA formB formC) sz 0 0 114 [(0, .ref h0), (1, .int l1), (2, .int s.1)] []) (R := fun r => aW K (mw h0 hp n p count sorts r hand gathered gather paired pairA pairB ideal draft frame one two turned placeI placeJ formA formB formC) sz 0 0 159 [(0, .ref h0)] []) ?_ h hr
  clear h hr
  intro s x h kl kr
  unfold m_made_L114 at h
  refine r_iload_n C 2 rfl dX6_made_114 rfl ?_
  refine r_bipush C (v := 16) dX6_made_115 (by decide) ?_
  refine r_icmp_ge C (tgt := 159) dX6_made_117 (by decide) (fun hc => ?_) (fun hc => ?_)
  · replace h := br_p hc h
    refine r_lv [0] rfl ?_
    exact kr _ (sm_i h)
  · replace h := br_n hc h
    refine r_aload_n C 0 rfl dX6_made_120 rfl ?_
    refine m_g_rows C dX6_made_121 ?_
    refine r_bipush C (v := 16) dX6_made_124 (by decide) ?_
    refine r_aload_n C 0 rfl dX6_made_126 rfl ?_
    refine m_g_count C dX6_made_127 ?_
    refine r_imul C dX6_made_130 ?_
    refine r_iload_n C 2 rfl dX6_made_131 rfl ?_
    refine r_iadd C dX6_made_132 ?_
    refine r_iload_n C 2 rfl dX6_made_133 rfl ?_
    refine r_aload_n C 0 rfl dX6_made_134 rfl ?_
    refine r_iload_n C 1 rfl dX6_made_135 rfl ?_
    obtain ⟨r7, qr7, h⟩ := bd_i h
    refine q_callV C 3 0 0 (c_width qr7) rfl mw_self rfl ok_width in_width lk6_122 rfl (Nat.le_of_ble_eq_true rfl) ⟨Nat.le_of_ble_eq_true rfl, Nat.le_of_ble_eq_true rfl⟩ dX6_made_136 rfl rfl ?_
    refine r_icmp_ge C (tgt := 151) dX6_made_139 (by decide) (fun hc => ?_) (fun hc => ?_)
    · replace h := br_p hc h
      refine r_lconst C (v := 0) dX6_made_151 (by decide) ?_
      obtain ⟨hi, h⟩ := gd_t h
      refine m_s_rows C hi dX6_made_152 ?_
      refine r_iinc C (v := s.1 + 1) (lv' := [(2, .int (s.1 + 1)), (0, .ref h0), (1, .int l1)]) 2 rfl dX6_made_153 rfl (by decide) rfl ?_
      refine r_goto C (tgt := 114) dX6_made_156 (by decide) ?_
      refine r_lv [1, 2, 0] rfl ?_
      exact kl _ (sm_i h)
    · replace h := br_n hc h
      refine r_aload_n C 0 rfl dX6_made_142 rfl ?_
      refine m_g_draft C dX6_made_143 ?_
      refine r_iload_n C 2 rfl dX6_made_146 rfl ?_
      obtain ⟨hi, h⟩ := gd_t h
      refine m_l_draft C hi dX6_made_147 ?_
      refine r_goto C (tgt := 152) dX6_made_148 (by decide) ?_
      obtain ⟨hi, h⟩ := gd_t h
      refine m_s_rows C hi dX6_made_152 ?_
      refine r_iinc C (v := s.1 + 1) (lv' := [(2, .int (s.1 + 1)), (0, .ref h0), (1, .int l1)]) 2 rfl dX6_made_153 rfl (by decide) rfl ?_
      refine r_goto C (tgt := 114) dX6_made_156 (by decide) ?_
      refine r_lv [1, 2, 0] rfl ?_
      exact kl _ (sm_i h)
set_option maxHeartbeats 4000000 in
set_option maxRecDepth 100000 in
theorem c_made {G : gT} {h0 : Nat} {hp : cH} {sz : Nat} {n : Int32} {p : Int64} {count : Int32} {sorts : Nat → Int32} {rows : Nat → Int64} {hand : Nat → Int64} {gathered : Int32} {gather : Nat → Int32} {paired : Int32} {pairA : Nat → Int32} {pairB : Nat → Int32} {ideal : Int32} {draft : Nat → Int64} {frame : Nat → Int64} {one : Nat → Int64} {two : Nat → Int64} {turned : Nat → Int64} {placeI : Int32} {placeJ : Int32} {formA : Int64} {formB : Int64} {formC : Int64} {x1 : Int32} {out : (Int32 × Int32 × (Nat → Int32) × (Nat → Int64) × (Nat → Int64))} (h : m_made n p count sorts rows draft x1 = some out) : aM G yX6_made cX6_made 5 (some .int) 4 69 0 0 [.ref h0, .int x1] (mw h0 hp n p count sorts rows hand gathered gather paired pairA pairB ideal draft frame one two turned placeI placeJ formA formB formC) sz ((some (.int out.1), mw h0 hp n p out.2.1 out.2.2.1 out.2.2.2.1 hand gathered gather paired pairA pairB ideal out.2.2.2.2 frame one two turned placeI placeJ formA formB formC, sz) : oT) := by
  refine aM.of RX6 (by decide) rfl (Nat.le_of_ble_eq_true rfl) (fun K C => ?_)
  have hO : ((some (.int out.1), mw h0 hp n p out.2.1 out.2.2.1 out.2.2.2.1 hand gathered gather paired pairA pairB ideal out.2.2.2.2 frame one two turned placeI placeJ formA formB formC, sz) : oT) = ((some (.int out.1), mw h0 hp n p out.2.1 out.2.2.1 out.2.2.2.1 hand gathered gather paired pairA pairB ideal out.2.2.2.2 frame one two turned placeI placeJ formA formB formC, sz) : oT) := rfl
  refine r_lve (lv' := [(0, .ref h0), (1, .int x1)]) rfl ?_
  unfold m_made at h
  refine r_aload_n C 0 rfl dX6_made_0 rfl ?_
  refine r_iload_n C 1 rfl dX6_made_1 rfl ?_
  obtain ⟨r1, qr1, h⟩ := bd_i h
  refine q_callVv C 0 0 0 (c_scale qr1) rfl mw_self rfl ok_scale in_scale lk6_126 rfl (Nat.le_of_ble_eq_true rfl) ⟨Nat.le_of_ble_eq_true rfl, Nat.le_of_ble_eq_true rfl⟩ dX6_made_2 rfl rfl ?_
  refine r_iconst C (v := 0) dX6_made_5 (by decide) ?_
  refine r_istore_n C (lv' := [(2, .int ((0 : Int32))), (0, .ref h0), (1, .int x1)]) dX6_made_6 rfl (by decide) rfl ?_
  refine r_lv [1, 2, 0] rfl ?_
  obtain ⟨r6, qr6, h⟩ := bd_i h
  cases r6 with
  | inl r6 =>
    replace h : _ = some _ := h
    refine w_made_L7 C qr6 ?_
    refine r_aload_n C 0 rfl dX6_made_90 rfl ?_
    refine m_g_count C dX6_made_91 ?_
    refine r_bipush C (v := 60) dX6_made_94 (by decide) ?_
    refine r_icmp_ne C (tgt := 102) dX6_made_96 (by decide) (fun hc => ?_) (fun hc => ?_)
    · replace h := br_n hc h
      refine r_aload_n C 0 rfl dX6_made_102 rfl ?_
      refine m_g_sorts C dX6_made_103 ?_
      refine r_aload_n C 0 rfl dX6_made_106 rfl ?_
      refine m_g_count C dX6_made_107 ?_
      refine r_iload_n C 1 rfl dX6_made_110 rfl ?_
      obtain ⟨hi, h⟩ := gd_t h
      refine m_s_sorts C hi dX6_made_111 ?_
      refine r_iconst C (v := 0) dX6_made_112 (by decide) ?_
      refine r_istore_n C (lv' := [(2, .int ((0 : Int32))), (0, .ref h0), (1, .int x1)]) dX6_made_113 rfl (by decide) rfl ?_
      refine r_lv [1, 2, 0] rfl ?_
      obtain ⟨r8, qr8, h⟩ := bd_i h
      refine w_made_L114 C qr8 ?_
      refine r_aload_n C 0 rfl dX6_made_159 rfl ?_
      refine r_dup C dX6_made_160 rfl ?_
      refine m_g_count C dX6_made_161 ?_
      refine r_iconst C (v := 1) dX6_made_164 (by decide) ?_
      refine r_iadd C dX6_made_165 ?_
      refine m_p_count C dX6_made_166 ?_
      refine r_aload_n C 0 rfl dX6_made_169 rfl ?_
      refine m_g_count C dX6_made_170 ?_
      refine r_iconst C (v := 1) dX6_made_173 (by decide) ?_
      refine r_isub C dX6_made_174 ?_
      obtain rfl := sm_i h
      exact r_ireturn C (Eq.symm hO) dX6_made_175
    · replace h := br_p hc h
      refine r_bipush C (v := -3) dX6_made_99 (by decide) ?_
      obtain rfl := sm_i h
      exact r_ireturn C (Eq.symm hO) dX6_made_101
  | inr o9 =>
    obtain rfl := sm_i h
    exact w_made_L7 C qr6 hO
