/-! THE REFERENCE'S CONSTRUCTOR -/
section CTOR6
def ary : Nat → cV
  | 1 => .inl (0, 60, .inl (fun _ => 0))
  | 2 => .inl (1, 960, .inr (.inl (fun _ => 0)))
  | 3 => .inl (1, 16, .inr (.inl (fun _ => 0)))
  | 4 => .inl (0, 9, .inl (fun _ => 0))
  | 5 => .inl (0, 5, .inl (fun _ => 0))
  | 6 => .inl (0, 5, .inl (fun _ => 0))
  | 7 => .inl (1, 16, .inr (.inl (fun _ => 0)))
  | 8 => .inl (1, 320, .inr (.inl (fun _ => 0)))
  | 9 => .inl (1, 16, .inr (.inl (fun _ => 0)))
  | 10 => .inl (1, 16, .inr (.inl (fun _ => 0)))
  | _ => .inl (1, 16, .inr (.inl (fun _ => 0)))
def nwc (h0 : Nat) (hp : cH) (fs : List Value) (k : Nat) : cH := fun a => if a = h0 then some (.inr (6, fs)) else if h0 < a ∧ a ≤ h0 + k then some (ary (a - h0)) else hp a
theorem nwc_n {h0 : Nat} {hp : cH} {fs : List Value} (k : Nat) : va_up (nwc h0 hp fs k) (h0 + (k + 1)) (some (ary (k + 1))) = nwc h0 hp fs (k + 1) := by
  funext a
  unfold nwc
  by_cases e : a = h0 + (k + 1)
  · rw [e]
    simp only [va_up, ↓reduceIte]
    rw [if_neg (by omega), if_pos (by omega), Nat.add_sub_cancel_left]
  · simp only [va_up, if_neg e]
    by_cases e0 : a = h0
    · rw [if_pos e0, if_pos e0]
    · rw [if_neg e0, if_neg e0]
      by_cases e1 : h0 < a ∧ a ≤ h0 + k
      · rw [if_pos e1, if_pos (by omega)]
      · rw [if_neg e1, if_neg (by omega)]
theorem nwc_s {h0 : Nat} {hp : cH} {fs fs' : List Value} (k : Nat) : va_up (nwc h0 hp fs k) h0 (some (.inr (6, fs'))) = nwc h0 hp fs' k := by
  funext a
  unfold nwc
  by_cases e : a = h0
  · rw [e]
    simp only [va_up, ↓reduceIte]
  · simp only [va_up, if_neg e]
theorem nwc_0 {h0 : Nat} {hp : cH} {fs : List Value} : va_up hp h0 (some (.inr (6, fs))) = nwc h0 hp fs 0 := by
  funext a
  unfold nwc
  by_cases e : a = h0
  · rw [e]
    simp only [va_up, ↓reduceIte]
  · simp only [va_up, if_neg e]
    rw [if_neg (by omega)]
theorem nwc_h {h0 : Nat} {hp : cH} {fs : List Value} {k : Nat} : nwc h0 hp fs k h0 = some (.inr (6, fs)) := by
  unfold nwc
  rw [if_pos rfl]
theorem r_eqh {K : kT} {hp hp2 : cH} {sz rc rs pc : Nat} {lv : List (Nat × Value)} {st : List Value} (e : hp = hp2) (k : aW K hp2 sz rc rs pc lv st) : aW K hp sz rc rs pc lv st := e ▸ k
theorem nwc_mw {h0 : Nat} {hp : cH} : nwc h0 hp [.int 0, .long 0, .int 0, .ref (h0 + 1), .ref (h0 + 2), .ref (h0 + 3), .int 0, .ref (h0 + 4), .int 0, .ref (h0 + 5), .ref (h0 + 6), .int 0, .ref (h0 + 7), .ref (h0 + 8), .ref (h0 + 9), .ref (h0 + 10), .ref (h0 + 11), .int 0, .int 0, .long 0, .long 0, .long 0] 11 = mw h0 hp 0 0 0 (fun _ => 0) (fun _ => 0) (fun _ => 0) 0 (fun _ => 0) 0 (fun _ => 0) (fun _ => 0) 0 (fun _ => 0) (fun _ => 0) (fun _ => 0) (fun _ => 0) (fun _ => 0) 0 0 0 0 0 := by
  funext a
  rcases io (h0 := h0) (a := a) with q | q
  · rcases (show a = h0 ∨ a = h0 + 1 ∨ a = h0 + 2 ∨ a = h0 + 3 ∨ a = h0 + 4 ∨ a = h0 + 5 ∨ a = h0 + 6 ∨ a = h0 + 7 ∨ a = h0 + 8 ∨ a = h0 + 9 ∨ a = h0 + 10 ∨ a = h0 + 11 by omega) with e | e | e | e | e | e | e | e | e | e | e | e <;> subst e <;> simp [nwc, mw, ary]
  · rw [mw_o q]
    unfold nwc
    rw [if_neg (by omega), if_neg (by omega)]
theorem ok_init6 : mOK yX6_init cX6_init 1 none 0 := ⟨tq3 (List.mem_of_getElem? (i := 162) rfl) rfl, tq1 (List.mem_of_getElem? (i := 8) rfl) rfl, by decide, by decide, by decide +kernel⟩
theorem in_init6 : Cond.instanceMethod yX6_init ∈ lw_w := tq3 (List.mem_of_getElem? (i := 161) rfl) rfl
theorem lk6_1 : Cond.methodLink RX6 1 Lib.objectInit ∈ lw_w := tq3 (List.mem_of_getElem? (i := 163) rfl) rfl
set_option maxHeartbeats 4000000 in
set_option maxRecDepth 100000 in
theorem k_X6_init {G : gT} {h0 : Nat} {hp : cH} {out : Int32 × Int32 × Int64 × Int32 × (Nat → Int64) × Int32 × Int32 × Int32} (h : m_begin 0 0 0 (fun _ => 0) 0 0 0 2 3 = some out) : aM G yX6_init cX6_init 1 none 2 30 11 1439 [.ref h0] (va_up hp h0 (some (.inr (6, [.int 0, .long 0, .int 0, .null, .null, .null, .int 0, .null, .int 0, .null, .null, .int 0, .null, .null, .null, .null, .null, .int 0, .int 0, .long 0, .long 0, .long 0])))) (h0 + 1) ((none, mw h0 hp out.2.1 out.2.2.1 out.2.2.2.1 (fun _ => 0) (fun _ => 0) out.2.2.2.2.1 out.2.2.2.2.2.1 (fun _ => 0) out.2.2.2.2.2.2.1 (fun _ => 0) (fun _ => 0) out.2.2.2.2.2.2.2 (fun _ => 0) (fun _ => 0) (fun _ => 0) (fun _ => 0) (fun _ => 0) 0 0 0 0 0, h0 + 12) : oT) := by
  refine aM.of RX6 (by decide) rfl (Nat.le_of_ble_eq_true rfl) (fun K C => ?_)
  refine r_lve (lv' := [(0, .ref h0)]) rfl ?_
  refine r_eqh nwc_0 ?_
  refine r_aload_n C 0 rfl dX6_init_0 rfl ?_
  refine r_objInit C lk6_1 oi1 oi2 ⟨by decide, by decide⟩ dX6_init_1 ?_
  refine r_aload_n C 0 rfl dX6_init_4 rfl ?_
  refine r_bipush C (v := 60) dX6_init_5 (by decide) ?_
  refine r_newi C (N := 60) (rc' := 10) (rs' := 1379) acI (by decide) (by decide) (by decide) dX6_init_7 rfl rfl ?_
  refine r_eqh (nwc_n 0) ?_
  refine r_putF C (ty := .array .int) tyX6 tyX6_ok nmX6 nwc_h rfl inM6 3 (by decide) fl6_sorts rfl rfl rfl rfl rfl (by simp) dX6_init_9 ?_
  refine r_eqh (nwc_s (fs' := [.int 0, .long 0, .int 0, .ref (h0 + 1), .null, .null, .int 0, .null, .int 0, .null, .null, .int 0, .null, .null, .null, .null, .null, .int 0, .int 0, .long 0, .long 0, .long 0]) 1) ?_
  refine r_aload_n C 0 rfl dX6_init_12 rfl ?_
  refine r_sipush C (v := 960) dX6_init_13 (by decide) ?_
  refine r_newl C (N := 960) (rc' := 9) (rs' := 419) acJ (by decide) (by decide) (by decide) dX6_init_16 rfl rfl ?_
  refine r_eqh (nwc_n 1) ?_
  refine r_putF C (ty := .array .long) tyX6 tyX6_ok nmX6 nwc_h rfl inM6 4 (by decide) fl6_rows rfl rfl rfl rfl rfl (by simp) dX6_init_18 ?_
  refine r_eqh (nwc_s (fs' := [.int 0, .long 0, .int 0, .ref (h0 + 1), .ref (h0 + 2), .null, .int 0, .null, .int 0, .null, .null, .int 0, .null, .null, .null, .null, .null, .int 0, .int 0, .long 0, .long 0, .long 0]) 2) ?_
  refine r_aload_n C 0 rfl dX6_init_21 rfl ?_
  refine r_bipush C (v := 16) dX6_init_22 (by decide) ?_
  refine r_newl C (N := 16) (rc' := 8) (rs' := 403) acJ (by decide) (by decide) (by decide) dX6_init_24 rfl rfl ?_
  refine r_eqh (nwc_n 2) ?_
  refine r_putF C (ty := .array .long) tyX6 tyX6_ok nmX6 nwc_h rfl inM6 5 (by decide) fl6_hand rfl rfl rfl rfl rfl (by simp) dX6_init_26 ?_
  refine r_eqh (nwc_s (fs' := [.int 0, .long 0, .int 0, .ref (h0 + 1), .ref (h0 + 2), .ref (h0 + 3), .int 0, .null, .int 0, .null, .null, .int 0, .null, .null, .null, .null, .null, .int 0, .int 0, .long 0, .long 0, .long 0]) 3) ?_
  refine r_aload_n C 0 rfl dX6_init_29 rfl ?_
  refine r_bipush C (v := 9) dX6_init_30 (by decide) ?_
  refine r_newi C (N := 9) (rc' := 7) (rs' := 394) acI (by decide) (by decide) (by decide) dX6_init_32 rfl rfl ?_
  refine r_eqh (nwc_n 3) ?_
  refine r_putF C (ty := .array .int) tyX6 tyX6_ok nmX6 nwc_h rfl inM6 7 (by decide) fl6_gather rfl rfl rfl rfl rfl (by simp) dX6_init_34 ?_
  refine r_eqh (nwc_s (fs' := [.int 0, .long 0, .int 0, .ref (h0 + 1), .ref (h0 + 2), .ref (h0 + 3), .int 0, .ref (h0 + 4), .int 0, .null, .null, .int 0, .null, .null, .null, .null, .null, .int 0, .int 0, .long 0, .long 0, .long 0]) 4) ?_
  refine r_aload_n C 0 rfl dX6_init_37 rfl ?_
  refine r_iconst C (v := 5) dX6_init_38 (by decide) ?_
  refine r_newi C (N := 5) (rc' := 6) (rs' := 389) acI (by decide) (by decide) (by decide) dX6_init_39 rfl rfl ?_
  refine r_eqh (nwc_n 4) ?_
  refine r_putF C (ty := .array .int) tyX6 tyX6_ok nmX6 nwc_h rfl inM6 9 (by decide) fl6_pairA rfl rfl rfl rfl rfl (by simp) dX6_init_41 ?_
  refine r_eqh (nwc_s (fs' := [.int 0, .long 0, .int 0, .ref (h0 + 1), .ref (h0 + 2), .ref (h0 + 3), .int 0, .ref (h0 + 4), .int 0, .ref (h0 + 5), .null, .int 0, .null, .null, .null, .null, .null, .int 0, .int 0, .long 0, .long 0, .long 0]) 5) ?_
  refine r_aload_n C 0 rfl dX6_init_44 rfl ?_
  refine r_iconst C (v := 5) dX6_init_45 (by decide) ?_
  refine r_newi C (N := 5) (rc' := 5) (rs' := 384) acI (by decide) (by decide) (by decide) dX6_init_46 rfl rfl ?_
  refine r_eqh (nwc_n 5) ?_
  refine r_putF C (ty := .array .int) tyX6 tyX6_ok nmX6 nwc_h rfl inM6 10 (by decide) fl6_pairB rfl rfl rfl rfl rfl (by simp) dX6_init_48 ?_
  refine r_eqh (nwc_s (fs' := [.int 0, .long 0, .int 0, .ref (h0 + 1), .ref (h0 + 2), .ref (h0 + 3), .int 0, .ref (h0 + 4), .int 0, .ref (h0 + 5), .ref (h0 + 6), .int 0, .null, .null, .null, .null, .null, .int 0, .int 0, .long 0, .long 0, .long 0]) 6) ?_
  refine r_aload_n C 0 rfl dX6_init_51 rfl ?_
  refine r_bipush C (v := 16) dX6_init_52 (by decide) ?_
  refine r_newl C (N := 16) (rc' := 4) (rs' := 368) acJ (by decide) (by decide) (by decide) dX6_init_54 rfl rfl ?_
  refine r_eqh (nwc_n 6) ?_
  refine r_putF C (ty := .array .long) tyX6 tyX6_ok nmX6 nwc_h rfl inM6 12 (by decide) fl6_draft rfl rfl rfl rfl rfl (by simp) dX6_init_56 ?_
  refine r_eqh (nwc_s (fs' := [.int 0, .long 0, .int 0, .ref (h0 + 1), .ref (h0 + 2), .ref (h0 + 3), .int 0, .ref (h0 + 4), .int 0, .ref (h0 + 5), .ref (h0 + 6), .int 0, .ref (h0 + 7), .null, .null, .null, .null, .int 0, .int 0, .long 0, .long 0, .long 0]) 7) ?_
  refine r_aload_n C 0 rfl dX6_init_59 rfl ?_
  refine r_sipush C (v := 320) dX6_init_60 (by decide) ?_
  refine r_newl C (N := 320) (rc' := 3) (rs' := 48) acJ (by decide) (by decide) (by decide) dX6_init_63 rfl rfl ?_
  refine r_eqh (nwc_n 7) ?_
  refine r_putF C (ty := .array .long) tyX6 tyX6_ok nmX6 nwc_h rfl inM6 13 (by decide) fl6_frame rfl rfl rfl rfl rfl (by simp) dX6_init_65 ?_
  refine r_eqh (nwc_s (fs' := [.int 0, .long 0, .int 0, .ref (h0 + 1), .ref (h0 + 2), .ref (h0 + 3), .int 0, .ref (h0 + 4), .int 0, .ref (h0 + 5), .ref (h0 + 6), .int 0, .ref (h0 + 7), .ref (h0 + 8), .null, .null, .null, .int 0, .int 0, .long 0, .long 0, .long 0]) 8) ?_
  refine r_aload_n C 0 rfl dX6_init_68 rfl ?_
  refine r_bipush C (v := 16) dX6_init_69 (by decide) ?_
  refine r_newl C (N := 16) (rc' := 2) (rs' := 32) acJ (by decide) (by decide) (by decide) dX6_init_71 rfl rfl ?_
  refine r_eqh (nwc_n 8) ?_
  refine r_putF C (ty := .array .long) tyX6 tyX6_ok nmX6 nwc_h rfl inM6 14 (by decide) fl6_one rfl rfl rfl rfl rfl (by simp) dX6_init_73 ?_
  refine r_eqh (nwc_s (fs' := [.int 0, .long 0, .int 0, .ref (h0 + 1), .ref (h0 + 2), .ref (h0 + 3), .int 0, .ref (h0 + 4), .int 0, .ref (h0 + 5), .ref (h0 + 6), .int 0, .ref (h0 + 7), .ref (h0 + 8), .ref (h0 + 9), .null, .null, .int 0, .int 0, .long 0, .long 0, .long 0]) 9) ?_
  refine r_aload_n C 0 rfl dX6_init_76 rfl ?_
  refine r_bipush C (v := 16) dX6_init_77 (by decide) ?_
  refine r_newl C (N := 16) (rc' := 1) (rs' := 16) acJ (by decide) (by decide) (by decide) dX6_init_79 rfl rfl ?_
  refine r_eqh (nwc_n 9) ?_
  refine r_putF C (ty := .array .long) tyX6 tyX6_ok nmX6 nwc_h rfl inM6 15 (by decide) fl6_two rfl rfl rfl rfl rfl (by simp) dX6_init_81 ?_
  refine r_eqh (nwc_s (fs' := [.int 0, .long 0, .int 0, .ref (h0 + 1), .ref (h0 + 2), .ref (h0 + 3), .int 0, .ref (h0 + 4), .int 0, .ref (h0 + 5), .ref (h0 + 6), .int 0, .ref (h0 + 7), .ref (h0 + 8), .ref (h0 + 9), .ref (h0 + 10), .null, .int 0, .int 0, .long 0, .long 0, .long 0]) 10) ?_
  refine r_aload_n C 0 rfl dX6_init_84 rfl ?_
  refine r_bipush C (v := 16) dX6_init_85 (by decide) ?_
  refine r_newl C (N := 16) (rc' := 0) (rs' := 0) acJ (by decide) (by decide) (by decide) dX6_init_87 rfl rfl ?_
  refine r_eqh (nwc_n 10) ?_
  refine r_putF C (ty := .array .long) tyX6 tyX6_ok nmX6 nwc_h rfl inM6 16 (by decide) fl6_turned rfl rfl rfl rfl rfl (by simp) dX6_init_89 ?_
  refine r_eqh (nwc_s (fs' := [.int 0, .long 0, .int 0, .ref (h0 + 1), .ref (h0 + 2), .ref (h0 + 3), .int 0, .ref (h0 + 4), .int 0, .ref (h0 + 5), .ref (h0 + 6), .int 0, .ref (h0 + 7), .ref (h0 + 8), .ref (h0 + 9), .ref (h0 + 10), .ref (h0 + 11), .int 0, .int 0, .long 0, .long 0, .long 0]) 11) ?_
  refine r_eqh nwc_mw ?_
  refine r_aload_n C 0 rfl dX6_init_92 rfl ?_
  refine r_iconst C (v := 2) dX6_init_93 (by decide) ?_
  refine r_iconst C (v := 3) dX6_init_94 (by decide) ?_
  refine q_callV C 0 0 0 (c_begin h) rfl mw_self rfl ok_begin in_begin lk6_44 rfl (Nat.le_of_ble_eq_true rfl) ⟨Nat.le_of_ble_eq_true rfl, Nat.le_of_ble_eq_true rfl⟩ dX6_init_95 rfl rfl ?_
  refine r_pop C dX6_init_98 rfl ?_
  exact r_return C rfl dX6_init_99
end CTOR6
/-! THE CLASS'S CONSTRUCTOR -/
section CTOR5
theorem nwJ_r (hp : cH) (sz : Nat) {n : Nat} (hn : n ≤ 64) : ∃ hp', nJ hp sz (nI n) = some hp' ∧ hp' sz = some (.inl (1, n, .inr (.inl (fun _ => 0)))) ∧ ∀ b, b ≠ sz → hp' b = hp b := by
  refine ⟨_, ?_, nw_r hp sz _⟩
  unfold nJ
  rw [if_pos ⟨nI_pos (by omega), by rw [nI_clamp (by omega)]; exact hn⟩, nI_clamp (by omega)]
theorem nwI_r (hp : cH) (sz : Nat) {n : Nat} (hn : n ≤ 64) : ∃ hp', nI_ hp sz (nI n) = some hp' ∧ hp' sz = some (.inl (0, n, .inl (fun _ => 0))) ∧ ∀ b, b ≠ sz → hp' b = hp b := by
  refine ⟨_, ?_, nw_r hp sz _⟩
  unfold nI_
  rw [if_pos ⟨nI_pos (by omega), by rw [nI_clamp (by omega)]; exact hn⟩, nI_clamp (by omega)]
theorem nwR_r (kd : Nat) (hp : cH) (sz : Nat) {n : Nat} (hn : n ≤ 64) : ∃ hp', nR kd hp sz (nI n) = some hp' ∧ hp' sz = some (.inl (kd, n, .inr (.inr (.inr (.inr (fun _ => none)))))) ∧ ∀ b, b ≠ sz → hp' b = hp b := by
  refine ⟨_, ?_, nw_r hp sz _⟩
  unfold nR
  rw [if_pos ⟨nI_pos (by omega), by rw [nI_clamp (by omega)]; exact hn⟩, nI_clamp (by omega)]
theorem c_init {hp : cH} {sz o : Nat} (h : hp o = some (.inr (5, [.null, .null, .null, .null, .null, .int 0, .int 0, .null, .null, .null, .int 0, .int 0, .int 0]))) (ho : o < sz) : ∃ (hp' : cH) (sz' : Nat) (ad : Nat → Nat), f_X5_init hp sz o = some (hp', sz') ∧ ∀ im rw S R Gs pA pB, cS 3 2 hp' sz' o ad im rw 0 S R (fun _ => 0) 0 Gs 0 pA pB (-1) := by
  obtain ⟨a1, a2⟩ := nw_r hp sz (.inr (3, [.null, .int 0]))
  generalize a0 : va_up hp sz (some (.inr (3, [.null, .int 0]))) = hp1 at a1 a2
  obtain ⟨hp2, b0, b1, b2⟩ := nwR_r 2 hp1 (sz + 1) (n := 60) (by omega)
  have b0' : nR 2 hp1 (sz + 1) 60 = some hp2 := b0
  obtain ⟨hp3, c0', c1, c2⟩ := pV_r (v := .ref (sz + 1)) (k := 0) (show hp2 sz = some (.inr (3, [.null, .int 0])) by rw [b2 _ (by omega)]; exact a1) (by simp)
  have ini : f_X3_init hp1 (sz + 1) sz = some (hp3, sz + 1 + 1) := by
    unfold f_X3_init
    simp only [↓ob b0', ↓ob c0']
  have o3 : hp3 o = some (.inr (5, [.null, .null, .null, .null, .null, .int 0, .int 0, .null, .null, .null, .int 0, .int 0, .int 0])) := by rw [c2 _ (by omega), b2 _ (by omega), a2 _ (by omega)]; exact h
  obtain ⟨hp4, d0, d1, d2⟩ := pV_r (v := .ref sz) (k := 0) o3 (by simp)
  obtain ⟨hp5, e0, e1, e2⟩ := nwJ_r hp4 (sz + 1 + 1) (n := 16) (by omega)
  have e0' : nJ hp4 (sz + 1 + 1) 16 = some hp5 := e0
  obtain ⟨hp6, f0, f1, f2⟩ := pV_r (v := .ref (sz + 1 + 1)) (k := 1) (show hp5 o = _ by rw [e2 _ (by omega)]; exact d1) (by simp)
  obtain ⟨hp7, g0, g1, g2⟩ := nwI_r hp6 (sz + 1 + 1 + 1) (n := 9) (by omega)
  have g0' : nI_ hp6 (sz + 1 + 1 + 1) 9 = some hp7 := g0
  obtain ⟨hp8, i0, i1, i2⟩ := pV_r (v := .ref (sz + 1 + 1 + 1)) (k := 2) (show hp7 o = _ by rw [g2 _ (by omega)]; exact f1) (by simp)
  obtain ⟨hp9, j0, j1, j2⟩ := nwI_r hp8 (sz + 1 + 1 + 1 + 1) (n := 5) (by omega)
  have j0' : nI_ hp8 (sz + 1 + 1 + 1 + 1) 5 = some hp9 := j0
  obtain ⟨hp10, k0, k1, k2⟩ := pV_r (v := .ref (sz + 1 + 1 + 1 + 1)) (k := 3) (show hp9 o = _ by rw [j2 _ (by omega)]; exact i1) (by simp)
  obtain ⟨hp11, l0, l1, l2⟩ := nwI_r hp10 (sz + 1 + 1 + 1 + 1 + 1) (n := 5) (by omega)
  have l0' : nI_ hp10 (sz + 1 + 1 + 1 + 1 + 1) 5 = some hp11 := l0
  obtain ⟨hp12, m0, m1, m2⟩ := pV_r (v := .ref (sz + 1 + 1 + 1 + 1 + 1)) (k := 4) (show hp11 o = _ by rw [l2 _ (by omega)]; exact k1) (by simp)
  have hz : c0 hp12 (sz + 1 + 1 + 1 + 1 + 1 + 1) o (fun k => if k = 0 then sz else if k = 10 then sz + 1 else if k = 1 then sz + 1 + 1 else if k = 2 then sz + 1 + 1 + 1 else if k = 3 then sz + 1 + 1 + 1 + 1 else sz + 1 + 1 + 1 + 1 + 1) := by
    refine ⟨⟨_, _, _, _, _, _, _, _, m1⟩, by omega, ⟨.int 0, ?_⟩, ?_, ⟨fun _ => none, ?_⟩, ?_, ⟨fun _ => 0, ?_⟩, ?_, ⟨fun _ => 0, ?_⟩, ?_, ⟨fun _ => 0, ?_⟩, ?_, ⟨fun _ => 0, ?_⟩, ?_, ?_⟩
    · show hp12 sz = some (.inr (3, [.ref (sz + 1), .int 0]))
      rw [m2 _ (by omega), l2 _ (by omega), k2 _ (by omega), j2 _ (by omega), i2 _ (by omega), g2 _ (by omega), f2 _ (by omega), e2 _ (by omega), d2 _ (by omega)]
      exact c1
    · show sz < _
      omega
    · show hp12 (sz + 1) = _
      rw [m2 _ (by omega), l2 _ (by omega), k2 _ (by omega), j2 _ (by omega), i2 _ (by omega), g2 _ (by omega), f2 _ (by omega), e2 _ (by omega), d2 _ (by omega), c2 _ (by omega)]
      exact b1
    · show sz + 1 < _
      omega
    · show hp12 (sz + 1 + 1) = _
      rw [m2 _ (by omega), l2 _ (by omega), k2 _ (by omega), j2 _ (by omega), i2 _ (by omega), g2 _ (by omega), f2 _ (by omega)]
      exact e1
    · show sz + 1 + 1 < _
      omega
    · show hp12 (sz + 1 + 1 + 1) = _
      rw [m2 _ (by omega), l2 _ (by omega), k2 _ (by omega), j2 _ (by omega), i2 _ (by omega)]
      exact g1
    · show sz + 1 + 1 + 1 < _
      omega
    · show hp12 (sz + 1 + 1 + 1 + 1) = _
      rw [m2 _ (by omega), l2 _ (by omega), k2 _ (by omega)]
      exact j1
    · show sz + 1 + 1 + 1 + 1 < _
      omega
    · show hp12 (sz + 1 + 1 + 1 + 1 + 1) = _
      rw [m2 _ (by omega)]
      exact l1
    · show sz + 1 + 1 + 1 + 1 + 1 < _
      omega
    · show sz + 1 + 1 + 1 + 1 ≠ sz + 1 + 1 + 1 + 1 + 1
      omega
  haveI : NeZero 3 := ⟨by decide⟩
  obtain ⟨hp', n0, n1, -⟩ := c_anew (P := 3) (d := 2) (by decide) (by decide) (Or.inl rfl) hz
  have n0' : f_X5_startAnew hp12 (sz + 1 + 1 + 1 + 1 + 1 + 1) o 2 3 = some (hp', sz + 1 + 1 + 1 + 1 + 1 + 1 + 1 + 1 + 1) := n0
  have o5 := isO_of m1
  refine ⟨hp', _, _, ?_, n1⟩
  unfold f_X5_init
  simp only [↓Option.bind_some, a0, ↓ob ini, ↓ob d0, ↓ob e0', ↓ob f0, ↓ob g0', ↓ob i0, ↓ob j0', ↓ob k0, ↓ob l0', ↓ob m0, o5, ↓reduceIte, ↓ob n0']
theorem isP3 : isP 3 := by
  refine ⟨by decide, fun d hd => ?_⟩
  have := Nat.le_of_dvd (by decide) hd
  rcases (show d = 0 ∨ d = 1 ∨ d = 2 ∨ d = 3 by omega) with rfl | rfl | rfl | rfl
  · exact absurd hd (by decide)
  · exact Or.inl rfl
  · exact absurd hd (by decide)
  · exact Or.inr rfl
theorem b_init : ∃ hand' : Nat → Int64, m_begin 0 0 0 (fun _ => 0) 0 0 0 2 3 = some (1, nI 2, lN 3, nI 0, hand', nI 0, nI 0, -1) ∧ vo hand' 16 (fun _ => (0 : Fin 3)) := by
  haveI : NeZero 3 := ⟨by decide⟩
  have hp3 : m_isPrime 3 = some 1 := by
    unfold m_isPrime
    rw [if_neg (by decide), if_neg (by decide), itX_stop (r := (1 : Int32)), Option.bind_some, if_pos (Or.inr rfl)]
    unfold m_isPrime_L21
    dsimp only
    rw [if_neg (by decide), if_pos (by decide)]
  have key := loopP (P := 3) (f := m_begin_L53) (d := fun _ => 0) 16 (fun _ => 0) ?_ ?_
  · obtain ⟨hand', k1, k2, -⟩ := key
    have k1' : itX m_begin_L53 (0, fun _ => 0) = some hand' := k1
    refine ⟨hand', ?_, k2⟩
    unfold m_begin
    rw [if_neg (by decide), if_neg (by decide), ob hp3, if_neg (by decide), ob k1']
    rfl
  · intro k d1 hk _
    unfold m_begin_L53
    simp (disch := omega) only [↓Option.bind_some, ↓Option.elim_some, ↓Option.elim_none, Option.bind_some, Option.elim_some, Option.elim_none, Option.some.injEq, Sum.inl.injEq, Sum.inr.injEq, ↓reduceIte, m_side, lit_nI, lz_I, nI_add, pk_mul, pk_sub, nI_ge, nI_le, nI_lt, nI_nlt, gi_t, nI_clamp, nI_eq, pk_rem, Nat.zero_add, Nat.reduceAdd, Nat.reduceMul, Nat.reduceSub, Nat.reduceMod, Nat.reduceEqDiff, reduceCtorEq, Nat.one_ne_zero, Nat.zero_ne_one, lz64 (P := 3)]
  · intro d1
    unfold m_begin_L53
    simp (disch := omega) only [↓Option.bind_some, ↓Option.elim_some, ↓Option.elim_none, Option.bind_some, Option.elim_some, Option.elim_none, Option.some.injEq, Sum.inl.injEq, Sum.inr.injEq, ↓reduceIte, m_side, lit_nI, lz_I, nI_add, pk_mul, pk_sub, nI_ge, nI_le, nI_lt, nI_nlt, gi_t, nI_clamp, nI_eq, pk_rem, Nat.zero_add, Nat.reduceAdd, Nat.reduceMul, Nat.reduceSub, Nat.reduceMod, Nat.reduceEqDiff, reduceCtorEq, Nat.one_ne_zero, Nat.zero_ne_one]
end CTOR5
