section LAWL
variable {G : gT} {p : Program} {e : Env} {s : State} {mi : MethodId} {b : Nat} {bl : List Frame} {mt : Method} {cd : Code} {mn : String} {L : Nat} {xs : Nat → Int32} {o h0 : Nat}
theorem and31 (x : Int32) : ∃ k, k < 32 ∧ x &&& 31 = nI k := by
  refine ⟨(x &&& 31).toBitVec.toNat, ?_, ?_⟩
  · rw [Int32.toBitVec_and, BitVec.toNat_and]
    exact Nat.and_lt_two_pow (n := 5) _ (by decide)
  · apply Int32.toBitVec_inj.mp
    show _ = BitVec.ofNat 32 _
    rw [BitVec.ofNat_toNat, BitVec.setWidth_eq]
/-- from the loop's head to the switch -/
theorem l_head (hx : LX G p e s mi b bl mt cd mn L xs) {i rc rs : Nat} {hp : cH} {sz : Nat} {O : oT} (hi : i + 6 ≤ L) (w : aW (kL G p e s mi b bl mt cd O) hp sz rc rs 33 (lL b o h0 i) [.int (xs i &&& 31)]) : aW (kL G p e s mi b bl mt cd O) hp sz rc rs 18 (lL b o h0 i) [] := by
  obtain ⟨hc, h5, hX, hb, hL⟩ := hx
  have C := hc O
  refine r_iload_n C 3 rfl dL_18 rfl ?_
  refine r_aload_n C 0 rfl dL_19 rfl ?_
  refine r_slen C hX hb dL_20 ?_
  refine r_bipush C (v := 6) dL_21 (by decide) ?_
  refine r_isub C dL_23 ?_
  have e6 : nI L - (6 : Int32) = nI (L - 6) := pk_sub (b := 6) (by omega)
  rw [e6]
  refine r_icmp_gt C (tgt := 1136) dL_24 (by decide) (fun q => absurd q (nI_nlt (by omega) (by omega))) (fun _ => ?_)
  refine r_aload_n C 0 rfl dL_27 rfl ?_
  refine r_iload_n C 3 rfl dL_28 rfl ?_
  refine r_sld C hX hb (gi_nI (show i < L by omega) (by omega)) dL_29 ?_
  rw [nI_clamp (show i < 2 ^ 31 by omega)]
  refine r_bipush C (v := 31) dL_30 (by decide) ?_
  refine r_iand C dL_32 ?_
  exact w
/-- the end of the script -/
theorem l_end (hx : LX G p e s mi b bl mt cd mn L xs) {i rc rs : Nat} {hp : cH} {sz : Nat} (hi : ¬ i + 6 ≤ L) (hi2 : i < 2 ^ 29) : NX G p e s mi b bl mt cd o h0 i rc rs 18 hp sz := by
  obtain ⟨hc, h5, hX, hb, hL⟩ := hx
  have C := hc (some (.int 1), hp, sz)
  refine ⟨(some (.int 1), hp, sz), rfl, ?_⟩
  refine r_iload_n C 3 rfl dL_18 rfl ?_
  refine r_aload_n C 0 rfl dL_19 rfl ?_
  refine r_slen C hX hb dL_20 ?_
  refine r_bipush C (v := 6) dL_21 (by decide) ?_
  refine r_isub C dL_23 ?_
  have hlt : nI L - (6 : Int32) < nI i := by
    have e6 : (nI L - nI 6).toInt = (L : Int) - (6 : Nat) := pk_sub_toInt (by omega) (by omega)
    rw [show (6 : Int32) = nI 6 from rfl, Int32.lt_iff_toInt_lt, e6, nI_toInt (by omega)]
    omega
  refine r_icmp_gt C (tgt := 1136) dL_24 (by decide) (fun _ => ?_) (fun q => absurd hlt q)
  refine r_iconst C (v := 1) dL_1136 (by decide) ?_
  exact r_zreturn C rfl rfl dL_1137
set_option maxHeartbeats 4000000 in
set_option maxRecDepth 100000 in
theorem l_loop (hx : LX G p e s mi b bl mt cd mn L xs) : ∀ (n i : Nat) (hp : cH) (sz rc rs : Nat), L < i + 6 * n + 6 → i + 6 * n < 2 ^ 28 → 115 * n ≤ rc → 7360 * n ≤ rs → IV h0 o hp sz → NX G p e s mi b bl mt cd o h0 i rc rs 18 hp sz := by
  intro n
  induction n with
  | zero =>
    intro i hp sz rc rs h1 h2 h3 h4 hV
    exact l_end hx (by omega) (by omega)
  | succ n ih =>
    intro i hp sz rc rs h1 h2 h3 h4 hV
    by_cases hi : i + 6 ≤ L
    · have kk : ∀ hp2 sz2, IV h0 o hp2 sz2 → NX G p e s mi b bl mt cd o h0 i (rc - 115) (rs - 7360) 1130 hp2 sz2 := by
        intro hp2 sz2 hv
        obtain ⟨O, hO, w⟩ := ih (i + 6) hp2 sz2 (rc - 115) (rs - 7360) (by omega) (by omega) (by omega) (by omega) hv
        refine ⟨O, hO, ?_⟩
        have C := hx.1 O
        refine r_iinc C (v := nI (i + 6)) 3 rfl dL_1130 (nI_add i 6) (by decide) rfl ?_
        refine r_goto C (tgt := 18) dL_1133 (by decide) ?_
        exact r_lv [1, 2, 3, 0] rfl w
      have hrc : 115 ≤ rc := by omega
      have hrs : 7360 ≤ rs := by omega
      obtain ⟨k, hk, ek⟩ := and31 (xs i)
      rcases (show k = 0 ∨ k = 1 ∨ k = 2 ∨ k = 3 ∨ k = 4 ∨ k = 5 ∨ k = 6 ∨ k = 7 ∨ k = 8 ∨ k = 9 ∨ k = 10 ∨ k = 11 ∨ k = 12 ∨ k = 13 ∨ k = 14 ∨ k = 15 ∨ k = 16 ∨ k = 17 ∨ k = 18 ∨ k = 19 ∨ k = 20 ∨ k = 21 ∨ k = 22 ∨ k = 23 ∨ k = 24 ∨ k = 25 ∨ k = 26 ∨ k = 27 ∨ k = 28 ∨ k = 29 ∨ k = 30 ∨ k = 31 by omega) with rfl | rfl | rfl | rfl | rfl | rfl | rfl | rfl | rfl | rfl | rfl | rfl | rfl | rfl | rfl | rfl | rfl | rfl | rfl | rfl | rfl | rfl | rfl | rfl | rfl | rfl | rfl | rfl | rfl | rfl | rfl | rfl
      · obtain ⟨O, hO, w⟩ := lcall_begin hx hi hrc hrs hV kk
        exact ⟨O, hO, l_head hx hi (r_tabIn (hx.1 O) (0 : Int32) ek dL_33 (by decide) (by decide) rfl (by decide) w)⟩
      · obtain ⟨O, hO, w⟩ := lcall_put hx hi hrc hrs hV kk
        exact ⟨O, hO, l_head hx hi (r_tabIn (hx.1 O) (1 : Int32) ek dL_33 (by decide) (by decide) rfl (by decide) w)⟩
      · obtain ⟨O, hO, w⟩ := lcall_make hx hi hrc hrs hV kk
        exact ⟨O, hO, l_head hx hi (r_tabIn (hx.1 O) (2 : Int32) ek dL_33 (by decide) (by decide) rfl (by decide) w)⟩
      · obtain ⟨O, hO, w⟩ := lcall_number hx hi hrc hrs hV kk
        exact ⟨O, hO, l_head hx hi (r_tabIn (hx.1 O) (3 : Int32) ek dL_33 (by decide) (by decide) rfl (by decide) w)⟩
      · obtain ⟨O, hO, w⟩ := lcall_sort hx hi hrc hrs hV kk
        exact ⟨O, hO, l_head hx hi (r_tabIn (hx.1 O) (4 : Int32) ek dL_33 (by decide) (by decide) rfl (by decide) w)⟩
      · obtain ⟨O, hO, w⟩ := lcall_join hx hi hrc hrs hV kk
        exact ⟨O, hO, l_head hx hi (r_tabIn (hx.1 O) (5 : Int32) ek dL_33 (by decide) (by decide) rfl (by decide) w)⟩
      · obtain ⟨O, hO, w⟩ := lcall_meet hx hi hrc hrs hV kk
        exact ⟨O, hO, l_head hx hi (r_tabIn (hx.1 O) (6 : Int32) ek dL_33 (by decide) (by decide) rfl (by decide) w)⟩
      · obtain ⟨O, hO, w⟩ := lcall_on hx hi hrc hrs hV kk
        exact ⟨O, hO, l_head hx hi (r_tabIn (hx.1 O) (7 : Int32) ek dL_33 (by decide) (by decide) rfl (by decide) w)⟩
      · obtain ⟨O, hO, w⟩ := lcall_cross hx hi hrc hrs hV kk
        exact ⟨O, hO, l_head hx hi (r_tabIn (hx.1 O) (8 : Int32) ek dL_33 (by decide) (by decide) rfl (by decide) w)⟩
      · obtain ⟨O, hO, w⟩ := lcall_fourth hx hi hrc hrs hV kk
        exact ⟨O, hO, l_head hx hi (r_tabIn (hx.1 O) (9 : Int32) ek dL_33 (by decide) (by decide) rfl (by decide) w)⟩
      · obtain ⟨O, hO, w⟩ := lcall_pair hx hi hrc hrs hV kk
        exact ⟨O, hO, l_head hx hi (r_tabIn (hx.1 O) (10 : Int32) ek dL_33 (by decide) (by decide) rfl (by decide) w)⟩
      · obtain ⟨O, hO, w⟩ := lcall_map hx hi hrc hrs hV kk
        exact ⟨O, hO, l_head hx hi (r_tabIn (hx.1 O) (11 : Int32) ek dL_33 (by decide) (by decide) rfl (by decide) w)⟩
      · obtain ⟨O, hO, w⟩ := lcall_apply hx hi hrc hrs hV kk
        exact ⟨O, hO, l_head hx hi (r_tabIn (hx.1 O) (12 : Int32) ek dL_33 (by decide) (by decide) rfl (by decide) w)⟩
      · obtain ⟨O, hO, w⟩ := lcall_compose hx hi hrc hrs hV kk
        exact ⟨O, hO, l_head hx hi (r_tabIn (hx.1 O) (13 : Int32) ek dL_33 (by decide) (by decide) rfl (by decide) w)⟩
      · obtain ⟨O, hO, w⟩ := lcall_inverse hx hi hrc hrs hV kk
        exact ⟨O, hO, l_head hx hi (r_tabIn (hx.1 O) (14 : Int32) ek dL_33 (by decide) (by decide) rfl (by decide) w)⟩
      · obtain ⟨O, hO, w⟩ := lcall_order hx hi hrc hrs hV kk
        exact ⟨O, hO, l_head hx hi (r_tabIn (hx.1 O) (15 : Int32) ek dL_33 (by decide) (by decide) rfl (by decide) w)⟩
      · obtain ⟨O, hO, w⟩ := lcall_gather hx hi hrc hrs hV kk
        exact ⟨O, hO, l_head hx hi (r_tabIn (hx.1 O) (16 : Int32) ek dL_33 (by decide) (by decide) rfl (by decide) w)⟩
      · obtain ⟨O, hO, w⟩ := lcall_forget hx hi hrc hrs hV kk
        exact ⟨O, hO, l_head hx hi (r_tabIn (hx.1 O) (17 : Int32) ek dL_33 (by decide) (by decide) rfl (by decide) w)⟩
      · obtain ⟨O, hO, w⟩ := lcall_quadric hx hi hrc hrs hV kk
        exact ⟨O, hO, l_head hx hi (r_tabIn (hx.1 O) (18 : Int32) ek dL_33 (by decide) (by decide) rfl (by decide) w)⟩
      · obtain ⟨O, hO, w⟩ := lcall_rank hx hi hrc hrs hV kk
        exact ⟨O, hO, l_head hx hi (r_tabIn (hx.1 O) (19 : Int32) ek dL_33 (by decide) (by decide) rfl (by decide) w)⟩
      · obtain ⟨O, hO, w⟩ := lcall_polar hx hi hrc hrs hV kk
        exact ⟨O, hO, l_head hx hi (r_tabIn (hx.1 O) (20 : Int32) ek dL_33 (by decide) (by decide) rfl (by decide) w)⟩
      · obtain ⟨O, hO, w⟩ := lcall_touches hx hi hrc hrs hV kk
        exact ⟨O, hO, l_head hx hi (r_tabIn (hx.1 O) (21 : Int32) ek dL_33 (by decide) (by decide) rfl (by decide) w)⟩
      · obtain ⟨O, hO, w⟩ := lcall_common hx hi hrc hrs hV kk
        exact ⟨O, hO, l_head hx hi (r_tabIn (hx.1 O) (22 : Int32) ek dL_33 (by decide) (by decide) rfl (by decide) w)⟩
      · obtain ⟨O, hO, w⟩ := lcall_root hx hi hrc hrs hV kk
        exact ⟨O, hO, l_head hx hi (r_tabIn (hx.1 O) (23 : Int32) ek dL_33 (by decide) (by decide) rfl (by decide) w)⟩
      · obtain ⟨O, hO, w⟩ := lcall_dual hx hi hrc hrs hV kk
        exact ⟨O, hO, l_head hx hi (r_tabIn (hx.1 O) (24 : Int32) ek dL_33 (by decide) (by decide) rfl (by decide) w)⟩
      · obtain ⟨O, hO, w⟩ := lcall_ideal hx hi hrc hrs hV kk
        exact ⟨O, hO, l_head hx hi (r_tabIn (hx.1 O) (25 : Int32) ek dL_33 (by decide) (by decide) rfl (by decide) w)⟩
      · obtain ⟨O, hO, w⟩ := lcall_parallel hx hi hrc hrs hV kk
        exact ⟨O, hO, l_head hx hi (r_tabIn (hx.1 O) (26 : Int32) ek dL_33 (by decide) (by decide) rfl (by decide) w)⟩
      · obtain ⟨O, hO, w⟩ := lcall_middle hx hi hrc hrs hV kk
        exact ⟨O, hO, l_head hx hi (r_tabIn (hx.1 O) (27 : Int32) ek dL_33 (by decide) (by decide) rfl (by decide) w)⟩
      · obtain ⟨O, hO, w⟩ := lcall_holds hx hi hrc hrs hV kk
        exact ⟨O, hO, l_head hx hi (r_tabIn (hx.1 O) (28 : Int32) ek dL_33 (by decide) (by decide) rfl (by decide) w)⟩
      · obtain ⟨O, hO, w⟩ := lcall_told hx hi hrc hrs hV kk
        exact ⟨O, hO, l_head hx hi (r_tabIn (hx.1 O) (29 : Int32) ek dL_33 (by decide) (by decide) rfl (by decide) w)⟩
      · obtain ⟨O, hO, w⟩ := kk hp sz hV
        refine ⟨O, hO, l_head hx hi ?_⟩
        rw [ek]
        exact r_tabOut (hx.1 O) (tgt := 1130) dL_33 (Or.inr (by decide)) (by decide) (r_rc (by omega) (by omega) w)
      · obtain ⟨O, hO, w⟩ := kk hp sz hV
        refine ⟨O, hO, l_head hx hi ?_⟩
        rw [ek]
        exact r_tabOut (hx.1 O) (tgt := 1130) dL_33 (Or.inr (by decide)) (by decide) (r_rc (by omega) (by omega) w)
    · exact l_end hx hi (by omega)
end LAWL
