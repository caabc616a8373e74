theorem t_nest : wNest ∈ lw_tbl := List.mem_append_right _ (List.mem_append_left _ (List.mem_of_getElem? (i := 21) rfl))
theorem t_ao : Cond.arrayOver (.object "ProjectiveRows$Item") ∈ lw_tbl := List.mem_append_right _ (List.mem_append_left _ (List.mem_of_getElem? (i := 26) rfl))
theorem t_aa : Cond.arrayOver (.array .long) ∈ lw_tbl := List.mem_append_right _ (List.mem_append_left _ (List.mem_of_getElem? (i := 213) rfl))
theorem t_cast : Cond.castable "[J" "java/lang/Cloneable" ∈ lw_tbl := List.mem_append_right _ (List.mem_append_left _ (List.mem_of_getElem? (i := 168) rfl))
theorem t_tri : Cond.laysStatic "ProjectiveRows" "SIDES_OF_TRIANGLES" "[I" ∈ lw_tbl := List.mem_append_right _ (List.mem_append_right _ (List.mem_append_right _ (List.mem_append_left _ (List.mem_of_getElem? (i := 151) rfl))))
theorem t_hex : Cond.laysStatic "ProjectiveRows" "SIDES_OF_HEXAGON" "[I" ∈ lw_tbl := List.mem_append_right _ (List.mem_append_right _ (List.mem_append_right _ (List.mem_append_left _ (List.mem_of_getElem? (i := 153) rfl))))
theorem icX6 : Cond.instantiable RX6 22 ∈ lw_w := tq3 (List.mem_of_getElem? (i := 159) rfl) rfl
theorem iiX6 : Cond.initialized RX6 ∈ lw_w := tq1 (List.mem_of_getElem? (i := 8) rfl) rfl
theorem dfX6 : ∀ j, j < 22 → defaultValue (tyX6 j) = vp_V [.int 0, .long 0, .int 0, .null, .null, .null, .int 0, .null, .int 0, .null, .null, .int 0, .null, .null, .null, .null, .null, .int 0, .int 0, .long 0, .long 0, .long 0] j := by
  intro j hj
  rcases (show j = 0 ∨ j = 1 ∨ j = 2 ∨ j = 3 ∨ j = 4 ∨ j = 5 ∨ j = 6 ∨ j = 7 ∨ j = 8 ∨ j = 9 ∨ j = 10 ∨ j = 11 ∨ j = 12 ∨ j = 13 ∨ j = 14 ∨ j = 15 ∨ j = 16 ∨ j = 17 ∨ j = 18 ∨ j = 19 ∨ j = 20 ∨ j = 21 by omega) with rfl | rfl | rfl | rfl | rfl | rfl | rfl | rfl | rfl | rfl | rfl | rfl | rfl | rfl | rfl | rfl | rfl | rfl | rfl | rfl | rfl | rfl <;> rfl
theorem clL_7 : Cond.classLink RL 7 RX5 ∈ lw_w := tq1 (List.mem_of_getElem? (i := 11) rfl) rfl
theorem clL_10 : Cond.classLink RL 10 RX6 ∈ lw_w := tq3 (List.mem_of_getElem? (i := 158) rfl) rfl
/-! THE CLAIM OUT OF ONE WALK OF THE LAW'S BODY. Your part is whole_start (and what it stands on); all else here is the same for every law, but numbers. -/
def R_law : String := "ProjectiveRowsLaw"
def lw_P (b : Addr) (xs : List Int32) (args : Array Value) (s : State) : Prop := args = #[.ref b] ∧ s.IntsAt b xs ∧ xs.length ≤ 3072 ∧ (Jvm.Cond.and given_1 narrow_1).before args s = true
def lw_Q (_ : Array Value) (s : State) (o : Outcome) (t : State) : Prop := o = .returned (some (.int 1)) ∧ Framed s o t [] 600000 7302250
def lw_Z (below : List Frame) (a : Array Value) (s : State) : State → Prop := fun t => ∃ o, t.status = .running ∧ Ended t below o ∧ lw_Q a s o t
/-- the law's own end, with 1 on the stack, nothing written that was there before, its room as the claim has it -/
theorem lw_ret {p : Program} {l : Launch} {e : Env} {s : State} {m : MethodId} {below : List Frame} {meth : Method} {c : Code} {b : Nat} (hx : p.tables.exec = Jvm.exec) (hb : c.code = code) (hr : meth.sig.returnType = ret) (hlocks : meth.locks = false) {pc : Nat} {H : Heap} {ls : Array Slot} (hdg : decode code pc = .ok (.ireturn, 1)) : W p l e room_1 s m #[Value.ref b] below meth c H [] 600000 7302250 (lw_Z below #[Value.ref b] s) (F0 m pc ls [.int 1]) := by
  intro T hT X
  obtain ⟨fs, hret, hrun, hended, hW, hframe⟩ := X.leave (v := some (.int 1)) (hlocks := hlocks) (fun h => by rw [hr] at h; cases h)
  have hmeth' : T.vm.method? m = some meth := X.method'
  refine ⟨T.setFrames fs, ?_, .returned (some (.int 1)), hrun, hended, rfl, ⟨_, rfl⟩, hW, hframe⟩
  jvm_step X.here [X.here.top, hx, hb, hdg, hmeth', hr, ret, narrow_b1]
  (try refine ⟨rfl, ?_⟩); (try refine ⟨rfl, ?_⟩)
  first | (intro acts; rw [hret _ acts rfl rfl rfl]) | rw [hret _ _ rfl rfl rfl]
  exact Steps.refl _
/-- what holds at the law's entry: the machine, the code, the tables' words (any of lw_tbl by 'hts w (by decide +kernel)'), the script of L ints xs at the cell b, what the Statement gives of the start (any of its parts by flat_of_before) -/
def lw_At (p : Program) (s : State) (m : MethodId) (meth : Method) (c : Code) (b L : Nat) (xs : Nat → Int32) : Prop :=
  p.tables.exec = Jvm.exec ∧ c.code = code ∧ meth.sig.returnType = ret ∧ c.maxLocals = 4 ∧ s.vm.findClass R_law = some m.cls ∧ (∀ w ∈ lw_tbl, w.before #[Value.ref b] s = true) ∧ va_X b L xs s s.heap ∧ b < s.heap.size ∧ meth.locks = false ∧ (Jvm.Cond.and given_1 narrow_1).before #[Value.ref b] s = true
/-- a static table of the class -/
theorem g_tab {s : State} {args : Array Value} {G : gT} (hG : G.2.1 = s) {n : String} {f : Nat → Int32} (hl : (Cond.laysStatic "ProjectiveRows" n "[I").before args s = true) (hini : (Cond.initialized "ProjectiveRows").before args s = true) (harr : (Cond.arrayOf (.static "ProjectiveRows" n "[I") .int).before args s = true) (hlen : (Cond.eq (.length (.static "ProjectiveRows" n "[I")) (.int 12)).before args s = true) (hel : ∀ j : Nat, j < 12 → (Cond.eq (.elem (.static "ProjectiveRows" n "[I") (.int (Int32.ofNat j))) (.int (f j))).before args s = true) : ∃ t, va_Z "ProjectiveRows" n "[I" (.ref t) (fun q => gB G ≤ q) G.2.1 G.2.1.heap ∧ va_T .int t 12 (fun j => .int (f j)) (fun q => gB G ≤ q) G.2.1 G.2.1.heap := by
  have hA : ∀ a : Nat, a < s.heap.size → ¬ (fun q => gB G ≤ q) a := fun a ha => by
    show ¬ gB G ≤ a
    unfold gB
    rw [hG]
    omega
  obtain ⟨t, h1, h2⟩ := va_Tof (f := fun j => .int (f j)) (N := 12) (by decide) harr (va_eqt hlen) (fun j hj => va_eqt (hel j hj)) hA
  rw [hG]
  exact ⟨t, va_Zref hl hini h1 hA, h2⟩

set_option maxHeartbeats 4000000 in
set_option maxRecDepth 100000 in
/-- what holds at the law's start -/
theorem g_start {p : Program} {s : State} {m : MethodId} {meth : Method} {c : Code} (l : Launch) {b L : Nat} {xs : Nat → Int32} (C0 : lw_At p s m meth c b L xs) : ∃ G : gT, G.1 = l ∧ G.2.1 = s ∧ gA G 5 = gA G 1 ∧ aK G s := by
  obtain ⟨hx, hb, hr, hml, hown, hts, hX, hbl, hlocks, hgv⟩ := id C0
  have hs := flat_of_before _ hgv
  have ht : ∀ w ∈ lw_w, w.before #[Value.ref b] s = true := fun w hw => hts w (lw_w_in hw)
  obtain ⟨c0, i0, hn0⟩ := u_known (C := RX0) (T := TX0) (N := 1) (n := 1) ht inX0_ (ht _ icX0)
  obtain ⟨c1, i1, hn1⟩ := u_known (C := RX1) (T := TX1) (N := 2) (n := 2) ht inX1_ (ht _ icX1)
  obtain ⟨c2, i2, hn2⟩ := u_known (C := RX2) (T := TX2) (N := 2) (n := 2) ht inX2_ (ht _ icX2)
  obtain ⟨c3, i3, hn3⟩ := u_known (C := RX3) (T := TX3) (N := 2) (n := 2) ht inX3_ (ht _ icX3)
  obtain ⟨c4, i4, hn4⟩ := u_known (C := RX4) (T := TX4) (N := 3) (n := 3) ht inX4_ (ht _ icX4)
  obtain ⟨c5, i5, hn5⟩ := u_known (C := RX5) (T := TX5) (N := 13) (n := 13) ht inX5_ (ht _ icX5)
  obtain ⟨c6, i6, hn6⟩ := u_known (C := RX6) (T := TX6) (N := 22) (n := 22) ht inM6 (ht _ icX6)
  obtain ⟨cI, kI, pI, a1, a2, a3⟩ := Cond.arrayClass_spec (ht _ acI)
  obtain ⟨cJ, kJ, pJ, b1, b2, b3⟩ := Cond.arrayClass_spec (ht _ acJ)
  obtain ⟨pO, cO, kO, d1, d2, d3, d4, d5⟩ := Cond.arrayOver_spec (hts _ t_ao)
  obtain ⟨pA, cA, kA, e1, e2, e3, e4, e5⟩ := arrayOverA_spec (hts _ t_aa)
  refine ⟨(l, s, (fun k => if k = 0 then c0 else if k = 1 then c1 else if k = 2 then c2 else if k = 3 then c3 else if k = 4 then c4 else if k = 5 then c5 else c6), (fun k => if k = 0 then i0 else if k = 1 then i1 else if k = 2 then i2 else if k = 3 then i3 else if k = 4 then i4 else if k = 5 then i5 else i6), (fun k => if k = 0 then cI else if k = 1 then cJ else if k = 2 then cO else if k = 3 then cA else cJ)), rfl, rfl, rfl, ⟨fun k q hq => ?_, fun k q hq => ?_⟩, Vm.Alike.refl s.vm, ⟨va_AO.of (hts _ t_ao), aoA_moved (Vm.Alike.refl s.vm) (hts _ t_aa), va_Nw.of rfl (hts _ t_cast), ?_, ?_⟩, va_Nw.of rfl (hts _ t_nest)⟩
  · match k, hq with
    | 0, hq => cases hq; exact hn0
    | 1, hq => cases hq; exact hn1
    | 2, hq => cases hq; exact hn2
    | 3, hq => cases hq; exact hn3
    | 4, hq => cases hq; exact hn4
    | 5, hq => cases hq; exact hn5
    | 6, hq => cases hq; exact hn6
    | k + 7, hq => simp [vwCl] at hq
  · match k, hq with
    | 0, hq => cases hq; exact ⟨fun n z => ⟨fun k h => (by cases h), kI, a2, pI, a3⟩, a1⟩
    | 1, hq => cases hq; exact ⟨fun n z => ⟨fun k h => (by cases h), kJ, b2, pJ, b3⟩, b1⟩
    | 2, hq => cases hq; exact ⟨fun n z => ⟨fun k h => (by cases h), kO, d3, pO, d4⟩, ⟨kO, pO, d3, d4, d1, d5⟩⟩
    | 3, hq => cases hq; exact ⟨fun n z => ⟨fun k h => (by cases h), kA, e3, pA, e4⟩, e5⟩
    | k + 4, hq => simp [aTy] at hq
  · refine g_tab (s := s) (args := #[Value.ref b]) (f := sTri) rfl (hts _ t_tri) (ht _ iiX5) (hs _ (by decide +kernel)) (hs _ (by decide +kernel)) (fun j hj => ?_)
    rcases (show j = 0 ∨ j = 1 ∨ j = 2 ∨ j = 3 ∨ j = 4 ∨ j = 5 ∨ j = 6 ∨ j = 7 ∨ j = 8 ∨ j = 9 ∨ j = 10 ∨ j = 11 by omega) with rfl | rfl | rfl | rfl | rfl | rfl | rfl | rfl | rfl | rfl | rfl | rfl
    · exact hs _ (by decide +kernel)
    · exact hs _ (by decide +kernel)
    · exact hs _ (by decide +kernel)
    · exact hs _ (by decide +kernel)
    · exact hs _ (by decide +kernel)
    · exact hs _ (by decide +kernel)
    · exact hs _ (by decide +kernel)
    · exact hs _ (by decide +kernel)
    · exact hs _ (by decide +kernel)
    · exact hs _ (by decide +kernel)
    · exact hs _ (by decide +kernel)
    · exact hs _ (by decide +kernel)
  · refine g_tab (s := s) (args := #[Value.ref b]) (f := sHex) rfl (hts _ t_hex) (ht _ iiX5) (hs _ (by decide +kernel)) (hs _ (by decide +kernel)) (fun j hj => ?_)
    rcases (show j = 0 ∨ j = 1 ∨ j = 2 ∨ j = 3 ∨ j = 4 ∨ j = 5 ∨ j = 6 ∨ j = 7 ∨ j = 8 ∨ j = 9 ∨ j = 10 ∨ j = 11 by omega) with rfl | rfl | rfl | rfl | rfl | rfl | rfl | rfl | rfl | rfl | rfl | rfl
    · exact hs _ (by decide +kernel)
    · exact hs _ (by decide +kernel)
    · exact hs _ (by decide +kernel)
    · exact hs _ (by decide +kernel)
    · exact hs _ (by decide +kernel)
    · exact hs _ (by decide +kernel)
    · exact hs _ (by decide +kernel)
    · exact hs _ (by decide +kernel)
    · exact hs _ (by decide +kernel)
    · exact hs _ (by decide +kernel)
    · exact hs _ (by decide +kernel)
    · exact hs _ (by decide +kernel)
set_option maxHeartbeats 4000000 in
set_option maxRecDepth 100000 in
theorem whole_start {p : Program} {e : Env} {s : State} {m : MethodId} {below : List Frame} {meth : Method} {c : Code} (l : Launch) {b L : Nat} {xs : Nat → Int32} (hL : L ≤ 3072) (C0 : lw_At p s m meth c b L xs) : W p l e room_1 s m #[Value.ref b] below meth c s.heap [] 0 0 (lw_Z below #[Value.ref b] s) (entryFrame m ([Value.ref b] : List Value).toArray 4) := by
  obtain ⟨G, hG1, hG2, h5, hK⟩ := g_start l C0
  obtain ⟨hx, hb, hr, hml, hown, hts, hX, hbl, hlocks, hgv⟩ := id C0
  subst hG1
  have hgB : gB G = s.heap.size := by unfold gB; rw [hG2]
  have LXh : LX G p e s m b below meth c meth.name L xs := by
    refine ⟨fun O => ⟨hx, hb, hml, hown, fun w hw => hts w (lw_w_in hw), hK, hr, hlocks, rfl, rfl, rfl, rfl⟩, h5, ?_, by rw [hgB]; exact hbl, hL⟩
    rw [hG2]
    exact hX
  have hl := lv_entry ([.ref b] : List Value) (n := 4) (Nat.le_of_ble_eq_true rfl)
  rw [lg_entry_eq]
  -- the class's object
  obtain ⟨hp1, sz1, ad, y1, y2⟩ := c_init (hp := va_up (fun _ => none) s.heap.size (some (.inr (5, [.null, .null, .null, .null, .null, .int 0, .int 0, .null, .null, .null, .int 0, .int 0, .int 0])))) (sz := s.heap.size + 1) (o := s.heap.size) (by simp [va_up]) (by omega)
  have hC := y2 (fun _ => 0) (fun _ => 0) (fun _ => 0) (fun _ _ => 0) (fun _ => 0) (fun _ => 0) (fun _ => 0)
  obtain ⟨hand', z1, z2⟩ := b_init
  -- both
  have hIV : IV sz1 s.heap.size (z5 sz1 (mw sz1 (z5 sz1 (mw sz1 hp1 (nI 2) (lN 3) (nI 0) (fun _ => 0) (fun _ => 0) hand' (nI 0) (fun _ => 0) (nI 0) (fun _ => 0) (fun _ => 0) (-1) (fun _ => 0) (fun _ => 0) (fun _ => 0) (fun _ => 0) (fun _ => 0) 0 0 0 0 0)) (nI 2) (lN 3) (nI 0) (fun _ => 0) (fun _ => 0) hand' (nI 0) (fun _ => 0) (nI 0) (fun _ => 0) (fun _ => 0) (-1) (fun _ => 0) (fun _ => 0) (fun _ => 0) (fun _ => 0) (fun _ => 0) 0 0 0 0 0)) (sz1 + 12) := by
    haveI : NeZero 3 := ⟨by decide⟩
    have hg : gro hp1 sz1 (z5 sz1 (mw sz1 hp1 (nI 2) (lN 3) (nI 0) (fun _ => 0) (fun _ => 0) hand' (nI 0) (fun _ => 0) (nI 0) (fun _ => 0) (fun _ => 0) (-1) (fun _ => 0) (fun _ => 0) (fun _ => 0) (fun _ => 0) (fun _ => 0) 0 0 0 0 0)) (sz1 + 12) := ⟨fun q hq => zw_o (Or.inl (Nat.not_le.mp hq)), by omega⟩
    have hC0 := hC
    obtain ⟨⟨-, k1⟩, ⟨-, k2⟩, ⟨-, k3⟩, -, k5, ⟨⟨-, k6⟩, ⟨-, k7⟩, ⟨-, k8⟩, -⟩, -⟩ := hC0
    have z : ∀ {q : Nat → Prop}, ∀ k, k < 0 → q k := fun k hk => absurd hk (Nat.not_lt_zero k)
    exact IV.mk isP3 (by decide) (by decide) ⟨fun a ha => absurd ha (Nat.not_lt_zero a), fun a _ ha => absurd ha (Nat.not_lt_zero a)⟩ (hC.gg hg) (fun k hk => absurd hk (Nat.not_lt_zero k)) ⟨Nat.zero_le 60, fun a _ ha => absurd ha (Nat.not_lt_zero a)⟩ z2 (fun k hk => absurd hk (Nat.not_lt_zero k)) (fun k hk => absurd hk (Nat.not_lt_zero k)) (fun k hk => absurd hk (Nat.not_lt_zero k)) (fun k hk => absurd hk (Nat.not_lt_zero k)) (fun k hk => absurd hk (Nat.not_lt_zero k)) (fun k hk => absurd hk (Nat.not_lt_zero k)) (Nat.zero_le _) (Or.inl rfl) ⟨k1, k2, k5.2, k6, k7, k8, k3⟩ (Nat.le_refl _) rng_mw _ _ _ _ _ _ _ _ _ _
  obtain ⟨O, hO, w⟩ := l_loop LXh 512 0 _ _ 599978 7300200 (by omega) (by decide) (by decide) (by decide) hIV
  have C := LXh.1 O
  have key : aW (kL G p e s m b below meth c O) (fun _ => none) s.heap.size 600000 7302250 0 [(0, .ref b)] [] := by
    refine r_new C (ci := 5) (rc' := 599999) (rs' := 7302237) tyX5 tyX5_ok rfl inX5_ clL_7 icX5 iiX5 dfX5 dL_0 rfl rfl ?_
    refine r_dup C dL_3 rfl ?_
    refine q_callI C 1 599990 7301661 (k_X5_init y1) rfl okX5_init rfl inX5_init lkL_9 rfl (Nat.le_of_ble_eq_true rfl) ⟨Nat.le_of_ble_eq_true rfl, Nat.le_of_ble_eq_true rfl⟩ dL_4 rfl rfl ?_
    refine r_astore_n C dL_7 rfl (by decide) rfl ?_
    refine r_new C (ci := 6) (rc' := 599989) (rs' := 7301639) tyX6 tyX6_ok rfl inM6 clL_10 icX6 iiX6 dfX6 dL_8 rfl rfl ?_
    refine r_dup C dL_11 rfl ?_
    refine q_callI C 1 599978 7300200 (k_X6_init z1) rfl ok_init6 rfl in_init6 lkL_12 rfl (Nat.le_of_ble_eq_true rfl) ⟨Nat.le_of_ble_eq_true rfl, Nat.le_of_ble_eq_true rfl⟩ dL_12 rfl rfl ?_
    refine r_astore_n C dL_15 rfl (by decide) rfl ?_
    refine r_iconst C (v := nI 0) dL_16 (by decide) ?_
    refine r_istore_n C dL_17 rfl (by decide) rfl ?_
    refine r_lv [3, 2, 1, 0] rfl ?_
    refine r_cv (fun a v hv => ?_) w
    rcases io (h0 := sz1) (a := a) with q | q
    · rw [z5_in q.1 q.2, mw_i (hp' := hp1) q.1 q.2] at hv
      exact to5_E h5 hv
    · rw [zw_o q, zw_o q] at hv
      refine ⟨v, ?_, rfl⟩
      rw [mw_o q]
      exact hv
  have hW := key s.heap [] 0 0 _ ⟨rfl, by rw [hgB]; exact Nat.le_refl _, fun q _ => by rw [hG2], fun a v hv => by cases hv⟩ (fun _ h => by cases h) hl (Nat.le_refl _) (Nat.le_refl _)
  intro T hT X
  obtain ⟨t, st, o, r1, r2, ⟨r3, -⟩, Lc, r4, r5⟩ := hW T hT X
  refine ⟨t, st, o, r1, r2, ?_, r4.1, r4.2.1, r4.2.2.weaken (fun y hy hlt => absurd hlt (Nat.not_lt.mpr ?_)) (Nat.le_refl _) (Nat.le_refl _)⟩
  · rw [r3, hO]
  · have := r5 y hy
    rw [hgB] at this
    exact this

set_option maxHeartbeats 4000000 in
theorem lw_walk (l : Launch) (b : Addr) (xs : List Int32) : MetFree l x (headSpec (Jvm.Cond.code x code maxLocals ret :: tables_1) room_1) (lw_P b xs) (fun _ _ _ _ _ => True) lw_Q := by
  refine MetFree.of_bodyS (code := code) (maxLocals := maxLocals) (ret := ret) (by decide) ?_ ?_
  · intro args s m h hn
    obtain ⟨meth, c, h1, h2, h3, h4, h5, h6, -, -⟩ := Cond.code_spec hn (atoms_spec (ws := Jvm.Cond.code x code maxLocals ret :: tables_1) h _ List.mem_cons_self)
    exact ⟨meth, c, h1, h2, h3, h4, h5, h6⟩
  · intro p e s m args below meth c s₁ B hml0 hP _
    obtain ⟨rfl, hx, hbd, hgv⟩ := hP
    obtain ⟨scr, harrAt, hlist, hof, hsmall⟩ := hx
    obtain ⟨hcb, hkn, -, -⟩ := State.arrayAt?_spec harrAt
    have hown : s.vm.findClass R_law = some m.cls := findClass_of_methodNamed B.named
    have hts0 : ∀ c ∈ (Jvm.Cond.code x code maxLocals ret :: tables_1), c.before #[Value.ref b] s = true := atoms_spec (ws := Jvm.Cond.code x code maxLocals ret :: tables_1) B.pre
    have hts : ∀ w ∈ lw_tbl, w.before #[Value.ref b] s = true := k2_hts_sels lw_privs (fun w hw => hts0 w (List.mem_cons_of_mem _ hw)) lw_privs_ok
    have hml : c.maxLocals = 4 := B.maxLocals_eq (hts0 _ List.mem_cons_self)
    have X₀ : Stand p l e room_1 s m #[Value.ref b] below meth c s₁ [] 0 0 := Stand.of_body B
    have hh0 : s₁.heap = s.heap := by rw [B.state]; rfl
    have hsz : scr.slots.size = xs.length := by rw [← Array.length_toList, hlist, List.length_map]
    have hval : ∀ j : Nat, j < xs.length → scr.slots[j]? = some (.int (xs.getD j 0)) := fun j hj => by
      rw [← Array.getElem?_toList, hlist]
      simp [hj]
    have hbl : b < s.heap.size := (Array.getElem?_eq_some_iff.mp hcb).1
    have hX : va_X b xs.length (fun j => xs.getD j 0) s s.heap := ⟨scr, hcb, hof, hkn, hsz, hval⟩
    have K : W p l e room_1 s m #[Value.ref b] below meth c s₁.heap [] 0 0 (lw_Z below #[Value.ref b] s) (entryFrame m ([Value.ref b] : List Value).toArray 4) := by
      rw [hh0]
      exact whole_start l hbd ⟨B.exec, B.bytes, B.returns, hml, hown, hts, hX, hbl, B.notSynchronized, hgv⟩
    obtain ⟨t, a1, o, b1, b2, b3⟩ := K s₁ rfl X₀
    exact ⟨t, o, a1, b1, b2, b3⟩
theorem lw_pre_spec {args : Array Value} {s : State} (h : (Jvm.Cond.and given_1 narrow_1).before args s = true) (hr : rest_1_c.before args s = true) : ∃ (b : Addr) (xs : List Int32), lw_P b xs args s := by
  have hs := flat_of_before _ h
  have hq := flat_of_before _ hr
  have hc : (Cond.count 1).before args s = true := hs _ (by decide +kernel)
  have harr : (Cond.arrayOf (.arg 0) .int).before args s = true := hs _ (by decide +kernel)
  have hle : (Cond.le (.length (.arg 0)) (.int 3072)).before args s = true := hs _ (by decide +kernel)
  have hlen : (Cond.isInt (.length (.arg 0))).before args s = true := hq _ (by decide +kernel)
  have hall : (Cond.all (.arg 0) (.isInt (.elem (.arg 0) (.index 0)))).before args s = true := hq _ (by decide +kernel)
  obtain ⟨b, xs, hb, hx⟩ := State.ints_of_pre rfl harr hlen hall
  have hsm : xs.length < 2 ^ 31 := hx.choose_spec.2.2.2
  have hev : (Term.length (.arg 0)).eval args s none [] s = some (.int xs.length.toInt32) := hx.length_eval hb
  have hv := Cond.le_ints hev (show (Term.int 3072).eval args s none [] s = some (.int 3072) from rfl)
  have hd : xs.length.toInt32 ≤ 3072 := by
    simpa [Cond.before, Cond.holds, hv] using hle
  have hN : xs.length ≤ 3072 := (Int32.ofNat_le_ofNat hsm (by decide)).mp (show Int32.ofNat xs.length ≤ Int32.ofNat 3072 from hd)
  exact ⟨b, xs, Cond.one_arg hc (show args[0]? = some (.ref b) from hb), hx, hN, h⟩
theorem lw_comes (l : Launch) : Comes l x (Jvm.Cond.code x code maxLocals ret :: tables_1) room_1 (fun tb e args s => Calls_1 tb e args s ∧ rest_1 tb e args s ∧ Pre_1 tb e args s)
    (fun _ _ args s o t => lw_Q args s o t) := by
  intro p e ha hc hk s m args below hf hfit hheap happ hpre
  obtain ⟨b, xs, hP⟩ := lw_pre_spec hpre.2.2 hpre.2.1
  obtain ⟨k, o, h1, h2, h3, hQ⟩ := lw_walk l b xs p e ha hc hk s m args below hf ((Spec.applies_iff_loose hf).mp happ).1 hP trivial
  exact ⟨k, o, h1, h2, h3, hQ⟩
theorem lw_frame {s t : State} {o : Outcome} {args : Array Value} (h : Framed s o t [] 600000 7302250) :
    Framed s o t (fieldLocs frame_1_writes args s ++ arrayLocs frame_1_arrays args s ++ staticLocs frame_1_statics s) 600000 7302250 := h
theorem lw_limb (L : Cond) (hL : ∀ (args : Array Value) (s t : State), L.after args s (.returned (some (.int 1))) t = true) :
    ArmFor flags0 classFile x code maxLocals ret World_1 tables_1 room_1 Calls_1 rest_1 Pre_1
      (fun tb e a s o t => postC L tb e a s o t ∧ Framed s o t (fieldLocs frame_1_writes a s ++ arrayLocs frame_1_arrays a s ++ staticLocs frame_1_statics s) 600000 7302250) := by
  intro l _ _ _ p e ha hc hk s m args below hf hfit hheap happ hpre
  obtain ⟨k, o, h1, h2, h3, rfl, hF⟩ := lw_comes l p e ha hc hk s m args below hf hfit hheap happ hpre
  exact ⟨k, _, h1, h2, h3, hL args s _, lw_frame hF⟩
theorem i_vc : Claimed_1_1 ∧ Claimed_1_2 := ⟨lw_limb limb_1_1 (fun args s t => by simp [limb_1_1, Cond.after, Cond.holds, Cond.value]), lw_limb limb_1_2 (fun args s t => Cond.after_iff.mpr (by
  first | (rw [show limb_1_2 = Cond.eq .result (.int 1) from rfl, Cond.eq_ints (x := 1) (y := 1) rfl rfl]; simp; done) | (simp [limb_1_2, Cond.value, Term.eval]; done)))⟩
