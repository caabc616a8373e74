theorem clA1 : Cond.sameMethod "[J" "java/lang/Object" "clone" "()Ljava/lang/Object;" ∈ lw_w := tq1 (List.mem_of_getElem? (i := 164) rfl) rfl
theorem clA2 : Cond.native ⟨"java/lang/Object", "clone", "()Ljava/lang/Object;"⟩ ∈ lw_w := tq1 (List.mem_of_getElem? (i := 165) rfl) rfl
theorem clA3 : Cond.instanceMethod ⟨"java/lang/Object", "clone", "()Ljava/lang/Object;"⟩ ∈ lw_w := tq1 (List.mem_of_getElem? (i := 166) rfl) rfl
theorem clA4 : Cond.selects "[J" ⟨"[J", "clone", "()Ljava/lang/Object;"⟩ ⟨"java/lang/Object", "clone", "()Ljava/lang/Object;"⟩ ∈ lw_w := tq1 (List.mem_of_getElem? (i := 167) rfl) rfl
theorem cpA1 : Cond.native arraycopyName ∈ lw_w := tq1 (List.mem_of_getElem? (i := 175) rfl) rfl
theorem cpA2 : Cond.static arraycopyName ∈ lw_w := tq1 (List.mem_of_getElem? (i := 174) rfl) rfl
theorem cpA3 : Cond.initialized "java/lang/System" ∈ lw_w := tq1 (List.mem_of_getElem? (i := 9) rfl) rfl
section CROWS3
variable {K : kT} {cc : ByteArray} {own mn : String} {fr lc mc ms nL : Nat} {ret : Option FieldType} {O : oT} {hp hp' : cH} {sz rc rs pc : Nat} {lv : List (Nat × Value)} {st : List Value}
/-- new long[n][k] -/
theorem k_nM (C : aC K cc own mn fr lc mc ms nL ret O) {n k : Int32} {index : Nat} {w : cH × Nat} (rc' : Nat) (hcl : Cond.classLink own index "[[J" ∈ lw_w) (e : nM hp sz n k = some w) (d : decode cc pc = .ok (.multianewarray index 2, 4)) (hrc : 10 + rc' = rc) (kk : aW K w.1 w.2 rc' (64 * rc') (pc + 4) lv (.ref sz :: st)) : aW K hp sz rc (64 * rc) pc lv (.int k :: .int n :: st) := by
  obtain ⟨hi, e3⟩ := gd_t e
  obtain rfl := sm_i e3
  obtain ⟨G, p, e, R, s, m, args, below, meth, c, n', O'⟩ := K
  obtain ⟨c1, c2, c3, c4, c5, c6, c7, c8, c9, c10, c11, c12⟩ := C
  intro H locs cells slots ls h1 h2 h3 h4 h5
  obtain ⟨⟨hn, hN⟩, hk, hM⟩ := hi
  have hmul : n.toNatClampNeg * k.toNatClampNeg ≤ 9 * 16 := Nat.mul_le_mul hN hM
  intro T hT Xs
  obtain ⟨vm₁, cA, comp, -, fA, fC, hO, -, X', step⟩ := Stand.multianewarray2F Xs c1 (own := own) (index := index) (ty := .long) c4 (by rw [show "[" ++ (FieldType.array .long).toString = "[[J" by decide +kernel]; exact c5 _ hcl) (aAO c6 _) (c5 _ acJ) (g := F0 m pc ls (.int k :: .int n :: st)) rfl (by rw [c2]; exact d) rfl hn hk (by omega) (by show k.toNatClampNeg * 8 ≤ _; omega) (by omega) rfl rfl (by omega) (by omega)
  have hcA : cA = gA G 3 := Option.some.inj (fA.symm.trans (c6.1.2 3 (gA G 3, .array .long) rfl).2)
  have hco : comp = gA G 1 := by
    rw [sJ2] at fC
    exact Option.some.inj (fC.symm.trans (va_nm_long (c6.1.2 1 (gA G 1, .long) rfl).2))
  subst hcA
  subst hco
  generalize hF : Jvm.Free.Multi.fill (T.setVm vm₁) (gA G 3) (gA G 1) n.toNatClampNeg k.toNatClampNeg (defaultValue .long) n.toNatClampNeg = F at X' step
  have hTh : (T.setVm vm₁).heap = H := hT
  have hsz : H.size = sz := h1.1
  obtain ⟨f1, f2, -, -⟩ := Jvm.Free.Multi.fill_facts (T.setVm vm₁) (gA G 3) (gA G 1) n.toNatClampNeg k.toNatClampNeg (defaultValue .long) n.toNatClampNeg
  rw [hF, hTh] at f1 f2
  have hold : ∀ x : Nat, x < H.size → F.heap[x]? = H[x]? := fun x hx => by
    have := Jvm.Free.Multi.fill_old (T.setVm vm₁) (gA G 3) (gA G 1) n.toNatClampNeg k.toNatClampNeg (defaultValue .long) (a := x) (by rw [hTh]; exact hx) n.toNatClampNeg
    rw [hF, hTh] at this
    exact this
  have hrow : ∀ j : Nat, j < n.toNatClampNeg → F.heap[H.size + 1 + j]? = some (vp_cell (gA G 1) (k.toNatClampNeg, .inr (.inl (fun _ => 0)))) := fun j hj => by
    have := Jvm.Free.Multi.fill_inner (T.setVm vm₁) (gA G 3) (gA G 1) n.toNatClampNeg k.toNatClampNeg (defaultValue .long) n.toNatClampNeg j hj
    rw [hF, hTh] at this
    rw [this, vp_cell_l, ← arrV_new]
    rfl
  have hout : Jvm.Free.Multi.outerC (gA G 3) n.toNatClampNeg H.size n.toNatClampNeg = vp_cell (gA G 3) (n.toNatClampNeg, .inr (.inr (.inr (.inr (fun i => if i < n.toNatClampNeg then some (H.size + 1 + i) else none))))) := by
    rw [vp_cell_q]
    have key : ∀ i : Nat, Jvm.Free.Multi.outerC (gA G 3) n.toNatClampNeg H.size i = arrV (gA G 3) n.toNatClampNeg (fun j => va_rf (if j < i then some (H.size + 1 + j) else none)) := by
      intro i
      induction i with
      | zero =>
        show ({ cls := gA G 3, slots := Array.replicate n.toNatClampNeg .null, vm := .none } : Cell) = _
        rw [arrV_new]
        refine congrArg (arrV (gA G 3) n.toNatClampNeg) (funext fun j => ?_)
        simp [va_rf]
      | succ i ih =>
        show (Jvm.Free.Multi.outerC (gA G 3) n.toNatClampNeg H.size i).setSlot i (.ref (H.size + 1 + i)) = _
        rw [ih, arrV_store]
        refine congrArg (arrV (gA G 3) n.toNatClampNeg) (funext fun j => ?_)
        by_cases e : j = i
        · subst e
          simp [updV, va_rf]
        · by_cases h : j < i
          · simp [updV, e, h, Nat.lt_succ_of_lt h]
          · simp [updV, e, h, show ¬ j < i + 1 by omega]
    exact key _
  rw [hout] at f2
  have hnew : aH G (mMul hp sz n.toNatClampNeg k.toNatClampNeg) (sz + 1 + n.toNatClampNeg) F.heap := by
    have hb := h1.2.1
    refine ⟨by rw [f1, hsz], by omega, fun q hq => ?_, fun b v hv => ?_⟩
    · rw [hold q (by omega)]
      exact h1.2.2.1 q hq
    · unfold mMul at hv
      by_cases e1 : b = sz
      · rw [if_pos e1] at hv
        cases hv
        subst e1
        refine ⟨hb, ?_⟩
        show F.heap[b]? = some (vp_cell (gA G 3) _)
        rw [← hsz]
        exact f2
      · rw [if_neg e1] at hv
        by_cases e2 : sz < b ∧ b ≤ sz + n.toNatClampNeg
        · rw [if_pos e2] at hv
          cases hv
          refine ⟨by omega, ?_⟩
          show F.heap[b]? = some (vp_cell (gA G 1) _)
          have := hrow (b - (sz + 1)) (by omega)
          rw [hsz, show sz + 1 + (b - (sz + 1)) = b by omega] at this
          exact this
        · rw [if_neg e2] at hv
          exact ⟨(h1.2.2.2 b v hv).1, (h1.2.2.2 b v hv).2.kept (hold b (by have := h1.lt hv; omega))⟩
  obtain ⟨t, a1, b1⟩ := kk F.heap locs _ _ ls hnew h2 h3 (show cells + 1 + n.toNatClampNeg + rc' ≤ R.cells by omega) (show slots + n.toNatClampNeg + n.toNatClampNeg * k.toNatClampNeg + 64 * rc' ≤ R.slots by omega) F rfl X'
  refine ⟨t, step t ?_, b1⟩
  have e9 : T.heap.size = sz := by rw [hT]; exact hsz
  rw [e9]
  exact a1
/-- an array of longs cloned -/
theorem k_nC (C : aC K cc own mn fr lc mc ms nL ret O) {a index : Nat} (rc' : Nat) (hl : Cond.methodLink own index ⟨"[J", "clone", "()Ljava/lang/Object;"⟩ ∈ lw_w) (e : nC hp sz a = some hp') (hR : 1 ≤ fr ∧ (st.map fun v => v.category).sum + 14 ≤ lc) (d : decode cc pc = .ok (.invokevirtual index, 3)) (hrc : 1 + rc' = rc) (kk : aW K hp' (sz + 1) rc' (64 * rc') (pc + 3) lv (.ref sz :: st)) : aW K hp sz rc (64 * rc) pc lv (.ref a :: st) := by
  obtain ⟨w, e1, e2⟩ := bd_i e
  obtain ⟨hi, e3⟩ := gd_t e2
  obtain rfl := sm_i e3
  obtain ⟨G, p, e, R, s, m, args, below, meth, c, n', O'⟩ := K
  obtain ⟨c1, c2, c3, c4, c5, c6, c7, c8, c9, c10, c11, c12⟩ := C
  subst c9
  subst c10
  intro H locs cells slots ls h1 h2 h3 h4 h5
  have he := aJ_s e1
  have hJ : s.vm.findClass "[J" = some (gA G 1) := va_nm_long (c6.1.2 1 (gA G 1, .long) rfl).2
  have hcl : va_Nw (.castable "[J" "java/lang/Cloneable") s := va_tabs rfl (rfl : (G.2.1.setVm s.vm).vm = s.vm) (by rw [Cond.castable_setVm c6.2.1]; exact c6.2.2.1.2.2.1)
  obtain ⟨c0, t0', f1, f2, f3⟩ := Cond.castable_spec (va_Nw.use (A := args) rfl hcl)
  cases hJ.symm.trans f1
  have h4 : cells + rc ≤ mc := h4
  have h5 : slots + 64 * rc ≤ ms := h5
  intro T hT X
  have hcellT : T.heap[a]? = some (vp_cell (gA G 1) (w.1, .inr (.inl w.2))) := by rw [hT]; exact (h1.2.2.2 a _ he).2
  have hszc : (vp_cell (gA G 1) (w.1, .inr (.inl w.2))).slots.size = w.1 := arrV_size _ _ _
  obtain ⟨-, kA, hkA, comp, hkind⟩ := State.isArrayOf_alike X.warmed.alike ((c6.1.2 1 (gA G 1, .long) rfl).1 0 (fun _ => .null))
  obtain ⟨-, kS, hkS, compS, hkindS⟩ := (c6.1.2 1 (gA G 1, .long) rfl).1 0 (fun _ => .null)
  obtain ⟨vm', X', stp⟩ := X.cloneArray c1 c4 (c5 _ hl) (c5 _ clA1) (c5 _ clA2) (c5 _ clA3) (c5 _ clA4) (a := a) (cell := vp_cell (gA G 1) (w.1, .inr (.inl w.2))) hcellT (fun k h => by cases h) (fun h => by cases h) hJ f2 f3
    (fun i v hv => by
      have hk' : T.vm.classes[gA G 1]? = some kA := hkA
      have hf : fits .long v = true := va_fit (F := fun j => .long (w.2 j)) (fun i _ => rfl) i v hv
      show State.fitsSlot _ (gA G 1) _ _ _ = true
      simpa [State.fitsSlot, State.slotType?, hk', hkind] using hf)
    (g := F0 m pc ls (.ref a :: st)) rfl (h3.1.trans c3.symm) rfl (by rw [c2]; exact d) hR.1 (by show 2 * 0 + _ + 14 ≤ lc; omega) (show cells + 1 ≤ mc by omega) (by rw [hszc]; show slots + w.1 ≤ ms; omega) (hloader := Vm.clonesLoader_of_array hkS hkindS)
  rw [hszc] at X'
  have hsz : H.size = sz := h1.1
  generalize hH1 : H.push (vp_cell (gA G 1) (w.1, .inr (.inl w.2))) = H1
  have z1 : H1.size = H.size + 1 := by rw [← hH1, Array.size_push]
  have e9 : H1[H.size]? = some (vp_cell (gA G 1) (w.1, .inr (.inl w.2))) := by rw [← hH1, Array.getElem?_push_size]
  have o1 : ∀ q : Nat, q < H.size → H1[q]? = H[q]? := fun q hq => by rw [← hH1, Array.getElem?_push, if_neg (Nat.ne_of_lt hq)]
  obtain ⟨t, b1, b2⟩ := kk H1 locs _ _ ls (h1.push (by rw [z1, hsz]) (fun q hq => o1 q (by omega)) (by rw [← hsz]; exact e9)) h2 h3 (show cells + 1 + rc' ≤ mc by omega) (show slots + w.1 + 64 * rc' ≤ ms by omega)
    ((T.setVm vm').pushCell (vp_cell (gA G 1) (w.1, .inr (.inl w.2)))) (by rw [← hH1, ← hT]; rfl) X'
  refine ⟨t, stp t ?_, b2⟩
  rw [hT, hsz]
  exact b1
/-- checkcast to long[] of an array of longs -/
theorem k_cast (C : aC K cc own mn fr lc mc ms nL ret O) {a index : Nat} (hl : Cond.classLink own index "[J" ∈ lw_w) {w : Nat × (Nat → Int64)} (e : aJ hp a = some w) (d : decode cc pc = .ok (.checkcast index, 3)) (kk : aW K hp sz rc rs (pc + 3) lv (.ref a :: st)) : aW K hp sz rc rs pc lv (.ref a :: st) := by
  obtain ⟨G, p, e', R, s, m, args, below, meth, c, n', O'⟩ := K
  obtain ⟨c1, c2, c3, c4, c5, c6, c7, c8, c9, c10, c11, c12⟩ := C
  intro H locs cells slots ls h1 h2 h3 h4 h5
  exact va_castA (D := gD G) (cl := vwCl) c1 c2 c4 (c5 _ hl) (h1.P (aJ_s e)) 0 (cA := gA G 1) rfl (va_nm_long (c6.1.2 1 (gA G 1, .long) rfl).2) d (kk H locs cells slots ls h1 h2 h3 h4 h5)
/-- System.arraycopy of longs -/
theorem k_cp (C : aC K cc own mn fr lc mc ms nL ret O) {a b index : Nat} {sp dp n : Int32} (hl : Cond.methodLink own index arraycopyName ∈ lw_w) (e : cpJ hp a sp b dp n = some hp') (hR : 1 ≤ fr ∧ (st.map fun v => v.category).sum + (nativeFrameWords "java/lang/System" "arraycopy" 5 + 11) ≤ lc) (d : decode cc pc = .ok (.invokestatic index, 3)) (kk : aW K hp' sz rc rs (pc + 3) lv st) : aW K hp sz rc rs pc lv (.int n :: .int dp :: .ref b :: .int sp :: .ref a :: st) := by
  obtain ⟨w, e1, e2⟩ := bd_i e
  obtain ⟨z, e3, e4⟩ := bd_i e2
  obtain ⟨hi, e5⟩ := gd_t e4
  obtain rfl := sm_i e5
  obtain ⟨G, p, e', R, s, m, args, below, meth, c, n', O'⟩ := K
  obtain ⟨c1, c2, c3, c4, c5, c6, c7, c8, c9, c10, c11, c12⟩ := C
  subst c9
  subst c10
  intro H locs cells slots ls h1 h2 h3 h4 h5
  obtain ⟨⟨i1, i2, i3⟩, i4, i5⟩ := hi
  have nn : ∀ z : Int32, ¬ z < 0 → z.toInt = (z.toNatClampNeg : Int) := by
    intro z hz
    have hz0 : (0 : Int) ≤ z.toInt := by
      have := Int32.not_lt.mp hz
      simpa using Int32.le_iff_toInt_le.mp this
    show z.toInt = ((z.toInt.toNat : Nat) : Int)
    omega
  intro T hT X
  have hc0 : H[a]? = some (vp_cell (gA G 1) (w.1, .inr (.inl w.2))) := (h1.2.2.2 a _ (aJ_s e1)).2
  have hc1 : H[b]? = some (vp_cell (gA G 1) (z.1, .inr (.inl z.2))) := (h1.2.2.2 b _ (aJ_s e3)).2
  obtain ⟨-, k0, hk0, cm0, hkk0⟩ := (c6.1.2 1 (gA G 1, .long) rfl).1 w.1 (fun j => .long (w.2 j))
  obtain ⟨-, k1, hk1, cm1, hkk1⟩ := (c6.1.2 1 (gA G 1, .long) rfl).1 z.1 (fun j => .long (z.2 j))
  obtain ⟨vm', X', step⟩ := X.arraycopy c1 c4 (c5 _ hl) (c5 _ cpA1) (c5 _ cpA2) (c5 _ cpA3) (src := a) (dst := b) (cs := vp_cell (gA G 1) (w.1, .inr (.inl w.2))) (cd := vp_cell (gA G 1) (z.1, .inr (.inl z.2))) (srcPos := sp) (destPos := dp) (n := n) (by rw [hT]; exact hc0) (by rw [hT]; exact hc1)
    (fun _ h => by cases h) (fun _ h => by cases h) (fun h => by cases h) (fun h => by cases h) hk0 hk1 hkk0 hkk1 (by simp [refKind]) i1 i2 i3
    (by rw [nn sp i1, nn n i3]; show ¬ _ > ((arrV (gA G 1) w.1 (fun j => .long (w.2 j))).slots.size : Int); rw [arrV_size]; omega)
    (by rw [nn dp i2, nn n i3]; show ¬ _ > ((arrV (gA G 1) z.1 (fun j => .long (z.2 j))).slots.size : Int); rw [arrV_size]; omega)
    (fun vm₁ _ i hi => by
      have e : (vp_cell (gA G 1) (w.1, .inr (.inl w.2))).slots.getD (sp.toNatClampNeg + i) .null = .long (w.2 (sp.toNatClampNeg + i)) := by
        show (arrV (gA G 1) w.1 (fun j => .long (w.2 j))).slots.getD _ _ = _
        rw [Array.getD_eq_getD_getElem?, arrV_read _ _ (by omega)]
        rfl
      refine ⟨?_, ?_⟩
      · rw [e]
        rfl
      · rw [e]
        exact trivial)
    (g := F0 m pc ls (.int n :: .int dp :: .ref b :: .int sp :: .ref a :: st)) rfl (h3.1.trans c3.symm) (rest := st) rfl (by rw [c2]; exact d) hR.1 (by show 2 * 0 + _ + _ ≤ lc; omega)
  have e1 : copied (vp_cell (gA G 1) (w.1, .inr (.inl w.2))) (vp_cell (gA G 1) (z.1, .inr (.inl z.2))) sp dp n = vp_cell (gA G 1) (z.1, .inr (.inl (va_cpy w.2 z.2 sp.toNatClampNeg dp.toNatClampNeg n.toNatClampNeg))) := va_copied (fun z => .long z) (gA G 1) (gA G 1) w.2 z.2 i4
  rw [e1] at X' step
  have hl : b < H.size := (Array.getElem?_eq_some_iff.mp hc1).1
  have hheap : ((T.setVm vm').setCell b (vp_cell (gA G 1) (z.1, .inr (.inl (va_cpy w.2 z.2 sp.toNatClampNeg dp.toNatClampNeg n.toNatClampNeg))))).heap = H.setIfInBounds b (vp_cell (gA G 1) (z.1, .inr (.inl (va_cpy w.2 z.2 sp.toNatClampNeg dp.toNatClampNeg n.toNatClampNeg)))) := by rw [← hT]; rfl
  have oq : ∀ q : Nat, q ≠ b → (H.setIfInBounds b (vp_cell (gA G 1) (z.1, .inr (.inl (va_cpy w.2 z.2 sp.toNatClampNeg dp.toNatClampNeg n.toNatClampNeg)))))[q]? = H[q]? := fun q hq => by simp [Array.getElem?_setIfInBounds, Ne.symm hq]
  obtain ⟨t, a1, b1⟩ := kk _ _ cells slots ls (h1.set (aJ_s e3) (by simp) oq (show (H.setIfInBounds b _)[b]? = some _ by simp [Array.getElem?_setIfInBounds, hl, aE])) (fun q hq => by
      rcases List.mem_append.mp hq with h | h
      · exact h2 q h
      · obtain ⟨z', -, hz⟩ := List.mem_map.mp h
        rw [← hz]
        exact (h1.2.2.2 b _ (aJ_s e3)).1) h3 h4 h5 _ hheap X'
  exact ⟨t, step t a1, b1⟩
/-- a private constructor of a nest mate -/
theorem k_nest (C : aC K cc "ProjectiveRows" mn fr lc mc ms nL ret O) (W : Nat) {fr2 lc2 mc2 ms2 b : Nat} {rest : List Value} {hp2 : cH} {sz2 : Nat} (rc' rs' : Nat) (hM : aM K.1 yX3_init cX3_init 1 none fr2 lc2 mc2 ms2 [.ref b] hp sz (none, hp2, sz2)) (hst : st = .ref b :: rest) (hm : mOK yX3_init cX3_init 1 none 0) (hi : Cond.instanceMethod yX3_init ∈ lw_w) (hcat : (rest.map fun v => v.category).sum ≤ W) (hR : fr2 + 1 ≤ fr ∧ W + (1 + 11) + lc2 ≤ lc) (d : decode cc pc = .ok (.invokespecial 9, 3)) (hrc : mc2 + rc' = rc) (hrs : ms2 + rs' = rs) (kk : aW K hp2 sz2 rc' rs' (pc + 3) lv rest) : aW K hp sz rc rs pc lv st := by
  obtain ⟨G, p, e, R, s, m, args, below, meth, c, n', O'⟩ := K
  obtain ⟨c1, c2, c3, c4, c5, c6, c7, c8, c9, c10, c11, c12⟩ := C
  subst c9
  subst c10
  intro H locs cells slots ls h1 h2 h3 h4 h5
  have h4 : cells + rc ≤ mc := h4
  have h5 : slots + rs ≤ ms := h5
  have hrun : va_Run p G.1 e { frames := fr, cells := mc, slots := ms, locals := lc } s m args below meth c H locs cells slots mc2 ms2 (F0 m pc ls st) rest (aQ G (none, hp2, sz2) [Value.ref b].toArray) (fun q => gB G ≤ q) := by
    intro T hT X
    obtain ⟨v, vm₁, ⟨U', l2, c2', s2⟩, hW₁, X', ⟨g', mk, t, L, e1, e2, hq, g1, hL, g2, g3⟩, stp⟩ := va_callIN X c1 (bytes := cX3_init) (maxL := 1) (W := W) c4 rfl (va_Nw.use rfl c6.2.2.2) (c5 _ hi) (c5 _ hm.1) ⟨hm.2.2.1, hm.2.2.2.1⟩ (aBack c5 hM hm hR) (g := F0 m pc ls st) rfl (h3.1.trans c3.symm) (a := b) (argsL := []) (rest := rest) (aLen hm rfl) hst (lv_roomW hcat) (by rw [c2]; exact d)
      (fun vm₁ hW₁ => ⟨show cells + mc2 ≤ mc by omega, show slots + ms2 ≤ ms by omega, rfl, by rw [show (T.setVm vm₁).heap = H from hT]; exact h1, aK.moved hW₁ c6⟩)
    dsimp only [Pt.U, Pt.locs, Pt.cells, Pt.slots] at X' e1 e2 g1 g2 g3 stp
    subst g1; subst g2; subst g3
    exact ⟨v, (T.setVm vm₁).calling g' mk [Value.ref b].toArray, t, U', L, hT, X', hL, e1, e2, hq, stp⟩
  exact aGo hrun h2 (fun H1 locs1 g1 g2 => kk H1 locs1 _ _ ls g1 g2 h3 (show cells + mc2 + rc' ≤ mc by omega) (show slots + ms2 + rs' ≤ ms by omega))
/-- a static table: where it stands -/
def sT (K : kT) (t : Nat) (tab : Nat → Int32) : Prop := va_T .int t 12 (fun j => .int (tab j)) (fun q => gB K.1 ≤ q) K.1.2.1 K.1.2.1.heap
theorem k_gs (C : aC K cc own mn fr lc mc ms nL ret O) {index t : Nat} {nm : String} (hz : va_Z "ProjectiveRows" nm "[I" (.ref t) (fun q => gB K.1 ≤ q) K.1.2.1 K.1.2.1.heap) (hl : Cond.fieldLink own index "ProjectiveRows" nm "[I" ∈ lw_w) (d : decode cc pc = .ok (.getstatic index, 3)) (kk : aW K hp sz rc rs (pc + 3) lv (.ref t :: st)) : aW K hp sz rc rs pc lv st := by
  obtain ⟨G, p, e', R, s, m, args, below, meth, c, n', O'⟩ := K
  obtain ⟨c1, c2, c3, c4, c5, c6, c7, c8, c9, c10, c11, c12⟩ := C
  intro H locs cells slots ls h1 h2 h3 h4 h5
  obtain ⟨cf, kf, fi, f, a, cell, g1, g2, g3, g4, g5, g6, g7, g8⟩ := va_Z.moved c6.2.1 hz
  exact W.gets c1 c2 c4 (c5 _ hl) g1 g2 g3 g4 (by rw [h1.2.2.1 a (Nat.not_le.mp g8)]; exact g5) (fun e => by rw [e] at g6; cases g6) g7 rfl d (kk H locs cells slots ls h1 h2 h3 h4 h5)
theorem k_ls (C : aC K cc own mn fr lc mc ms nL ret O) {t : Nat} {tab : Nat → Int32} {i : Int32} (hT : sT K t tab) (hi : gi i 12) (d : decode cc pc = .ok (.iaload, 1)) (kk : aW K hp sz rc rs (pc + 1) lv (.int (tab i.toNatClampNeg) :: st)) : aW K hp sz rc rs pc lv (.int i :: .ref t :: st) := by
  obtain ⟨G, p, e', R, s, m, args, below, meth, c, n', O'⟩ := K
  obtain ⟨c1, c2, c3, c4, c5, c6, c7, c8, c9, c10, c11, c12⟩ := C
  intro H locs cells slots ls h1 h2 h3 h4 h5
  obtain ⟨cell, g1, g2, g3, g4, g5, g6, g7⟩ := va_T.moved c6.2.1 hT
  exact W.iald (v := .int (tab i.toNatClampNeg)) c1 c2 (by rw [h1.2.2.1 t (Nat.not_le.mp g7)]; exact g1) g2 g3 (fun q => q.elim hi.1 (fun z => absurd hi.2 (by omega))) (g6 _ hi.2) rfl rfl d (kk H locs cells slots ls h1 h2 h3 h4 h5)
theorem k_tri (C : aC K cc own mn fr lc mc ms nL ret O) : ∃ t, va_Z "ProjectiveRows" "SIDES_OF_TRIANGLES" "[I" (.ref t) (fun q => gB K.1 ≤ q) K.1.2.1 K.1.2.1.heap ∧ sT K t sTri := by
  obtain ⟨G, p, e', R, s, m, args, below, meth, c, n', O'⟩ := K
  exact C.2.2.2.2.2.1.2.2.1.2.2.2.1
theorem k_hex (C : aC K cc own mn fr lc mc ms nL ret O) : ∃ t, va_Z "ProjectiveRows" "SIDES_OF_HEXAGON" "[I" (.ref t) (fun q => gB K.1 ≤ q) K.1.2.1 K.1.2.1.heap ∧ sT K t sHex := by
  obtain ⟨G, p, e', R, s, m, args, below, meth, c, n', O'⟩ := K
  exact C.2.2.2.2.2.1.2.2.1.2.2.2.2
theorem r_tabIn (C : aC K cc own mn fr lc mc ms nL ret O) {dflt lo hi : Int} {offs : Array Int} {len : Nat} {x : Int32} {off : Int} {tgt : Nat} (k : Int32) (hx : x = k) (d : decode cc pc = .ok (.tableswitch dflt lo hi offs, len)) (h1 : ¬ k.toInt < lo) (h2 : ¬ hi < k.toInt) (ho : offs[(k.toInt - lo).toNat]? = some off) (ht : (pc : Int) + off = (tgt : Int)) (kk : aW K hp sz rc rs tgt lv st) : aW K hp sz rc rs pc lv (.int x :: st) := by
  subst hx
  obtain ⟨G, p, e', R, s, m, args, below, meth, c, n', O'⟩ := K
  intro H locs cells slots ls g1 g2 g3 g4 g5
  exact lv_tableIn C.1 C.2.1 d h1 h2 ho ht (kk H locs cells slots ls g1 g2 g3 g4 g5)
theorem r_tabOut (C : aC K cc own mn fr lc mc ms nL ret O) {dflt lo hi : Int} {offs : Array Int} {len : Nat} {x : Int32} {tgt : Nat} (d : decode cc pc = .ok (.tableswitch dflt lo hi offs, len)) (h : x.toInt < lo ∨ hi < x.toInt) (ht : (pc : Int) + dflt = (tgt : Int)) (kk : aW K hp sz rc rs tgt lv st) : aW K hp sz rc rs pc lv (.int x :: st) := by
  obtain ⟨G, p, e', R, s, m, args, below, meth, c, n', O'⟩ := K
  intro H locs cells slots ls g1 g2 g3 g4 g5
  exact lv_tableOut C.1 C.2.1 d h ht (kk H locs cells slots ls g1 g2 g3 g4 g5)
end CROWS3
