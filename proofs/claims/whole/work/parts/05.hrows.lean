section HROWS
variable {K : kT} {cc : ByteArray} {own mn : String} {fr lc mc ms nL : Nat} {ret : Option FieldType} {O : oT} {hp : cH} {sz rc rs pc : Nat} {lv : List (Nat × Value)} {st : List Value}
theorem r_get (C : aC K cc own mn fr lc mc ms nL ret O) {a ci N index : Nat} {Cn : String} {T : u_T} {fs : List Value} {v : Value} (he : hp a = some (.inr (ci, fs))) (hc : vwCl[ci]? = some (Cn, T, N)) (hin : ∀ w ∈ u_ws Cn T N, w ∈ lw_w) (k : Nat) (hk : k < N) (hl : Cond.fieldLink own index (T k).1 (T k).2.1 (T k).2.2.1 ∈ lw_w) (hv : fs[k]? = some v) (d : decode cc pc = .ok (.getfield index, 3)) (kk : aW K hp sz rc rs (pc + 3) lv (v :: st)) : aW K hp sz rc rs pc lv (.ref a :: st) := by
  obtain ⟨G, p, e, R, s, m, args, below, meth, c, n, O'⟩ := K
  obtain ⟨c1, c2, c3, c4, c5, c6, c7, c8, c9, c10, c11, c12⟩ := C
  intro H locs cells slots ls h1 h2 h3 h4 h5
  exact va_get (D := gD G) (cl := vwCl) (ci := ci) c1 c2 c5 hin c4 c6.1 (h1.P he) 0 (fs := fs) rfl hc k hk (c5 _ hl) (fun _ h => h) hv d (kk H locs cells slots ls h1 h2 h3 h4 h5)
theorem r_put (C : aC K cc own mn fr lc mc ms nL ret O) {a ci N index : Nat} {Cn : String} {T : u_T} {fs : List Value} {v : Value} {ty : FieldType} (ty0 : Nat → FieldType) (hty : ∀ k, k < N → parseFieldDescriptor (T k).2.2.1 = some (ty0 k)) (hnm : ∀ a, a < N → ∀ b, b < N → a ≠ b → (T a).2.1 ≠ (T b).2.1) (he : hp a = some (.inr (ci, fs))) (hc : vwCl[ci]? = some (Cn, T, N)) (hin : ∀ w ∈ u_ws Cn T N, w ∈ lw_w) (k : Nat) (hk : k < N) (hl : Cond.fieldLink own index (T k).1 (T k).2.1 (T k).2.2.1 ∈ lw_w) (hfin : (T k).2.2.2 = false) (hd : ty0 k = ty) (hn : narrow ty v = v) (hfit : fits ty v = true) (hlen : k < fs.length) (d : decode cc pc = .ok (.putfield index, 3)) (kk : aW K (va_up hp a (some (.inr (ci, fs.set k v)))) sz rc rs (pc + 3) lv st) : aW K hp sz rc rs pc lv (v :: .ref a :: st) := by
  obtain ⟨G, p, e, R, s, m, args, below, meth, c, n, O'⟩ := K
  obtain ⟨c1, c2, c3, c4, c5, c6, c7, c8, c9, c10, c11, c12⟩ := C
  intro H locs cells slots ls h1 h2 h3 h4 h5
  subst hd
  have hap := va_apart (own := own) (D := gD G) (tys := aTy G) (args := args) (s := s) c5 hin ty0 hty hnm c6.1 hc
  obtain ⟨r, g1, cell, q1, q2, q3, q4⟩ := (h1.2.2.2 a _ he).2
  have hr : r = (Cn, T, N) := Option.some.inj (g1.symm.trans hc)
  subst hr
  obtain ⟨hS, hfc, kC, hkC, hkind⟩ := c6.1.1 ci _ hc
  obtain ⟨cf, kf, fi, f, hi, hsl⟩ := hS k hk
  have hlay := c5 _ (hin _ (u_in_lay hk))
  unfold u_lay at hlay
  rw [if_neg (by rw [hfin]; decide)] at hlay
  have hst := (u_facts hfc hkC (u_lays c5 hin hk) hi).1
  have h6 := u_store hfc hkC hkind hlay hi (hty k hk) hn hfit
  refine W.putK c1 c2 (f := f) ⟨c4, c5 _ hl, ⟨_, _, _, hi⟩, hst⟩ (by rw [q2]; exact h6) q1 q3 (by rw [hsl]; exact k2_hasslot (q4 k hk)) rfl rfl d fun H' e1 e2 e3 => ?_
  rw [hsl] at e1 ⊢
  refine kk H' _ cells slots ls (h1.set he e2 e3 ?_) (fun q hq => ?_) h3 h4 h5
  · exact ⟨_, hc, t_OB.to (V := updV (vp_V fs) k v) ⟨_, e1, q2, q3, t_set q4 hap hk v⟩ (fun j _ => vp_updV_set hlen v j)⟩
  · rcases List.mem_append.mp hq with h | h
    · exact h2 q h
    · rw [List.mem_singleton.mp h]
      exact (h1.2.2.2 a _ he).1
theorem r_putF (C : aC K cc own "<init>" fr lc mc ms nL ret O) {a ci N index : Nat} {Cn : String} {T : u_T} {fs : List Value} {v : Value} {ty : FieldType} (ty0 : Nat → FieldType) (hty : ∀ k, k < N → parseFieldDescriptor (T k).2.2.1 = some (ty0 k)) (hnm : ∀ a, a < N → ∀ b, b < N → a ≠ b → (T a).2.1 ≠ (T b).2.1) (he : hp a = some (.inr (ci, fs))) (hc : vwCl[ci]? = some (Cn, T, N)) (hin : ∀ w ∈ u_ws Cn T N, w ∈ lw_w) (k : Nat) (hk : k < N) (hl : Cond.fieldLink own index (T k).1 (T k).2.1 (T k).2.2.1 ∈ lw_w) (hfin : (T k).2.2.2 = true) (hdecl : (T k).1 = own) (hd : ty0 k = ty) (hn : narrow ty v = v) (hfit : fits ty v = true) (hlen : k < fs.length) (d : decode cc pc = .ok (.putfield index, 3)) (kk : aW K (va_up hp a (some (.inr (ci, fs.set k v)))) sz rc rs (pc + 3) lv st) : aW K hp sz rc rs pc lv (v :: .ref a :: st) := by
  obtain ⟨G, p, e, R, s, m, args, below, meth, c, n, O'⟩ := K
  obtain ⟨c1, c2, c3, c4, c5, c6, c7, c8, c9, c10, c11, c12⟩ := C
  intro H locs cells slots ls h1 h2 h3 h4 h5
  subst hd
  have hap := va_apart (own := own) (D := gD G) (tys := aTy G) (args := args) (s := s) c5 hin ty0 hty hnm c6.1 hc
  obtain ⟨r, g1, cell, q1, q2, q3, q4⟩ := (h1.2.2.2 a _ he).2
  have hr : r = (Cn, T, N) := Option.some.inj (g1.symm.trans hc)
  subst hr
  obtain ⟨hS, hfc, kC, hkC, hkind⟩ := c6.1.1 ci _ hc
  obtain ⟨cf, kf, fi, f, hi, hsl⟩ := hS k hk
  have hlay := c5 _ (hin _ (u_in_lay hk))
  unfold u_lay at hlay
  rw [if_pos hfin] at hlay
  have hst := (u_facts hfc hkC (u_lays c5 hin hk) hi).1
  have hcf : m.cls = cf := by
    obtain ⟨_, _, c', _, _, _, -, -, hf', -, -, -, hown2, -⟩ := Cond.laysFinal_spec hlay
    have e1 : c' = cf := by have := hi.symm.trans hf'; simp at this; exact this.1.symm
    rw [hdecl] at hown2
    rw [← e1]; exact Option.some.inj (c4.symm.trans hown2)
  have h6 := u_fits hfc hkC hkind (Or.inr hlay) hi (hty k hk) hn hfit
  refine W.putFinK c1 c2 c4 (c5 _ hl) hi hst hcf c12 (by rw [q2]; exact h6) q1 q3 (by rw [hsl]; exact k2_hasslot (q4 k hk)) rfl rfl d fun H' e1 e2 e3 => ?_
  rw [hsl] at e1 ⊢
  refine kk H' _ cells slots ls (h1.set he e2 e3 ?_) (fun q hq => ?_) h3 h4 h5
  · exact ⟨_, hc, t_OB.to (V := updV (vp_V fs) k v) ⟨_, e1, q2, q3, t_set q4 hap hk v⟩ (fun j _ => vp_updV_set hlen v j)⟩
  · rcases List.mem_append.mp hq with h | h
    · exact h2 q h
    · rw [List.mem_singleton.mp h]
      exact (h1.2.2.2 a _ he).1
theorem r_iald (C : aC K cc own mn fr lc mc ms nL ret O) {a n : Nat} {f : Nat → Int32} {i : Int32} (he : hp a = some (.inl (0, n, .inl f))) (hi : vp_in i n) (d : decode cc pc = .ok (.iaload, 1)) (kk : aW K hp sz rc rs (pc + 1) lv (.int (f i.toNatClampNeg) :: st)) : aW K hp sz rc rs pc lv (.int i :: .ref a :: st) := by
  obtain ⟨G, p, e, R, s, m, args, below, meth, c, n, O'⟩ := K
  obtain ⟨c1, c2, c3, c4, c5, c6, c7, c8, c9, c10, c11, c12⟩ := C
  intro H locs cells slots ls h1 h2 h3 h4 h5
  exact va_iald (D := gD G) (cl := vwCl) c1 c2 c6.1 (h1.P he) 0 0 (cA := gA G 0) (f := f) rfl rfl hi d (kk H locs cells slots ls h1 h2 h3 h4 h5)
theorem r_lald (C : aC K cc own mn fr lc mc ms nL ret O) {a n : Nat} {f : Nat → Int64} {i : Int32} (he : hp a = some (.inl (1, n, .inr (.inl f)))) (hi : vp_in i n) (d : decode cc pc = .ok (.laload, 1)) (kk : aW K hp sz rc rs (pc + 1) lv (.long (f i.toNatClampNeg) :: st)) : aW K hp sz rc rs pc lv (.int i :: .ref a :: st) := by
  obtain ⟨G, p, e, R, s, m, args, below, meth, c, n, O'⟩ := K
  obtain ⟨c1, c2, c3, c4, c5, c6, c7, c8, c9, c10, c11, c12⟩ := C
  intro H locs cells slots ls h1 h2 h3 h4 h5
  exact va_lald (D := gD G) (cl := vwCl) c1 c2 c6.1 (h1.P he) 0 1 (cA := gA G 1) (f := f) rfl rfl hi d (kk H locs cells slots ls h1 h2 h3 h4 h5)
theorem r_iast (C : aC K cc own mn fr lc mc ms nL ret O) {a n : Nat} {f : Nat → Int32} {i x : Int32} (he : hp a = some (.inl (0, n, .inl f))) (hi : vp_in i n) (d : decode cc pc = .ok (.iastore, 1)) (kk : aW K (va_up hp a (some (.inl (0, n, .inl (upd f i.toNatClampNeg x))))) sz rc rs (pc + 1) lv st) : aW K hp sz rc rs pc lv (.int x :: .int i :: .ref a :: st) := by
  obtain ⟨G, p, e, R, s, m, args, below, meth, c, n', O'⟩ := K
  obtain ⟨c1, c2, c3, c4, c5, c6, c7, c8, c9, c10, c11, c12⟩ := C
  intro H locs cells slots ls h1 h2 h3 h4 h5
  refine W.iast c1 c2 (h1.2.2.2 a _ he).2 ((c6.1.2 0 _ rfl).1 n (fun j => .int (f j))) (fun q => by cases q) (by show ¬ (i < 0 ∨ (arrV _ _ _).slots.size ≤ _); rw [arrV_size]; exact hi) rfl rfl d fun H1 e z oq => ?_
  refine kk H1 _ cells slots ls (h1.set he z oq ?_) (fun q hq => ?_) h3 h4 h5
  · show H1[a]? = some (vp_cell _ _)
    rw [e]
    show some ((vp_cell (gA G 0) (n, .inl f)).setSlot _ _) = some (vp_cell (gA G 0) (n, .inl (upd f i.toNatClampNeg x)))
    rw [vp_cell_i, vp_cell_i, arrV_store]
    congr 2
    funext q
    by_cases hq : q = i.toNatClampNeg
    · subst hq
      simp [updV, upd]
    · simp [updV, upd, hq]
  · rcases List.mem_append.mp hq with h | h
    · exact h2 q h
    · rw [List.mem_singleton.mp h]
      exact (h1.2.2.2 a _ he).1
theorem r_last (C : aC K cc own mn fr lc mc ms nL ret O) {a n : Nat} {f : Nat → Int64} {i : Int32} {x : Int64} (he : hp a = some (.inl (1, n, .inr (.inl f)))) (hi : vp_in i n) (d : decode cc pc = .ok (.lastore, 1)) (kk : aW K (va_up hp a (some (.inl (1, n, .inr (.inl (vp_updL f i.toNatClampNeg x)))))) sz rc rs (pc + 1) lv st) : aW K hp sz rc rs pc lv (.long x :: .int i :: .ref a :: st) := by
  obtain ⟨G, p, e, R, s, m, args, below, meth, c, n', O'⟩ := K
  obtain ⟨c1, c2, c3, c4, c5, c6, c7, c8, c9, c10, c11, c12⟩ := C
  intro H locs cells slots ls h1 h2 h3 h4 h5
  refine W.last c1 c2 (h1.2.2.2 a _ he).2 ((c6.1.2 1 _ rfl).1 n (fun j => .long (f j))) (fun q => by cases q) (by show ¬ (i < 0 ∨ (arrV _ _ _).slots.size ≤ _); rw [arrV_size]; exact hi) rfl rfl d fun H1 e z oq => ?_
  refine kk H1 _ cells slots ls (h1.set he z oq ?_) (fun q hq => ?_) h3 h4 h5
  · show H1[a]? = some (vp_cell _ _)
    rw [e]
    show some ((vp_cell (gA G 1) (n, .inr (.inl f))).setSlot _ _) = some (vp_cell (gA G 1) (n, .inr (.inl (vp_updL f i.toNatClampNeg x))))
    rw [vp_cell_l, vp_cell_l, arrV_store]
    congr 2
    funext q
    by_cases hq : q = i.toNatClampNeg
    · subst hq
      simp [updV, vp_updL]
    · simp [updV, vp_updL, hq]
  · rcases List.mem_append.mp hq with h | h
    · exact h2 q h
    · rw [List.mem_singleton.mp h]
      exact (h1.2.2.2 a _ he).1
/-- what the tables say of a method -/
def mOK (y : MethodName) (cy : ByteArray) (ny : Nat) (rt : Option FieldType) (n : Nat) : Prop := Cond.code y cy ny rt ∈ lw_w ∧ Cond.initialized y.cls ∈ lw_w ∧ (y.cls ≠ "java/lang/invoke/MethodHandle" ∧ y.cls ≠ "java/lang/invoke/VarHandle" ∧ (parseMethodDescriptor y.desc).map (fun d => d.parameters.length) = some n)
def mIN (y : MethodName) : Prop := Cond.instanceMethod y ∈ lw_w ∧ Cond.selects y.cls y y ∈ lw_w
theorem aPre {G : gT} {hp : cH} {sz : Nat} {H : Heap} {As : List Value} {s : State} (h1 : aH G hp sz H) (hk : aK G s) : PreS s H (va_Pc As (fun U => aH G hp sz U.heap ∧ aK G U)) As :=
  ⟨fun a U g mk q => ⟨q.1, q.2.1, aK.same (u := U) (U := U.calling g mk a) rfl q.2.2⟩, fun U hU hW => ⟨rfl, by rw [hU]; exact h1, aK.moved hW hk⟩⟩
theorem aBack {G : gT} {R : Room} {p : Program} {e : Env} {below : List Frame} {s : State} {args : Array Value} {W : Nat} (h5 : ∀ w ∈ lw_w, w.before args s = true) {y : MethodName} {cy : ByteArray} {ny : Nat} {rt : Option FieldType} {n fr2 lc2 mc2 ms2 : Nat} {As : List Value} {hp : cH} {sz : Nat} {O2 : oT} (hM : aM G y cy ny rt fr2 lc2 mc2 ms2 As hp sz O2) (hm : mOK y cy ny rt n) (hR : fr2 + 1 ≤ R.frames ∧ W + (ny + 11) + lc2 ≤ R.locals) : Back G.1 R p e below s args y 3 W (PreOf R mc2 ms2 (va_Pc As (fun U => aH G hp sz U.heap ∧ aK G U))) (PostOf (aQ G O2) mc2 ms2 (fun q => gB G ≤ q)) :=
  back_of (bytes := cy) (maxL := ny) (ret := rt) hM (fun a U g mk q => ⟨q.1, q.2.1, aK.same (u := U) (U := U.calling g mk a) rfl q.2.2⟩) rfl rfl hR.1 hR.2 (pay_in h5 (lw_w_good (fun _ h => h) (fun w hw => (List.mem_cons.mp hw).elim (fun e => e ▸ hm.1) id))) List.mem_cons_self (fun a' U hW => word_at hW (Or.inl (by first | rfl | simp [Cond.onTables, Cond.keeps, Cond.steady])) (h5 _ hm.2.1))
theorem lv_roomW {m : MethodId} {pc W : Nat} {ls : Array Slot} {rest st : List Value} (h : (st.map fun v => v.category).sum ≤ W) : 2 * (F0 m pc ls rest).monitorRoom + (st.map fun v => v.category).sum ≤ W := by
  show 2 * 0 + _ ≤ W
  omega
theorem aLen {y : MethodName} {cy : ByteArray} {ny : Nat} {rt : Option FieldType} {n : Nat} (hm : mOK y cy ny rt n) {As : List Value} (hn : As.length = n) : ∀ sig, parseMethodDescriptor y.desc = some sig → As.length = sig.parameters.length := by
  intro sig h
  have h2 := hm.2.2.2.2
  rw [h] at h2
  exact hn.trans (Option.some.inj h2).symm
theorem aGo {p : Program} {G : gT} {e : Env} {R : Room} {s : State} {m : MethodId} {args a : Array Value} {below : List Frame} {meth : Method} {c : Code} {H : Heap} {locs : List Loc} {cells slots mc2 ms2 pc : Nat} {ls : Array Slot} {st0 rest : List Value} {Q : State → Prop} {O2 : oT}
    (hr : va_Run p G.1 e R s m args below meth c H locs cells slots mc2 ms2 (F0 m pc ls st0) rest (aQ G O2 a) (fun q => gB G ≤ q)) (h2 : ∀ q ∈ locs, gB G ≤ q.base)
    (kk : ∀ (H1 : Heap) (locs1 : List Loc), aH G O2.2.1 O2.2.2 H1 → (∀ q ∈ locs1, gB G ≤ q.base) → W p G.1 e R s m args below meth c H1 locs1 (cells + mc2) (slots + ms2) Q (F0 m (pc + 3) ls (O2.1.toList ++ rest))) : W p G.1 e R s m args below meth c H locs cells slots Q (F0 m pc ls st0) := by
  intro T hT X
  obtain ⟨v, st₀, t, T', L, h0, X', hL, e1, e2, ⟨hv, hh, hk⟩, stp⟩ := hr T hT X
  cases hv
  obtain ⟨t2, a1, b1⟩ := kk T'.heap (locs ++ L) (by rw [e1]; exact hh) (fun q hq => (List.mem_append.mp hq).elim (h2 q) (hL q)) T' rfl X'
  exact ⟨t2, stp t2 a1, b1⟩
/-- invokevirtual on an object of the method's own class -/
theorem r_callV (C : aC K cc own mn fr lc mc ms nL ret O) {W : Nat} {y : MethodName} {cy : ByteArray} {ny : Nat} {rt : Option FieldType} {n fr2 lc2 mc2 ms2 index b ci : Nat} {As rest : List Value} {O2 : oT} {T : u_T} {N : Nat} {fs : List Value} {rc' rs' : Nat} (hM : aM K.1 y cy ny rt fr2 lc2 mc2 ms2 (.ref b :: As) hp sz O2) (he : hp b = some (.inr (ci, fs))) (hc : vwCl[ci]? = some (y.cls, T, N)) (hm : mOK y cy ny rt n) (hi : mIN y) (hl : Cond.methodLink own index y ∈ lw_w) (hn : As.length = n) (hcat : (rest.map fun v => v.category).sum ≤ W) (hR : fr2 + 1 ≤ fr ∧ W + (ny + 11) + lc2 ≤ lc) (hst : st = As.reverse ++ .ref b :: rest) (d : decode cc pc = .ok (.invokevirtual index, 3)) (hrc : mc2 + rc' = rc) (hrs : ms2 + rs' = rs) (kk : aW K O2.2.1 O2.2.2 rc' rs' (pc + 3) lv (O2.1.toList ++ rest)) : aW K hp sz rc rs pc lv st := by
  obtain ⟨G, p, e, R, s, m, args, below, meth, c, n', O'⟩ := K
  obtain ⟨c1, c2, c3, c4, c5, c6, c7, c8, c9, c10, c11, c12⟩ := C
  subst c9
  subst c10
  intro H locs cells slots ls h1 h2 h3 h4 h5
  have h4 : cells + rc ≤ mc := h4
  have h5 : slots + rs ≤ ms := h5
  obtain ⟨cellB, hcB, hoB, hclB⟩ := va_recv c6.1 (h1.P he) (q0 := 0) hc rfl
  have hrun : va_Run p G.1 e { frames := fr, cells := mc, slots := ms, locals := lc } s m args below meth c H locs cells slots mc2 ms2 (F0 m pc ls st) rest (aQ G O2 (Value.ref b :: As).toArray) (fun q => gB G ≤ q) := by
    intro T hT X
    obtain ⟨v, vm₁, ⟨U', l2, c2', s2⟩, hW₁, X', ⟨g', mk, t, L, e1, e2, hq, g1, hL, g2, g3⟩, stp⟩ := callV X c1 (C := y.cls) (bytes := cy) (maxL := ny) (ret := rt) (W := W) c4 (c5 _ hl) (c5 _ hi.1) (c5 _ hi.2) (c5 _ hm.1) ⟨hm.2.2.1, hm.2.2.2.1⟩ (aBack c5 hM hm hR) (by rw [hT]; exact hcB) hoB hclB (g := F0 m pc ls st) rfl (h3.1.trans c3.symm) (argsL := As) (rest := rest) (aLen hm hn) hst (lv_roomW hcat) (by rw [c2]; exact d)
      (fun vm₁ hW₁ => ⟨show cells + mc2 ≤ mc by omega, show slots + ms2 ≤ ms by omega, rfl, by rw [show (T.setVm vm₁).heap = H from hT]; exact h1, aK.moved hW₁ c6⟩)
    dsimp only [Pt.U, Pt.locs, Pt.cells, Pt.slots] at X' e1 e2 g1 g2 g3 stp
    subst g1; subst g2; subst g3
    exact ⟨v, (T.setVm vm₁).calling g' mk (Value.ref b :: As).toArray, t, U', L, hT, X', hL, e1, e2, hq, stp⟩
  exact aGo hrun h2 (fun H1 locs1 g1 g2 => kk H1 locs1 _ _ ls g1 g2 h3 (show cells + mc2 + rc' ≤ mc by omega) (show slots + ms2 + rs' ≤ ms by omega))
/-- invokestatic -/
theorem r_callS (C : aC K cc own mn fr lc mc ms nL ret O) {W : Nat} {y : MethodName} {cy : ByteArray} {ny : Nat} {rt : Option FieldType} {n fr2 lc2 mc2 ms2 index : Nat} {As rest : List Value} {O2 : oT} {rc' rs' : Nat} (hM : aM K.1 y cy ny rt fr2 lc2 mc2 ms2 As hp sz O2) (hm : mOK y cy ny rt n) (hi : Cond.static y ∈ lw_w) (hl : Cond.methodLink own index y ∈ lw_w) (hn : As.length = n) (hcat : (rest.map fun v => v.category).sum ≤ W) (hR : fr2 + 1 ≤ fr ∧ W + (ny + 11) + lc2 ≤ lc) (hst : st = As.reverse ++ rest) (d : decode cc pc = .ok (.invokestatic index, 3)) (hrc : mc2 + rc' = rc) (hrs : ms2 + rs' = rs) (kk : aW K O2.2.1 O2.2.2 rc' rs' (pc + 3) lv (O2.1.toList ++ rest)) : aW K hp sz rc rs pc lv st := by
  obtain ⟨G, p, e, R, s, m, args, below, meth, c, n', O'⟩ := K
  obtain ⟨c1, c2, c3, c4, c5, c6, c7, c8, c9, c10, c11, c12⟩ := C
  subst c9
  subst c10
  intro H locs cells slots ls h1 h2 h3 h4 h5
  have h4 : cells + rc ≤ mc := h4
  have h5 : slots + rs ≤ ms := h5
  have hrun : va_Run p G.1 e { frames := fr, cells := mc, slots := ms, locals := lc } s m args below meth c H locs cells slots mc2 ms2 (F0 m pc ls st) rest (aQ G O2 As.toArray) (fun q => gB G ≤ q) := by
    intro T hT X
    obtain ⟨v, vm₁, ⟨U', l2, c2', s2⟩, hW₁, X', ⟨g', mk, t, L, e1, e2, hq, g1, hL, g2, g3⟩, stp⟩ := callS X c1 (bytes := cy) (maxL := ny) (ret := rt) (W := W) c4 (c5 _ hl) (c5 _ hi) (c5 _ hm.2.1) (c5 _ hm.1) ⟨hm.2.2.1, hm.2.2.2.1⟩ (aBack c5 hM hm hR) (g := F0 m pc ls st) rfl (h3.1.trans c3.symm) (argsL := As) (rest := rest) (aLen hm hn) hst (lv_roomW hcat) (by rw [c2]; exact d)
      (fun vm₁ hW₁ => ⟨show cells + mc2 ≤ mc by omega, show slots + ms2 ≤ ms by omega, rfl, by rw [show (T.setVm vm₁).heap = H from hT]; exact h1, aK.moved hW₁ c6⟩)
    dsimp only [Pt.U, Pt.locs, Pt.cells, Pt.slots] at X' e1 e2 g1 g2 g3 stp
    subst g1; subst g2; subst g3
    exact ⟨v, (T.setVm vm₁).calling g' mk As.toArray, t, U', L, hT, X', hL, e1, e2, hq, stp⟩
  exact aGo hrun h2 (fun H1 locs1 g1 g2 => kk H1 locs1 _ _ ls g1 g2 h3 (show cells + mc2 + rc' ≤ mc by omega) (show slots + ms2 + rs' ≤ ms by omega))
/-- a constructor -/
theorem r_callI (C : aC K cc own mn fr lc mc ms nL ret O) {W : Nat} {y : MethodName} {cy : ByteArray} {ny : Nat} {n fr2 lc2 mc2 ms2 index b : Nat} {As rest : List Value} {O2 : oT} {rc' rs' : Nat} (hM : aM K.1 y cy ny none fr2 lc2 mc2 ms2 (.ref b :: As) hp sz O2) (hm : mOK y cy ny none n) (hy : y.name = "<init>") (hi : Cond.instanceMethod y ∈ lw_w) (hl : Cond.methodLink own index y ∈ lw_w) (hn : As.length = n) (hcat : (rest.map fun v => v.category).sum ≤ W) (hR : fr2 + 1 ≤ fr ∧ W + (ny + 11) + lc2 ≤ lc) (hst : st = As.reverse ++ .ref b :: rest) (d : decode cc pc = .ok (.invokespecial index, 3)) (hrc : mc2 + rc' = rc) (hrs : ms2 + rs' = rs) (kk : aW K O2.2.1 O2.2.2 rc' rs' (pc + 3) lv (O2.1.toList ++ rest)) : aW K hp sz rc rs pc lv st := by
  obtain ⟨G, p, e, R, s, m, args, below, meth, c, n', O'⟩ := K
  obtain ⟨c1, c2, c3, c4, c5, c6, c7, c8, c9, c10, c11, c12⟩ := C
  subst c9
  subst c10
  intro H locs cells slots ls h1 h2 h3 h4 h5
  have h4 : cells + rc ≤ mc := h4
  have h5 : slots + rs ≤ ms := h5
  have hrun : va_Run p G.1 e { frames := fr, cells := mc, slots := ms, locals := lc } s m args below meth c H locs cells slots mc2 ms2 (F0 m pc ls st) rest (aQ G O2 (Value.ref b :: As).toArray) (fun q => gB G ≤ q) := by
    intro T hT X
    obtain ⟨v, vm₁, ⟨U', l2, c2', s2⟩, hW₁, X', ⟨g', mk, t, L, e1, e2, hq, g1, hL, g2, g3⟩, stp⟩ := callI X c1 (bytes := cy) (maxL := ny) (W := W) c4 hy (c5 _ hl) (c5 _ hi) (c5 _ hm.1) ⟨hm.2.2.1, hm.2.2.2.1⟩ (aBack c5 hM hm hR) (g := F0 m pc ls st) rfl (h3.1.trans c3.symm) (a := b) (argsL := As) (rest := rest) (aLen hm hn) hst (lv_roomW hcat) (by rw [c2]; exact d)
      (fun vm₁ hW₁ => ⟨show cells + mc2 ≤ mc by omega, show slots + ms2 ≤ ms by omega, rfl, by rw [show (T.setVm vm₁).heap = H from hT]; exact h1, aK.moved hW₁ c6⟩)
    dsimp only [Pt.U, Pt.locs, Pt.cells, Pt.slots] at X' e1 e2 g1 g2 g3 stp
    subst g1; subst g2; subst g3
    exact ⟨v, (T.setVm vm₁).calling g' mk (Value.ref b :: As).toArray, t, U', L, hT, X', hL, e1, e2, hq, stp⟩
  exact aGo hrun h2 (fun H1 locs1 g1 g2 => kk H1 locs1 _ _ ls g1 g2 h3 (show cells + mc2 + rc' ≤ mc by omega) (show slots + ms2 + rs' ≤ ms by omega))
/-- the end of Object's constructor -/
theorem r_objInit (C : aC K cc own mn fr lc mc ms nL ret O) {a idx : Nat} (hl : Cond.methodLink own idx Lib.objectInit ∈ lw_w) (hi : Cond.instanceMethod Lib.objectInit ∈ lw_w) (hc : Cond.code Lib.objectInit ⟨#[0xb1]⟩ 1 none ∈ lw_w) (hR : 1 ≤ fr ∧ (st.map fun v => v.category).sum + 12 ≤ lc) (d : decode cc pc = .ok (.invokespecial idx, 3)) (kk : aW K hp sz rc rs (pc + 3) lv st) : aW K hp sz rc rs pc lv (.ref a :: st) := by
  obtain ⟨G, p, e, R, s, m, args, below, meth, c, n', O'⟩ := K
  obtain ⟨c1, c2, c3, c4, c5, c6, c7, c8, c9, c10, c11, c12⟩ := C
  subst c9
  subst c10
  intro H locs cells slots ls h1 h2 h3 h4 h5
  refine W.objInit c1 c2 c4 (c5 _ hl) (c5 _ hi) (c5 _ hc) rfl (by rw [c3]; exact h3.1) rfl d hR.1 (by show 2 * 0 + _ + 12 ≤ lc; omega) ?_
  exact kk H locs cells slots ls h1 h2 h3 h4 h5
/-- new -/
theorem r_new (C : aC K cc own mn fr lc mc ms nL ret O) {ci N index : Nat} {Cn : String} {T : u_T} {fs : List Value} {rc' rs' : Nat} (ty : Nat → FieldType) (hty : ∀ k, k < N → parseFieldDescriptor (T k).2.2.1 = some (ty k)) (hc : vwCl[ci]? = some (Cn, T, N)) (hin : ∀ w ∈ u_ws Cn T N, w ∈ lw_w) (hcl : Cond.classLink own index Cn ∈ lw_w) (hins : Cond.instantiable Cn N ∈ lw_w) (hini : Cond.initialized Cn ∈ lw_w) (hfs : ∀ j, j < N → defaultValue (ty j) = vp_V fs j) (d : decode cc pc = .ok (.new index, 3)) (hrc : 1 + rc' = rc) (hrs : N + rs' = rs) (kk : aW K (va_up hp sz (some (.inr (ci, fs)))) (sz + 1) rc' rs' (pc + 3) lv (.ref sz :: st)) : aW K hp sz rc rs pc lv st := by
  obtain ⟨G, p, e, R, s, m, args, below, meth, c, n', O'⟩ := K
  obtain ⟨c1, c2, c3, c4, c5, c6, c7, c8, c9, c10, c11, c12⟩ := C
  intro H locs cells slots ls h1 h2 h3 h4 h5
  have hKn := c6.1.1 ci _ hc
  refine W.newcK c1 c2 c4 (c5 _ hcl) (c5 _ hins) (c5 _ hini) rfl d (by omega) (by omega) hKn.2.1 h1.1 fun H1 kC hkC e1 z1 o1 => ?_
  refine kk H1 locs _ _ ls (h1.push z1 o1 ?_) h2 h3 (by omega) (by omega)
  exact ⟨_, hc, (u_born ty c5 hin hKn hkC e1 hty).to hfs⟩
/-- new long[n], new int[n] -/
theorem r_newl (C : aC K cc own mn fr lc mc ms nL ret O) {n : Int32} {N rc' rs' : Nat} (harr : Cond.arrayClass .long ∈ lw_w) (hn : ¬ n < 0) (hN : n.toNatClampNeg = N) (hb : N * 8 ≤ 536870912) (d : decode cc pc = .ok (.newarray .long, 2)) (hrc : 1 + rc' = rc) (hrs : N + rs' = rs) (kk : aW K (va_up hp sz (some (.inl (1, N, .inr (.inl (fun _ => 0)))))) (sz + 1) rc' rs' (pc + 2) lv (.ref sz :: st)) : aW K hp sz rc rs pc lv (.int n :: st) := by
  obtain ⟨G, p, e, R, s, m, args, below, meth, c, n', O'⟩ := K
  obtain ⟨c1, c2, c3, c4, c5, c6, c7, c8, c9, c10, c11, c12⟩ := C
  intro H locs cells slots ls h1 h2 h3 h4 h5
  refine va_newaK (atype := .long) c1 c2 (c5 _ harr) rfl d rfl hn hN hb (by omega) (by omega) h1.1 fun H1 cA e1 z1 o1 hAr hNm => ?_
  refine kk H1 locs _ _ ls (h1.push z1 o1 ?_) h2 h3 (by omega) (by omega)
  have hcA : cA = gA G 1 := Option.some.inj (hNm.symm.trans (c6.1.2 1 (gA G 1, .long) rfl).2)
  subst hcA
  exact e1
theorem r_newi (C : aC K cc own mn fr lc mc ms nL ret O) {n : Int32} {N rc' rs' : Nat} (harr : Cond.arrayClass .int ∈ lw_w) (hn : ¬ n < 0) (hN : n.toNatClampNeg = N) (hb : N * 4 ≤ 536870912) (d : decode cc pc = .ok (.newarray .int, 2)) (hrc : 1 + rc' = rc) (hrs : N + rs' = rs) (kk : aW K (va_up hp sz (some (.inl (0, N, .inl (fun _ => 0))))) (sz + 1) rc' rs' (pc + 2) lv (.ref sz :: st)) : aW K hp sz rc rs pc lv (.int n :: st) := by
  obtain ⟨G, p, e, R, s, m, args, below, meth, c, n', O'⟩ := K
  obtain ⟨c1, c2, c3, c4, c5, c6, c7, c8, c9, c10, c11, c12⟩ := C
  intro H locs cells slots ls h1 h2 h3 h4 h5
  refine va_newaK (atype := .int) c1 c2 (c5 _ harr) rfl d rfl hn hN hb (by omega) (by omega) h1.1 fun H1 cA e1 z1 o1 hAr hNm => ?_
  refine kk H1 locs _ _ ls (h1.push z1 o1 ?_) h2 h3 (by omega) (by omega)
  have hcA : cA = gA G 0 := Option.some.inj (hNm.symm.trans (c6.1.2 0 (gA G 0, .int) rfl).2)
  subst hcA
  exact e1
/-- the same with the answer told: a value, or none -/
theorem q_callV (C : aC K cc own mn fr lc mc ms nL ret O) (W : Nat) {y : MethodName} {cy : ByteArray} {ny : Nat} {rt : Option FieldType} {n fr2 lc2 mc2 ms2 index b ci : Nat} {As rest : List Value} {v2 : Value} {hp2 : cH} {sz2 : Nat} {T : u_T} {N : Nat} {fs : List Value} (rc' rs' : Nat) (hM : aM K.1 y cy ny rt fr2 lc2 mc2 ms2 (.ref b :: As) hp sz (some v2, hp2, sz2)) (hst : st = As.reverse ++ .ref b :: rest) (he : hp b = some (.inr (ci, fs))) (hc : vwCl[ci]? = some (y.cls, T, N)) (hm : mOK y cy ny rt n) (hi : mIN y) (hl : Cond.methodLink own index y ∈ lw_w) (hn : As.length = n) (hcat : (rest.map fun v => v.category).sum ≤ W) (hR : fr2 + 1 ≤ fr ∧ W + (ny + 11) + lc2 ≤ lc) (d : decode cc pc = .ok (.invokevirtual index, 3)) (hrc : mc2 + rc' = rc) (hrs : ms2 + rs' = rs) (kk : aW K hp2 sz2 rc' rs' (pc + 3) lv (v2 :: rest)) : aW K hp sz rc rs pc lv st :=
  r_callV C hM he hc hm hi hl hn hcat hR hst d hrc hrs kk
theorem q_callVv (C : aC K cc own mn fr lc mc ms nL ret O) (W : Nat) {y : MethodName} {cy : ByteArray} {ny : Nat} {rt : Option FieldType} {n fr2 lc2 mc2 ms2 index b ci : Nat} {As rest : List Value} {hp2 : cH} {sz2 : Nat} {T : u_T} {N : Nat} {fs : List Value} (rc' rs' : Nat) (hM : aM K.1 y cy ny rt fr2 lc2 mc2 ms2 (.ref b :: As) hp sz (none, hp2, sz2)) (hst : st = As.reverse ++ .ref b :: rest) (he : hp b = some (.inr (ci, fs))) (hc : vwCl[ci]? = some (y.cls, T, N)) (hm : mOK y cy ny rt n) (hi : mIN y) (hl : Cond.methodLink own index y ∈ lw_w) (hn : As.length = n) (hcat : (rest.map fun v => v.category).sum ≤ W) (hR : fr2 + 1 ≤ fr ∧ W + (ny + 11) + lc2 ≤ lc) (d : decode cc pc = .ok (.invokevirtual index, 3)) (hrc : mc2 + rc' = rc) (hrs : ms2 + rs' = rs) (kk : aW K hp2 sz2 rc' rs' (pc + 3) lv rest) : aW K hp sz rc rs pc lv st :=
  r_callV C hM he hc hm hi hl hn hcat hR hst d hrc hrs kk
theorem q_callS (C : aC K cc own mn fr lc mc ms nL ret O) (W : Nat) {y : MethodName} {cy : ByteArray} {ny : Nat} {rt : Option FieldType} {n fr2 lc2 mc2 ms2 index : Nat} {As rest : List Value} {v2 : Value} {hp2 : cH} {sz2 : Nat} (rc' rs' : Nat) (hM : aM K.1 y cy ny rt fr2 lc2 mc2 ms2 As hp sz (some v2, hp2, sz2)) (hst : st = As.reverse ++ rest) (hm : mOK y cy ny rt n) (hi : Cond.static y ∈ lw_w) (hl : Cond.methodLink own index y ∈ lw_w) (hn : As.length = n) (hcat : (rest.map fun v => v.category).sum ≤ W) (hR : fr2 + 1 ≤ fr ∧ W + (ny + 11) + lc2 ≤ lc) (d : decode cc pc = .ok (.invokestatic index, 3)) (hrc : mc2 + rc' = rc) (hrs : ms2 + rs' = rs) (kk : aW K hp2 sz2 rc' rs' (pc + 3) lv (v2 :: rest)) : aW K hp sz rc rs pc lv st :=
  r_callS C hM hm hi hl hn hcat hR hst d hrc hrs kk
theorem q_callSv (C : aC K cc own mn fr lc mc ms nL ret O) (W : Nat) {y : MethodName} {cy : ByteArray} {ny : Nat} {rt : Option FieldType} {n fr2 lc2 mc2 ms2 index : Nat} {As rest : List Value} {hp2 : cH} {sz2 : Nat} (rc' rs' : Nat) (hM : aM K.1 y cy ny rt fr2 lc2 mc2 ms2 As hp sz (none, hp2, sz2)) (hst : st = As.reverse ++ rest) (hm : mOK y cy ny rt n) (hi : Cond.static y ∈ lw_w) (hl : Cond.methodLink own index y ∈ lw_w) (hn : As.length = n) (hcat : (rest.map fun v => v.category).sum ≤ W) (hR : fr2 + 1 ≤ fr ∧ W + (ny + 11) + lc2 ≤ lc) (d : decode cc pc = .ok (.invokestatic index, 3)) (hrc : mc2 + rc' = rc) (hrs : ms2 + rs' = rs) (kk : aW K hp2 sz2 rc' rs' (pc + 3) lv rest) : aW K hp sz rc rs pc lv st :=
  r_callS C hM hm hi hl hn hcat hR hst d hrc hrs kk
theorem q_callI (C : aC K cc own mn fr lc mc ms nL ret O) (W : Nat) {y : MethodName} {cy : ByteArray} {ny : Nat} {n fr2 lc2 mc2 ms2 index b : Nat} {As rest : List Value} {hp2 : cH} {sz2 : Nat} (rc' rs' : Nat) (hM : aM K.1 y cy ny none fr2 lc2 mc2 ms2 (.ref b :: As) hp sz (none, hp2, sz2)) (hst : st = As.reverse ++ .ref b :: rest) (hm : mOK y cy ny none n) (hy : y.name = "<init>") (hi : Cond.instanceMethod y ∈ lw_w) (hl : Cond.methodLink own index y ∈ lw_w) (hn : As.length = n) (hcat : (rest.map fun v => v.category).sum ≤ W) (hR : fr2 + 1 ≤ fr ∧ W + (ny + 11) + lc2 ≤ lc) (d : decode cc pc = .ok (.invokespecial index, 3)) (hrc : mc2 + rc' = rc) (hrs : ms2 + rs' = rs) (kk : aW K hp2 sz2 rc' rs' (pc + 3) lv rest) : aW K hp sz rc rs pc lv st :=
  r_callI C hM hm hy hi hl hn hcat hR hst d hrc hrs kk
end HROWS
