/-! THE LAYER OVER THE KIT'S ROWS: an abstract heap (address ↦ cell), one deterministic judgement 'aW' a frame, one contract 'aM' a method (arguments, heap ↦ answer, heap). -/
/-- the words that may be handed down to callees -/
def lw_w : List Cond := lw_tbl.filter goodWord
theorem lw_w_in {w : Cond} (h : w ∈ lw_w) : w ∈ lw_tbl := (List.mem_filter.mp h).1
theorem lw_w_good {big : List Cond} (hb : ∀ w ∈ lw_w, w ∈ big) {ws : List Cond} (h : ∀ w ∈ ws, w ∈ lw_w) : GoodIn big ws := fun w hw => ⟨hb w (h w hw), good_of_word (List.mem_filter.mp (h w hw)).2⟩
/-- launch, the state at the law's start, classes, slots, array classes -/
abbrev gT : Type := Launch × State × (Nat → ClassId) × (Nat → Nat → Nat) × (Nat → ClassId)
def gD (G : gT) : va_G := (G.2.2.1, G.2.2.2.1)
def gA (G : gT) : Nat → ClassId := G.2.2.2.2
def gB (G : gT) : Nat := G.2.1.heap.size
/-- a cell: an array of a kind (0 int, 1 long, 2 Item, 3 long[]), or an object of a class -/
abbrev cV : Type := (Nat × vp_A) ⊕ (Nat × List Value)
abbrev cH : Type := Nat → Option cV
def aE (G : gT) (v : cV) : va_E := match v with
  | .inl k => .inl (gA G k.1, k.2)
  | .inr o => .inr o
def aH (G : gT) (hp : cH) (sz : Nat) (H : Heap) : Prop := H.size = sz ∧ gB G ≤ sz ∧ (∀ q, q < gB G → H[q]? = G.2.1.heap[q]?) ∧ ∀ (a : Nat) (v : cV), hp a = some v → gB G ≤ a ∧ va_at (gD G) vwCl (a, aE G v) H
def aTy (G : gT) : List (ClassId × FieldType) := [(gA G 0, .int), (gA G 1, .long), (gA G 2, .object "ProjectiveRows$Item"), (gA G 3, .array .long)]
/-- the two tables of the class -/
def sTri : Nat → Int32 := fun j => [0, 1, 3, 4, 1, 2, 4, 5, 2, 0, 5, 3].getD j 0
def sHex : Nat → Int32 := fun j => [0, 1, 3, 4, 1, 2, 4, 5, 2, 3, 5, 0].getD j 0
/-- what holds of the start: array classes, Cloneable, the static tables -/
def gF (G : gT) : Prop := va_AO "ProjectiveRows$Item" G.2.1 ∧ (Cond.arrayOver (.array .long)).before #[] G.2.1 = true ∧ va_Nw (.castable "[J" "java/lang/Cloneable") G.2.1 ∧ (∃ t, va_Z "ProjectiveRows" "SIDES_OF_TRIANGLES" "[I" (.ref t) (fun q => gB G ≤ q) G.2.1 G.2.1.heap ∧ va_T .int t 12 (fun j => .int (sTri j)) (fun q => gB G ≤ q) G.2.1 G.2.1.heap) ∧ ∃ t, va_Z "ProjectiveRows" "SIDES_OF_HEXAGON" "[I" (.ref t) (fun q => gB G ≤ q) G.2.1 G.2.1.heap ∧ va_T .int t 12 (fun j => .int (sHex j)) (fun q => gB G ≤ q) G.2.1 G.2.1.heap
/-- the constructor of Shelf, linked across the nest -/
def wNest : Cond := .methodLinkNest "ProjectiveRows" 9 yX3_init "ProjectiveRows"
def aK (G : gT) (U : State) : Prop := va_K (gD G) vwCl (aTy G) U ∧ G.2.1.vm.Alike U.vm ∧ gF G ∧ va_Nw wNest U
theorem aK.moved {G : gT} {u U : State} (h : u.WarmedH U.vm) (k : aK G u) : aK G U := ⟨va_K.moved h.alike k.1, k.2.1.trans h.alike, k.2.2.1, va_Nw.warmM h k.2.2.2⟩
theorem aK.same {G : gT} {u U : State} (h : u.vm = U.vm) (k : aK G u) : aK G U := ⟨va_K.moved (h ▸ Vm.Alike.refl u.vm) k.1, h ▸ k.2.1, k.2.2.1, va_Nw.same rfl h k.2.2.2⟩
theorem aH.lt {G : gT} {hp : cH} {sz : Nat} {H : Heap} (h : aH G hp sz H) {a : Nat} {v : cV} (e : hp a = some v) : a < sz := by
  have := (h.2.2.2 a v e).2.lt
  rw [h.1] at this
  exact this
theorem aH.P {G : gT} {hp : cH} {sz : Nat} {H : Heap} (h : aH G hp sz H) {a : Nat} {v : cV} (e : hp a = some v) : va_P (gD G) vwCl [(a, aE G v)] H := by
  intro k q hq
  have hk : k < 1 := (List.getElem?_eq_some_iff.mp hq).1
  rw [show k = 0 by omega] at hq
  cases hq
  exact (h.2.2.2 a v e).2
/-- one cell changes -/
theorem aH.set {G : gT} {hp : cH} {sz : Nat} {H H1 : Heap} (h : aH G hp sz H) {a : Nat} {v v' : cV} (e : hp a = some v) (z : H1.size = H.size) (oq : ∀ q, q ≠ a → H1[q]? = H[q]?) (hv : va_at (gD G) vwCl (a, aE G v') H1) : aH G (va_up hp a (some v')) sz H1 := by
  refine ⟨z.trans h.1, h.2.1, fun q hq => ?_, fun b w hw => ?_⟩
  · have := (h.2.2.2 a v e).1
    rw [oq q (by omega)]
    exact h.2.2.1 q hq
  · by_cases hb : b = a
    · subst hb
      have : w = v' := by simpa [va_up] using hw.symm
      subst this
      exact ⟨(h.2.2.2 b v e).1, hv⟩
    · have hw' : hp b = some w := by simpa [va_up, hb] using hw
      exact ⟨(h.2.2.2 b w hw').1, (h.2.2.2 b w hw').2.kept (oq b hb)⟩
/-- a cell comes -/
theorem aH.push {G : gT} {hp : cH} {sz : Nat} {H H1 : Heap} (h : aH G hp sz H) {v' : cV} (z : H1.size = sz + 1) (oq : ∀ q, q < sz → H1[q]? = H[q]?) (hv : va_at (gD G) vwCl (sz, aE G v') H1) : aH G (va_up hp sz (some v')) (sz + 1) H1 := by
  have h0 := h.2.1
  refine ⟨z, by omega, fun q hq => ?_, fun b w hw => ?_⟩
  · rw [oq q (by omega)]
    exact h.2.2.1 q hq
  · by_cases hb : b = sz
    · subst hb
      have : w = v' := by simpa [va_up] using hw.symm
      subst this
      exact ⟨h0, hv⟩
    · have hw' : hp b = some w := by simpa [va_up, hb] using hw
      exact ⟨(h.2.2.2 b w hw').1, (h.2.2.2 b w hw').2.kept (oq b (h.lt hw'))⟩
/-- a method's end: answer, heap, size -/
abbrev oT : Type := Option Value × cH × Nat
def aQ (G : gT) (O : oT) : Array Value → State → Outcome → State → Prop := fun _ _ oc t => oc = .returned O.1 ∧ aH G O.2.1 O.2.2 t.heap ∧ aK G t
/-- the frame's constants: machine, room, state at entry, method, its end -/
abbrev kT : Type := gT × Program × Env × Room × State × MethodId × Array Value × List Frame × Method × Code × Nat × oT
def aC (K : kT) (cc : ByteArray) (own mn : String) (fr lc mc ms nL : Nat) (ret : Option FieldType) (O : oT) : Prop := match K with
  | (G, p, _, R, s, m, args, _, meth, c, n, O') => p.tables.exec = Jvm.exec ∧ c.code = cc ∧ c.maxLocals = nL ∧ s.vm.findClass own = some m.cls ∧ (∀ w ∈ lw_w, w.before args s = true) ∧ aK G s ∧ meth.sig.returnType = ret ∧ meth.locks = false ∧ R = { frames := fr, cells := mc, slots := ms, locals := lc } ∧ n = nL ∧ O' = O ∧ meth.name = mn
def aW (K : kT) (hp : cH) (sz rc rs pc : Nat) (lv : List (Nat × Value)) (st : List Value) : Prop := match K with
  | (G, p, e, R, s, m, args, below, meth, c, nL, O) => ∀ (H : Heap) (locs : List Loc) (cells slots : Nat) (ls : Array Slot), aH G hp sz H → (∀ q ∈ locs, gB G ≤ q.base) → lv_has ls nL lv → cells + rc ≤ R.cells → slots + rs ≤ R.slots → W p G.1 e R s m args below meth c H locs cells slots (MQ below (aQ G O) args s R.cells R.slots (fun q => gB G ≤ q)) (F0 m pc ls st)
/-- a method's contract: from these arguments and this heap it comes to this end -/
def aM (G : gT) (y : MethodName) (cc : ByteArray) (nL : Nat) (ret : Option FieldType) (fr lc mc ms : Nat) (As : List Value) (hp : cH) (sz : Nat) (O : oT) : Prop :=
  Met G.1 y (Cond.code y cc nL ret :: lw_w) { frames := fr, cells := mc, slots := ms, locals := lc } (va_Pc As (fun U => aH G hp sz U.heap ∧ aK G U)) (aQ G O) mc ms (fun q => gB G ≤ q)
theorem aM.of {G : gT} {y : MethodName} {cc : ByteArray} {nL : Nat} {ret : Option FieldType} {fr lc mc ms : Nat} {As : List Value} {hp : cH} {sz : Nat} {O : oT} (own : String) (hy : plainName y.cls = true) (ho : y.cls = own) (hL : (lg_sl As).length ≤ nL) (w : ∀ K : kT, aC K cc own y.name fr lc mc ms nL ret O → aW K hp sz mc ms 0 (lv_args 0 As) []) : aM G y cc nL ret fr lc mc ms As hp sz O := by
  refine Met.ofW (cc := cc) (maxL := nL) (ret := ret) hy rfl ?_
  intro p e s m args below meth c s₁ B hml hv
  obtain ⟨rfl, hh, hk⟩ := hv
  have hts := atoms_spec (ws := Cond.code y cc nL ret :: lw_w) B.pre
  have hown : s.vm.findClass own = some m.cls := by rw [← ho]; exact findClass_of_methodNamed B.named
  have hl := lv_entry As (n := nL) hL
  rw [lg_entry_eq]
  exact w (G, p, e, _, s, m, _, below, meth, c, nL, O) ⟨B.exec, B.bytes, hml, hown, fun x hx => hts x (List.mem_cons_of_mem _ hx), hk, B.returns, B.notSynchronized, rfl, rfl, rfl, (name_of_methodNamed B.named B.method).1⟩ s.heap [] 0 0 _ hh (fun _ h => by cases h) hl (Nat.le_of_eq (Nat.zero_add _)) (Nat.le_of_eq (Nat.zero_add _))
