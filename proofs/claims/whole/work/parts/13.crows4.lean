/-! a null into an array of references -/
section CROWS4
variable {p : Program} {l : Launch} {e : Env} {R : Room} {s : State} {m : MethodId} {args : Array Value} {below : List Frame} {meth : Method} {c : Code} {H : Heap} {locs : List Loc} {cells slots : Nat}
theorem an_0 {T : State} (X : Stand p l e R s m args below meth c T locs cells slots) (hexec : p.tables.exec = Jvm.exec) {a : Addr} {cell : Cell} {t : FieldType} (ht : fits t .null = true) {j : Int32} (hcell : T.heap[a]? = some cell) (harr : s.isArrayOf cell t) (hknown : cell.vm ≠ .unknown)
    (hin : ¬ (j < 0 ∨ cell.slots.size ≤ j.toNatClampNeg))
    {g : JFrame} (hg : g.method = m) {rest : List Value} (hstack : g.stack = .null :: .int j :: .ref a :: rest) (hdg : decode c.code g.pc = .ok (.aastore, 1)) :
    Stand p l e R s m args below meth c (T.setCell a (cell.setSlot j.toNatClampNeg .null)) (locs ++ [⟨a, j.toNatClampNeg⟩]) cells slots ∧
      ∀ target, Steps p.tables e below ((T.setCell a (cell.setSlot j.toNatClampNeg .null)).setTop { g with pc := g.pc + 1, stack := rest }) target → Steps p.tables e below (T.setTop g) target := by
  have hT := State.isArrayOf_alike X.warmed.alike harr
  have hfit : T.fitsSlot cell.cls cell.vm j.toNatClampNeg .null = true := by
    obtain ⟨hobj, k, hk, comp, hkind⟩ := hT
    cases hvm : cell.vm <;> first | exact absurd hvm (hobj _) | simp [State.fitsSlot, State.slotType?, hk, hkind, ht]
  refine ⟨X.stored hcell _ _, fun target hrest => ?_⟩
  subst hg
  jvm_step X.here [hexec, hdg]
  refine aastore.wp_of_null (c := cell) (t := t) X.here.top hstack hcell hT hin hknown (Nat.not_le.mp fun q => hin (Or.inr q)) hfit ?_
  intro acts
  rw [afterInstr_ok]
  exact hrest
theorem an_W {Q : State → Prop} {cc : ByteArray} (hexec : p.tables.exec = Jvm.exec) (hb : c.code = cc) {a : Addr} {cell : Cell} {t : FieldType} (ht : fits t .null = true) {j : Int32} (hcell : H[a]? = some cell) (harr : s.isArrayOf cell t) (hknown : cell.vm ≠ .unknown) (hin : ¬ (j < 0 ∨ cell.slots.size ≤ j.toNatClampNeg))
    {g : JFrame} (hg : g.method = m) {rest : List Value} (hstack : g.stack = .null :: .int j :: .ref a :: rest) (hdg : decode cc g.pc = .ok (.aastore, 1))
    (kk : ∀ H' : Heap, H'[a]? = some (cell.setSlot j.toNatClampNeg .null) → H'.size = H.size → (∀ q, q ≠ a → H'[q]? = H[q]?) → W p l e R s m args below meth c H' (locs ++ [⟨a, j.toNatClampNeg⟩]) cells slots Q { g with pc := g.pc + 1, stack := rest }) :
    W p l e R s m args below meth c H locs cells slots Q g := by
  intro T hT X
  have hT' : T.heap[a]? = some cell := by rw [hT]; exact hcell
  obtain ⟨X', st⟩ := an_0 X hexec ht hT' harr hknown hin hg hstack (by rw [hb]; exact hdg)
  have hlt : a < T.heap.size := (Array.getElem?_eq_some_iff.mp hT').1
  obtain ⟨t', a1, b1⟩ := kk _ (heapAt_setCell_self _ hlt) (by rw [size_setCell, hT]) (fun q hq => by rw [heapAt_setCell_ne _ (Ne.symm hq), hT]) (T.setCell a (cell.setSlot j.toNatClampNeg .null)) rfl X'
  exact ⟨t', st t' a1, b1⟩
end CROWS4
def sRo (kd : Nat) (hp : cH) (a : Nat) (i : Int32) (v : Option Nat) : Option cH := match v with
  | some v => sR kd hp a i v
  | none => (aR kd hp a).bind fun w => if gi i w.1 then some (va_up hp a (some (.inl (kd, w.1, .inr (.inr (.inr (.inr (va_up w.2 i.toNatClampNeg none)))))))) else none
theorem k_sRo {K : kT} {cc : ByteArray} {own mn : String} {fr lc mc ms nL : Nat} {ret : Option FieldType} {O : oT} {hp hp' : cH} {sz rc rs pc : Nat} {lv : List (Nat × Value)} {st : List Value} (C : aC K cc own mn fr lc mc ms nL ret O) {kd a : Nat} {u : Option Nat} {i : Int32} (hkd : kd = 2 ∨ kd = 3) (e : sRo kd hp a i u = some hp') (d : decode cc pc = .ok (.aastore, 1)) (kk : aW K hp' sz rc rs (pc + 1) lv st) : aW K hp sz rc rs pc lv (va_rf u :: .int i :: .ref a :: st) := by
  cases u with
  | some v => exact k_sR C hkd e d kk
  | none =>
    obtain ⟨w, e1, e2⟩ := bd_i e
    obtain ⟨hi, e3⟩ := gd_t e2
    obtain rfl := sm_i e3
    obtain ⟨G, p, e, R, s, m, args, below, meth, c, n, O'⟩ := K
    obtain ⟨c1, c2, c3, c4, c5, c6, c7, c8, c9, c10, c11, c12⟩ := C
    intro H locs cells slots ls h1 h2 h3 h4 h5
    have he := aR_s e1
    obtain ⟨ty, t1, t2, -⟩ := aRC c6 hkd
    have hfn : fits ty .null = true := by
      cases ty <;> first | rfl | cases t1
    refine an_W (t := ty) c1 c2 hfn (h1.2.2.2 a _ he).2 ((c6.1.2 kd _ t2).1 w.1 (fun j => va_rf (w.2 j))) (fun h => by cases h) (by show ¬ (i < 0 ∨ (arrV _ _ _).slots.size ≤ _); rw [arrV_size]; exact fun q => q.elim hi.1 (fun z => absurd z (Nat.not_le.mpr hi.2))) rfl rfl d fun H1 ec z oq => ?_
    refine kk H1 _ cells slots ls (h1.set he z oq ?_) (fun q hq => ?_) h3 h4 h5
    · show H1[a]? = some (vp_cell _ _)
      rw [ec]
      show some ((vp_cell (gA G kd) (w.1, .inr (.inr (.inr (.inr w.2))))).setSlot _ _) = some (vp_cell (gA G kd) (w.1, .inr (.inr (.inr (.inr (va_up w.2 i.toNatClampNeg none))))))
      rw [vp_cell_q, vp_cell_q, arrV_store]
      congr 2
      funext q
      by_cases hq : q = i.toNatClampNeg
      · subst hq
        simp [updV, va_up, va_rf]
      · simp [updV, va_up, hq]
    · rcases List.mem_append.mp hq with h | h
      · exact h2 q h
      · rw [List.mem_singleton.mp h]
        exact (h1.2.2.2 a _ he).1
