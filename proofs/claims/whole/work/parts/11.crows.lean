/-! HEAP FUNCTIONS: what an instruction does to the heap, none where the machine would throw -/
def gI (hp : cH) (a ci k : Nat) : Option Int32 := match hp a with
  | some (.inr (c, fs)) => if c = ci then (match fs[k]? with | some (.int v) => some v | _ => none) else none
  | _ => none
def gJ (hp : cH) (a ci k : Nat) : Option Int64 := match hp a with
  | some (.inr (c, fs)) => if c = ci then (match fs[k]? with | some (.long v) => some v | _ => none) else none
  | _ => none
def gR (hp : cH) (a ci k : Nat) : Option Nat := match hp a with
  | some (.inr (c, fs)) => if c = ci then (match fs[k]? with | some (.ref v) => some v | _ => none) else none
  | _ => none
def pV (hp : cH) (a ci k : Nat) (v : Value) : Option cH := match hp a with
  | some (.inr (c, fs)) => if c = ci ∧ k < fs.length then some (va_up hp a (some (.inr (ci, fs.set k v)))) else none
  | _ => none
def isO (hp : cH) (a ci : Nat) : Bool := match hp a with
  | some (.inr (c, _)) => c == ci
  | _ => false
def aI (hp : cH) (a : Nat) : Option (Nat × (Nat → Int32)) := match hp a with
  | some (.inl (0, n, .inl f)) => some (n, f)
  | _ => none
def aJ (hp : cH) (a : Nat) : Option (Nat × (Nat → Int64)) := match hp a with
  | some (.inl (1, n, .inr (.inl f))) => some (n, f)
  | _ => none
/-- kind 2: Item[], kind 3: long[][] -/
def aR (kd : Nat) (hp : cH) (a : Nat) : Option (Nat × (Nat → Option Nat)) := match hp a with
  | some (.inl (k, n, .inr (.inr (.inr (.inr f))))) => if k = kd then some (n, f) else none
  | _ => none
def lI (hp : cH) (a : Nat) (i : Int32) : Option Int32 := (aI hp a).bind fun w => if gi i w.1 then some (w.2 i.toNatClampNeg) else none
def lJ (hp : cH) (a : Nat) (i : Int32) : Option Int64 := (aJ hp a).bind fun w => if gi i w.1 then some (w.2 i.toNatClampNeg) else none
def lR (kd : Nat) (hp : cH) (a : Nat) (i : Int32) : Option (Option Nat) := (aR kd hp a).bind fun w => if gi i w.1 then some (w.2 i.toNatClampNeg) else none
def sI (hp : cH) (a : Nat) (i v : Int32) : Option cH := (aI hp a).bind fun w => if gi i w.1 then some (va_up hp a (some (.inl (0, w.1, .inl (upd w.2 i.toNatClampNeg v))))) else none
def sJ (hp : cH) (a : Nat) (i : Int32) (v : Int64) : Option cH := (aJ hp a).bind fun w => if gi i w.1 then some (va_up hp a (some (.inl (1, w.1, .inr (.inl (vp_updL w.2 i.toNatClampNeg v)))))) else none
/-- what may be stored into an array of references -/
def okR (kd : Nat) (hp : cH) (v : Nat) : Bool := match hp v with
  | some (.inr (c, _)) => kd == 2 && c == 1
  | some (.inl (k, _)) => kd == 3 && k == 1
  | _ => false
def sR (kd : Nat) (hp : cH) (a : Nat) (i : Int32) (v : Nat) : Option cH := (aR kd hp a).bind fun w => if gi i w.1 ∧ okR kd hp v = true then some (va_up hp a (some (.inl (kd, w.1, .inr (.inr (.inr (.inr (va_up w.2 i.toNatClampNeg (some v))))))))) else none
def aN (hp : cH) (a : Nat) : Option Int32 := match hp a with
  | some (.inl (k, n, _)) => if k < 4 then some (Int32.ofNat n) else none
  | _ => none
def nI_ (hp : cH) (sz : Nat) (n : Int32) : Option cH := if ¬ n < 0 ∧ n.toNatClampNeg ≤ 64 then some (va_up hp sz (some (.inl (0, n.toNatClampNeg, .inl (fun _ => 0))))) else none
def nJ (hp : cH) (sz : Nat) (n : Int32) : Option cH := if ¬ n < 0 ∧ n.toNatClampNeg ≤ 64 then some (va_up hp sz (some (.inl (1, n.toNatClampNeg, .inr (.inl (fun _ => 0)))))) else none
def nR (kd : Nat) (hp : cH) (sz : Nat) (n : Int32) : Option cH := if ¬ n < 0 ∧ n.toNatClampNeg ≤ 64 then some (va_up hp sz (some (.inl (kd, n.toNatClampNeg, .inr (.inr (.inr (.inr (fun _ => none)))))))) else none
def nC (hp : cH) (sz a : Nat) : Option cH := (aJ hp a).bind fun w => if w.1 ≤ 64 then some (va_up hp sz (some (.inl (1, w.1, .inr (.inl w.2))))) else none
/-- new long[n][k]: the outer one at sz, the rows behind it -/
def mMul (hp : cH) (sz N k : Nat) : cH := fun a => if a = sz then some (.inl (3, N, .inr (.inr (.inr (.inr (fun i => if i < N then some (sz + 1 + i) else none)))))) else if sz < a ∧ a ≤ sz + N then some (.inl (1, k, .inr (.inl (fun _ => 0)))) else hp a
def nM (hp : cH) (sz : Nat) (n k : Int32) : Option (cH × Nat) := if (¬ n < 0 ∧ n.toNatClampNeg ≤ 9) ∧ (¬ k < 0 ∧ k.toNatClampNeg ≤ 16) then some (mMul hp sz n.toNatClampNeg k.toNatClampNeg, sz + 1 + n.toNatClampNeg) else none
def cpJ (hp : cH) (a : Nat) (sp : Int32) (b : Nat) (dp n : Int32) : Option cH := (aJ hp a).bind fun w => (aJ hp b).bind fun z => if (¬ sp < 0 ∧ ¬ dp < 0 ∧ ¬ n < 0) ∧ sp.toNatClampNeg + n.toNatClampNeg ≤ w.1 ∧ dp.toNatClampNeg + n.toNatClampNeg ≤ z.1 then some (va_up hp b (some (.inl (1, z.1, .inr (.inl (va_cpy w.2 z.2 sp.toNatClampNeg dp.toNatClampNeg n.toNatClampNeg)))))) else none
theorem gI_s {hp : cH} {a ci k : Nat} {v : Int32} (h : gI hp a ci k = some v) : ∃ fs, hp a = some (.inr (ci, fs)) ∧ fs[k]? = some (.int v) := by
  unfold gI at h
  split at h
  · rename_i c fs e
    split at h
    · rename_i hc
      subst hc
      split at h
      · rename_i w e2
        cases h
        exact ⟨fs, e, e2⟩
      · cases h
    · cases h
  · cases h
theorem gJ_s {hp : cH} {a ci k : Nat} {v : Int64} (h : gJ hp a ci k = some v) : ∃ fs, hp a = some (.inr (ci, fs)) ∧ fs[k]? = some (.long v) := by
  unfold gJ at h
  split at h
  · rename_i c fs e
    split at h
    · rename_i hc
      subst hc
      split at h
      · rename_i w e2
        cases h
        exact ⟨fs, e, e2⟩
      · cases h
    · cases h
  · cases h
theorem gR_s {hp : cH} {a ci k v : Nat} (h : gR hp a ci k = some v) : ∃ fs, hp a = some (.inr (ci, fs)) ∧ fs[k]? = some (.ref v) := by
  unfold gR at h
  split at h
  · rename_i c fs e
    split at h
    · rename_i hc
      subst hc
      split at h
      · rename_i w e2
        cases h
        exact ⟨fs, e, e2⟩
      · cases h
    · cases h
  · cases h
theorem pV_s {hp hp' : cH} {a ci k : Nat} {v : Value} (h : pV hp a ci k v = some hp') : ∃ fs, hp a = some (.inr (ci, fs)) ∧ k < fs.length ∧ hp' = va_up hp a (some (.inr (ci, fs.set k v))) := by
  unfold pV at h
  split at h
  · rename_i c fs e
    split at h
    · rename_i hc
      obtain ⟨rfl, hk⟩ := hc
      cases h
      exact ⟨fs, e, hk, rfl⟩
    · cases h
  · cases h
theorem isO_s {hp : cH} {a ci : Nat} (h : isO hp a ci = true) : ∃ fs, hp a = some (.inr (ci, fs)) := by
  unfold isO at h
  split at h
  · rename_i c fs e
    have : c = ci := by simpa using h
    subst this
    exact ⟨fs, e⟩
  · cases h
theorem aI_s {hp : cH} {a : Nat} {w : Nat × (Nat → Int32)} (h : aI hp a = some w) : hp a = some (.inl (0, w.1, .inl w.2)) := by
  unfold aI at h
  split at h
  · rename_i n f e
    cases h
    exact e
  · cases h
theorem aJ_s {hp : cH} {a : Nat} {w : Nat × (Nat → Int64)} (h : aJ hp a = some w) : hp a = some (.inl (1, w.1, .inr (.inl w.2))) := by
  unfold aJ at h
  split at h
  · rename_i n f e
    cases h
    exact e
  · cases h
theorem aR_s {kd : Nat} {hp : cH} {a : Nat} {w : Nat × (Nat → Option Nat)} (h : aR kd hp a = some w) : hp a = some (.inl (kd, w.1, .inr (.inr (.inr (.inr w.2))))) := by
  unfold aR at h
  split at h
  · rename_i k n f e
    split at h
    · rename_i hk
      subst hk
      cases h
      exact e
    · cases h
  · cases h
theorem nm {α β : Type} {E : α} {F : α → Option β} {x : β} (h : (some E).bind F = some x) : ∃ q, q = E ∧ F q = some x := ⟨E, rfl, h⟩
theorem oe_n {α β : Type} {x : Option α} {A : β} {B : α → β} {r : β} (e : x = none) (h : Option.elim x A B = r) : A = r := by subst e; exact h
theorem oe_s {α β : Type} {x : Option α} {A : β} {B : α → β} {r : β} {a : α} (e : x = some a) (h : Option.elim x A B = r) : B a = r := by subst e; exact h
section CROWS
variable {K : kT} {cc : ByteArray} {own mn : String} {fr lc mc ms nL : Nat} {ret : Option FieldType} {O : oT} {hp hp' : cH} {sz rc rs pc : Nat} {lv : List (Nat × Value)} {st : List Value}
theorem k_gI (C : aC K cc own mn fr lc mc ms nL ret O) {a ci k N index : Nat} {Cn : String} {T : u_T} {v : Int32} (e : gI hp a ci k = some v) (hc : vwCl[ci]? = some (Cn, T, N)) (hin : ∀ w ∈ u_ws Cn T N, w ∈ lw_w) (hk : k < N) (hl : Cond.fieldLink own index (T k).1 (T k).2.1 (T k).2.2.1 ∈ lw_w) (d : decode cc pc = .ok (.getfield index, 3)) (kk : aW K hp sz rc rs (pc + 3) lv (.int v :: st)) : aW K hp sz rc rs pc lv (.ref a :: st) := by
  obtain ⟨fs, e1, e2⟩ := gI_s e
  exact r_get C e1 hc hin k hk hl e2 d kk
theorem k_gJ (C : aC K cc own mn fr lc mc ms nL ret O) {a ci k N index : Nat} {Cn : String} {T : u_T} {v : Int64} (e : gJ hp a ci k = some v) (hc : vwCl[ci]? = some (Cn, T, N)) (hin : ∀ w ∈ u_ws Cn T N, w ∈ lw_w) (hk : k < N) (hl : Cond.fieldLink own index (T k).1 (T k).2.1 (T k).2.2.1 ∈ lw_w) (d : decode cc pc = .ok (.getfield index, 3)) (kk : aW K hp sz rc rs (pc + 3) lv (.long v :: st)) : aW K hp sz rc rs pc lv (.ref a :: st) := by
  obtain ⟨fs, e1, e2⟩ := gJ_s e
  exact r_get C e1 hc hin k hk hl e2 d kk
theorem k_gR (C : aC K cc own mn fr lc mc ms nL ret O) {a ci k N index : Nat} {Cn : String} {T : u_T} {v : Nat} (e : gR hp a ci k = some v) (hc : vwCl[ci]? = some (Cn, T, N)) (hin : ∀ w ∈ u_ws Cn T N, w ∈ lw_w) (hk : k < N) (hl : Cond.fieldLink own index (T k).1 (T k).2.1 (T k).2.2.1 ∈ lw_w) (d : decode cc pc = .ok (.getfield index, 3)) (kk : aW K hp sz rc rs (pc + 3) lv (.ref v :: st)) : aW K hp sz rc rs pc lv (.ref a :: st) := by
  obtain ⟨fs, e1, e2⟩ := gR_s e
  exact r_get C e1 hc hin k hk hl e2 d kk
theorem k_pV (C : aC K cc own mn fr lc mc ms nL ret O) {a ci k N index : Nat} {Cn : String} {T : u_T} {v : Value} {ty : FieldType} (ty0 : Nat → FieldType) (hty : ∀ k, k < N → parseFieldDescriptor (T k).2.2.1 = some (ty0 k)) (hnm : ∀ a, a < N → ∀ b, b < N → a ≠ b → (T a).2.1 ≠ (T b).2.1) (e : pV hp a ci k v = some hp') (hc : vwCl[ci]? = some (Cn, T, N)) (hin : ∀ w ∈ u_ws Cn T N, w ∈ lw_w) (hk : k < N) (hl : Cond.fieldLink own index (T k).1 (T k).2.1 (T k).2.2.1 ∈ lw_w) (hfin : (T k).2.2.2 = false) (hd : ty0 k = ty) (hn : narrow ty v = v) (hfit : fits ty v = true) (d : decode cc pc = .ok (.putfield index, 3)) (kk : aW K hp' sz rc rs (pc + 3) lv st) : aW K hp sz rc rs pc lv (v :: .ref a :: st) := by
  obtain ⟨fs, e1, e2, rfl⟩ := pV_s e
  exact r_put C ty0 hty hnm e1 hc hin k hk hl hfin hd hn hfit e2 d kk
theorem k_pF (C : aC K cc own "<init>" fr lc mc ms nL ret O) {a ci k N index : Nat} {Cn : String} {T : u_T} {v : Value} {ty : FieldType} (ty0 : Nat → FieldType) (hty : ∀ k, k < N → parseFieldDescriptor (T k).2.2.1 = some (ty0 k)) (hnm : ∀ a, a < N → ∀ b, b < N → a ≠ b → (T a).2.1 ≠ (T b).2.1) (e : pV hp a ci k v = some hp') (hc : vwCl[ci]? = some (Cn, T, N)) (hin : ∀ w ∈ u_ws Cn T N, w ∈ lw_w) (hk : k < N) (hl : Cond.fieldLink own index (T k).1 (T k).2.1 (T k).2.2.1 ∈ lw_w) (hfin : (T k).2.2.2 = true) (hdecl : (T k).1 = own) (hd : ty0 k = ty) (hn : narrow ty v = v) (hfit : fits ty v = true) (d : decode cc pc = .ok (.putfield index, 3)) (kk : aW K hp' sz rc rs (pc + 3) lv st) : aW K hp sz rc rs pc lv (v :: .ref a :: st) := by
  obtain ⟨fs, e1, e2, rfl⟩ := pV_s e
  exact r_putF C ty0 hty hnm e1 hc hin k hk hl hfin hdecl hd hn hfit e2 d kk
theorem k_lI (C : aC K cc own mn fr lc mc ms nL ret O) {a : Nat} {i v : Int32} (e : lI hp a i = some v) (d : decode cc pc = .ok (.iaload, 1)) (kk : aW K hp sz rc rs (pc + 1) lv (.int v :: st)) : aW K hp sz rc rs pc lv (.int i :: .ref a :: st) := by
  obtain ⟨w, e1, e2⟩ := bd_i e
  obtain ⟨hi, e3⟩ := gd_t e2
  obtain rfl := sm_i e3
  exact r_iald C (aI_s e1) (gi_in hi) d kk
theorem k_lJ (C : aC K cc own mn fr lc mc ms nL ret O) {a : Nat} {i : Int32} {v : Int64} (e : lJ hp a i = some v) (d : decode cc pc = .ok (.laload, 1)) (kk : aW K hp sz rc rs (pc + 1) lv (.long v :: st)) : aW K hp sz rc rs pc lv (.int i :: .ref a :: st) := by
  obtain ⟨w, e1, e2⟩ := bd_i e
  obtain ⟨hi, e3⟩ := gd_t e2
  obtain rfl := sm_i e3
  exact r_lald C (aJ_s e1) (gi_in hi) d kk
theorem k_sI (C : aC K cc own mn fr lc mc ms nL ret O) {a : Nat} {i v : Int32} (e : sI hp a i v = some hp') (d : decode cc pc = .ok (.iastore, 1)) (kk : aW K hp' sz rc rs (pc + 1) lv st) : aW K hp sz rc rs pc lv (.int v :: .int i :: .ref a :: st) := by
  obtain ⟨w, e1, e2⟩ := bd_i e
  obtain ⟨hi, e3⟩ := gd_t e2
  obtain rfl := sm_i e3
  exact r_iast C (aI_s e1) (gi_in hi) d kk
theorem k_sJ (C : aC K cc own mn fr lc mc ms nL ret O) {a : Nat} {i : Int32} {v : Int64} (e : sJ hp a i v = some hp') (d : decode cc pc = .ok (.lastore, 1)) (kk : aW K hp' sz rc rs (pc + 1) lv st) : aW K hp sz rc rs pc lv (.long v :: .int i :: .ref a :: st) := by
  obtain ⟨w, e1, e2⟩ := bd_i e
  obtain ⟨hi, e3⟩ := gd_t e2
  obtain rfl := sm_i e3
  exact r_last C (aJ_s e1) (gi_in hi) d kk
/-- of the two kinds of arrays of references: class, component -/
theorem aRC {G : gT} {s : State} (hk : aK G s) {kd : Nat} (hkd : kd = 2 ∨ kd = 3) : ∃ (ty : FieldType), ty.isReference = true ∧ (aTy G)[kd]? = some (gA G kd, ty) ∧ ((kd = 2 ∧ ty = .object "ProjectiveRows$Item") ∨ (kd = 3 ∧ ty = .array .long)) := by
  rcases hkd with rfl | rfl
  · exact ⟨_, rfl, rfl, Or.inl ⟨rfl, rfl⟩⟩
  · exact ⟨_, rfl, rfl, Or.inr ⟨rfl, rfl⟩⟩
theorem k_lR (C : aC K cc own mn fr lc mc ms nL ret O) {kd a : Nat} {i : Int32} {v : Option Nat} (hkd : kd = 2 ∨ kd = 3) (e : lR kd hp a i = some v) (d : decode cc pc = .ok (.aaload, 1)) (kk : aW K hp sz rc rs (pc + 1) lv (va_rf v :: st)) : aW K hp sz rc rs pc lv (.int i :: .ref a :: st) := by
  obtain ⟨w, e1, e2⟩ := bd_i e
  obtain ⟨hi, e3⟩ := gd_t e2
  obtain rfl := sm_i e3
  obtain ⟨G, p, e, R, s, m, args, below, meth, c, n, O'⟩ := K
  obtain ⟨c1, c2, c3, c4, c5, c6, c7, c8, c9, c10, c11, c12⟩ := C
  intro H locs cells slots ls h1 h2 h3 h4 h5
  obtain ⟨ty, t1, t2, -⟩ := aRC c6 hkd
  have hlt : i.toNatClampNeg < w.1 := hi.2
  exact W.aald (v := va_rf (w.2 i.toNatClampNeg)) (ty := ty) c1 c2 (h1.2.2.2 a _ (aR_s e1)).2 ((c6.1.2 kd _ t2).1 w.1 (fun j => va_rf (w.2 j))) t1 (fun q => by cases q) (by show ¬ (i < 0 ∨ (arrV _ _ _).slots.size ≤ _); rw [arrV_size]; exact gi_in hi) (by show (arrV _ _ _).slots[_]? = _; rw [arrV_read _ _ hlt]) rfl rfl d (kk H locs cells slots ls h1 h2 h3 h4 h5)
theorem k_alen (C : aC K cc own mn fr lc mc ms nL ret O) {a : Nat} {v : Int32} (e : aN hp a = some v) (d : decode cc pc = .ok (.arraylength, 1)) (kk : aW K hp sz rc rs (pc + 1) lv (.int v :: st)) : aW K hp sz rc rs pc lv (.ref a :: st) := by
  obtain ⟨G, p, e', R, s, m, args, below, meth, c, n, O'⟩ := K
  obtain ⟨c1, c2, c3, c4, c5, c6, c7, c8, c9, c10, c11, c12⟩ := C
  intro H locs cells slots ls h1 h2 h3 h4 h5
  unfold aN at e
  split at e
  · rename_i k n x e2
    split at e
    · rename_i hk
      cases e
      have ht : ∃ ty, (aTy G)[k]? = some (gA G k, ty) := by
        rcases (show k = 0 ∨ k = 1 ∨ k = 2 ∨ k = 3 by omega) with rfl | rfl | rfl | rfl <;> exact ⟨_, rfl⟩
      obtain ⟨ty, ht⟩ := ht
      exact va_alen (D := gD G) (cl := vwCl) c1 c2 c6.1 (h1.P e2) 0 k (cA := gA G k) (x := (n, x)) rfl ht rfl d (kk H locs cells slots ls h1 h2 h3 h4 h5)
    · cases e
  · cases e
end CROWS
