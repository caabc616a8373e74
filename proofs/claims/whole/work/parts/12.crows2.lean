theorem acJ : Cond.arrayClass .long ∈ lw_w := tq1 (List.mem_of_getElem? (i := 54) rfl) rfl
theorem acI : Cond.arrayClass .int ∈ lw_w := tq1 (List.mem_of_getElem? (i := 55) rfl) rfl
theorem aoA_moved {t : FieldType} {u U : State} {A A' : Array Value} (hvm : u.vm.Alike U.vm) (h : (Cond.arrayOver (.array t)).before A u = true) : (Cond.arrayOver (.array t)).before A' U = true := by
  obtain ⟨comp, c, k, h1, h2, h3, h4, h5⟩ := arrayOverA_spec h
  obtain ⟨k', hk', he⟩ := hvm.2.2 _ _ h3
  have hi : (U.vm.classes.findIdx? fun (x : Class) => match x.kind with | .array component _ => component == comp | _ => false) = some c := by
    rw [hvm.findIdx?_eq _ (fun _ => rfl)]
    exact h2
  have hkind : k'.kind = .array comp (.array t) := by rw [he]; exact h4
  have f1 : U.vm.findClass (FieldType.array t).toString = some comp := by rw [hvm.findClass]; exact h1
  have f2 : U.vm.findClass ("[" ++ (FieldType.array t).toString) = some c := by rw [hvm.findClass]; exact h5
  unfold Cond.before Cond.holds
  simp only [Cond.value]
  rw [f1, Option.bind_some]
  refine (congrArg (fun o : Option Nat => (o.bind (fun c => (U.vm.classes[c]?).map fun (k : Class) => match k.kind with | .array _ ty => decide (ty = FieldType.array t) && decide (U.vm.findClass ("[" ++ (FieldType.array t).toString) = some c) | _ => false) == some true)) hi).trans ?_
  simp [hk', hkind, f2]
theorem aAO {G : gT} {s : State} (hk : aK G s) (args : Array Value) : (Cond.arrayOver (.array .long)).before args s = true := aoA_moved hk.2.1 hk.2.2.1.2.1
theorem sJJ : "[" ++ FieldType.long.toString = "[J" := by decide +kernel
theorem sJ2 : (FieldType.array .long).toString = "[J" := by decide +kernel
/-- long[][]: its class, and its component's -/
theorem aGG {G : gT} {s : State} (hk : aK G s) : ∃ kA kC : Class, s.vm.classes[gA G 3]? = some kA ∧ kA.kind = .array (gA G 1) (.array .long) ∧ s.vm.classes[gA G 1]? = some kC ∧ s.vm.findClass "[J" = some (gA G 1) := by
  obtain ⟨comp, c, k, h1, h2, h3, h4, h5⟩ := arrayOverA_spec (aAO hk #[])
  have hc : c = gA G 3 := Option.some.inj (h5.symm.trans (hk.1.2 3 _ rfl).2)
  have hJ : s.vm.findClass "[J" = some (gA G 1) := va_nm_long (hk.1.2 1 (gA G 1, .long) rfl).2
  have hcomp : comp = gA G 1 := by
    rw [sJ2] at h1
    exact Option.some.inj (h1.symm.trans hJ)
  subst hc
  subst hcomp
  obtain ⟨kC, hkC, -⟩ := Vm.findClass_spec hJ
  exact ⟨k, kC, h3, h4, hkC, hJ⟩
section CROWS2
variable {K : kT} {cc : ByteArray} {own mn : String} {fr lc mc ms nL : Nat} {ret : Option FieldType} {O : oT} {hp hp' : cH} {sz rc rs pc : Nat} {lv : List (Nat × Value)} {st : List Value}
theorem k_sR (C : aC K cc own mn fr lc mc ms nL ret O) {kd a v : Nat} {i : Int32} (hkd : kd = 2 ∨ kd = 3) (e : sR kd hp a i v = some hp') (d : decode cc pc = .ok (.aastore, 1)) (kk : aW K hp' sz rc rs (pc + 1) lv st) : aW K hp sz rc rs pc lv (.ref v :: .int i :: .ref a :: st) := by
  obtain ⟨w, e1, e2⟩ := bd_i e
  obtain ⟨hi, e3⟩ := gd_t e2
  obtain rfl := sm_i e3
  obtain ⟨hi, ho⟩ := hi
  obtain ⟨G, p, e, R, s, m, args, below, meth, c, n, O'⟩ := K
  obtain ⟨c1, c2, c3, c4, c5, c6, c7, c8, c9, c10, c11, c12⟩ := C
  intro H locs cells slots ls h1 h2 h3 h4 h5
  have he := aR_s e1
  have fin : ∀ (H1 : Heap), H1[a]? = some ((vp_cell (gA G kd) (w.1, .inr (.inr (.inr (.inr w.2))))).setSlot i.toNatClampNeg (.ref v)) → H1.size = H.size → (∀ q, q ≠ a → H1[q]? = H[q]?) → W p G.1 e R s m args below meth c H1 (locs ++ [⟨a, i.toNatClampNeg⟩]) cells slots (MQ below (aQ G O') args s R.cells R.slots (fun q => gB G ≤ q)) (F0 m (pc + 1) ls st) := by
    intro H1 ec z oq
    refine kk H1 _ cells slots ls (h1.set he z oq ?_) (fun q hq => ?_) h3 h4 h5
    · show H1[a]? = some (vp_cell _ _)
      rw [ec]
      show some ((vp_cell (gA G kd) (w.1, .inr (.inr (.inr (.inr w.2))))).setSlot _ _) = some (vp_cell (gA G kd) (w.1, .inr (.inr (.inr (.inr (va_up w.2 i.toNatClampNeg (some v)))))))
      rw [vp_cell_q, vp_cell_q, arrV_store]
      congr 2
      funext q
      by_cases hq : q = i.toNatClampNeg
      · subst hq
        simp [updV, va_up, va_rf]
      · simp [updV, va_up, hq]
    · rcases List.mem_append.mp hq with h | h
      · exact h2 q h
      · rw [List.mem_singleton.mp h]
        exact (h1.2.2.2 a _ he).1
  rcases hkd with rfl | rfl
  · have ho : ∃ fs, hp v = some (.inr (1, fs)) := by
      unfold okR at ho
      split at ho
      · rename_i c0 fs e4
        have : c0 = 1 := by simpa using ho
        subst this
        exact ⟨fs, e4⟩
      · simp at ho
      · cases ho
    obtain ⟨fs, hv⟩ := ho
    obtain ⟨r', hr', cellV, g1, g2, g3, -⟩ := (h1.2.2.2 v _ hv).2
    have hcls := (c6.1.1 1 (RX1, TX1, 2) rfl).2
    obtain ⟨kA, comp, k1, k2, k3, -⟩ := (c6.1.2 2 (gA G 2, .object "ProjectiveRows$Item") rfl).2
    have hcomp : comp = (gD G).1 1 := Option.some.inj (k3.symm.trans hcls.1)
    subst hcomp
    obtain ⟨kC, hkC, -⟩ := hcls.2
    exact W.aast c1 c2 (h1.2.2.2 a _ he).2 (fun q h => by cases h) (fun h => by cases h) k1 k2 rfl hkC ⟨hi.1, by show _ < (arrV _ _ _).slots.size; rw [arrV_size]; exact hi.2⟩ g1 (fun q h => by rw [g3] at h; cases h) (by rw [g2]; exact hkC) (by rw [g2]; exact va_assign hcls) rfl rfl d fin
  · have ho : ∃ x, hp v = some (.inl (1, x)) := by
      unfold okR at ho
      split at ho
      · simp at ho
      · rename_i k0 x e4
        have : k0 = 1 := by simpa using ho
        subst this
        exact ⟨x, e4⟩
      · cases ho
    obtain ⟨x, hv⟩ := ho
    have hcv : H[v]? = some (vp_cell (gA G 1) x) := (h1.2.2.2 v _ hv).2
    have hvm0 : (vp_cell (gA G 1) x).vm = .none := by
      obtain ⟨n, f | f | f | f | f⟩ := x <;> rfl
    have hcl0 : (vp_cell (gA G 1) x).cls = gA G 1 := by
      obtain ⟨n, f | f | f | f | f⟩ := x <;> rfl
    obtain ⟨kA, kC, k1, k2, k3, k4⟩ := aGG c6
    exact W.aast c1 c2 (h1.2.2.2 a _ he).2 (fun q h => by cases h) (fun h => by cases h) k1 k2 rfl k3 ⟨hi.1, by show _ < (arrV _ _ _).slots.size; rw [arrV_size]; exact hi.2⟩ hcv (fun q h => by rw [hvm0] at h; cases h) (by rw [hcl0]; exact k3) (by rw [hcl0]; exact va_asg _ _) rfl rfl d fin
theorem k_nJ (C : aC K cc own mn fr lc mc ms nL ret O) {n : Int32} (rc' : Nat) (e : nJ hp sz n = some hp') (d : decode cc pc = .ok (.newarray .long, 2)) (hrc : 1 + rc' = rc) (kk : aW K hp' (sz + 1) rc' (64 * rc') (pc + 2) lv (.ref sz :: st)) : aW K hp sz rc (64 * rc) pc lv (.int n :: st) := by
  obtain ⟨hi, e3⟩ := gd_t e
  obtain rfl := sm_i e3
  refine r_newl C (rc' := rc') (rs' := 64 * rc - n.toNatClampNeg) acJ hi.1 rfl (by have := hi.2; omega) d hrc (by have := hi.2; omega) ?_
  exact r_rc (Nat.le_refl _) (by have := hi.2; omega) kk
theorem k_nI (C : aC K cc own mn fr lc mc ms nL ret O) {n : Int32} (rc' : Nat) (e : nI_ hp sz n = some hp') (d : decode cc pc = .ok (.newarray .int, 2)) (hrc : 1 + rc' = rc) (kk : aW K hp' (sz + 1) rc' (64 * rc') (pc + 2) lv (.ref sz :: st)) : aW K hp sz rc (64 * rc) pc lv (.int n :: st) := by
  obtain ⟨hi, e3⟩ := gd_t e
  obtain rfl := sm_i e3
  refine r_newi C (rc' := rc') (rs' := 64 * rc - n.toNatClampNeg) acI hi.1 rfl (by have := hi.2; omega) d hrc (by have := hi.2; omega) ?_
  exact r_rc (Nat.le_refl _) (by have := hi.2; omega) kk
theorem k_new (C : aC K cc own mn fr lc mc ms nL ret O) {ci N index : Nat} {Cn : String} {T : u_T} {fs : List Value} (rc' : Nat) (ty : Nat → FieldType) (hty : ∀ k, k < N → parseFieldDescriptor (T k).2.2.1 = some (ty k)) (hc : vwCl[ci]? = some (Cn, T, N)) (hin : ∀ w ∈ u_ws Cn T N, w ∈ lw_w) (hcl : Cond.classLink own index Cn ∈ lw_w) (hins : Cond.instantiable Cn N ∈ lw_w) (hini : Cond.initialized Cn ∈ lw_w) (hfs : ∀ j, j < N → defaultValue (ty j) = vp_V fs j) (hN : N ≤ 64) (e : hp' = va_up hp sz (some (.inr (ci, fs)))) (d : decode cc pc = .ok (.new index, 3)) (hrc : 1 + rc' = rc) (kk : aW K hp' (sz + 1) rc' (64 * rc') (pc + 3) lv (.ref sz :: st)) : aW K hp sz rc (64 * rc) pc lv st := by
  subst e
  refine r_new C (rc' := rc') (rs' := 64 * rc - N) ty hty hc hin hcl hins hini hfs d hrc (by omega) ?_
  exact r_rc (Nat.le_refl _) (by omega) kk
/-- new Item[n] -/
theorem k_nR2 (C : aC K cc own mn fr lc mc ms nL ret O) {n : Int32} {index : Nat} (rc' : Nat) (hcl : Cond.classLink own index "ProjectiveRows$Item" ∈ lw_w) (e : nR 2 hp sz n = some hp') (d : decode cc pc = .ok (.anewarray index, 3)) (hrc : 1 + rc' = rc) (kk : aW K hp' (sz + 1) rc' (64 * rc') (pc + 3) lv (.ref sz :: st)) : aW K hp sz rc (64 * rc) pc lv (.int n :: st) := by
  obtain ⟨hi, e3⟩ := gd_t e
  obtain rfl := sm_i e3
  obtain ⟨G, p, e, R, s, m, args, below, meth, c, n', O'⟩ := K
  obtain ⟨c1, c2, c3, c4, c5, c6, c7, c8, c9, c10, c11, c12⟩ := C
  intro H locs cells slots ls h1 h2 h3 h4 h5
  have hle := hi.2
  have hsz := h1.1
  refine W.anew c1 c2 c4 (c5 _ hcl) (va_AO.use (va_AO.moved c6.2.1 c6.2.2.1.1)) rfl d rfl hi.1 (by omega) (by omega) (by omega) fun cA kA comp f1 f2 f3 f4 => ?_
  have hcA : cA = gA G 2 := by
    obtain ⟨_, _, _, _, _, f5⟩ := (c6.1.2 2 (gA G 2, .object "ProjectiveRows$Item") rfl).2
    exact Option.some.inj (f1.symm.trans f5)
  subst hcA
  subst hsz
  refine kk _ locs _ _ ls (h1.push (by simp) (fun q hq => by rw [Array.getElem?_push, if_neg (Nat.ne_of_lt hq)]) ?_) h2 h3 (by omega) (by omega)
  show (H.push _)[H.size]? = some (vp_cell (gA G 2) (n.toNatClampNeg, .inr (.inr (.inr (.inr (fun _ => none))))))
  rw [Array.getElem?_push_size, vp_cell_q, ← arrV_new]
  rfl
/-- new long[n][] -/
theorem k_nR3 (C : aC K cc own mn fr lc mc ms nL ret O) {n : Int32} {index : Nat} (rc' : Nat) (hcl : Cond.classLink own index "[J" ∈ lw_w) (e : nR 3 hp sz n = some hp') (d : decode cc pc = .ok (.anewarray index, 3)) (hrc : 1 + rc' = rc) (kk : aW K hp' (sz + 1) rc' (64 * rc') (pc + 3) lv (.ref sz :: st)) : aW K hp sz rc (64 * rc) pc lv (.int n :: st) := by
  obtain ⟨hi, e3⟩ := gd_t e
  obtain rfl := sm_i e3
  obtain ⟨G, p, e, R, s, m, args, below, meth, c, n', O'⟩ := K
  obtain ⟨c1, c2, c3, c4, c5, c6, c7, c8, c9, c10, c11, c12⟩ := C
  intro H locs cells slots ls h1 h2 h3 h4 h5
  have hle := hi.2
  have hsz := h1.1
  refine W.anewA (t := .long) c1 c2 c4 (by rw [sJ2]; exact c5 _ hcl) (aAO c6 _) rfl d rfl hi.1 (by omega) (by omega) (by omega) fun cA kA comp f1 f2 f3 f4 => ?_
  have hcA : cA = gA G 3 := Option.some.inj (f1.symm.trans (c6.1.2 3 (gA G 3, .array .long) rfl).2)
  subst hcA
  subst hsz
  refine kk _ locs _ _ ls (h1.push (by simp) (fun q hq => by rw [Array.getElem?_push, if_neg (Nat.ne_of_lt hq)]) ?_) h2 h3 (by omega) (by omega)
  show (H.push _)[H.size]? = some (vp_cell (gA G 3) (n.toNatClampNeg, .inr (.inr (.inr (.inr (fun _ => none))))))
  rw [Array.getElem?_push_size, vp_cell_q, ← arrV_new]
  rfl
theorem k_ifnull (C : aC K cc own mn fr lc mc ms nL ret O) {x : Option Nat} {off : Int} {tgt : Nat} (d : decode cc pc = .ok (.ifnull off, 3)) (ht : (pc : Int) + off = (tgt : Int)) (kt : x = none → aW K hp sz rc rs tgt lv st) (kf : ∀ a, x = some a → aW K hp sz rc rs (pc + 3) lv st) : aW K hp sz rc rs pc lv (va_rf x :: st) := by
  obtain ⟨G, p, e, R, s, m, args, below, meth, c, n, O'⟩ := K
  intro H locs cells slots ls h1 h2 h3 h4 h5
  cases x with
  | none => exact lv_ifnullN C.1 C.2.1 d ht (kt rfl H locs cells slots ls h1 h2 h3 h4 h5)
  | some a => exact lv_ifnull C.1 C.2.1 d (kf a rfl H locs cells slots ls h1 h2 h3 h4 h5)
theorem k_ifnonnull (C : aC K cc own mn fr lc mc ms nL ret O) {x : Option Nat} {off : Int} {tgt : Nat} (d : decode cc pc = .ok (.ifnonnull off, 3)) (ht : (pc : Int) + off = (tgt : Int)) (kt : ∀ a, x = some a → aW K hp sz rc rs tgt lv st) (kf : x = none → aW K hp sz rc rs (pc + 3) lv st) : aW K hp sz rc rs pc lv (va_rf x :: st) := by
  obtain ⟨G, p, e, R, s, m, args, below, meth, c, n, O'⟩ := K
  intro H locs cells slots ls h1 h2 h3 h4 h5
  cases x with
  | none => exact lv_ifnonnullN C.1 C.2.1 d (kf rfl H locs cells slots ls h1 h2 h3 h4 h5)
  | some a => exact lv_ifnonnull C.1 C.2.1 d ht (kt a rfl H locs cells slots ls h1 h2 h3 h4 h5)
end CROWS2
