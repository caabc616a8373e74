section CROW
variable {P : Nat}
theorem fa_okR {hp : cH} {a n : Nat} {x : Nat → Fin P} (h : fa hp a n x) : okR 3 hp a = true := by
  obtain ⟨f, h1, -⟩ := h
  unfold okR
  rw [h1]
  rfl
theorem vA.ne {hp : cH} {sz a v n m : Nat} {G : Nat → Option Nat} {x : Nat → Fin P} (h : vA hp sz v n x) (e : hp a = some (.inl (3, m, .inr (.inr (.inr (.inr G)))))) : v ≠ a := by
  intro q
  subst q
  obtain ⟨⟨f, h1, -⟩, -⟩ := h
  rw [h1] at e
  cases e
theorem vA.o {hp hp' : cH} {sz a n c : Nat} {x : Nat → Fin P} (h : vA hp sz a n x) (e : oth hp hp' (fun b => b = c)) (hc : a ≠ c) : vA hp' sz a n x := ⟨fa_of h.1 (e a hc), h.2⟩
theorem gro.st {hp hp1 hp2 : cH} {sz sz1 a : Nat} (h : gro hp sz hp1 sz1) (e : oth hp1 hp2 (fun b => b = a)) (ha : sz ≤ a) : gro hp sz hp2 sz1 := ⟨fun b hb => by rw [e b (fun q => hb (by rw [q]; exact ha)), h.1 b hb], h.2⟩
theorem nR_h {hp : cH} {sz n : Nat} (hn : n ≤ 64) : ∃ hp', nR 3 hp sz (nI n) = some hp' ∧ hp' sz = some (.inl (3, n, .inr (.inr (.inr (.inr (fun _ => none)))))) ∧ gro hp sz hp' (sz + 1) := by
  refine ⟨va_up hp sz (some (.inl (3, n, .inr (.inr (.inr (.inr (fun _ => none))))))), ?_, by simp [va_up], fun b hb => ?_, by omega⟩
  · unfold nR
    rw [if_pos ⟨nI_pos (by omega), by rw [nI_clamp (by omega)]; exact hn⟩, nI_clamp (by omega)]
  · have : b ≠ sz := fun e => hb (by rw [e]; exact Nat.le_refl _)
    simp [va_up, this]
theorem sR_h {hp : cH} {a n k v : Nat} {G : Nat → Option Nat} (h : hp a = some (.inl (3, n, .inr (.inr (.inr (.inr G)))))) (hk : k < n) (hn : n < 2 ^ 31) (ho : okR 3 hp v = true) : ∃ hp', sR 3 hp a (nI k) v = some hp' ∧ hp' a = some (.inl (3, n, .inr (.inr (.inr (.inr (va_up G k (some v))))))) ∧ oth hp hp' (fun b => b = a) := by
  refine ⟨va_up hp a (some (.inl (3, n, .inr (.inr (.inr (.inr (va_up G k (some v)))))))), ?_, by simp [va_up], fun b hb => ?_⟩
  · unfold sR aR
    rw [h]
    show (if gi (nI k) n ∧ okR 3 hp v = true then _ else none) = _
    rw [if_pos ⟨gi_nI hk hn, ho⟩, nI_clamp (by omega)]
  · have : ¬ b = a := hb
    simp [va_up, this]
theorem lR_c {hp : cH} {a n k : Nat} {G : Nat → Option Nat} (h : hp a = some (.inl (3, n, .inr (.inr (.inr (.inr G)))))) (hk : k < n) (hn : n < 2 ^ 31) : lR 3 hp a (nI k) = some (G k) := by
  unfold lR aR
  rw [h]
  show (if gi (nI k) n then some (G (nI k).toNatClampNeg) else none) = _
  rw [if_pos (gi_nI hk hn), nI_clamp (by omega)]
theorem aN_c {hp : cH} {a n : Nat} {G : Nat → Option Nat} (h : hp a = some (.inl (3, n, .inr (.inr (.inr (.inr G)))))) : aN hp a = some (nI n) := by
  unfold aN
  rw [h]
  rfl
/-- an array of n rows at a, new since hp0, the first k filled with X -/
def bP (hp0 : cH) (sz0 : Nat) (hp : cH) (sz a n k w : Nat) (X : Nat → Nat → Fin P) : Prop := gro hp0 sz0 hp sz ∧ sz0 ≤ a ∧ a < sz ∧ ∃ (A : Nat → Nat) (G : Nat → Option Nat), hp a = some (.inl (3, n, .inr (.inr (.inr (.inr G))))) ∧ ∀ i, i < k → G i = some (A i) ∧ vA hp sz (A i) w (X i)
theorem bP.nw {hp : cH} {sz n w : Nat} {X : Nat → Nat → Fin P} (hn : n ≤ 64) : ∃ hp', nR 3 hp sz (nI n) = some hp' ∧ bP hp sz hp' (sz + 1) sz n 0 w X := by
  obtain ⟨hp', h1, h2, h3⟩ := nR_h (hp := hp) (sz := sz) hn
  exact ⟨hp', h1, h3, Nat.le_refl _, by omega, fun _ => 0, _, h2, fun i hi => by omega⟩
theorem bP.g {hp0 hp hp' : cH} {sz0 sz sz' a n k w : Nat} {X : Nat → Nat → Fin P} (h : bP hp0 sz0 hp sz a n k w X) (e : gro hp sz hp' sz') : bP hp0 sz0 hp' sz' a n k w X := by
  obtain ⟨h1, h2, h3, A, G, h4, h5⟩ := h
  exact ⟨h1.tr e, h2, by have := e.2; omega, A, G, by rw [e.1 a (by omega)]; exact h4, fun i hi => ⟨(h5 i hi).1, (h5 i hi).2.g e⟩⟩
theorem bP.put {hp0 hp : cH} {sz0 sz a n k w v : Nat} {X : Nat → Nat → Fin P} (h : bP hp0 sz0 hp sz a n k w X) (hk : k < n) (hn : n < 2 ^ 31) (hv : vA hp sz v w (X k)) : ∃ hp', sR 3 hp a (nI k) v = some hp' ∧ bP hp0 sz0 hp' sz a n (k + 1) w X ∧ oth hp hp' (fun b => b = a) ∧ lR 3 hp' a (nI k) = some (some v) ∧ vA hp' sz v w (X k) := by
  obtain ⟨h1, h2, h3, A, G, h4, h5⟩ := h
  obtain ⟨hp', g1, g2, g3⟩ := sR_h h4 hk hn (fa_okR hv.1)
  have hv' := hv.o g3 (hv.ne h4)
  refine ⟨hp', g1, ⟨h1.st g3 h2, h2, h3, fun i => if i = k then v else A i, _, g2, fun i hi => ?_⟩, g3, ?_, hv'⟩
  · by_cases e : i = k
    · subst e
      refine ⟨by simp [va_up], ?_⟩
      (try dsimp only)
      rw [if_pos rfl]
      exact hv'
    · obtain ⟨q1, q2⟩ := h5 i (by omega)
      refine ⟨by simp [va_up, e]; exact q1, ?_⟩
      (try dsimp only)
      rw [if_neg e]
      exact q2.o g3 (q2.ne h4)
  · rw [lR_c g2 hk hn]
    simp [va_up]
theorem bP.gr {hp0 hp : cH} {sz0 sz a n k w : Nat} {X : Nat → Nat → Fin P} (h : bP hp0 sz0 hp sz a n k w X) : gro hp0 sz0 hp sz := h.1
theorem bP.len {hp0 hp : cH} {sz0 sz a n k w : Nat} {X : Nat → Nat → Fin P} (h : bP hp0 sz0 hp sz a n k w X) : aN hp a = some (nI n) := by
  obtain ⟨h1, h2, h3, A, G, h4, h5⟩ := h
  exact aN_c h4
theorem bP.all {hp0 hp : cH} {sz0 sz a n w : Nat} {X : Nat → Nat → Fin P} (h : bP hp0 sz0 hp sz a n n w X) : ∃ A, gP hp sz a n w A X := by
  obtain ⟨h1, h2, h3, A, G, h4, h5⟩ := h
  exact ⟨A, ⟨G, h4, fun i hi => (h5 i hi).1⟩, h3, fun i hi => (h5 i hi).2⟩
theorem gP.congr {hp : cH} {sz a n w : Nat} {A : Nat → Nat} {X Y : Nat → Nat → Fin P} (h : gP hp sz a n w A X) (e : ∀ i j, i < n → j < w → X i j = Y i j) : gP hp sz a n w A Y := ⟨h.1, h.2.1, fun i hi => (h.2.2 i hi).congr (fun j hj => e i j hi hj)⟩
theorem sq_ld {hp : cH} {sz q w i j : Nat} {S : Nat → Nat → Fin P} (hw : w = 3 ∨ w = 4) (h : vA hp sz q (w * w) (fun m => S (m / w) (m % w))) (hi : i < w) (hj : j < w) : lJ hp q (nI (i * w + j)) = some (fL (S i j)) := by
  have r := row_lt hi hj
  rw [h.ld r (by rcases hw with rfl | rfl <;> omega)]
  (try dsimp only)
  rw [Nat.mul_comm, Nat.mul_add_div (by omega), Nat.div_eq_of_lt hj, Nat.mul_add_mod, Nat.mod_eq_of_lt hj, Nat.add_zero]
/-- the two rows that span a wedge, by its first number that is not 0 -/
def bwF [NeZero P] (w : Nat) (L : Nat → Fin P) (r : Nat) : Nat → Fin P := fun m => if r = 0 then (- fi (L (ldV L (swi w w)))) * skF w L (wJ w (ldV L (swi w w))) m else fi (L (ldV L (swi w w))) * skF w L (wI w (ldV L (swi w w))) m
theorem e_baseRet [NeZero P] (hP : 2 < P) (hB : P < 2 ^ 31) {hp : cH} {w so ro fo sz q i j rc : Nat} {L : Nat → Fin P} (he : eV P w so ro fo hp sz) (hw : w = 3 ∨ w = 4) (hq : vA hp sz q (w * w) (fun m => skF w L (m / w) (m % w))) (hi : i < w) (hj : j < w) (hv : skF w L i j ≠ 0) (hr : 3 ≤ rc) : ∃ r hp' sz' A, f_X4_baseOfWedge_L21 so q (nI i) (nI j) hp sz rc = some (.inr (.inr (r, hp', sz'))) ∧ gP hp' sz' r 2 w A (fun r m => if r = 0 then (- fi (skF w L i j)) * skF w L j m else fi (skF w L i j) * skF w L i m) ∧ gro hp sz hp' sz' := by
  generalize hX : (fun r m => if r = 0 then (- fi (skF w L i j)) * skF w L j m else fi (skF w L i j) * skF w L i m : Nat → Nat → Fin P) = X
  obtain ⟨hp1, a1, a2⟩ := bP.nw (hp := hp) (sz := sz) (n := 2) (w := w) (X := X) (by omega)
  have he1 := he.g a2.gr
  have hq1 := hq.g a2.gr
  obtain ⟨hp2, b1, b2, b3⟩ := e_lineOf hP hB he1 hw hq1 hj (- fi (skF w L i j))
  have a3 := a2.g b3
  have b2' : vA hp2 (sz + 1 + 1) (sz + 1) w (X 0) := b2.congr (fun m hm => by
    rw [← hX]
    (try dsimp only)
    rw [if_pos rfl, Nat.mul_comm j w, Nat.mul_add_div (by omega), Nat.div_eq_of_lt hm, Nat.mul_add_mod, Nat.mod_eq_of_lt hm, Nat.add_zero])
  obtain ⟨hp3, c1, c2, c3, -, -⟩ := a3.put (by omega) (by omega) b2'
  have he3 := he.g c2.gr
  have hq3 := hq.g c2.gr
  obtain ⟨hp4, d1, d2, d3⟩ := e_lineOf hP hB he3 hw hq3 hi (fi (skF w L i j))
  have c4 := c2.g d3
  have d2' : vA hp4 (sz + 1 + 1 + 1) (sz + 1 + 1) w (X (0 + 1)) := d2.congr (fun m hm => by
    rw [← hX]
    (try dsimp only)
    rw [if_neg (by omega), Nat.mul_comm i w, Nat.mul_add_div (by omega), Nat.div_eq_of_lt hm, Nat.mul_add_mod, Nat.mod_eq_of_lt hm, Nat.add_zero])
  obtain ⟨hp5, e1, e2, e3, -, -⟩ := c4.put (by omega) (by omega) d2'
  obtain ⟨A, e4⟩ := e2.all
  refine ⟨sz, hp5, sz + 1 + 1 + 1, A, ?_, e4, e2.gr⟩
  have hl := sq_ld hw hq hi hj
  unfold f_X4_baseOfWedge_L21
  simp (disch := omega) only [↓Option.bind_some, ↓Option.elim_some, ↓Option.elim_none, Option.bind_some, Option.elim_some, Option.elim_none, Option.some.injEq, Sum.inl.injEq, Sum.inr.injEq, ↓reduceIte, m_side, lit_nI, lz_I, nI_add, pk_mul, pk_sub, nI_ge, nI_le, nI_lt, nI_nlt, gi_t, nI_clamp, nI_eq, pk_rem, Nat.zero_add, Nat.reduceAdd, Nat.reduceMul, Nat.reduceSub, Nat.reduceMod, Nat.reduceEqDiff, reduceCtorEq, Nat.one_ne_zero, Nat.zero_ne_one, he.w4, he.r4, he.f4, he.o4, he.w2, he.f2, he.o2, he.o0, he.p0, he.tm hP hB, he.pl hP hB, he.mi hP hB, he.rc hP hB, he.ng hB, hl, lz64 (P := P), fL_eq hB, hv, a1, he1.w4, he1.r4, he1.f4, he1.o4, he1.w2, he1.f2, he1.o2, he1.o0, he1.p0, he1.tm hP hB, he1.pl hP hB, he1.mi hP hB, he1.rc hP hB, he1.ng hB, b1, c1, he3.w4, he3.r4, he3.f4, he3.o4, he3.w2, he3.f2, he3.o2, he3.o0, he3.p0, he3.tm hP hB, he3.pl hP hB, he3.mi hP hB, he3.rc hP hB, he3.ng hB, d1, e1, (show 1 ≤ rc by omega), (show 1 ≤ rc - 1 by omega), (show 1 ≤ rc - 1 - 1 by omega)]
theorem skF_up [NeZero P] {w : Nat} (L : Nat → Fin P) {i j : Nat} (h : i < j) : skF w L i j = L (swi w i + (j - i - 1)) := by
  unfold skF
  rw [if_pos h]
theorem baseU (so q sz rc : Nat) (hp : cH) (i : Int32) : ∃ C : Int32 → Int64 → Option ((Int32 × cH × Nat × Nat) ⊕ ((cH × Nat × Nat) ⊕ (Nat × cH × Nat))), ∀ l4 : Int32, f_X4_baseOfWedge_L21 so q i l4 hp sz rc = (gI hp so 4 2).bind fun w8 => if w8 ≤ l4 then (some (.inr (.inl (hp, sz, rc)))) else ((gI hp so 4 2).bind fun w10 => (lJ hp q ((i * w10) + l4)).bind fun w12 => if w12 = ((0 : Int64)) then (some (.inl (l4 + 1, hp, sz, rc))) else C l4 w12) := ⟨_, fun l4 => rfl⟩
theorem e_baseOfWedge [NeZero P] (hP : 2 < P) (hB : P < 2 ^ 31) {hp : cH} {w so ro fo sz a : Nat} {L : Nat → Fin P} (he : eV P w so ro fo hp sz) (hw : w = 3 ∨ w = 4) (hL : vA hp sz a (swi w w) L) (hnz : ldV L (swi w w) < swi w w) : ∃ r hp' sz' A, f_X4_baseOfWedge hp sz so a = some (r, hp', sz') ∧ gP hp' sz' r 2 w A (bwF w L) ∧ gro hp sz hp' sz' := by
  obtain ⟨hp1, a1, a2, a3⟩ := e_skew hP hB he hw hL
  have he1 := he.g a3
  have hk := wIJ_w hw hnz
  generalize hrc : (13 : Nat) = rc0
  generalize hI : wI w (ldV L (swi w w)) = i0 at hk
  generalize hJ : wJ w (ldV L (swi w w)) = j0 at hk
  obtain ⟨k1, k2, k3⟩ := hk
  have hv : skF w L i0 j0 = L (ldV L (swi w w)) := by rw [skF_up L k1, k3]
  have hv0 : skF w L i0 j0 ≠ 0 := by rw [hv]; exact ldV_nz hnz
  obtain ⟨r, hp2, sz2, A, b1, b2, b3⟩ := e_baseRet hP hB he1 hw a2 (show i0 < w by omega) k2 hv0 (rc := rc0) (by omega)
  have hz : ∀ i j, i < j → j < w → swi w i + (j - i - 1) < ldV L (swi w w) → skF w L i j = 0 := fun i j h1 h2 h3 => by rw [skF_up L h1]; exact ldV_z h3
  have hin : ∀ i n j, i < w → i < j → j + n = w → (∀ l, j ≤ l → l < w → swi w i + (l - i - 1) < ldV L (swi w w)) → itX (fun s => f_X4_baseOfWedge_L21 so sz (nI i) s.1 s.2.1 s.2.2.1 s.2.2.2) (nI j, hp1, sz + 1, rc0) = some (.inl (hp1, sz + 1, rc0)) := by
    intro i n
    induction n with
    | zero =>
      intro j hi hij hj hall
      apply itX_stop
      have e : j = w := by omega
      subst e
      obtain ⟨C, hC⟩ := baseU so sz (sz + 1) rc0 hp1 (nI i)
      (try dsimp only)
      rw [hC]
      simp (disch := omega) only [↓Option.bind_some, ↓Option.elim_some, ↓Option.elim_none, Option.bind_some, Option.elim_some, Option.elim_none, Option.some.injEq, Sum.inl.injEq, Sum.inr.injEq, ↓reduceIte, m_side, lit_nI, lz_I, nI_add, pk_mul, pk_sub, nI_ge, nI_le, nI_lt, nI_nlt, gi_t, nI_clamp, nI_eq, pk_rem, Nat.zero_add, Nat.reduceAdd, Nat.reduceMul, Nat.reduceSub, Nat.reduceMod, Nat.reduceEqDiff, reduceCtorEq, Nat.one_ne_zero, Nat.zero_ne_one, he1.w4, he1.r4, he1.f4, he1.o4, he1.w2, he1.f2, he1.o2, he1.o0, he1.p0, he1.tm hP hB, he1.pl hP hB, he1.mi hP hB, he1.rc hP hB, he1.ng hB]
    | succ n ih =>
      intro j hi hij hj hall
      rw [itX_step (s' := (nI (j + 1), hp1, sz + 1, rc0)), ih (j + 1) hi (by omega) (by omega) (fun l h1 h2 => hall l (by omega) h2)]
      have hl := sq_ld hw a2 hi (show j < w by omega)
      have h0 := hz i j hij (by omega) (hall j (by omega) (by omega))
      obtain ⟨C, hC⟩ := baseU so sz (sz + 1) rc0 hp1 (nI i)
      (try dsimp only)
      rw [hC]
      simp (disch := omega) only [↓Option.bind_some, ↓Option.elim_some, ↓Option.elim_none, Option.bind_some, Option.elim_some, Option.elim_none, Option.some.injEq, Sum.inl.injEq, Sum.inr.injEq, ↓reduceIte, m_side, lit_nI, lz_I, nI_add, pk_mul, pk_sub, nI_ge, nI_le, nI_lt, nI_nlt, gi_t, nI_clamp, nI_eq, pk_rem, Nat.zero_add, Nat.reduceAdd, Nat.reduceMul, Nat.reduceSub, Nat.reduceMod, Nat.reduceEqDiff, reduceCtorEq, Nat.one_ne_zero, Nat.zero_ne_one, he1.w4, he1.r4, he1.f4, he1.o4, he1.w2, he1.f2, he1.o2, he1.o0, he1.p0, he1.tm hP hB, he1.pl hP hB, he1.mi hP hB, he1.rc hP hB, he1.ng hB, hl, lz64 (P := P), fL_eq hB, h0]
  have hin2 : ∀ n j, i0 < j → j + n = j0 → itX (fun s => f_X4_baseOfWedge_L21 so sz (nI i0) s.1 s.2.1 s.2.2.1 s.2.2.2) (nI j, hp1, sz + 1, rc0) = some (.inr (r, hp2, sz2)) := by
    intro n
    induction n with
    | zero =>
      intro j hij hj
      have e : j = j0 := by omega
      subst e
      exact itX_stop b1
    | succ n ih =>
      intro j hij hj
      rw [itX_step (s' := (nI (j + 1), hp1, sz + 1, rc0)), ih (j + 1) (by omega) (by omega)]
      have hl := sq_ld hw a2 (show i0 < w by omega) (show j < w by omega)
      have h0 := hz i0 j hij (by omega) (by omega)
      obtain ⟨C, hC⟩ := baseU so sz (sz + 1) rc0 hp1 (nI i0)
      (try dsimp only)
      rw [hC]
      simp (disch := omega) only [↓Option.bind_some, ↓Option.elim_some, ↓Option.elim_none, Option.bind_some, Option.elim_some, Option.elim_none, Option.some.injEq, Sum.inl.injEq, Sum.inr.injEq, ↓reduceIte, m_side, lit_nI, lz_I, nI_add, pk_mul, pk_sub, nI_ge, nI_le, nI_lt, nI_nlt, gi_t, nI_clamp, nI_eq, pk_rem, Nat.zero_add, Nat.reduceAdd, Nat.reduceMul, Nat.reduceSub, Nat.reduceMod, Nat.reduceEqDiff, reduceCtorEq, Nat.one_ne_zero, Nat.zero_ne_one, he1.w4, he1.r4, he1.f4, he1.o4, he1.w2, he1.f2, he1.o2, he1.o0, he1.p0, he1.tm hP hB, he1.pl hP hB, he1.mi hP hB, he1.rc hP hB, he1.ng hB, hl, lz64 (P := P), fL_eq hB, h0]
  have hmono : ∀ i l, i < i0 → i < l → l < w → swi w i + (l - i - 1) < ldV L (swi w w) := by
    intro i l h1 h2 h3
    have q1 := swi_s hw (show i < w by omega)
    have q2 : ∀ n, i + 1 + n < w → swi w (i + 1) ≤ swi w (i + 1 + n) := by
      intro n
      induction n with
      | zero => intro _; exact Nat.le_refl _
      | succ n ih =>
        intro hn
        have := swi_s hw (show i + 1 + n < w by omega)
        have := ih (by omega)
        rw [show i + 1 + (n + 1) = i + 1 + n + 1 by omega]
        omega
    have q3 := q2 (i0 - (i + 1)) (by omega)
    rw [show i + 1 + (i0 - (i + 1)) = i0 by omega] at q3
    omega
  have hout : ∀ n i, i + n = i0 → itX (fun s => f_X4_baseOfWedge_L8 so sz s.1 s.2.1 s.2.2.1 s.2.2.2) (nI i, hp1, sz + 1, rc0) = some (.inr (r, hp2, sz2)) := by
    intro n
    induction n with
    | zero =>
      intro i hi
      have e : i = i0 := by omega
      subst e
      apply itX_stop
      have h2 := hin2 (j0 - (i + 1)) (i + 1) (by omega) (by omega)
      (try dsimp only)
      unfold f_X4_baseOfWedge_L8
      simp (disch := omega) only [↓Option.bind_some, ↓Option.elim_some, ↓Option.elim_none, Option.bind_some, Option.elim_some, Option.elim_none, Option.some.injEq, Sum.inl.injEq, Sum.inr.injEq, ↓reduceIte, m_side, lit_nI, lz_I, nI_add, pk_mul, pk_sub, nI_ge, nI_le, nI_lt, nI_nlt, gi_t, nI_clamp, nI_eq, pk_rem, Nat.zero_add, Nat.reduceAdd, Nat.reduceMul, Nat.reduceSub, Nat.reduceMod, Nat.reduceEqDiff, reduceCtorEq, Nat.one_ne_zero, Nat.zero_ne_one, he1.w4, he1.r4, he1.f4, he1.o4, he1.w2, he1.f2, he1.o2, he1.o0, he1.p0, he1.tm hP hB, he1.pl hP hB, he1.mi hP hB, he1.rc hP hB, he1.ng hB, h2]
    | succ n ih =>
      intro i hi
      rw [itX_step (s' := (nI (i + 1), hp1, sz + 1, rc0)), ih (i + 1) (by omega)]
      have h2 := hin i (w - (i + 1)) (i + 1) (by omega) (by omega) (by omega) (fun l q1 q2 => hmono i l (by omega) (by omega) q2)
      (try dsimp only)
      unfold f_X4_baseOfWedge_L8
      simp (disch := omega) only [↓Option.bind_some, ↓Option.elim_some, ↓Option.elim_none, Option.bind_some, Option.elim_some, Option.elim_none, Option.some.injEq, Sum.inl.injEq, Sum.inr.injEq, ↓reduceIte, m_side, lit_nI, lz_I, nI_add, pk_mul, pk_sub, nI_ge, nI_le, nI_lt, nI_nlt, gi_t, nI_clamp, nI_eq, pk_rem, Nat.zero_add, Nat.reduceAdd, Nat.reduceMul, Nat.reduceSub, Nat.reduceMod, Nat.reduceEqDiff, reduceCtorEq, Nat.one_ne_zero, Nat.zero_ne_one, he1.w4, he1.r4, he1.f4, he1.o4, he1.w2, he1.f2, he1.o2, he1.o0, he1.p0, he1.tm hP hB, he1.pl hP hB, he1.mi hP hB, he1.rc hP hB, he1.ng hB, h2]
  have h3 := hout i0 0 (by omega)
  refine ⟨r, hp2, sz2, A, ?_, ?_, a3.tr b3⟩
  · unfold f_X4_baseOfWedge
    rw [hrc]
    simp (disch := omega) only [↓Option.bind_some, ↓Option.elim_some, ↓Option.elim_none, Option.bind_some, Option.elim_some, Option.elim_none, Option.some.injEq, Sum.inl.injEq, Sum.inr.injEq, ↓reduceIte, m_side, lit_nI, lz_I, nI_add, pk_mul, pk_sub, nI_ge, nI_le, nI_lt, nI_nlt, gi_t, nI_clamp, nI_eq, pk_rem, Nat.zero_add, Nat.reduceAdd, Nat.reduceMul, Nat.reduceSub, Nat.reduceMod, Nat.reduceEqDiff, reduceCtorEq, Nat.one_ne_zero, Nat.zero_ne_one, he.w4, he.r4, he.f4, he.o4, he.w2, he.f2, he.o2, he.o0, he.p0, he.tm hP hB, he.pl hP hB, he.mi hP hB, he.rc hP hB, he.ng hB, a1, h3]
  · refine b2.congr (fun i j _ _ => ?_)
    unfold bwF
    (try dsimp only)
    rw [hv, hI, hJ]
end CROW
