section MVECB
variable {P : Nat}
/-- how many numbers an object of sort t has in dimension d -/
def wd (d t : Nat) : Nat := if t = 3 ∨ t = 4 then (d + 1) * (d + 1) else if t = 1 ∧ d = 3 then 6 else d + 1
theorem wd_le {d t : Nat} (hd : d = 2 ∨ d = 3) : wd d t ≤ 16 ∧ 3 ≤ wd d t := by
  unfold wd
  rcases hd with rfl | rfl <;> split <;> (try split) <;> omega
theorem s_width {d t : Nat} (hd : d = 2 ∨ d = 3) (ht : t < 5) : m_width (nI d) (nI t) = some (nI (wd d t)) := by
  unfold m_width wd
  rcases hd with rfl | rfl <;> rcases (show t = 0 ∨ t = 1 ∨ t = 2 ∨ t = 3 ∨ t = 4 by omega) with rfl | rfl | rfl | rfl | rfl <;> simp (disch := omega) only [↓Option.bind_some, ↓Option.elim_some, ↓Option.elim_none, Option.bind_some, Option.elim_some, Option.elim_none, Option.some.injEq, Sum.inl.injEq, Sum.inr.injEq, ↓reduceIte, m_side, lit_nI, lz_I, nI_add, pk_mul, pk_sub, nI_ge, nI_le, nI_lt, nI_nlt, gi_t, nI_clamp, nI_eq, pk_rem, Nat.zero_add, Nat.reduceAdd, Nat.reduceMul, Nat.reduceSub, Nat.reduceMod, Nat.reduceEqDiff, reduceCtorEq, Nat.one_ne_zero, Nat.zero_ne_one] <;> rfl
theorem s_isNothing [NeZero P] (hP : 2 < P) (hB : P < 2 ^ 31) {draft : Nat → Int64} {d t : Nat} (hd : d = 2 ∨ d = 3) (ht : t < 5) {x : Nat → Fin P} (h : vo draft (wd d t) x) : m_isNothing (nI d) draft (nI t) = some (if ldV x (wd d t) = wd d t then 1 else 0) := by
  have hw := (wd_le (t := t) hd).1
  have key := it_inv (f := m_isNothing_L4 (nI d) draft (nI t)) (fun k s => s.2 = nI k ∧ (((∀ j, j < k → x j = 0) ∧ s.1 = nI 1) ∨ ((¬ ∀ j, j < k → x j = 0) ∧ s.1 = nI 0))) (wd d t) (fun r => ((∀ j, j < wd d t → x j = 0) ∧ r = nI 1) ∨ ((¬ ∀ j, j < wd d t → x j = 0) ∧ r = nI 0)) ?_ ?_ (nI 1, nI 0) ⟨rfl, Or.inl ⟨fun j hj => by omega, rfl⟩⟩
  · obtain ⟨r, h1, h2⟩ := key
    unfold m_isNothing
    rcases h2 with ⟨q, e⟩ | ⟨q, e⟩
    · subst e
      rw [if_pos (ldV_eq.mpr q)]
      simp (disch := omega) only [↓Option.bind_some, ↓Option.elim_some, ↓Option.elim_none, Option.bind_some, Option.elim_some, Option.elim_none, Option.some.injEq, Sum.inl.injEq, Sum.inr.injEq, ↓reduceIte, m_side, lit_nI, lz_I, nI_add, pk_mul, pk_sub, nI_ge, nI_le, nI_lt, nI_nlt, gi_t, nI_clamp, nI_eq, pk_rem, Nat.zero_add, Nat.reduceAdd, Nat.reduceMul, Nat.reduceSub, Nat.reduceMod, Nat.reduceEqDiff, reduceCtorEq, Nat.one_ne_zero, Nat.zero_ne_one, h1]
      decide
    · subst e
      rw [if_neg (fun z => q (ldV_eq.mp z))]
      simp (disch := omega) only [↓Option.bind_some, ↓Option.elim_some, ↓Option.elim_none, Option.bind_some, Option.elim_some, Option.elim_none, Option.some.injEq, Sum.inl.injEq, Sum.inr.injEq, ↓reduceIte, m_side, lit_nI, lz_I, nI_add, pk_mul, pk_sub, nI_ge, nI_le, nI_lt, nI_nlt, gi_t, nI_clamp, nI_eq, pk_rem, Nat.zero_add, Nat.reduceAdd, Nat.reduceMul, Nat.reduceSub, Nat.reduceMod, Nat.reduceEqDiff, reduceCtorEq, Nat.one_ne_zero, Nat.zero_ne_one, h1]
      decide
  · rintro k ⟨b, k'⟩ hk ⟨e1, h1⟩
    dsimp only at e1 h1
    subst e1
    rcases h1 with ⟨q, e⟩ | ⟨q, e⟩
    · subst e
      by_cases e2 : x k = 0
      · refine ⟨(nI 1, nI (k + 1)), ?_, rfl, Or.inl ⟨fun j hj => ?_, rfl⟩⟩
        · unfold m_isNothing_L4 m_isNothing_L4J32
          simp (disch := omega) only [↓Option.bind_some, ↓Option.elim_some, ↓Option.elim_none, Option.bind_some, Option.elim_some, Option.elim_none, Option.some.injEq, Sum.inl.injEq, Sum.inr.injEq, ↓reduceIte, m_side, lit_nI, lz_I, nI_add, pk_mul, pk_sub, nI_ge, nI_le, nI_lt, nI_nlt, gi_t, nI_clamp, nI_eq, pk_rem, Nat.zero_add, Nat.reduceAdd, Nat.reduceMul, Nat.reduceSub, Nat.reduceMod, Nat.reduceEqDiff, reduceCtorEq, Nat.one_ne_zero, Nat.zero_ne_one, s_width hd ht, h k hk, lz64 (P := P), fL_eq hB, e2]
        · by_cases e3 : j = k
          · rw [e3]
            exact e2
          · exact q j (by omega)
      · refine ⟨(nI 0, nI (k + 1)), ?_, rfl, Or.inr ⟨fun z => e2 (z k (by omega)), rfl⟩⟩
        unfold m_isNothing_L4 m_isNothing_L4J32
        simp (disch := omega) only [↓Option.bind_some, ↓Option.elim_some, ↓Option.elim_none, Option.bind_some, Option.elim_some, Option.elim_none, Option.some.injEq, Sum.inl.injEq, Sum.inr.injEq, ↓reduceIte, m_side, lit_nI, lz_I, nI_add, pk_mul, pk_sub, nI_ge, nI_le, nI_lt, nI_nlt, gi_t, nI_clamp, nI_eq, pk_rem, Nat.zero_add, Nat.reduceAdd, Nat.reduceMul, Nat.reduceSub, Nat.reduceMod, Nat.reduceEqDiff, reduceCtorEq, Nat.one_ne_zero, Nat.zero_ne_one, s_width hd ht, h k hk, lz64 (P := P), fL_eq hB, e2]
    · subst e
      refine ⟨(nI 0, nI (k + 1)), ?_, rfl, Or.inr ⟨fun z => q (fun j hj => z j (by omega)), rfl⟩⟩
      unfold m_isNothing_L4 m_isNothing_L4J32
      simp (disch := omega) only [↓Option.bind_some, ↓Option.elim_some, ↓Option.elim_none, Option.bind_some, Option.elim_some, Option.elim_none, Option.some.injEq, Sum.inl.injEq, Sum.inr.injEq, ↓reduceIte, m_side, lit_nI, lz_I, nI_add, pk_mul, pk_sub, nI_ge, nI_le, nI_lt, nI_nlt, gi_t, nI_clamp, nI_eq, pk_rem, Nat.zero_add, Nat.reduceAdd, Nat.reduceMul, Nat.reduceSub, Nat.reduceMod, Nat.reduceEqDiff, reduceCtorEq, Nat.one_ne_zero, Nat.zero_ne_one, s_width hd ht]
  · rintro ⟨b, k'⟩ ⟨e1, h1⟩
    dsimp only at e1 h1
    subst e1
    refine ⟨b, ?_, h1⟩
    unfold m_isNothing_L4
    simp (disch := omega) only [↓Option.bind_some, ↓Option.elim_some, ↓Option.elim_none, Option.bind_some, Option.elim_some, Option.elim_none, Option.some.injEq, Sum.inl.injEq, Sum.inr.injEq, ↓reduceIte, m_side, lit_nI, lz_I, nI_add, pk_mul, pk_sub, nI_ge, nI_le, nI_lt, nI_nlt, gi_t, nI_clamp, nI_eq, pk_rem, Nat.zero_add, Nat.reduceAdd, Nat.reduceMul, Nat.reduceSub, Nat.reduceMod, Nat.reduceEqDiff, reduceCtorEq, Nat.one_ne_zero, Nat.zero_ne_one, s_width hd ht]
/-- the square of a row of six -/
def sk4 [NeZero P] (L : Nat → Fin P) : Nat → Nat → Fin P
  | 0, 1 => L 0
  | 0, 2 => L 1
  | 0, 3 => L 2
  | 1, 2 => L 3
  | 1, 3 => L 4
  | 2, 3 => L 5
  | 1, 0 => - L 0
  | 2, 0 => - L 1
  | 3, 0 => - L 2
  | 2, 1 => - L 3
  | 3, 1 => - L 4
  | 3, 2 => - L 5
  | _, _ => 0
theorem z_sub [NeZero P] (x : Fin P) : 0 - x = - x := by grind
theorem s_entry [NeZero P] (hP : 2 < P) (hB : P < 2 ^ 31) {rows : Nat → Int64} {R : Nat → Nat → Fin P} {cc : Nat} (h : rK cc rows R) {a i j : Nat} (ha : a < cc) (hi : i < 4) (hj : j < 4) : m_entry (lN P) rows (nI a) (nI i) (nI j) = some (fL (sk4 (R a) i j)) := by
  have h60 := h.1
  unfold m_entry m_slot
  rcases (show i = 0 ∨ i = 1 ∨ i = 2 ∨ i = 3 by omega) with rfl | rfl | rfl | rfl <;> rcases (show j = 0 ∨ j = 1 ∨ j = 2 ∨ j = 3 by omega) with rfl | rfl | rfl | rfl <;> simp (disch := omega) only [↓Option.bind_some, ↓Option.elim_some, ↓Option.elim_none, Option.bind_some, Option.elim_some, Option.elim_none, Option.some.injEq, Sum.inl.injEq, Sum.inr.injEq, ↓reduceIte, m_side, lit_nI, lz_I, nI_add, pk_mul, pk_sub, nI_ge, nI_le, nI_lt, nI_nlt, gi_t, nI_clamp, nI_eq, pk_rem, Nat.zero_add, Nat.reduceAdd, Nat.reduceMul, Nat.reduceSub, Nat.reduceMod, Nat.reduceEqDiff, reduceCtorEq, Nat.one_ne_zero, Nat.zero_ne_one, s_of h, s_times hP hB, s_less hP hB, s_over hP hB, n_plus hP hB, lz64 (P := P), lo64 (P := P) hP, lPz hP hB, z_sub] <;> rfl
theorem sF4 [NeZero P] (f : Nat → Fin P) : sF f 4 = f 0 + f 1 + f 2 + f 3 := by
  simp only [sF]
  grind
theorem sF3 [NeZero P] (f : Nat → Fin P) : sF f 3 = f 0 + f 1 + f 2 := by
  simp only [sF]
  grind
/-- of a line and a point the plane -/
def sp4 [NeZero P] (L x : Nat → Fin P) : Nat → Fin P
  | 0 => L 3 * x 3 + L 5 * x 1 - L 4 * x 2
  | 1 => - (L 1 * x 3 + L 5 * x 0 - L 2 * x 2)
  | 2 => L 0 * x 3 + L 4 * x 0 - L 2 * x 1
  | 3 => - (L 0 * x 2 + L 3 * x 0 - L 1 * x 1)
  | _ => 0
theorem s_spanned [NeZero P] (hP : 2 < P) (hB : P < 2 ^ 31) {rows draft one : Nat → Int64} {R : Nat → Nat → Fin P} {cc : Nat} (h : rK cc rows R) {a : Nat} (ha : a < cc) {x : Nat → Fin P} (ho : vo one 4 x) : ∃ d', m_spanned (lN P) rows draft one (nI a) = some d' ∧ vo d' 4 (sp4 (R a) x) := by
  have h60 := h.1
  obtain ⟨d0, c1, c2⟩ := s_clear (P := P) draft
  have key := loopP (f := m_spanned_L6 (lN P) rows one (nI a)) (d := d0) 4 (sp4 (R a) x) ?_ ?_
  · obtain ⟨d', h1, h2, -⟩ := key
    refine ⟨d', ?_, h2⟩
    unfold m_spanned
    simp (disch := omega) only [↓Option.bind_some, ↓Option.elim_some, ↓Option.elim_none, Option.bind_some, Option.elim_some, Option.elim_none, Option.some.injEq, Sum.inl.injEq, Sum.inr.injEq, ↓reduceIte, m_side, lit_nI, lz_I, nI_add, pk_mul, pk_sub, nI_ge, nI_le, nI_lt, nI_nlt, gi_t, nI_clamp, nI_eq, pk_rem, Nat.zero_add, Nat.reduceAdd, Nat.reduceMul, Nat.reduceSub, Nat.reduceMod, Nat.reduceEqDiff, reduceCtorEq, Nat.one_ne_zero, Nat.zero_ne_one, c1, h1]
  · intro k d1 hk _
    unfold m_spanned_L6
    have o0 := ho 0 (by omega)
    have o1 := ho 1 (by omega)
    have o2 := ho 2 (by omega)
    have o3 := ho 3 (by omega)
    rcases (show k = 0 ∨ k = 1 ∨ k = 2 ∨ k = 3 by omega) with rfl | rfl | rfl | rfl <;> simp (disch := omega) only [↓Option.bind_some, ↓Option.elim_some, ↓Option.elim_none, Option.bind_some, Option.elim_some, Option.elim_none, Option.some.injEq, Sum.inl.injEq, Sum.inr.injEq, ↓reduceIte, m_side, lit_nI, lz_I, nI_add, pk_mul, pk_sub, nI_ge, nI_le, nI_lt, nI_nlt, gi_t, nI_clamp, nI_eq, pk_rem, Nat.zero_add, Nat.reduceAdd, Nat.reduceMul, Nat.reduceSub, Nat.reduceMod, Nat.reduceEqDiff, reduceCtorEq, Nat.one_ne_zero, Nat.zero_ne_one, s_entry hP hB h, o0, o1, o2, o3, s_times hP hB, s_less hP hB, s_over hP hB, n_plus hP hB, lz64 (P := P), lo64 (P := P) hP, lPz hP hB, z_sub] <;> rfl
  · intro d1
    unfold m_spanned_L6
    simp (disch := omega) only [↓Option.bind_some, ↓Option.elim_some, ↓Option.elim_none, Option.bind_some, Option.elim_some, Option.elim_none, Option.some.injEq, Sum.inl.injEq, Sum.inr.injEq, ↓reduceIte, m_side, lit_nI, lz_I, nI_add, pk_mul, pk_sub, nI_ge, nI_le, nI_lt, nI_nlt, gi_t, nI_clamp, nI_eq, pk_rem, Nat.zero_add, Nat.reduceAdd, Nat.reduceMul, Nat.reduceSub, Nat.reduceMod, Nat.reduceEqDiff, reduceCtorEq, Nat.one_ne_zero, Nat.zero_ne_one]
/-- a square given by its entries, times a row -/
def mvK [NeZero P] (w : Nat) (S : Nat → Nat → Fin P) (x : Nat → Fin P) : Nat → Fin P := fun i => sF (fun j => S i j * x j) w
theorem s_pierced [NeZero P] (hP : 2 < P) (hB : P < 2 ^ 31) {rows draft : Nat → Int64} {R : Nat → Nat → Fin P} {cc : Nat} (h : rK cc rows R) {a b : Nat} (ha : a < cc) (hb : b < cc) : ∃ d', m_pierced (lN P) rows draft (nI a) (nI b) = some d' ∧ vo d' 4 (mvK 4 (sk4 (R a)) (R b)) := by
  have h60 := h.1
  obtain ⟨d0, c1, c2⟩ := s_clear (P := P) draft
  have key := loop1 (f := m_pierced_L6 (lN P) rows (nI a) (nI b)) (d := d0) (N := 4) (fun i => i) (fun i j _ _ e => e) (mvK 4 (sk4 (R a)) (R b)) ?_ ?_
  · obtain ⟨d', h1, h2, -⟩ := key
    refine ⟨d', ?_, h2⟩
    unfold m_pierced
    simp (disch := omega) only [↓Option.bind_some, ↓Option.elim_some, ↓Option.elim_none, Option.bind_some, Option.elim_some, Option.elim_none, Option.some.injEq, Sum.inl.injEq, Sum.inr.injEq, ↓reduceIte, m_side, lit_nI, lz_I, nI_add, pk_mul, pk_sub, nI_ge, nI_le, nI_lt, nI_nlt, gi_t, nI_clamp, nI_eq, pk_rem, Nat.zero_add, Nat.reduceAdd, Nat.reduceMul, Nat.reduceSub, Nat.reduceMod, Nat.reduceEqDiff, reduceCtorEq, Nat.one_ne_zero, Nat.zero_ne_one, c1, h1]
  · intro i d1 hi q1 q2
    have hz : d1 i = fL (0 : Fin P) := by rw [q1 i (fun j hj => by omega)]; exact c2 i (by omega)
    have key2 := loopA (f := m_pierced_L14 (lN P) rows (nI a) (nI b) (nI i)) (d := d1) 4 i hz (fun j => sk4 (R a) i j * R b j) ?_ ?_
    · obtain ⟨d2, g1, g2, g3⟩ := key2
      refine ⟨d2, ?_, ?_, g3⟩
      · unfold m_pierced_L6
        simp (disch := omega) only [↓Option.bind_some, ↓Option.elim_some, ↓Option.elim_none, Option.bind_some, Option.elim_some, Option.elim_none, Option.some.injEq, Sum.inl.injEq, Sum.inr.injEq, ↓reduceIte, m_side, lit_nI, lz_I, nI_add, pk_mul, pk_sub, nI_ge, nI_le, nI_lt, nI_nlt, gi_t, nI_clamp, nI_eq, pk_rem, Nat.zero_add, Nat.reduceAdd, Nat.reduceMul, Nat.reduceSub, Nat.reduceMod, Nat.reduceEqDiff, reduceCtorEq, Nat.one_ne_zero, Nat.zero_ne_one, g1]
      · rw [g2]
        unfold mvK
        congr 1
        grind
    · intro k d2 c hk hc
      unfold m_pierced_L14
      simp (disch := omega) only [↓Option.bind_some, ↓Option.elim_some, ↓Option.elim_none, Option.bind_some, Option.elim_some, Option.elim_none, Option.some.injEq, Sum.inl.injEq, Sum.inr.injEq, ↓reduceIte, m_side, lit_nI, lz_I, nI_add, pk_mul, pk_sub, nI_ge, nI_le, nI_lt, nI_nlt, gi_t, nI_clamp, nI_eq, pk_rem, Nat.zero_add, Nat.reduceAdd, Nat.reduceMul, Nat.reduceSub, Nat.reduceMod, Nat.reduceEqDiff, reduceCtorEq, Nat.one_ne_zero, Nat.zero_ne_one, s_entry hP hB h, s_of h, hc, s_times hP hB, s_less hP hB, s_over hP hB, n_plus hP hB, lz64 (P := P), lo64 (P := P) hP, lPz hP hB]
    · intro d2
      unfold m_pierced_L14
      simp (disch := omega) only [↓Option.bind_some, ↓Option.elim_some, ↓Option.elim_none, Option.bind_some, Option.elim_some, Option.elim_none, Option.some.injEq, Sum.inl.injEq, Sum.inr.injEq, ↓reduceIte, m_side, lit_nI, lz_I, nI_add, pk_mul, pk_sub, nI_ge, nI_le, nI_lt, nI_nlt, gi_t, nI_clamp, nI_eq, pk_rem, Nat.zero_add, Nat.reduceAdd, Nat.reduceMul, Nat.reduceSub, Nat.reduceMod, Nat.reduceEqDiff, reduceCtorEq, Nat.one_ne_zero, Nat.zero_ne_one]
  · intro d1
    unfold m_pierced_L6
    simp (disch := omega) only [↓Option.bind_some, ↓Option.elim_some, ↓Option.elim_none, Option.bind_some, Option.elim_some, Option.elim_none, Option.some.injEq, Sum.inl.injEq, Sum.inr.injEq, ↓reduceIte, m_side, lit_nI, lz_I, nI_add, pk_mul, pk_sub, nI_ge, nI_le, nI_lt, nI_nlt, gi_t, nI_clamp, nI_eq, pk_rem, Nat.zero_add, Nat.reduceAdd, Nat.reduceMul, Nat.reduceSub, Nat.reduceMod, Nat.reduceEqDiff, reduceCtorEq, Nat.one_ne_zero, Nat.zero_ne_one]
/-- the row of the dual -/
def fl6 [NeZero P] (L : Nat → Fin P) : Nat → Fin P
  | 0 => L 5
  | 1 => - L 4
  | 2 => L 3
  | 3 => L 2
  | 4 => - L 1
  | 5 => L 0
  | _ => 0
theorem s_turn [NeZero P] (hP : 2 < P) (hB : P < 2 ^ 31) {draft : Nat → Int64} {L : Nat → Fin P} (h : vo draft 6 L) : ∃ d', m_turn (lN P) draft = some d' ∧ vo d' 6 (fl6 L) := by
  have h0 := h 0 (by omega)
  have h1 := h 1 (by omega)
  have h2 := h 2 (by omega)
  have h3 := h 3 (by omega)
  have h4 := h 4 (by omega)
  have h5 := h 5 (by omega)
  have key : itX m_turn_L2 (nI 0, draft) = some (vp_updL (vp_updL (vp_updL (vp_updL (vp_updL (vp_updL draft 0 (fL (L 5))) 5 (fL (L 0))) 1 (fL (L 4))) 4 (fL (L 1))) 2 (fL (L 3))) 3 (fL (L 2))) := by
    rw [itX_step (s' := (nI 1, vp_updL (vp_updL draft 0 (fL (L 5))) 5 (fL (L 0)))), itX_step (s' := (nI 2, vp_updL (vp_updL (vp_updL (vp_updL draft 0 (fL (L 5))) 5 (fL (L 0))) 1 (fL (L 4))) 4 (fL (L 1)))), itX_step (s' := (nI 3, vp_updL (vp_updL (vp_updL (vp_updL (vp_updL (vp_updL draft 0 (fL (L 5))) 5 (fL (L 0))) 1 (fL (L 4))) 4 (fL (L 1))) 2 (fL (L 3))) 3 (fL (L 2))))]
    · apply itX_stop
      unfold m_turn_L2
      simp (disch := omega) only [↓Option.bind_some, ↓Option.elim_some, ↓Option.elim_none, Option.bind_some, Option.elim_some, Option.elim_none, Option.some.injEq, Sum.inl.injEq, Sum.inr.injEq, ↓reduceIte, m_side, lit_nI, lz_I, nI_add, pk_mul, pk_sub, nI_ge, nI_le, nI_lt, nI_nlt, gi_t, nI_clamp, nI_eq, pk_rem, Nat.zero_add, Nat.reduceAdd, Nat.reduceMul, Nat.reduceSub, Nat.reduceMod, Nat.reduceEqDiff, reduceCtorEq, Nat.one_ne_zero, Nat.zero_ne_one]
    · unfold m_turn_L2
      simp (disch := omega) only [↓Option.bind_some, ↓Option.elim_some, ↓Option.elim_none, Option.bind_some, Option.elim_some, Option.elim_none, Option.some.injEq, Sum.inl.injEq, Sum.inr.injEq, ↓reduceIte, m_side, lit_nI, lz_I, nI_add, pk_mul, pk_sub, nI_ge, nI_le, nI_lt, nI_nlt, gi_t, nI_clamp, nI_eq, pk_rem, Nat.zero_add, Nat.reduceAdd, Nat.reduceMul, Nat.reduceSub, Nat.reduceMod, Nat.reduceEqDiff, reduceCtorEq, Nat.one_ne_zero, Nat.zero_ne_one, pk_uLs, pk_uLn, h2, h3]
    · unfold m_turn_L2
      simp (disch := omega) only [↓Option.bind_some, ↓Option.elim_some, ↓Option.elim_none, Option.bind_some, Option.elim_some, Option.elim_none, Option.some.injEq, Sum.inl.injEq, Sum.inr.injEq, ↓reduceIte, m_side, lit_nI, lz_I, nI_add, pk_mul, pk_sub, nI_ge, nI_le, nI_lt, nI_nlt, gi_t, nI_clamp, nI_eq, pk_rem, Nat.zero_add, Nat.reduceAdd, Nat.reduceMul, Nat.reduceSub, Nat.reduceMod, Nat.reduceEqDiff, reduceCtorEq, Nat.one_ne_zero, Nat.zero_ne_one, pk_uLs, pk_uLn, h1, h4]
    · unfold m_turn_L2
      simp (disch := omega) only [↓Option.bind_some, ↓Option.elim_some, ↓Option.elim_none, Option.bind_some, Option.elim_some, Option.elim_none, Option.some.injEq, Sum.inl.injEq, Sum.inr.injEq, ↓reduceIte, m_side, lit_nI, lz_I, nI_add, pk_mul, pk_sub, nI_ge, nI_le, nI_lt, nI_nlt, gi_t, nI_clamp, nI_eq, pk_rem, Nat.zero_add, Nat.reduceAdd, Nat.reduceMul, Nat.reduceSub, Nat.reduceMod, Nat.reduceEqDiff, reduceCtorEq, Nat.one_ne_zero, Nat.zero_ne_one, pk_uLs, pk_uLn, h0, h5]
  refine ⟨vp_updL (vp_updL (vp_updL (vp_updL (vp_updL (vp_updL (vp_updL (vp_updL draft 0 (fL (L 5))) 5 (fL (L 0))) 1 (fL (L 4))) 4 (fL (L 1))) 2 (fL (L 3))) 3 (fL (L 2))) 1 (fL (- L 4))) 4 (fL (- L 1)), ?_, ?_⟩
  · unfold m_turn
    simp (disch := omega) only [↓Option.bind_some, ↓Option.elim_some, ↓Option.elim_none, Option.bind_some, Option.elim_some, Option.elim_none, Option.some.injEq, Sum.inl.injEq, Sum.inr.injEq, ↓reduceIte, m_side, lit_nI, lz_I, nI_add, pk_mul, pk_sub, nI_ge, nI_le, nI_lt, nI_nlt, gi_t, nI_clamp, nI_eq, pk_rem, Nat.zero_add, Nat.reduceAdd, Nat.reduceMul, Nat.reduceSub, Nat.reduceMod, Nat.reduceEqDiff, reduceCtorEq, Nat.one_ne_zero, Nat.zero_ne_one, key, pk_uLs, pk_uLn, s_times hP hB, s_less hP hB, s_over hP hB, n_plus hP hB, lz64 (P := P), lo64 (P := P) hP, lPz hP hB, z_sub]
  · intro j hj
    rcases (show j = 0 ∨ j = 1 ∨ j = 2 ∨ j = 3 ∨ j = 4 ∨ j = 5 by omega) with rfl | rfl | rfl | rfl | rfl | rfl <;> simp (disch := omega) only [↓Option.bind_some, ↓Option.elim_some, ↓Option.elim_none, Option.bind_some, Option.elim_some, Option.elim_none, Option.some.injEq, Sum.inl.injEq, Sum.inr.injEq, ↓reduceIte, m_side, lit_nI, lz_I, nI_add, pk_mul, pk_sub, nI_ge, nI_le, nI_lt, nI_nlt, gi_t, nI_clamp, nI_eq, pk_rem, Nat.zero_add, Nat.reduceAdd, Nat.reduceMul, Nat.reduceSub, Nat.reduceMod, Nat.reduceEqDiff, reduceCtorEq, Nat.one_ne_zero, Nat.zero_ne_one, pk_uLs, pk_uLn] <;> rfl
/-- in the plane -/
def cr3 [NeZero P] (x y : Nat → Fin P) : Nat → Fin P := fun k => x ((k + 1) % 3) * y ((k + 2) % 3) - x ((k + 2) % 3) * y ((k + 1) % 3)
theorem s_through2 [NeZero P] (hP : 2 < P) (hB : P < 2 ^ 31) {draft one two : Nat → Int64} {x y : Nat → Fin P} (h1 : vo one 3 x) (h2 : vo two 3 y) : ∃ d', m_through (nI 2) (lN P) draft one two = some d' ∧ vo d' 3 (cr3 x y) := by
  obtain ⟨d0, c1, c2⟩ := s_clear (P := P) draft
  have key := loopP (f := m_through_L14 (lN P) one two) (d := d0) 3 (cr3 x y) ?_ ?_
  · obtain ⟨d', h1, h2, -⟩ := key
    refine ⟨d', ?_, h2⟩
    unfold m_through
    simp (disch := omega) only [↓Option.bind_some, ↓Option.elim_some, ↓Option.elim_none, Option.bind_some, Option.elim_some, Option.elim_none, Option.some.injEq, Sum.inl.injEq, Sum.inr.injEq, ↓reduceIte, m_side, lit_nI, lz_I, nI_add, pk_mul, pk_sub, nI_ge, nI_le, nI_lt, nI_nlt, gi_t, nI_clamp, nI_eq, pk_rem, Nat.zero_add, Nat.reduceAdd, Nat.reduceMul, Nat.reduceSub, Nat.reduceMod, Nat.reduceEqDiff, reduceCtorEq, Nat.one_ne_zero, Nat.zero_ne_one, c1, h1]
  · intro k d1 hk _
    have a1 := h1 ((k + 1) % 3) (by omega)
    have a2 := h1 ((k + 2) % 3) (by omega)
    have b1 := h2 ((k + 1) % 3) (by omega)
    have b2 := h2 ((k + 2) % 3) (by omega)
    unfold m_through_L14
    simp (disch := omega) only [↓Option.bind_some, ↓Option.elim_some, ↓Option.elim_none, Option.bind_some, Option.elim_some, Option.elim_none, Option.some.injEq, Sum.inl.injEq, Sum.inr.injEq, ↓reduceIte, m_side, lit_nI, lz_I, nI_add, pk_mul, pk_sub, nI_ge, nI_le, nI_lt, nI_nlt, gi_t, nI_clamp, nI_eq, pk_rem, Nat.zero_add, Nat.reduceAdd, Nat.reduceMul, Nat.reduceSub, Nat.reduceMod, Nat.reduceEqDiff, reduceCtorEq, Nat.one_ne_zero, Nat.zero_ne_one, a1, a2, b1, b2, s_times hP hB, s_less hP hB, s_over hP hB, n_plus hP hB, lz64 (P := P), lo64 (P := P) hP, lPz hP hB, cr3]
  · intro d1
    unfold m_through_L14
    simp (disch := omega) only [↓Option.bind_some, ↓Option.elim_some, ↓Option.elim_none, Option.bind_some, Option.elim_some, Option.elim_none, Option.some.injEq, Sum.inl.injEq, Sum.inr.injEq, ↓reduceIte, m_side, lit_nI, lz_I, nI_add, pk_mul, pk_sub, nI_ge, nI_le, nI_lt, nI_nlt, gi_t, nI_clamp, nI_eq, pk_rem, Nat.zero_add, Nat.reduceAdd, Nat.reduceMul, Nat.reduceSub, Nat.reduceMod, Nat.reduceEqDiff, reduceCtorEq, Nat.one_ne_zero, Nat.zero_ne_one]
/-- in space: all xi yj - xj yi, i before j -/
def wg4 [NeZero P] (x y : Nat → Fin P) : Nat → Fin P
  | 0 => x 0 * y 1 - x 1 * y 0
  | 1 => x 0 * y 2 - x 2 * y 0
  | 2 => x 0 * y 3 - x 3 * y 0
  | 3 => x 1 * y 2 - x 2 * y 1
  | 4 => x 1 * y 3 - x 3 * y 1
  | 5 => x 2 * y 3 - x 3 * y 2
  | _ => 0
def slt (i j : Nat) : Nat := if i = 0 then j - 1 else if i = 1 then j + 1 else 5
theorem s_slot {i j : Nat} (h : i < j) (hj : j < 4) : m_slot (nI i) (nI j) = some (nI (slt i j)) := by
  unfold m_slot slt
  rcases (show i = 0 ∨ i = 1 ∨ i = 2 by omega) with rfl | rfl | rfl <;> simp (disch := omega) only [↓Option.bind_some, ↓Option.elim_some, ↓Option.elim_none, Option.bind_some, Option.elim_some, Option.elim_none, Option.some.injEq, Sum.inl.injEq, Sum.inr.injEq, ↓reduceIte, m_side, lit_nI, lz_I, nI_add, pk_mul, pk_sub, nI_ge, nI_le, nI_lt, nI_nlt, gi_t, nI_clamp, nI_eq, pk_rem, Nat.zero_add, Nat.reduceAdd, Nat.reduceMul, Nat.reduceSub, Nat.reduceMod, Nat.reduceEqDiff, reduceCtorEq, Nat.one_ne_zero, Nat.zero_ne_one]
theorem slt_lt {i j : Nat} (h : i < j) (hj : j < 4) : slt i j < 6 := by
  unfold slt
  split
  · omega
  · split <;> omega
theorem wg4_s [NeZero P] (x y : Nat → Fin P) {i j : Nat} (h : i < j) (hj : j < 4) : wg4 x y (slt i j) = x i * y j - x j * y i := by
  rcases (show i = 0 ∨ i = 1 ∨ i = 2 by omega) with rfl | rfl | rfl <;> rcases (show j = 1 ∨ j = 2 ∨ j = 3 by omega) with rfl | rfl | rfl <;> first | omega | rfl
theorem s_through3 [NeZero P] (hP : 2 < P) (hB : P < 2 ^ 31) {draft one two : Nat → Int64} {x y : Nat → Fin P} (h1 : vo one 4 x) (h2 : vo two 4 y) : ∃ d', m_through (nI 3) (lN P) draft one two = some d' ∧ vo d' 6 (wg4 x y) := by
  obtain ⟨d0, c1, c2⟩ := s_clear (P := P) draft
  have key := loopM (f := m_through_L82 (lN P) one two) (d := d0) (s := 0) (N := 4) (by omega) (fun i m => ∃ j, i < j ∧ j < 4 ∧ m = slt i j) (wg4 x y) ?_ ?_
  · obtain ⟨d', g1, g2, -⟩ := key
    refine ⟨d', ?_, fun k hk => ?_⟩
    · unfold m_through
      simp (disch := omega) only [↓Option.bind_some, ↓Option.elim_some, ↓Option.elim_none, Option.bind_some, Option.elim_some, Option.elim_none, Option.some.injEq, Sum.inl.injEq, Sum.inr.injEq, ↓reduceIte, m_side, lit_nI, lz_I, nI_add, pk_mul, pk_sub, nI_ge, nI_le, nI_lt, nI_nlt, gi_t, nI_clamp, nI_eq, pk_rem, Nat.zero_add, Nat.reduceAdd, Nat.reduceMul, Nat.reduceSub, Nat.reduceMod, Nat.reduceEqDiff, reduceCtorEq, Nat.one_ne_zero, Nat.zero_ne_one, c1, g1]
    · rcases (show k = 0 ∨ k = 1 ∨ k = 2 ∨ k = 3 ∨ k = 4 ∨ k = 5 by omega) with rfl | rfl | rfl | rfl | rfl | rfl
      · exact g2 0 0 (by omega) (by omega) ⟨1, by omega, by omega, rfl⟩
      · exact g2 0 1 (by omega) (by omega) ⟨2, by omega, by omega, rfl⟩
      · exact g2 0 2 (by omega) (by omega) ⟨3, by omega, by omega, rfl⟩
      · exact g2 1 3 (by omega) (by omega) ⟨2, by omega, by omega, rfl⟩
      · exact g2 1 4 (by omega) (by omega) ⟨3, by omega, by omega, rfl⟩
      · exact g2 2 5 (by omega) (by omega) ⟨3, by omega, by omega, rfl⟩
  · intro i d1 _ hi q1 q2
    have key2 := loopM (f := m_through_L91 (lN P) one two (nI i)) (d := d1) (s := i + 1) (N := 4) (by omega) (fun j m => m = slt i j) (wg4 x y) ?_ ?_
    · obtain ⟨d2, g1, g2, g3⟩ := key2
      refine ⟨d2, ?_, ?_, ?_⟩
      · unfold m_through_L82
        simp (disch := omega) only [↓Option.bind_some, ↓Option.elim_some, ↓Option.elim_none, Option.bind_some, Option.elim_some, Option.elim_none, Option.some.injEq, Sum.inl.injEq, Sum.inr.injEq, ↓reduceIte, m_side, lit_nI, lz_I, nI_add, pk_mul, pk_sub, nI_ge, nI_le, nI_lt, nI_nlt, gi_t, nI_clamp, nI_eq, pk_rem, Nat.zero_add, Nat.reduceAdd, Nat.reduceMul, Nat.reduceSub, Nat.reduceMod, Nat.reduceEqDiff, reduceCtorEq, Nat.one_ne_zero, Nat.zero_ne_one, g1]
      · rintro m ⟨j, j1, j2, j3⟩
        exact g2 j m (by omega) j2 j3
      · intro m hm
        exact g3 m (fun j j1 j2 j3 => hm ⟨j, by omega, j2, j3⟩)
    · intro j d2 hj1 hj2 _ _
      have hs := slt_lt (i := i) (j := j) (by omega) hj2
      refine ⟨vp_updL d2 (slt i j) (fL (wg4 x y (slt i j))), ?_, ?_, ?_⟩
      · have a1 := h1 i (by omega)
        have a2 := h1 j (by omega)
        have b1 := h2 i (by omega)
        have b2 := h2 j (by omega)
        unfold m_through_L91
        simp (disch := omega) only [↓Option.bind_some, ↓Option.elim_some, ↓Option.elim_none, Option.bind_some, Option.elim_some, Option.elim_none, Option.some.injEq, Sum.inl.injEq, Sum.inr.injEq, ↓reduceIte, m_side, lit_nI, lz_I, nI_add, pk_mul, pk_sub, nI_ge, nI_le, nI_lt, nI_nlt, gi_t, nI_clamp, nI_eq, pk_rem, Nat.zero_add, Nat.reduceAdd, Nat.reduceMul, Nat.reduceSub, Nat.reduceMod, Nat.reduceEqDiff, reduceCtorEq, Nat.one_ne_zero, Nat.zero_ne_one, s_slot, a1, a2, b1, b2, s_times hP hB, s_less hP hB, s_over hP hB, n_plus hP hB, lz64 (P := P), lo64 (P := P) hP, lPz hP hB, wg4_s]
      · rintro m rfl
        exact pk_uLs
      · intro m hm
        exact pk_uLn hm
    · intro d2
      unfold m_through_L91
      simp (disch := omega) only [↓Option.bind_some, ↓Option.elim_some, ↓Option.elim_none, Option.bind_some, Option.elim_some, Option.elim_none, Option.some.injEq, Sum.inl.injEq, Sum.inr.injEq, ↓reduceIte, m_side, lit_nI, lz_I, nI_add, pk_mul, pk_sub, nI_ge, nI_le, nI_lt, nI_nlt, gi_t, nI_clamp, nI_eq, pk_rem, Nat.zero_add, Nat.reduceAdd, Nat.reduceMul, Nat.reduceSub, Nat.reduceMod, Nat.reduceEqDiff, reduceCtorEq, Nat.one_ne_zero, Nat.zero_ne_one]
  · intro d1
    unfold m_through_L82
    simp (disch := omega) only [↓Option.bind_some, ↓Option.elim_some, ↓Option.elim_none, Option.bind_some, Option.elim_some, Option.elim_none, Option.some.injEq, Sum.inl.injEq, Sum.inr.injEq, ↓reduceIte, m_side, lit_nI, lz_I, nI_add, pk_mul, pk_sub, nI_ge, nI_le, nI_lt, nI_nlt, gi_t, nI_clamp, nI_eq, pk_rem, Nat.zero_add, Nat.reduceAdd, Nat.reduceMul, Nat.reduceSub, Nat.reduceMod, Nat.reduceEqDiff, reduceCtorEq, Nat.one_ne_zero, Nat.zero_ne_one]
end MVECB
