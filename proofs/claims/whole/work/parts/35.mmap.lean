section MMAP
variable {P : Nat}
theorem s_mapped [NeZero P] (hP : 2 < P) (hB : P < 2 ^ 31) {rows draft one two : Nat → Int64} {R : Nat → Nat → Fin P} {cc : Nat} (h : rK cc rows R) {a d b : Nat} (ha : a < cc) (hd : d = 2 ∨ d = 3) (hb : b < 2) {x : Nat → Fin P} (hx : vo (if b = 0 then two else one) (d + 1) x) : ∃ d' o' t', m_mapped (nI d) (lN P) rows draft one two (nI a) (nI b) = some (d', o', t') ∧ vo d' (d + 1) (imV (d + 1) (R a) x) ∧ (b = 1 → vo o' (d + 1) (imV (d + 1) (R a) x) ∧ t' = two) ∧ (b = 0 → o' = one ∧ vo t' (d + 1) (imV (d + 1) (R a) x)) := by
  have h60 := h.1
  have key := loop1 (f := m_mapped_L2 (nI d) (lN P) rows one two (nI a) (nI b)) (d := draft) (N := d + 1) (fun i => i) (fun i j _ _ e => e) (imV (d + 1) (R a) x) ?_ ?_
  · obtain ⟨d', h1, h2, -⟩ := key
    have key2 := it_inv (f := m_mapped_L100 (nI d) d' (nI b)) (fun k s => s.1 = nI k ∧ (b = 1 → vo s.2.1 k (imV (d + 1) (R a) x) ∧ s.2.2 = two) ∧ (b = 0 → s.2.1 = one ∧ vo s.2.2 k (imV (d + 1) (R a) x))) (d + 1) (fun r => (b = 1 → vo r.1 (d + 1) (imV (d + 1) (R a) x) ∧ r.2 = two) ∧ (b = 0 → r.1 = one ∧ vo r.2 (d + 1) (imV (d + 1) (R a) x))) ?_ ?_ (nI 0, one, two) ⟨rfl, fun _ => ⟨fun j hj => by omega, rfl⟩, fun _ => ⟨rfl, fun j hj => by omega⟩⟩
    · obtain ⟨⟨o', t'⟩, k1, k2, k3⟩ := key2
      refine ⟨d', o', t', ?_, h2, k2, k3⟩
      unfold m_mapped
      simp (disch := omega) only [↓Option.bind_some, ↓Option.elim_some, ↓Option.elim_none, Option.bind_some, Option.elim_some, Option.elim_none, Option.some.injEq, Sum.inl.injEq, Sum.inr.injEq, ↓reduceIte, m_side, lit_nI, lz_I, nI_add, pk_mul, pk_sub, nI_ge, nI_le, nI_lt, nI_nlt, gi_t, nI_clamp, nI_eq, pk_rem, Nat.zero_add, Nat.reduceAdd, Nat.reduceMul, Nat.reduceSub, Nat.reduceMod, Nat.reduceEqDiff, reduceCtorEq, Nat.one_ne_zero, Nat.zero_ne_one, h1, k1]
    · rintro k ⟨k', o, t⟩ hk ⟨e1, g1, g2⟩
      dsimp only at e1 g1 g2
      subst e1
      have hv := h2 k hk
      rcases (show b = 0 ∨ b = 1 by omega) with rfl | rfl
      · obtain ⟨q1, q2⟩ := g2 rfl
        refine ⟨(nI (k + 1), o, vp_updL t k (fL (imV (d + 1) (R a) x k))), ?_, rfl, fun q => by omega, fun _ => ⟨q1, fun j hj => ?_⟩⟩
        · unfold m_mapped_L100 m_mapped_L100J139
          simp (disch := omega) only [↓Option.bind_some, ↓Option.elim_some, ↓Option.elim_none, Option.bind_some, Option.elim_some, Option.elim_none, Option.some.injEq, Sum.inl.injEq, Sum.inr.injEq, ↓reduceIte, m_side, lit_nI, lz_I, nI_add, pk_mul, pk_sub, nI_ge, nI_le, nI_lt, nI_nlt, gi_t, nI_clamp, nI_eq, pk_rem, Nat.zero_add, Nat.reduceAdd, Nat.reduceMul, Nat.reduceSub, Nat.reduceMod, Nat.reduceEqDiff, reduceCtorEq, Nat.one_ne_zero, Nat.zero_ne_one, hv]
        · (try dsimp only)
          by_cases e : j = k
          · rw [e, pk_uLs]
          · rw [pk_uLn e]
            exact q2 j (by omega)
      · obtain ⟨q1, q2⟩ := g1 rfl
        refine ⟨(nI (k + 1), vp_updL o k (fL (imV (d + 1) (R a) x k)), t), ?_, rfl, fun _ => ⟨fun j hj => ?_, q2⟩, fun q => by omega⟩
        · unfold m_mapped_L100 m_mapped_L100J139
          simp (disch := omega) only [↓Option.bind_some, ↓Option.elim_some, ↓Option.elim_none, Option.bind_some, Option.elim_some, Option.elim_none, Option.some.injEq, Sum.inl.injEq, Sum.inr.injEq, ↓reduceIte, m_side, lit_nI, lz_I, nI_add, pk_mul, pk_sub, nI_ge, nI_le, nI_lt, nI_nlt, gi_t, nI_clamp, nI_eq, pk_rem, Nat.zero_add, Nat.reduceAdd, Nat.reduceMul, Nat.reduceSub, Nat.reduceMod, Nat.reduceEqDiff, reduceCtorEq, Nat.one_ne_zero, Nat.zero_ne_one, hv]
        · (try dsimp only)
          by_cases e : j = k
          · rw [e, pk_uLs]
          · rw [pk_uLn e]
            exact q1 j (by omega)
    · rintro ⟨k', o, t⟩ ⟨e1, g1, g2⟩
      dsimp only at e1 g1 g2
      subst e1
      refine ⟨(o, t), ?_, g1, g2⟩
      unfold m_mapped_L100
      simp (disch := omega) only [↓Option.bind_some, ↓Option.elim_some, ↓Option.elim_none, Option.bind_some, Option.elim_some, Option.elim_none, Option.some.injEq, Sum.inl.injEq, Sum.inr.injEq, ↓reduceIte, m_side, lit_nI, lz_I, nI_add, pk_mul, pk_sub, nI_ge, nI_le, nI_lt, nI_nlt, gi_t, nI_clamp, nI_eq, pk_rem, Nat.zero_add, Nat.reduceAdd, Nat.reduceMul, Nat.reduceSub, Nat.reduceMod, Nat.reduceEqDiff, reduceCtorEq, Nat.one_ne_zero, Nat.zero_ne_one]
  · intro i d1 hi _ _
    have key2 := loopA (f := m_mapped_L20 (nI d) (lN P) rows one two (nI a) (nI b) (nI i)) (d := vp_updL d1 i (fL (0 : Fin P))) (d + 1) i pk_uLs (fun j => R a (i * (d + 1) + j) * x j) ?_ ?_
    · obtain ⟨d2, g1, g2, g3⟩ := key2
      refine ⟨d2, ?_, ?_, fun m hm => by rw [g3 m hm, pk_uLn hm]⟩
      · unfold m_mapped_L2
        simp (disch := omega) only [↓Option.bind_some, ↓Option.elim_some, ↓Option.elim_none, Option.bind_some, Option.elim_some, Option.elim_none, Option.some.injEq, Sum.inl.injEq, Sum.inr.injEq, ↓reduceIte, m_side, lit_nI, lz_I, nI_add, pk_mul, pk_sub, nI_ge, nI_le, nI_lt, nI_nlt, gi_t, nI_clamp, nI_eq, pk_rem, Nat.zero_add, Nat.reduceAdd, Nat.reduceMul, Nat.reduceSub, Nat.reduceMod, Nat.reduceEqDiff, reduceCtorEq, Nat.one_ne_zero, Nat.zero_ne_one, lz64 (P := P), g1]
      · rw [g2]
        unfold imV
        congr 1
        grind
    · intro j d2 c hj hc
      have x1 := hx j hj
      unfold m_mapped_L20
      rcases (show b = 0 ∨ b = 1 by omega) with rfl | rfl <;> simp only [↓reduceIte, Nat.one_ne_zero] at x1 <;> rcases hd with rfl | rfl <;> simp (disch := omega) only [↓Option.bind_some, ↓Option.elim_some, ↓Option.elim_none, Option.bind_some, Option.elim_some, Option.elim_none, Option.some.injEq, Sum.inl.injEq, Sum.inr.injEq, ↓reduceIte, m_side, lit_nI, lz_I, nI_add, pk_mul, pk_sub, nI_ge, nI_le, nI_lt, nI_nlt, gi_t, nI_clamp, nI_eq, pk_rem, Nat.zero_add, Nat.reduceAdd, Nat.reduceMul, Nat.reduceSub, Nat.reduceMod, Nat.reduceEqDiff, reduceCtorEq, Nat.one_ne_zero, Nat.zero_ne_one, s_of h, hc, x1, s_times hP hB, s_less hP hB, s_over hP hB, n_plus hP hB, lz64 (P := P), lo64 (P := P) hP, lPz hP hB]
    · intro d2
      unfold m_mapped_L20
      simp (disch := omega) only [↓Option.bind_some, ↓Option.elim_some, ↓Option.elim_none, Option.bind_some, Option.elim_some, Option.elim_none, Option.some.injEq, Sum.inl.injEq, Sum.inr.injEq, ↓reduceIte, m_side, lit_nI, lz_I, nI_add, pk_mul, pk_sub, nI_ge, nI_le, nI_lt, nI_nlt, gi_t, nI_clamp, nI_eq, pk_rem, Nat.zero_add, Nat.reduceAdd, Nat.reduceMul, Nat.reduceSub, Nat.reduceMod, Nat.reduceEqDiff, reduceCtorEq, Nat.one_ne_zero, Nat.zero_ne_one]
  · intro d1
    unfold m_mapped_L2
    simp (disch := omega) only [↓Option.bind_some, ↓Option.elim_some, ↓Option.elim_none, Option.bind_some, Option.elim_some, Option.elim_none, Option.some.injEq, Sum.inl.injEq, Sum.inr.injEq, ↓reduceIte, m_side, lit_nI, lz_I, nI_add, pk_mul, pk_sub, nI_ge, nI_le, nI_lt, nI_nlt, gi_t, nI_clamp, nI_eq, pk_rem, Nat.zero_add, Nat.reduceAdd, Nat.reduceMul, Nat.reduceSub, Nat.reduceMod, Nat.reduceEqDiff, reduceCtorEq, Nat.one_ne_zero, Nat.zero_ne_one]
theorem s_applyV [NeZero P] (hP : 2 < P) (hB : P < 2 ^ 31) {rows draft turned : Nat → Int64} {R : Nat → Nat → Fin P} {cc : Nat} (h : rK cc rows R) {a d : Nat} (ha : a < cc) (hd : d = 2 ∨ d = 3) {N : Nat → Fin P} (hN : vo turned ((d + 1) * (d + 1)) N) (hz : vo draft 16 (fun _ => (0 : Fin P))) : ∃ d', itX (m_apply_L109 (nI d) (lN P) rows turned (nI a)) (nI 0, draft) = some d' ∧ vo d' (d + 1) (fun j => sF (fun i => R a i * N (i * (d + 1) + j)) (d + 1)) := by
  have h60 := h.1
  refine loopV (f1 := m_apply_L109 (nI d) (lN P) rows turned (nI a)) (f2 := fun i => m_apply_L121 (nI d) (lN P) rows turned (nI a) (nI i)) (d := draft) (d + 1) (fun m hm => hz m (by omega)) (fun j i => R a i * N (i * (d + 1) + j)) ?_ ?_ ?_ ?_
  · intro i d1 hi
    unfold m_apply_L109
    simp (disch := omega) only [↓Option.bind_some, ↓Option.elim_some, ↓Option.elim_none, Option.bind_some, Option.elim_some, Option.elim_none, Option.some.injEq, Sum.inl.injEq, Sum.inr.injEq, ↓reduceIte, m_side, lit_nI, lz_I, nI_add, pk_mul, pk_sub, nI_ge, nI_le, nI_lt, nI_nlt, gi_t, nI_clamp, nI_eq, pk_rem, Nat.zero_add, Nat.reduceAdd, Nat.reduceMul, Nat.reduceSub, Nat.reduceMod, Nat.reduceEqDiff, reduceCtorEq, Nat.one_ne_zero, Nat.zero_ne_one]
  · intro i j d1 c hi hj hc
    have n1 := sq_vo hN hj hi
    unfold m_apply_L121
    rcases hd with rfl | rfl <;> simp (disch := omega) only [↓Option.bind_some, ↓Option.elim_some, ↓Option.elim_none, Option.bind_some, Option.elim_some, Option.elim_none, Option.some.injEq, Sum.inl.injEq, Sum.inr.injEq, ↓reduceIte, m_side, lit_nI, lz_I, nI_add, pk_mul, pk_sub, nI_ge, nI_le, nI_lt, nI_nlt, gi_t, nI_clamp, nI_eq, pk_rem, Nat.zero_add, Nat.reduceAdd, Nat.reduceMul, Nat.reduceSub, Nat.reduceMod, Nat.reduceEqDiff, reduceCtorEq, Nat.one_ne_zero, Nat.zero_ne_one, s_of h, n1, hc, s_times hP hB, s_less hP hB, s_over hP hB, n_plus hP hB, lz64 (P := P), lo64 (P := P) hP, lPz hP hB]
  · intro i d1 hi
    unfold m_apply_L121
    simp (disch := omega) only [↓Option.bind_some, ↓Option.elim_some, ↓Option.elim_none, Option.bind_some, Option.elim_some, Option.elim_none, Option.some.injEq, Sum.inl.injEq, Sum.inr.injEq, ↓reduceIte, m_side, lit_nI, lz_I, nI_add, pk_mul, pk_sub, nI_ge, nI_le, nI_lt, nI_nlt, gi_t, nI_clamp, nI_eq, pk_rem, Nat.zero_add, Nat.reduceAdd, Nat.reduceMul, Nat.reduceSub, Nat.reduceMod, Nat.reduceEqDiff, reduceCtorEq, Nat.one_ne_zero, Nat.zero_ne_one]
  · intro d1
    unfold m_apply_L109
    simp (disch := omega) only [↓Option.bind_some, ↓Option.elim_some, ↓Option.elim_none, Option.bind_some, Option.elim_some, Option.elim_none, Option.some.injEq, Sum.inl.injEq, Sum.inr.injEq, ↓reduceIte, m_side, lit_nI, lz_I, nI_add, pk_mul, pk_sub, nI_ge, nI_le, nI_lt, nI_nlt, gi_t, nI_clamp, nI_eq, pk_rem, Nat.zero_add, Nat.reduceAdd, Nat.reduceMul, Nat.reduceSub, Nat.reduceMod, Nat.reduceEqDiff, reduceCtorEq, Nat.one_ne_zero, Nat.zero_ne_one]
theorem s_polarV [NeZero P] (hP : 2 < P) (hB : P < 2 ^ 31) {rows draft turned : Nat → Int64} {R : Nat → Nat → Fin P} {cc : Nat} (h : rK cc rows R) {q a d b : Nat} (hq : q < cc) (ha : a < cc) (hd : d = 2 ∨ d = 3) (hb : b < 2) {N : Nat → Fin P} (hN : b = 1 → vo turned ((d + 1) * (d + 1)) N) (hz : vo draft 16 (fun _ => (0 : Fin P))) : ∃ d', itX (m_polar_L84 (nI d) (lN P) rows turned (nI q) (nI a) (nI b)) (nI 0, draft) = some d' ∧ vo d' (d + 1) (imV (d + 1) (if b = 0 then R q else N) (R a)) := by
  have h60 := h.1
  refine loopV (f1 := m_polar_L84 (nI d) (lN P) rows turned (nI q) (nI a) (nI b)) (f2 := fun i => m_polar_L96 (nI d) (lN P) rows turned (nI q) (nI a) (nI b) (nI i)) (d := draft) (d + 1) (fun m hm => hz m (by omega)) (fun i j => (if b = 0 then R q else N) (i * (d + 1) + j) * R a j) ?_ ?_ ?_ ?_
  · intro i d1 hi
    unfold m_polar_L84
    simp (disch := omega) only [↓Option.bind_some, ↓Option.elim_some, ↓Option.elim_none, Option.bind_some, Option.elim_some, Option.elim_none, Option.some.injEq, Sum.inl.injEq, Sum.inr.injEq, ↓reduceIte, m_side, lit_nI, lz_I, nI_add, pk_mul, pk_sub, nI_ge, nI_le, nI_lt, nI_nlt, gi_t, nI_clamp, nI_eq, pk_rem, Nat.zero_add, Nat.reduceAdd, Nat.reduceMul, Nat.reduceSub, Nat.reduceMod, Nat.reduceEqDiff, reduceCtorEq, Nat.one_ne_zero, Nat.zero_ne_one]
  · intro i j d1 c hi hj hc
    unfold m_polar_L96
    rcases (show b = 0 ∨ b = 1 by omega) with rfl | rfl
    · rcases hd with rfl | rfl <;> simp (disch := omega) only [↓Option.bind_some, ↓Option.elim_some, ↓Option.elim_none, Option.bind_some, Option.elim_some, Option.elim_none, Option.some.injEq, Sum.inl.injEq, Sum.inr.injEq, ↓reduceIte, m_side, lit_nI, lz_I, nI_add, pk_mul, pk_sub, nI_ge, nI_le, nI_lt, nI_nlt, gi_t, nI_clamp, nI_eq, pk_rem, Nat.zero_add, Nat.reduceAdd, Nat.reduceMul, Nat.reduceSub, Nat.reduceMod, Nat.reduceEqDiff, reduceCtorEq, Nat.one_ne_zero, Nat.zero_ne_one, s_of h, hc, s_times hP hB, s_less hP hB, s_over hP hB, n_plus hP hB, lz64 (P := P), lo64 (P := P) hP, lPz hP hB]
    · have n1 := sq_vo (hN rfl) hi hj
      rcases hd with rfl | rfl <;> simp (disch := omega) only [↓Option.bind_some, ↓Option.elim_some, ↓Option.elim_none, Option.bind_some, Option.elim_some, Option.elim_none, Option.some.injEq, Sum.inl.injEq, Sum.inr.injEq, ↓reduceIte, m_side, lit_nI, lz_I, nI_add, pk_mul, pk_sub, nI_ge, nI_le, nI_lt, nI_nlt, gi_t, nI_clamp, nI_eq, pk_rem, Nat.zero_add, Nat.reduceAdd, Nat.reduceMul, Nat.reduceSub, Nat.reduceMod, Nat.reduceEqDiff, reduceCtorEq, Nat.one_ne_zero, Nat.zero_ne_one, s_of h, n1, hc, s_times hP hB, s_less hP hB, s_over hP hB, n_plus hP hB, lz64 (P := P), lo64 (P := P) hP, lPz hP hB]
  · intro i d1 hi
    unfold m_polar_L96
    simp (disch := omega) only [↓Option.bind_some, ↓Option.elim_some, ↓Option.elim_none, Option.bind_some, Option.elim_some, Option.elim_none, Option.some.injEq, Sum.inl.injEq, Sum.inr.injEq, ↓reduceIte, m_side, lit_nI, lz_I, nI_add, pk_mul, pk_sub, nI_ge, nI_le, nI_lt, nI_nlt, gi_t, nI_clamp, nI_eq, pk_rem, Nat.zero_add, Nat.reduceAdd, Nat.reduceMul, Nat.reduceSub, Nat.reduceMod, Nat.reduceEqDiff, reduceCtorEq, Nat.one_ne_zero, Nat.zero_ne_one]
  · intro d1
    unfold m_polar_L84
    simp (disch := omega) only [↓Option.bind_some, ↓Option.elim_some, ↓Option.elim_none, Option.bind_some, Option.elim_some, Option.elim_none, Option.some.injEq, Sum.inl.injEq, Sum.inr.injEq, ↓reduceIte, m_side, lit_nI, lz_I, nI_add, pk_mul, pk_sub, nI_ge, nI_le, nI_lt, nI_nlt, gi_t, nI_clamp, nI_eq, pk_rem, Nat.zero_add, Nat.reduceAdd, Nat.reduceMul, Nat.reduceSub, Nat.reduceMod, Nat.reduceEqDiff, reduceCtorEq, Nat.one_ne_zero, Nat.zero_ne_one]
/-- pairs of points -/
def pK (cc : Nat) (ps : Nat → Int32) (X : Nat → Nat) (m : Nat) : Prop := ∀ k, k < m → ps k = nI (X k) ∧ X k < cc
/-- all rows but one -/
def lfM (X : Nat → Nat → Fin P) (l : Nat) : Mx P := fun i j => X (if i < l then i else i + 1) j
theorem s_isWide [NeZero P] (hP : 2 < P) (hB : P < 2 ^ 31) {rows fr : Nat → Int64} {R : Nat → Nat → Fin P} {cc : Nat} (h : rK cc rows R) {pA pB : Nat → Int32} {A B : Nat → Nat} {d b : Nat} (hA : pK cc pA A (d + 2)) (hBq : pK cc pB B (d + 2)) (hd : d = 2 ∨ d = 3) (hb : b < 2) {X : Nat → Nat → Fin P} (hX : X = fun k => R ((if b = 0 then B else A) k)) : ∃ r fr', m_isWide (nI d) (lN P) rows pA pB fr (nI b) = some (r, fr') ∧ ((∀ l, l < d + 2 → (gj (d + 1) (lfM X l) (d + 1)).1 = d + 1) → r = nI 1) ∧ ((¬ ∀ l, l < d + 2 → (gj (d + 1) (lfM X l) (d + 1)).1 = d + 1) → r = nI 0) := by
  have h60 := h.1
  have inner : ∀ (l : Nat) (fr : Nat → Int64), l < d + 2 → ∃ fr', itX (m_isWide_L20 (nI d) rows pA pB (nI b) (nI l)) (nI 0, nI 0, fr) = some fr' ∧ fok fr' (lfM X l) (d + 1) (d + 1) := by
    intro l fr hl
    have key := it_inv (f := m_isWide_L20 (nI d) rows pA pB (nI b) (nI l)) (fun k s => s.2.1 = nI k ∧ s.1 = nI (if k ≤ l then k else k - 1) ∧ fok s.2.2 (lfM X l) (if k ≤ l then k else k - 1) (d + 1)) (d + 2) (fun fr' => fok fr' (lfM X l) (d + 1) (d + 1)) ?_ ?_ (nI 0, nI 0, fr) ⟨rfl, by rw [if_pos (Nat.zero_le _)], fun i j hi => by rw [if_pos (Nat.zero_le _)] at hi; omega⟩
    · exact key
    · rintro k ⟨r, k', fr1⟩ hk ⟨e1, e2, g⟩
      dsimp only at e1 e2 g
      subst e1
      subst e2
      by_cases q : k = l
      · subst q
        refine ⟨(nI k, nI (k + 1), fr1), ?_, rfl, ?_, ?_⟩
        · unfold m_isWide_L20 m_isWide_L20J71
          rw [if_pos (Nat.le_refl k)]
          simp (disch := omega) only [↓Option.bind_some, ↓Option.elim_some, ↓Option.elim_none, Option.bind_some, Option.elim_some, Option.elim_none, Option.some.injEq, Sum.inl.injEq, Sum.inr.injEq, ↓reduceIte, m_side, lit_nI, lz_I, nI_add, pk_mul, pk_sub, nI_ge, nI_le, nI_lt, nI_nlt, gi_t, nI_clamp, nI_eq, pk_rem, Nat.zero_add, Nat.reduceAdd, Nat.reduceMul, Nat.reduceSub, Nat.reduceMod, Nat.reduceEqDiff, reduceCtorEq, Nat.one_ne_zero, Nat.zero_ne_one]
        · rw [if_neg (by omega)]
          rfl
        · rw [if_neg (by omega)]
          rw [if_pos (Nat.le_refl k)] at g
          exact g
      · have hr : (if k ≤ l then k else k - 1) < d + 1 := by split <;> omega
        have hpk := hA k (by omega)
        have hpb := hBq k (by omega)
        have hidx : (if (if k ≤ l then k else k - 1) < l then (if k ≤ l then k else k - 1) else (if k ≤ l then k else k - 1) + 1) = k := by
          by_cases c : k ≤ l
          · rw [if_pos c, if_pos (by omega)]
          · rw [if_neg c, if_neg (by omega)]
            omega
        have hnx : (if k + 1 ≤ l then k + 1 else k + 1 - 1) = (if k ≤ l then k else k - 1) + 1 := by
          by_cases c : k ≤ l
          · rw [if_pos c, if_pos (by omega)]
          · rw [if_neg c, if_neg (by omega)]
            omega
        rw [hnx]
        generalize (if k ≤ l then k else k - 1) = r at *
        obtain ⟨fr2, l1, l2⟩ := s_lay h (a := (if b = 0 then B else A) k) (w := d + 1) g (by split <;> omega) (by omega) (by omega)
        refine ⟨(nI (r + 1), nI (k + 1), fr2), ?_, rfl, rfl, fok_congr l2 (fun i j hi hj => ?_)⟩
        · unfold m_isWide_L20 m_isWide_L20J71
          rcases (show b = 0 ∨ b = 1 by omega) with rfl | rfl
          · rw [if_pos rfl] at l1
            simp (disch := omega) only [↓Option.bind_some, ↓Option.elim_some, ↓Option.elim_none, Option.bind_some, Option.elim_some, Option.elim_none, Option.some.injEq, Sum.inl.injEq, Sum.inr.injEq, ↓reduceIte, m_side, lit_nI, lz_I, nI_add, pk_mul, pk_sub, nI_ge, nI_le, nI_lt, nI_nlt, gi_t, nI_clamp, nI_eq, pk_rem, Nat.zero_add, Nat.reduceAdd, Nat.reduceMul, Nat.reduceSub, Nat.reduceMod, Nat.reduceEqDiff, reduceCtorEq, Nat.one_ne_zero, Nat.zero_ne_one, q, hpb.1, l1]
          · rw [if_neg (by decide)] at l1
            simp (disch := omega) only [↓Option.bind_some, ↓Option.elim_some, ↓Option.elim_none, Option.bind_some, Option.elim_some, Option.elim_none, Option.some.injEq, Sum.inl.injEq, Sum.inr.injEq, ↓reduceIte, m_side, lit_nI, lz_I, nI_add, pk_mul, pk_sub, nI_ge, nI_le, nI_lt, nI_nlt, gi_t, nI_clamp, nI_eq, pk_rem, Nat.zero_add, Nat.reduceAdd, Nat.reduceMul, Nat.reduceSub, Nat.reduceMod, Nat.reduceEqDiff, reduceCtorEq, Nat.one_ne_zero, Nat.zero_ne_one, q, hpk.1, l1]
        · (try dsimp only)
          by_cases c : i = r
          · rw [if_pos c, c]
            unfold lfM
            rw [hidx, hX]
          · rw [if_neg c]
    · rintro ⟨r, k', fr1⟩ ⟨e1, e2, g⟩
      dsimp only at e1 e2 g
      subst e1
      rw [if_neg (by omega)] at g
      refine ⟨fr1, ?_, g⟩
      unfold m_isWide_L20
      simp (disch := omega) only [↓Option.bind_some, ↓Option.elim_some, ↓Option.elim_none, Option.bind_some, Option.elim_some, Option.elim_none, Option.some.injEq, Sum.inl.injEq, Sum.inr.injEq, ↓reduceIte, m_side, lit_nI, lz_I, nI_add, pk_mul, pk_sub, nI_ge, nI_le, nI_lt, nI_nlt, gi_t, nI_clamp, nI_eq, pk_rem, Nat.zero_add, Nat.reduceAdd, Nat.reduceMul, Nat.reduceSub, Nat.reduceMod, Nat.reduceEqDiff, reduceCtorEq, Nat.one_ne_zero, Nat.zero_ne_one]
  have key := it_inv (f := m_isWide_L4 (nI d) (lN P) rows pA pB (nI b)) (fun k s => s.2.1 = nI k ∧ (((∀ l, l < k → (gj (d + 1) (lfM X l) (d + 1)).1 = d + 1) ∧ s.1 = nI 1) ∨ ((¬ ∀ l, l < k → (gj (d + 1) (lfM X l) (d + 1)).1 = d + 1) ∧ s.1 = nI 0))) (d + 2) (fun r => ((∀ l, l < d + 2 → (gj (d + 1) (lfM X l) (d + 1)).1 = d + 1) ∧ r.1 = nI 1) ∨ ((¬ ∀ l, l < d + 2 → (gj (d + 1) (lfM X l) (d + 1)).1 = d + 1) ∧ r.1 = nI 0)) ?_ ?_ (nI 1, nI 0, fr) ⟨rfl, Or.inl ⟨fun l hl => by omega, rfl⟩⟩
  · obtain ⟨⟨r, fr'⟩, k1, k2⟩ := key
    dsimp only at k2
    rcases k2 with ⟨q, e⟩ | ⟨q, e⟩
    · subst e
      refine ⟨nI 1, fr', ?_, fun _ => rfl, fun z => absurd q z⟩
      unfold m_isWide
      simp (disch := omega) only [↓Option.bind_some, ↓Option.elim_some, ↓Option.elim_none, Option.bind_some, Option.elim_some, Option.elim_none, Option.some.injEq, Sum.inl.injEq, Sum.inr.injEq, ↓reduceIte, m_side, lit_nI, lz_I, nI_add, pk_mul, pk_sub, nI_ge, nI_le, nI_lt, nI_nlt, gi_t, nI_clamp, nI_eq, pk_rem, Nat.zero_add, Nat.reduceAdd, Nat.reduceMul, Nat.reduceSub, Nat.reduceMod, Nat.reduceEqDiff, reduceCtorEq, Nat.one_ne_zero, Nat.zero_ne_one, k1, or_true]
    · subst e
      refine ⟨nI 0, fr', ?_, fun z => absurd z q, fun _ => rfl⟩
      unfold m_isWide
      simp (disch := omega) only [↓Option.bind_some, ↓Option.elim_some, ↓Option.elim_none, Option.bind_some, Option.elim_some, Option.elim_none, Option.some.injEq, Sum.inl.injEq, Sum.inr.injEq, ↓reduceIte, m_side, lit_nI, lz_I, nI_add, pk_mul, pk_sub, nI_ge, nI_le, nI_lt, nI_nlt, gi_t, nI_clamp, nI_eq, pk_rem, Nat.zero_add, Nat.reduceAdd, Nat.reduceMul, Nat.reduceSub, Nat.reduceMod, Nat.reduceEqDiff, reduceCtorEq, Nat.one_ne_zero, Nat.zero_ne_one, k1, true_or]
  · rintro k ⟨r, k', fr1⟩ hk ⟨e1, g⟩
    dsimp only at e1 g
    subst e1
    obtain ⟨fr2, l1, l2⟩ := inner k fr1 hk
    have hle := (gj_le (d + 1) (lfM X k) (d + 1)).1
    rcases g with ⟨q, e⟩ | ⟨q, e⟩
    · subst e
      obtain ⟨fr3, m1, -⟩ := s_reduce hP hB (M := lfM X k) (h := d + 1) (w := d + 1) (u := d + 1) (fr := fr2) l2 (by omega) (by omega) (by omega)
      by_cases c : (gj (d + 1) (lfM X k) (d + 1)).1 = d + 1
      · refine ⟨(nI 1, nI (k + 1), fr3), ?_, rfl, Or.inl ⟨fun l hl => ?_, rfl⟩⟩
        · unfold m_isWide_L4 m_isWide_L4J108
          simp (disch := omega) only [↓Option.bind_some, ↓Option.elim_some, ↓Option.elim_none, Option.bind_some, Option.elim_some, Option.elim_none, Option.some.injEq, Sum.inl.injEq, Sum.inr.injEq, ↓reduceIte, m_side, lit_nI, lz_I, nI_add, pk_mul, pk_sub, nI_ge, nI_le, nI_lt, nI_nlt, gi_t, nI_clamp, nI_eq, pk_rem, Nat.zero_add, Nat.reduceAdd, Nat.reduceMul, Nat.reduceSub, Nat.reduceMod, Nat.reduceEqDiff, reduceCtorEq, Nat.one_ne_zero, Nat.zero_ne_one, l1, m1, c]
        · by_cases z : l = k
          · rw [z]
            exact c
          · exact q l (by omega)
      · refine ⟨(nI 0, nI (k + 1), fr3), ?_, rfl, Or.inr ⟨fun z => c (z k (by omega)), rfl⟩⟩
        unfold m_isWide_L4 m_isWide_L4J108
        simp (disch := omega) only [↓Option.bind_some, ↓Option.elim_some, ↓Option.elim_none, Option.bind_some, Option.elim_some, Option.elim_none, Option.some.injEq, Sum.inl.injEq, Sum.inr.injEq, ↓reduceIte, m_side, lit_nI, lz_I, nI_add, pk_mul, pk_sub, nI_ge, nI_le, nI_lt, nI_nlt, gi_t, nI_clamp, nI_eq, pk_rem, Nat.zero_add, Nat.reduceAdd, Nat.reduceMul, Nat.reduceSub, Nat.reduceMod, Nat.reduceEqDiff, reduceCtorEq, Nat.one_ne_zero, Nat.zero_ne_one, l1, m1, c]
    · subst e
      refine ⟨(nI 0, nI (k + 1), fr2), ?_, rfl, Or.inr ⟨fun z => q (fun l hl => z l (by omega)), rfl⟩⟩
      unfold m_isWide_L4 m_isWide_L4J108
      simp (disch := omega) only [↓Option.bind_some, ↓Option.elim_some, ↓Option.elim_none, Option.bind_some, Option.elim_some, Option.elim_none, Option.some.injEq, Sum.inl.injEq, Sum.inr.injEq, ↓reduceIte, m_side, lit_nI, lz_I, nI_add, pk_mul, pk_sub, nI_ge, nI_le, nI_lt, nI_nlt, gi_t, nI_clamp, nI_eq, pk_rem, Nat.zero_add, Nat.reduceAdd, Nat.reduceMul, Nat.reduceSub, Nat.reduceMod, Nat.reduceEqDiff, reduceCtorEq, Nat.one_ne_zero, Nat.zero_ne_one, l1]
  · rintro ⟨r, k', fr1⟩ ⟨e1, g⟩
    dsimp only at e1 g
    subst e1
    refine ⟨(r, fr1), ?_, g⟩
    unfold m_isWide_L4
    simp (disch := omega) only [↓Option.bind_some, ↓Option.elim_some, ↓Option.elim_none, Option.bind_some, Option.elim_some, Option.elim_none, Option.some.injEq, Sum.inl.injEq, Sum.inr.injEq, ↓reduceIte, m_side, lit_nI, lz_I, nI_add, pk_mul, pk_sub, nI_ge, nI_le, nI_lt, nI_nlt, gi_t, nI_clamp, nI_eq, pk_rem, Nat.zero_add, Nat.reduceAdd, Nat.reduceMul, Nat.reduceSub, Nat.reduceMod, Nat.reduceEqDiff, reduceCtorEq, Nat.one_ne_zero, Nat.zero_ne_one]
/-- points as columns -/
def clM (X : Nat → Nat → Fin P) : Mx P := fun i k => X k i
/-- the square that takes the frame to the points -/
def frF [NeZero P] (w : Nat) (X : Nat → Nat → Fin P) : Nat → Fin P := fun m => (gj w (clM X) w).2 (m % w) w * X (m % w) (m / w)
theorem s_columns [NeZero P] (hP : 2 < P) (hB : P < 2 ^ 31) {rows fr one two : Nat → Int64} {R : Nat → Nat → Fin P} {cc : Nat} (h : rK cc rows R) {pA pB : Nat → Int32} {A B : Nat → Nat} {d b : Nat} (hA : pK cc pA A (d + 2)) (hBq : pK cc pB B (d + 2)) (hd : d = 2 ∨ d = 3) (hb : b < 2) {X : Nat → Nat → Fin P} (hX : X = fun k => R ((if b = 0 then B else A) k)) : ∃ fr' o' t', m_columns (nI d) (lN P) rows pA pB fr one two (nI b) = some (fr', o', t') ∧ (b = 1 → t' = two ∧ vo o' ((d + 1) * (d + 1)) (frF (d + 1) X)) ∧ (b = 0 → o' = one ∧ vo t' ((d + 1) * (d + 1)) (frF (d + 1) X)) := by
  have h60 := h.1
  have key := loop2 (f1 := m_columns_L2 (nI d) rows pA pB (nI b)) (f2 := fun i => m_columns_L12 (nI d) rows pA pB (nI b) (nI i)) (d := fr) (d + 1) (d + 2) (fun i j => 20 * i + j) (fun i j i' j' _ _ _ _ e => by omega) (clM X) ?_ ?_ ?_ ?_
  · obtain ⟨fr1, g1, g2, -⟩ := key
    obtain ⟨fr2, k1, k2⟩ := s_reduce hP hB (M := clM X) (h := d + 1) (w := d + 2) (u := d + 1) (fr := fr1) (fun i j hi hj => g2 i j hi hj) (by omega) (by omega) (by omega)
    have key2 := it_inv (f := m_columns_L85 (nI d) (lN P) rows pA pB fr2 (nI b)) (fun k s => s.1 = nI k ∧ (b = 1 → s.2.2 = two ∧ ∀ i j, i < d + 1 → j < k → s.2.1 (i * (d + 1) + j) = fL ((gj (d + 1) (clM X) (d + 1)).2 j (d + 1) * X j i)) ∧ (b = 0 → s.2.1 = one ∧ ∀ i j, i < d + 1 → j < k → s.2.2 (i * (d + 1) + j) = fL ((gj (d + 1) (clM X) (d + 1)).2 j (d + 1) * X j i))) (d + 1) (fun r => (b = 1 → r.2 = two ∧ vo r.1 ((d + 1) * (d + 1)) (frF (d + 1) X)) ∧ (b = 0 → r.1 = one ∧ vo r.2 ((d + 1) * (d + 1)) (frF (d + 1) X))) ?_ ?_ (nI 0, one, two) ⟨rfl, fun _ => ⟨rfl, fun i j _ hj => by omega⟩, fun _ => ⟨rfl, fun i j _ hj => by omega⟩⟩
    · obtain ⟨⟨o', t'⟩, q1, q2, q3⟩ := key2
      refine ⟨fr2, o', t', ?_, q2, q3⟩
      unfold m_columns
      simp (disch := omega) only [↓Option.bind_some, ↓Option.elim_some, ↓Option.elim_none, Option.bind_some, Option.elim_some, Option.elim_none, Option.some.injEq, Sum.inl.injEq, Sum.inr.injEq, ↓reduceIte, m_side, lit_nI, lz_I, nI_add, pk_mul, pk_sub, nI_ge, nI_le, nI_lt, nI_nlt, gi_t, nI_clamp, nI_eq, pk_rem, Nat.zero_add, Nat.reduceAdd, Nat.reduceMul, Nat.reduceSub, Nat.reduceMod, Nat.reduceEqDiff, reduceCtorEq, Nat.one_ne_zero, Nat.zero_ne_one, g1, k1, q1]
    · rintro j ⟨j', o, t⟩ hj ⟨e1, q1, q2⟩
      dsimp only at e1 q1 q2
      subst e1
      have hat := k2 j (d + 1) hj (by omega)
      have hpk := hA j (by omega)
      have hpb := hBq j (by omega)
      have inner := it_inv (f := m_columns_L108 (nI d) (lN P) rows pA pB (nI b) (nI j) (fL ((gj (d + 1) (clM X) (d + 1)).2 j (d + 1)))) (fun k s => s.1 = nI k ∧ (b = 1 → s.2.2 = two ∧ ∀ i l, i < d + 1 → l < d + 1 → (l < j ∨ (l = j ∧ i < k)) → s.2.1 (i * (d + 1) + l) = fL ((gj (d + 1) (clM X) (d + 1)).2 l (d + 1) * X l i)) ∧ (b = 0 → s.2.1 = one ∧ ∀ i l, i < d + 1 → l < d + 1 → (l < j ∨ (l = j ∧ i < k)) → s.2.2 (i * (d + 1) + l) = fL ((gj (d + 1) (clM X) (d + 1)).2 l (d + 1) * X l i))) (d + 1) (fun r => (b = 1 → r.2 = two ∧ ∀ i l, i < d + 1 → l < j + 1 → r.1 (i * (d + 1) + l) = fL ((gj (d + 1) (clM X) (d + 1)).2 l (d + 1) * X l i)) ∧ (b = 0 → r.1 = one ∧ ∀ i l, i < d + 1 → l < j + 1 → r.2 (i * (d + 1) + l) = fL ((gj (d + 1) (clM X) (d + 1)).2 l (d + 1) * X l i))) ?_ ?_ (nI 0, o, t) ⟨rfl, fun z => ⟨(q1 z).1, fun i l hi hl hc => (q1 z).2 i l hi (by omega)⟩, fun z => ⟨(q2 z).1, fun i l hi hl hc => (q2 z).2 i l hi (by omega)⟩⟩
      · obtain ⟨⟨o2, t2⟩, w1, w2, w3⟩ := inner
        refine ⟨(nI (j + 1), o2, t2), ?_, rfl, w2, w3⟩
        unfold m_columns_L85
        simp (disch := omega) only [↓Option.bind_some, ↓Option.elim_some, ↓Option.elim_none, Option.bind_some, Option.elim_some, Option.elim_none, Option.some.injEq, Sum.inl.injEq, Sum.inr.injEq, ↓reduceIte, m_side, lit_nI, lz_I, nI_add, pk_mul, pk_sub, nI_ge, nI_le, nI_lt, nI_nlt, gi_t, nI_clamp, nI_eq, pk_rem, Nat.zero_add, Nat.reduceAdd, Nat.reduceMul, Nat.reduceSub, Nat.reduceMod, Nat.reduceEqDiff, reduceCtorEq, Nat.one_ne_zero, Nat.zero_ne_one, s_at fr2, hat, w1]
      · rintro k ⟨k', o2, t2⟩ hk ⟨e2, w1, w2⟩
        dsimp only at e2 w1 w2
        subst e2
        rcases (show b = 0 ∨ b = 1 by omega) with rfl | rfl
        · obtain ⟨z1, z2⟩ := w2 rfl
          refine ⟨(nI (k + 1), o2, vp_updL t2 (k * (d + 1) + j) (fL ((gj (d + 1) (clM X) (d + 1)).2 j (d + 1) * X j k))), ?_, rfl, fun q => by omega, fun _ => ⟨z1, fun i l hi hl hc => ?_⟩⟩
          · have hXk : R (B j) k = X j k := by rw [hX]; rfl
            unfold m_columns_L108 m_columns_L108J188
            rcases hd with rfl | rfl <;> simp (disch := omega) only [↓Option.bind_some, ↓Option.elim_some, ↓Option.elim_none, Option.bind_some, Option.elim_some, Option.elim_none, Option.some.injEq, Sum.inl.injEq, Sum.inr.injEq, ↓reduceIte, m_side, lit_nI, lz_I, nI_add, pk_mul, pk_sub, nI_ge, nI_le, nI_lt, nI_nlt, gi_t, nI_clamp, nI_eq, pk_rem, Nat.zero_add, Nat.reduceAdd, Nat.reduceMul, Nat.reduceSub, Nat.reduceMod, Nat.reduceEqDiff, reduceCtorEq, Nat.one_ne_zero, Nat.zero_ne_one, hpb.1, s_of h, hXk, s_times hP hB, s_less hP hB, s_over hP hB, n_plus hP hB, lz64 (P := P), lo64 (P := P) hP, lPz hP hB]
          · (try dsimp only)
            by_cases e : i * (d + 1) + l = k * (d + 1) + j
            · have := ij_inj (w := d + 1) (by omega) i l k j hi hl hk hj e
              rw [e, pk_uLs, this.1, this.2]
            · rw [pk_uLn e]
              refine z2 i l hi hl ?_
              rcases hc with c | ⟨c1, c2⟩
              · exact Or.inl c
              · refine Or.inr ⟨c1, ?_⟩
                rcases Nat.lt_or_ge i k with c3 | c3
                · exact c3
                · exfalso
                  apply e
                  rw [show i = k by omega, c1]
        · obtain ⟨z1, z2⟩ := w1 rfl
          refine ⟨(nI (k + 1), vp_updL o2 (k * (d + 1) + j) (fL ((gj (d + 1) (clM X) (d + 1)).2 j (d + 1) * X j k)), t2), ?_, rfl, fun _ => ⟨z1, fun i l hi hl hc => ?_⟩, fun q => by omega⟩
          · have hXk : R (A j) k = X j k := by rw [hX]; rfl
            unfold m_columns_L108 m_columns_L108J188
            rcases hd with rfl | rfl <;> simp (disch := omega) only [↓Option.bind_some, ↓Option.elim_some, ↓Option.elim_none, Option.bind_some, Option.elim_some, Option.elim_none, Option.some.injEq, Sum.inl.injEq, Sum.inr.injEq, ↓reduceIte, m_side, lit_nI, lz_I, nI_add, pk_mul, pk_sub, nI_ge, nI_le, nI_lt, nI_nlt, gi_t, nI_clamp, nI_eq, pk_rem, Nat.zero_add, Nat.reduceAdd, Nat.reduceMul, Nat.reduceSub, Nat.reduceMod, Nat.reduceEqDiff, reduceCtorEq, Nat.one_ne_zero, Nat.zero_ne_one, hpk.1, s_of h, hXk, s_times hP hB, s_less hP hB, s_over hP hB, n_plus hP hB, lz64 (P := P), lo64 (P := P) hP, lPz hP hB]
          · (try dsimp only)
            by_cases e : i * (d + 1) + l = k * (d + 1) + j
            · have := ij_inj (w := d + 1) (by omega) i l k j hi hl hk hj e
              rw [e, pk_uLs, this.1, this.2]
            · rw [pk_uLn e]
              refine z2 i l hi hl ?_
              rcases hc with c | ⟨c1, c2⟩
              · exact Or.inl c
              · refine Or.inr ⟨c1, ?_⟩
                rcases Nat.lt_or_ge i k with c3 | c3
                · exact c3
                · exfalso
                  apply e
                  rw [show i = k by omega, c1]
      · rintro ⟨k', o2, t2⟩ ⟨e2, w1, w2⟩
        dsimp only at e2 w1 w2
        subst e2
        refine ⟨(o2, t2), ?_, fun z => ⟨(w1 z).1, fun i l hi hl => (w1 z).2 i l hi (by omega) (by omega)⟩, fun z => ⟨(w2 z).1, fun i l hi hl => (w2 z).2 i l hi (by omega) (by omega)⟩⟩
        unfold m_columns_L108
        simp (disch := omega) only [↓Option.bind_some, ↓Option.elim_some, ↓Option.elim_none, Option.bind_some, Option.elim_some, Option.elim_none, Option.some.injEq, Sum.inl.injEq, Sum.inr.injEq, ↓reduceIte, m_side, lit_nI, lz_I, nI_add, pk_mul, pk_sub, nI_ge, nI_le, nI_lt, nI_nlt, gi_t, nI_clamp, nI_eq, pk_rem, Nat.zero_add, Nat.reduceAdd, Nat.reduceMul, Nat.reduceSub, Nat.reduceMod, Nat.reduceEqDiff, reduceCtorEq, Nat.one_ne_zero, Nat.zero_ne_one]
    · rintro ⟨j', o, t⟩ ⟨e1, q1, q2⟩
      dsimp only at e1 q1 q2
      subst e1
      refine ⟨(o, t), ?_, fun z => ⟨(q1 z).1, ?_⟩, fun z => ⟨(q2 z).1, ?_⟩⟩
      · unfold m_columns_L85
        simp (disch := omega) only [↓Option.bind_some, ↓Option.elim_some, ↓Option.elim_none, Option.bind_some, Option.elim_some, Option.elim_none, Option.some.injEq, Sum.inl.injEq, Sum.inr.injEq, ↓reduceIte, m_side, lit_nI, lz_I, nI_add, pk_mul, pk_sub, nI_ge, nI_le, nI_lt, nI_nlt, gi_t, nI_clamp, nI_eq, pk_rem, Nat.zero_add, Nat.reduceAdd, Nat.reduceMul, Nat.reduceSub, Nat.reduceMod, Nat.reduceEqDiff, reduceCtorEq, Nat.one_ne_zero, Nat.zero_ne_one]
      · exact vo_sq (v := fun i j => (gj (d + 1) (clM X) (d + 1)).2 j (d + 1) * X j i) (by omega) (q1 z).2
      · exact vo_sq (v := fun i j => (gj (d + 1) (clM X) (d + 1)).2 j (d + 1) * X j i) (by omega) (q2 z).2
  · intro i d1 hi
    unfold m_columns_L2
    simp (disch := omega) only [↓Option.bind_some, ↓Option.elim_some, ↓Option.elim_none, Option.bind_some, Option.elim_some, Option.elim_none, Option.some.injEq, Sum.inl.injEq, Sum.inr.injEq, ↓reduceIte, m_side, lit_nI, lz_I, nI_add, pk_mul, pk_sub, nI_ge, nI_le, nI_lt, nI_nlt, gi_t, nI_clamp, nI_eq, pk_rem, Nat.zero_add, Nat.reduceAdd, Nat.reduceMul, Nat.reduceSub, Nat.reduceMod, Nat.reduceEqDiff, reduceCtorEq, Nat.one_ne_zero, Nat.zero_ne_one]
  · intro i j d1 hi hj _
    refine ⟨vp_updL d1 (20 * i + j) (fL (clM X i j)), ?_, pk_uLs, fun m hm => pk_uLn hm⟩
    have hpk := hA j (by omega)
    have hpb := hBq j (by omega)
    have hxx : X j i = R ((if b = 0 then B else A) j) i := by rw [hX]
    unfold m_columns_L12 clM
    rcases (show b = 0 ∨ b = 1 by omega) with rfl | rfl
    · rw [if_pos rfl] at hxx
      simp (disch := omega) only [↓Option.bind_some, ↓Option.elim_some, ↓Option.elim_none, Option.bind_some, Option.elim_some, Option.elim_none, Option.some.injEq, Sum.inl.injEq, Sum.inr.injEq, ↓reduceIte, m_side, lit_nI, lz_I, nI_add, pk_mul, pk_sub, nI_ge, nI_le, nI_lt, nI_nlt, gi_t, nI_clamp, nI_eq, pk_rem, Nat.zero_add, Nat.reduceAdd, Nat.reduceMul, Nat.reduceSub, Nat.reduceMod, Nat.reduceEqDiff, reduceCtorEq, Nat.one_ne_zero, Nat.zero_ne_one, hpb.1, s_of h, s_set d1, hxx]
    · rw [if_neg (by decide)] at hxx
      simp (disch := omega) only [↓Option.bind_some, ↓Option.elim_some, ↓Option.elim_none, Option.bind_some, Option.elim_some, Option.elim_none, Option.some.injEq, Sum.inl.injEq, Sum.inr.injEq, ↓reduceIte, m_side, lit_nI, lz_I, nI_add, pk_mul, pk_sub, nI_ge, nI_le, nI_lt, nI_nlt, gi_t, nI_clamp, nI_eq, pk_rem, Nat.zero_add, Nat.reduceAdd, Nat.reduceMul, Nat.reduceSub, Nat.reduceMod, Nat.reduceEqDiff, reduceCtorEq, Nat.one_ne_zero, Nat.zero_ne_one, hpk.1, s_of h, s_set d1, hxx]
  · intro i d1 hi
    unfold m_columns_L12
    simp (disch := omega) only [↓Option.bind_some, ↓Option.elim_some, ↓Option.elim_none, Option.bind_some, Option.elim_some, Option.elim_none, Option.some.injEq, Sum.inl.injEq, Sum.inr.injEq, ↓reduceIte, m_side, lit_nI, lz_I, nI_add, pk_mul, pk_sub, nI_ge, nI_le, nI_lt, nI_nlt, gi_t, nI_clamp, nI_eq, pk_rem, Nat.zero_add, Nat.reduceAdd, Nat.reduceMul, Nat.reduceSub, Nat.reduceMod, Nat.reduceEqDiff, reduceCtorEq, Nat.one_ne_zero, Nat.zero_ne_one]
  · intro d1
    unfold m_columns_L2
    simp (disch := omega) only [↓Option.bind_some, ↓Option.elim_some, ↓Option.elim_none, Option.bind_some, Option.elim_some, Option.elim_none, Option.some.injEq, Sum.inl.injEq, Sum.inr.injEq, ↓reduceIte, m_side, lit_nI, lz_I, nI_add, pk_mul, pk_sub, nI_ge, nI_le, nI_lt, nI_nlt, gi_t, nI_clamp, nI_eq, pk_rem, Nat.zero_add, Nat.reduceAdd, Nat.reduceMul, Nat.reduceSub, Nat.reduceMod, Nat.reduceEqDiff, reduceCtorEq, Nat.one_ne_zero, Nat.zero_ne_one]
end MMAP
