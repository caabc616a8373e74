section MHOLD
variable {P : Nat}
/-- where two lines of space meet, as the reference makes it -/
def xpt [NeZero P] (L u v : Nat → Fin P) (i : Nat) : Nat → Fin P := fun k => - sp4 L v i * u k + sp4 L u i * v k
theorem s_crossing [NeZero P] (hP : 2 < P) (hB : P < 2 ^ 31) {rows draft fr one two tu : Nat → Int64} {R : Nat → Nat → Fin P} {cc : Nat} (h : rK cc rows R) {a b i0 : Nat} (ha : a < cc) (hb : b < cc) (hi0 : i0 < 4) (ht : sp4 (R a) (baF 3 (R b) 0) i0 ≠ 0 ∨ sp4 (R a) (baF 3 (R b) 1) i0 ≠ 0) (hf : ∀ i, i < i0 → sp4 (R a) (baF 3 (R b) 0) i = 0 ∧ sp4 (R a) (baF 3 (R b) 1) i = 0) : ∃ d' f' o' t' u', m_crossing (nI 3) (lN P) rows draft fr one two tu (nI a) (nI b) = some (d', f', o', t', u') ∧ vo d' 4 (xpt (R a) (baF 3 (R b) 0) (baF 3 (R b) 1) i0) := by
  have h60 := h.1
  obtain ⟨fr1, o1, t1, b1, b2, b3⟩ := s_base hP hB h (fr := fr) (one := one) (two := two) hb (Or.inr rfl)
  generalize baF 3 (R b) 0 = u at *
  generalize baF 3 (R b) 1 = v at *
  obtain ⟨d1, c1, c2⟩ := s_spanned hP hB h (draft := draft) ha b2
  have k1 := it_inv (f := m_crossing_L12 d1 t1) (fun k s => s.1 = nI k ∧ (∀ j, j < 4 → s.2.1 j = fL (if j < k then v j else u j)) ∧ (∀ j, j < k → s.2.2 j = fL (sp4 (R a) u j) ∧ s.2.2 (4 + j) = fL (u j))) 4 (fun r => vo r.1 4 v ∧ ∀ j, j < 4 → r.2 j = fL (sp4 (R a) u j) ∧ r.2 (4 + j) = fL (u j)) ?_ ?_ (nI 0, o1, tu) ⟨rfl, fun j hj => by (try dsimp only); rw [if_neg (by omega)]; exact b2 j hj, fun j hj => by omega⟩
  · obtain ⟨⟨o2, tu2⟩, e1, e2, e3⟩ := k1
    dsimp only at e2 e3
    obtain ⟨d2, c3, c4⟩ := s_spanned hP hB h (draft := d1) ha e2
    have k2 : ∀ n r, r + n = i0 → itX (m_crossing_L68 d2 tu2) (nI r) = some (nI i0) := by
      intro n
      induction n with
      | zero =>
        intro r er
        have er2 : r = i0 := by omega
        subst er2
        have z1 := (e3 r hi0).1
        have z2 := c4 r hi0
        apply itX_stop
        unfold m_crossing_L68
        by_cases q : sp4 (R a) u r = 0
        · have q2 : ¬ sp4 (R a) v r = 0 := by
            rcases ht with t | t
            · exact absurd q t
            · exact t
          simp (disch := omega) only [↓Option.bind_some, ↓Option.elim_some, ↓Option.elim_none, Option.bind_some, Option.elim_some, Option.elim_none, Option.some.injEq, Sum.inl.injEq, Sum.inr.injEq, ↓reduceIte, m_side, lit_nI, lz_I, nI_add, pk_mul, pk_sub, nI_ge, nI_le, nI_lt, nI_nlt, gi_t, nI_clamp, nI_eq, pk_rem, Nat.zero_add, Nat.reduceAdd, Nat.reduceMul, Nat.reduceSub, Nat.reduceMod, Nat.reduceEqDiff, reduceCtorEq, Nat.one_ne_zero, Nat.zero_ne_one, z1, z2, lz64 (P := P), fL_eq hB, q, q2]
        · simp (disch := omega) only [↓Option.bind_some, ↓Option.elim_some, ↓Option.elim_none, Option.bind_some, Option.elim_some, Option.elim_none, Option.some.injEq, Sum.inl.injEq, Sum.inr.injEq, ↓reduceIte, m_side, lit_nI, lz_I, nI_add, pk_mul, pk_sub, nI_ge, nI_le, nI_lt, nI_nlt, gi_t, nI_clamp, nI_eq, pk_rem, Nat.zero_add, Nat.reduceAdd, Nat.reduceMul, Nat.reduceSub, Nat.reduceMod, Nat.reduceEqDiff, reduceCtorEq, Nat.one_ne_zero, Nat.zero_ne_one, z1, z2, lz64 (P := P), fL_eq hB, q]
      | succ n ih =>
        intro r er
        have z1 := (e3 r (by omega)).1
        have z2 := c4 r (by omega)
        have zz := hf r (by omega)
        rw [itX_step (s' := nI (r + 1))]
        · exact ih (r + 1) (by omega)
        · unfold m_crossing_L68
          simp (disch := omega) only [↓Option.bind_some, ↓Option.elim_some, ↓Option.elim_none, Option.bind_some, Option.elim_some, Option.elim_none, Option.some.injEq, Sum.inl.injEq, Sum.inr.injEq, ↓reduceIte, m_side, lit_nI, lz_I, nI_add, pk_mul, pk_sub, nI_ge, nI_le, nI_lt, nI_nlt, gi_t, nI_clamp, nI_eq, pk_rem, Nat.zero_add, Nat.reduceAdd, Nat.reduceMul, Nat.reduceSub, Nat.reduceMod, Nat.reduceEqDiff, reduceCtorEq, Nat.one_ne_zero, Nat.zero_ne_one, z1, z2, lz64 (P := P), fL_eq hB, zz.1, zz.2]
    have k3 := k2 i0 0 (by omega)
    obtain ⟨d3, c5, c6⟩ := s_clear (P := P) d2
    have k4 := loopP (f := m_crossing_L129 (lN P) t1 tu2 (fL (- sp4 (R a) v i0)) (fL (sp4 (R a) u i0))) (d := d3) 4 (xpt (R a) u v i0) ?_ ?_
    · obtain ⟨d4, g1, g2, -⟩ := k4
      refine ⟨d4, fr1, o2, t1, tu2, ?_, g2⟩
      have z1 := (e3 i0 hi0).1
      have z2 := c4 i0 hi0
      unfold m_crossing m_crossing_J101
      simp (disch := omega) only [↓Option.bind_some, ↓Option.elim_some, ↓Option.elim_none, Option.bind_some, Option.elim_some, Option.elim_none, Option.some.injEq, Sum.inl.injEq, Sum.inr.injEq, ↓reduceIte, m_side, lit_nI, lz_I, nI_add, pk_mul, pk_sub, nI_ge, nI_le, nI_lt, nI_nlt, gi_t, nI_clamp, nI_eq, pk_rem, Nat.zero_add, Nat.reduceAdd, Nat.reduceMul, Nat.reduceSub, Nat.reduceMod, Nat.reduceEqDiff, reduceCtorEq, Nat.one_ne_zero, Nat.zero_ne_one, b1, c1, e1, c3, k3, z1, z2, s_times hP hB, s_less hP hB, s_over hP hB, n_plus hP hB, lz64 (P := P), lo64 (P := P) hP, lPz hP hB, z_sub, c5, g1]
    · intro k dd hk _
      have z1 := (e3 k hk).2
      have z2 := b3 k hk
      unfold m_crossing_L129 xpt
      simp (disch := omega) only [↓Option.bind_some, ↓Option.elim_some, ↓Option.elim_none, Option.bind_some, Option.elim_some, Option.elim_none, Option.some.injEq, Sum.inl.injEq, Sum.inr.injEq, ↓reduceIte, m_side, lit_nI, lz_I, nI_add, pk_mul, pk_sub, nI_ge, nI_le, nI_lt, nI_nlt, gi_t, nI_clamp, nI_eq, pk_rem, Nat.zero_add, Nat.reduceAdd, Nat.reduceMul, Nat.reduceSub, Nat.reduceMod, Nat.reduceEqDiff, reduceCtorEq, Nat.one_ne_zero, Nat.zero_ne_one, z1, z2, s_times hP hB, s_less hP hB, s_over hP hB, n_plus hP hB, lz64 (P := P), lo64 (P := P) hP, lPz hP hB]
    · intro dd
      unfold m_crossing_L129
      simp (disch := omega) only [↓Option.bind_some, ↓Option.elim_some, ↓Option.elim_none, Option.bind_some, Option.elim_some, Option.elim_none, Option.some.injEq, Sum.inl.injEq, Sum.inr.injEq, ↓reduceIte, m_side, lit_nI, lz_I, nI_add, pk_mul, pk_sub, nI_ge, nI_le, nI_lt, nI_nlt, gi_t, nI_clamp, nI_eq, pk_rem, Nat.zero_add, Nat.reduceAdd, Nat.reduceMul, Nat.reduceSub, Nat.reduceMod, Nat.reduceEqDiff, reduceCtorEq, Nat.one_ne_zero, Nat.zero_ne_one]
  · rintro k ⟨k', o, t⟩ hk ⟨e1, e2, e3⟩
    dsimp only at e1 e2 e3
    subst e1
    have z1 := b3 k hk
    have z2 := c2 k hk
    have z3 := e2 k hk
    rw [if_neg (by omega)] at z3
    refine ⟨(nI (k + 1), vp_updL o k (fL (v k)), vp_updL (vp_updL t k (fL (sp4 (R a) u k))) (4 + k) (fL (u k))), ?_, rfl, fun j hj => ?_, fun j hj => ?_⟩
    · unfold m_crossing_L12
      simp (disch := omega) only [↓Option.bind_some, ↓Option.elim_some, ↓Option.elim_none, Option.bind_some, Option.elim_some, Option.elim_none, Option.some.injEq, Sum.inl.injEq, Sum.inr.injEq, ↓reduceIte, m_side, lit_nI, lz_I, nI_add, pk_mul, pk_sub, nI_ge, nI_le, nI_lt, nI_nlt, gi_t, nI_clamp, nI_eq, pk_rem, Nat.zero_add, Nat.reduceAdd, Nat.reduceMul, Nat.reduceSub, Nat.reduceMod, Nat.reduceEqDiff, reduceCtorEq, Nat.one_ne_zero, Nat.zero_ne_one, z1, z2, z3]
    · (try dsimp only)
      by_cases e : j = k
      · rw [e, pk_uLs, if_pos (by omega)]
      · rw [pk_uLn e, e2 j hj]
        by_cases e4 : j < k
        · rw [if_pos e4, if_pos (by omega)]
        · rw [if_neg e4, if_neg (by omega)]
    · (try dsimp only)
      by_cases e : j = k
      · rw [e, pk_uLs, pk_uLn (by omega), pk_uLs]
        exact ⟨rfl, rfl⟩
      · have := e3 j (by omega)
        rw [pk_uLn (by omega), pk_uLn (by omega), pk_uLn (by omega), pk_uLn (by omega)]
        exact this
  · rintro ⟨k', o, t⟩ ⟨e1, e2, e3⟩
    dsimp only at e1 e2 e3
    subst e1
    refine ⟨(o, t), ?_, fun j hj => ?_, e3⟩
    · unfold m_crossing_L12
      simp (disch := omega) only [↓Option.bind_some, ↓Option.elim_some, ↓Option.elim_none, Option.bind_some, Option.elim_some, Option.elim_none, Option.some.injEq, Sum.inl.injEq, Sum.inr.injEq, ↓reduceIte, m_side, lit_nI, lz_I, nI_add, pk_mul, pk_sub, nI_ge, nI_le, nI_lt, nI_nlt, gi_t, nI_clamp, nI_eq, pk_rem, Nat.zero_add, Nat.reduceAdd, Nat.reduceMul, Nat.reduceSub, Nat.reduceMod, Nat.reduceEqDiff, reduceCtorEq, Nat.one_ne_zero, Nat.zero_ne_one]
    · have := e2 j hj
      rw [if_pos hj] at this
      exact this
theorem s_isLine [NeZero P] (hP : 2 < P) (hB : P < 2 ^ 31) {rows one two : Nat → Int64} {R : Nat → Nat → Fin P} {cc : Nat} (h : rK cc rows R) {ga : Nat → Int32} {G : Nat → Nat} (hG : pK cc ga G 6) {a b f : Nat} (ha : a < 6) (hb : b < 6) (hf : f < 2) : ∃ r o t, m_isLine (lN P) rows ga one two (nI a) (nI b) (nI f) = some (r, o, t) ∧ (G a = G b → r = nI 0) ∧ (G a ≠ G b → r = nI 1 ∧ (f = 1 → vo o 3 (cr3 (R (G a)) (R (G b))) ∧ t = two) ∧ (f = 0 → o = one ∧ vo t 3 (cr3 (R (G a)) (R (G b))))) := by
  have h60 := h.1
  have g1 := hG a ha
  have g2 := hG b hb
  by_cases e : G a = G b
  · refine ⟨nI 0, one, two, ?_, fun _ => rfl, fun q => absurd e q⟩
    unfold m_isLine
    simp (disch := omega) only [↓Option.bind_some, ↓Option.elim_some, ↓Option.elim_none, Option.bind_some, Option.elim_some, Option.elim_none, Option.some.injEq, Sum.inl.injEq, Sum.inr.injEq, ↓reduceIte, m_side, lit_nI, lz_I, nI_add, pk_mul, pk_sub, nI_ge, nI_le, nI_lt, nI_nlt, gi_t, nI_clamp, nI_eq, pk_rem, Nat.zero_add, Nat.reduceAdd, Nat.reduceMul, Nat.reduceSub, Nat.reduceMod, Nat.reduceEqDiff, reduceCtorEq, Nat.one_ne_zero, Nat.zero_ne_one, g1.1, g2.1, e]
  · have key := it_inv (f := m_isLine_L23 (lN P) rows ga (nI a) (nI b) (nI f)) (fun k s => s.1 = nI k ∧ (f = 1 → vo s.2.1 k (cr3 (R (G a)) (R (G b))) ∧ s.2.2 = two) ∧ (f = 0 → s.2.1 = one ∧ vo s.2.2 k (cr3 (R (G a)) (R (G b))))) 3 (fun r => (f = 1 → vo r.1 3 (cr3 (R (G a)) (R (G b))) ∧ r.2 = two) ∧ (f = 0 → r.1 = one ∧ vo r.2 3 (cr3 (R (G a)) (R (G b))))) ?_ ?_ (nI 0, one, two) ⟨rfl, fun _ => ⟨fun j hj => by omega, rfl⟩, fun _ => ⟨rfl, fun j hj => by omega⟩⟩
    · obtain ⟨⟨o, t⟩, k1, k2, k3⟩ := key
      refine ⟨nI 1, o, t, ?_, fun q => absurd q e, fun _ => ⟨rfl, k2, k3⟩⟩
      have q1 := g1.2
      have q2 := g2.2
      unfold m_isLine
      simp (disch := omega) only [↓Option.bind_some, ↓Option.elim_some, ↓Option.elim_none, Option.bind_some, Option.elim_some, Option.elim_none, Option.some.injEq, Sum.inl.injEq, Sum.inr.injEq, ↓reduceIte, m_side, lit_nI, lz_I, nI_add, pk_mul, pk_sub, nI_ge, nI_le, nI_lt, nI_nlt, gi_t, nI_clamp, nI_eq, pk_rem, Nat.zero_add, Nat.reduceAdd, Nat.reduceMul, Nat.reduceSub, Nat.reduceMod, Nat.reduceEqDiff, reduceCtorEq, Nat.one_ne_zero, Nat.zero_ne_one, g1.1, g2.1, e, k1]
    · rintro k ⟨k', o, t⟩ hk ⟨e1, h1, h2⟩
      dsimp only at e1 h1 h2
      subst e1
      have q1 := g1.2
      have q2 := g2.2
      rcases (show f = 0 ∨ f = 1 by omega) with rfl | rfl
      · obtain ⟨z1, z2⟩ := h2 rfl
        refine ⟨(nI (k + 1), o, vp_updL t k (fL (cr3 (R (G a)) (R (G b)) k))), ?_, rfl, fun q => by omega, fun _ => ⟨z1, fun j hj => ?_⟩⟩
        · unfold m_isLine_L23 m_isLine_L23J132 cr3
          simp (disch := omega) only [↓Option.bind_some, ↓Option.elim_some, ↓Option.elim_none, Option.bind_some, Option.elim_some, Option.elim_none, Option.some.injEq, Sum.inl.injEq, Sum.inr.injEq, ↓reduceIte, m_side, lit_nI, lz_I, nI_add, pk_mul, pk_sub, nI_ge, nI_le, nI_lt, nI_nlt, gi_t, nI_clamp, nI_eq, pk_rem, Nat.zero_add, Nat.reduceAdd, Nat.reduceMul, Nat.reduceSub, Nat.reduceMod, Nat.reduceEqDiff, reduceCtorEq, Nat.one_ne_zero, Nat.zero_ne_one, g1.1, g2.1, s_of h, s_times hP hB, s_less hP hB, s_over hP hB, n_plus hP hB, lz64 (P := P), lo64 (P := P) hP, lPz hP hB]
        · (try dsimp only)
          by_cases e4 : j = k
          · rw [e4, pk_uLs]
          · rw [pk_uLn e4]
            exact z2 j (by omega)
      · obtain ⟨z1, z2⟩ := h1 rfl
        refine ⟨(nI (k + 1), vp_updL o k (fL (cr3 (R (G a)) (R (G b)) k)), t), ?_, rfl, fun _ => ⟨fun j hj => ?_, z2⟩, fun q => by omega⟩
        · unfold m_isLine_L23 m_isLine_L23J132 cr3
          simp (disch := omega) only [↓Option.bind_some, ↓Option.elim_some, ↓Option.elim_none, Option.bind_some, Option.elim_some, Option.elim_none, Option.some.injEq, Sum.inl.injEq, Sum.inr.injEq, ↓reduceIte, m_side, lit_nI, lz_I, nI_add, pk_mul, pk_sub, nI_ge, nI_le, nI_lt, nI_nlt, gi_t, nI_clamp, nI_eq, pk_rem, Nat.zero_add, Nat.reduceAdd, Nat.reduceMul, Nat.reduceSub, Nat.reduceMod, Nat.reduceEqDiff, reduceCtorEq, Nat.one_ne_zero, Nat.zero_ne_one, g1.1, g2.1, s_of h, s_times hP hB, s_less hP hB, s_over hP hB, n_plus hP hB, lz64 (P := P), lo64 (P := P) hP, lPz hP hB]
        · (try dsimp only)
          by_cases e4 : j = k
          · rw [e4, pk_uLs]
          · rw [pk_uLn e4]
            exact z1 j (by omega)
    · rintro ⟨k', o, t⟩ ⟨e1, h1, h2⟩
      dsimp only at e1 h1 h2
      subst e1
      refine ⟨(o, t), ?_, h1, h2⟩
      unfold m_isLine_L23
      simp (disch := omega) only [↓Option.bind_some, ↓Option.elim_some, ↓Option.elim_none, Option.bind_some, Option.elim_some, Option.elim_none, Option.some.injEq, Sum.inl.injEq, Sum.inr.injEq, ↓reduceIte, m_side, lit_nI, lz_I, nI_add, pk_mul, pk_sub, nI_ge, nI_le, nI_lt, nI_nlt, gi_t, nI_clamp, nI_eq, pk_rem, Nat.zero_add, Nat.reduceAdd, Nat.reduceMul, Nat.reduceSub, Nat.reduceMod, Nat.reduceEqDiff, reduceCtorEq, Nat.one_ne_zero, Nat.zero_ne_one]
/-- two sides of six points, and where they meet -/
def mtP [NeZero P] (X : Nat → Nat → Fin P) (a b c d : Nat) : Nat → Fin P := cr3 (cr3 (X a) (X b)) (cr3 (X c) (X d))
theorem s_isMet [NeZero P] (hP : 2 < P) (hB : P < 2 ^ 31) {rows draft one two tu : Nat → Int64} {R : Nat → Nat → Fin P} {cc : Nat} (h : rK cc rows R) {ga : Nat → Int32} {G : Nat → Nat} (hG : pK cc ga G 6) {a b c d r : Nat} (ha : a < 6) (hb : b < 6) (hc : c < 6) (hd : d < 6) (hr : r < 3) : ∃ q dr o t u, m_isMet (nI 2) (lN P) rows ga draft one two tu (nI a) (nI b) (nI c) (nI d) (nI r) = some (q, dr, o, t, u) ∧ ((G a ≠ G b ∧ G c ≠ G d ∧ ldV (mtP (fun k => R (G k)) a b c d) 3 < 3) → q = nI 1 ∧ (∀ k, k < 3 → u (3 * r + k) = fL (mtP (fun k => R (G k)) a b c d k)) ∧ ∀ m, m < 3 * r → u m = tu m) ∧ (¬ (G a ≠ G b ∧ G c ≠ G d ∧ ldV (mtP (fun k => R (G k)) a b c d) 3 < 3) → q = nI 0) := by
  have h60 := h.1
  obtain ⟨r1, o1, t1, a1, a2, a3⟩ := s_isLine hP hB h (one := one) (two := two) hG ha hb (f := 1) (by omega)
  by_cases e1 : G a = G b
  · have := a2 e1
    subst this
    refine ⟨nI 0, draft, o1, t1, tu, ?_, fun q => absurd e1 q.1, fun _ => rfl⟩
    unfold m_isMet
    simp (disch := omega) only [↓Option.bind_some, ↓Option.elim_some, ↓Option.elim_none, Option.bind_some, Option.elim_some, Option.elim_none, Option.some.injEq, Sum.inl.injEq, Sum.inr.injEq, ↓reduceIte, m_side, lit_nI, lz_I, nI_add, pk_mul, pk_sub, nI_ge, nI_le, nI_lt, nI_nlt, gi_t, nI_clamp, nI_eq, pk_rem, Nat.zero_add, Nat.reduceAdd, Nat.reduceMul, Nat.reduceSub, Nat.reduceMod, Nat.reduceEqDiff, reduceCtorEq, Nat.one_ne_zero, Nat.zero_ne_one, a1]
  · obtain ⟨z1, z2, -⟩ := a3 e1
    subst z1
    obtain ⟨z3, z4⟩ := z2 rfl
    subst z4
    obtain ⟨r2, o2, t2, b1, b2, b3⟩ := s_isLine hP hB h (one := o1) (two := t1) hG hc hd (f := 0) (by omega)
    by_cases e2 : G c = G d
    · have := b2 e2
      subst this
      refine ⟨nI 0, draft, o2, t2, tu, ?_, fun q => absurd e2 q.2.1, fun _ => rfl⟩
      unfold m_isMet
      simp (disch := omega) only [↓Option.bind_some, ↓Option.elim_some, ↓Option.elim_none, Option.bind_some, Option.elim_some, Option.elim_none, Option.some.injEq, Sum.inl.injEq, Sum.inr.injEq, ↓reduceIte, m_side, lit_nI, lz_I, nI_add, pk_mul, pk_sub, nI_ge, nI_le, nI_lt, nI_nlt, gi_t, nI_clamp, nI_eq, pk_rem, Nat.zero_add, Nat.reduceAdd, Nat.reduceMul, Nat.reduceSub, Nat.reduceMod, Nat.reduceEqDiff, reduceCtorEq, Nat.one_ne_zero, Nat.zero_ne_one, a1, b1]
    · obtain ⟨w1, -, w2⟩ := b3 e2
      subst w1
      obtain ⟨w3, w4⟩ := w2 rfl
      subst w3
      obtain ⟨dr, c1, c2⟩ := s_through2 hP hB (draft := draft) z3 w4
      have hN := s_isNothing hP hB (d := 2) (t := 0) (draft := dr) (Or.inl rfl) (by omega) (x := mtP (fun k => R (G k)) a b c d) c2
      have ew : wd 2 0 = 3 := rfl
      rw [ew] at hN
      have key := loop1 (f := m_isMet_L30 dr (nI r)) (d := tu) (N := 3) (fun k => 3 * r + k) (fun i j _ _ e => by omega) (mtP (fun k => R (G k)) a b c d) ?_ ?_
      · obtain ⟨u, g1, g2, g3⟩ := key
        by_cases e3 : ldV (mtP (fun k => R (G k)) a b c d) 3 = 3
        · rw [if_pos e3] at hN
          refine ⟨nI 0, dr, o2, t2, u, ?_, fun q => by have := q.2.2; omega, fun _ => rfl⟩
          unfold m_isMet
          rw [show ((1 : Int32)) = nI 1 from rfl] at hN
          simp (disch := omega) only [↓Option.bind_some, ↓Option.elim_some, ↓Option.elim_none, Option.bind_some, Option.elim_some, Option.elim_none, Option.some.injEq, Sum.inl.injEq, Sum.inr.injEq, ↓reduceIte, m_side, lit_nI, lz_I, nI_add, pk_mul, pk_sub, nI_ge, nI_le, nI_lt, nI_nlt, gi_t, nI_clamp, nI_eq, pk_rem, Nat.zero_add, Nat.reduceAdd, Nat.reduceMul, Nat.reduceSub, Nat.reduceMod, Nat.reduceEqDiff, reduceCtorEq, Nat.one_ne_zero, Nat.zero_ne_one, a1, b1, c1, g1, hN]
        · rw [if_neg e3] at hN
          have hle := ldV_le (mtP (fun k => R (G k)) a b c d) 3
          refine ⟨nI 1, dr, o2, t2, u, ?_, fun _ => ⟨rfl, g2, fun m hm => g3 m (fun i hi => by omega)⟩, fun q => absurd ⟨e1, e2, by omega⟩ q⟩
          unfold m_isMet
          rw [show ((0 : Int32)) = nI 0 from rfl] at hN
          simp (disch := omega) only [↓Option.bind_some, ↓Option.elim_some, ↓Option.elim_none, Option.bind_some, Option.elim_some, Option.elim_none, Option.some.injEq, Sum.inl.injEq, Sum.inr.injEq, ↓reduceIte, m_side, lit_nI, lz_I, nI_add, pk_mul, pk_sub, nI_ge, nI_le, nI_lt, nI_nlt, gi_t, nI_clamp, nI_eq, pk_rem, Nat.zero_add, Nat.reduceAdd, Nat.reduceMul, Nat.reduceSub, Nat.reduceMod, Nat.reduceEqDiff, reduceCtorEq, Nat.one_ne_zero, Nat.zero_ne_one, a1, b1, c1, g1, hN]
      · intro k d1 hk _ _
        refine ⟨vp_updL d1 (3 * r + k) (fL (mtP (fun k => R (G k)) a b c d k)), ?_, pk_uLs, fun m hm => pk_uLn hm⟩
        have x1 : dr k = fL (mtP (fun k => R (G k)) a b c d k) := c2 k hk
        unfold m_isMet_L30
        simp (disch := omega) only [↓Option.bind_some, ↓Option.elim_some, ↓Option.elim_none, Option.bind_some, Option.elim_some, Option.elim_none, Option.some.injEq, Sum.inl.injEq, Sum.inr.injEq, ↓reduceIte, m_side, lit_nI, lz_I, nI_add, pk_mul, pk_sub, nI_ge, nI_le, nI_lt, nI_nlt, gi_t, nI_clamp, nI_eq, pk_rem, Nat.zero_add, Nat.reduceAdd, Nat.reduceMul, Nat.reduceSub, Nat.reduceMod, Nat.reduceEqDiff, reduceCtorEq, Nat.one_ne_zero, Nat.zero_ne_one, x1]
      · intro d1
        unfold m_isMet_L30
        simp (disch := omega) only [↓Option.bind_some, ↓Option.elim_some, ↓Option.elim_none, Option.bind_some, Option.elim_some, Option.elim_none, Option.some.injEq, Sum.inl.injEq, Sum.inr.injEq, ↓reduceIte, m_side, lit_nI, lz_I, nI_add, pk_mul, pk_sub, nI_ge, nI_le, nI_lt, nI_nlt, gi_t, nI_clamp, nI_eq, pk_rem, Nat.zero_add, Nat.reduceAdd, Nat.reduceMul, Nat.reduceSub, Nat.reduceMod, Nat.reduceEqDiff, reduceCtorEq, Nat.one_ne_zero, Nat.zero_ne_one]
/-- nine numbers as three lines -/
def t9M (x : Nat → Fin P) : Mx P := fun i j => x (3 * i + j)
theorem s_nine {tu : Nat → Int64} {x : Nat → Fin P} (hx : vo tu 9 x) (f : (Nat → Int64) → Int32 × (Nat → Int64) → Option ((Int32 × (Nat → Int64)) ⊕ (Nat → Int64))) (hf : f = m_areThree_L58 ∨ f = m_holds_L156) (fr : Nat → Int64) : ∃ fr', itX (f tu) (nI 0, fr) = some fr' ∧ fok fr' (t9M x) 3 3 := by
  have key := loop1 (f := f tu) (d := fr) (N := 9) (fun k => 20 * (k / 3) + k % 3) (fun i j _ _ e => by omega) x ?_ ?_
  · obtain ⟨fr', k1, k2, -⟩ := key
    refine ⟨fr', k1, fun i j hi hj => ?_⟩
    have := k2 (3 * i + j) (by omega)
    rw [show 20 * ((3 * i + j) / 3) + (3 * i + j) % 3 = 20 * i + j by omega] at this
    exact this
  · intro k d1 hk _ _
    refine ⟨vp_updL d1 (20 * (k / 3) + k % 3) (fL (x k)), ?_, pk_uLs, fun m hm => pk_uLn hm⟩
    have x1 := hx k hk
    rcases hf with rfl | rfl
    · unfold m_areThree_L58
      simp (disch := omega) only [↓Option.bind_some, ↓Option.elim_some, ↓Option.elim_none, Option.bind_some, Option.elim_some, Option.elim_none, Option.some.injEq, Sum.inl.injEq, Sum.inr.injEq, ↓reduceIte, m_side, lit_nI, lz_I, nI_add, pk_mul, pk_sub, nI_ge, nI_le, nI_lt, nI_nlt, gi_t, nI_clamp, nI_eq, pk_rem, Nat.zero_add, Nat.reduceAdd, Nat.reduceMul, Nat.reduceSub, Nat.reduceMod, Nat.reduceEqDiff, reduceCtorEq, Nat.one_ne_zero, Nat.zero_ne_one, x1, pk_div, s_set d1]
      rw [show k - k / 3 * 3 = k % 3 by omega]
    · unfold m_holds_L156
      simp (disch := omega) only [↓Option.bind_some, ↓Option.elim_some, ↓Option.elim_none, Option.bind_some, Option.elim_some, Option.elim_none, Option.some.injEq, Sum.inl.injEq, Sum.inr.injEq, ↓reduceIte, m_side, lit_nI, lz_I, nI_add, pk_mul, pk_sub, nI_ge, nI_le, nI_lt, nI_nlt, gi_t, nI_clamp, nI_eq, pk_rem, Nat.zero_add, Nat.reduceAdd, Nat.reduceMul, Nat.reduceSub, Nat.reduceMod, Nat.reduceEqDiff, reduceCtorEq, Nat.one_ne_zero, Nat.zero_ne_one, x1, pk_div, s_set d1]
      rw [show k - k / 3 * 3 = k % 3 by omega]
  · intro d1
    rcases hf with rfl | rfl
    · unfold m_areThree_L58
      simp (disch := omega) only [↓Option.bind_some, ↓Option.elim_some, ↓Option.elim_none, Option.bind_some, Option.elim_some, Option.elim_none, Option.some.injEq, Sum.inl.injEq, Sum.inr.injEq, ↓reduceIte, m_side, lit_nI, lz_I, nI_add, pk_mul, pk_sub, nI_ge, nI_le, nI_lt, nI_nlt, gi_t, nI_clamp, nI_eq, pk_rem, Nat.zero_add, Nat.reduceAdd, Nat.reduceMul, Nat.reduceSub, Nat.reduceMod, Nat.reduceEqDiff, reduceCtorEq, Nat.one_ne_zero, Nat.zero_ne_one]
    · unfold m_holds_L156
      simp (disch := omega) only [↓Option.bind_some, ↓Option.elim_some, ↓Option.elim_none, Option.bind_some, Option.elim_some, Option.elim_none, Option.some.injEq, Sum.inl.injEq, Sum.inr.injEq, ↓reduceIte, m_side, lit_nI, lz_I, nI_add, pk_mul, pk_sub, nI_ge, nI_le, nI_lt, nI_nlt, gi_t, nI_clamp, nI_eq, pk_rem, Nat.zero_add, Nat.reduceAdd, Nat.reduceMul, Nat.reduceSub, Nat.reduceMod, Nat.reduceEqDiff, reduceCtorEq, Nat.one_ne_zero, Nat.zero_ne_one]
end MHOLD
