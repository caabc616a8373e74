section MTELL
variable {P : Nat}
/-- places of the pairs i before j, in order -/
def swi (w i : Nat) : Nat := if i = 0 then 0 else if i = 1 then w - 1 else if i = 2 then 2 * w - 3 else 3 * w - 6
def wI (w k : Nat) : Nat := if k < swi w 1 then 0 else if k < swi w 2 then 1 else 2
def wJ (w k : Nat) : Nat := wI w k + 1 + (k - swi w (wI w k))
theorem swi_s {w i : Nat} (hw : w = 3 ∨ w = 4) (hi : i < w) : swi w (i + 1) = swi w i + (w - i - 1) := by
  rcases hw with rfl | rfl
  · rcases (show i = 0 ∨ i = 1 ∨ i = 2 by omega) with rfl | rfl | rfl <;> rfl
  · rcases (show i = 0 ∨ i = 1 ∨ i = 2 ∨ i = 3 by omega) with rfl | rfl | rfl | rfl <;> rfl
theorem wIJ {w i j : Nat} (hw : w = 3 ∨ w = 4) (hi : i < j) (hj : j < w) : wI w (swi w i + (j - i - 1)) = i ∧ wJ w (swi w i + (j - i - 1)) = j ∧ swi w i + (j - i - 1) < swi w w := by
  rcases hw with rfl | rfl
  · rcases (show i = 0 ∨ i = 1 ∨ i = 2 by omega) with rfl | rfl | rfl <;> rcases (show j = 0 ∨ j = 1 ∨ j = 2 by omega) with rfl | rfl | rfl <;> first | omega | decide
  · rcases (show i = 0 ∨ i = 1 ∨ i = 2 ∨ i = 3 by omega) with rfl | rfl | rfl | rfl <;> rcases (show j = 0 ∨ j = 1 ∨ j = 2 ∨ j = 3 by omega) with rfl | rfl | rfl | rfl <;> first | omega | decide
theorem wIJ_w {w k : Nat} (hw : w = 3 ∨ w = 4) (hk : k < swi w w) : wI w k < wJ w k ∧ wJ w k < w ∧ swi w (wI w k) + (wJ w k - wI w k - 1) = k := by
  rcases hw with rfl | rfl
  · rcases (show k = 0 ∨ k = 1 ∨ k = 2 by have : swi 3 3 = 3 := rfl; omega) with rfl | rfl | rfl <;> decide
  · rcases (show k = 0 ∨ k = 1 ∨ k = 2 ∨ k = 3 ∨ k = 4 ∨ k = 5 by have : swi 4 4 = 6 := rfl; omega) with rfl | rfl | rfl | rfl | rfl | rfl <;> decide
theorem swi_w {w : Nat} (hw : w = 3 ∨ w = 4) : swi w w = w * (w - 1) / 2 ∧ swi w w ≤ 6 ∧ 3 ≤ swi w w := by
  rcases hw with rfl | rfl <;> decide
/-- xi yj - xj yi, and all of them in order -/
def bkt [NeZero P] (x y : Nat → Fin P) (i j : Nat) : Fin P := x i * y j - x j * y i
def wgF [NeZero P] (w : Nat) (x y : Nat → Fin P) : Nat → Fin P := fun k => bkt x y (wI w k) (wJ w k)
theorem s_bracket [NeZero P] (hP : 2 < P) (hB : P < 2 ^ 31) {rows : Nat → Int64} {R : Nat → Nat → Fin P} {cc : Nat} (h : rK cc rows R) {a b i j : Nat} (ha : a < cc) (hb : b < cc) (hi : i < 4) (hj : j < 4) : m_bracket (lN P) rows (nI a) (nI b) (nI i) (nI j) = some (fL (bkt (R a) (R b) i j)) := by
  have h60 := h.1
  unfold m_bracket bkt
  simp (disch := omega) only [↓Option.bind_some, ↓Option.elim_some, ↓Option.elim_none, Option.bind_some, Option.elim_some, Option.elim_none, Option.some.injEq, Sum.inl.injEq, Sum.inr.injEq, ↓reduceIte, m_side, lit_nI, lz_I, nI_add, pk_mul, pk_sub, nI_ge, nI_le, nI_lt, nI_nlt, gi_t, nI_clamp, nI_eq, pk_rem, Nat.zero_add, Nat.reduceAdd, Nat.reduceMul, Nat.reduceSub, Nat.reduceMod, Nat.reduceEqDiff, reduceCtorEq, Nat.one_ne_zero, Nat.zero_ne_one, s_of h, s_times hP hB, s_less hP hB, s_over hP hB, n_plus hP hB, lz64 (P := P), lo64 (P := P) hP, lPz hP hB]
theorem nm1 {x : Nat} (h : x < 2 ^ 31) : ¬ nI x = - nI 1 := by
  intro e
  have := nI_pos' h
  rw [e] at this
  exact absurd this (by decide)
def sme [NeZero P] (a b c e : Nat → Fin P) (i j : Nat) : Prop := bkt a b i j ≠ 0 ∨ bkt a c i j ≠ 0 ∨ bkt a e i j ≠ 0 ∨ bkt b c i j ≠ 0 ∨ bkt b e i j ≠ 0 ∨ bkt c e i j ≠ 0
theorem s_placeStep [NeZero P] (hP : 2 < P) (hB : P < 2 ^ 31) {rows : Nat → Int64} {R : Nat → Nat → Fin P} {cc : Nat} (h : rK cc rows R) {a b c e d i j : Nat} (ha : a < cc) (hb : b < cc) (hc : c < cc) (he : e < cc) (hd : d = 2 ∨ d = 3) (hi : i < d + 1) (hj : j < d + 1) (q r : Int32) : (sme (R a) (R b) (R c) (R e) i j → m_places_L23 (nI d) (lN P) rows (nI a) (nI b) (nI c) (nI e) (nI i) (nI j, q, r) = m_places_L23J125 q r (nI i) (nI j)) ∧ (¬ sme (R a) (R b) (R c) (R e) i j → m_places_L23 (nI d) (lN P) rows (nI a) (nI b) (nI c) (nI e) (nI i) (nI j, q, r) = some (.inl (nI (j + 1), q, r))) := by
  have h60 := h.1
  unfold m_places_L23 sme
  have b1 := s_bracket hP hB h ha hb (i := i) (j := j) (by omega) (by omega)
  have b2 := s_bracket hP hB h ha hc (i := i) (j := j) (by omega) (by omega)
  have b3 := s_bracket hP hB h ha he (i := i) (j := j) (by omega) (by omega)
  have b4 := s_bracket hP hB h hb hc (i := i) (j := j) (by omega) (by omega)
  have b5 := s_bracket hP hB h hb he (i := i) (j := j) (by omega) (by omega)
  have b6 := s_bracket hP hB h hc he (i := i) (j := j) (by omega) (by omega)
  generalize bkt (R a) (R b) i j = v1 at *
  generalize bkt (R a) (R c) i j = v2 at *
  generalize bkt (R a) (R e) i j = v3 at *
  generalize bkt (R b) (R c) i j = v4 at *
  generalize bkt (R b) (R e) i j = v5 at *
  generalize bkt (R c) (R e) i j = v6 at *
  constructor
  · intro t
    by_cases z1 : v1 = 0
    · by_cases z2 : v2 = 0
      · by_cases z3 : v3 = 0
        · by_cases z4 : v4 = 0
          · by_cases z5 : v5 = 0
            · by_cases z6 : v6 = 0
              · exfalso
                rcases t with t | t | t | t | t | t
                · exact t z1
                · exact t z2
                · exact t z3
                · exact t z4
                · exact t z5
                · exact t z6
              · simp (disch := omega) only [↓Option.bind_some, ↓Option.elim_some, ↓Option.elim_none, Option.bind_some, Option.elim_some, Option.elim_none, Option.some.injEq, Sum.inl.injEq, Sum.inr.injEq, ↓reduceIte, m_side, lit_nI, lz_I, nI_add, pk_mul, pk_sub, nI_ge, nI_le, nI_lt, nI_nlt, gi_t, nI_clamp, nI_eq, pk_rem, Nat.zero_add, Nat.reduceAdd, Nat.reduceMul, Nat.reduceSub, Nat.reduceMod, Nat.reduceEqDiff, reduceCtorEq, Nat.one_ne_zero, Nat.zero_ne_one, b1, b2, b3, b4, b5, b6, z1, z2, z3, z4, z5, z6, lz64 (P := P), fL_eq hB]
            · simp (disch := omega) only [↓Option.bind_some, ↓Option.elim_some, ↓Option.elim_none, Option.bind_some, Option.elim_some, Option.elim_none, Option.some.injEq, Sum.inl.injEq, Sum.inr.injEq, ↓reduceIte, m_side, lit_nI, lz_I, nI_add, pk_mul, pk_sub, nI_ge, nI_le, nI_lt, nI_nlt, gi_t, nI_clamp, nI_eq, pk_rem, Nat.zero_add, Nat.reduceAdd, Nat.reduceMul, Nat.reduceSub, Nat.reduceMod, Nat.reduceEqDiff, reduceCtorEq, Nat.one_ne_zero, Nat.zero_ne_one, b1, b2, b3, b4, b5, z1, z2, z3, z4, z5, lz64 (P := P), fL_eq hB]
          · simp (disch := omega) only [↓Option.bind_some, ↓Option.elim_some, ↓Option.elim_none, Option.bind_some, Option.elim_some, Option.elim_none, Option.some.injEq, Sum.inl.injEq, Sum.inr.injEq, ↓reduceIte, m_side, lit_nI, lz_I, nI_add, pk_mul, pk_sub, nI_ge, nI_le, nI_lt, nI_nlt, gi_t, nI_clamp, nI_eq, pk_rem, Nat.zero_add, Nat.reduceAdd, Nat.reduceMul, Nat.reduceSub, Nat.reduceMod, Nat.reduceEqDiff, reduceCtorEq, Nat.one_ne_zero, Nat.zero_ne_one, b1, b2, b3, b4, z1, z2, z3, z4, lz64 (P := P), fL_eq hB]
        · simp (disch := omega) only [↓Option.bind_some, ↓Option.elim_some, ↓Option.elim_none, Option.bind_some, Option.elim_some, Option.elim_none, Option.some.injEq, Sum.inl.injEq, Sum.inr.injEq, ↓reduceIte, m_side, lit_nI, lz_I, nI_add, pk_mul, pk_sub, nI_ge, nI_le, nI_lt, nI_nlt, gi_t, nI_clamp, nI_eq, pk_rem, Nat.zero_add, Nat.reduceAdd, Nat.reduceMul, Nat.reduceSub, Nat.reduceMod, Nat.reduceEqDiff, reduceCtorEq, Nat.one_ne_zero, Nat.zero_ne_one, b1, b2, b3, z1, z2, z3, lz64 (P := P), fL_eq hB]
      · simp (disch := omega) only [↓Option.bind_some, ↓Option.elim_some, ↓Option.elim_none, Option.bind_some, Option.elim_some, Option.elim_none, Option.some.injEq, Sum.inl.injEq, Sum.inr.injEq, ↓reduceIte, m_side, lit_nI, lz_I, nI_add, pk_mul, pk_sub, nI_ge, nI_le, nI_lt, nI_nlt, gi_t, nI_clamp, nI_eq, pk_rem, Nat.zero_add, Nat.reduceAdd, Nat.reduceMul, Nat.reduceSub, Nat.reduceMod, Nat.reduceEqDiff, reduceCtorEq, Nat.one_ne_zero, Nat.zero_ne_one, b1, b2, z1, z2, lz64 (P := P), fL_eq hB]
    · simp (disch := omega) only [↓Option.bind_some, ↓Option.elim_some, ↓Option.elim_none, Option.bind_some, Option.elim_some, Option.elim_none, Option.some.injEq, Sum.inl.injEq, Sum.inr.injEq, ↓reduceIte, m_side, lit_nI, lz_I, nI_add, pk_mul, pk_sub, nI_ge, nI_le, nI_lt, nI_nlt, gi_t, nI_clamp, nI_eq, pk_rem, Nat.zero_add, Nat.reduceAdd, Nat.reduceMul, Nat.reduceSub, Nat.reduceMod, Nat.reduceEqDiff, reduceCtorEq, Nat.one_ne_zero, Nat.zero_ne_one, b1, z1, lz64 (P := P), fL_eq hB]
  · intro t
    have z1 : v1 = 0 := Decidable.byContradiction (fun q => t (Or.inl q))
    have z2 : v2 = 0 := Decidable.byContradiction (fun q => t (Or.inr (Or.inl q)))
    have z3 : v3 = 0 := Decidable.byContradiction (fun q => t (Or.inr (Or.inr (Or.inl q))))
    have z4 : v4 = 0 := Decidable.byContradiction (fun q => t (Or.inr (Or.inr (Or.inr (Or.inl q)))))
    have z5 : v5 = 0 := Decidable.byContradiction (fun q => t (Or.inr (Or.inr (Or.inr (Or.inr (Or.inl q))))))
    have z6 : v6 = 0 := Decidable.byContradiction (fun q => t (Or.inr (Or.inr (Or.inr (Or.inr (Or.inr q))))))
    unfold m_places_L23J157
    by_cases qq : q = - nI 1
    · simp (disch := omega) only [↓Option.bind_some, ↓Option.elim_some, ↓Option.elim_none, Option.bind_some, Option.elim_some, Option.elim_none, Option.some.injEq, Sum.inl.injEq, Sum.inr.injEq, ↓reduceIte, m_side, lit_nI, lz_I, nI_add, pk_mul, pk_sub, nI_ge, nI_le, nI_lt, nI_nlt, gi_t, nI_clamp, nI_eq, pk_rem, Nat.zero_add, Nat.reduceAdd, Nat.reduceMul, Nat.reduceSub, Nat.reduceMod, Nat.reduceEqDiff, reduceCtorEq, Nat.one_ne_zero, Nat.zero_ne_one, b1, b2, b3, b4, b5, b6, z1, z2, z3, z4, z5, z6, lz64 (P := P), fL_eq hB, qq]
    · simp (disch := omega) only [↓Option.bind_some, ↓Option.elim_some, ↓Option.elim_none, Option.bind_some, Option.elim_some, Option.elim_none, Option.some.injEq, Sum.inl.injEq, Sum.inr.injEq, ↓reduceIte, m_side, lit_nI, lz_I, nI_add, pk_mul, pk_sub, nI_ge, nI_le, nI_lt, nI_nlt, gi_t, nI_clamp, nI_eq, pk_rem, Nat.zero_add, Nat.reduceAdd, Nat.reduceMul, Nat.reduceSub, Nat.reduceMod, Nat.reduceEqDiff, reduceCtorEq, Nat.one_ne_zero, Nat.zero_ne_one, b1, b2, b3, b4, b5, b6, z1, z2, z3, z4, z5, z6, lz64 (P := P), fL_eq hB, qq]
theorem s_places [NeZero P] (hP : 2 < P) (hB : P < 2 ^ 31) {rows : Nat → Int64} {R : Nat → Nat → Fin P} {cc : Nat} (h : rK cc rows R) {a b c e d k0 : Nat} (ha : a < cc) (hb : b < cc) (hc : c < cc) (he : e < cc) (hd : d = 2 ∨ d = 3) (hk0 : k0 < swi (d + 1) (d + 1)) (ht : sme (R a) (R b) (R c) (R e) (wI (d + 1) k0) (wJ (d + 1) k0)) (hf : ∀ k, k < k0 → ¬ sme (R a) (R b) (R c) (R e) (wI (d + 1) k) (wJ (d + 1) k)) (u v : Int32) : m_places (nI d) (lN P) rows u v (nI a) (nI b) (nI c) (nI e) = some (nI (wI (d + 1) k0), nI (wJ (d + 1) k0)) := by
  have h60 := h.1
  have hw : d + 1 = 3 ∨ d + 1 = 4 := by omega
  have hw0 := wIJ_w hw hk0
  have key := it_inv (f := m_places_L8 (nI d) (lN P) rows (nI a) (nI b) (nI c) (nI e)) (fun i s => s.1 = nI i ∧ (swi (d + 1) i ≤ k0 → s.2.1 = - nI 1) ∧ (k0 < swi (d + 1) i → s.2.1 = nI (wI (d + 1) k0) ∧ s.2.2 = nI (wJ (d + 1) k0))) (d + 1) (fun r => r = (nI (wI (d + 1) k0), nI (wJ (d + 1) k0))) ?_ ?_ (nI 0, - nI 1, v) ⟨rfl, fun _ => rfl, fun q => by have : swi (d + 1) 0 = 0 := rfl; omega⟩
  · obtain ⟨r, k1, k2⟩ := key
    subst k2
    unfold m_places
    simp (disch := omega) only [↓Option.bind_some, ↓Option.elim_some, ↓Option.elim_none, Option.bind_some, Option.elim_some, Option.elim_none, Option.some.injEq, Sum.inl.injEq, Sum.inr.injEq, ↓reduceIte, m_side, lit_nI, lz_I, nI_add, pk_mul, pk_sub, nI_ge, nI_le, nI_lt, nI_nlt, gi_t, nI_clamp, nI_eq, pk_rem, Nat.zero_add, Nat.reduceAdd, Nat.reduceMul, Nat.reduceSub, Nat.reduceMod, Nat.reduceEqDiff, reduceCtorEq, Nat.one_ne_zero, Nat.zero_ne_one, k1]
  · rintro i ⟨i', q, r⟩ hi ⟨e1, h1, h2⟩
    dsimp only at e1 h1 h2
    subst e1
    have key := it_inv (f := m_places_L23 (nI d) (lN P) rows (nI a) (nI b) (nI c) (nI e) (nI i)) (fun m s => s.1 = nI (i + 1 + m) ∧ (swi (d + 1) i + m ≤ k0 → s.2.1 = - nI 1) ∧ (k0 < swi (d + 1) i + m → s.2.1 = nI (wI (d + 1) k0) ∧ s.2.2 = nI (wJ (d + 1) k0))) (d + 1 - i - 1) (fun r => (swi (d + 1) (i + 1) ≤ k0 → r.1 = - nI 1) ∧ (k0 < swi (d + 1) (i + 1) → r.1 = nI (wI (d + 1) k0) ∧ r.2 = nI (wJ (d + 1) k0))) ?_ ?_ (nI (i + 1), q, r) ⟨rfl, h1, h2⟩
    · obtain ⟨⟨q2, r2⟩, k1, k2, k3⟩ := key
      refine ⟨(nI (i + 1), q2, r2), ?_, rfl, k2, k3⟩
      unfold m_places_L8
      simp (disch := omega) only [↓Option.bind_some, ↓Option.elim_some, ↓Option.elim_none, Option.bind_some, Option.elim_some, Option.elim_none, Option.some.injEq, Sum.inl.injEq, Sum.inr.injEq, ↓reduceIte, m_side, lit_nI, lz_I, nI_add, pk_mul, pk_sub, nI_ge, nI_le, nI_lt, nI_nlt, gi_t, nI_clamp, nI_eq, pk_rem, Nat.zero_add, Nat.reduceAdd, Nat.reduceMul, Nat.reduceSub, Nat.reduceMod, Nat.reduceEqDiff, reduceCtorEq, Nat.one_ne_zero, Nat.zero_ne_one, k1]
    · rintro m ⟨j', q2, r2⟩ hm ⟨e1, g1, g2⟩
      dsimp only at e1 g1 g2
      subst e1
      have hp := wIJ (w := d + 1) (i := i) (j := i + 1 + m) hw (by omega) (by omega)
      rw [show i + 1 + m - i - 1 = m by omega] at hp
      obtain ⟨st, sf⟩ := s_placeStep hP hB h ha hb hc he hd hi (j := i + 1 + m) (by omega) q2 r2
      rcases Nat.lt_trichotomy (swi (d + 1) i + m) k0 with cc | cc | cc
      · have hn := hf _ cc
        rw [hp.1, hp.2.1] at hn
        exact ⟨_, sf hn, rfl, fun _ => g1 (by omega), fun z => by omega⟩
      · have hT := ht
        rw [← cc, hp.1, hp.2.1] at hT
        refine ⟨(nI (i + 1 + m + 1), nI i, nI (i + 1 + m)), ?_, rfl, fun z => by omega, fun _ => ⟨by rw [← cc, hp.1], by rw [← cc, hp.2.1]⟩⟩
        rw [st hT, g1 (by omega)]
        unfold m_places_L23J125 m_places_L23J157
        simp (disch := omega) only [↓Option.bind_some, ↓Option.elim_some, ↓Option.elim_none, Option.bind_some, Option.elim_some, Option.elim_none, Option.some.injEq, Sum.inl.injEq, Sum.inr.injEq, ↓reduceIte, m_side, lit_nI, lz_I, nI_add, pk_mul, pk_sub, nI_ge, nI_le, nI_lt, nI_nlt, gi_t, nI_clamp, nI_eq, pk_rem, Nat.zero_add, Nat.reduceAdd, Nat.reduceMul, Nat.reduceSub, Nat.reduceMod, Nat.reduceEqDiff, reduceCtorEq, Nat.one_ne_zero, Nat.zero_ne_one]
      · obtain ⟨z1, z2⟩ := g2 (by omega)
        by_cases hT : sme (R a) (R b) (R c) (R e) i (i + 1 + m)
        · refine ⟨(nI (i + 1 + m + 1), q2, r2), ?_, rfl, fun z => by omega, fun _ => ⟨z1, z2⟩⟩
          rw [st hT, z1]
          have hne := nm1 (x := wI (d + 1) k0) (by omega)
          unfold m_places_L23J125 m_places_L23J157
          simp (disch := omega) only [↓Option.bind_some, ↓Option.elim_some, ↓Option.elim_none, Option.bind_some, Option.elim_some, Option.elim_none, Option.some.injEq, Sum.inl.injEq, Sum.inr.injEq, ↓reduceIte, m_side, lit_nI, lz_I, nI_add, pk_mul, pk_sub, nI_ge, nI_le, nI_lt, nI_nlt, gi_t, nI_clamp, nI_eq, pk_rem, Nat.zero_add, Nat.reduceAdd, Nat.reduceMul, Nat.reduceSub, Nat.reduceMod, Nat.reduceEqDiff, reduceCtorEq, Nat.one_ne_zero, Nat.zero_ne_one, hne]
        · exact ⟨_, sf hT, rfl, fun z => by omega, fun _ => ⟨z1, z2⟩⟩
    · rintro ⟨j', q2, r2⟩ ⟨e1, g1, g2⟩
      dsimp only at e1 g1 g2
      subst e1
      rw [← swi_s hw hi] at g1 g2
      refine ⟨(q2, r2), ?_, g1, g2⟩
      unfold m_places_L23
      rw [show i + 1 + (d + 1 - i - 1) = d + 1 by omega]
      simp (disch := omega) only [↓Option.bind_some, ↓Option.elim_some, ↓Option.elim_none, Option.bind_some, Option.elim_some, Option.elim_none, Option.some.injEq, Sum.inl.injEq, Sum.inr.injEq, ↓reduceIte, m_side, lit_nI, lz_I, nI_add, pk_mul, pk_sub, nI_ge, nI_le, nI_lt, nI_nlt, gi_t, nI_clamp, nI_eq, pk_rem, Nat.zero_add, Nat.reduceAdd, Nat.reduceMul, Nat.reduceSub, Nat.reduceMod, Nat.reduceEqDiff, reduceCtorEq, Nat.one_ne_zero, Nat.zero_ne_one]
  · rintro ⟨i', q, r⟩ ⟨e1, h1, h2⟩
    dsimp only at e1 h1 h2
    subst e1
    obtain ⟨z1, z2⟩ := h2 hk0
    subst z1
    subst z2
    refine ⟨_, ?_, rfl⟩
    unfold m_places_L8
    simp (disch := omega) only [↓Option.bind_some, ↓Option.elim_some, ↓Option.elim_none, Option.bind_some, Option.elim_some, Option.elim_none, Option.some.injEq, Sum.inl.injEq, Sum.inr.injEq, ↓reduceIte, m_side, lit_nI, lz_I, nI_add, pk_mul, pk_sub, nI_ge, nI_le, nI_lt, nI_nlt, gi_t, nI_clamp, nI_eq, pk_rem, Nat.zero_add, Nat.reduceAdd, Nat.reduceMul, Nat.reduceSub, Nat.reduceMod, Nat.reduceEqDiff, reduceCtorEq, Nat.one_ne_zero, Nat.zero_ne_one]
theorem s_isIdealP [NeZero P] (hP : 2 < P) (hB : P < 2 ^ 31) {rows draft : Nat → Int64} {R : Nat → Nat → Fin P} {cc : Nat} (h : rK cc rows R) {a d : Nat} (ha : a < cc) (hd : d = 2 ∨ d = 3) {x : Nat → Fin P} (hx : vo draft (d + 1) x) : m_isIdeal (nI d) (lN P) rows (nI a) draft (nI 0) = some (if sF (fun k => x k * R a k) (d + 1) = 0 then 1 else 0) := by
  have h60 := h.1
  have key := loopS (f := m_isIdeal_L11 (nI d) (lN P) rows (nI a) draft) (d + 1) 0 (fun k => x k * R a k) ?_ ?_
  · have e : (0 : Fin P) + sF (fun k => x k * R a k) (d + 1) = sF (fun k => x k * R a k) (d + 1) := by grind
    rw [e] at key
    unfold m_isIdeal
    by_cases z : sF (fun k => x k * R a k) (d + 1) = 0
    · rw [if_pos z]
      simp (disch := omega) only [↓Option.bind_some, ↓Option.elim_some, ↓Option.elim_none, Option.bind_some, Option.elim_some, Option.elim_none, Option.some.injEq, Sum.inl.injEq, Sum.inr.injEq, ↓reduceIte, m_side, lit_nI, lz_I, nI_add, pk_mul, pk_sub, nI_ge, nI_le, nI_lt, nI_nlt, gi_t, nI_clamp, nI_eq, pk_rem, Nat.zero_add, Nat.reduceAdd, Nat.reduceMul, Nat.reduceSub, Nat.reduceMod, Nat.reduceEqDiff, reduceCtorEq, Nat.one_ne_zero, Nat.zero_ne_one, lz64 (P := P), key, fL_eq hB, z]
    · rw [if_neg z]
      simp (disch := omega) only [↓Option.bind_some, ↓Option.elim_some, ↓Option.elim_none, Option.bind_some, Option.elim_some, Option.elim_none, Option.some.injEq, Sum.inl.injEq, Sum.inr.injEq, ↓reduceIte, m_side, lit_nI, lz_I, nI_add, pk_mul, pk_sub, nI_ge, nI_le, nI_lt, nI_nlt, gi_t, nI_clamp, nI_eq, pk_rem, Nat.zero_add, Nat.reduceAdd, Nat.reduceMul, Nat.reduceSub, Nat.reduceMod, Nat.reduceEqDiff, reduceCtorEq, Nat.one_ne_zero, Nat.zero_ne_one, lz64 (P := P), key, fL_eq hB, z]
  · intro k c hk
    have x1 := hx k hk
    unfold m_isIdeal_L11
    simp (disch := omega) only [↓Option.bind_some, ↓Option.elim_some, ↓Option.elim_none, Option.bind_some, Option.elim_some, Option.elim_none, Option.some.injEq, Sum.inl.injEq, Sum.inr.injEq, ↓reduceIte, m_side, lit_nI, lz_I, nI_add, pk_mul, pk_sub, nI_ge, nI_le, nI_lt, nI_nlt, gi_t, nI_clamp, nI_eq, pk_rem, Nat.zero_add, Nat.reduceAdd, Nat.reduceMul, Nat.reduceSub, Nat.reduceMod, Nat.reduceEqDiff, reduceCtorEq, Nat.one_ne_zero, Nat.zero_ne_one, s_of h, x1, s_times hP hB, s_less hP hB, s_over hP hB, n_plus hP hB, lz64 (P := P), lo64 (P := P) hP, lPz hP hB]
  · intro c
    unfold m_isIdeal_L11
    simp (disch := omega) only [↓Option.bind_some, ↓Option.elim_some, ↓Option.elim_none, Option.bind_some, Option.elim_some, Option.elim_none, Option.some.injEq, Sum.inl.injEq, Sum.inr.injEq, ↓reduceIte, m_side, lit_nI, lz_I, nI_add, pk_mul, pk_sub, nI_ge, nI_le, nI_lt, nI_nlt, gi_t, nI_clamp, nI_eq, pk_rem, Nat.zero_add, Nat.reduceAdd, Nat.reduceMul, Nat.reduceSub, Nat.reduceMod, Nat.reduceEqDiff, reduceCtorEq, Nat.one_ne_zero, Nat.zero_ne_one]
theorem sk4_lt [NeZero P] (L : Nat → Fin P) {i j : Nat} (h : i < j) (hj : j < 4) : sk4 L i j = L (slt i j) ∧ sk4 L j i = - L (slt i j) := by
  rcases (show i = 0 ∨ i = 1 ∨ i = 2 by omega) with rfl | rfl | rfl <;> rcases (show j = 1 ∨ j = 2 ∨ j = 3 by omega) with rfl | rfl | rfl <;> first | omega | exact ⟨rfl, rfl⟩
theorem sk4_d [NeZero P] (L : Nat → Fin P) {i : Nat} (h : i < 4) : sk4 L i i = 0 := by
  rcases (show i = 0 ∨ i = 1 ∨ i = 2 ∨ i = 3 by omega) with rfl | rfl | rfl | rfl <;> rfl
theorem s_isIdealL [NeZero P] (hP : 2 < P) (hB : P < 2 ^ 31) {rows draft : Nat → Int64} {R : Nat → Nat → Fin P} {cc : Nat} (h : rK cc rows R) {a d : Nat} (ha : a < cc) {L : Nat → Fin P} (hx : vo draft 6 L) : m_isIdeal (nI d) (lN P) rows (nI a) draft (nI 1) = some (if ldV (mvK 4 (sk4 L) (R a)) 4 = 4 then 1 else 0) := by
  have h60 := h.1
  have inner : ∀ i, i < 4 → itX (m_isIdeal_L80 (lN P) rows (nI a) draft (nI i)) (fL (0 : Fin P), nI 0) = some (fL (mvK 4 (sk4 L) (R a) i)) := by
    intro i hi
    have key := loopS (f := m_isIdeal_L80 (lN P) rows (nI a) draft (nI i)) 4 0 (fun j => sk4 L i j * R a j) ?_ ?_
    · rw [key]
      unfold mvK
      congr 2
      grind
    · intro j c hj
      unfold m_isIdeal_L80
      rcases Nat.lt_trichotomy i j with q | q | q
      · have hs := slt_lt q hj
        have x1 := hx _ hs
        simp (disch := omega) only [↓Option.bind_some, ↓Option.elim_some, ↓Option.elim_none, Option.bind_some, Option.elim_some, Option.elim_none, Option.some.injEq, Sum.inl.injEq, Sum.inr.injEq, ↓reduceIte, m_side, lit_nI, lz_I, nI_add, pk_mul, pk_sub, nI_ge, nI_le, nI_lt, nI_nlt, gi_t, nI_clamp, nI_eq, pk_rem, Nat.zero_add, Nat.reduceAdd, Nat.reduceMul, Nat.reduceSub, Nat.reduceMod, Nat.reduceEqDiff, reduceCtorEq, Nat.one_ne_zero, Nat.zero_ne_one, s_slot, s_of h, x1, (sk4_lt L q hj).1, show ¬ i = j by omega, s_times hP hB, s_less hP hB, s_over hP hB, n_plus hP hB, lz64 (P := P), lo64 (P := P) hP, lPz hP hB]
      · subst q
        simp (disch := omega) only [↓Option.bind_some, ↓Option.elim_some, ↓Option.elim_none, Option.bind_some, Option.elim_some, Option.elim_none, Option.some.injEq, Sum.inl.injEq, Sum.inr.injEq, ↓reduceIte, m_side, lit_nI, lz_I, nI_add, pk_mul, pk_sub, nI_ge, nI_le, nI_lt, nI_nlt, gi_t, nI_clamp, nI_eq, pk_rem, Nat.zero_add, Nat.reduceAdd, Nat.reduceMul, Nat.reduceSub, Nat.reduceMod, Nat.reduceEqDiff, reduceCtorEq, Nat.one_ne_zero, Nat.zero_ne_one, s_of h, sk4_d L hi, s_times hP hB, s_less hP hB, s_over hP hB, n_plus hP hB, lz64 (P := P), lo64 (P := P) hP, lPz hP hB]
      · have hs := slt_lt q hi
        have x1 := hx _ hs
        simp (disch := omega) only [↓Option.bind_some, ↓Option.elim_some, ↓Option.elim_none, Option.bind_some, Option.elim_some, Option.elim_none, Option.some.injEq, Sum.inl.injEq, Sum.inr.injEq, ↓reduceIte, m_side, lit_nI, lz_I, nI_add, pk_mul, pk_sub, nI_ge, nI_le, nI_lt, nI_nlt, gi_t, nI_clamp, nI_eq, pk_rem, Nat.zero_add, Nat.reduceAdd, Nat.reduceMul, Nat.reduceSub, Nat.reduceMod, Nat.reduceEqDiff, reduceCtorEq, Nat.one_ne_zero, Nat.zero_ne_one, s_slot, s_of h, x1, (sk4_lt L q hi).2, show ¬ i = j by omega, s_times hP hB, s_less hP hB, s_over hP hB, n_plus hP hB, lz64 (P := P), lo64 (P := P) hP, lPz hP hB, z_sub]
    · intro c
      unfold m_isIdeal_L80
      simp (disch := omega) only [↓Option.bind_some, ↓Option.elim_some, ↓Option.elim_none, Option.bind_some, Option.elim_some, Option.elim_none, Option.some.injEq, Sum.inl.injEq, Sum.inr.injEq, ↓reduceIte, m_side, lit_nI, lz_I, nI_add, pk_mul, pk_sub, nI_ge, nI_le, nI_lt, nI_nlt, gi_t, nI_clamp, nI_eq, pk_rem, Nat.zero_add, Nat.reduceAdd, Nat.reduceMul, Nat.reduceSub, Nat.reduceMod, Nat.reduceEqDiff, reduceCtorEq, Nat.one_ne_zero, Nat.zero_ne_one]
  have key := it_inv (f := m_isIdeal_L69 (lN P) rows (nI a) draft) (fun k s => s.2 = nI k ∧ (((∀ j, j < k → mvK 4 (sk4 L) (R a) j = 0) ∧ s.1 = nI 1) ∨ ((¬ ∀ j, j < k → mvK 4 (sk4 L) (R a) j = 0) ∧ s.1 = nI 0))) 4 (fun r => ((∀ j, j < 4 → mvK 4 (sk4 L) (R a) j = 0) ∧ r = nI 1) ∨ ((¬ ∀ j, j < 4 → mvK 4 (sk4 L) (R a) j = 0) ∧ r = nI 0)) ?_ ?_ (nI 1, nI 0) ⟨rfl, Or.inl ⟨fun j hj => by omega, rfl⟩⟩
  · obtain ⟨r, h1, h2⟩ := key
    unfold m_isIdeal
    rcases h2 with ⟨q, e⟩ | ⟨q, e⟩
    · subst e
      rw [if_pos (ldV_eq.mpr q)]
      simp (disch := omega) only [↓Option.bind_some, ↓Option.elim_some, ↓Option.elim_none, Option.bind_some, Option.elim_some, Option.elim_none, Option.some.injEq, Sum.inl.injEq, Sum.inr.injEq, ↓reduceIte, m_side, lit_nI, lz_I, nI_add, pk_mul, pk_sub, nI_ge, nI_le, nI_lt, nI_nlt, gi_t, nI_clamp, nI_eq, pk_rem, Nat.zero_add, Nat.reduceAdd, Nat.reduceMul, Nat.reduceSub, Nat.reduceMod, Nat.reduceEqDiff, reduceCtorEq, Nat.one_ne_zero, Nat.zero_ne_one, h1, or_true]
    · subst e
      rw [if_neg (fun z => q (ldV_eq.mp z))]
      simp (disch := omega) only [↓Option.bind_some, ↓Option.elim_some, ↓Option.elim_none, Option.bind_some, Option.elim_some, Option.elim_none, Option.some.injEq, Sum.inl.injEq, Sum.inr.injEq, ↓reduceIte, m_side, lit_nI, lz_I, nI_add, pk_mul, pk_sub, nI_ge, nI_le, nI_lt, nI_nlt, gi_t, nI_clamp, nI_eq, pk_rem, Nat.zero_add, Nat.reduceAdd, Nat.reduceMul, Nat.reduceSub, Nat.reduceMod, Nat.reduceEqDiff, reduceCtorEq, Nat.one_ne_zero, Nat.zero_ne_one, h1, true_or]
  · rintro k ⟨b, k'⟩ hk ⟨e1, h1⟩
    dsimp only at e1 h1
    subst e1
    have hin := inner k hk
    rcases h1 with ⟨q, e⟩ | ⟨q, e⟩
    · subst e
      by_cases e2 : mvK 4 (sk4 L) (R a) k = 0
      · refine ⟨(nI 1, nI (k + 1)), ?_, rfl, Or.inl ⟨fun j hj => ?_, rfl⟩⟩
        · unfold m_isIdeal_L69 m_isIdeal_L69J181
          simp (disch := omega) only [↓Option.bind_some, ↓Option.elim_some, ↓Option.elim_none, Option.bind_some, Option.elim_some, Option.elim_none, Option.some.injEq, Sum.inl.injEq, Sum.inr.injEq, ↓reduceIte, m_side, lit_nI, lz_I, nI_add, pk_mul, pk_sub, nI_ge, nI_le, nI_lt, nI_nlt, gi_t, nI_clamp, nI_eq, pk_rem, Nat.zero_add, Nat.reduceAdd, Nat.reduceMul, Nat.reduceSub, Nat.reduceMod, Nat.reduceEqDiff, reduceCtorEq, Nat.one_ne_zero, Nat.zero_ne_one, lz64 (P := P), hin, fL_eq hB, e2]
        · by_cases e3 : j = k
          · rw [e3]
            exact e2
          · exact q j (by omega)
      · refine ⟨(nI 0, nI (k + 1)), ?_, rfl, Or.inr ⟨fun z => e2 (z k (by omega)), rfl⟩⟩
        unfold m_isIdeal_L69 m_isIdeal_L69J181
        simp (disch := omega) only [↓Option.bind_some, ↓Option.elim_some, ↓Option.elim_none, Option.bind_some, Option.elim_some, Option.elim_none, Option.some.injEq, Sum.inl.injEq, Sum.inr.injEq, ↓reduceIte, m_side, lit_nI, lz_I, nI_add, pk_mul, pk_sub, nI_ge, nI_le, nI_lt, nI_nlt, gi_t, nI_clamp, nI_eq, pk_rem, Nat.zero_add, Nat.reduceAdd, Nat.reduceMul, Nat.reduceSub, Nat.reduceMod, Nat.reduceEqDiff, reduceCtorEq, Nat.one_ne_zero, Nat.zero_ne_one, lz64 (P := P), hin, fL_eq hB, e2]
    · subst e
      refine ⟨(nI 0, nI (k + 1)), ?_, rfl, Or.inr ⟨fun z => q (fun j hj => z j (by omega)), rfl⟩⟩
      unfold m_isIdeal_L69 m_isIdeal_L69J181
      simp (disch := omega) only [↓Option.bind_some, ↓Option.elim_some, ↓Option.elim_none, Option.bind_some, Option.elim_some, Option.elim_none, Option.some.injEq, Sum.inl.injEq, Sum.inr.injEq, ↓reduceIte, m_side, lit_nI, lz_I, nI_add, pk_mul, pk_sub, nI_ge, nI_le, nI_lt, nI_nlt, gi_t, nI_clamp, nI_eq, pk_rem, Nat.zero_add, Nat.reduceAdd, Nat.reduceMul, Nat.reduceSub, Nat.reduceMod, Nat.reduceEqDiff, reduceCtorEq, Nat.one_ne_zero, Nat.zero_ne_one, lz64 (P := P), hin]
  · rintro ⟨b, k'⟩ ⟨e1, h1⟩
    dsimp only at e1 h1
    subst e1
    refine ⟨b, ?_, h1⟩
    unfold m_isIdeal_L69
    simp (disch := omega) only [↓Option.bind_some, ↓Option.elim_some, ↓Option.elim_none, Option.bind_some, Option.elim_some, Option.elim_none, Option.some.injEq, Sum.inl.injEq, Sum.inr.injEq, ↓reduceIte, m_side, lit_nI, lz_I, nI_add, pk_mul, pk_sub, nI_ge, nI_le, nI_lt, nI_nlt, gi_t, nI_clamp, nI_eq, pk_rem, Nat.zero_add, Nat.reduceAdd, Nat.reduceMul, Nat.reduceSub, Nat.reduceMod, Nat.reduceEqDiff, reduceCtorEq, Nat.one_ne_zero, Nat.zero_ne_one]
end MTELL
