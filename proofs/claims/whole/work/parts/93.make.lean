section MAKE
variable {P : Nat} {d sz o : Nat} {hp : cH} {ad im rw : Nat → Nat} {c : Nat} {S : Nat → Nat} {R : Nat → Nat → Fin P} {H : Nat → Fin P} {g : Nat} {Gs : Nat → Nat} {m : Nat} {pA pB : Nat → Nat} {id : Int32}
theorem sd_ (d : Nat) : m_side (nI d) = some (nI (d + 1)) := by
  unfold m_side
  rw [show (1 : Int32) = nI 1 from rfl, nI_add]
/-- the reference's walk over a square: a row of it -/
theorem mk_in [NeZero P] (hP : 2 < P) (hB : P < 2 ^ 31) {d t i : Nat} (hd : d = 2 ∨ d = 3) (ht : t < 5) {draft : Nat → Int64} {D : Nat → Fin P} (hD : vo draft ((d + 1) * (d + 1)) D) (hi : i < d + 1) (cnt : Int32) (sorts : Nat → Int32) (rows : Nat → Int64) : ∀ n j (fr : Nat → Int64), j + n = d + 1 → ((t = 4 → ∀ k, j ≤ k → k < d + 1 → D (i * (d + 1) + k) = D (k * (d + 1) + i)) → ∃ fr', itX (m_make_L158 (nI d) cnt sorts rows draft (nI t) (nI i)) (nI j, fr) = some (.inl fr') ∧ (∀ k, j ≤ k → k < d + 1 → fr' (20 * i + k) = fL (D (i * (d + 1) + k))) ∧ ∀ m, (∀ k, j ≤ k → k < d + 1 → m ≠ 20 * i + k) → fr' m = fr m) ∧ ((¬ (t = 4 → ∀ k, j ≤ k → k < d + 1 → D (i * (d + 1) + k) = D (k * (d + 1) + i))) → ∃ fr', itX (m_make_L158 (nI d) cnt sorts rows draft (nI t) (nI i)) (nI j, fr) = some (.inr (-1, cnt, sorts, rows, draft, fr'))) := by
  intro n
  induction n with
  | zero =>
    intro j fr e
    have ej : j = d + 1 := by omega
    subst ej
    refine ⟨fun _ => ⟨fr, ?_, fun k h1 h2 => by omega, fun _ _ => rfl⟩, fun q => absurd (fun _ k h1 h2 => by omega) q⟩
    apply itX_stop
    unfold m_make_L158
    simp (disch := omega) only [↓Option.bind_some, ↓Option.elim_some, ↓Option.elim_none, Option.bind_some, Option.elim_some, Option.elim_none, Option.some.injEq, Sum.inl.injEq, Sum.inr.injEq, ↓reduceIte, m_side, lit_nI, lz_I, nI_add, pk_mul, pk_sub, nI_ge, nI_le, nI_lt, nI_nlt, gi_t, nI_clamp, nI_eq, pk_rem, Nat.zero_add, Nat.reduceAdd, Nat.reduceMul, Nat.reduceSub, Nat.reduceMod, Nat.reduceEqDiff, reduceCtorEq, Nat.one_ne_zero, Nat.zero_ne_one]
  | succ n ih =>
    intro j fr e
    have hj : j < d + 1 := by omega
    have n1 := sq_vo hD hi hj
    have n2 := sq_vo hD hj hi
    obtain ⟨i1, i2⟩ := ih (j + 1) (vp_updL fr (20 * i + j) (fL (D (i * (d + 1) + j)))) (by omega)
    have go : (t = 4 → D (i * (d + 1) + j) = D (j * (d + 1) + i)) → m_make_L158 (nI d) cnt sorts rows draft (nI t) (nI i) (nI j, fr) = some (.inl (nI (j + 1), vp_updL fr (20 * i + j) (fL (D (i * (d + 1) + j))))) := by
      intro q
      unfold m_make_L158 m_make_L158J222
      by_cases t4 : t = 4
      · have q1 := q t4
        subst t4
        rcases hd with rfl | rfl
        · simp (disch := omega) only [↓Option.bind_some, ↓Option.elim_some, ↓Option.elim_none, Option.bind_some, Option.elim_some, Option.elim_none, Option.some.injEq, Sum.inl.injEq, Sum.inr.injEq, ↓reduceIte, m_side, lit_nI, lz_I, nI_add, pk_mul, pk_sub, nI_ge, nI_le, nI_lt, nI_nlt, gi_t, nI_clamp, nI_eq, pk_rem, Nat.zero_add, Nat.reduceAdd, Nat.reduceMul, Nat.reduceSub, Nat.reduceMod, Nat.reduceEqDiff, reduceCtorEq, Nat.one_ne_zero, Nat.zero_ne_one, n1, n2, q1, s_set fr]
        · simp (disch := omega) only [↓Option.bind_some, ↓Option.elim_some, ↓Option.elim_none, Option.bind_some, Option.elim_some, Option.elim_none, Option.some.injEq, Sum.inl.injEq, Sum.inr.injEq, ↓reduceIte, m_side, lit_nI, lz_I, nI_add, pk_mul, pk_sub, nI_ge, nI_le, nI_lt, nI_nlt, gi_t, nI_clamp, nI_eq, pk_rem, Nat.zero_add, Nat.reduceAdd, Nat.reduceMul, Nat.reduceSub, Nat.reduceMod, Nat.reduceEqDiff, reduceCtorEq, Nat.one_ne_zero, Nat.zero_ne_one, n1, n2, q1, s_set fr]
      · rcases hd with rfl | rfl
        · simp (disch := omega) only [↓Option.bind_some, ↓Option.elim_some, ↓Option.elim_none, Option.bind_some, Option.elim_some, Option.elim_none, Option.some.injEq, Sum.inl.injEq, Sum.inr.injEq, ↓reduceIte, m_side, lit_nI, lz_I, nI_add, pk_mul, pk_sub, nI_ge, nI_le, nI_lt, nI_nlt, gi_t, nI_clamp, nI_eq, pk_rem, Nat.zero_add, Nat.reduceAdd, Nat.reduceMul, Nat.reduceSub, Nat.reduceMod, Nat.reduceEqDiff, reduceCtorEq, Nat.one_ne_zero, Nat.zero_ne_one, n1, n2, t4, s_set fr]
        · simp (disch := omega) only [↓Option.bind_some, ↓Option.elim_some, ↓Option.elim_none, Option.bind_some, Option.elim_some, Option.elim_none, Option.some.injEq, Sum.inl.injEq, Sum.inr.injEq, ↓reduceIte, m_side, lit_nI, lz_I, nI_add, pk_mul, pk_sub, nI_ge, nI_le, nI_lt, nI_nlt, gi_t, nI_clamp, nI_eq, pk_rem, Nat.zero_add, Nat.reduceAdd, Nat.reduceMul, Nat.reduceSub, Nat.reduceMod, Nat.reduceEqDiff, reduceCtorEq, Nat.one_ne_zero, Nat.zero_ne_one, n1, n2, t4, s_set fr]
    refine ⟨fun q => ?_, fun q => ?_⟩
    · obtain ⟨fr', a1, a2, a3⟩ := i1 (fun t4 k h1 h2 => q t4 k (by omega) h2)
      refine ⟨fr', ?_, fun k h1 h2 => ?_, fun m hm => ?_⟩
      · rw [itX_step (go (fun t4 => q t4 j (Nat.le_refl j) hj)), a1]
      · by_cases ek : k = j
        · rw [ek, a3 _ (fun k' h3 h4 => by omega), pk_uLs]
        · exact a2 k (by omega) h2
      · rw [a3 m (fun k' h3 h4 => hm k' (by omega) h4), pk_uLn (hm j (Nat.le_refl j) hj)]
    · by_cases q1 : D (i * (d + 1) + j) = D (j * (d + 1) + i)
      · obtain ⟨fr', a1⟩ := i2 (fun w => q (fun t4 k h1 h2 => by
          by_cases ek : k = j
          · rw [ek]; exact q1
          · exact w t4 k (by omega) h2))
        exact ⟨fr', by rw [itX_step (go (fun _ => q1)), a1]⟩
      · by_cases t4 : t = 4
        · subst t4
          refine ⟨vp_updL fr (20 * i + j) (fL (D (i * (d + 1) + j))), ?_⟩
          apply itX_stop
          unfold m_make_L158 m_make_L158J222
          rcases hd with rfl | rfl
          · simp (disch := omega) only [↓Option.bind_some, ↓Option.elim_some, ↓Option.elim_none, Option.bind_some, Option.elim_some, Option.elim_none, Option.some.injEq, Sum.inl.injEq, Sum.inr.injEq, ↓reduceIte, m_side, lit_nI, lz_I, nI_add, pk_mul, pk_sub, nI_ge, nI_le, nI_lt, nI_nlt, gi_t, nI_clamp, nI_eq, pk_rem, Nat.zero_add, Nat.reduceAdd, Nat.reduceMul, Nat.reduceSub, Nat.reduceMod, Nat.reduceEqDiff, reduceCtorEq, Nat.one_ne_zero, Nat.zero_ne_one, n1, n2, fL_eq hB, q1, s_set fr]
          · simp (disch := omega) only [↓Option.bind_some, ↓Option.elim_some, ↓Option.elim_none, Option.bind_some, Option.elim_some, Option.elim_none, Option.some.injEq, Sum.inl.injEq, Sum.inr.injEq, ↓reduceIte, m_side, lit_nI, lz_I, nI_add, pk_mul, pk_sub, nI_ge, nI_le, nI_lt, nI_nlt, gi_t, nI_clamp, nI_eq, pk_rem, Nat.zero_add, Nat.reduceAdd, Nat.reduceMul, Nat.reduceSub, Nat.reduceMod, Nat.reduceEqDiff, reduceCtorEq, Nat.one_ne_zero, Nat.zero_ne_one, n1, n2, fL_eq hB, q1, s_set fr]
        · exact absurd (fun w => absurd w t4) q
/-- all rows -/
theorem mk_out [NeZero P] (hP : 2 < P) (hB : P < 2 ^ 31) {d t : Nat} (hd : d = 2 ∨ d = 3) (ht : t < 5) {draft : Nat → Int64} {D : Nat → Fin P} (hD : vo draft ((d + 1) * (d + 1)) D) (cnt : Int32) (sorts : Nat → Int32) (rows : Nat → Int64) : ∀ n i (fr : Nat → Int64), i + n = d + 1 → fok fr (sqM (d + 1) D) i (d + 1) → ((t = 4 → ∀ l k, i ≤ l → l < d + 1 → k < d + 1 → D (l * (d + 1) + k) = D (k * (d + 1) + l)) → ∃ fr', itX (m_make_L148 (nI d) cnt sorts rows draft (nI t)) (nI i, fr) = some (.inl fr') ∧ fok fr' (sqM (d + 1) D) (d + 1) (d + 1)) ∧ ((¬ (t = 4 → ∀ l k, i ≤ l → l < d + 1 → k < d + 1 → D (l * (d + 1) + k) = D (k * (d + 1) + l))) → ∃ fr', itX (m_make_L148 (nI d) cnt sorts rows draft (nI t)) (nI i, fr) = some (.inr (-1, cnt, sorts, rows, draft, fr'))) := by
  intro n
  induction n with
  | zero =>
    intro i fr e hf
    have ei : i = d + 1 := by omega
    subst ei
    refine ⟨fun _ => ⟨fr, ?_, hf⟩, fun q => absurd (fun _ l k h1 h2 => by omega) q⟩
    apply itX_stop
    unfold m_make_L148
    simp (disch := omega) only [↓Option.bind_some, ↓Option.elim_some, ↓Option.elim_none, Option.bind_some, Option.elim_some, Option.elim_none, Option.some.injEq, Sum.inl.injEq, Sum.inr.injEq, ↓reduceIte, m_side, lit_nI, lz_I, nI_add, pk_mul, pk_sub, nI_ge, nI_le, nI_lt, nI_nlt, gi_t, nI_clamp, nI_eq, pk_rem, Nat.zero_add, Nat.reduceAdd, Nat.reduceMul, Nat.reduceSub, Nat.reduceMod, Nat.reduceEqDiff, reduceCtorEq, Nat.one_ne_zero, Nat.zero_ne_one]
  | succ n ih =>
    intro i fr e hf
    have hi : i < d + 1 := by omega
    obtain ⟨j1, j2⟩ := mk_in hP hB hd ht hD hi cnt sorts rows (d + 1) 0 fr (by omega)
    by_cases q1 : t = 4 → ∀ k, 0 ≤ k → k < d + 1 → D (i * (d + 1) + k) = D (k * (d + 1) + i)
    · obtain ⟨fr1, a1, a2, a3⟩ := j1 q1
      have hf1 : fok fr1 (sqM (d + 1) D) (i + 1) (d + 1) := by
        intro l k hl hk
        by_cases el : l = i
        · rw [el]
          exact a2 k (by omega) hk
        · rw [a3 _ (fun k' h1 h2 => by omega)]
          exact hf l k (by omega) hk
      obtain ⟨i1, i2⟩ := ih (i + 1) fr1 (by omega) hf1
      have go : m_make_L148 (nI d) cnt sorts rows draft (nI t) (nI i, fr) = some (.inl (nI (i + 1), fr1)) := by
        have a1' : itX (m_make_L158 (nI d) cnt sorts rows draft (nI t) (nI i)) (0, fr) = some (.inl fr1) := a1
        unfold m_make_L148
        simp only [↓ob (sd_ d), nI_ge hi (show d + 1 < 2 ^ 31 by omega), ↓reduceIte, ↓ob a1']
        rw [show (1 : Int32) = nI 1 from rfl, nI_add]
      refine ⟨fun q => ?_, fun q => ?_⟩
      · obtain ⟨fr', b1, b2⟩ := i1 (fun t4 l k h1 h2 h3 => q t4 l k (by omega) h2 h3)
        exact ⟨fr', by rw [itX_step go, b1], b2⟩
      · obtain ⟨fr', b1⟩ := i2 (fun w => q (fun t4 l k h1 h2 h3 => by
          by_cases el : l = i
          · rw [el]; exact q1 t4 k (by omega) h3
          · exact w t4 l k (by omega) h2 h3))
        exact ⟨fr', by rw [itX_step go, b1]⟩
    · obtain ⟨fr1, a1⟩ := j2 q1
      refine ⟨fun q => absurd (fun t4 k _ h2 => q t4 i k (Nat.le_refl i) hi h2) q1, fun _ => ⟨fr1, ?_⟩⟩
      have a1' : itX (m_make_L158 (nI d) cnt sorts rows draft (nI t) (nI i)) (0, fr) = some (.inr (-1, cnt, sorts, rows, draft, fr1)) := a1
      apply itX_stop
      unfold m_make_L148
      simp only [↓ob (sd_ d), nI_ge hi (show d + 1 < 2 ^ 31 by omega), ↓reduceIte, ↓ob a1']
end MAKE
