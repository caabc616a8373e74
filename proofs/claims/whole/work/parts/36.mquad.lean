section MQUAD
variable {P : Nat}
/-- places of the pairs i up to j, in order -/
def stw (w i : Nat) : Nat := if i = 0 then 0 else if i = 1 then w else if i = 2 then 2 * w - 1 else if i = 3 then 3 * w - 3 else 4 * w - 6
def pI (w c : Nat) : Nat := if c < stw w 1 then 0 else if c < stw w 2 then 1 else if c < stw w 3 then 2 else 3
def pJ (w c : Nat) : Nat := pI w c + (c - stw w (pI w c))
theorem stw_s {w i : Nat} (hw : w = 3 ∨ w = 4) (hi : i < w) : stw w (i + 1) = stw w i + (w - i) := by
  rcases hw with rfl | rfl
  · rcases (show i = 0 ∨ i = 1 ∨ i = 2 by omega) with rfl | rfl | rfl <;> rfl
  · rcases (show i = 0 ∨ i = 1 ∨ i = 2 ∨ i = 3 by omega) with rfl | rfl | rfl | rfl <;> rfl
theorem stw_w {w : Nat} (hw : w = 3 ∨ w = 4) : stw w w = w * (w + 1) / 2 := by
  rcases hw with rfl | rfl <;> rfl
theorem pIJ {w i j : Nat} (hw : w = 3 ∨ w = 4) (hi : i ≤ j) (hj : j < w) : pI w (stw w i + (j - i)) = i ∧ pJ w (stw w i + (j - i)) = j ∧ stw w i + (j - i) < stw w w := by
  rcases hw with rfl | rfl
  · rcases (show i = 0 ∨ i = 1 ∨ i = 2 by omega) with rfl | rfl | rfl <;> rcases (show j = 0 ∨ j = 1 ∨ j = 2 by omega) with rfl | rfl | rfl <;> first | omega | decide
  · rcases (show i = 0 ∨ i = 1 ∨ i = 2 ∨ i = 3 by omega) with rfl | rfl | rfl | rfl <;> rcases (show j = 0 ∨ j = 1 ∨ j = 2 ∨ j = 3 by omega) with rfl | rfl | rfl | rfl <;> first | omega | decide
theorem pIJ_w {w c : Nat} (hw : w = 3 ∨ w = 4) (hc : c < stw w w) : pI w c ≤ pJ w c ∧ pJ w c < w ∧ stw w (pI w c) + (pJ w c - pI w c) = c := by
  rcases hw with rfl | rfl
  · rcases (show c = 0 ∨ c = 1 ∨ c = 2 ∨ c = 3 ∨ c = 4 ∨ c = 5 by have : stw 3 3 = 6 := rfl; omega) with rfl | rfl | rfl | rfl | rfl | rfl <;> decide
  · rcases (show c = 0 ∨ c = 1 ∨ c = 2 ∨ c = 3 ∨ c = 4 ∨ c = 5 ∨ c = 6 ∨ c = 7 ∨ c = 8 ∨ c = 9 by have : stw 4 4 = 10 := rfl; omega) with rfl | rfl | rfl | rfl | rfl | rfl | rfl | rfl | rfl | rfl <;> decide
theorem stw_le {w i : Nat} (hw : w = 3 ∨ w = 4) (hi : i ≤ w) : stw w i ≤ 10 := by
  rcases hw with rfl | rfl
  · rcases (show i = 0 ∨ i = 1 ∨ i = 2 ∨ i = 3 by omega) with rfl | rfl | rfl | rfl <;> decide
  · rcases (show i = 0 ∨ i = 1 ∨ i = 2 ∨ i = 3 ∨ i = 4 by omega) with rfl | rfl | rfl | rfl | rfl <;> decide
/-- what the numbers of a quadric are multiplied with, for one point -/
def cnV [NeZero P] (w : Nat) (x : Nat → Fin P) (c : Nat) : Fin P := if pI w c = pJ w c then x (pI w c) * x (pJ w c) else x (pI w c) * x (pJ w c) + x (pI w c) * x (pJ w c)
theorem lt64 [NeZero P] (hP : 2 < P) : (2 : Int64) = fL (2 : Fin P) := by
  have h2 : (2 : Fin P).val = 2 := by
    show 2 % P = 2
    exact Nat.mod_eq_of_lt (by omega)
  unfold fL
  rw [h2]
  rfl
theorem s_condRow [NeZero P] (hP : 2 < P) (hB : P < 2 ^ 31) {rows fr : Nat → Int64} {R : Nat → Nat → Fin P} {cc : Nat} (h : rK cc rows R) {ga : Nat → Int32} {g d a : Nat} (hg : ga g = nI a) (hg9 : g < 9) (ha : a < cc) (hd : d = 2 ∨ d = 3) : ∃ fr', itX (m_conditions_L14 (nI d) (lN P) rows ga (nI g)) (nI 0, nI 0, fr) = some fr' ∧ (∀ c, c < stw (d + 1) (d + 1) → fr' (20 * g + c) = fL (cnV (d + 1) (R a) c)) ∧ ∀ m, ¬ (m / 20 = g ∧ m % 20 < stw (d + 1) (d + 1)) → fr' m = fr m := by
  have h60 := h.1
  have hw : d + 1 = 3 ∨ d + 1 = 4 := by omega
  refine it_inv (f := m_conditions_L14 (nI d) (lN P) rows ga (nI g)) (fun i s => s.1 = nI (stw (d + 1) i) ∧ s.2.1 = nI i ∧ (∀ c, c < stw (d + 1) i → s.2.2 (20 * g + c) = fL (cnV (d + 1) (R a) c)) ∧ ∀ m, ¬ (m / 20 = g ∧ m % 20 < stw (d + 1) (d + 1)) → s.2.2 m = fr m) (d + 1) (fun fr' => (∀ c, c < stw (d + 1) (d + 1) → fr' (20 * g + c) = fL (cnV (d + 1) (R a) c)) ∧ ∀ m, ¬ (m / 20 = g ∧ m % 20 < stw (d + 1) (d + 1)) → fr' m = fr m) ?_ ?_ (nI 0, nI 0, fr) ⟨rfl, rfl, fun c hc => by have : stw (d + 1) 0 = 0 := rfl; omega, fun m _ => rfl⟩
  · rintro i ⟨c', i', fr1⟩ hi ⟨e1, e2, h1, h2⟩
    dsimp only at e1 e2 h1 h2
    subst e1
    subst e2
    have key := it_inv (f := m_conditions_L25 (nI d) (lN P) rows ga (nI g) (nI i)) (fun k s => s.1 = nI (stw (d + 1) i + k) ∧ s.2.1 = nI (i + k) ∧ (∀ c, c < stw (d + 1) i + k → s.2.2 (20 * g + c) = fL (cnV (d + 1) (R a) c)) ∧ ∀ m, ¬ (m / 20 = g ∧ m % 20 < stw (d + 1) (d + 1)) → s.2.2 m = fr m) (d + 1 - i) (fun r => r.1 = nI (stw (d + 1) (i + 1)) ∧ (∀ c, c < stw (d + 1) (i + 1) → r.2 (20 * g + c) = fL (cnV (d + 1) (R a) c)) ∧ ∀ m, ¬ (m / 20 = g ∧ m % 20 < stw (d + 1) (d + 1)) → r.2 m = fr m) ?_ ?_ (nI (stw (d + 1) i), nI i, fr1) ⟨rfl, rfl, h1, h2⟩
    · obtain ⟨⟨c2, fr2⟩, k1, k2, k3, k4⟩ := key
      refine ⟨(c2, nI (i + 1), fr2), ?_, k2, rfl, k3, k4⟩
      unfold m_conditions_L14
      simp (disch := omega) only [↓Option.bind_some, ↓Option.elim_some, ↓Option.elim_none, Option.bind_some, Option.elim_some, Option.elim_none, Option.some.injEq, Sum.inl.injEq, Sum.inr.injEq, ↓reduceIte, m_side, lit_nI, lz_I, nI_add, pk_mul, pk_sub, nI_ge, nI_le, nI_lt, nI_nlt, gi_t, nI_clamp, nI_eq, pk_rem, Nat.zero_add, Nat.reduceAdd, Nat.reduceMul, Nat.reduceSub, Nat.reduceMod, Nat.reduceEqDiff, reduceCtorEq, Nat.one_ne_zero, Nat.zero_ne_one, k1]
    · rintro k ⟨c2, j2, fr2⟩ hk ⟨e1, e2, g1, g2⟩
      dsimp only at e1 e2 g1 g2
      subst e1
      subst e2
      have hp := pIJ (w := d + 1) (i := i) (j := i + k) hw (by omega) (by omega)
      rw [show i + k - i = k by omega] at hp
      have hs := stw_le (w := d + 1) (i := d + 1) hw (Nat.le_refl _)
      refine ⟨(nI (stw (d + 1) i + k + 1), nI (i + k + 1), vp_updL fr2 (20 * g + (stw (d + 1) i + k)) (fL (cnV (d + 1) (R a) (stw (d + 1) i + k)))), ?_, rfl, rfl, ?_, ?_⟩
      · unfold m_conditions_L25
        have hv : cnV (d + 1) (R a) (stw (d + 1) i + k) = if i = i + k then R a i * R a (i + k) else R a i * R a (i + k) + R a i * R a (i + k) := by
          unfold cnV
          rw [hp.1, hp.2.1]
        rw [hv]
        by_cases e : i = i + k
        · have e0 : k = 0 := by omega
          subst e0
          simp (disch := omega) only [↓Option.bind_some, ↓Option.elim_some, ↓Option.elim_none, Option.bind_some, Option.elim_some, Option.elim_none, Option.some.injEq, Sum.inl.injEq, Sum.inr.injEq, ↓reduceIte, m_side, lit_nI, lz_I, nI_add, pk_mul, pk_sub, nI_ge, nI_le, nI_lt, nI_nlt, gi_t, nI_clamp, nI_eq, pk_rem, Nat.zero_add, Nat.reduceAdd, Nat.reduceMul, Nat.reduceSub, Nat.reduceMod, Nat.reduceEqDiff, reduceCtorEq, Nat.one_ne_zero, Nat.zero_ne_one, hg, s_of h, s_set fr2, s_times hP hB, s_less hP hB, s_over hP hB, n_plus hP hB, lz64 (P := P), lo64 (P := P) hP, lPz hP hB, Nat.add_zero]
        · simp (disch := omega) only [↓Option.bind_some, ↓Option.elim_some, ↓Option.elim_none, Option.bind_some, Option.elim_some, Option.elim_none, Option.some.injEq, Sum.inl.injEq, Sum.inr.injEq, ↓reduceIte, m_side, lit_nI, lz_I, nI_add, pk_mul, pk_sub, nI_ge, nI_le, nI_lt, nI_nlt, gi_t, nI_clamp, nI_eq, pk_rem, Nat.zero_add, Nat.reduceAdd, Nat.reduceMul, Nat.reduceSub, Nat.reduceMod, Nat.reduceEqDiff, reduceCtorEq, Nat.one_ne_zero, Nat.zero_ne_one, hg, s_of h, s_set fr2, e, s_times hP hB, s_less hP hB, s_over hP hB, n_plus hP hB, lz64 (P := P), lo64 (P := P) hP, lPz hP hB, lt64 (P := P) hP]
          congr 4
          grind
      · intro c hc
        (try dsimp only)
        by_cases e : c = stw (d + 1) i + k
        · rw [e, pk_uLs]
        · rw [pk_uLn (by omega)]
          exact g1 c (by omega)
      · intro m hm
        (try dsimp only)
        rw [pk_uLn (by omega)]
        exact g2 m hm
    · rintro ⟨c2, j2, fr2⟩ ⟨e1, e2, g1, g2⟩
      dsimp only at e1 e2 g1 g2
      subst e1
      subst e2
      rw [← stw_s hw hi] at g1
      refine ⟨(nI (stw (d + 1) (i + 1)), fr2), ?_, rfl, g1, g2⟩
      unfold m_conditions_L25
      rw [stw_s hw hi, show i + (d + 1 - i) = d + 1 by omega]
      simp (disch := omega) only [↓Option.bind_some, ↓Option.elim_some, ↓Option.elim_none, Option.bind_some, Option.elim_some, Option.elim_none, Option.some.injEq, Sum.inl.injEq, Sum.inr.injEq, ↓reduceIte, m_side, lit_nI, lz_I, nI_add, pk_mul, pk_sub, nI_ge, nI_le, nI_lt, nI_nlt, gi_t, nI_clamp, nI_eq, pk_rem, Nat.zero_add, Nat.reduceAdd, Nat.reduceMul, Nat.reduceSub, Nat.reduceMod, Nat.reduceEqDiff, reduceCtorEq, Nat.one_ne_zero, Nat.zero_ne_one]
  · rintro ⟨c', i', fr1⟩ ⟨e1, e2, h1, h2⟩
    dsimp only at e1 e2 h1 h2
    subst e1
    subst e2
    refine ⟨fr1, ?_, h1, h2⟩
    unfold m_conditions_L14
    simp (disch := omega) only [↓Option.bind_some, ↓Option.elim_some, ↓Option.elim_none, Option.bind_some, Option.elim_some, Option.elim_none, Option.some.injEq, Sum.inl.injEq, Sum.inr.injEq, ↓reduceIte, m_side, lit_nI, lz_I, nI_add, pk_mul, pk_sub, nI_ge, nI_le, nI_lt, nI_nlt, gi_t, nI_clamp, nI_eq, pk_rem, Nat.zero_add, Nat.reduceAdd, Nat.reduceMul, Nat.reduceSub, Nat.reduceMod, Nat.reduceEqDiff, reduceCtorEq, Nat.one_ne_zero, Nat.zero_ne_one]
/-- the conditions of all points -/
def cnM [NeZero P] (w : Nat) (X : Nat → Nat → Fin P) : Mx P := fun g c => cnV w (X g) c
theorem s_conditions [NeZero P] (hP : 2 < P) (hB : P < 2 ^ 31) {rows fr : Nat → Int64} {R : Nat → Nat → Fin P} {cc : Nat} (h : rK cc rows R) {ga : Nat → Int32} {G : Nat → Nat} {d n : Nat} (hG : pK cc ga G n) (hn : n ≤ 9) (hd : d = 2 ∨ d = 3) : ∃ fr', m_conditions (nI d) (lN P) rows (nI n) ga fr = some (nI (gj n (cnM (d + 1) (fun k => R (G k))) (stw (d + 1) (d + 1))).1, fr') ∧ fok fr' (gj n (cnM (d + 1) (fun k => R (G k))) (stw (d + 1) (d + 1))).2 n (stw (d + 1) (d + 1)) := by
  have h60 := h.1
  have hw : d + 1 = 3 ∨ d + 1 = 4 := by omega
  have hs := stw_le (w := d + 1) (i := d + 1) hw (Nat.le_refl _)
  have key := loopM (f := m_conditions_L2 (nI d) (lN P) rows (nI n) ga) (d := fr) (s := 0) (N := n) (by omega) (fun g m => m / 20 = g ∧ m % 20 < stw (d + 1) (d + 1)) (fun m => cnM (d + 1) (fun k => R (G k)) (m / 20) (m % 20)) ?_ ?_
  · obtain ⟨fr1, g1, g2, -⟩ := key
    obtain ⟨fr2, k1, k2⟩ := s_reduce hP hB (M := cnM (d + 1) (fun k => R (G k))) (h := n) (w := stw (d + 1) (d + 1)) (u := stw (d + 1) (d + 1)) (fr := fr1) (fun i j hi hj => by
      have := g2 i (20 * i + j) (by omega) hi ⟨by omega, by omega⟩
      rw [this, show (20 * i + j) / 20 = i by omega, show (20 * i + j) % 20 = j by omega]) (by omega) (by omega) (by omega)
    refine ⟨fr2, ?_, k2⟩
    unfold m_conditions
    have e1 : nI ((d + 1) * (d + 1 + 1)) / nI 2 = nI (stw (d + 1) (d + 1)) := by
      rw [pk_div (by rcases hd with rfl | rfl <;> decide) (by decide) (by decide), stw_w hw]
    simp (disch := omega) only [↓Option.bind_some, ↓Option.elim_some, ↓Option.elim_none, Option.bind_some, Option.elim_some, Option.elim_none, Option.some.injEq, Sum.inl.injEq, Sum.inr.injEq, ↓reduceIte, m_side, lit_nI, lz_I, nI_add, pk_mul, pk_sub, nI_ge, nI_le, nI_lt, nI_nlt, gi_t, nI_clamp, nI_eq, pk_rem, Nat.zero_add, Nat.reduceAdd, Nat.reduceMul, Nat.reduceSub, Nat.reduceMod, Nat.reduceEqDiff, reduceCtorEq, Nat.one_ne_zero, Nat.zero_ne_one, g1, e1, k1]
  · intro g d1 _ hg _ _
    have hgg := hG g hg
    obtain ⟨fr2, k1, k2, k3⟩ := s_condRow hP hB h (fr := d1) (g := g) hgg.1 (by omega) hgg.2 hd
    refine ⟨fr2, ?_, ?_, ?_⟩
    · unfold m_conditions_L2
      simp (disch := omega) only [↓Option.bind_some, ↓Option.elim_some, ↓Option.elim_none, Option.bind_some, Option.elim_some, Option.elim_none, Option.some.injEq, Sum.inl.injEq, Sum.inr.injEq, ↓reduceIte, m_side, lit_nI, lz_I, nI_add, pk_mul, pk_sub, nI_ge, nI_le, nI_lt, nI_nlt, gi_t, nI_clamp, nI_eq, pk_rem, Nat.zero_add, Nat.reduceAdd, Nat.reduceMul, Nat.reduceSub, Nat.reduceMod, Nat.reduceEqDiff, reduceCtorEq, Nat.one_ne_zero, Nat.zero_ne_one, k1]
    · rintro m ⟨m1, m2⟩
      have := k2 (m % 20) m2
      rw [show 20 * g + m % 20 = m by omega] at this
      rw [this]
      unfold cnM
      rw [m1]
    · intro m hm
      exact k3 m hm
  · intro d1
    unfold m_conditions_L2
    simp (disch := omega) only [↓Option.bind_some, ↓Option.elim_some, ↓Option.elim_none, Option.bind_some, Option.elim_some, Option.elim_none, Option.some.injEq, Sum.inl.injEq, Sum.inr.injEq, ↓reduceIte, m_side, lit_nI, lz_I, nI_add, pk_mul, pk_sub, nI_ge, nI_le, nI_lt, nI_nlt, gi_t, nI_clamp, nI_eq, pk_rem, Nat.zero_add, Nat.reduceAdd, Nat.reduceMul, Nat.reduceSub, Nat.reduceMod, Nat.reduceEqDiff, reduceCtorEq, Nat.one_ne_zero, Nat.zero_ne_one]
end MQUAD
