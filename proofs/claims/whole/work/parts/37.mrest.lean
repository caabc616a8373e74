section MREST
variable {P : Nat}
def qdF (w : Nat) (V : Nat → Fin P) : Nat → Fin P := fun m => V (stw w (min (m / w) (m % w)) + (max (m / w) (m % w) - min (m / w) (m % w)))
/-- the one solution -/
def slV [NeZero P] (G : Mx P) (f : Nat) : Nat → Fin P := fun c => if c = f then 1 else if c < f then - G c f else 0
theorem s_quadFill [NeZero P] (hP : 2 < P) (hB : P < 2 ^ 31) {fr dr : Nat → Int64} {G : Mx P} {d n f : Nat} (hd : d = 2 ∨ d = 3) (hf : fok fr G n (stw (d + 1) (d + 1))) (hfn : f ≤ n) (hn : n ≤ 9) (hfw : f < stw (d + 1) (d + 1)) : ∃ dr', itX (m_quadric_L61 (nI d) (lN P) fr (nI f)) (nI 0, nI 0, dr) = some dr' ∧ vo dr' ((d + 1) * (d + 1)) (qdF (d + 1) (slV G f)) := by
  have hw : d + 1 = 3 ∨ d + 1 = 4 := by omega
  have hs := stw_le (w := d + 1) (i := d + 1) hw (Nat.le_refl _)
  have key := it_inv (f := m_quadric_L61 (nI d) (lN P) fr (nI f)) (fun i s => s.1 = nI (stw (d + 1) i) ∧ s.2.1 = nI i ∧ ∀ a b, a < d + 1 → b < d + 1 → min a b < i → s.2.2 (a * (d + 1) + b) = fL (slV G f (stw (d + 1) (min a b) + (max a b - min a b)))) (d + 1) (fun dr' => ∀ a b, a < d + 1 → b < d + 1 → dr' (a * (d + 1) + b) = fL (slV G f (stw (d + 1) (min a b) + (max a b - min a b)))) ?_ ?_ (nI 0, nI 0, dr) ⟨rfl, rfl, fun a b _ _ hc => by omega⟩
  · obtain ⟨dr', k1, k2⟩ := key
    exact ⟨dr', k1, vo_sq (v := fun a b => slV G f (stw (d + 1) (min a b) + (max a b - min a b))) (by omega) k2⟩
  · rintro i ⟨c', i', dr1⟩ hi ⟨e1, e2, h1⟩
    dsimp only at e1 e2 h1
    subst e1
    subst e2
    have key := it_inv (f := m_quadric_L74 (nI d) (lN P) fr (nI f) (nI i)) (fun k s => s.1 = nI (stw (d + 1) i + k) ∧ s.2.1 = nI (i + k) ∧ ∀ a b, a < d + 1 → b < d + 1 → (min a b < i ∨ (min a b = i ∧ max a b < i + k)) → s.2.2 (a * (d + 1) + b) = fL (slV G f (stw (d + 1) (min a b) + (max a b - min a b)))) (d + 1 - i) (fun r => r.1 = nI (stw (d + 1) (i + 1)) ∧ ∀ a b, a < d + 1 → b < d + 1 → min a b < i + 1 → r.2 (a * (d + 1) + b) = fL (slV G f (stw (d + 1) (min a b) + (max a b - min a b)))) ?_ ?_ (nI (stw (d + 1) i), nI i, dr1) ⟨rfl, rfl, fun a b ha hb hc => h1 a b ha hb (by omega)⟩
    · obtain ⟨⟨c2, dr2⟩, k1, k2, k3⟩ := key
      refine ⟨(c2, nI (i + 1), dr2), ?_, k2, rfl, k3⟩
      unfold m_quadric_L61
      simp (disch := omega) only [↓Option.bind_some, ↓Option.elim_some, ↓Option.elim_none, Option.bind_some, Option.elim_some, Option.elim_none, Option.some.injEq, Sum.inl.injEq, Sum.inr.injEq, ↓reduceIte, m_side, lit_nI, lz_I, nI_add, pk_mul, pk_sub, nI_ge, nI_le, nI_lt, nI_nlt, gi_t, nI_clamp, nI_eq, pk_rem, Nat.zero_add, Nat.reduceAdd, Nat.reduceMul, Nat.reduceSub, Nat.reduceMod, Nat.reduceEqDiff, reduceCtorEq, Nat.one_ne_zero, Nat.zero_ne_one, k1]
    · rintro k ⟨c2, j2, dr2⟩ hk ⟨e1, e2, g1⟩
      dsimp only at e1 e2 g1
      subst e1
      subst e2
      have hp := pIJ (w := d + 1) (i := i) (j := i + k) hw (by omega) (by omega)
      rw [show i + k - i = k by omega] at hp
      refine ⟨(nI (stw (d + 1) i + k + 1), nI (i + k + 1), vp_updL (vp_updL dr2 (i * (d + 1) + (i + k)) (fL (slV G f (stw (d + 1) i + k)))) ((i + k) * (d + 1) + i) (fL (slV G f (stw (d + 1) i + k)))), ?_, rfl, rfl, ?_⟩
      · generalize stw (d + 1) i + k = c at *
        unfold m_quadric_L74 slV
        by_cases q1 : c = f
        · subst q1
          rw [if_pos rfl]
          rcases hd with rfl | rfl <;> simp (disch := omega) only [↓Option.bind_some, ↓Option.elim_some, ↓Option.elim_none, Option.bind_some, Option.elim_some, Option.elim_none, Option.some.injEq, Sum.inl.injEq, Sum.inr.injEq, ↓reduceIte, m_side, lit_nI, lz_I, nI_add, pk_mul, pk_sub, nI_ge, nI_le, nI_lt, nI_nlt, gi_t, nI_clamp, nI_eq, pk_rem, Nat.zero_add, Nat.reduceAdd, Nat.reduceMul, Nat.reduceSub, Nat.reduceMod, Nat.reduceEqDiff, reduceCtorEq, Nat.one_ne_zero, Nat.zero_ne_one, lo64 (P := P) hP]
        · rw [if_neg q1]
          by_cases q2 : c < f
          · rw [if_pos q2]
            have ha := hf c f (by omega) hfw
            rcases hd with rfl | rfl <;> simp (disch := omega) only [↓Option.bind_some, ↓Option.elim_some, ↓Option.elim_none, Option.bind_some, Option.elim_some, Option.elim_none, Option.some.injEq, Sum.inl.injEq, Sum.inr.injEq, ↓reduceIte, m_side, lit_nI, lz_I, nI_add, pk_mul, pk_sub, nI_ge, nI_le, nI_lt, nI_nlt, gi_t, nI_clamp, nI_eq, pk_rem, Nat.zero_add, Nat.reduceAdd, Nat.reduceMul, Nat.reduceSub, Nat.reduceMod, Nat.reduceEqDiff, reduceCtorEq, Nat.one_ne_zero, Nat.zero_ne_one, q1, s_at fr, ha, s_times hP hB, s_less hP hB, s_over hP hB, n_plus hP hB, lz64 (P := P), lo64 (P := P) hP, lPz hP hB, z_sub]
          · rw [if_neg q2]
            rcases hd with rfl | rfl <;> simp (disch := omega) only [↓Option.bind_some, ↓Option.elim_some, ↓Option.elim_none, Option.bind_some, Option.elim_some, Option.elim_none, Option.some.injEq, Sum.inl.injEq, Sum.inr.injEq, ↓reduceIte, m_side, lit_nI, lz_I, nI_add, pk_mul, pk_sub, nI_ge, nI_le, nI_lt, nI_nlt, gi_t, nI_clamp, nI_eq, pk_rem, Nat.zero_add, Nat.reduceAdd, Nat.reduceMul, Nat.reduceSub, Nat.reduceMod, Nat.reduceEqDiff, reduceCtorEq, Nat.one_ne_zero, Nat.zero_ne_one, q1, lz64 (P := P)]
      · intro a b ha hb hc
        (try dsimp only)
        by_cases q1 : a * (d + 1) + b = (i + k) * (d + 1) + i
        · have := ij_inj hw a b (i + k) i ha hb (by omega) hi q1
          rw [q1, pk_uLs, this.1, this.2, show min (i + k) i = i by omega, show max (i + k) i - i = k by omega]
        · rw [pk_uLn q1]
          by_cases q2 : a * (d + 1) + b = i * (d + 1) + (i + k)
          · have := ij_inj hw a b i (i + k) ha hb hi (by omega) q2
            rw [q2, pk_uLs, this.1, this.2, show min i (i + k) = i by omega, show max i (i + k) - i = k by omega]
          · rw [pk_uLn q2]
            refine g1 a b ha hb ?_
            rcases hc with c | ⟨c1, c2⟩
            · exact Or.inl c
            · refine Or.inr ⟨c1, ?_⟩
              rcases Nat.lt_or_ge (max a b) (i + k) with c3 | c3
              · exact c3
              · exfalso
                have c4 : max a b = i + k := by omega
                rcases Nat.le_total a b with c5 | c5
                · exact q2 (by rw [show a = i by omega, show b = i + k by omega])
                · exact q1 (by rw [show b = i by omega, show a = i + k by omega])
    · rintro ⟨c2, j2, dr2⟩ ⟨e1, e2, g1⟩
      dsimp only at e1 e2 g1
      subst e1
      subst e2
      refine ⟨(nI (stw (d + 1) (i + 1)), dr2), ?_, rfl, fun a b ha hb hc => g1 a b ha hb (by omega)⟩
      unfold m_quadric_L74
      rw [stw_s hw hi, show i + (d + 1 - i) = d + 1 by omega]
      simp (disch := omega) only [↓Option.bind_some, ↓Option.elim_some, ↓Option.elim_none, Option.bind_some, Option.elim_some, Option.elim_none, Option.some.injEq, Sum.inl.injEq, Sum.inr.injEq, ↓reduceIte, m_side, lit_nI, lz_I, nI_add, pk_mul, pk_sub, nI_ge, nI_le, nI_lt, nI_nlt, gi_t, nI_clamp, nI_eq, pk_rem, Nat.zero_add, Nat.reduceAdd, Nat.reduceMul, Nat.reduceSub, Nat.reduceMod, Nat.reduceEqDiff, reduceCtorEq, Nat.one_ne_zero, Nat.zero_ne_one]
  · rintro ⟨c', i', dr1⟩ ⟨e1, e2, h1⟩
    dsimp only at e1 e2 h1
    subst e1
    subst e2
    refine ⟨dr1, ?_, fun a b ha hb => h1 a b ha hb (by omega)⟩
    unfold m_quadric_L61
    simp (disch := omega) only [↓Option.bind_some, ↓Option.elim_some, ↓Option.elim_none, Option.bind_some, Option.elim_some, Option.elim_none, Option.some.injEq, Sum.inl.injEq, Sum.inr.injEq, ↓reduceIte, m_side, lit_nI, lz_I, nI_add, pk_mul, pk_sub, nI_ge, nI_le, nI_lt, nI_nlt, gi_t, nI_clamp, nI_eq, pk_rem, Nat.zero_add, Nat.reduceAdd, Nat.reduceMul, Nat.reduceSub, Nat.reduceMod, Nat.reduceEqDiff, reduceCtorEq, Nat.one_ne_zero, Nat.zero_ne_one]
/-- the first line whose 1 is not on the slope -/
def fre [NeZero P] (G : Mx P) (m : Nat) : Nat := sr (fun k => decide (G k k ≠ 1)) m 0
theorem s_free [NeZero P] (hP : 2 < P) (hB : P < 2 ^ 31) {fr : Nat → Int64} {G : Mx P} {n w : Nat} (hf : fok fr G n w) (hn : n ≤ 9) (hw : w ≤ 10) (hnw : w ≤ n + 1) (hw0 : 0 < w) : itX (m_quadric_L28 fr (nI w)) (nI 0) = some (nI (fre G (w - 1))) := by
  have key : ∀ m r, r + m = w - 1 → itX (m_quadric_L28 fr (nI w)) (nI r) = some (nI (sr (fun k => decide (G k k ≠ 1)) m r)) := by
    intro m
    induction m with
    | zero =>
      intro r e
      apply itX_stop
      unfold m_quadric_L28 sr
      simp (disch := omega) only [↓Option.bind_some, ↓Option.elim_some, ↓Option.elim_none, Option.bind_some, Option.elim_some, Option.elim_none, Option.some.injEq, Sum.inl.injEq, Sum.inr.injEq, ↓reduceIte, m_side, lit_nI, lz_I, nI_add, pk_mul, pk_sub, nI_ge, nI_le, nI_lt, nI_nlt, gi_t, nI_clamp, nI_eq, pk_rem, Nat.zero_add, Nat.reduceAdd, Nat.reduceMul, Nat.reduceSub, Nat.reduceMod, Nat.reduceEqDiff, reduceCtorEq, Nat.one_ne_zero, Nat.zero_ne_one]
    | succ m ih =>
      intro r e
      have ha := hf r r (by omega) (by omega)
      unfold sr
      by_cases c : G r r = 1
      · rw [if_neg (by simp [c]), itX_step (s' := nI (r + 1))]
        · exact ih (r + 1) (by omega)
        · unfold m_quadric_L28
          simp (disch := omega) only [↓Option.bind_some, ↓Option.elim_some, ↓Option.elim_none, Option.bind_some, Option.elim_some, Option.elim_none, Option.some.injEq, Sum.inl.injEq, Sum.inr.injEq, ↓reduceIte, m_side, lit_nI, lz_I, nI_add, pk_mul, pk_sub, nI_ge, nI_le, nI_lt, nI_nlt, gi_t, nI_clamp, nI_eq, pk_rem, Nat.zero_add, Nat.reduceAdd, Nat.reduceMul, Nat.reduceSub, Nat.reduceMod, Nat.reduceEqDiff, reduceCtorEq, Nat.one_ne_zero, Nat.zero_ne_one, s_at fr, ha, c, lo64 (P := P) hP]
      · rw [if_pos (by simp [c])]
        apply itX_stop
        unfold m_quadric_L28
        simp (disch := omega) only [↓Option.bind_some, ↓Option.elim_some, ↓Option.elim_none, Option.bind_some, Option.elim_some, Option.elim_none, Option.some.injEq, Sum.inl.injEq, Sum.inr.injEq, ↓reduceIte, m_side, lit_nI, lz_I, nI_add, pk_mul, pk_sub, nI_ge, nI_le, nI_lt, nI_nlt, gi_t, nI_clamp, nI_eq, pk_rem, Nat.zero_add, Nat.reduceAdd, Nat.reduceMul, Nat.reduceSub, Nat.reduceMod, Nat.reduceEqDiff, reduceCtorEq, Nat.one_ne_zero, Nat.zero_ne_one, s_at fr, ha, fL_eq hB, c, lo64 (P := P) hP]
  exact key (w - 1) 0 (by omega)
/-- the powers of a square -/
def idF [NeZero P] (w : Nat) : Nat → Fin P := fun m => if m / w = m % w then 1 else 0
def mpF [NeZero P] (w : Nat) (M : Nat → Fin P) : Nat → Nat → Fin P
  | 0 => idF w
  | k + 1 => prF w (mpF w M k) M
def scl [NeZero P] (w : Nat) (A : Nat → Fin P) : Prop := ∀ k, k < w * w → A k = if k % (w + 1) = 0 then A 0 else 0
def sclB [NeZero P] (w : Nat) (A : Nat → Fin P) : Bool := decide (∀ k, k < w * w → A k = if k % (w + 1) = 0 then A 0 else 0)
theorem sclB_t [NeZero P] {w : Nat} {A : Nat → Fin P} : sclB w A = true ↔ scl w A := by
  unfold sclB scl
  exact decide_eq_true_iff
theorem vo_of {d : Nat → Int64} {n : Nat} {x : Nat → Fin P} (h : vo d n x) {j : Nat} (hj : j < n) : d j = fL (x j) := h j hj
theorem n_pm [NeZero P] (hP : 2 < P) (hB : P < 2 ^ 31) (a b c : Fin P) : (fL a + fL b * fL c) - (fL a + fL b * fL c) / lN P * lN P = fL (a + b * c) := by
  have h1 := fL_lt a hB
  have h2 := fL_lt b hB
  have h3 := fL_lt c hB
  have h4 : b.val * c.val < 2 ^ 31 * 2 ^ 31 := Nat.mul_lt_mul'' h2 h3
  unfold fL
  rw [lN_mul, lN_add, pk_lRem (by omega) (by omega) (by omega), Fin.val_add, Fin.val_mul, Nat.add_mod_mod]
theorem s_orderMul [NeZero P] (hP : 2 < P) (hB : P < 2 ^ 31) {rows dr one : Nat → Int64} {R : Nat → Nat → Fin P} {cc : Nat} (h : rK cc rows R) {a d : Nat} (ha : a < cc) (hd : d = 2 ∨ d = 3) {A : Nat → Fin P} (hA : vo dr ((d + 1) * (d + 1)) A) : ∃ o', itX (m_order_L57 (nI d) (lN P) rows dr (nI a)) (nI 0, one) = some o' ∧ vo o' ((d + 1) * (d + 1)) (prF (d + 1) A (R a)) := by
  have h60 := h.1
  have hw : d + 1 = 3 ∨ d + 1 = 4 := by omega
  have key := loop2 (f1 := m_order_L57 (nI d) (lN P) rows dr (nI a)) (f2 := fun i => m_order_L68 (nI d) (lN P) rows dr (nI a) (nI i)) (d := one) (d + 1) (d + 1) (fun i j => i * (d + 1) + j) (ij_inj hw) (fun i j => sF (fun k => A (i * (d + 1) + k) * R a (k * (d + 1) + j)) (d + 1)) ?_ ?_ ?_ ?_
  · obtain ⟨o', k1, k2, -⟩ := key
    exact ⟨o', k1, vo_sq (v := fun i j => sF (fun k => A (i * (d + 1) + k) * R a (k * (d + 1) + j)) (d + 1)) (by omega) k2⟩
  · intro i d1 hi
    unfold m_order_L57
    simp (disch := omega) only [↓Option.bind_some, ↓Option.elim_some, ↓Option.elim_none, Option.bind_some, Option.elim_some, Option.elim_none, Option.some.injEq, Sum.inl.injEq, Sum.inr.injEq, ↓reduceIte, m_side, lit_nI, lz_I, nI_add, pk_mul, pk_sub, nI_ge, nI_le, nI_lt, nI_nlt, gi_t, nI_clamp, nI_eq, pk_rem, Nat.zero_add, Nat.reduceAdd, Nat.reduceMul, Nat.reduceSub, Nat.reduceMod, Nat.reduceEqDiff, reduceCtorEq, Nat.one_ne_zero, Nat.zero_ne_one]
  · intro i j d1 hi hj _
    have key2 := loopS (f := m_order_L83 (nI d) (lN P) rows dr (nI a) (nI i) (nI j)) (d + 1) 0 (fun k => A (i * (d + 1) + k) * R a (k * (d + 1) + j)) ?_ ?_
    · refine ⟨vp_updL d1 (i * (d + 1) + j) (fL (0 + sF (fun k => A (i * (d + 1) + k) * R a (k * (d + 1) + j)) (d + 1))), ?_, ?_, fun m hm => pk_uLn hm⟩
      · generalize (0 : Fin P) + sF (fun k => A (i * (d + 1) + k) * R a (k * (d + 1) + j)) (d + 1) = z at *
        unfold m_order_L68
        rcases hd with rfl | rfl <;> simp (disch := omega) only [↓Option.bind_some, ↓Option.elim_some, ↓Option.elim_none, Option.bind_some, Option.elim_some, Option.elim_none, Option.some.injEq, Sum.inl.injEq, Sum.inr.injEq, ↓reduceIte, m_side, lit_nI, lz_I, nI_add, pk_mul, pk_sub, nI_ge, nI_le, nI_lt, nI_nlt, gi_t, nI_clamp, nI_eq, pk_rem, Nat.zero_add, Nat.reduceAdd, Nat.reduceMul, Nat.reduceSub, Nat.reduceMod, Nat.reduceEqDiff, reduceCtorEq, Nat.one_ne_zero, Nat.zero_ne_one, lz64 (P := P), key2]
      · rw [pk_uLs]
        congr 1
        grind
    · intro k c hk
      have n1 := sq_vo hA hi hk
      unfold m_order_L83
      rcases hd with rfl | rfl <;> simp (disch := omega) only [↓Option.bind_some, ↓Option.elim_some, ↓Option.elim_none, Option.bind_some, Option.elim_some, Option.elim_none, Option.some.injEq, Sum.inl.injEq, Sum.inr.injEq, ↓reduceIte, m_side, lit_nI, lz_I, nI_add, pk_mul, pk_sub, nI_ge, nI_le, nI_lt, nI_nlt, gi_t, nI_clamp, nI_eq, pk_rem, Nat.zero_add, Nat.reduceAdd, Nat.reduceMul, Nat.reduceSub, Nat.reduceMod, Nat.reduceEqDiff, reduceCtorEq, Nat.one_ne_zero, Nat.zero_ne_one, s_of h, n1, lz64 (P := P), lPz hP hB, n_pm hP hB]
    · intro c
      unfold m_order_L83
      simp (disch := omega) only [↓Option.bind_some, ↓Option.elim_some, ↓Option.elim_none, Option.bind_some, Option.elim_some, Option.elim_none, Option.some.injEq, Sum.inl.injEq, Sum.inr.injEq, ↓reduceIte, m_side, lit_nI, lz_I, nI_add, pk_mul, pk_sub, nI_ge, nI_le, nI_lt, nI_nlt, gi_t, nI_clamp, nI_eq, pk_rem, Nat.zero_add, Nat.reduceAdd, Nat.reduceMul, Nat.reduceSub, Nat.reduceMod, Nat.reduceEqDiff, reduceCtorEq, Nat.one_ne_zero, Nat.zero_ne_one]
  · intro i d1 hi
    unfold m_order_L68
    simp (disch := omega) only [↓Option.bind_some, ↓Option.elim_some, ↓Option.elim_none, Option.bind_some, Option.elim_some, Option.elim_none, Option.some.injEq, Sum.inl.injEq, Sum.inr.injEq, ↓reduceIte, m_side, lit_nI, lz_I, nI_add, pk_mul, pk_sub, nI_ge, nI_le, nI_lt, nI_nlt, gi_t, nI_clamp, nI_eq, pk_rem, Nat.zero_add, Nat.reduceAdd, Nat.reduceMul, Nat.reduceSub, Nat.reduceMod, Nat.reduceEqDiff, reduceCtorEq, Nat.one_ne_zero, Nat.zero_ne_one]
  · intro d1
    unfold m_order_L57
    simp (disch := omega) only [↓Option.bind_some, ↓Option.elim_some, ↓Option.elim_none, Option.bind_some, Option.elim_some, Option.elim_none, Option.some.injEq, Sum.inl.injEq, Sum.inr.injEq, ↓reduceIte, m_side, lit_nI, lz_I, nI_add, pk_mul, pk_sub, nI_ge, nI_le, nI_lt, nI_nlt, gi_t, nI_clamp, nI_eq, pk_rem, Nat.zero_add, Nat.reduceAdd, Nat.reduceMul, Nat.reduceSub, Nat.reduceMod, Nat.reduceEqDiff, reduceCtorEq, Nat.one_ne_zero, Nat.zero_ne_one]
theorem s_orderChk [NeZero P] (hP : 2 < P) (hB : P < 2 ^ 31) {dr one : Nat → Int64} {d : Nat} (hd : d = 2 ∨ d = 3) {A : Nat → Fin P} (hA : vo one ((d + 1) * (d + 1)) A) : ∃ r dr', itX (m_order_L171 (nI d) one) (nI 1, nI 0, dr) = some (r, dr') ∧ vo dr' ((d + 1) * (d + 1)) A ∧ (scl (d + 1) A → r = nI 1) ∧ (¬ scl (d + 1) A → r = nI 0) := by
  have hwl : (d + 1) * (d + 1) ≤ 16 ∧ 0 < (d + 1) * (d + 1) := by rcases hd with rfl | rfl <;> omega
  have a0 := hA 0 hwl.2
  have key := it_inv (f := m_order_L171 (nI d) one) (fun k s => s.2.1 = nI k ∧ vo s.2.2 k A ∧ (((∀ j, j < k → A j = if j % (d + 1 + 1) = 0 then A 0 else 0) ∧ s.1 = nI 1) ∨ ((¬ ∀ j, j < k → A j = if j % (d + 1 + 1) = 0 then A 0 else 0) ∧ s.1 = nI 0))) ((d + 1) * (d + 1)) (fun r => vo r.2 ((d + 1) * (d + 1)) A ∧ ((scl (d + 1) A ∧ r.1 = nI 1) ∨ (¬ scl (d + 1) A ∧ r.1 = nI 0))) ?_ ?_ (nI 1, nI 0, dr) ⟨rfl, fun j hj => by omega, Or.inl ⟨fun j hj => by omega, rfl⟩⟩
  · obtain ⟨⟨r, dr'⟩, k1, k2, k3⟩ := key
    refine ⟨r, dr', k1, k2, fun q => ?_, fun q => ?_⟩
    · rcases k3 with ⟨c1, c2⟩ | ⟨c1, c2⟩
      · exact c2
      · exact absurd q c1
    · rcases k3 with ⟨c1, c2⟩ | ⟨c1, c2⟩
      · exact absurd c1 q
      · exact c2
  · rintro k ⟨r, k', dr1⟩ hk ⟨e1, h1, h2⟩
    dsimp only at e1 h1 h2
    subst e1
    have ak := hA k hk
    have hv : vo (vp_updL dr1 k (fL (A k))) (k + 1) A := by
      intro j hj
      by_cases e : j = k
      · rw [e, pk_uLs]
      · rw [pk_uLn e]
        exact h1 j (by omega)
    rcases h2 with ⟨c1, c2⟩ | ⟨c1, c2⟩
    · subst c2
      by_cases e : A k = if k % (d + 1 + 1) = 0 then A 0 else 0
      · refine ⟨(nI 1, nI (k + 1), vp_updL dr1 k (fL (A k))), ?_, rfl, hv, Or.inl ⟨fun j hj => ?_, rfl⟩⟩
        · unfold m_order_L171 m_order_L171J240
          by_cases e2 : k % (d + 1 + 1) = 0
          · rw [if_pos e2] at e
            have e3 : nI k - nI k / nI (d + 1 + 1) * nI (d + 1 + 1) = nI 0 := by rw [pk_rem (by omega) (by omega) (by omega), e2]
            simp (disch := omega) only [↓Option.bind_some, ↓Option.elim_some, ↓Option.elim_none, Option.bind_some, Option.elim_some, Option.elim_none, Option.some.injEq, Sum.inl.injEq, Sum.inr.injEq, ↓reduceIte, m_side, lit_nI, lz_I, nI_add, pk_mul, pk_sub, nI_ge, nI_le, nI_lt, nI_nlt, gi_t, nI_clamp, nI_eq, pk_rem, Nat.zero_add, Nat.reduceAdd, Nat.reduceMul, Nat.reduceSub, Nat.reduceMod, Nat.reduceEqDiff, reduceCtorEq, Nat.one_ne_zero, Nat.zero_ne_one, ak, a0, pk_uLs, e, e3, e2, Nat.add_one_ne_zero]
          · rw [if_neg e2] at e
            have e3 : nI k - nI k / nI (d + 1 + 1) * nI (d + 1 + 1) = nI (k % (d + 1 + 1)) := pk_rem (by omega) (by omega) (by omega)
            have e4 : k % (d + 1 + 1) < 8 := by
              have := Nat.mod_lt k (show d + 1 + 1 > 0 by omega)
              omega
            simp (disch := omega) only [↓Option.bind_some, ↓Option.elim_some, ↓Option.elim_none, Option.bind_some, Option.elim_some, Option.elim_none, Option.some.injEq, Sum.inl.injEq, Sum.inr.injEq, ↓reduceIte, m_side, lit_nI, lz_I, nI_add, pk_mul, pk_sub, nI_ge, nI_le, nI_lt, nI_nlt, gi_t, nI_clamp, nI_eq, pk_rem, Nat.zero_add, Nat.reduceAdd, Nat.reduceMul, Nat.reduceSub, Nat.reduceMod, Nat.reduceEqDiff, reduceCtorEq, Nat.one_ne_zero, Nat.zero_ne_one, ak, a0, pk_uLs, e, e3, e2, lz64 (P := P), Nat.add_one_ne_zero]
        · by_cases e5 : j = k
          · rw [e5]
            exact e
          · exact c1 j (by omega)
      · refine ⟨(nI 0, nI (k + 1), vp_updL dr1 k (fL (A k))), ?_, rfl, hv, Or.inr ⟨fun z => e (z k (by omega)), rfl⟩⟩
        unfold m_order_L171 m_order_L171J240
        by_cases e2 : k % (d + 1 + 1) = 0
        · rw [if_pos e2] at e
          have e3 : nI k - nI k / nI (d + 1 + 1) * nI (d + 1 + 1) = nI 0 := by rw [pk_rem (by omega) (by omega) (by omega), e2]
          simp (disch := omega) only [↓Option.bind_some, ↓Option.elim_some, ↓Option.elim_none, Option.bind_some, Option.elim_some, Option.elim_none, Option.some.injEq, Sum.inl.injEq, Sum.inr.injEq, ↓reduceIte, m_side, lit_nI, lz_I, nI_add, pk_mul, pk_sub, nI_ge, nI_le, nI_lt, nI_nlt, gi_t, nI_clamp, nI_eq, pk_rem, Nat.zero_add, Nat.reduceAdd, Nat.reduceMul, Nat.reduceSub, Nat.reduceMod, Nat.reduceEqDiff, reduceCtorEq, Nat.one_ne_zero, Nat.zero_ne_one, ak, a0, pk_uLs, fL_eq hB, e, e3, e2, Nat.add_one_ne_zero]
        · rw [if_neg e2] at e
          have e3 : nI k - nI k / nI (d + 1 + 1) * nI (d + 1 + 1) = nI (k % (d + 1 + 1)) := pk_rem (by omega) (by omega) (by omega)
          have e4 : k % (d + 1 + 1) < 8 := by
            have := Nat.mod_lt k (show d + 1 + 1 > 0 by omega)
            omega
          simp (disch := omega) only [↓Option.bind_some, ↓Option.elim_some, ↓Option.elim_none, Option.bind_some, Option.elim_some, Option.elim_none, Option.some.injEq, Sum.inl.injEq, Sum.inr.injEq, ↓reduceIte, m_side, lit_nI, lz_I, nI_add, pk_mul, pk_sub, nI_ge, nI_le, nI_lt, nI_nlt, gi_t, nI_clamp, nI_eq, pk_rem, Nat.zero_add, Nat.reduceAdd, Nat.reduceMul, Nat.reduceSub, Nat.reduceMod, Nat.reduceEqDiff, reduceCtorEq, Nat.one_ne_zero, Nat.zero_ne_one, ak, a0, pk_uLs, fL_eq hB, e, e3, e2, lz64 (P := P), Nat.add_one_ne_zero]
    · subst c2
      refine ⟨(nI 0, nI (k + 1), vp_updL dr1 k (fL (A k))), ?_, rfl, hv, Or.inr ⟨fun z => c1 (fun j hj => z j (by omega)), rfl⟩⟩
      unfold m_order_L171 m_order_L171J240
      simp (disch := omega) only [↓Option.bind_some, ↓Option.elim_some, ↓Option.elim_none, Option.bind_some, Option.elim_some, Option.elim_none, Option.some.injEq, Sum.inl.injEq, Sum.inr.injEq, ↓reduceIte, m_side, lit_nI, lz_I, nI_add, pk_mul, pk_sub, nI_ge, nI_le, nI_lt, nI_nlt, gi_t, nI_clamp, nI_eq, pk_rem, Nat.zero_add, Nat.reduceAdd, Nat.reduceMul, Nat.reduceSub, Nat.reduceMod, Nat.reduceEqDiff, reduceCtorEq, Nat.one_ne_zero, Nat.zero_ne_one, ak]
  · rintro ⟨r, k', dr1⟩ ⟨e1, h1, h2⟩
    dsimp only at e1 h1 h2
    subst e1
    refine ⟨(r, dr1), ?_, h1, h2⟩
    unfold m_order_L171
    simp (disch := omega) only [↓Option.bind_some, ↓Option.elim_some, ↓Option.elim_none, Option.bind_some, Option.elim_some, Option.elim_none, Option.some.injEq, Sum.inl.injEq, Sum.inr.injEq, ↓reduceIte, m_side, lit_nI, lz_I, nI_add, pk_mul, pk_sub, nI_ge, nI_le, nI_lt, nI_nlt, gi_t, nI_clamp, nI_eq, pk_rem, Nat.zero_add, Nat.reduceAdd, Nat.reduceMul, Nat.reduceSub, Nat.reduceMod, Nat.reduceEqDiff, reduceCtorEq, Nat.one_ne_zero, Nat.zero_ne_one]
/-- the least power that leaves every point, up to 1000 -/
def orN [NeZero P] (w : Nat) (M : Nat → Fin P) : Nat := sr (fun k => sclB w (mpF w M k)) 1000 1
theorem s_orderL [NeZero P] (hP : 2 < P) (hB : P < 2 ^ 31) {rows dr one : Nat → Int64} {R : Nat → Nat → Fin P} {cc : Nat} (h : rK cc rows R) {a d : Nat} (ha : a < cc) (hd : d = 2 ∨ d = 3) : ∀ (n k : Nat) (dr one : Nat → Int64), k + n = 1001 → 1 ≤ k → vo dr ((d + 1) * (d + 1)) (mpF (d + 1) (R a) (k - 1)) → ∃ dr' o', itX (m_order_L48 (nI d) (lN P) rows (nI a)) (nI k, dr, one) = some (if sr (fun k => sclB (d + 1) (mpF (d + 1) (R a) k)) n k ≤ 1000 then .inr (nI (sr (fun k => sclB (d + 1) (mpF (d + 1) (R a) k)) n k), dr', o') else .inl (dr', o')) := by
  have h60 := h.1
  intro n
  induction n with
  | zero =>
    intro k dr one e hk hA
    refine ⟨dr, one, ?_⟩
    apply itX_stop
    unfold sr
    rw [if_neg (by omega)]
    unfold m_order_L48
    simp (disch := omega) only [↓Option.bind_some, ↓Option.elim_some, ↓Option.elim_none, Option.bind_some, Option.elim_some, Option.elim_none, Option.some.injEq, Sum.inl.injEq, Sum.inr.injEq, ↓reduceIte, m_side, lit_nI, lz_I, nI_add, pk_mul, pk_sub, nI_ge, nI_le, nI_lt, nI_nlt, gi_t, nI_clamp, nI_eq, pk_rem, Nat.zero_add, Nat.reduceAdd, Nat.reduceMul, Nat.reduceSub, Nat.reduceMod, Nat.reduceEqDiff, reduceCtorEq, Nat.one_ne_zero, Nat.zero_ne_one]
  | succ n ih =>
    intro k dr one e hk hA
    obtain ⟨o', k1, k2⟩ := s_orderMul hP hB h ha hd (one := one) hA
    have hm : prF (d + 1) (mpF (d + 1) (R a) (k - 1)) (R a) = mpF (d + 1) (R a) k := by
      obtain ⟨j, rfl⟩ : ∃ j, k = j + 1 := ⟨k - 1, by omega⟩
      rfl
    rw [hm] at k2
    obtain ⟨r, dr', l1, l2, l3, l4⟩ := s_orderChk hP hB hd (dr := dr) k2
    have e2 : sr (fun k => sclB (d + 1) (mpF (d + 1) (R a) k)) (n + 1) k = if sclB (d + 1) (mpF (d + 1) (R a) k) = true then k else sr (fun k => sclB (d + 1) (mpF (d + 1) (R a) k)) n (k + 1) := by
      rfl
    by_cases c : scl (d + 1) (mpF (d + 1) (R a) k)
    · refine ⟨dr', o', ?_⟩
      rw [e2, if_pos (sclB_t.mpr c), if_pos (by omega)]
      have hr := l3 c
      subst hr
      apply itX_stop
      unfold m_order_L48
      simp (disch := omega) only [↓Option.bind_some, ↓Option.elim_some, ↓Option.elim_none, Option.bind_some, Option.elim_some, Option.elim_none, Option.some.injEq, Sum.inl.injEq, Sum.inr.injEq, ↓reduceIte, m_side, lit_nI, lz_I, nI_add, pk_mul, pk_sub, nI_ge, nI_le, nI_lt, nI_nlt, gi_t, nI_clamp, nI_eq, pk_rem, Nat.zero_add, Nat.reduceAdd, Nat.reduceMul, Nat.reduceSub, Nat.reduceMod, Nat.reduceEqDiff, reduceCtorEq, Nat.one_ne_zero, Nat.zero_ne_one, k1, l1]
    · have hr := l4 c
      subst hr
      obtain ⟨dr2, o2, m1⟩ := ih (k + 1) dr' o' (by omega) (by omega) (by rw [show k + 1 - 1 = k by omega]; exact l2)
      refine ⟨dr2, o2, ?_⟩
      rw [e2, if_neg (fun q => c (sclB_t.mp q)), itX_step (s' := (nI (k + 1), dr', o')), m1]
      unfold m_order_L48
      simp (disch := omega) only [↓Option.bind_some, ↓Option.elim_some, ↓Option.elim_none, Option.bind_some, Option.elim_some, Option.elim_none, Option.some.injEq, Sum.inl.injEq, Sum.inr.injEq, ↓reduceIte, m_side, lit_nI, lz_I, nI_add, pk_mul, pk_sub, nI_ge, nI_le, nI_lt, nI_nlt, gi_t, nI_clamp, nI_eq, pk_rem, Nat.zero_add, Nat.reduceAdd, Nat.reduceMul, Nat.reduceSub, Nat.reduceMod, Nat.reduceEqDiff, reduceCtorEq, Nat.one_ne_zero, Nat.zero_ne_one, k1, l1]
end MREST
