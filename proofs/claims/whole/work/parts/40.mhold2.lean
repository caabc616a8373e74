section MHOLDB
variable {P : Nat}
theorem s_rankOfThree [NeZero P] (hP : 2 < P) (hB : P < 2 ^ 31) {rows fr : Nat → Int64} {R : Nat → Nat → Fin P} {cc : Nat} (h : rK cc rows R) {ga : Nat → Int32} {G : Nat → Nat} (hG : pK cc ga G 6) {a b c : Nat} (ha : a < 6) (hb : b < 6) (hc : c < 6) : ∃ fr', m_rankOfThree (lN P) rows ga fr (nI a) (nI b) (nI c) = some (nI (gj 3 (fun i => R (G (if i = 0 then a else if i = 1 then b else c))) 3).1, fr') := by
  have h60 := h.1
  have g1 := hG a ha
  have g2 := hG b hb
  have g3 := hG c hc
  obtain ⟨f1, a1, a2⟩ := s_lay h (M := fun _ _ => (R 0 0)) (a := G a) (r := 0) (w := 3) (fr := fr) (fun i j hi => by omega) g1.2 (by omega) (by omega)
  obtain ⟨f2, b1, b2⟩ := s_lay h (a := G b) (r := 0 + 1) (w := 3) a2 g2.2 (by omega) (by omega)
  obtain ⟨f3, c1, c2⟩ := s_lay h (a := G c) (r := 0 + 1 + 1) (w := 3) b2 g3.2 (by omega) (by omega)
  obtain ⟨f4, d1, -⟩ := s_reduce hP hB (M := fun i => R (G (if i = 0 then a else if i = 1 then b else c))) (h := 3) (w := 3) (u := 3) (fr := f3) (fok_congr c2 (fun i j hi hj => by
    (try dsimp only)
    rcases (show i = 0 ∨ i = 1 ∨ i = 2 by omega) with rfl | rfl | rfl <;> rfl)) (by omega) (by omega) (by omega)
  refine ⟨f4, ?_⟩
  simp only [Nat.zero_add, Nat.reduceAdd] at b1 c1
  unfold m_rankOfThree
  simp (disch := omega) only [↓Option.bind_some, ↓Option.elim_some, ↓Option.elim_none, Option.bind_some, Option.elim_some, Option.elim_none, Option.some.injEq, Sum.inl.injEq, Sum.inr.injEq, ↓reduceIte, m_side, lit_nI, lz_I, nI_add, pk_mul, pk_sub, nI_ge, nI_le, nI_lt, nI_nlt, gi_t, nI_clamp, nI_eq, pk_rem, Nat.zero_add, Nat.reduceAdd, Nat.reduceMul, Nat.reduceSub, Nat.reduceMod, Nat.reduceEqDiff, reduceCtorEq, Nat.one_ne_zero, Nat.zero_ne_one, g1.1, g2.1, g3.1, a1, b1, c1, d1]
theorem s_rankOf [NeZero P] (hP : 2 < P) (hB : P < 2 ^ 31) {rows fr : Nat → Int64} {R : Nat → Nat → Fin P} {cc : Nat} (h : rK cc rows R) {a b c e d : Nat} (ha : a < cc) (hb : b < cc) (hc : c < cc) (he : e < cc) (hd : d = 2 ∨ d = 3) : ∃ fr', m_rankOf (nI d) (lN P) rows fr (nI a) (nI b) (nI c) (nI e) = some (nI (gj 4 (fun i => R (if i = 0 then a else if i = 1 then b else if i = 2 then c else e)) (d + 1)).1, fr') := by
  have h60 := h.1
  obtain ⟨f1, a1, a2⟩ := s_lay h (M := fun _ _ => (R 0 0)) (a := a) (r := 0) (w := d + 1) (fr := fr) (fun i j hi => by omega) ha (by omega) (by omega)
  obtain ⟨f2, b1, b2⟩ := s_lay h (a := b) (r := 0 + 1) (w := d + 1) a2 hb (by omega) (by omega)
  obtain ⟨f3, c1, c2⟩ := s_lay h (a := c) (r := 0 + 1 + 1) (w := d + 1) b2 hc (by omega) (by omega)
  obtain ⟨f4, d1, d2⟩ := s_lay h (a := e) (r := 0 + 1 + 1 + 1) (w := d + 1) c2 he (by omega) (by omega)
  obtain ⟨f5, e1, -⟩ := s_reduce hP hB (M := fun i => R (if i = 0 then a else if i = 1 then b else if i = 2 then c else e)) (h := 4) (w := d + 1) (u := d + 1) (fr := f4) (fok_congr d2 (fun i j hi hj => by
    (try dsimp only)
    rcases (show i = 0 ∨ i = 1 ∨ i = 2 ∨ i = 3 by omega) with rfl | rfl | rfl | rfl <;> rfl)) (by omega) (by omega) (by omega)
  refine ⟨f5, ?_⟩
  simp only [Nat.zero_add, Nat.reduceAdd] at b1 c1 d1
  unfold m_rankOf
  simp (disch := omega) only [↓Option.bind_some, ↓Option.elim_some, ↓Option.elim_none, Option.bind_some, Option.elim_some, Option.elim_none, Option.some.injEq, Sum.inl.injEq, Sum.inr.injEq, ↓reduceIte, m_side, lit_nI, lz_I, nI_add, pk_mul, pk_sub, nI_ge, nI_le, nI_lt, nI_nlt, gi_t, nI_clamp, nI_eq, pk_rem, Nat.zero_add, Nat.reduceAdd, Nat.reduceMul, Nat.reduceSub, Nat.reduceMod, Nat.reduceEqDiff, reduceCtorEq, Nat.one_ne_zero, Nat.zero_ne_one, a1, b1, c1, d1, e1]
/-- the three lines of points across -/
def acM [NeZero P] (X : Nat → Nat → Fin P) : Mx P := fun i => cr3 (X i) (X (i + 3))
theorem s_areThree [NeZero P] (hP : 2 < P) (hB : P < 2 ^ 31) {rows fr one two tu : Nat → Int64} {R : Nat → Nat → Fin P} {cc : Nat} (h : rK cc rows R) {ga : Nat → Int32} {G : Nat → Nat} (hG : pK cc ga G 6) : ∃ q f o t u, m_areThree (lN P) rows ga fr one two tu = some (q, f, o, t, u) ∧ (((∀ r, r < 3 → G r ≠ G (r + 3)) ∧ (gj 3 (acM (fun k => R (G k))) 3).1 < 3) → q = nI 1) ∧ (¬ ((∀ r, r < 3 → G r ≠ G (r + 3)) ∧ (gj 3 (acM (fun k => R (G k))) 3).1 < 3) → q = nI 0) := by
  have h60 := h.1
  by_cases hall : ∀ r, r < 3 → G r ≠ G (r + 3)
  · have key := it_inv (f := m_areThree_L2 (lN P) rows ga fr) (fun k s => s.1 = nI k ∧ ∀ i j, i < k → j < 3 → s.2.2.2 (3 * i + j) = fL (acM (fun k => R (G k)) i j)) 3 (fun z => ∃ o t u, z = .inl (o, t, u) ∧ vo u 9 (fun m => acM (fun k => R (G k)) (m / 3) (m % 3))) ?_ ?_ (nI 0, one, two, tu) ⟨rfl, fun i j hi => by omega⟩
    · obtain ⟨z, k1, o, t, u, k2, k3⟩ := key
      subst k2
      obtain ⟨f1, a1, a2⟩ := s_nine k3 m_areThree_L58 (Or.inl rfl) fr
      obtain ⟨f2, b1, -⟩ := s_reduce hP hB (M := acM (fun k => R (G k))) (h := 3) (w := 3) (u := 3) (fr := f1) (fok_congr a2 (fun i j hi hj => by
        unfold t9M
        (try dsimp only)
        rw [show (3 * i + j) / 3 = i by omega, show (3 * i + j) % 3 = j by omega])) (by omega) (by omega) (by omega)
      have hle := (gj_le 3 (acM (fun k => R (G k))) 3).1
      by_cases e : (gj 3 (acM (fun k => R (G k))) 3).1 < 3
      · refine ⟨nI 1, f2, o, t, u, ?_, fun _ => rfl, fun q => absurd ⟨hall, e⟩ q⟩
        unfold m_areThree
        simp (disch := omega) only [↓Option.bind_some, ↓Option.elim_some, ↓Option.elim_none, Option.bind_some, Option.elim_some, Option.elim_none, Option.some.injEq, Sum.inl.injEq, Sum.inr.injEq, ↓reduceIte, m_side, lit_nI, lz_I, nI_add, pk_mul, pk_sub, nI_ge, nI_le, nI_lt, nI_nlt, gi_t, nI_clamp, nI_eq, pk_rem, Nat.zero_add, Nat.reduceAdd, Nat.reduceMul, Nat.reduceSub, Nat.reduceMod, Nat.reduceEqDiff, reduceCtorEq, Nat.one_ne_zero, Nat.zero_ne_one, k1, a1, b1]
      · refine ⟨nI 0, f2, o, t, u, ?_, fun q => absurd q.2 e, fun _ => rfl⟩
        unfold m_areThree
        simp (disch := omega) only [↓Option.bind_some, ↓Option.elim_some, ↓Option.elim_none, Option.bind_some, Option.elim_some, Option.elim_none, Option.some.injEq, Sum.inl.injEq, Sum.inr.injEq, ↓reduceIte, m_side, lit_nI, lz_I, nI_add, pk_mul, pk_sub, nI_ge, nI_le, nI_lt, nI_nlt, gi_t, nI_clamp, nI_eq, pk_rem, Nat.zero_add, Nat.reduceAdd, Nat.reduceMul, Nat.reduceSub, Nat.reduceMod, Nat.reduceEqDiff, reduceCtorEq, Nat.one_ne_zero, Nat.zero_ne_one, k1, a1, b1]
    · rintro k ⟨k', o, t, u⟩ hk ⟨e1, h1⟩
      dsimp only at e1 h1
      subst e1
      obtain ⟨r1, o1, t1, a1, -, a3⟩ := s_isLine hP hB h (one := o) (two := t) hG (a := k) (b := k + 3) (by omega) (by omega) (f := 1) (by omega)
      obtain ⟨z1, z2, -⟩ := a3 (hall k hk)
      subst z1
      obtain ⟨z3, z4⟩ := z2 rfl
      have key2 := loop1 (f := m_areThree_L23 o1 (nI k)) (d := u) (N := 3) (fun j => 3 * k + j) (fun i j _ _ e => by omega) (acM (fun k => R (G k)) k) ?_ ?_
      · obtain ⟨u1, g1, g2, g3⟩ := key2
        refine ⟨(nI (k + 1), o1, t1, u1), ?_, rfl, fun i j hi hj => ?_⟩
        · unfold m_areThree_L2
          simp (disch := omega) only [↓Option.bind_some, ↓Option.elim_some, ↓Option.elim_none, Option.bind_some, Option.elim_some, Option.elim_none, Option.some.injEq, Sum.inl.injEq, Sum.inr.injEq, ↓reduceIte, m_side, lit_nI, lz_I, nI_add, pk_mul, pk_sub, nI_ge, nI_le, nI_lt, nI_nlt, gi_t, nI_clamp, nI_eq, pk_rem, Nat.zero_add, Nat.reduceAdd, Nat.reduceMul, Nat.reduceSub, Nat.reduceMod, Nat.reduceEqDiff, reduceCtorEq, Nat.one_ne_zero, Nat.zero_ne_one, a1, g1]
        · (try dsimp only)
          by_cases e : i = k
          · rw [e]
            exact g2 j hj
          · rw [g3 _ (fun j' hj' => by omega)]
            exact h1 i j (by omega) hj
      · intro j d1 hj _ _
        refine ⟨vp_updL d1 (3 * k + j) (fL (acM (fun k => R (G k)) k j)), ?_, pk_uLs, fun m hm => pk_uLn hm⟩
        have x1 : o1 j = fL (acM (fun k => R (G k)) k j) := z3 j hj
        unfold m_areThree_L23
        simp (disch := omega) only [↓Option.bind_some, ↓Option.elim_some, ↓Option.elim_none, Option.bind_some, Option.elim_some, Option.elim_none, Option.some.injEq, Sum.inl.injEq, Sum.inr.injEq, ↓reduceIte, m_side, lit_nI, lz_I, nI_add, pk_mul, pk_sub, nI_ge, nI_le, nI_lt, nI_nlt, gi_t, nI_clamp, nI_eq, pk_rem, Nat.zero_add, Nat.reduceAdd, Nat.reduceMul, Nat.reduceSub, Nat.reduceMod, Nat.reduceEqDiff, reduceCtorEq, Nat.one_ne_zero, Nat.zero_ne_one, x1]
      · intro d1
        unfold m_areThree_L23
        simp (disch := omega) only [↓Option.bind_some, ↓Option.elim_some, ↓Option.elim_none, Option.bind_some, Option.elim_some, Option.elim_none, Option.some.injEq, Sum.inl.injEq, Sum.inr.injEq, ↓reduceIte, m_side, lit_nI, lz_I, nI_add, pk_mul, pk_sub, nI_ge, nI_le, nI_lt, nI_nlt, gi_t, nI_clamp, nI_eq, pk_rem, Nat.zero_add, Nat.reduceAdd, Nat.reduceMul, Nat.reduceSub, Nat.reduceMod, Nat.reduceEqDiff, reduceCtorEq, Nat.one_ne_zero, Nat.zero_ne_one]
    · rintro ⟨k', o, t, u⟩ ⟨e1, h1⟩
      dsimp only at e1 h1
      subst e1
      refine ⟨.inl (o, t, u), ?_, o, t, u, rfl, fun m hm => ?_⟩
      · unfold m_areThree_L2
        simp (disch := omega) only [↓Option.bind_some, ↓Option.elim_some, ↓Option.elim_none, Option.bind_some, Option.elim_some, Option.elim_none, Option.some.injEq, Sum.inl.injEq, Sum.inr.injEq, ↓reduceIte, m_side, lit_nI, lz_I, nI_add, pk_mul, pk_sub, nI_ge, nI_le, nI_lt, nI_nlt, gi_t, nI_clamp, nI_eq, pk_rem, Nat.zero_add, Nat.reduceAdd, Nat.reduceMul, Nat.reduceSub, Nat.reduceMod, Nat.reduceEqDiff, reduceCtorEq, Nat.one_ne_zero, Nat.zero_ne_one]
      · have := h1 (m / 3) (m % 3) (by omega) (by omega)
        rw [show 3 * (m / 3) + m % 3 = m by omega] at this
        exact this
  · have hex : ∃ r, r < 3 ∧ G r = G (r + 3) ∧ ∀ i, i < r → G i ≠ G (i + 3) := by
      by_cases c0 : G 0 = G (0 + 3)
      · exact ⟨0, by omega, c0, fun i hi => by omega⟩
      by_cases c1 : G 1 = G (1 + 3)
      · exact ⟨1, by omega, c1, fun i hi => by rw [show i = 0 by omega]; exact c0⟩
      by_cases c2 : G 2 = G (2 + 3)
      · refine ⟨2, by omega, c2, fun i hi => ?_⟩
        rcases (show i = 0 ∨ i = 1 by omega) with rfl | rfl
        · exact c0
        · exact c1
      exfalso
      apply hall
      intro r hr
      rcases (show r = 0 ∨ r = 1 ∨ r = 2 by omega) with rfl | rfl | rfl
      · exact c0
      · exact c1
      · exact c2
    obtain ⟨r, hr, er, hmin⟩ := hex
    have key : ∀ n k o t u, k + n = r → ∃ f' o' t' u', itX (m_areThree_L2 (lN P) rows ga fr) (nI k, o, t, u) = some (.inr (nI 0, f', o', t', u')) := by
      intro n
      induction n with
      | zero =>
        intro k o t u e
        have e2 : k = r := by omega
        subst e2
        obtain ⟨r1, o1, t1, a1, a2, -⟩ := s_isLine hP hB h (one := o) (two := t) hG (a := k) (b := k + 3) (by omega) (by omega) (f := 1) (by omega)
        have := a2 er
        subst this
        refine ⟨fr, o1, t1, u, ?_⟩
        apply itX_stop
        unfold m_areThree_L2
        simp (disch := omega) only [↓Option.bind_some, ↓Option.elim_some, ↓Option.elim_none, Option.bind_some, Option.elim_some, Option.elim_none, Option.some.injEq, Sum.inl.injEq, Sum.inr.injEq, ↓reduceIte, m_side, lit_nI, lz_I, nI_add, pk_mul, pk_sub, nI_ge, nI_le, nI_lt, nI_nlt, gi_t, nI_clamp, nI_eq, pk_rem, Nat.zero_add, Nat.reduceAdd, Nat.reduceMul, Nat.reduceSub, Nat.reduceMod, Nat.reduceEqDiff, reduceCtorEq, Nat.one_ne_zero, Nat.zero_ne_one, a1]
      | succ n ih =>
        intro k o t u e
        obtain ⟨r1, o1, t1, a1, -, a3⟩ := s_isLine hP hB h (one := o) (two := t) hG (a := k) (b := k + 3) (by omega) (by omega) (f := 1) (by omega)
        obtain ⟨z1, z2, -⟩ := a3 (hmin k (by omega))
        subst z1
        obtain ⟨z3, z4⟩ := z2 rfl
        have key2 := loop1 (f := m_areThree_L23 o1 (nI k)) (d := u) (N := 3) (fun j => 3 * k + j) (fun i j _ _ e => by omega) (acM (fun k => R (G k)) k) ?_ ?_
        · obtain ⟨u1, g1, -, -⟩ := key2
          obtain ⟨f', o', t', u', m1⟩ := ih (k + 1) o1 t1 u1 (by omega)
          refine ⟨f', o', t', u', ?_⟩
          rw [itX_step (s' := (nI (k + 1), o1, t1, u1)), m1]
          unfold m_areThree_L2
          simp (disch := omega) only [↓Option.bind_some, ↓Option.elim_some, ↓Option.elim_none, Option.bind_some, Option.elim_some, Option.elim_none, Option.some.injEq, Sum.inl.injEq, Sum.inr.injEq, ↓reduceIte, m_side, lit_nI, lz_I, nI_add, pk_mul, pk_sub, nI_ge, nI_le, nI_lt, nI_nlt, gi_t, nI_clamp, nI_eq, pk_rem, Nat.zero_add, Nat.reduceAdd, Nat.reduceMul, Nat.reduceSub, Nat.reduceMod, Nat.reduceEqDiff, reduceCtorEq, Nat.one_ne_zero, Nat.zero_ne_one, a1, g1]
        · intro j d1 hj _ _
          refine ⟨vp_updL d1 (3 * k + j) (fL (acM (fun k => R (G k)) k j)), ?_, pk_uLs, fun m hm => pk_uLn hm⟩
          have x1 : o1 j = fL (acM (fun k => R (G k)) k j) := z3 j hj
          unfold m_areThree_L23
          simp (disch := omega) only [↓Option.bind_some, ↓Option.elim_some, ↓Option.elim_none, Option.bind_some, Option.elim_some, Option.elim_none, Option.some.injEq, Sum.inl.injEq, Sum.inr.injEq, ↓reduceIte, m_side, lit_nI, lz_I, nI_add, pk_mul, pk_sub, nI_ge, nI_le, nI_lt, nI_nlt, gi_t, nI_clamp, nI_eq, pk_rem, Nat.zero_add, Nat.reduceAdd, Nat.reduceMul, Nat.reduceSub, Nat.reduceMod, Nat.reduceEqDiff, reduceCtorEq, Nat.one_ne_zero, Nat.zero_ne_one, x1]
        · intro d1
          unfold m_areThree_L23
          simp (disch := omega) only [↓Option.bind_some, ↓Option.elim_some, ↓Option.elim_none, Option.bind_some, Option.elim_some, Option.elim_none, Option.some.injEq, Sum.inl.injEq, Sum.inr.injEq, ↓reduceIte, m_side, lit_nI, lz_I, nI_add, pk_mul, pk_sub, nI_ge, nI_le, nI_lt, nI_nlt, gi_t, nI_clamp, nI_eq, pk_rem, Nat.zero_add, Nat.reduceAdd, Nat.reduceMul, Nat.reduceSub, Nat.reduceMod, Nat.reduceEqDiff, reduceCtorEq, Nat.one_ne_zero, Nat.zero_ne_one]
    obtain ⟨f', o', t', u', m1⟩ := key r 0 one two tu (by omega)
    refine ⟨nI 0, f', o', t', u', ?_, fun q => absurd q.1 hall, fun _ => rfl⟩
    unfold m_areThree
    simp (disch := omega) only [↓Option.bind_some, ↓Option.elim_some, ↓Option.elim_none, Option.bind_some, Option.elim_some, Option.elim_none, Option.some.injEq, Sum.inl.injEq, Sum.inr.injEq, ↓reduceIte, m_side, lit_nI, lz_I, nI_add, pk_mul, pk_sub, nI_ge, nI_le, nI_lt, nI_nlt, gi_t, nI_clamp, nI_eq, pk_rem, Nat.zero_add, Nat.reduceAdd, Nat.reduceMul, Nat.reduceSub, Nat.reduceMod, Nat.reduceEqDiff, reduceCtorEq, Nat.one_ne_zero, Nat.zero_ne_one, m1]
/-- the reference's map, behind the points -/
theorem s_mapM [NeZero P] (hP : 2 < P) (hB : P < 2 ^ 31) {fr draft one two : Nat → Int64} {d : Nat} (hd : d = 2 ∨ d = 3) {A B : Nat → Fin P} (hA : vo one ((d + 1) * (d + 1)) A) (hT : vo two ((d + 1) * (d + 1)) B) (hz : vo draft 16 (fun _ => (0 : Fin P))) : ∃ f1 f2 r d', itX (m_map_L43 (nI d) one) (nI 0, fr) = some f1 ∧ m_reduce (lN P) f1 (nI (d + 1)) (nI (2 * (d + 1))) (nI (d + 1)) = some (r, f2) ∧ itX (m_map_L138 (nI d) (lN P) f2 two) (nI 0, draft) = some d' ∧ vo d' ((d + 1) * (d + 1)) (prF (d + 1) B (ivF (d + 1) A)) := by
  have hw : d + 1 = 3 ∨ d + 1 = 4 := by omega
  have key := loopG (f1 := m_map_L43 (nI d) one) (f2 := fun i => m_map_L53 (nI d) one (nI i)) (d := fr) (d + 1) (by omega) A ?_ ?_ ?_ ?_
  · obtain ⟨f1, g1, g2⟩ := key
    obtain ⟨f2, k1, k2⟩ := s_reduce hP hB (M := agM (d + 1) A) (h := d + 1) (w := 2 * (d + 1)) (u := d + 1) (fr := f1) g2 (by omega) (by omega) (by omega)
    have key2 := loop3 (f1 := m_map_L138 (nI d) (lN P) f2 two) (f2 := fun i => m_map_L148 (nI d) (lN P) f2 two (nI i)) (f3 := fun i j => m_map_L158 (nI d) (lN P) f2 two (nI i) (nI j)) (d := draft) (d + 1) hw (fun m hm => hz m (by rcases hd with rfl | rfl <;> omega)) (fun i j k => B (i * (d + 1) + k) * (gj (d + 1) (agM (d + 1) A) (d + 1)).2 k ((d + 1) + j)) ?_ ?_ ?_ ?_ ?_ ?_
    · obtain ⟨d', l1, l2⟩ := key2
      refine ⟨f1, f2, _, d', g1, k1, l1, vo_congr l2 (fun m hm => ?_)⟩
      unfold prF ivF
      (try dsimp only)
      refine sF_congr _ (fun k hk => ?_)
      have hm2 : m % (d + 1) < d + 1 := Nat.mod_lt _ (by omega)
      rw [show (k * (d + 1) + m % (d + 1)) / (d + 1) = k by rw [Nat.mul_comm, Nat.mul_add_div (by omega), Nat.div_eq_of_lt hm2, Nat.add_zero], show (k * (d + 1) + m % (d + 1)) % (d + 1) = m % (d + 1) by rw [Nat.mul_comm, Nat.mul_add_mod]; exact Nat.mod_eq_of_lt hm2]
    · intro i d1 hi
      unfold m_map_L138
      simp (disch := omega) only [↓Option.bind_some, ↓Option.elim_some, ↓Option.elim_none, Option.bind_some, Option.elim_some, Option.elim_none, Option.some.injEq, Sum.inl.injEq, Sum.inr.injEq, ↓reduceIte, m_side, lit_nI, lz_I, nI_add, pk_mul, pk_sub, nI_ge, nI_le, nI_lt, nI_nlt, gi_t, nI_clamp, nI_eq, pk_rem, Nat.zero_add, Nat.reduceAdd, Nat.reduceMul, Nat.reduceSub, Nat.reduceMod, Nat.reduceEqDiff, reduceCtorEq, Nat.one_ne_zero, Nat.zero_ne_one]
    · intro i j d1 hi hj
      unfold m_map_L148
      simp (disch := omega) only [↓Option.bind_some, ↓Option.elim_some, ↓Option.elim_none, Option.bind_some, Option.elim_some, Option.elim_none, Option.some.injEq, Sum.inl.injEq, Sum.inr.injEq, ↓reduceIte, m_side, lit_nI, lz_I, nI_add, pk_mul, pk_sub, nI_ge, nI_le, nI_lt, nI_nlt, gi_t, nI_clamp, nI_eq, pk_rem, Nat.zero_add, Nat.reduceAdd, Nat.reduceMul, Nat.reduceSub, Nat.reduceMod, Nat.reduceEqDiff, reduceCtorEq, Nat.one_ne_zero, Nat.zero_ne_one]
    · intro i j k d1 c hi hj hk hc
      have n1 := sq_vo hT hi hk
      have n2 := k2 k ((d + 1) + j) hk (by omega)
      unfold m_map_L158
      rcases hd with rfl | rfl <;> simp (disch := omega) only [↓Option.bind_some, ↓Option.elim_some, ↓Option.elim_none, Option.bind_some, Option.elim_some, Option.elim_none, Option.some.injEq, Sum.inl.injEq, Sum.inr.injEq, ↓reduceIte, m_side, lit_nI, lz_I, nI_add, pk_mul, pk_sub, nI_ge, nI_le, nI_lt, nI_nlt, gi_t, nI_clamp, nI_eq, pk_rem, Nat.zero_add, Nat.reduceAdd, Nat.reduceMul, Nat.reduceSub, Nat.reduceMod, Nat.reduceEqDiff, reduceCtorEq, Nat.one_ne_zero, Nat.zero_ne_one, s_at f2, n1, n2, hc, s_times hP hB, s_less hP hB, s_over hP hB, n_plus hP hB, lz64 (P := P), lo64 (P := P) hP, lPz hP hB]
    · intro i j d1 hi hj
      unfold m_map_L158
      simp (disch := omega) only [↓Option.bind_some, ↓Option.elim_some, ↓Option.elim_none, Option.bind_some, Option.elim_some, Option.elim_none, Option.some.injEq, Sum.inl.injEq, Sum.inr.injEq, ↓reduceIte, m_side, lit_nI, lz_I, nI_add, pk_mul, pk_sub, nI_ge, nI_le, nI_lt, nI_nlt, gi_t, nI_clamp, nI_eq, pk_rem, Nat.zero_add, Nat.reduceAdd, Nat.reduceMul, Nat.reduceSub, Nat.reduceMod, Nat.reduceEqDiff, reduceCtorEq, Nat.one_ne_zero, Nat.zero_ne_one]
    · intro i d1 hi
      unfold m_map_L148
      simp (disch := omega) only [↓Option.bind_some, ↓Option.elim_some, ↓Option.elim_none, Option.bind_some, Option.elim_some, Option.elim_none, Option.some.injEq, Sum.inl.injEq, Sum.inr.injEq, ↓reduceIte, m_side, lit_nI, lz_I, nI_add, pk_mul, pk_sub, nI_ge, nI_le, nI_lt, nI_nlt, gi_t, nI_clamp, nI_eq, pk_rem, Nat.zero_add, Nat.reduceAdd, Nat.reduceMul, Nat.reduceSub, Nat.reduceMod, Nat.reduceEqDiff, reduceCtorEq, Nat.one_ne_zero, Nat.zero_ne_one]
    · intro d1
      unfold m_map_L138
      simp (disch := omega) only [↓Option.bind_some, ↓Option.elim_some, ↓Option.elim_none, Option.bind_some, Option.elim_some, Option.elim_none, Option.some.injEq, Sum.inl.injEq, Sum.inr.injEq, ↓reduceIte, m_side, lit_nI, lz_I, nI_add, pk_mul, pk_sub, nI_ge, nI_le, nI_lt, nI_nlt, gi_t, nI_clamp, nI_eq, pk_rem, Nat.zero_add, Nat.reduceAdd, Nat.reduceMul, Nat.reduceSub, Nat.reduceMod, Nat.reduceEqDiff, reduceCtorEq, Nat.one_ne_zero, Nat.zero_ne_one]
  · intro i d1 hi
    unfold m_map_L43
    simp (disch := omega) only [↓Option.bind_some, ↓Option.elim_some, ↓Option.elim_none, Option.bind_some, Option.elim_some, Option.elim_none, Option.some.injEq, Sum.inl.injEq, Sum.inr.injEq, ↓reduceIte, m_side, lit_nI, lz_I, nI_add, pk_mul, pk_sub, nI_ge, nI_le, nI_lt, nI_nlt, gi_t, nI_clamp, nI_eq, pk_rem, Nat.zero_add, Nat.reduceAdd, Nat.reduceMul, Nat.reduceSub, Nat.reduceMod, Nat.reduceEqDiff, reduceCtorEq, Nat.one_ne_zero, Nat.zero_ne_one]
  · intro i j d1 hi hj
    have n1 := sq_vo hA hi hj
    unfold m_map_L53
    by_cases e : i = j
    · subst e
      rw [if_pos rfl]
      rcases hd with rfl | rfl <;> simp (disch := omega) only [↓Option.bind_some, ↓Option.elim_some, ↓Option.elim_none, Option.bind_some, Option.elim_some, Option.elim_none, Option.some.injEq, Sum.inl.injEq, Sum.inr.injEq, ↓reduceIte, m_side, lit_nI, lz_I, nI_add, pk_mul, pk_sub, nI_ge, nI_le, nI_lt, nI_nlt, gi_t, nI_clamp, nI_eq, pk_rem, Nat.zero_add, Nat.reduceAdd, Nat.reduceMul, Nat.reduceSub, Nat.reduceMod, Nat.reduceEqDiff, reduceCtorEq, Nat.one_ne_zero, Nat.zero_ne_one, n1, s_set, lo64 (P := P) hP]
    · rw [if_neg e]
      rcases hd with rfl | rfl <;> simp (disch := omega) only [↓Option.bind_some, ↓Option.elim_some, ↓Option.elim_none, Option.bind_some, Option.elim_some, Option.elim_none, Option.some.injEq, Sum.inl.injEq, Sum.inr.injEq, ↓reduceIte, m_side, lit_nI, lz_I, nI_add, pk_mul, pk_sub, nI_ge, nI_le, nI_lt, nI_nlt, gi_t, nI_clamp, nI_eq, pk_rem, Nat.zero_add, Nat.reduceAdd, Nat.reduceMul, Nat.reduceSub, Nat.reduceMod, Nat.reduceEqDiff, reduceCtorEq, Nat.one_ne_zero, Nat.zero_ne_one, n1, s_set, e, lz64 (P := P)]
  · intro i d1 hi
    unfold m_map_L53
    simp (disch := omega) only [↓Option.bind_some, ↓Option.elim_some, ↓Option.elim_none, Option.bind_some, Option.elim_some, Option.elim_none, Option.some.injEq, Sum.inl.injEq, Sum.inr.injEq, ↓reduceIte, m_side, lit_nI, lz_I, nI_add, pk_mul, pk_sub, nI_ge, nI_le, nI_lt, nI_nlt, gi_t, nI_clamp, nI_eq, pk_rem, Nat.zero_add, Nat.reduceAdd, Nat.reduceMul, Nat.reduceSub, Nat.reduceMod, Nat.reduceEqDiff, reduceCtorEq, Nat.one_ne_zero, Nat.zero_ne_one]
  · intro d1
    unfold m_map_L43
    simp (disch := omega) only [↓Option.bind_some, ↓Option.elim_some, ↓Option.elim_none, Option.bind_some, Option.elim_some, Option.elim_none, Option.some.injEq, Sum.inl.injEq, Sum.inr.injEq, ↓reduceIte, m_side, lit_nI, lz_I, nI_add, pk_mul, pk_sub, nI_ge, nI_le, nI_lt, nI_nlt, gi_t, nI_clamp, nI_eq, pk_rem, Nat.zero_add, Nat.reduceAdd, Nat.reduceMul, Nat.reduceSub, Nat.reduceMod, Nat.reduceEqDiff, reduceCtorEq, Nat.one_ne_zero, Nat.zero_ne_one]
end MHOLDB
