section MADE
variable {P : Nat}
/-- the first place from r on, at most n further, where p holds -/
def sr (p : Nat → Bool) : Nat → Nat → Nat
  | 0, r => r
  | n + 1, r => if p r = true then r else sr p n (r + 1)
theorem sr_le (p : Nat → Bool) : ∀ n r, r ≤ sr p n r ∧ sr p n r ≤ r + n
  | 0, r => by simp [sr]
  | n + 1, r => by
    have := sr_le p n (r + 1)
    unfold sr
    split <;> omega
theorem sr_t (p : Nat → Bool) : ∀ n r, sr p n r < r + n → p (sr p n r) = true
  | 0, r, h => by
    unfold sr at h
    omega
  | n + 1, r, h => by
    unfold sr at h ⊢
    by_cases e : p r = true
    · rw [if_pos e]
      exact e
    · rw [if_neg e] at h ⊢
      exact sr_t p n (r + 1) (by omega)
theorem sr_f (p : Nat → Bool) : ∀ n r i, r ≤ i → i < sr p n r → p i = false
  | 0, r, i, h1, h2 => by
    unfold sr at h2
    omega
  | n + 1, r, i, h1, h2 => by
    unfold sr at h2
    by_cases e : p r = true
    · rw [if_pos e] at h2
      omega
    · rw [if_neg e] at h2
      by_cases e2 : i = r
      · rw [e2]
        simpa using e
      · exact sr_f p n (r + 1) i (by omega) h2
/-- object a is of sort t and has the row y -/
def mtc (W t : Nat) (y : Nat → Fin P) (S : Nat → Nat) (R : Nat → Nat → Fin P) (a : Nat) : Bool := decide (S a = t ∧ ∀ k, k < W → R a k = y k)
/-- the shelf behind a new row -/
def plc [NeZero P] (W t : Nat) (y : Nat → Fin P) (c : Nat) (S : Nat → Nat) (R : Nat → Nat → Fin P) : Int32 × Nat × (Nat → Nat) × (Nat → Nat → Fin P) :=
  if sr (mtc W t y S R) c 0 < c then (nI (sr (mtc W t y S R) c 0), c, S, R) else if c = 60 then (-3, c, S, R) else (nI c, c + 1, fun b => if b = c then t else S b, fun b k => if b = c then (if k < W then y k else 0) else R b k)
def sK (sorts : Nat → Int32) (S : Nat → Nat) (c : Nat) : Prop := ∀ a, a < c → sorts a = nI (S a) ∧ S a < 5
theorem s_scale [NeZero P] (hP : 2 < P) (hB : P < 2 ^ 31) {draft : Nat → Int64} {d t : Nat} (hd : d = 2 ∨ d = 3) (ht : t < 5) {x : Nat → Fin P} (h : vo draft (wd d t) x) (hx : ldV x (wd d t) < wd d t) : ∃ d', m_scale (nI d) (lN P) draft (nI t) = some d' ∧ vo d' (wd d t) (nmV x (wd d t)) := by
  have hw := (wd_le (t := t) hd).1
  have k1 : ∀ n r, r + n = wd d t → fst0 (fun i _ => x i) 0 n r < wd d t → itX (m_scale_L2 draft) (nI r) = some (nI (fst0 (fun i _ => x i) 0 n r)) := by
    intro n
    induction n with
    | zero =>
      intro r e q
      unfold fst0 at q
      omega
    | succ n ih =>
      intro r e q
      unfold fst0 at q ⊢
      by_cases z : x r = 0
      · rw [if_pos z] at q ⊢
        rw [itX_step (s' := nI (r + 1)), ih (r + 1) (by omega) q]
        unfold m_scale_L2
        simp (disch := omega) only [↓Option.bind_some, ↓Option.elim_some, ↓Option.elim_none, Option.bind_some, Option.elim_some, Option.elim_none, Option.some.injEq, Sum.inl.injEq, Sum.inr.injEq, ↓reduceIte, m_side, lit_nI, lz_I, nI_add, pk_mul, pk_sub, nI_ge, nI_le, nI_lt, nI_nlt, gi_t, nI_clamp, nI_eq, pk_rem, Nat.zero_add, Nat.reduceAdd, Nat.reduceMul, Nat.reduceSub, Nat.reduceMod, Nat.reduceEqDiff, reduceCtorEq, Nat.one_ne_zero, Nat.zero_ne_one, h r (by omega), lz64 (P := P), fL_eq hB, z]
      · rw [if_neg z] at q ⊢
        apply itX_stop
        unfold m_scale_L2
        simp (disch := omega) only [↓Option.bind_some, ↓Option.elim_some, ↓Option.elim_none, Option.bind_some, Option.elim_some, Option.elim_none, Option.some.injEq, Sum.inl.injEq, Sum.inr.injEq, ↓reduceIte, m_side, lit_nI, lz_I, nI_add, pk_mul, pk_sub, nI_ge, nI_le, nI_lt, nI_nlt, gi_t, nI_clamp, nI_eq, pk_rem, Nat.zero_add, Nat.reduceAdd, Nat.reduceMul, Nat.reduceSub, Nat.reduceMod, Nat.reduceEqDiff, reduceCtorEq, Nat.one_ne_zero, Nat.zero_ne_one, h r (by omega), lz64 (P := P), fL_eq hB, z]
  have k0 := k1 (wd d t) 0 (by omega) hx
  have k2 := loopP (f := m_scale_L33 (nI d) (lN P) (nI t) (fL (fi (x (ldV x (wd d t)))))) (d := draft) (wd d t) (nmV x (wd d t)) ?_ ?_
  · obtain ⟨d', g1, g2, -⟩ := k2
    refine ⟨d', ?_, g2⟩
    unfold m_scale
    have e : fst0 (fun i _ => x i) 0 (wd d t) 0 = ldV x (wd d t) := rfl
    rw [e] at k0
    simp (disch := omega) only [↓Option.bind_some, ↓Option.elim_some, ↓Option.elim_none, Option.bind_some, Option.elim_some, Option.elim_none, Option.some.injEq, Sum.inl.injEq, Sum.inr.injEq, ↓reduceIte, m_side, lit_nI, lz_I, nI_add, pk_mul, pk_sub, nI_ge, nI_le, nI_lt, nI_nlt, gi_t, nI_clamp, nI_eq, pk_rem, Nat.zero_add, Nat.reduceAdd, Nat.reduceMul, Nat.reduceSub, Nat.reduceMod, Nat.reduceEqDiff, reduceCtorEq, Nat.one_ne_zero, Nat.zero_ne_one, k0, h _ hx, s_over hP hB, g1]
  · intro k d1 hk q
    unfold m_scale_L33
    simp (disch := omega) only [↓Option.bind_some, ↓Option.elim_some, ↓Option.elim_none, Option.bind_some, Option.elim_some, Option.elim_none, Option.some.injEq, Sum.inl.injEq, Sum.inr.injEq, ↓reduceIte, m_side, lit_nI, lz_I, nI_add, pk_mul, pk_sub, nI_ge, nI_le, nI_lt, nI_nlt, gi_t, nI_clamp, nI_eq, pk_rem, Nat.zero_add, Nat.reduceAdd, Nat.reduceMul, Nat.reduceSub, Nat.reduceMod, Nat.reduceEqDiff, reduceCtorEq, Nat.one_ne_zero, Nat.zero_ne_one, s_width hd ht, q k (Nat.le_refl k), h k hk, s_times hP hB]
    unfold nmV
    rw [if_pos hx]
  · intro d1
    unfold m_scale_L33
    simp (disch := omega) only [↓Option.bind_some, ↓Option.elim_some, ↓Option.elim_none, Option.bind_some, Option.elim_some, Option.elim_none, Option.some.injEq, Sum.inl.injEq, Sum.inr.injEq, ↓reduceIte, m_side, lit_nI, lz_I, nI_add, pk_mul, pk_sub, nI_ge, nI_le, nI_lt, nI_nlt, gi_t, nI_clamp, nI_eq, pk_rem, Nat.zero_add, Nat.reduceAdd, Nat.reduceMul, Nat.reduceSub, Nat.reduceMod, Nat.reduceEqDiff, reduceCtorEq, Nat.one_ne_zero, Nat.zero_ne_one, s_width hd ht]
theorem s_madeC [NeZero P] (hP : 2 < P) (hB : P < 2 ^ 31) {draft rows : Nat → Int64} {R : Nat → Nat → Fin P} {d t a : Nat} {cc : Nat} (hr : rK cc rows R) (ha : a < cc) (hd : d = 2 ∨ d = 3) (ht : t < 5) {y : Nat → Fin P} (h : vo draft (wd d t) y) : ((∀ k, k < wd d t → R a k = y k) → itX (m_made_L34 (nI d) rows draft (nI t) (nI a)) (nI 1, nI 0) = some (nI 1)) ∧ ((¬ ∀ k, k < wd d t → R a k = y k) → itX (m_made_L34 (nI d) rows draft (nI t) (nI a)) (nI 1, nI 0) = some (nI 0)) := by
  have h60 := hr.1
  have hw := (wd_le (t := t) hd).1
  have key : ∀ n r, r + n = wd d t → ((∀ k, r ≤ k → k < wd d t → R a k = y k) → itX (m_made_L34 (nI d) rows draft (nI t) (nI a)) (nI 1, nI r) = some (nI 1)) ∧ ((¬ ∀ k, r ≤ k → k < wd d t → R a k = y k) → itX (m_made_L34 (nI d) rows draft (nI t) (nI a)) (nI 1, nI r) = some (nI 0)) := by
    intro n
    induction n with
    | zero =>
      intro r e
      refine ⟨fun _ => ?_, fun q => absurd (fun k h1 h2 => by omega) q⟩
      apply itX_stop
      unfold m_made_L34
      simp (disch := omega) only [↓Option.bind_some, ↓Option.elim_some, ↓Option.elim_none, Option.bind_some, Option.elim_some, Option.elim_none, Option.some.injEq, Sum.inl.injEq, Sum.inr.injEq, ↓reduceIte, m_side, lit_nI, lz_I, nI_add, pk_mul, pk_sub, nI_ge, nI_le, nI_lt, nI_nlt, gi_t, nI_clamp, nI_eq, pk_rem, Nat.zero_add, Nat.reduceAdd, Nat.reduceMul, Nat.reduceSub, Nat.reduceMod, Nat.reduceEqDiff, reduceCtorEq, Nat.one_ne_zero, Nat.zero_ne_one, s_width hd ht]
    | succ n ih =>
      intro r e
      by_cases c : R a r = y r
      · have hs : itX (m_made_L34 (nI d) rows draft (nI t) (nI a)) (nI 1, nI r) = itX (m_made_L34 (nI d) rows draft (nI t) (nI a)) (nI 1, nI (r + 1)) := by
          apply itX_step
          unfold m_made_L34
          simp (disch := omega) only [↓Option.bind_some, ↓Option.elim_some, ↓Option.elim_none, Option.bind_some, Option.elim_some, Option.elim_none, Option.some.injEq, Sum.inl.injEq, Sum.inr.injEq, ↓reduceIte, m_side, lit_nI, lz_I, nI_add, pk_mul, pk_sub, nI_ge, nI_le, nI_lt, nI_nlt, gi_t, nI_clamp, nI_eq, pk_rem, Nat.zero_add, Nat.reduceAdd, Nat.reduceMul, Nat.reduceSub, Nat.reduceMod, Nat.reduceEqDiff, reduceCtorEq, Nat.one_ne_zero, Nat.zero_ne_one, s_width hd ht, s_of hr, h r (by omega), c]
        rw [hs]
        have ih2 := ih (r + 1) (by omega)
        refine ⟨fun q => ih2.1 (fun k h1 h2 => q k (by omega) h2), fun q => ih2.2 (fun z => q (fun k h1 h2 => ?_))⟩
        by_cases e2 : k = r
        · rw [e2]
          exact c
        · exact z k (by omega) h2
      · refine ⟨fun q => absurd (q r (Nat.le_refl r) (by omega)) c, fun _ => ?_⟩
        rw [itX_step (s' := (nI 0, nI (r + 1)))]
        · apply itX_stop
          unfold m_made_L34
          simp (disch := omega) only [↓Option.bind_some, ↓Option.elim_some, ↓Option.elim_none, Option.bind_some, Option.elim_some, Option.elim_none, Option.some.injEq, Sum.inl.injEq, Sum.inr.injEq, ↓reduceIte, m_side, lit_nI, lz_I, nI_add, pk_mul, pk_sub, nI_ge, nI_le, nI_lt, nI_nlt, gi_t, nI_clamp, nI_eq, pk_rem, Nat.zero_add, Nat.reduceAdd, Nat.reduceMul, Nat.reduceSub, Nat.reduceMod, Nat.reduceEqDiff, reduceCtorEq, Nat.one_ne_zero, Nat.zero_ne_one]
        · unfold m_made_L34
          simp (disch := omega) only [↓Option.bind_some, ↓Option.elim_some, ↓Option.elim_none, Option.bind_some, Option.elim_some, Option.elim_none, Option.some.injEq, Sum.inl.injEq, Sum.inr.injEq, ↓reduceIte, m_side, lit_nI, lz_I, nI_add, pk_mul, pk_sub, nI_ge, nI_le, nI_lt, nI_nlt, gi_t, nI_clamp, nI_eq, pk_rem, Nat.zero_add, Nat.reduceAdd, Nat.reduceMul, Nat.reduceSub, Nat.reduceMod, Nat.reduceEqDiff, reduceCtorEq, Nat.one_ne_zero, Nat.zero_ne_one, s_width hd ht, s_of hr, h r (by omega), fL_eq hB, c]
  have k0 := key (wd d t) 0 (by omega)
  exact ⟨fun q => k0.1 (fun k _ hk => q k hk), fun q => k0.2 (fun z => q (fun k hk => z k (Nat.zero_le _) hk))⟩
theorem s_made [NeZero P] (hP : 2 < P) (hB : P < 2 ^ 31) {draft rows : Nat → Int64} {sorts : Nat → Int32} {R : Nat → Nat → Fin P} {S : Nat → Nat} {d t c : Nat} (hr : rK c rows R) (hS : sK sorts S c) (hc : c ≤ 60) (hd : d = 2 ∨ d = 3) (ht : t < 5) {x : Nat → Fin P} (h : vo draft (wd d t) x) (hx : ldV x (wd d t) < wd d t) : ∃ sorts' rows' dr', m_made (nI d) (lN P) (nI c) sorts rows draft (nI t) = some ((plc (wd d t) t (nmV x (wd d t)) c S R).1, nI (plc (wd d t) t (nmV x (wd d t)) c S R).2.1, sorts', rows', dr') ∧ sK sorts' (plc (wd d t) t (nmV x (wd d t)) c S R).2.2.1 (plc (wd d t) t (nmV x (wd d t)) c S R).2.1 ∧ rK (plc (wd d t) t (nmV x (wd d t)) c S R).2.1 rows' (plc (wd d t) t (nmV x (wd d t)) c S R).2.2.2 := by
  have hw := (wd_le (t := t) hd).1
  obtain ⟨dr, e1, e2⟩ := s_scale hP hB hd ht h hx
  generalize nmV x (wd d t) = y at *
  have key : ∀ n r, r + n = c → (sr (mtc (wd d t) t y S R) n r < c → itX (m_made_L7 (nI d) (nI c) sorts rows dr (nI t)) (nI r) = some (.inr (nI (sr (mtc (wd d t) t y S R) n r), nI c, sorts, rows, dr))) ∧ (¬ sr (mtc (wd d t) t y S R) n r < c → itX (m_made_L7 (nI d) (nI c) sorts rows dr (nI t)) (nI r) = some (.inl ())) := by
    intro n
    induction n with
    | zero =>
      intro r e
      refine ⟨fun q => ?_, fun _ => ?_⟩
      · unfold sr at q
        omega
      · apply itX_stop
        unfold m_made_L7
        simp (disch := omega) only [↓Option.bind_some, ↓Option.elim_some, ↓Option.elim_none, Option.bind_some, Option.elim_some, Option.elim_none, Option.some.injEq, Sum.inl.injEq, Sum.inr.injEq, ↓reduceIte, m_side, lit_nI, lz_I, nI_add, pk_mul, pk_sub, nI_ge, nI_le, nI_lt, nI_nlt, gi_t, nI_clamp, nI_eq, pk_rem, Nat.zero_add, Nat.reduceAdd, Nat.reduceMul, Nat.reduceSub, Nat.reduceMod, Nat.reduceEqDiff, reduceCtorEq, Nat.one_ne_zero, Nat.zero_ne_one]
    | succ n ih =>
      intro r e
      have s1 := hS r (by omega)
      have cm := s_madeC hP hB hr (a := r) (by omega) hd ht e2
      have ih2 := ih (r + 1) (by omega)
      by_cases a1 : S r = t
      · by_cases a2 : ∀ k, k < wd d t → R r k = y k
        · have hm : mtc (wd d t) t y S R r = true := by
            unfold mtc
            exact decide_eq_true ⟨a1, a2⟩
          have hs : sr (mtc (wd d t) t y S R) (n + 1) r = r := by
            unfold sr
            rw [if_pos hm]
          rw [hs]
          refine ⟨fun _ => ?_, fun q => by omega⟩
          apply itX_stop
          unfold m_made_L7 m_made_L7J78
          simp (disch := omega) only [↓Option.bind_some, ↓Option.elim_some, ↓Option.elim_none, Option.bind_some, Option.elim_some, Option.elim_none, Option.some.injEq, Sum.inl.injEq, Sum.inr.injEq, ↓reduceIte, m_side, lit_nI, lz_I, nI_add, pk_mul, pk_sub, nI_ge, nI_le, nI_lt, nI_nlt, gi_t, nI_clamp, nI_eq, pk_rem, Nat.zero_add, Nat.reduceAdd, Nat.reduceMul, Nat.reduceSub, Nat.reduceMod, Nat.reduceEqDiff, reduceCtorEq, Nat.one_ne_zero, Nat.zero_ne_one, s1.1, a1, cm.1 a2]
        · have hm : ¬ mtc (wd d t) t y S R r = true := by
            unfold mtc
            rw [decide_eq_true_eq]
            exact fun q => a2 q.2
          have hs : sr (mtc (wd d t) t y S R) (n + 1) r = sr (mtc (wd d t) t y S R) n (r + 1) := by
            conv => lhs; unfold sr
            rw [if_neg hm]
          rw [hs, itX_step (s' := nI (r + 1))]
          · exact ih2
          · unfold m_made_L7 m_made_L7J78
            simp (disch := omega) only [↓Option.bind_some, ↓Option.elim_some, ↓Option.elim_none, Option.bind_some, Option.elim_some, Option.elim_none, Option.some.injEq, Sum.inl.injEq, Sum.inr.injEq, ↓reduceIte, m_side, lit_nI, lz_I, nI_add, pk_mul, pk_sub, nI_ge, nI_le, nI_lt, nI_nlt, gi_t, nI_clamp, nI_eq, pk_rem, Nat.zero_add, Nat.reduceAdd, Nat.reduceMul, Nat.reduceSub, Nat.reduceMod, Nat.reduceEqDiff, reduceCtorEq, Nat.one_ne_zero, Nat.zero_ne_one, s1.1, a1, cm.2 a2]
      · have hm : ¬ mtc (wd d t) t y S R r = true := by
          unfold mtc
          rw [decide_eq_true_eq]
          exact fun q => a1 q.1
        have hs : sr (mtc (wd d t) t y S R) (n + 1) r = sr (mtc (wd d t) t y S R) n (r + 1) := by
          conv => lhs; unfold sr
          rw [if_neg hm]
        have hz : itX (m_made_L34 (nI d) rows dr (nI t) (nI r)) (nI 0, nI 0) = some (nI 0) := by
          apply itX_stop
          unfold m_made_L34
          simp (disch := omega) only [↓Option.bind_some, ↓Option.elim_some, ↓Option.elim_none, Option.bind_some, Option.elim_some, Option.elim_none, Option.some.injEq, Sum.inl.injEq, Sum.inr.injEq, ↓reduceIte, m_side, lit_nI, lz_I, nI_add, pk_mul, pk_sub, nI_ge, nI_le, nI_lt, nI_nlt, gi_t, nI_clamp, nI_eq, pk_rem, Nat.zero_add, Nat.reduceAdd, Nat.reduceMul, Nat.reduceSub, Nat.reduceMod, Nat.reduceEqDiff, reduceCtorEq, Nat.one_ne_zero, Nat.zero_ne_one]
        rw [hs, itX_step (s' := nI (r + 1))]
        · exact ih2
        · have s5 := s1.2
          unfold m_made_L7 m_made_L7J78
          simp (disch := omega) only [↓Option.bind_some, ↓Option.elim_some, ↓Option.elim_none, Option.bind_some, Option.elim_some, Option.elim_none, Option.some.injEq, Sum.inl.injEq, Sum.inr.injEq, ↓reduceIte, m_side, lit_nI, lz_I, nI_add, pk_mul, pk_sub, nI_ge, nI_le, nI_lt, nI_nlt, gi_t, nI_clamp, nI_eq, pk_rem, Nat.zero_add, Nat.reduceAdd, Nat.reduceMul, Nat.reduceSub, Nat.reduceMod, Nat.reduceEqDiff, reduceCtorEq, Nat.one_ne_zero, Nat.zero_ne_one, s1.1, a1, hz]
  have k0 := key c 0 (by omega)
  unfold plc
  by_cases q1 : sr (mtc (wd d t) t y S R) c 0 < c
  · rw [if_pos q1]
    refine ⟨sorts, rows, dr, ?_, hS, hr⟩
    unfold m_made
    simp (disch := omega) only [↓Option.bind_some, ↓Option.elim_some, ↓Option.elim_none, Option.bind_some, Option.elim_some, Option.elim_none, Option.some.injEq, Sum.inl.injEq, Sum.inr.injEq, ↓reduceIte, m_side, lit_nI, lz_I, nI_add, pk_mul, pk_sub, nI_ge, nI_le, nI_lt, nI_nlt, gi_t, nI_clamp, nI_eq, pk_rem, Nat.zero_add, Nat.reduceAdd, Nat.reduceMul, Nat.reduceSub, Nat.reduceMod, Nat.reduceEqDiff, reduceCtorEq, Nat.one_ne_zero, Nat.zero_ne_one, e1, k0.1 q1]
  · rw [if_neg q1]
    by_cases q2 : c = 60
    · rw [if_pos q2]
      refine ⟨sorts, rows, dr, ?_, hS, hr⟩
      have k4 := k0.2 q1
      subst q2
      unfold m_made
      simp (disch := omega) only [↓Option.bind_some, ↓Option.elim_some, ↓Option.elim_none, Option.bind_some, Option.elim_some, Option.elim_none, Option.some.injEq, Sum.inl.injEq, Sum.inr.injEq, ↓reduceIte, m_side, lit_nI, lz_I, nI_add, pk_mul, pk_sub, nI_ge, nI_le, nI_lt, nI_nlt, gi_t, nI_clamp, nI_eq, pk_rem, Nat.zero_add, Nat.reduceAdd, Nat.reduceMul, Nat.reduceSub, Nat.reduceMod, Nat.reduceEqDiff, reduceCtorEq, Nat.one_ne_zero, Nat.zero_ne_one, e1, k4]
    · rw [if_neg q2]
      have k3 := loop1 (f := m_made_L114 (nI d) (nI c) dr (nI t)) (d := rows) (N := 16) (fun k => 16 * c + k) (fun i j _ _ e => by omega) (fun k => if k < wd d t then y k else 0) ?_ ?_
      · obtain ⟨rows', g1, g2, g3⟩ := k3
        refine ⟨upd sorts c (nI t), rows', dr, ?_, ?_, ?_⟩
        · unfold m_made
          simp (disch := omega) only [↓Option.bind_some, ↓Option.elim_some, ↓Option.elim_none, Option.bind_some, Option.elim_some, Option.elim_none, Option.some.injEq, Sum.inl.injEq, Sum.inr.injEq, ↓reduceIte, m_side, lit_nI, lz_I, nI_add, pk_mul, pk_sub, nI_ge, nI_le, nI_lt, nI_nlt, gi_t, nI_clamp, nI_eq, pk_rem, Nat.zero_add, Nat.reduceAdd, Nat.reduceMul, Nat.reduceSub, Nat.reduceMod, Nat.reduceEqDiff, reduceCtorEq, Nat.one_ne_zero, Nat.zero_ne_one, e1, k0.2 q1, q2, g1]
          rfl
        · intro a ha
          dsimp only at ha ⊢
          by_cases e : a = c
          · rw [if_pos e, e, pk_us]
            exact ⟨rfl, ht⟩
          · rw [if_neg e, pk_un e]
            exact hS a (by omega)
        · refine ⟨by (try dsimp only); omega, fun a k ha hk => ?_⟩
          dsimp only at ha
          dsimp only
          by_cases e : a = c
          · rw [if_pos e, e]
            exact g2 k hk
          · rw [if_neg e, g3 _ (fun i hi => by omega)]
            exact hr.2 a k (by omega) hk
      · intro k d1 hk _ _
        by_cases e : k < wd d t
        · refine ⟨vp_updL d1 (16 * c + k) (fL (y k)), ?_, by rw [pk_uLs, if_pos e], fun m hm => pk_uLn hm⟩
          unfold m_made_L114
          simp (disch := omega) only [↓Option.bind_some, ↓Option.elim_some, ↓Option.elim_none, Option.bind_some, Option.elim_some, Option.elim_none, Option.some.injEq, Sum.inl.injEq, Sum.inr.injEq, ↓reduceIte, m_side, lit_nI, lz_I, nI_add, pk_mul, pk_sub, nI_ge, nI_le, nI_lt, nI_nlt, gi_t, nI_clamp, nI_eq, pk_rem, Nat.zero_add, Nat.reduceAdd, Nat.reduceMul, Nat.reduceSub, Nat.reduceMod, Nat.reduceEqDiff, reduceCtorEq, Nat.one_ne_zero, Nat.zero_ne_one, s_width hd ht, e2 k e]
        · refine ⟨vp_updL d1 (16 * c + k) (fL (0 : Fin P)), ?_, by rw [pk_uLs, if_neg e], fun m hm => pk_uLn hm⟩
          unfold m_made_L114
          simp (disch := omega) only [↓Option.bind_some, ↓Option.elim_some, ↓Option.elim_none, Option.bind_some, Option.elim_some, Option.elim_none, Option.some.injEq, Sum.inl.injEq, Sum.inr.injEq, ↓reduceIte, m_side, lit_nI, lz_I, nI_add, pk_mul, pk_sub, nI_ge, nI_le, nI_lt, nI_nlt, gi_t, nI_clamp, nI_eq, pk_rem, Nat.zero_add, Nat.reduceAdd, Nat.reduceMul, Nat.reduceSub, Nat.reduceMod, Nat.reduceEqDiff, reduceCtorEq, Nat.one_ne_zero, Nat.zero_ne_one, s_width hd ht, lz64 (P := P)]
      · intro d1
        unfold m_made_L114
        simp (disch := omega) only [↓Option.bind_some, ↓Option.elim_some, ↓Option.elim_none, Option.bind_some, Option.elim_some, Option.elim_none, Option.some.injEq, Sum.inl.injEq, Sum.inr.injEq, ↓reduceIte, m_side, lit_nI, lz_I, nI_add, pk_mul, pk_sub, nI_ge, nI_le, nI_lt, nI_nlt, gi_t, nI_clamp, nI_eq, pk_rem, Nat.zero_add, Nat.reduceAdd, Nat.reduceMul, Nat.reduceSub, Nat.reduceMod, Nat.reduceEqDiff, reduceCtorEq, Nat.one_ne_zero, Nat.zero_ne_one]
end MADE
