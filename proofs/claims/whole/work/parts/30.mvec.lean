/-! THE REFERENCE'S ARRAYS as rows of numbers -/
theorem lit_nI (c : Nat) : (OfNat.ofNat c : Int32) = nI (OfNat.ofNat c) := rfl
theorem lz_I : (0 : Int32) = nI 0 := rfl
theorem gi_t {k N : Nat} (h : k < N) (hN : N < 2 ^ 31) : gi (nI k) N ↔ True := ⟨fun _ => trivial, fun _ => gi_nI h hN⟩
section MVEC
variable {P : Nat}
theorem lz64 [NeZero P] : (0 : Int64) = fL (0 : Fin P) := fL_z.symm
theorem lo64 [NeZero P] (hP : 2 < P) : (1 : Int64) = fL (1 : Fin P) := (fL_o hP).symm
theorem lPz [NeZero P] (hP : 2 < P) (hB : P < 2 ^ 31) : ¬ lN P = fL (0 : Fin P) := by
  rw [fL_z]
  exact lP_ne hP hB
/-- the first n cells hold x -/
def vo (d : Nat → Int64) (n : Nat) (x : Nat → Fin P) : Prop := ∀ j, j < n → d j = fL (x j)
theorem vo_congr {d : Nat → Int64} {n : Nat} {x y : Nat → Fin P} (h : vo d n x) (e : ∀ j, j < n → x j = y j) : vo d n y := fun j hj => by rw [h j hj, e j hj]
theorem vo_le {d : Nat → Int64} {n m : Nat} {x : Nat → Fin P} (h : vo d n x) (e : m ≤ n) : vo d m x := fun j hj => h j (by omega)
/-- loops over the cells of one array -/
theorem loopM {f : Int32 × (Nat → Int64) → Option ((Int32 × (Nat → Int64)) ⊕ (Nat → Int64))} {d : Nat → Int64} {s N : Nat} (hs : s ≤ N) (own : Nat → Nat → Prop) (val : Nat → Fin P) (step : ∀ (k : Nat) (d1 : Nat → Int64), s ≤ k → k < N → (∀ m, (∀ i, s ≤ i → i < k → ¬ own i m) → d1 m = d m) → (∀ i m, s ≤ i → i < k → own i m → d1 m = fL (val m)) → ∃ d2, f (nI k, d1) = some (.inl (nI (k + 1), d2)) ∧ (∀ m, own k m → d2 m = fL (val m)) ∧ ∀ m, ¬ own k m → d2 m = d1 m) (stop : ∀ d1 : Nat → Int64, f (nI N, d1) = some (.inr d1)) : ∃ d', itX f (nI s, d) = some d' ∧ (∀ i m, s ≤ i → i < N → own i m → d' m = fL (val m)) ∧ ∀ m, (∀ i, s ≤ i → i < N → ¬ own i m) → d' m = d m := by
  refine it_inv (fun k z => z.1 = nI (s + k) ∧ (∀ i m, s ≤ i → i < s + k → own i m → z.2 m = fL (val m)) ∧ ∀ m, (∀ i, s ≤ i → i < s + k → ¬ own i m) → z.2 m = d m) (N - s) (fun d' : Nat → Int64 => (∀ i m, s ≤ i → i < N → own i m → d' m = fL (val m)) ∧ ∀ m, (∀ i, s ≤ i → i < N → ¬ own i m) → d' m = d m) ?_ ?_ (nI s, d) ⟨rfl, fun i m h1 h2 => by omega, fun m _ => rfl⟩
  · rintro k ⟨k', d1⟩ hk ⟨e1, h1, h2⟩
    dsimp only at e1 h1 h2
    subst e1
    obtain ⟨d2, g1, g2, g3⟩ := step (s + k) d1 (by omega) (by omega) h2 h1
    refine ⟨_, g1, rfl, ?_, ?_⟩
    · intro i m hi1 hi2 ho
      dsimp only
      by_cases e : own (s + k) m
      · exact g2 m e
      · rw [g3 m e]
        by_cases e3 : i = s + k
        · rw [e3] at ho
          exact absurd ho e
        · exact h1 i m hi1 (by omega) ho
    · intro m hm
      dsimp only
      rw [g3 m (hm (s + k) (by omega) (by omega))]
      exact h2 m (fun i a b => hm i a (by omega))
  · rintro ⟨k', d1⟩ ⟨e1, h1, h2⟩
    dsimp only at e1 h1 h2
    subst e1
    rw [show s + (N - s) = N by omega] at h1 h2 ⊢
    exact ⟨d1, stop d1, h1, h2⟩
/-- one cell a step -/
theorem loop1 {f : Int32 × (Nat → Int64) → Option ((Int32 × (Nat → Int64)) ⊕ (Nat → Int64))} {d : Nat → Int64} {N : Nat} (ix : Nat → Nat) (inj : ∀ i j, i < N → j < N → ix i = ix j → i = j) (v : Nat → Fin P) (step : ∀ (k : Nat) (d1 : Nat → Int64), k < N → (∀ m, (∀ i, i < k → m ≠ ix i) → d1 m = d m) → (∀ i, i < k → d1 (ix i) = fL (v i)) → ∃ d2, f (nI k, d1) = some (.inl (nI (k + 1), d2)) ∧ d2 (ix k) = fL (v k) ∧ ∀ m, m ≠ ix k → d2 m = d1 m) (stop : ∀ d1 : Nat → Int64, f (nI N, d1) = some (.inr d1)) : ∃ d', itX f (nI 0, d) = some d' ∧ (∀ i, i < N → d' (ix i) = fL (v i)) ∧ ∀ m, (∀ i, i < N → m ≠ ix i) → d' m = d m := by
  refine it_inv (fun k z => z.1 = nI k ∧ (∀ i, i < k → z.2 (ix i) = fL (v i)) ∧ ∀ m, (∀ i, i < k → m ≠ ix i) → z.2 m = d m) N (fun d' : Nat → Int64 => (∀ i, i < N → d' (ix i) = fL (v i)) ∧ ∀ m, (∀ i, i < N → m ≠ ix i) → d' m = d m) ?_ ?_ (nI 0, d) ⟨rfl, fun i h1 => by omega, fun m _ => rfl⟩
  · rintro k ⟨k', d1⟩ hk ⟨e1, h1, h2⟩
    dsimp only at e1 h1 h2
    subst e1
    obtain ⟨d2, g1, g2, g3⟩ := step k d1 hk h2 h1
    refine ⟨_, g1, rfl, ?_, ?_⟩
    · intro i hi
      dsimp only
      by_cases e : i = k
      · rw [e]
        exact g2
      · rw [g3 _ (fun q => e (inj i k (by omega) hk q))]
        exact h1 i (by omega)
    · intro m hm
      dsimp only
      rw [g3 m (hm k (by omega))]
      exact h2 m (fun i a => hm i (by omega))
  · rintro ⟨k', d1⟩ ⟨e1, h1, h2⟩
    dsimp only at e1 h1 h2
    subst e1
    exact ⟨d1, stop d1, h1, h2⟩
/-- one cell a step, written at once, in order -/
theorem loopP {f : Int32 × (Nat → Int64) → Option ((Int32 × (Nat → Int64)) ⊕ (Nat → Int64))} {d : Nat → Int64} (N : Nat) (v : Nat → Fin P) (step : ∀ (k : Nat) (d1 : Nat → Int64), k < N → (∀ m, k ≤ m → d1 m = d m) → f (nI k, d1) = some (.inl (nI (k + 1), vp_updL d1 k (fL (v k))))) (stop : ∀ d1 : Nat → Int64, f (nI N, d1) = some (.inr d1)) : ∃ d', itX f (nI 0, d) = some d' ∧ vo d' N v ∧ ∀ m, N ≤ m → d' m = d m := by
  have key := loop1 (f := f) (d := d) (N := N) (fun k => k) (fun i j _ _ e => e) v (fun k d1 hk h1 _ => ⟨_, step k d1 hk (fun m hm => h1 m (fun i hi => by omega)), pk_uLs, fun m hm => pk_uLn hm⟩) stop
  obtain ⟨d', h1, h2, h3⟩ := key
  exact ⟨d', h1, h2, fun m hm => h3 m (fun i hi => by omega)⟩
/-- one cell a step of a loop in a loop -/
theorem loop2 {f1 : Int32 × (Nat → Int64) → Option ((Int32 × (Nat → Int64)) ⊕ (Nat → Int64))} {f2 : Nat → Int32 × (Nat → Int64) → Option ((Int32 × (Nat → Int64)) ⊕ (Nat → Int64))} {d : Nat → Int64} (N W : Nat) (ix : Nat → Nat → Nat) (inj : ∀ i j i' j', i < N → j < W → i' < N → j' < W → ix i j = ix i' j' → i = i' ∧ j = j') (v : Nat → Nat → Fin P) (hout : ∀ i d1, i < N → f1 (nI i, d1) = (itX (f2 i) (nI 0, d1)).bind fun r => some (.inl (nI (i + 1), r))) (step : ∀ (i j : Nat) (d1 : Nat → Int64), i < N → j < W → d1 (ix i j) = d (ix i j) → ∃ d2, f2 i (nI j, d1) = some (.inl (nI (j + 1), d2)) ∧ d2 (ix i j) = fL (v i j) ∧ ∀ m, m ≠ ix i j → d2 m = d1 m) (stop2 : ∀ i d1, i < N → f2 i (nI W, d1) = some (.inr d1)) (stop1 : ∀ d1 : Nat → Int64, f1 (nI N, d1) = some (.inr d1)) : ∃ d', itX f1 (nI 0, d) = some d' ∧ (∀ i j, i < N → j < W → d' (ix i j) = fL (v i j)) ∧ ∀ m, (∀ i j, i < N → j < W → m ≠ ix i j) → d' m = d m := by
  refine it_inv (fun k z => z.1 = nI k ∧ (∀ i j, i < k → j < W → z.2 (ix i j) = fL (v i j)) ∧ ∀ m, (∀ i j, i < k → j < W → m ≠ ix i j) → z.2 m = d m) N (fun d' : Nat → Int64 => (∀ i j, i < N → j < W → d' (ix i j) = fL (v i j)) ∧ ∀ m, (∀ i j, i < N → j < W → m ≠ ix i j) → d' m = d m) ?_ ?_ (nI 0, d) ⟨rfl, fun i j h1 => by omega, fun m _ => rfl⟩
  · rintro k ⟨k', d1⟩ hk ⟨e1, h1, h2⟩
    dsimp only at e1 h1 h2
    subst e1
    have key := loop1 (f := f2 k) (d := d1) (N := W) (ix k) (fun i j a b e => (inj k i k j hk a hk b e).2) (v k) ?_ (fun d1 => stop2 k d1 hk)
    · obtain ⟨d2, g1, g2, g3⟩ := key
      refine ⟨(nI (k + 1), d2), by rw [hout k d1 hk, g1, Option.bind_some], rfl, ?_, ?_⟩
      · intro i j hi hj
        dsimp only
        by_cases e : i = k
        · rw [e]
          exact g2 j hj
        · rw [g3 _ (fun j' hj' q => e (inj i j k j' (by omega) hj hk hj' q).1)]
          exact h1 i j (by omega) hj
      · intro m hm
        dsimp only
        rw [g3 m (fun j hj => hm k j (by omega) hj)]
        exact h2 m (fun i j a b => hm i j (by omega) b)
    · intro j d2 hj q1 q2
      have : d2 (ix k j) = d (ix k j) := by
        rw [q1 _ (fun i hi e => by have := (inj k j k i hk hj hk (by omega) e).2; omega)]
        exact h2 _ (fun i j' a b e => by have := (inj k j i j' hk hj (by omega) b e).1; omega)
      exact step k j d2 hk hj this
  · rintro ⟨k', d1⟩ ⟨e1, h1, h2⟩
    dsimp only at e1 h1 h2
    subst e1
    exact ⟨d1, stop1 d1, h1, h2⟩
/-- a cell to which products are added -/
theorem loopA [NeZero P] {f : Int32 × (Nat → Int64) → Option ((Int32 × (Nat → Int64)) ⊕ (Nat → Int64))} {d : Nat → Int64} (N x : Nat) {c : Fin P} (hc : d x = fL c) (v : Nat → Fin P) (step : ∀ (k : Nat) (d1 : Nat → Int64) (a : Fin P), k < N → d1 x = fL a → f (nI k, d1) = some (.inl (nI (k + 1), vp_updL d1 x (fL (a + v k))))) (stop : ∀ d1 : Nat → Int64, f (nI N, d1) = some (.inr d1)) : ∃ d', itX f (nI 0, d) = some d' ∧ d' x = fL (c + sF v N) ∧ ∀ m, m ≠ x → d' m = d m := by
  refine it_inv (fun k z => z.1 = nI k ∧ z.2 x = fL (c + sF v k) ∧ ∀ m, m ≠ x → z.2 m = d m) N (fun d' : Nat → Int64 => d' x = fL (c + sF v N) ∧ ∀ m, m ≠ x → d' m = d m) ?_ ?_ (nI 0, d) ⟨rfl, by dsimp only [sF]; rw [hc]; congr 1; grind, fun m _ => rfl⟩
  · rintro k ⟨k', d1⟩ hk ⟨e1, h1, h2⟩
    dsimp only at e1 h1 h2
    subst e1
    refine ⟨_, step k d1 _ hk h1, rfl, ?_, ?_⟩
    · dsimp only [sF]
      rw [pk_uLs]
      congr 1
      grind
    · intro m hm
      dsimp only
      rw [pk_uLn hm]
      exact h2 m hm
  · rintro ⟨k', d1⟩ ⟨e1, h1, h2⟩
    dsimp only at e1 h1 h2
    subst e1
    exact ⟨d1, stop d1, h1, h2⟩
/-- a sum in a local -/
theorem loopS [NeZero P] {f : Int64 × Int32 → Option ((Int64 × Int32) ⊕ Int64)} (N : Nat) (c : Fin P) (v : Nat → Fin P) (step : ∀ (k : Nat) (a : Fin P), k < N → f (fL a, nI k) = some (.inl (fL (a + v k), nI (k + 1)))) (stop : ∀ a : Fin P, f (fL a, nI N) = some (.inr (fL a))) : itX f (fL c, nI 0) = some (fL (c + sF v N)) := by
  have key := itX_count (f := f) (fun i => (fL (c + sF v i), nI i)) (N := N) (r := fL (c + sF v N)) ?_ (stop _)
  · dsimp only [sF] at key
    rw [show c + 0 = c by grind] at key
    exact key
  · intro i hi
    dsimp only [sF]
    rw [step i _ hi]
    congr 4
    grind
theorem s_clear [NeZero P] (d : Nat → Int64) : ∃ d', m_clear d = some d' ∧ vo d' 16 (fun _ => (0 : Fin P)) := by
  have key := loopP (f := m_clear_L2) (d := d) 16 (fun _ => (0 : Fin P)) ?_ ?_
  · obtain ⟨d', h1, h2, -⟩ := key
    refine ⟨d', ?_, h2⟩
    unfold m_clear
    simp (disch := omega) only [↓Option.bind_some, ↓Option.elim_some, ↓Option.elim_none, Option.bind_some, Option.elim_some, Option.elim_none, Option.some.injEq, Sum.inl.injEq, Sum.inr.injEq, ↓reduceIte, m_side, lit_nI, lz_I, nI_add, pk_mul, pk_sub, nI_ge, nI_le, nI_lt, nI_nlt, gi_t, nI_clamp, nI_eq, pk_rem, Nat.zero_add, Nat.reduceAdd, Nat.reduceMul, Nat.reduceSub, Nat.reduceMod, Nat.reduceEqDiff, reduceCtorEq, Nat.one_ne_zero, Nat.zero_ne_one, h1]
  · intro k d1 hk _
    unfold m_clear_L2
    simp (disch := omega) only [↓Option.bind_some, ↓Option.elim_some, ↓Option.elim_none, Option.bind_some, Option.elim_some, Option.elim_none, Option.some.injEq, Sum.inl.injEq, Sum.inr.injEq, ↓reduceIte, m_side, lit_nI, lz_I, nI_add, pk_mul, pk_sub, nI_ge, nI_le, nI_lt, nI_nlt, gi_t, nI_clamp, nI_eq, pk_rem, Nat.zero_add, Nat.reduceAdd, Nat.reduceMul, Nat.reduceSub, Nat.reduceMod, Nat.reduceEqDiff, reduceCtorEq, Nat.one_ne_zero, Nat.zero_ne_one, lz64 (P := P)]
  · intro d1
    unfold m_clear_L2
    simp (disch := omega) only [↓Option.bind_some, ↓Option.elim_some, ↓Option.elim_none, Option.bind_some, Option.elim_some, Option.elim_none, Option.some.injEq, Sum.inl.injEq, Sum.inr.injEq, ↓reduceIte, m_side, lit_nI, lz_I, nI_add, pk_mul, pk_sub, nI_ge, nI_le, nI_lt, nI_nlt, gi_t, nI_clamp, nI_eq, pk_rem, Nat.zero_add, Nat.reduceAdd, Nat.reduceMul, Nat.reduceSub, Nat.reduceMod, Nat.reduceEqDiff, reduceCtorEq, Nat.one_ne_zero, Nat.zero_ne_one]
/-- the table of rows -/
def rK (cc : Nat) (rows : Nat → Int64) (R : Nat → Nat → Fin P) : Prop := cc ≤ 60 ∧ ∀ a k, a < cc → k < 16 → rows (16 * a + k) = fL (R a k)
theorem s_of {rows : Nat → Int64} {R : Nat → Nat → Fin P} {cc : Nat} (h : rK cc rows R) {a k : Nat} (ha : a < cc) (hk : k < 16) : m_of rows (nI a) (nI k) = some (fL (R a k)) := by
  have h60 := h.1
  unfold m_of
  simp (disch := omega) only [↓Option.bind_some, ↓Option.elim_some, ↓Option.elim_none, Option.bind_some, Option.elim_some, Option.elim_none, Option.some.injEq, Sum.inl.injEq, Sum.inr.injEq, ↓reduceIte, m_side, lit_nI, lz_I, nI_add, pk_mul, pk_sub, nI_ge, nI_le, nI_lt, nI_nlt, gi_t, nI_clamp, nI_eq, pk_rem, Nat.zero_add, Nat.reduceAdd, Nat.reduceMul, Nat.reduceSub, Nat.reduceMod, Nat.reduceEqDiff, reduceCtorEq, Nat.one_ne_zero, Nat.zero_ne_one, h.2 a k ha hk]
theorem s_takeOne {rows one : Nat → Int64} {R : Nat → Nat → Fin P} {cc : Nat} (h : rK cc rows R) {a d : Nat} (ha : a < cc) (hd : d < 8) : ∃ o', m_takeOne (nI d) rows one (nI a) = some o' ∧ vo o' (d + 1) (R a) := by
  have h60 := h.1
  have key := loopP (f := m_takeOne_L2 (nI d) rows (nI a)) (d := one) (d + 1) (R a) ?_ ?_
  · obtain ⟨o', h1, h2, -⟩ := key
    refine ⟨o', ?_, h2⟩
    unfold m_takeOne
    simp (disch := omega) only [↓Option.bind_some, ↓Option.elim_some, ↓Option.elim_none, Option.bind_some, Option.elim_some, Option.elim_none, Option.some.injEq, Sum.inl.injEq, Sum.inr.injEq, ↓reduceIte, m_side, lit_nI, lz_I, nI_add, pk_mul, pk_sub, nI_ge, nI_le, nI_lt, nI_nlt, gi_t, nI_clamp, nI_eq, pk_rem, Nat.zero_add, Nat.reduceAdd, Nat.reduceMul, Nat.reduceSub, Nat.reduceMod, Nat.reduceEqDiff, reduceCtorEq, Nat.one_ne_zero, Nat.zero_ne_one, h1]
  · intro k d1 hk h1
    unfold m_takeOne_L2
    simp (disch := omega) only [↓Option.bind_some, ↓Option.elim_some, ↓Option.elim_none, Option.bind_some, Option.elim_some, Option.elim_none, Option.some.injEq, Sum.inl.injEq, Sum.inr.injEq, ↓reduceIte, m_side, lit_nI, lz_I, nI_add, pk_mul, pk_sub, nI_ge, nI_le, nI_lt, nI_nlt, gi_t, nI_clamp, nI_eq, pk_rem, Nat.zero_add, Nat.reduceAdd, Nat.reduceMul, Nat.reduceSub, Nat.reduceMod, Nat.reduceEqDiff, reduceCtorEq, Nat.one_ne_zero, Nat.zero_ne_one, s_of h]
  · intro d1
    unfold m_takeOne_L2
    simp (disch := omega) only [↓Option.bind_some, ↓Option.elim_some, ↓Option.elim_none, Option.bind_some, Option.elim_some, Option.elim_none, Option.some.injEq, Sum.inl.injEq, Sum.inr.injEq, ↓reduceIte, m_side, lit_nI, lz_I, nI_add, pk_mul, pk_sub, nI_ge, nI_le, nI_lt, nI_nlt, gi_t, nI_clamp, nI_eq, pk_rem, Nat.zero_add, Nat.reduceAdd, Nat.reduceMul, Nat.reduceSub, Nat.reduceMod, Nat.reduceEqDiff, reduceCtorEq, Nat.one_ne_zero, Nat.zero_ne_one]
theorem s_takeTwo {rows one : Nat → Int64} {R : Nat → Nat → Fin P} {cc : Nat} (h : rK cc rows R) {a d : Nat} (ha : a < cc) (hd : d < 8) : ∃ o', m_takeTwo (nI d) rows one (nI a) = some o' ∧ vo o' (d + 1) (R a) := by
  have h60 := h.1
  have key := loopP (f := m_takeTwo_L2 (nI d) rows (nI a)) (d := one) (d + 1) (R a) ?_ ?_
  · obtain ⟨o', h1, h2, -⟩ := key
    refine ⟨o', ?_, h2⟩
    unfold m_takeTwo
    simp (disch := omega) only [↓Option.bind_some, ↓Option.elim_some, ↓Option.elim_none, Option.bind_some, Option.elim_some, Option.elim_none, Option.some.injEq, Sum.inl.injEq, Sum.inr.injEq, ↓reduceIte, m_side, lit_nI, lz_I, nI_add, pk_mul, pk_sub, nI_ge, nI_le, nI_lt, nI_nlt, gi_t, nI_clamp, nI_eq, pk_rem, Nat.zero_add, Nat.reduceAdd, Nat.reduceMul, Nat.reduceSub, Nat.reduceMod, Nat.reduceEqDiff, reduceCtorEq, Nat.one_ne_zero, Nat.zero_ne_one, h1]
  · intro k d1 hk h1
    unfold m_takeTwo_L2
    simp (disch := omega) only [↓Option.bind_some, ↓Option.elim_some, ↓Option.elim_none, Option.bind_some, Option.elim_some, Option.elim_none, Option.some.injEq, Sum.inl.injEq, Sum.inr.injEq, ↓reduceIte, m_side, lit_nI, lz_I, nI_add, pk_mul, pk_sub, nI_ge, nI_le, nI_lt, nI_nlt, gi_t, nI_clamp, nI_eq, pk_rem, Nat.zero_add, Nat.reduceAdd, Nat.reduceMul, Nat.reduceSub, Nat.reduceMod, Nat.reduceEqDiff, reduceCtorEq, Nat.one_ne_zero, Nat.zero_ne_one, s_of h]
  · intro d1
    unfold m_takeTwo_L2
    simp (disch := omega) only [↓Option.bind_some, ↓Option.elim_some, ↓Option.elim_none, Option.bind_some, Option.elim_some, Option.elim_none, Option.some.injEq, Sum.inl.injEq, Sum.inr.injEq, ↓reduceIte, m_side, lit_nI, lz_I, nI_add, pk_mul, pk_sub, nI_ge, nI_le, nI_lt, nI_nlt, gi_t, nI_clamp, nI_eq, pk_rem, Nat.zero_add, Nat.reduceAdd, Nat.reduceMul, Nat.reduceSub, Nat.reduceMod, Nat.reduceEqDiff, reduceCtorEq, Nat.one_ne_zero, Nat.zero_ne_one]
theorem s_lay {rows fr : Nat → Int64} {R : Nat → Nat → Fin P} {cc : Nat} (h : rK cc rows R) {M : Mx P} {a r w : Nat} (hf : fok fr M r w) (ha : a < cc) (hr : r < 16) (hw : w ≤ 16) : ∃ fr', m_lay rows fr (nI r) (nI a) (nI w) = some fr' ∧ fok fr' (fun i j => if i = r then R a j else M i j) (r + 1) w := by
  have h60 := h.1
  have key := loop1 (f := m_lay_L3 rows (nI r) (nI a) (nI w)) (d := fr) (N := w) (fun j => 20 * r + j) (fun i j _ _ e => by omega) (R a) ?_ ?_
  · obtain ⟨o', h1, h2, h3⟩ := key
    refine ⟨o', ?_, ?_⟩
    · unfold m_lay
      simp (disch := omega) only [↓Option.bind_some, ↓Option.elim_some, ↓Option.elim_none, Option.bind_some, Option.elim_some, Option.elim_none, Option.some.injEq, Sum.inl.injEq, Sum.inr.injEq, ↓reduceIte, m_side, lit_nI, lz_I, nI_add, pk_mul, pk_sub, nI_ge, nI_le, nI_lt, nI_nlt, gi_t, nI_clamp, nI_eq, pk_rem, Nat.zero_add, Nat.reduceAdd, Nat.reduceMul, Nat.reduceSub, Nat.reduceMod, Nat.reduceEqDiff, reduceCtorEq, Nat.one_ne_zero, Nat.zero_ne_one, h1]
    · intro i j hi hj
      dsimp only
      by_cases e : i = r
      · rw [if_pos e, e]
        exact h2 j hj
      · rw [if_neg e, h3 _ (fun j' hj' => by omega)]
        exact hf i j (by omega) hj
  · intro k d1 hk _ _
    refine ⟨vp_updL d1 (20 * r + k) (fL (R a k)), ?_, pk_uLs, fun m hm => pk_uLn hm⟩
    unfold m_lay_L3
    simp (disch := omega) only [↓Option.bind_some, ↓Option.elim_some, ↓Option.elim_none, Option.bind_some, Option.elim_some, Option.elim_none, Option.some.injEq, Sum.inl.injEq, Sum.inr.injEq, ↓reduceIte, m_side, lit_nI, lz_I, nI_add, pk_mul, pk_sub, nI_ge, nI_le, nI_lt, nI_nlt, gi_t, nI_clamp, nI_eq, pk_rem, Nat.zero_add, Nat.reduceAdd, Nat.reduceMul, Nat.reduceSub, Nat.reduceMod, Nat.reduceEqDiff, reduceCtorEq, Nat.one_ne_zero, Nat.zero_ne_one, s_of h, s_set d1]
  · intro d1
    unfold m_lay_L3
    simp (disch := omega) only [↓Option.bind_some, ↓Option.elim_some, ↓Option.elim_none, Option.bind_some, Option.elim_some, Option.elim_none, Option.some.injEq, Sum.inl.injEq, Sum.inr.injEq, ↓reduceIte, m_side, lit_nI, lz_I, nI_add, pk_mul, pk_sub, nI_ge, nI_le, nI_lt, nI_nlt, gi_t, nI_clamp, nI_eq, pk_rem, Nat.zero_add, Nat.reduceAdd, Nat.reduceMul, Nat.reduceSub, Nat.reduceMod, Nat.reduceEqDiff, reduceCtorEq, Nat.one_ne_zero, Nat.zero_ne_one]
theorem s_dot [NeZero P] (hP : 2 < P) (hB : P < 2 ^ 31) {rows : Nat → Int64} {R : Nat → Nat → Fin P} {cc : Nat} (h : rK cc rows R) {a b d : Nat} (ha : a < cc) (hb : b < cc) (hd : d < 8) : m_dot (nI d) (lN P) rows (nI a) (nI b) = some (fL (sF (fun k => R a k * R b k) (d + 1))) := by
  have h60 := h.1
  have key := loopS (f := m_dot_L5 (nI d) (lN P) rows (nI a) (nI b)) (d + 1) 0 (fun k => R a k * R b k) ?_ ?_
  · unfold m_dot
    simp (disch := omega) only [↓Option.bind_some, ↓Option.elim_some, ↓Option.elim_none, Option.bind_some, Option.elim_some, Option.elim_none, Option.some.injEq, Sum.inl.injEq, Sum.inr.injEq, ↓reduceIte, m_side, lit_nI, lz_I, nI_add, pk_mul, pk_sub, nI_ge, nI_le, nI_lt, nI_nlt, gi_t, nI_clamp, nI_eq, pk_rem, Nat.zero_add, Nat.reduceAdd, Nat.reduceMul, Nat.reduceSub, Nat.reduceMod, Nat.reduceEqDiff, reduceCtorEq, Nat.one_ne_zero, Nat.zero_ne_one, lz64 (P := P), key]
    congr 1
    grind
  · intro k c hk
    unfold m_dot_L5
    simp (disch := omega) only [↓Option.bind_some, ↓Option.elim_some, ↓Option.elim_none, Option.bind_some, Option.elim_some, Option.elim_none, Option.some.injEq, Sum.inl.injEq, Sum.inr.injEq, ↓reduceIte, m_side, lit_nI, lz_I, nI_add, pk_mul, pk_sub, nI_ge, nI_le, nI_lt, nI_nlt, gi_t, nI_clamp, nI_eq, pk_rem, Nat.zero_add, Nat.reduceAdd, Nat.reduceMul, Nat.reduceSub, Nat.reduceMod, Nat.reduceEqDiff, reduceCtorEq, Nat.one_ne_zero, Nat.zero_ne_one, s_of h, s_times hP hB, s_less hP hB, s_over hP hB, n_plus hP hB, lz64 (P := P), lo64 (P := P) hP, lPz hP hB]
  · intro c
    unfold m_dot_L5
    simp (disch := omega) only [↓Option.bind_some, ↓Option.elim_some, ↓Option.elim_none, Option.bind_some, Option.elim_some, Option.elim_none, Option.some.injEq, Sum.inl.injEq, Sum.inr.injEq, ↓reduceIte, m_side, lit_nI, lz_I, nI_add, pk_mul, pk_sub, nI_ge, nI_le, nI_lt, nI_nlt, gi_t, nI_clamp, nI_eq, pk_rem, Nat.zero_add, Nat.reduceAdd, Nat.reduceMul, Nat.reduceSub, Nat.reduceMod, Nat.reduceEqDiff, reduceCtorEq, Nat.one_ne_zero, Nat.zero_ne_one]
theorem s_isCrossed [NeZero P] (hP : 2 < P) (hB : P < 2 ^ 31) {rows : Nat → Int64} {R : Nat → Nat → Fin P} {cc : Nat} (h : rK cc rows R) {a b : Nat} (ha : a < cc) (hb : b < cc) : m_isCrossed (lN P) rows (nI a) (nI b) = some (if R a 0 * R b 5 - R a 1 * R b 4 + R a 2 * R b 3 + R a 3 * R b 2 - R a 4 * R b 1 + R a 5 * R b 0 = 0 then 1 else 0) := by
  have h60 := h.1
  have key := loopS (f := m_isCrossed_L5 (lN P) rows (nI a) (nI b)) 6 0 (fun k => if k = 1 ∨ k = 4 then - (R a k * R b (5 - k)) else R a k * R b (5 - k)) ?_ ?_
  · unfold m_isCrossed
    simp (disch := omega) only [↓Option.bind_some, ↓Option.elim_some, ↓Option.elim_none, Option.bind_some, Option.elim_some, Option.elim_none, Option.some.injEq, Sum.inl.injEq, Sum.inr.injEq, ↓reduceIte, m_side, lit_nI, lz_I, nI_add, pk_mul, pk_sub, nI_ge, nI_le, nI_lt, nI_nlt, gi_t, nI_clamp, nI_eq, pk_rem, Nat.zero_add, Nat.reduceAdd, Nat.reduceMul, Nat.reduceSub, Nat.reduceMod, Nat.reduceEqDiff, reduceCtorEq, Nat.one_ne_zero, Nat.zero_ne_one, lz64 (P := P), key, fL_eq hB]
    rw [show (0 : Fin P) + sF (fun k => if k = 1 ∨ k = 4 then - (R a k * R b (5 - k)) else R a k * R b (5 - k)) 6 = R a 0 * R b 5 - R a 1 * R b 4 + R a 2 * R b 3 + R a 3 * R b 2 - R a 4 * R b 1 + R a 5 * R b 0 by simp [sF]; grind]
    by_cases e : R a 0 * R b 5 - R a 1 * R b 4 + R a 2 * R b 3 + R a 3 * R b 2 - R a 4 * R b 1 + R a 5 * R b 0 = 0
    · rw [if_pos e, if_pos e]
    · rw [if_neg e, if_neg e]
  · intro k c hk
    unfold m_isCrossed_L5 m_isCrossed_L5J46
    have q1 : ¬ nI k = nI 1 ∨ k = 1 := by
      by_cases e : k = 1
      · exact Or.inr e
      · exact Or.inl (by rw [nI_eq (by omega) (by omega)]; exact e)
    have q4 : ¬ nI k = nI 4 ∨ k = 4 := by
      by_cases e : k = 4
      · exact Or.inr e
      · exact Or.inl (by rw [nI_eq (by omega) (by omega)]; exact e)
    by_cases e1 : k = 1
    · subst e1
      simp (disch := omega) only [↓Option.bind_some, ↓Option.elim_some, ↓Option.elim_none, Option.bind_some, Option.elim_some, Option.elim_none, Option.some.injEq, Sum.inl.injEq, Sum.inr.injEq, ↓reduceIte, m_side, lit_nI, lz_I, nI_add, pk_mul, pk_sub, nI_ge, nI_le, nI_lt, nI_nlt, gi_t, nI_clamp, nI_eq, pk_rem, Nat.zero_add, Nat.reduceAdd, Nat.reduceMul, Nat.reduceSub, Nat.reduceMod, Nat.reduceEqDiff, reduceCtorEq, Nat.one_ne_zero, Nat.zero_ne_one, s_of h, s_times hP hB, s_less hP hB, s_over hP hB, n_plus hP hB, lz64 (P := P), lo64 (P := P) hP, lPz hP hB]
      congr 3
      grind
    · by_cases e4 : k = 4
      · subst e4
        have : ¬ nI 4 = nI 1 := by decide
        simp (disch := omega) only [↓Option.bind_some, ↓Option.elim_some, ↓Option.elim_none, Option.bind_some, Option.elim_some, Option.elim_none, Option.some.injEq, Sum.inl.injEq, Sum.inr.injEq, ↓reduceIte, m_side, lit_nI, lz_I, nI_add, pk_mul, pk_sub, nI_ge, nI_le, nI_lt, nI_nlt, gi_t, nI_clamp, nI_eq, pk_rem, Nat.zero_add, Nat.reduceAdd, Nat.reduceMul, Nat.reduceSub, Nat.reduceMod, Nat.reduceEqDiff, reduceCtorEq, Nat.one_ne_zero, Nat.zero_ne_one, s_of h, this, s_times hP hB, s_less hP hB, s_over hP hB, n_plus hP hB, lz64 (P := P), lo64 (P := P) hP, lPz hP hB]
        simp
        congr 3
        grind
      · simp (disch := omega) only [↓Option.bind_some, ↓Option.elim_some, ↓Option.elim_none, Option.bind_some, Option.elim_some, Option.elim_none, Option.some.injEq, Sum.inl.injEq, Sum.inr.injEq, ↓reduceIte, m_side, lit_nI, lz_I, nI_add, pk_mul, pk_sub, nI_ge, nI_le, nI_lt, nI_nlt, gi_t, nI_clamp, nI_eq, pk_rem, Nat.zero_add, Nat.reduceAdd, Nat.reduceMul, Nat.reduceSub, Nat.reduceMod, Nat.reduceEqDiff, reduceCtorEq, Nat.one_ne_zero, Nat.zero_ne_one, s_of h, nI_eq, e1, e4, s_times hP hB, s_less hP hB, s_over hP hB, n_plus hP hB, lz64 (P := P), lo64 (P := P) hP, lPz hP hB]
        simp [e1, e4]
  · intro c
    unfold m_isCrossed_L5
    simp (disch := omega) only [↓Option.bind_some, ↓Option.elim_some, ↓Option.elim_none, Option.bind_some, Option.elim_some, Option.elim_none, Option.some.injEq, Sum.inl.injEq, Sum.inr.injEq, ↓reduceIte, m_side, lit_nI, lz_I, nI_add, pk_mul, pk_sub, nI_ge, nI_le, nI_lt, nI_nlt, gi_t, nI_clamp, nI_eq, pk_rem, Nat.zero_add, Nat.reduceAdd, Nat.reduceMul, Nat.reduceSub, Nat.reduceMod, Nat.reduceEqDiff, reduceCtorEq, Nat.one_ne_zero, Nat.zero_ne_one]
end MVEC
